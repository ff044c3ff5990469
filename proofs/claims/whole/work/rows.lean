section
-- ===== PART A: goes FIRST, ahead of the names: the tables' words, and 'selects' of the private methods out of them =====
/-- a private method of a class that the tables say can be made, by its rows of tables_1 -/
def lw_okq (q : MethodName × Nat) : Prop := (q.1.cls ≠ "java/lang/invoke/MethodHandle" ∧ q.1.cls ≠ "java/lang/invoke/VarHandle") ∧ Cond.instantiable q.1.cls q.2 ∈ tables_1 ∧ Cond.privateMethod q.1 ∈ tables_1 ∧ Cond.instanceMethod q.1 ∈ tables_1
theorem lw_p0 : lw_okq (⟨"HundredBoxes$Tables", "fillFactorials", "()V"⟩, 5) := ⟨⟨by decide +kernel, by decide +kernel⟩, List.mem_of_getElem? (i := 57) (by decide +kernel), List.mem_of_getElem? (i := 68) (by decide +kernel), List.mem_of_getElem? (i := 69) (by decide +kernel)⟩
theorem lw_p1 : lw_okq (⟨"HundredBoxes$Tables", "fillDeranged", "()V"⟩, 5) := ⟨⟨by decide +kernel, by decide +kernel⟩, List.mem_of_getElem? (i := 57) (by decide +kernel), List.mem_of_getElem? (i := 72) (by decide +kernel), List.mem_of_getElem? (i := 73) (by decide +kernel)⟩
theorem lw_p2 : lw_okq (⟨"HundredBoxes$Tables", "fillRecords", "()V"⟩, 5) := ⟨⟨by decide +kernel, by decide +kernel⟩, List.mem_of_getElem? (i := 57) (by decide +kernel), List.mem_of_getElem? (i := 76) (by decide +kernel), List.mem_of_getElem? (i := 77) (by decide +kernel)⟩
theorem lw_p3 : lw_okq (⟨"HundredBoxes$Tables", "fillRoundsUpTo", "()V"⟩, 5) := ⟨⟨by decide +kernel, by decide +kernel⟩, List.mem_of_getElem? (i := 57) (by decide +kernel), List.mem_of_getElem? (i := 80) (by decide +kernel), List.mem_of_getElem? (i := 81) (by decide +kernel)⟩
theorem lw_p4 : lw_okq (⟨"HundredBoxes$Tables", "sumByRoundOfLast", "(II)J"⟩, 5) := ⟨⟨by decide +kernel, by decide +kernel⟩, List.mem_of_getElem? (i := 57) (by decide +kernel), List.mem_of_getElem? (i := 84) (by decide +kernel), List.mem_of_getElem? (i := 85) (by decide +kernel)⟩
theorem lw_p5 : lw_okq (⟨"HundredBoxes$Tables", "fillRises", "()V"⟩, 5) := ⟨⟨by decide +kernel, by decide +kernel⟩, List.mem_of_getElem? (i := 57) (by decide +kernel), List.mem_of_getElem? (i := 88) (by decide +kernel), List.mem_of_getElem? (i := 89) (by decide +kernel)⟩
theorem lw_p6 : lw_okq (⟨"HundredBoxes$Tables", "fillRisesByBelow", "(II)V"⟩, 5) := ⟨⟨by decide +kernel, by decide +kernel⟩, List.mem_of_getElem? (i := 57) (by decide +kernel), List.mem_of_getElem? (i := 92) (by decide +kernel), List.mem_of_getElem? (i := 93) (by decide +kernel)⟩
theorem lw_p7 : lw_okq (⟨"HundredBoxes", "startWith", "(I)V"⟩, 8) := ⟨⟨by decide +kernel, by decide +kernel⟩, List.mem_of_getElem? (i := 12) (by decide +kernel), List.mem_of_getElem? (i := 153) (by decide +kernel), List.mem_of_getElem? (i := 154) (by decide +kernel)⟩
theorem lw_p8 : lw_okq (⟨"HundredBoxes", "isThing", "(I)Z"⟩, 8) := ⟨⟨by decide +kernel, by decide +kernel⟩, List.mem_of_getElem? (i := 12) (by decide +kernel), List.mem_of_getElem? (i := 219) (by decide +kernel), List.mem_of_getElem? (i := 220) (by decide +kernel)⟩
theorem lw_p9 : lw_okq (⟨"HundredBoxes", "tallyOf", "(I)LHundredBoxes$Tally;"⟩, 8) := ⟨⟨by decide +kernel, by decide +kernel⟩, List.mem_of_getElem? (i := 12) (by decide +kernel), List.mem_of_getElem? (i := 338) (by decide +kernel), List.mem_of_getElem? (i := 339) (by decide +kernel)⟩
theorem lw_p10 : lw_okq (⟨"HundredBoxes$Tally", "fillPairsOut", "()V"⟩, 3) := ⟨⟨by decide +kernel, by decide +kernel⟩, List.mem_of_getElem? (i := 341) (by decide +kernel), List.mem_of_getElem? (i := 351) (by decide +kernel), List.mem_of_getElem? (i := 352) (by decide +kernel)⟩
theorem lw_p11 : lw_okq (⟨"HundredBoxes$Tally", "fillByPartitions", "(I)V"⟩, 3) := ⟨⟨by decide +kernel, by decide +kernel⟩, List.mem_of_getElem? (i := 341) (by decide +kernel), List.mem_of_getElem? (i := 355) (by decide +kernel), List.mem_of_getElem? (i := 356) (by decide +kernel)⟩
theorem lw_p12 : lw_okq (⟨"HundredBoxes$Tally", "addOrders", "(IJ)V"⟩, 3) := ⟨⟨by decide +kernel, by decide +kernel⟩, List.mem_of_getElem? (i := 341) (by decide +kernel), List.mem_of_getElem? (i := 385) (by decide +kernel), List.mem_of_getElem? (i := 386) (by decide +kernel)⟩
theorem lw_p13 : lw_okq (⟨"HundredBoxes$Tally", "fillByTables", "(I)V"⟩, 3) := ⟨⟨by decide +kernel, by decide +kernel⟩, List.mem_of_getElem? (i := 341) (by decide +kernel), List.mem_of_getElem? (i := 403) (by decide +kernel), List.mem_of_getElem? (i := 404) (by decide +kernel)⟩
theorem lw_p14 : lw_okq (⟨"HundredBoxes$Tally", "fromTables", "(II)J"⟩, 3) := ⟨⟨by decide +kernel, by decide +kernel⟩, List.mem_of_getElem? (i := 341) (by decide +kernel), List.mem_of_getElem? (i := 407) (by decide +kernel), List.mem_of_getElem? (i := 408) (by decide +kernel)⟩
theorem lw_p15 : lw_okq (⟨"HundredBoxes$Walk", "ways", "(IIII)J"⟩, 8) := ⟨⟨by decide +kernel, by decide +kernel⟩, List.mem_of_getElem? (i := 119) (by decide +kernel), List.mem_of_getElem? (i := 465) (by decide +kernel), List.mem_of_getElem? (i := 466) (by decide +kernel)⟩
def lw_privs_1 : List (MethodName × Nat) := [(⟨"HundredBoxes$Tables", "fillFactorials", "()V"⟩, 5), (⟨"HundredBoxes$Tables", "fillDeranged", "()V"⟩, 5), (⟨"HundredBoxes$Tables", "fillRecords", "()V"⟩, 5), (⟨"HundredBoxes$Tables", "fillRoundsUpTo", "()V"⟩, 5), (⟨"HundredBoxes$Tables", "sumByRoundOfLast", "(II)J"⟩, 5), (⟨"HundredBoxes$Tables", "fillRises", "()V"⟩, 5), (⟨"HundredBoxes$Tables", "fillRisesByBelow", "(II)V"⟩, 5), (⟨"HundredBoxes", "startWith", "(I)V"⟩, 8), (⟨"HundredBoxes", "isThing", "(I)Z"⟩, 8), (⟨"HundredBoxes", "tallyOf", "(I)LHundredBoxes$Tally;"⟩, 8), (⟨"HundredBoxes$Tally", "fillPairsOut", "()V"⟩, 3), (⟨"HundredBoxes$Tally", "fillByPartitions", "(I)V"⟩, 3), (⟨"HundredBoxes$Tally", "addOrders", "(IJ)V"⟩, 3), (⟨"HundredBoxes$Tally", "fillByTables", "(I)V"⟩, 3), (⟨"HundredBoxes$Tally", "fromTables", "(II)J"⟩, 3), (⟨"HundredBoxes$Walk", "ways", "(IIII)J"⟩, 8)]
theorem lw_r1 : ∀ q ∈ lw_privs_1, lw_okq q := List.forall_mem_cons.mpr ⟨lw_p0, List.forall_mem_cons.mpr ⟨lw_p1, List.forall_mem_cons.mpr ⟨lw_p2, List.forall_mem_cons.mpr ⟨lw_p3, List.forall_mem_cons.mpr ⟨lw_p4, List.forall_mem_cons.mpr ⟨lw_p5, List.forall_mem_cons.mpr ⟨lw_p6, List.forall_mem_cons.mpr ⟨lw_p7, List.forall_mem_cons.mpr ⟨lw_p8, List.forall_mem_cons.mpr ⟨lw_p9, List.forall_mem_cons.mpr ⟨lw_p10, List.forall_mem_cons.mpr ⟨lw_p11, List.forall_mem_cons.mpr ⟨lw_p12, List.forall_mem_cons.mpr ⟨lw_p13, List.forall_mem_cons.mpr ⟨lw_p14, List.forall_mem_cons.mpr ⟨lw_p15, fun _ h => absurd h List.not_mem_nil⟩⟩⟩⟩⟩⟩⟩⟩⟩⟩⟩⟩⟩⟩⟩⟩
theorem lw_p16 : lw_okq (⟨"HundredBoxes$Walk", "waysWith", "(II)J"⟩, 8) := ⟨⟨by decide +kernel, by decide +kernel⟩, List.mem_of_getElem? (i := 119) (by decide +kernel), List.mem_of_getElem? (i := 476) (by decide +kernel), List.mem_of_getElem? (i := 477) (by decide +kernel)⟩
theorem lw_p17 : lw_okq (⟨"HundredBoxes$Walk", "wantedAfter", "(I)I"⟩, 8) := ⟨⟨by decide +kernel, by decide +kernel⟩, List.mem_of_getElem? (i := 119) (by decide +kernel), List.mem_of_getElem? (i := 481) (by decide +kernel), List.mem_of_getElem? (i := 482) (by decide +kernel)⟩
theorem lw_p18 : lw_okq (⟨"HundredBoxes$Walk", "step", "(I)V"⟩, 8) := ⟨⟨by decide +kernel, by decide +kernel⟩, List.mem_of_getElem? (i := 119) (by decide +kernel), List.mem_of_getElem? (i := 486) (by decide +kernel), List.mem_of_getElem? (i := 487) (by decide +kernel)⟩
theorem lw_p19 : lw_okq (⟨"HundredBoxesModel", "begin", "()V"⟩, 16) := ⟨⟨by decide +kernel, by decide +kernel⟩, List.mem_of_getElem? (i := 591) (by decide +kernel), List.mem_of_getElem? (i := 597) (by decide +kernel), List.mem_of_getElem? (i := 598) (by decide +kernel)⟩
theorem lw_p20 : lw_okq (⟨"HundredBoxesModel", "become", "()V"⟩, 16) := ⟨⟨by decide +kernel, by decide +kernel⟩, List.mem_of_getElem? (i := 591) (by decide +kernel), List.mem_of_getElem? (i := 662) (by decide +kernel), List.mem_of_getElem? (i := 663) (by decide +kernel)⟩
theorem lw_p21 : lw_okq (⟨"HundredBoxesModel", "isThing", "(I)Z"⟩, 16) := ⟨⟨by decide +kernel, by decide +kernel⟩, List.mem_of_getElem? (i := 591) (by decide +kernel), List.mem_of_getElem? (i := 670) (by decide +kernel), List.mem_of_getElem? (i := 671) (by decide +kernel)⟩
theorem lw_p22 : lw_okq (⟨"HundredBoxesModel", "numberOf", "(I)I"⟩, 16) := ⟨⟨by decide +kernel, by decide +kernel⟩, List.mem_of_getElem? (i := 591) (by decide +kernel), List.mem_of_getElem? (i := 700) (by decide +kernel), List.mem_of_getElem? (i := 701) (by decide +kernel)⟩
theorem lw_p23 : lw_okq (⟨"HundredBoxesModel", "roundOf", "(I)I"⟩, 16) := ⟨⟨by decide +kernel, by decide +kernel⟩, List.mem_of_getElem? (i := 591) (by decide +kernel), List.mem_of_getElem? (i := 704) (by decide +kernel), List.mem_of_getElem? (i := 705) (by decide +kernel)⟩
theorem lw_p24 : lw_okq (⟨"HundredBoxesModel", "isFirst", "(I)Z"⟩, 16) := ⟨⟨by decide +kernel, by decide +kernel⟩, List.mem_of_getElem? (i := 591) (by decide +kernel), List.mem_of_getElem? (i := 711) (by decide +kernel), List.mem_of_getElem? (i := 712) (by decide +kernel)⟩
theorem lw_p25 : lw_okq (⟨"HundredBoxesModel", "isRecord", "(I)Z"⟩, 16) := ⟨⟨by decide +kernel, by decide +kernel⟩, List.mem_of_getElem? (i := 591) (by decide +kernel), List.mem_of_getElem? (i := 715) (by decide +kernel), List.mem_of_getElem? (i := 716) (by decide +kernel)⟩
theorem lw_p26 : lw_okq (⟨"HundredBoxesModel", "out", "()I"⟩, 16) := ⟨⟨by decide +kernel, by decide +kernel⟩, List.mem_of_getElem? (i := 591) (by decide +kernel), List.mem_of_getElem? (i := 719) (by decide +kernel), List.mem_of_getElem? (i := 720) (by decide +kernel)⟩
theorem lw_p27 : lw_okq (⟨"HundredBoxesModel", "longestRise", "()I"⟩, 16) := ⟨⟨by decide +kernel, by decide +kernel⟩, List.mem_of_getElem? (i := 591) (by decide +kernel), List.mem_of_getElem? (i := 723) (by decide +kernel), List.mem_of_getElem? (i := 724) (by decide +kernel)⟩
theorem lw_p28 : lw_okq (⟨"HundredBoxesModel", "findCounts", "(I)V"⟩, 16) := ⟨⟨by decide +kernel, by decide +kernel⟩, List.mem_of_getElem? (i := 591) (by decide +kernel), List.mem_of_getElem? (i := 732) (by decide +kernel), List.mem_of_getElem? (i := 733) (by decide +kernel)⟩
theorem lw_p29 : lw_okq (⟨"HundredBoxesModel", "layProducts", "()V"⟩, 16) := ⟨⟨by decide +kernel, by decide +kernel⟩, List.mem_of_getElem? (i := 591) (by decide +kernel), List.mem_of_getElem? (i := 736) (by decide +kernel), List.mem_of_getElem? (i := 737) (by decide +kernel)⟩
theorem lw_p30 : lw_okq (⟨"HundredBoxesModel", "countByThings", "(I)V"⟩, 16) := ⟨⟨by decide +kernel, by decide +kernel⟩, List.mem_of_getElem? (i := 591) (by decide +kernel), List.mem_of_getElem? (i := 740) (by decide +kernel), List.mem_of_getElem? (i := 741) (by decide +kernel)⟩
theorem lw_p31 : lw_okq (⟨"HundredBoxesModel", "step", "()V"⟩, 16) := ⟨⟨by decide +kernel, by decide +kernel⟩, List.mem_of_getElem? (i := 591) (by decide +kernel), List.mem_of_getElem? (i := 744) (by decide +kernel), List.mem_of_getElem? (i := 745) (by decide +kernel)⟩
def lw_privs_2 : List (MethodName × Nat) := [(⟨"HundredBoxes$Walk", "waysWith", "(II)J"⟩, 8), (⟨"HundredBoxes$Walk", "wantedAfter", "(I)I"⟩, 8), (⟨"HundredBoxes$Walk", "step", "(I)V"⟩, 8), (⟨"HundredBoxesModel", "begin", "()V"⟩, 16), (⟨"HundredBoxesModel", "become", "()V"⟩, 16), (⟨"HundredBoxesModel", "isThing", "(I)Z"⟩, 16), (⟨"HundredBoxesModel", "numberOf", "(I)I"⟩, 16), (⟨"HundredBoxesModel", "roundOf", "(I)I"⟩, 16), (⟨"HundredBoxesModel", "isFirst", "(I)Z"⟩, 16), (⟨"HundredBoxesModel", "isRecord", "(I)Z"⟩, 16), (⟨"HundredBoxesModel", "out", "()I"⟩, 16), (⟨"HundredBoxesModel", "longestRise", "()I"⟩, 16), (⟨"HundredBoxesModel", "findCounts", "(I)V"⟩, 16), (⟨"HundredBoxesModel", "layProducts", "()V"⟩, 16), (⟨"HundredBoxesModel", "countByThings", "(I)V"⟩, 16), (⟨"HundredBoxesModel", "step", "()V"⟩, 16)]
theorem lw_r2 : ∀ q ∈ lw_privs_2, lw_okq q := List.forall_mem_cons.mpr ⟨lw_p16, List.forall_mem_cons.mpr ⟨lw_p17, List.forall_mem_cons.mpr ⟨lw_p18, List.forall_mem_cons.mpr ⟨lw_p19, List.forall_mem_cons.mpr ⟨lw_p20, List.forall_mem_cons.mpr ⟨lw_p21, List.forall_mem_cons.mpr ⟨lw_p22, List.forall_mem_cons.mpr ⟨lw_p23, List.forall_mem_cons.mpr ⟨lw_p24, List.forall_mem_cons.mpr ⟨lw_p25, List.forall_mem_cons.mpr ⟨lw_p26, List.forall_mem_cons.mpr ⟨lw_p27, List.forall_mem_cons.mpr ⟨lw_p28, List.forall_mem_cons.mpr ⟨lw_p29, List.forall_mem_cons.mpr ⟨lw_p30, List.forall_mem_cons.mpr ⟨lw_p31, fun _ h => absurd h List.not_mem_nil⟩⟩⟩⟩⟩⟩⟩⟩⟩⟩⟩⟩⟩⟩⟩⟩
theorem lw_p32 : lw_okq (⟨"HundredBoxesModel", "countByShapes", "(I)V"⟩, 16) := ⟨⟨by decide +kernel, by decide +kernel⟩, List.mem_of_getElem? (i := 591) (by decide +kernel), List.mem_of_getElem? (i := 748) (by decide +kernel), List.mem_of_getElem? (i := 749) (by decide +kernel)⟩
theorem lw_p33 : lw_okq (⟨"HundredBoxesModel", "shapeNumber", "(I)I"⟩, 16) := ⟨⟨by decide +kernel, by decide +kernel⟩, List.mem_of_getElem? (i := 591) (by decide +kernel), List.mem_of_getElem? (i := 752) (by decide +kernel), List.mem_of_getElem? (i := 753) (by decide +kernel)⟩
theorem lw_p34 : lw_okq (⟨"HundredBoxesModel", "byFillings", "()J"⟩, 16) := ⟨⟨by decide +kernel, by decide +kernel⟩, List.mem_of_getElem? (i := 591) (by decide +kernel), List.mem_of_getElem? (i := 756) (by decide +kernel), List.mem_of_getElem? (i := 757) (by decide +kernel)⟩
theorem lw_p35 : lw_okq (⟨"HundredBoxesModel", "byRounds", "()J"⟩, 16) := ⟨⟨by decide +kernel, by decide +kernel⟩, List.mem_of_getElem? (i := 591) (by decide +kernel), List.mem_of_getElem? (i := 760) (by decide +kernel), List.mem_of_getElem? (i := 761) (by decide +kernel)⟩
theorem lw_p36 : lw_okq (⟨"HundredBoxesModel", "nextShape", "()Z"⟩, 16) := ⟨⟨by decide +kernel, by decide +kernel⟩, List.mem_of_getElem? (i := 591) (by decide +kernel), List.mem_of_getElem? (i := 764) (by decide +kernel), List.mem_of_getElem? (i := 765) (by decide +kernel)⟩
theorem lw_p37 : lw_okq (⟨"HundredBoxesModel", "beginRow", "(II)V"⟩, 16) := ⟨⟨by decide +kernel, by decide +kernel⟩, List.mem_of_getElem? (i := 591) (by decide +kernel), List.mem_of_getElem? (i := 780) (by decide +kernel), List.mem_of_getElem? (i := 781) (by decide +kernel)⟩
theorem lw_p38 : lw_okq (⟨"HundredBoxesModel", "layWays", "(I)V"⟩, 16) := ⟨⟨by decide +kernel, by decide +kernel⟩, List.mem_of_getElem? (i := 591) (by decide +kernel), List.mem_of_getElem? (i := 784) (by decide +kernel), List.mem_of_getElem? (i := 785) (by decide +kernel)⟩
theorem lw_p39 : lw_okq (⟨"HundredBoxesModel", "waysBy", "(IIIII)J"⟩, 16) := ⟨⟨by decide +kernel, by decide +kernel⟩, List.mem_of_getElem? (i := 591) (by decide +kernel), List.mem_of_getElem? (i := 788) (by decide +kernel), List.mem_of_getElem? (i := 789) (by decide +kernel)⟩
theorem lw_p40 : lw_okq (⟨"HundredBoxesModel", "waysAt", "(III)J"⟩, 16) := ⟨⟨by decide +kernel, by decide +kernel⟩, List.mem_of_getElem? (i := 591) (by decide +kernel), List.mem_of_getElem? (i := 795) (by decide +kernel), List.mem_of_getElem? (i := 796) (by decide +kernel)⟩
theorem lw_p41 : lw_okq (⟨"HundredBoxesModel", "put", "(III)V"⟩, 16) := ⟨⟨by decide +kernel, by decide +kernel⟩, List.mem_of_getElem? (i := 591) (by decide +kernel), List.mem_of_getElem? (i := 799) (by decide +kernel), List.mem_of_getElem? (i := 800) (by decide +kernel)⟩
theorem lw_p42 : lw_okq (⟨"HundredBoxesModel", "isGreatest", "(I)Z"⟩, 16) := ⟨⟨by decide +kernel, by decide +kernel⟩, List.mem_of_getElem? (i := 591) (by decide +kernel), List.mem_of_getElem? (i := 815) (by decide +kernel), List.mem_of_getElem? (i := 816) (by decide +kernel)⟩
theorem lw_p43 : lw_okq (⟨"HundredBoxesModel", "winsBy", "([II)Z"⟩, 16) := ⟨⟨by decide +kernel, by decide +kernel⟩, List.mem_of_getElem? (i := 591) (by decide +kernel), List.mem_of_getElem? (i := 835) (by decide +kernel), List.mem_of_getElem? (i := 836) (by decide +kernel)⟩
theorem lw_p44 : lw_okq (⟨"HundredBoxesModel", "layRow", "(I)V"⟩, 16) := ⟨⟨by decide +kernel, by decide +kernel⟩, List.mem_of_getElem? (i := 591) (by decide +kernel), List.mem_of_getElem? (i := 844) (by decide +kernel), List.mem_of_getElem? (i := 845) (by decide +kernel)⟩
def lw_privs_3 : List (MethodName × Nat) := [(⟨"HundredBoxesModel", "countByShapes", "(I)V"⟩, 16), (⟨"HundredBoxesModel", "shapeNumber", "(I)I"⟩, 16), (⟨"HundredBoxesModel", "byFillings", "()J"⟩, 16), (⟨"HundredBoxesModel", "byRounds", "()J"⟩, 16), (⟨"HundredBoxesModel", "nextShape", "()Z"⟩, 16), (⟨"HundredBoxesModel", "beginRow", "(II)V"⟩, 16), (⟨"HundredBoxesModel", "layWays", "(I)V"⟩, 16), (⟨"HundredBoxesModel", "waysBy", "(IIIII)J"⟩, 16), (⟨"HundredBoxesModel", "waysAt", "(III)J"⟩, 16), (⟨"HundredBoxesModel", "put", "(III)V"⟩, 16), (⟨"HundredBoxesModel", "isGreatest", "(I)Z"⟩, 16), (⟨"HundredBoxesModel", "winsBy", "([II)Z"⟩, 16), (⟨"HundredBoxesModel", "layRow", "(I)V"⟩, 16)]
theorem lw_r3 : ∀ q ∈ lw_privs_3, lw_okq q := List.forall_mem_cons.mpr ⟨lw_p32, List.forall_mem_cons.mpr ⟨lw_p33, List.forall_mem_cons.mpr ⟨lw_p34, List.forall_mem_cons.mpr ⟨lw_p35, List.forall_mem_cons.mpr ⟨lw_p36, List.forall_mem_cons.mpr ⟨lw_p37, List.forall_mem_cons.mpr ⟨lw_p38, List.forall_mem_cons.mpr ⟨lw_p39, List.forall_mem_cons.mpr ⟨lw_p40, List.forall_mem_cons.mpr ⟨lw_p41, List.forall_mem_cons.mpr ⟨lw_p42, List.forall_mem_cons.mpr ⟨lw_p43, List.forall_mem_cons.mpr ⟨lw_p44, fun _ h => absurd h List.not_mem_nil⟩⟩⟩⟩⟩⟩⟩⟩⟩⟩⟩⟩⟩
def lw_privs : List (MethodName × Nat) := lw_privs_1 ++ (lw_privs_2 ++ (lw_privs_3))
def lw_tbl : List Cond := k2_sels lw_privs ++ tables_1
theorem lw_privs_ok : ∀ q ∈ lw_privs, lw_okq q := by
  show ∀ q ∈ lw_privs_1 ++ (lw_privs_2 ++ (lw_privs_3)), lw_okq q
  exact List.forall_mem_append.mpr ⟨lw_r1, List.forall_mem_append.mpr ⟨lw_r2, lw_r3⟩⟩
end
section
def RX0 : String := "HundredBoxes$Lists"
def TX0 : u_T := fun k => match k with
  | 0 => ("HundredBoxes$Lists", "boxes", "[[I", true)
  | 1 => ("HundredBoxes$Lists", "lengths", "[I", true)
  | _ => ("HundredBoxes$Lists", "ways", "[J", true)
def tyX0 : Nat → FieldType := fun k => match k with
  | 0 => .array (.array .int)
  | 1 => .array .int
  | _ => .array .long
theorem nmX0 : ∀ a, a < 3 → ∀ b, b < 3 → a ≠ b → (TX0 a).2.1 ≠ (TX0 b).2.1 := by decide +kernel
theorem tyX0_ok : ∀ k, k < 3 → parseFieldDescriptor (TX0 k).2.2.1 = some (tyX0 k) := by decide +kernel
abbrev cX0_init : ByteArray := prog_2_method_1_code
def yX0_init : MethodName := ⟨RX0, "<init>", "()V"⟩
abbrev cX0_emptyAll : ByteArray := prog_2_method_2_code
def yX0_emptyAll : MethodName := ⟨RX0, "emptyAll", "()V"⟩
abbrev cX0_emptyOne : ByteArray := prog_2_method_3_code
def yX0_emptyOne : MethodName := ⟨RX0, "emptyOne", "(I)I"⟩
abbrev cX0_holds : ByteArray := prog_2_method_4_code
def yX0_holds : MethodName := ⟨RX0, "holds", "(I)Z"⟩
abbrev cX0_hasBox : ByteArray := prog_2_method_5_code
def yX0_hasBox : MethodName := ⟨RX0, "hasBox", "(II)Z"⟩
abbrev cX0_addBox : ByteArray := prog_2_method_6_code
def yX0_addBox : MethodName := ⟨RX0, "addBox", "(II)I"⟩
abbrev cX0_boxesInAll : ByteArray := prog_2_method_7_code
def yX0_boxesInAll : MethodName := ⟨RX0, "boxesInAll", "()I"⟩
abbrev cX0_firstOf : ByteArray := prog_2_method_8_code
def yX0_firstOf : MethodName := ⟨RX0, "firstOf", "(II)I"⟩
abbrev cX0_findsOwnThing : ByteArray := prog_2_method_9_code
def yX0_findsOwnThing : MethodName := ⟨RX0, "findsOwnThing", "(IILHundredBoxes$Order;)Z"⟩
abbrev cX0_ordersWonByAll : ByteArray := prog_2_method_10_code
def yX0_ordersWonByAll : MethodName := ⟨RX0, "ordersWonByAll", "(II)J"⟩
abbrev cX0_placeNextThing : ByteArray := prog_2_method_11_code
def yX0_placeNextThing : MethodName := ⟨RX0, "placeNextThing", "(III)V"⟩
def RX1 : String := "HundredBoxes$Order"
def TX1 : u_T := fun k => match k with
  | 0 => ("HundredBoxes$Order", "row", "[I", true)
  | 1 => ("HundredBoxes$Order", "made", "[I", true)
  | _ => ("HundredBoxes$Order", "size", "I", false)
def tyX1 : Nat → FieldType := fun k => match k with
  | 0 => .array .int
  | 1 => .array .int
  | _ => .int
theorem nmX1 : ∀ a, a < 3 → ∀ b, b < 3 → a ≠ b → (TX1 a).2.1 ≠ (TX1 b).2.1 := by decide +kernel
theorem tyX1_ok : ∀ k, k < 3 → parseFieldDescriptor (TX1 k).2.2.1 = some (tyX1 k) := by decide +kernel
abbrev cX1_init : ByteArray := prog_3_method_1_code
def yX1_init : MethodName := ⟨RX1, "<init>", "()V"⟩
abbrev cX1_startWith : ByteArray := prog_3_method_2_code
def yX1_startWith : MethodName := ⟨RX1, "startWith", "(I)V"⟩
abbrev cX1_holds : ByteArray := prog_3_method_3_code
def yX1_holds : MethodName := ⟨RX1, "holds", "(I)Z"⟩
abbrev cX1_follow : ByteArray := prog_3_method_4_code
def yX1_follow : MethodName := ⟨RX1, "follow", "(I)I"⟩
abbrev cX1_makeAt : ByteArray := prog_3_method_5_code
def yX1_makeAt : MethodName := ⟨RX1, "makeAt", "(II)V"⟩
abbrev cX1_keepMade : ByteArray := prog_3_method_6_code
def yX1_keepMade : MethodName := ⟨RX1, "keepMade", "()V"⟩
abbrev cX1_readFigures : ByteArray := prog_3_method_7_code
def yX1_readFigures : MethodName := ⟨RX1, "readFigures", "(JJ)Z"⟩
abbrev cX1_exchange : ByteArray := prog_3_method_8_code
def yX1_exchange : MethodName := ⟨RX1, "exchange", "(II)V"⟩
abbrev cX1_copyFrom : ByteArray := prog_3_method_9_code
def yX1_copyFrom : MethodName := ⟨RX1, "copyFrom", "(LHundredBoxes$Order;)V"⟩
abbrev cX1_goOnBy : ByteArray := prog_3_method_10_code
def yX1_goOnBy : MethodName := ⟨RX1, "goOnBy", "(LHundredBoxes$Order;)V"⟩
abbrev cX1_turnBack : ByteArray := prog_3_method_11_code
def yX1_turnBack : MethodName := ⟨RX1, "turnBack", "()V"⟩
abbrev cX1_makeRounds : ByteArray := prog_3_method_12_code
def yX1_makeRounds : MethodName := ⟨RX1, "makeRounds", "()V"⟩
abbrev cX1_makeRecords : ByteArray := prog_3_method_13_code
def yX1_makeRecords : MethodName := ⟨RX1, "makeRecords", "()V"⟩
abbrev cX1_roundLength : ByteArray := prog_3_method_14_code
def yX1_roundLength : MethodName := ⟨RX1, "roundLength", "(I)I"⟩
abbrev cX1_leadsRound : ByteArray := prog_3_method_15_code
def yX1_leadsRound : MethodName := ⟨RX1, "leadsRound", "(I)Z"⟩
abbrev cX1_numberOf : ByteArray := prog_3_method_16_code
def yX1_numberOf : MethodName := ⟨RX1, "numberOf", "(I)I"⟩
abbrev cX1_rounds : ByteArray := prog_3_method_17_code
def yX1_rounds : MethodName := ⟨RX1, "rounds", "()I"⟩
abbrev cX1_records : ByteArray := prog_3_method_18_code
def yX1_records : MethodName := ⟨RX1, "records", "()I"⟩
abbrev cX1_rises : ByteArray := prog_3_method_19_code
def yX1_rises : MethodName := ⟨RX1, "rises", "()I"⟩
abbrev cX1_still : ByteArray := prog_3_method_20_code
def yX1_still : MethodName := ⟨RX1, "still", "()I"⟩
abbrev cX1_longestRound : ByteArray := prog_3_method_21_code
def yX1_longestRound : MethodName := ⟨RX1, "longestRound", "()I"⟩
abbrev cX1_pairsOut : ByteArray := prog_3_method_22_code
def yX1_pairsOut : MethodName := ⟨RX1, "pairsOut", "()I"⟩
abbrev cX1_longestRise : ByteArray := prog_3_method_23_code
def yX1_longestRise : MethodName := ⟨RX1, "longestRise", "()I"⟩
abbrev cX1_turns : ByteArray := prog_3_method_24_code
def yX1_turns : MethodName := ⟨RX1, "turns", "()I"⟩
def RX2 : String := "HundredBoxes$Partition"
def TX2 : u_T := fun k => match k with
  | 0 => ("HundredBoxes$Partition", "parts", "[I", true)
  | _ => ("HundredBoxes$Partition", "length", "I", false)
def tyX2 : Nat → FieldType := fun k => match k with
  | 0 => .array .int
  | _ => .int
theorem nmX2 : ∀ a, a < 2 → ∀ b, b < 2 → a ≠ b → (TX2 a).2.1 ≠ (TX2 b).2.1 := by decide +kernel
theorem tyX2_ok : ∀ k, k < 2 → parseFieldDescriptor (TX2 k).2.2.1 = some (tyX2 k) := by decide +kernel
abbrev cX2_init : ByteArray := prog_4_method_1_code
def yX2_init : MethodName := ⟨RX2, "<init>", "(I)V"⟩
abbrev cX2_firstPart : ByteArray := prog_4_method_2_code
def yX2_firstPart : MethodName := ⟨RX2, "firstPart", "()I"⟩
abbrev cX2_goOn : ByteArray := prog_4_method_3_code
def yX2_goOn : MethodName := ⟨RX2, "goOn", "()Z"⟩
abbrev cX2_hookProduct : ByteArray := prog_4_method_4_code
def yX2_hookProduct : MethodName := ⟨RX2, "hookProduct", "()J"⟩
abbrev cX2_sameRounds : ByteArray := prog_4_method_5_code
def yX2_sameRounds : MethodName := ⟨RX2, "sameRounds", "()J"⟩
abbrev cX2_turns : ByteArray := prog_4_method_6_code
def yX2_turns : MethodName := ⟨RX2, "turns", "()I"⟩
def RX3 : String := "HundredBoxes$Tables"
def TX3 : u_T := fun k => match k with
  | 0 => ("HundredBoxes$Tables", "factorials", "[J", true)
  | 1 => ("HundredBoxes$Tables", "deranged", "[J", true)
  | 2 => ("HundredBoxes$Tables", "records", "[[J", true)
  | 3 => ("HundredBoxes$Tables", "roundsUpTo", "[[J", true)
  | _ => ("HundredBoxes$Tables", "rises", "[J", true)
def tyX3 : Nat → FieldType := fun k => match k with
  | 0 => .array .long
  | 1 => .array .long
  | 2 => .array (.array .long)
  | 3 => .array (.array .long)
  | _ => .array .long
theorem nmX3 : ∀ a, a < 5 → ∀ b, b < 5 → a ≠ b → (TX3 a).2.1 ≠ (TX3 b).2.1 := by decide +kernel
theorem tyX3_ok : ∀ k, k < 5 → parseFieldDescriptor (TX3 k).2.2.1 = some (tyX3 k) := by decide +kernel
abbrev cX3_init : ByteArray := prog_5_method_1_code
def yX3_init : MethodName := ⟨RX3, "<init>", "()V"⟩
abbrev cX3_fillFactorials : ByteArray := prog_5_method_2_code
def yX3_fillFactorials : MethodName := ⟨RX3, "fillFactorials", "()V"⟩
abbrev cX3_fillDeranged : ByteArray := prog_5_method_3_code
def yX3_fillDeranged : MethodName := ⟨RX3, "fillDeranged", "()V"⟩
abbrev cX3_fillRecords : ByteArray := prog_5_method_4_code
def yX3_fillRecords : MethodName := ⟨RX3, "fillRecords", "()V"⟩
abbrev cX3_fillRoundsUpTo : ByteArray := prog_5_method_5_code
def yX3_fillRoundsUpTo : MethodName := ⟨RX3, "fillRoundsUpTo", "()V"⟩
abbrev cX3_sumByRoundOfLast : ByteArray := prog_5_method_6_code
def yX3_sumByRoundOfLast : MethodName := ⟨RX3, "sumByRoundOfLast", "(II)J"⟩
abbrev cX3_fillRises : ByteArray := prog_5_method_7_code
def yX3_fillRises : MethodName := ⟨RX3, "fillRises", "()V"⟩
abbrev cX3_fillRisesByBelow : ByteArray := prog_5_method_8_code
def yX3_fillRisesByBelow : MethodName := ⟨RX3, "fillRisesByBelow", "(II)V"⟩
abbrev cX3_riseSlot : ByteArray := prog_5_method_9_code
def yX3_riseSlot : MethodName := ⟨RX3, "riseSlot", "(III)I"⟩
abbrev cX3_ordersOf : ByteArray := prog_5_method_10_code
def yX3_ordersOf : MethodName := ⟨RX3, "ordersOf", "(I)J"⟩
abbrev cX3_withStill : ByteArray := prog_5_method_11_code
def yX3_withStill : MethodName := ⟨RX3, "withStill", "(II)J"⟩
abbrev cX3_withRoundsUpTo : ByteArray := prog_5_method_12_code
def yX3_withRoundsUpTo : MethodName := ⟨RX3, "withRoundsUpTo", "(II)J"⟩
abbrev cX3_withRecords : ByteArray := prog_5_method_13_code
def yX3_withRecords : MethodName := ⟨RX3, "withRecords", "(III)J"⟩
abbrev cX3_withRises : ByteArray := prog_5_method_14_code
def yX3_withRises : MethodName := ⟨RX3, "withRises", "(III)J"⟩
def RX4 : String := "HundredBoxes$Tally"
def TX4 : u_T := fun k => match k with
  | 0 => ("HundredBoxes$Tally", "size", "I", true)
  | 1 => ("HundredBoxes$Tally", "tables", "LHundredBoxes$Tables;", true)
  | _ => ("HundredBoxes$Tally", "orders", "[J", true)
def tyX4 : Nat → FieldType := fun k => match k with
  | 0 => .int
  | 1 => .object "HundredBoxes$Tables"
  | _ => .array .long
theorem nmX4 : ∀ a, a < 3 → ∀ b, b < 3 → a ≠ b → (TX4 a).2.1 ≠ (TX4 b).2.1 := by decide +kernel
theorem tyX4_ok : ∀ k, k < 3 → parseFieldDescriptor (TX4 k).2.2.1 = some (tyX4 k) := by decide +kernel
abbrev cX4_init : ByteArray := prog_6_method_1_code
def yX4_init : MethodName := ⟨RX4, "<init>", "(IILHundredBoxes$Tables;)V"⟩
abbrev cX4_greatest : ByteArray := prog_6_method_2_code
def yX4_greatest : MethodName := ⟨RX4, "greatest", "(II)I"⟩
abbrev cX4_fillByTables : ByteArray := prog_6_method_3_code
def yX4_fillByTables : MethodName := ⟨RX4, "fillByTables", "(I)V"⟩
abbrev cX4_fromTables : ByteArray := prog_6_method_4_code
def yX4_fromTables : MethodName := ⟨RX4, "fromTables", "(II)J"⟩
abbrev cX4_fillPairsOut : ByteArray := prog_6_method_5_code
def yX4_fillPairsOut : MethodName := ⟨RX4, "fillPairsOut", "()V"⟩
abbrev cX4_fillByPartitions : ByteArray := prog_6_method_6_code
def yX4_fillByPartitions : MethodName := ⟨RX4, "fillByPartitions", "(I)V"⟩
abbrev cX4_addOrders : ByteArray := prog_6_method_7_code
def yX4_addOrders : MethodName := ⟨RX4, "addOrders", "(IJ)V"⟩
abbrev cX4_ordersWith : ByteArray := prog_6_method_8_code
def yX4_ordersWith : MethodName := ⟨RX4, "ordersWith", "(I)J"⟩
abbrev cX4_sumOfNumbers : ByteArray := prog_6_method_9_code
def yX4_sumOfNumbers : MethodName := ⟨RX4, "sumOfNumbers", "()J"⟩
def RX5 : String := "HundredBoxes$Walk"
def TX5 : u_T := fun k => match k with
  | 0 => ("HundredBoxes$Walk", "tables", "LHundredBoxes$Tables;", true)
  | 1 => ("HundredBoxes$Walk", "used", "[Z", true)
  | 2 => ("HundredBoxes$Walk", "kind", "I", false)
  | 3 => ("HundredBoxes$Walk", "size", "I", false)
  | 4 => ("HundredBoxes$Walk", "left", "I", false)
  | 5 => ("HundredBoxes$Walk", "last", "I", false)
  | 6 => ("HundredBoxes$Walk", "top", "I", false)
  | _ => ("HundredBoxes$Walk", "wanted", "I", false)
def tyX5 : Nat → FieldType := fun k => match k with
  | 0 => .object "HundredBoxes$Tables"
  | 1 => .array .boolean
  | 2 => .int
  | 3 => .int
  | 4 => .int
  | 5 => .int
  | 6 => .int
  | _ => .int
theorem nmX5 : ∀ a, a < 8 → ∀ b, b < 8 → a ≠ b → (TX5 a).2.1 ≠ (TX5 b).2.1 := by decide +kernel
theorem tyX5_ok : ∀ k, k < 8 → parseFieldDescriptor (TX5 k).2.2.1 = some (tyX5 k) := by decide +kernel
abbrev cX5_init : ByteArray := prog_7_method_1_code
def yX5_init : MethodName := ⟨RX5, "<init>", "(LHundredBoxes$Tables;)V"⟩
abbrev cX5_start : ByteArray := prog_7_method_2_code
def yX5_start : MethodName := ⟨RX5, "start", "(III)V"⟩
abbrev cX5_waysAtStart : ByteArray := prog_7_method_3_code
def yX5_waysAtStart : MethodName := ⟨RX5, "waysAtStart", "()J"⟩
abbrev cX5_writeRow : ByteArray := prog_7_method_4_code
def yX5_writeRow : MethodName := ⟨RX5, "writeRow", "(JLHundredBoxes$Order;)V"⟩
abbrev cX5_rowsAheadOf : ByteArray := prog_7_method_5_code
def yX5_rowsAheadOf : MethodName := ⟨RX5, "rowsAheadOf", "(LHundredBoxes$Order;)J"⟩
abbrev cX5_waysWith : ByteArray := prog_7_method_6_code
def yX5_waysWith : MethodName := ⟨RX5, "waysWith", "(II)J"⟩
abbrev cX5_ways : ByteArray := prog_7_method_7_code
def yX5_ways : MethodName := ⟨RX5, "ways", "(IIII)J"⟩
abbrev cX5_wantedAfter : ByteArray := prog_7_method_8_code
def yX5_wantedAfter : MethodName := ⟨RX5, "wantedAfter", "(I)I"⟩
abbrev cX5_step : ByteArray := prog_7_method_9_code
def yX5_step : MethodName := ⟨RX5, "step", "(I)V"⟩
def RX6 : String := "HundredBoxes"
def TX6 : u_T := fun k => match k with
  | 0 => ("HundredBoxes", "current", "LHundredBoxes$Order;", true)
  | 1 => ("HundredBoxes", "shelf", "[LHundredBoxes$Order;", true)
  | 2 => ("HundredBoxes", "lists", "LHundredBoxes$Lists;", true)
  | 3 => ("HundredBoxes", "tables", "LHundredBoxes$Tables;", true)
  | 4 => ("HundredBoxes", "walk", "LHundredBoxes$Walk;", true)
  | 5 => ("HundredBoxes", "tallies", "[LHundredBoxes$Tally;", true)
  | 6 => ("HundredBoxes", "size", "I", false)
  | _ => ("HundredBoxes", "opened", "I", false)
def tyX6 : Nat → FieldType := fun k => match k with
  | 0 => .object "HundredBoxes$Order"
  | 1 => .array (.object "HundredBoxes$Order")
  | 2 => .object "HundredBoxes$Lists"
  | 3 => .object "HundredBoxes$Tables"
  | 4 => .object "HundredBoxes$Walk"
  | 5 => .array (.object "HundredBoxes$Tally")
  | 6 => .int
  | _ => .int
theorem nmX6 : ∀ a, a < 8 → ∀ b, b < 8 → a ≠ b → (TX6 a).2.1 ≠ (TX6 b).2.1 := by decide +kernel
theorem tyX6_ok : ∀ k, k < 8 → parseFieldDescriptor (TX6 k).2.2.1 = some (tyX6 k) := by decide +kernel
abbrev cX6_init : ByteArray := prog_1_method_1_code
def yX6_init : MethodName := ⟨RX6, "<init>", "()V"⟩
abbrev cX6_things : ByteArray := prog_1_method_2_code
def yX6_things : MethodName := ⟨RX6, "things", "(I)I"⟩
abbrev cX6_order : ByteArray := prog_1_method_3_code
def yX6_order : MethodName := ⟨RX6, "order", "(JJ)I"⟩
abbrev cX6_at : ByteArray := prog_1_method_4_code
def yX6_at : MethodName := ⟨RX6, "at", "(I)I"⟩
abbrev cX6_swap : ByteArray := prog_1_method_5_code
def yX6_swap : MethodName := ⟨RX6, "swap", "(II)I"⟩
abbrev cX6_lay : ByteArray := prog_1_method_6_code
def yX6_lay : MethodName := ⟨RX6, "lay", "(I)I"⟩
abbrev cX6_take : ByteArray := prog_1_method_7_code
def yX6_take : MethodName := ⟨RX6, "take", "(I)I"⟩
abbrev cX6_then : ByteArray := prog_1_method_8_code
def yX6_then : MethodName := ⟨RX6, "then", "(I)I"⟩
abbrev cX6_back : ByteArray := prog_1_method_9_code
def yX6_back : MethodName := ⟨RX6, "back", "()I"⟩
abbrev cX6_number : ByteArray := prog_1_method_10_code
def yX6_number : MethodName := ⟨RX6, "number", "(I)I"⟩
abbrev cX6_many : ByteArray := prog_1_method_11_code
def yX6_many : MethodName := ⟨RX6, "many", "(II)J"⟩
abbrev cX6_mean : ByteArray := prog_1_method_12_code
def yX6_mean : MethodName := ⟨RX6, "mean", "(II)J"⟩
abbrev cX6_row : ByteArray := prog_1_method_13_code
def yX6_row : MethodName := ⟨RX6, "row", "(IIJ)I"⟩
abbrev cX6_place : ByteArray := prog_1_method_14_code
def yX6_place : MethodName := ⟨RX6, "place", "(I)J"⟩
abbrev cX6_toRounds : ByteArray := prog_1_method_15_code
def yX6_toRounds : MethodName := ⟨RX6, "toRounds", "()I"⟩
abbrev cX6_toRecords : ByteArray := prog_1_method_16_code
def yX6_toRecords : MethodName := ⟨RX6, "toRecords", "()I"⟩
abbrev cX6_opens : ByteArray := prog_1_method_17_code
def yX6_opens : MethodName := ⟨RX6, "opens", "(I)I"⟩
abbrev cX6_list : ByteArray := prog_1_method_18_code
def yX6_list : MethodName := ⟨RX6, "list", "(II)I"⟩
abbrev cX6_forget : ByteArray := prog_1_method_19_code
def yX6_forget : MethodName := ⟨RX6, "forget", "(I)I"⟩
abbrev cX6_wins : ByteArray := prog_1_method_20_code
def yX6_wins : MethodName := ⟨RX6, "wins", "(II)I"⟩
abbrev cX6_allWin : ByteArray := prog_1_method_21_code
def yX6_allWin : MethodName := ⟨RX6, "allWin", "(I)J"⟩
abbrev cX6_count : ByteArray := prog_1_method_22_code
def yX6_count : MethodName := ⟨RX6, "count", "(I)I"⟩
abbrev cX6_startWith : ByteArray := prog_1_method_23_code
def yX6_startWith : MethodName := ⟨RX6, "startWith", "(I)V"⟩
abbrev cX6_isThing : ByteArray := prog_1_method_24_code
def yX6_isThing : MethodName := ⟨RX6, "isThing", "(I)Z"⟩
abbrev cX6_isPlace : ByteArray := prog_1_method_25_code
def yX6_isPlace : MethodName := ⟨RX6, "isPlace", "(I)Z"⟩
abbrev cX6_isKind : ByteArray := prog_1_method_26_code
def yX6_isKind : MethodName := ⟨RX6, "isKind", "(I)Z"⟩
abbrev cX6_isRowKind : ByteArray := prog_1_method_27_code
def yX6_isRowKind : MethodName := ⟨RX6, "isRowKind", "(I)Z"⟩
abbrev cX6_isWay : ByteArray := prog_1_method_28_code
def yX6_isWay : MethodName := ⟨RX6, "isWay", "(I)Z"⟩
abbrev cX6_tallyOf : ByteArray := prog_1_method_29_code
def yX6_tallyOf : MethodName := ⟨RX6, "tallyOf", "(I)LHundredBoxes$Tally;"⟩
abbrev cX6_commonDivisor : ByteArray := prog_1_method_30_code
def yX6_commonDivisor : MethodName := ⟨RX6, "commonDivisor", "(JJ)J"⟩
abbrev cX6_commonMultiple : ByteArray := prog_1_method_31_code
def yX6_commonMultiple : MethodName := ⟨RX6, "commonMultiple", "(II)I"⟩
abbrev cX6_quotient : ByteArray := prog_1_method_32_code
def yX6_quotient : MethodName := ⟨RX6, "quotient", "(JJ)J"⟩
abbrev cX6_entry : ByteArray := prog_1_method_33_code
def yX6_entry : MethodName := ⟨RX6, "entry", "([JI)J"⟩
def RX7 : String := "HundredBoxesModel"
def TX7 : u_T := fun k => match k with
  | 0 => ("HundredBoxesModel", "n", "I", false)
  | 1 => ("HundredBoxesModel", "order", "[I", true)
  | 2 => ("HundredBoxesModel", "shelf", "[I", true)
  | 3 => ("HundredBoxesModel", "opens", "I", false)
  | 4 => ("HundredBoxesModel", "lists", "[I", true)
  | 5 => ("HundredBoxesModel", "listed", "[I", true)
  | 6 => ("HundredBoxesModel", "work", "[I", true)
  | 7 => ("HundredBoxesModel", "counts", "[J", true)
  | 8 => ("HundredBoxesModel", "older", "[J", true)
  | 9 => ("HundredBoxesModel", "products", "[J", true)
  | 10 => ("HundredBoxesModel", "part", "[I", true)
  | 11 => ("HundredBoxesModel", "parts", "I", false)
  | 12 => ("HundredBoxesModel", "ways", "[J", true)
  | 13 => ("HundredBoxesModel", "used", "I", false)
  | 14 => ("HundredBoxesModel", "greaterNow", "I", false)
  | _ => ("HundredBoxesModel", "countNow", "I", false)
def tyX7 : Nat → FieldType := fun k => match k with
  | 0 => .int
  | 1 => .array .int
  | 2 => .array .int
  | 3 => .int
  | 4 => .array .int
  | 5 => .array .int
  | 6 => .array .int
  | 7 => .array .long
  | 8 => .array .long
  | 9 => .array .long
  | 10 => .array .int
  | 11 => .int
  | 12 => .array .long
  | 13 => .int
  | 14 => .int
  | _ => .int
theorem nmX7 : ∀ a, a < 16 → ∀ b, b < 16 → a ≠ b → (TX7 a).2.1 ≠ (TX7 b).2.1 := by decide +kernel
theorem tyX7_ok : ∀ k, k < 16 → parseFieldDescriptor (TX7 k).2.2.1 = some (tyX7 k) := by decide +kernel
abbrev cX7_init : ByteArray := prog_9_method_1_code
def yX7_init : MethodName := ⟨RX7, "<init>", "()V"⟩
abbrev cX7_in : ByteArray := prog_9_method_2_code
def yX7_in : MethodName := ⟨RX7, "in", "(JJJ)Z"⟩
abbrev cX7_begin : ByteArray := prog_9_method_3_code
def yX7_begin : MethodName := ⟨RX7, "begin", "()V"⟩
abbrev cX7_isThing : ByteArray := prog_9_method_4_code
def yX7_isThing : MethodName := ⟨RX7, "isThing", "(I)Z"⟩
abbrev cX7_things : ByteArray := prog_9_method_5_code
def yX7_things : MethodName := ⟨RX7, "things", "(I)I"⟩
abbrev cX7_become : ByteArray := prog_9_method_6_code
def yX7_become : MethodName := ⟨RX7, "become", "()V"⟩
abbrev cX7_order : ByteArray := prog_9_method_7_code
def yX7_order : MethodName := ⟨RX7, "order", "(JJ)I"⟩
abbrev cX7_at : ByteArray := prog_9_method_8_code
def yX7_at : MethodName := ⟨RX7, "at", "(I)I"⟩
abbrev cX7_swap : ByteArray := prog_9_method_9_code
def yX7_swap : MethodName := ⟨RX7, "swap", "(II)I"⟩
abbrev cX7_lay : ByteArray := prog_9_method_10_code
def yX7_lay : MethodName := ⟨RX7, "lay", "(I)I"⟩
abbrev cX7_take : ByteArray := prog_9_method_11_code
def yX7_take : MethodName := ⟨RX7, "take", "(I)I"⟩
abbrev cX7_then : ByteArray := prog_9_method_12_code
def yX7_then : MethodName := ⟨RX7, "then", "(I)I"⟩
abbrev cX7_back : ByteArray := prog_9_method_13_code
def yX7_back : MethodName := ⟨RX7, "back", "()I"⟩
abbrev cX7_common : ByteArray := prog_9_method_14_code
def yX7_common : MethodName := ⟨RX7, "common", "(JJ)J"⟩
abbrev cX7_roundOf : ByteArray := prog_9_method_15_code
def yX7_roundOf : MethodName := ⟨RX7, "roundOf", "(I)I"⟩
abbrev cX7_isRecord : ByteArray := prog_9_method_16_code
def yX7_isRecord : MethodName := ⟨RX7, "isRecord", "(I)Z"⟩
abbrev cX7_isFirst : ByteArray := prog_9_method_17_code
def yX7_isFirst : MethodName := ⟨RX7, "isFirst", "(I)Z"⟩
abbrev cX7_longestRise : ByteArray := prog_9_method_18_code
def yX7_longestRise : MethodName := ⟨RX7, "longestRise", "()I"⟩
abbrev cX7_out : ByteArray := prog_9_method_19_code
def yX7_out : MethodName := ⟨RX7, "out", "()I"⟩
abbrev cX7_numberOf : ByteArray := prog_9_method_20_code
def yX7_numberOf : MethodName := ⟨RX7, "numberOf", "(I)I"⟩
abbrev cX7_number : ByteArray := prog_9_method_21_code
def yX7_number : MethodName := ⟨RX7, "number", "(I)I"⟩
abbrev cX7_layProducts : ByteArray := prog_9_method_22_code
def yX7_layProducts : MethodName := ⟨RX7, "layProducts", "()V"⟩
abbrev cX7_step : ByteArray := prog_9_method_23_code
def yX7_step : MethodName := ⟨RX7, "step", "()V"⟩
abbrev cX7_countByThings : ByteArray := prog_9_method_24_code
def yX7_countByThings : MethodName := ⟨RX7, "countByThings", "(I)V"⟩
abbrev cX7_nextShape : ByteArray := prog_9_method_25_code
def yX7_nextShape : MethodName := ⟨RX7, "nextShape", "()Z"⟩
abbrev cX7_byRounds : ByteArray := prog_9_method_26_code
def yX7_byRounds : MethodName := ⟨RX7, "byRounds", "()J"⟩
abbrev cX7_byFillings : ByteArray := prog_9_method_27_code
def yX7_byFillings : MethodName := ⟨RX7, "byFillings", "()J"⟩
abbrev cX7_shapeNumber : ByteArray := prog_9_method_28_code
def yX7_shapeNumber : MethodName := ⟨RX7, "shapeNumber", "(I)I"⟩
abbrev cX7_countByShapes : ByteArray := prog_9_method_29_code
def yX7_countByShapes : MethodName := ⟨RX7, "countByShapes", "(I)V"⟩
abbrev cX7_findCounts : ByteArray := prog_9_method_30_code
def yX7_findCounts : MethodName := ⟨RX7, "findCounts", "(I)V"⟩
abbrev cX7_many : ByteArray := prog_9_method_31_code
def yX7_many : MethodName := ⟨RX7, "many", "(II)J"⟩
abbrev cX7_mean : ByteArray := prog_9_method_32_code
def yX7_mean : MethodName := ⟨RX7, "mean", "(II)J"⟩
abbrev cX7_wayAt : ByteArray := prog_9_method_33_code
def yX7_wayAt : MethodName := ⟨RX7, "wayAt", "(III)I"⟩
abbrev cX7_layWays : ByteArray := prog_9_method_34_code
def yX7_layWays : MethodName := ⟨RX7, "layWays", "(I)V"⟩
abbrev cX7_waysBy : ByteArray := prog_9_method_35_code
def yX7_waysBy : MethodName := ⟨RX7, "waysBy", "(IIIII)J"⟩
abbrev cX7_waysAt : ByteArray := prog_9_method_36_code
def yX7_waysAt : MethodName := ⟨RX7, "waysAt", "(III)J"⟩
abbrev cX7_put : ByteArray := prog_9_method_37_code
def yX7_put : MethodName := ⟨RX7, "put", "(III)V"⟩
abbrev cX7_beginRow : ByteArray := prog_9_method_38_code
def yX7_beginRow : MethodName := ⟨RX7, "beginRow", "(II)V"⟩
abbrev cX7_isKind : ByteArray := prog_9_method_39_code
def yX7_isKind : MethodName := ⟨RX7, "isKind", "(I)Z"⟩
abbrev cX7_row : ByteArray := prog_9_method_40_code
def yX7_row : MethodName := ⟨RX7, "row", "(IIJ)I"⟩
abbrev cX7_place : ByteArray := prog_9_method_41_code
def yX7_place : MethodName := ⟨RX7, "place", "(I)J"⟩
abbrev cX7_toRounds : ByteArray := prog_9_method_42_code
def yX7_toRounds : MethodName := ⟨RX7, "toRounds", "()I"⟩
abbrev cX7_isGreatest : ByteArray := prog_9_method_43_code
def yX7_isGreatest : MethodName := ⟨RX7, "isGreatest", "(I)Z"⟩
abbrev cX7_toRecords : ByteArray := prog_9_method_44_code
def yX7_toRecords : MethodName := ⟨RX7, "toRecords", "()I"⟩
abbrev cX7_opens : ByteArray := prog_9_method_45_code
def yX7_opens : MethodName := ⟨RX7, "opens", "(I)I"⟩
abbrev cX7_list : ByteArray := prog_9_method_46_code
def yX7_list : MethodName := ⟨RX7, "list", "(II)I"⟩
abbrev cX7_forget : ByteArray := prog_9_method_47_code
def yX7_forget : MethodName := ⟨RX7, "forget", "(I)I"⟩
abbrev cX7_winsBy : ByteArray := prog_9_method_48_code
def yX7_winsBy : MethodName := ⟨RX7, "winsBy", "([II)Z"⟩
abbrev cX7_wins : ByteArray := prog_9_method_49_code
def yX7_wins : MethodName := ⟨RX7, "wins", "(II)I"⟩
abbrev cX7_layRow : ByteArray := prog_9_method_50_code
def yX7_layRow : MethodName := ⟨RX7, "layRow", "(I)V"⟩
abbrev cX7_allWin : ByteArray := prog_9_method_51_code
def yX7_allWin : MethodName := ⟨RX7, "allWin", "(I)J"⟩
abbrev cX7_count : ByteArray := prog_9_method_52_code
def yX7_count : MethodName := ⟨RX7, "count", "(I)I"⟩
def RJ6 : String := "java/lang/Integer"
def TJ6 : u_T := fun k => match k with
  | _ => ("", "", "", false)
def tyJ6 : Nat → FieldType := fun k => match k with
  | _ => .int
theorem nmJ6 : ∀ a, a < 0 → ∀ b, b < 0 → a ≠ b → (TJ6 a).2.1 ≠ (TJ6 b).2.1 := by decide +kernel
theorem tyJ6_ok : ∀ k, k < 0 → parseFieldDescriptor (TJ6 k).2.2.1 = some (tyJ6 k) := by decide +kernel
abbrev cJ6_bitCount_0f7a4 : ByteArray := prog_10_method_49_code
def yJ6_bitCount_0f7a4 : MethodName := ⟨RJ6, "bitCount", "(I)I"⟩
def RJ9 : String := "java/lang/Math"
def TJ9 : u_T := fun k => match k with
  | _ => ("", "", "", false)
def tyJ9 : Nat → FieldType := fun k => match k with
  | _ => .int
theorem nmJ9 : ∀ a, a < 0 → ∀ b, b < 0 → a ≠ b → (TJ9 a).2.1 ≠ (TJ9 b).2.1 := by decide +kernel
theorem tyJ9_ok : ∀ k, k < 0 → parseFieldDescriptor (TJ9 k).2.2.1 = some (tyJ9 k) := by decide +kernel
abbrev cJ9_max_7cf53 : ByteArray := prog_11_method_65_code
def yJ9_max_7cf53 : MethodName := ⟨RJ9, "max", "(II)I"⟩
abbrev cJ9_min_7cf53 : ByteArray := prog_11_method_69_code
def yJ9_min_7cf53 : MethodName := ⟨RJ9, "min", "(II)I"⟩
def RL : String := "HundredBoxesLaw"
abbrev cL_law : ByteArray := code
def yL_law : MethodName := ⟨RL, "law", "([I)Z"⟩
abbrev vwCl : List vw_C := [(RX0, TX0, 3), (RX1, TX1, 3), (RX2, TX2, 2), (RX3, TX3, 5), (RX4, TX4, 3), (RX5, TX5, 8), (RX6, TX6, 8), (RX7, TX7, 16)]
end
section
set_option maxRecDepth 20000 in
theorem dX0_init_0 : decode cX0_init 0 = .ok (.aload_n 0, 1) := by decide +kernel
set_option maxRecDepth 20000 in
theorem dX0_init_1 : decode cX0_init 1 = .ok (.invokespecial 3, 3) := by decide +kernel
set_option maxRecDepth 20000 in
theorem dX0_init_4 : decode cX0_init 4 = .ok (.aload_n 0, 1) := by decide +kernel
set_option maxRecDepth 20000 in
theorem dX0_init_5 : decode cX0_init 5 = .ok (.bipush 18, 2) := by decide +kernel
set_option maxRecDepth 20000 in
theorem dX0_init_7 : decode cX0_init 7 = .ok (.bipush 18, 2) := by decide +kernel
set_option maxRecDepth 20000 in
theorem dX0_init_9 : decode cX0_init 9 = .ok (.multianewarray 9 2, 4) := by decide +kernel
set_option maxRecDepth 20000 in
theorem dX0_init_13 : decode cX0_init 13 = .ok (.putfield 11, 3) := by decide +kernel
set_option maxRecDepth 20000 in
theorem dX0_init_16 : decode cX0_init 16 = .ok (.aload_n 0, 1) := by decide +kernel
set_option maxRecDepth 20000 in
theorem dX0_init_17 : decode cX0_init 17 = .ok (.bipush 18, 2) := by decide +kernel
set_option maxRecDepth 20000 in
theorem dX0_init_19 : decode cX0_init 19 = .ok (.newarray .int, 2) := by decide +kernel
set_option maxRecDepth 20000 in
theorem dX0_init_21 : decode cX0_init 21 = .ok (.putfield 16, 3) := by decide +kernel
set_option maxRecDepth 20000 in
theorem dX0_init_24 : decode cX0_init 24 = .ok (.aload_n 0, 1) := by decide +kernel
set_option maxRecDepth 20000 in
theorem dX0_init_25 : decode cX0_init 25 = .ok (.sipush 128, 3) := by decide +kernel
set_option maxRecDepth 20000 in
theorem dX0_init_28 : decode cX0_init 28 = .ok (.newarray .long, 2) := by decide +kernel
set_option maxRecDepth 20000 in
theorem dX0_init_30 : decode cX0_init 30 = .ok (.putfield 20, 3) := by decide +kernel
set_option maxRecDepth 20000 in
theorem dX0_init_33 : decode cX0_init 33 = .ok (.return_, 1) := by decide +kernel
set_option maxRecDepth 20000 in
theorem dX0_emptyAll_0 : decode cX0_emptyAll 0 = .ok (.iconst 0, 1) := by decide +kernel
set_option maxRecDepth 20000 in
theorem dX0_emptyAll_1 : decode cX0_emptyAll 1 = .ok (.istore_n 1, 1) := by decide +kernel
set_option maxRecDepth 20000 in
theorem dX0_emptyAll_2 : decode cX0_emptyAll 2 = .ok (.iload_n 1, 1) := by decide +kernel
set_option maxRecDepth 20000 in
theorem dX0_emptyAll_3 : decode cX0_emptyAll 3 = .ok (.bipush 18, 2) := by decide +kernel
set_option maxRecDepth 20000 in
theorem dX0_emptyAll_5 : decode cX0_emptyAll 5 = .ok (.if_icmp .ge 16, 3) := by decide +kernel
set_option maxRecDepth 20000 in
theorem dX0_emptyAll_8 : decode cX0_emptyAll 8 = .ok (.aload_n 0, 1) := by decide +kernel
set_option maxRecDepth 20000 in
theorem dX0_emptyAll_9 : decode cX0_emptyAll 9 = .ok (.getfield 16, 3) := by decide +kernel
set_option maxRecDepth 20000 in
theorem dX0_emptyAll_12 : decode cX0_emptyAll 12 = .ok (.iload_n 1, 1) := by decide +kernel
set_option maxRecDepth 20000 in
theorem dX0_emptyAll_13 : decode cX0_emptyAll 13 = .ok (.iconst 0, 1) := by decide +kernel
set_option maxRecDepth 20000 in
theorem dX0_emptyAll_14 : decode cX0_emptyAll 14 = .ok (.iastore, 1) := by decide +kernel
set_option maxRecDepth 20000 in
theorem dX0_emptyAll_15 : decode cX0_emptyAll 15 = .ok (.iinc 1 1, 3) := by decide +kernel
set_option maxRecDepth 20000 in
theorem dX0_emptyAll_18 : decode cX0_emptyAll 18 = .ok (.goto (-16), 3) := by decide +kernel
set_option maxRecDepth 20000 in
theorem dX0_emptyAll_21 : decode cX0_emptyAll 21 = .ok (.return_, 1) := by decide +kernel
set_option maxRecDepth 20000 in
theorem dX0_emptyOne_0 : decode cX0_emptyOne 0 = .ok (.aload_n 0, 1) := by decide +kernel
set_option maxRecDepth 20000 in
theorem dX0_emptyOne_1 : decode cX0_emptyOne 1 = .ok (.iload_n 1, 1) := by decide +kernel
set_option maxRecDepth 20000 in
theorem dX0_emptyOne_2 : decode cX0_emptyOne 2 = .ok (.invokevirtual 24, 3) := by decide +kernel
set_option maxRecDepth 20000 in
theorem dX0_emptyOne_5 : decode cX0_emptyOne 5 = .ok (.ifCond .ne 5, 3) := by decide +kernel
set_option maxRecDepth 20000 in
theorem dX0_emptyOne_8 : decode cX0_emptyOne 8 = .ok (.iconst 0, 1) := by decide +kernel
set_option maxRecDepth 20000 in
theorem dX0_emptyOne_9 : decode cX0_emptyOne 9 = .ok (.ireturn, 1) := by decide +kernel
set_option maxRecDepth 20000 in
theorem dX0_emptyOne_10 : decode cX0_emptyOne 10 = .ok (.aload_n 0, 1) := by decide +kernel
set_option maxRecDepth 20000 in
theorem dX0_emptyOne_11 : decode cX0_emptyOne 11 = .ok (.getfield 16, 3) := by decide +kernel
set_option maxRecDepth 20000 in
theorem dX0_emptyOne_14 : decode cX0_emptyOne 14 = .ok (.iload_n 1, 1) := by decide +kernel
set_option maxRecDepth 20000 in
theorem dX0_emptyOne_15 : decode cX0_emptyOne 15 = .ok (.iaload, 1) := by decide +kernel
set_option maxRecDepth 20000 in
theorem dX0_emptyOne_16 : decode cX0_emptyOne 16 = .ok (.istore_n 2, 1) := by decide +kernel
set_option maxRecDepth 20000 in
theorem dX0_emptyOne_17 : decode cX0_emptyOne 17 = .ok (.aload_n 0, 1) := by decide +kernel
set_option maxRecDepth 20000 in
theorem dX0_emptyOne_18 : decode cX0_emptyOne 18 = .ok (.getfield 16, 3) := by decide +kernel
set_option maxRecDepth 20000 in
theorem dX0_emptyOne_21 : decode cX0_emptyOne 21 = .ok (.iload_n 1, 1) := by decide +kernel
set_option maxRecDepth 20000 in
theorem dX0_emptyOne_22 : decode cX0_emptyOne 22 = .ok (.iconst 0, 1) := by decide +kernel
set_option maxRecDepth 20000 in
theorem dX0_emptyOne_23 : decode cX0_emptyOne 23 = .ok (.iastore, 1) := by decide +kernel
set_option maxRecDepth 20000 in
theorem dX0_emptyOne_24 : decode cX0_emptyOne 24 = .ok (.iload_n 2, 1) := by decide +kernel
set_option maxRecDepth 20000 in
theorem dX0_emptyOne_25 : decode cX0_emptyOne 25 = .ok (.ireturn, 1) := by decide +kernel
set_option maxRecDepth 20000 in
theorem dX0_holds_0 : decode cX0_holds 0 = .ok (.iload_n 1, 1) := by decide +kernel
set_option maxRecDepth 20000 in
theorem dX0_holds_1 : decode cX0_holds 1 = .ok (.ifCond .lt 13, 3) := by decide +kernel
set_option maxRecDepth 20000 in
theorem dX0_holds_4 : decode cX0_holds 4 = .ok (.iload_n 1, 1) := by decide +kernel
set_option maxRecDepth 20000 in
theorem dX0_holds_5 : decode cX0_holds 5 = .ok (.bipush 18, 2) := by decide +kernel
set_option maxRecDepth 20000 in
theorem dX0_holds_7 : decode cX0_holds 7 = .ok (.if_icmp .ge 7, 3) := by decide +kernel
set_option maxRecDepth 20000 in
theorem dX0_holds_10 : decode cX0_holds 10 = .ok (.iconst 1, 1) := by decide +kernel
set_option maxRecDepth 20000 in
theorem dX0_holds_11 : decode cX0_holds 11 = .ok (.goto 4, 3) := by decide +kernel
set_option maxRecDepth 20000 in
theorem dX0_holds_14 : decode cX0_holds 14 = .ok (.iconst 0, 1) := by decide +kernel
set_option maxRecDepth 20000 in
theorem dX0_holds_15 : decode cX0_holds 15 = .ok (.ireturn, 1) := by decide +kernel
set_option maxRecDepth 20000 in
theorem dX0_hasBox_0 : decode cX0_hasBox 0 = .ok (.aload_n 0, 1) := by decide +kernel
set_option maxRecDepth 20000 in
theorem dX0_hasBox_1 : decode cX0_hasBox 1 = .ok (.iload_n 1, 1) := by decide +kernel
set_option maxRecDepth 20000 in
theorem dX0_hasBox_2 : decode cX0_hasBox 2 = .ok (.bipush 18, 2) := by decide +kernel
set_option maxRecDepth 20000 in
theorem dX0_hasBox_4 : decode cX0_hasBox 4 = .ok (.invokevirtual 28, 3) := by decide +kernel
set_option maxRecDepth 20000 in
theorem dX0_hasBox_7 : decode cX0_hasBox 7 = .ok (.istore_n 3, 1) := by decide +kernel
set_option maxRecDepth 20000 in
theorem dX0_hasBox_8 : decode cX0_hasBox 8 = .ok (.iconst 0, 1) := by decide +kernel
set_option maxRecDepth 20000 in
theorem dX0_hasBox_9 : decode cX0_hasBox 9 = .ok (.istore 4, 2) := by decide +kernel
set_option maxRecDepth 20000 in
theorem dX0_hasBox_11 : decode cX0_hasBox 11 = .ok (.iload 4, 2) := by decide +kernel
set_option maxRecDepth 20000 in
theorem dX0_hasBox_13 : decode cX0_hasBox 13 = .ok (.iload_n 3, 1) := by decide +kernel
set_option maxRecDepth 20000 in
theorem dX0_hasBox_14 : decode cX0_hasBox 14 = .ok (.if_icmp .ge 24, 3) := by decide +kernel
set_option maxRecDepth 20000 in
theorem dX0_hasBox_17 : decode cX0_hasBox 17 = .ok (.aload_n 0, 1) := by decide +kernel
set_option maxRecDepth 20000 in
theorem dX0_hasBox_18 : decode cX0_hasBox 18 = .ok (.getfield 11, 3) := by decide +kernel
set_option maxRecDepth 20000 in
theorem dX0_hasBox_21 : decode cX0_hasBox 21 = .ok (.iload_n 1, 1) := by decide +kernel
set_option maxRecDepth 20000 in
theorem dX0_hasBox_22 : decode cX0_hasBox 22 = .ok (.aaload, 1) := by decide +kernel
set_option maxRecDepth 20000 in
theorem dX0_hasBox_23 : decode cX0_hasBox 23 = .ok (.iload 4, 2) := by decide +kernel
set_option maxRecDepth 20000 in
theorem dX0_hasBox_25 : decode cX0_hasBox 25 = .ok (.iaload, 1) := by decide +kernel
set_option maxRecDepth 20000 in
theorem dX0_hasBox_26 : decode cX0_hasBox 26 = .ok (.iload_n 2, 1) := by decide +kernel
set_option maxRecDepth 20000 in
theorem dX0_hasBox_27 : decode cX0_hasBox 27 = .ok (.if_icmp .ne 5, 3) := by decide +kernel
set_option maxRecDepth 20000 in
theorem dX0_hasBox_30 : decode cX0_hasBox 30 = .ok (.iconst 1, 1) := by decide +kernel
set_option maxRecDepth 20000 in
theorem dX0_hasBox_31 : decode cX0_hasBox 31 = .ok (.ireturn, 1) := by decide +kernel
set_option maxRecDepth 20000 in
theorem dX0_hasBox_32 : decode cX0_hasBox 32 = .ok (.iinc 4 1, 3) := by decide +kernel
set_option maxRecDepth 20000 in
theorem dX0_hasBox_35 : decode cX0_hasBox 35 = .ok (.goto (-24), 3) := by decide +kernel
set_option maxRecDepth 20000 in
theorem dX0_hasBox_38 : decode cX0_hasBox 38 = .ok (.iconst 0, 1) := by decide +kernel
set_option maxRecDepth 20000 in
theorem dX0_hasBox_39 : decode cX0_hasBox 39 = .ok (.ireturn, 1) := by decide +kernel
set_option maxRecDepth 20000 in
theorem dX0_addBox_0 : decode cX0_addBox 0 = .ok (.aload_n 0, 1) := by decide +kernel
set_option maxRecDepth 20000 in
theorem dX0_addBox_1 : decode cX0_addBox 1 = .ok (.iload_n 1, 1) := by decide +kernel
set_option maxRecDepth 20000 in
theorem dX0_addBox_2 : decode cX0_addBox 2 = .ok (.invokevirtual 24, 3) := by decide +kernel
set_option maxRecDepth 20000 in
theorem dX0_addBox_5 : decode cX0_addBox 5 = .ok (.ifCond .eq 14, 3) := by decide +kernel
set_option maxRecDepth 20000 in
theorem dX0_addBox_8 : decode cX0_addBox 8 = .ok (.aload_n 0, 1) := by decide +kernel
set_option maxRecDepth 20000 in
theorem dX0_addBox_9 : decode cX0_addBox 9 = .ok (.getfield 16, 3) := by decide +kernel
set_option maxRecDepth 20000 in
theorem dX0_addBox_12 : decode cX0_addBox 12 = .ok (.iload_n 1, 1) := by decide +kernel
set_option maxRecDepth 20000 in
theorem dX0_addBox_13 : decode cX0_addBox 13 = .ok (.iaload, 1) := by decide +kernel
set_option maxRecDepth 20000 in
theorem dX0_addBox_14 : decode cX0_addBox 14 = .ok (.bipush 18, 2) := by decide +kernel
set_option maxRecDepth 20000 in
theorem dX0_addBox_16 : decode cX0_addBox 16 = .ok (.if_icmp .lt 6, 3) := by decide +kernel
set_option maxRecDepth 20000 in
theorem dX0_addBox_19 : decode cX0_addBox 19 = .ok (.bipush (-2), 2) := by decide +kernel
set_option maxRecDepth 20000 in
theorem dX0_addBox_21 : decode cX0_addBox 21 = .ok (.ireturn, 1) := by decide +kernel
set_option maxRecDepth 20000 in
theorem dX0_addBox_22 : decode cX0_addBox 22 = .ok (.aload_n 0, 1) := by decide +kernel
set_option maxRecDepth 20000 in
theorem dX0_addBox_23 : decode cX0_addBox 23 = .ok (.getfield 11, 3) := by decide +kernel
set_option maxRecDepth 20000 in
theorem dX0_addBox_26 : decode cX0_addBox 26 = .ok (.iload_n 1, 1) := by decide +kernel
set_option maxRecDepth 20000 in
theorem dX0_addBox_27 : decode cX0_addBox 27 = .ok (.aaload, 1) := by decide +kernel
set_option maxRecDepth 20000 in
theorem dX0_addBox_28 : decode cX0_addBox 28 = .ok (.aload_n 0, 1) := by decide +kernel
set_option maxRecDepth 20000 in
theorem dX0_addBox_29 : decode cX0_addBox 29 = .ok (.getfield 16, 3) := by decide +kernel
set_option maxRecDepth 20000 in
theorem dX0_addBox_32 : decode cX0_addBox 32 = .ok (.iload_n 1, 1) := by decide +kernel
set_option maxRecDepth 20000 in
theorem dX0_addBox_33 : decode cX0_addBox 33 = .ok (.iaload, 1) := by decide +kernel
set_option maxRecDepth 20000 in
theorem dX0_addBox_34 : decode cX0_addBox 34 = .ok (.iload_n 2, 1) := by decide +kernel
set_option maxRecDepth 20000 in
theorem dX0_addBox_35 : decode cX0_addBox 35 = .ok (.iastore, 1) := by decide +kernel
set_option maxRecDepth 20000 in
theorem dX0_addBox_36 : decode cX0_addBox 36 = .ok (.aload_n 0, 1) := by decide +kernel
set_option maxRecDepth 20000 in
theorem dX0_addBox_37 : decode cX0_addBox 37 = .ok (.getfield 16, 3) := by decide +kernel
set_option maxRecDepth 20000 in
theorem dX0_addBox_40 : decode cX0_addBox 40 = .ok (.iload_n 1, 1) := by decide +kernel
set_option maxRecDepth 20000 in
theorem dX0_addBox_41 : decode cX0_addBox 41 = .ok (.dup2, 1) := by decide +kernel
set_option maxRecDepth 20000 in
theorem dX0_addBox_42 : decode cX0_addBox 42 = .ok (.iaload, 1) := by decide +kernel
set_option maxRecDepth 20000 in
theorem dX0_addBox_43 : decode cX0_addBox 43 = .ok (.iconst 1, 1) := by decide +kernel
set_option maxRecDepth 20000 in
theorem dX0_addBox_44 : decode cX0_addBox 44 = .ok (.iadd, 1) := by decide +kernel
set_option maxRecDepth 20000 in
theorem dX0_addBox_45 : decode cX0_addBox 45 = .ok (.iastore, 1) := by decide +kernel
set_option maxRecDepth 20000 in
theorem dX0_addBox_46 : decode cX0_addBox 46 = .ok (.aload_n 0, 1) := by decide +kernel
set_option maxRecDepth 20000 in
theorem dX0_addBox_47 : decode cX0_addBox 47 = .ok (.getfield 16, 3) := by decide +kernel
set_option maxRecDepth 20000 in
theorem dX0_addBox_50 : decode cX0_addBox 50 = .ok (.iload_n 1, 1) := by decide +kernel
set_option maxRecDepth 20000 in
theorem dX0_addBox_51 : decode cX0_addBox 51 = .ok (.iaload, 1) := by decide +kernel
set_option maxRecDepth 20000 in
theorem dX0_addBox_52 : decode cX0_addBox 52 = .ok (.ireturn, 1) := by decide +kernel
set_option maxRecDepth 20000 in
theorem dX0_boxesInAll_0 : decode cX0_boxesInAll 0 = .ok (.iconst 0, 1) := by decide +kernel
set_option maxRecDepth 20000 in
theorem dX0_boxesInAll_1 : decode cX0_boxesInAll 1 = .ok (.istore_n 1, 1) := by decide +kernel
set_option maxRecDepth 20000 in
theorem dX0_boxesInAll_2 : decode cX0_boxesInAll 2 = .ok (.iconst 0, 1) := by decide +kernel
set_option maxRecDepth 20000 in
theorem dX0_boxesInAll_3 : decode cX0_boxesInAll 3 = .ok (.istore_n 2, 1) := by decide +kernel
set_option maxRecDepth 20000 in
theorem dX0_boxesInAll_4 : decode cX0_boxesInAll 4 = .ok (.iload_n 2, 1) := by decide +kernel
set_option maxRecDepth 20000 in
theorem dX0_boxesInAll_5 : decode cX0_boxesInAll 5 = .ok (.bipush 18, 2) := by decide +kernel
set_option maxRecDepth 20000 in
theorem dX0_boxesInAll_7 : decode cX0_boxesInAll 7 = .ok (.if_icmp .ge 18, 3) := by decide +kernel
set_option maxRecDepth 20000 in
theorem dX0_boxesInAll_10 : decode cX0_boxesInAll 10 = .ok (.iload_n 1, 1) := by decide +kernel
set_option maxRecDepth 20000 in
theorem dX0_boxesInAll_11 : decode cX0_boxesInAll 11 = .ok (.aload_n 0, 1) := by decide +kernel
set_option maxRecDepth 20000 in
theorem dX0_boxesInAll_12 : decode cX0_boxesInAll 12 = .ok (.getfield 16, 3) := by decide +kernel
set_option maxRecDepth 20000 in
theorem dX0_boxesInAll_15 : decode cX0_boxesInAll 15 = .ok (.iload_n 2, 1) := by decide +kernel
set_option maxRecDepth 20000 in
theorem dX0_boxesInAll_16 : decode cX0_boxesInAll 16 = .ok (.iaload, 1) := by decide +kernel
set_option maxRecDepth 20000 in
theorem dX0_boxesInAll_17 : decode cX0_boxesInAll 17 = .ok (.iadd, 1) := by decide +kernel
set_option maxRecDepth 20000 in
theorem dX0_boxesInAll_18 : decode cX0_boxesInAll 18 = .ok (.istore_n 1, 1) := by decide +kernel
set_option maxRecDepth 20000 in
theorem dX0_boxesInAll_19 : decode cX0_boxesInAll 19 = .ok (.iinc 2 1, 3) := by decide +kernel
set_option maxRecDepth 20000 in
theorem dX0_boxesInAll_22 : decode cX0_boxesInAll 22 = .ok (.goto (-18), 3) := by decide +kernel
set_option maxRecDepth 20000 in
theorem dX0_boxesInAll_25 : decode cX0_boxesInAll 25 = .ok (.iload_n 1, 1) := by decide +kernel
set_option maxRecDepth 20000 in
theorem dX0_boxesInAll_26 : decode cX0_boxesInAll 26 = .ok (.ireturn, 1) := by decide +kernel
set_option maxRecDepth 20000 in
theorem dX0_firstOf_0 : decode cX0_firstOf 0 = .ok (.aload_n 0, 1) := by decide +kernel
set_option maxRecDepth 20000 in
theorem dX0_firstOf_1 : decode cX0_firstOf 1 = .ok (.iload_n 1, 1) := by decide +kernel
set_option maxRecDepth 20000 in
theorem dX0_firstOf_2 : decode cX0_firstOf 2 = .ok (.invokevirtual 24, 3) := by decide +kernel
set_option maxRecDepth 20000 in
theorem dX0_firstOf_5 : decode cX0_firstOf 5 = .ok (.ifCond .eq 21, 3) := by decide +kernel
set_option maxRecDepth 20000 in
theorem dX0_firstOf_8 : decode cX0_firstOf 8 = .ok (.aload_n 0, 1) := by decide +kernel
set_option maxRecDepth 20000 in
theorem dX0_firstOf_9 : decode cX0_firstOf 9 = .ok (.getfield 16, 3) := by decide +kernel
set_option maxRecDepth 20000 in
theorem dX0_firstOf_12 : decode cX0_firstOf 12 = .ok (.iload_n 1, 1) := by decide +kernel
set_option maxRecDepth 20000 in
theorem dX0_firstOf_13 : decode cX0_firstOf 13 = .ok (.iaload, 1) := by decide +kernel
set_option maxRecDepth 20000 in
theorem dX0_firstOf_14 : decode cX0_firstOf 14 = .ok (.iload_n 2, 1) := by decide +kernel
set_option maxRecDepth 20000 in
theorem dX0_firstOf_15 : decode cX0_firstOf 15 = .ok (.bipush 18, 2) := by decide +kernel
set_option maxRecDepth 20000 in
theorem dX0_firstOf_17 : decode cX0_firstOf 17 = .ok (.invokestatic 32, 3) := by decide +kernel
set_option maxRecDepth 20000 in
theorem dX0_firstOf_20 : decode cX0_firstOf 20 = .ok (.invokestatic 32, 3) := by decide +kernel
set_option maxRecDepth 20000 in
theorem dX0_firstOf_23 : decode cX0_firstOf 23 = .ok (.goto 4, 3) := by decide +kernel
set_option maxRecDepth 20000 in
theorem dX0_firstOf_26 : decode cX0_firstOf 26 = .ok (.iconst 0, 1) := by decide +kernel
set_option maxRecDepth 20000 in
theorem dX0_firstOf_27 : decode cX0_firstOf 27 = .ok (.ireturn, 1) := by decide +kernel
set_option maxRecDepth 20000 in
theorem dX0_findsOwnThing_0 : decode cX0_findsOwnThing 0 = .ok (.aload_n 0, 1) := by decide +kernel
set_option maxRecDepth 20000 in
theorem dX0_findsOwnThing_1 : decode cX0_findsOwnThing 1 = .ok (.iload_n 1, 1) := by decide +kernel
set_option maxRecDepth 20000 in
theorem dX0_findsOwnThing_2 : decode cX0_findsOwnThing 2 = .ok (.iload_n 2, 1) := by decide +kernel
set_option maxRecDepth 20000 in
theorem dX0_findsOwnThing_3 : decode cX0_findsOwnThing 3 = .ok (.invokevirtual 28, 3) := by decide +kernel
set_option maxRecDepth 20000 in
theorem dX0_findsOwnThing_6 : decode cX0_findsOwnThing 6 = .ok (.istore 4, 2) := by decide +kernel
set_option maxRecDepth 20000 in
theorem dX0_findsOwnThing_8 : decode cX0_findsOwnThing 8 = .ok (.iconst 0, 1) := by decide +kernel
set_option maxRecDepth 20000 in
theorem dX0_findsOwnThing_9 : decode cX0_findsOwnThing 9 = .ok (.istore 5, 2) := by decide +kernel
set_option maxRecDepth 20000 in
theorem dX0_findsOwnThing_11 : decode cX0_findsOwnThing 11 = .ok (.iload 5, 2) := by decide +kernel
set_option maxRecDepth 20000 in
theorem dX0_findsOwnThing_13 : decode cX0_findsOwnThing 13 = .ok (.iload 4, 2) := by decide +kernel
set_option maxRecDepth 20000 in
theorem dX0_findsOwnThing_15 : decode cX0_findsOwnThing 15 = .ok (.if_icmp .ge 28, 3) := by decide +kernel
set_option maxRecDepth 20000 in
theorem dX0_findsOwnThing_18 : decode cX0_findsOwnThing 18 = .ok (.aload_n 3, 1) := by decide +kernel
set_option maxRecDepth 20000 in
theorem dX0_findsOwnThing_19 : decode cX0_findsOwnThing 19 = .ok (.aload_n 0, 1) := by decide +kernel
set_option maxRecDepth 20000 in
theorem dX0_findsOwnThing_20 : decode cX0_findsOwnThing 20 = .ok (.getfield 11, 3) := by decide +kernel
set_option maxRecDepth 20000 in
theorem dX0_findsOwnThing_23 : decode cX0_findsOwnThing 23 = .ok (.iload_n 1, 1) := by decide +kernel
set_option maxRecDepth 20000 in
theorem dX0_findsOwnThing_24 : decode cX0_findsOwnThing 24 = .ok (.aaload, 1) := by decide +kernel
set_option maxRecDepth 20000 in
theorem dX0_findsOwnThing_25 : decode cX0_findsOwnThing 25 = .ok (.iload 5, 2) := by decide +kernel
set_option maxRecDepth 20000 in
theorem dX0_findsOwnThing_27 : decode cX0_findsOwnThing 27 = .ok (.iaload, 1) := by decide +kernel
set_option maxRecDepth 20000 in
theorem dX0_findsOwnThing_28 : decode cX0_findsOwnThing 28 = .ok (.invokevirtual 37, 3) := by decide +kernel
set_option maxRecDepth 20000 in
theorem dX0_findsOwnThing_31 : decode cX0_findsOwnThing 31 = .ok (.iload_n 1, 1) := by decide +kernel
set_option maxRecDepth 20000 in
theorem dX0_findsOwnThing_32 : decode cX0_findsOwnThing 32 = .ok (.if_icmp .ne 5, 3) := by decide +kernel
set_option maxRecDepth 20000 in
theorem dX0_findsOwnThing_35 : decode cX0_findsOwnThing 35 = .ok (.iconst 1, 1) := by decide +kernel
set_option maxRecDepth 20000 in
theorem dX0_findsOwnThing_36 : decode cX0_findsOwnThing 36 = .ok (.ireturn, 1) := by decide +kernel
set_option maxRecDepth 20000 in
theorem dX0_findsOwnThing_37 : decode cX0_findsOwnThing 37 = .ok (.iinc 5 1, 3) := by decide +kernel
set_option maxRecDepth 20000 in
theorem dX0_findsOwnThing_40 : decode cX0_findsOwnThing 40 = .ok (.goto (-29), 3) := by decide +kernel
set_option maxRecDepth 20000 in
theorem dX0_findsOwnThing_43 : decode cX0_findsOwnThing 43 = .ok (.iconst 0, 1) := by decide +kernel
set_option maxRecDepth 20000 in
theorem dX0_findsOwnThing_44 : decode cX0_findsOwnThing 44 = .ok (.ireturn, 1) := by decide +kernel
set_option maxRecDepth 20000 in
theorem dX0_ordersWonByAll_0 : decode cX0_ordersWonByAll 0 = .ok (.iload_n 1, 1) := by decide +kernel
set_option maxRecDepth 20000 in
theorem dX0_ordersWonByAll_1 : decode cX0_ordersWonByAll 1 = .ok (.iconst 1, 1) := by decide +kernel
set_option maxRecDepth 20000 in
theorem dX0_ordersWonByAll_2 : decode cX0_ordersWonByAll 2 = .ok (.if_icmp .lt 9, 3) := by decide +kernel
set_option maxRecDepth 20000 in
theorem dX0_ordersWonByAll_5 : decode cX0_ordersWonByAll 5 = .ok (.iload_n 1, 1) := by decide +kernel
set_option maxRecDepth 20000 in
theorem dX0_ordersWonByAll_6 : decode cX0_ordersWonByAll 6 = .ok (.bipush 7, 2) := by decide +kernel
set_option maxRecDepth 20000 in
theorem dX0_ordersWonByAll_8 : decode cX0_ordersWonByAll 8 = .ok (.if_icmp .le 7, 3) := by decide +kernel
set_option maxRecDepth 20000 in
theorem dX0_ordersWonByAll_11 : decode cX0_ordersWonByAll 11 = .ok (.ldc2_w 43, 3) := by decide +kernel
set_option maxRecDepth 20000 in
theorem dX0_ordersWonByAll_14 : decode cX0_ordersWonByAll 14 = .ok (.lreturn, 1) := by decide +kernel
set_option maxRecDepth 20000 in
theorem dX0_ordersWonByAll_15 : decode cX0_ordersWonByAll 15 = .ok (.iconst 1, 1) := by decide +kernel
set_option maxRecDepth 20000 in
theorem dX0_ordersWonByAll_16 : decode cX0_ordersWonByAll 16 = .ok (.iload_n 1, 1) := by decide +kernel
set_option maxRecDepth 20000 in
theorem dX0_ordersWonByAll_17 : decode cX0_ordersWonByAll 17 = .ok (.ishl, 1) := by decide +kernel
set_option maxRecDepth 20000 in
theorem dX0_ordersWonByAll_18 : decode cX0_ordersWonByAll 18 = .ok (.iconst 1, 1) := by decide +kernel
set_option maxRecDepth 20000 in
theorem dX0_ordersWonByAll_19 : decode cX0_ordersWonByAll 19 = .ok (.isub, 1) := by decide +kernel
set_option maxRecDepth 20000 in
theorem dX0_ordersWonByAll_20 : decode cX0_ordersWonByAll 20 = .ok (.istore_n 3, 1) := by decide +kernel
set_option maxRecDepth 20000 in
theorem dX0_ordersWonByAll_21 : decode cX0_ordersWonByAll 21 = .ok (.iconst 0, 1) := by decide +kernel
set_option maxRecDepth 20000 in
theorem dX0_ordersWonByAll_22 : decode cX0_ordersWonByAll 22 = .ok (.istore 4, 2) := by decide +kernel
set_option maxRecDepth 20000 in
theorem dX0_ordersWonByAll_24 : decode cX0_ordersWonByAll 24 = .ok (.iload 4, 2) := by decide +kernel
set_option maxRecDepth 20000 in
theorem dX0_ordersWonByAll_26 : decode cX0_ordersWonByAll 26 = .ok (.iload_n 3, 1) := by decide +kernel
set_option maxRecDepth 20000 in
theorem dX0_ordersWonByAll_27 : decode cX0_ordersWonByAll 27 = .ok (.if_icmp .gt 17, 3) := by decide +kernel
set_option maxRecDepth 20000 in
theorem dX0_ordersWonByAll_30 : decode cX0_ordersWonByAll 30 = .ok (.aload_n 0, 1) := by decide +kernel
set_option maxRecDepth 20000 in
theorem dX0_ordersWonByAll_31 : decode cX0_ordersWonByAll 31 = .ok (.getfield 20, 3) := by decide +kernel
set_option maxRecDepth 20000 in
theorem dX0_ordersWonByAll_34 : decode cX0_ordersWonByAll 34 = .ok (.iload 4, 2) := by decide +kernel
set_option maxRecDepth 20000 in
theorem dX0_ordersWonByAll_36 : decode cX0_ordersWonByAll 36 = .ok (.lconst 0, 1) := by decide +kernel
set_option maxRecDepth 20000 in
theorem dX0_ordersWonByAll_37 : decode cX0_ordersWonByAll 37 = .ok (.lastore, 1) := by decide +kernel
set_option maxRecDepth 20000 in
theorem dX0_ordersWonByAll_38 : decode cX0_ordersWonByAll 38 = .ok (.iinc 4 1, 3) := by decide +kernel
set_option maxRecDepth 20000 in
theorem dX0_ordersWonByAll_41 : decode cX0_ordersWonByAll 41 = .ok (.goto (-17), 3) := by decide +kernel
set_option maxRecDepth 20000 in
theorem dX0_ordersWonByAll_44 : decode cX0_ordersWonByAll 44 = .ok (.aload_n 0, 1) := by decide +kernel
set_option maxRecDepth 20000 in
theorem dX0_ordersWonByAll_45 : decode cX0_ordersWonByAll 45 = .ok (.getfield 20, 3) := by decide +kernel
set_option maxRecDepth 20000 in
theorem dX0_ordersWonByAll_48 : decode cX0_ordersWonByAll 48 = .ok (.iconst 0, 1) := by decide +kernel
set_option maxRecDepth 20000 in
theorem dX0_ordersWonByAll_49 : decode cX0_ordersWonByAll 49 = .ok (.lconst 1, 1) := by decide +kernel
set_option maxRecDepth 20000 in
theorem dX0_ordersWonByAll_50 : decode cX0_ordersWonByAll 50 = .ok (.lastore, 1) := by decide +kernel
set_option maxRecDepth 20000 in
theorem dX0_ordersWonByAll_51 : decode cX0_ordersWonByAll 51 = .ok (.iconst 0, 1) := by decide +kernel
set_option maxRecDepth 20000 in
theorem dX0_ordersWonByAll_52 : decode cX0_ordersWonByAll 52 = .ok (.istore 4, 2) := by decide +kernel
set_option maxRecDepth 20000 in
theorem dX0_ordersWonByAll_54 : decode cX0_ordersWonByAll 54 = .ok (.iload 4, 2) := by decide +kernel
set_option maxRecDepth 20000 in
theorem dX0_ordersWonByAll_56 : decode cX0_ordersWonByAll 56 = .ok (.iload_n 3, 1) := by decide +kernel
set_option maxRecDepth 20000 in
theorem dX0_ordersWonByAll_57 : decode cX0_ordersWonByAll 57 = .ok (.if_icmp .ge 29, 3) := by decide +kernel
set_option maxRecDepth 20000 in
theorem dX0_ordersWonByAll_60 : decode cX0_ordersWonByAll 60 = .ok (.aload_n 0, 1) := by decide +kernel
set_option maxRecDepth 20000 in
theorem dX0_ordersWonByAll_61 : decode cX0_ordersWonByAll 61 = .ok (.getfield 20, 3) := by decide +kernel
set_option maxRecDepth 20000 in
theorem dX0_ordersWonByAll_64 : decode cX0_ordersWonByAll 64 = .ok (.iload 4, 2) := by decide +kernel
set_option maxRecDepth 20000 in
theorem dX0_ordersWonByAll_66 : decode cX0_ordersWonByAll 66 = .ok (.laload, 1) := by decide +kernel
set_option maxRecDepth 20000 in
theorem dX0_ordersWonByAll_67 : decode cX0_ordersWonByAll 67 = .ok (.lconst 0, 1) := by decide +kernel
set_option maxRecDepth 20000 in
theorem dX0_ordersWonByAll_68 : decode cX0_ordersWonByAll 68 = .ok (.lcmp, 1) := by decide +kernel
set_option maxRecDepth 20000 in
theorem dX0_ordersWonByAll_69 : decode cX0_ordersWonByAll 69 = .ok (.ifCond .eq 11, 3) := by decide +kernel
set_option maxRecDepth 20000 in
theorem dX0_ordersWonByAll_72 : decode cX0_ordersWonByAll 72 = .ok (.aload_n 0, 1) := by decide +kernel
set_option maxRecDepth 20000 in
theorem dX0_ordersWonByAll_73 : decode cX0_ordersWonByAll 73 = .ok (.iload 4, 2) := by decide +kernel
set_option maxRecDepth 20000 in
theorem dX0_ordersWonByAll_75 : decode cX0_ordersWonByAll 75 = .ok (.iload_n 3, 1) := by decide +kernel
set_option maxRecDepth 20000 in
theorem dX0_ordersWonByAll_76 : decode cX0_ordersWonByAll 76 = .ok (.iload_n 2, 1) := by decide +kernel
set_option maxRecDepth 20000 in
theorem dX0_ordersWonByAll_77 : decode cX0_ordersWonByAll 77 = .ok (.invokevirtual 45, 3) := by decide +kernel
set_option maxRecDepth 20000 in
theorem dX0_ordersWonByAll_80 : decode cX0_ordersWonByAll 80 = .ok (.iinc 4 1, 3) := by decide +kernel
set_option maxRecDepth 20000 in
theorem dX0_ordersWonByAll_83 : decode cX0_ordersWonByAll 83 = .ok (.goto (-29), 3) := by decide +kernel
set_option maxRecDepth 20000 in
theorem dX0_ordersWonByAll_86 : decode cX0_ordersWonByAll 86 = .ok (.aload_n 0, 1) := by decide +kernel
set_option maxRecDepth 20000 in
theorem dX0_ordersWonByAll_87 : decode cX0_ordersWonByAll 87 = .ok (.getfield 20, 3) := by decide +kernel
set_option maxRecDepth 20000 in
theorem dX0_ordersWonByAll_90 : decode cX0_ordersWonByAll 90 = .ok (.iload_n 3, 1) := by decide +kernel
set_option maxRecDepth 20000 in
theorem dX0_ordersWonByAll_91 : decode cX0_ordersWonByAll 91 = .ok (.laload, 1) := by decide +kernel
set_option maxRecDepth 20000 in
theorem dX0_ordersWonByAll_92 : decode cX0_ordersWonByAll 92 = .ok (.lreturn, 1) := by decide +kernel
set_option maxRecDepth 20000 in
theorem dX0_placeNextThing_0 : decode cX0_placeNextThing 0 = .ok (.iload_n 1, 1) := by decide +kernel
set_option maxRecDepth 20000 in
theorem dX0_placeNextThing_1 : decode cX0_placeNextThing 1 = .ok (.invokestatic 49, 3) := by decide +kernel
set_option maxRecDepth 20000 in
theorem dX0_placeNextThing_4 : decode cX0_placeNextThing 4 = .ok (.istore 4, 2) := by decide +kernel
set_option maxRecDepth 20000 in
theorem dX0_placeNextThing_6 : decode cX0_placeNextThing 6 = .ok (.aload_n 0, 1) := by decide +kernel
set_option maxRecDepth 20000 in
theorem dX0_placeNextThing_7 : decode cX0_placeNextThing 7 = .ok (.iload 4, 2) := by decide +kernel
set_option maxRecDepth 20000 in
theorem dX0_placeNextThing_9 : decode cX0_placeNextThing 9 = .ok (.iload_n 3, 1) := by decide +kernel
set_option maxRecDepth 20000 in
theorem dX0_placeNextThing_10 : decode cX0_placeNextThing 10 = .ok (.invokevirtual 28, 3) := by decide +kernel
set_option maxRecDepth 20000 in
theorem dX0_placeNextThing_13 : decode cX0_placeNextThing 13 = .ok (.istore 5, 2) := by decide +kernel
set_option maxRecDepth 20000 in
theorem dX0_placeNextThing_15 : decode cX0_placeNextThing 15 = .ok (.iconst 0, 1) := by decide +kernel
set_option maxRecDepth 20000 in
theorem dX0_placeNextThing_16 : decode cX0_placeNextThing 16 = .ok (.istore 6, 2) := by decide +kernel
set_option maxRecDepth 20000 in
theorem dX0_placeNextThing_18 : decode cX0_placeNextThing 18 = .ok (.iload 6, 2) := by decide +kernel
set_option maxRecDepth 20000 in
theorem dX0_placeNextThing_20 : decode cX0_placeNextThing 20 = .ok (.iload 5, 2) := by decide +kernel
set_option maxRecDepth 20000 in
theorem dX0_placeNextThing_22 : decode cX0_placeNextThing 22 = .ok (.if_icmp .ge 53, 3) := by decide +kernel
set_option maxRecDepth 20000 in
theorem dX0_placeNextThing_25 : decode cX0_placeNextThing 25 = .ok (.iload_n 1, 1) := by decide +kernel
set_option maxRecDepth 20000 in
theorem dX0_placeNextThing_26 : decode cX0_placeNextThing 26 = .ok (.iconst 1, 1) := by decide +kernel
set_option maxRecDepth 20000 in
theorem dX0_placeNextThing_27 : decode cX0_placeNextThing 27 = .ok (.aload_n 0, 1) := by decide +kernel
set_option maxRecDepth 20000 in
theorem dX0_placeNextThing_28 : decode cX0_placeNextThing 28 = .ok (.getfield 11, 3) := by decide +kernel
set_option maxRecDepth 20000 in
theorem dX0_placeNextThing_31 : decode cX0_placeNextThing 31 = .ok (.iload 4, 2) := by decide +kernel
set_option maxRecDepth 20000 in
theorem dX0_placeNextThing_33 : decode cX0_placeNextThing 33 = .ok (.aaload, 1) := by decide +kernel
set_option maxRecDepth 20000 in
theorem dX0_placeNextThing_34 : decode cX0_placeNextThing 34 = .ok (.iload 6, 2) := by decide +kernel
set_option maxRecDepth 20000 in
theorem dX0_placeNextThing_36 : decode cX0_placeNextThing 36 = .ok (.iaload, 1) := by decide +kernel
set_option maxRecDepth 20000 in
theorem dX0_placeNextThing_37 : decode cX0_placeNextThing 37 = .ok (.ishl, 1) := by decide +kernel
set_option maxRecDepth 20000 in
theorem dX0_placeNextThing_38 : decode cX0_placeNextThing 38 = .ok (.ior, 1) := by decide +kernel
set_option maxRecDepth 20000 in
theorem dX0_placeNextThing_39 : decode cX0_placeNextThing 39 = .ok (.istore 7, 2) := by decide +kernel
set_option maxRecDepth 20000 in
theorem dX0_placeNextThing_41 : decode cX0_placeNextThing 41 = .ok (.iload 7, 2) := by decide +kernel
set_option maxRecDepth 20000 in
theorem dX0_placeNextThing_43 : decode cX0_placeNextThing 43 = .ok (.iload_n 1, 1) := by decide +kernel
set_option maxRecDepth 20000 in
theorem dX0_placeNextThing_44 : decode cX0_placeNextThing 44 = .ok (.if_icmp .le 25, 3) := by decide +kernel
set_option maxRecDepth 20000 in
theorem dX0_placeNextThing_47 : decode cX0_placeNextThing 47 = .ok (.iload 7, 2) := by decide +kernel
set_option maxRecDepth 20000 in
theorem dX0_placeNextThing_49 : decode cX0_placeNextThing 49 = .ok (.iload_n 2, 1) := by decide +kernel
set_option maxRecDepth 20000 in
theorem dX0_placeNextThing_50 : decode cX0_placeNextThing 50 = .ok (.if_icmp .gt 19, 3) := by decide +kernel
set_option maxRecDepth 20000 in
theorem dX0_placeNextThing_53 : decode cX0_placeNextThing 53 = .ok (.aload_n 0, 1) := by decide +kernel
set_option maxRecDepth 20000 in
theorem dX0_placeNextThing_54 : decode cX0_placeNextThing 54 = .ok (.getfield 20, 3) := by decide +kernel
set_option maxRecDepth 20000 in
theorem dX0_placeNextThing_57 : decode cX0_placeNextThing 57 = .ok (.iload 7, 2) := by decide +kernel
set_option maxRecDepth 20000 in
theorem dX0_placeNextThing_59 : decode cX0_placeNextThing 59 = .ok (.dup2, 1) := by decide +kernel
set_option maxRecDepth 20000 in
theorem dX0_placeNextThing_60 : decode cX0_placeNextThing 60 = .ok (.laload, 1) := by decide +kernel
set_option maxRecDepth 20000 in
theorem dX0_placeNextThing_61 : decode cX0_placeNextThing 61 = .ok (.aload_n 0, 1) := by decide +kernel
set_option maxRecDepth 20000 in
theorem dX0_placeNextThing_62 : decode cX0_placeNextThing 62 = .ok (.getfield 20, 3) := by decide +kernel
set_option maxRecDepth 20000 in
theorem dX0_placeNextThing_65 : decode cX0_placeNextThing 65 = .ok (.iload_n 1, 1) := by decide +kernel
set_option maxRecDepth 20000 in
theorem dX0_placeNextThing_66 : decode cX0_placeNextThing 66 = .ok (.laload, 1) := by decide +kernel
set_option maxRecDepth 20000 in
theorem dX0_placeNextThing_67 : decode cX0_placeNextThing 67 = .ok (.ladd, 1) := by decide +kernel
set_option maxRecDepth 20000 in
theorem dX0_placeNextThing_68 : decode cX0_placeNextThing 68 = .ok (.lastore, 1) := by decide +kernel
set_option maxRecDepth 20000 in
theorem dX0_placeNextThing_69 : decode cX0_placeNextThing 69 = .ok (.iinc 6 1, 3) := by decide +kernel
set_option maxRecDepth 20000 in
theorem dX0_placeNextThing_72 : decode cX0_placeNextThing 72 = .ok (.goto (-54), 3) := by decide +kernel
set_option maxRecDepth 20000 in
theorem dX0_placeNextThing_75 : decode cX0_placeNextThing 75 = .ok (.return_, 1) := by decide +kernel
set_option maxRecDepth 20000 in
theorem dX1_init_0 : decode cX1_init 0 = .ok (.aload_n 0, 1) := by decide +kernel
set_option maxRecDepth 20000 in
theorem dX1_init_1 : decode cX1_init 1 = .ok (.invokespecial 3, 3) := by decide +kernel
set_option maxRecDepth 20000 in
theorem dX1_init_4 : decode cX1_init 4 = .ok (.aload_n 0, 1) := by decide +kernel
set_option maxRecDepth 20000 in
theorem dX1_init_5 : decode cX1_init 5 = .ok (.bipush 18, 2) := by decide +kernel
set_option maxRecDepth 20000 in
theorem dX1_init_7 : decode cX1_init 7 = .ok (.newarray .int, 2) := by decide +kernel
set_option maxRecDepth 20000 in
theorem dX1_init_9 : decode cX1_init 9 = .ok (.putfield 9, 3) := by decide +kernel
set_option maxRecDepth 20000 in
theorem dX1_init_12 : decode cX1_init 12 = .ok (.aload_n 0, 1) := by decide +kernel
set_option maxRecDepth 20000 in
theorem dX1_init_13 : decode cX1_init 13 = .ok (.bipush 18, 2) := by decide +kernel
set_option maxRecDepth 20000 in
theorem dX1_init_15 : decode cX1_init 15 = .ok (.newarray .int, 2) := by decide +kernel
set_option maxRecDepth 20000 in
theorem dX1_init_17 : decode cX1_init 17 = .ok (.putfield 15, 3) := by decide +kernel
set_option maxRecDepth 20000 in
theorem dX1_init_20 : decode cX1_init 20 = .ok (.return_, 1) := by decide +kernel
set_option maxRecDepth 20000 in
theorem dX1_startWith_0 : decode cX1_startWith 0 = .ok (.aload_n 0, 1) := by decide +kernel
set_option maxRecDepth 20000 in
theorem dX1_startWith_1 : decode cX1_startWith 1 = .ok (.iload_n 1, 1) := by decide +kernel
set_option maxRecDepth 20000 in
theorem dX1_startWith_2 : decode cX1_startWith 2 = .ok (.bipush 18, 2) := by decide +kernel
set_option maxRecDepth 20000 in
theorem dX1_startWith_4 : decode cX1_startWith 4 = .ok (.invokestatic 18, 3) := by decide +kernel
set_option maxRecDepth 20000 in
theorem dX1_startWith_7 : decode cX1_startWith 7 = .ok (.putfield 24, 3) := by decide +kernel
set_option maxRecDepth 20000 in
theorem dX1_startWith_10 : decode cX1_startWith 10 = .ok (.iconst 0, 1) := by decide +kernel
set_option maxRecDepth 20000 in
theorem dX1_startWith_11 : decode cX1_startWith 11 = .ok (.istore_n 2, 1) := by decide +kernel
set_option maxRecDepth 20000 in
theorem dX1_startWith_12 : decode cX1_startWith 12 = .ok (.iload_n 2, 1) := by decide +kernel
set_option maxRecDepth 20000 in
theorem dX1_startWith_13 : decode cX1_startWith 13 = .ok (.aload_n 0, 1) := by decide +kernel
set_option maxRecDepth 20000 in
theorem dX1_startWith_14 : decode cX1_startWith 14 = .ok (.getfield 24, 3) := by decide +kernel
set_option maxRecDepth 20000 in
theorem dX1_startWith_17 : decode cX1_startWith 17 = .ok (.if_icmp .ge 16, 3) := by decide +kernel
set_option maxRecDepth 20000 in
theorem dX1_startWith_20 : decode cX1_startWith 20 = .ok (.aload_n 0, 1) := by decide +kernel
set_option maxRecDepth 20000 in
theorem dX1_startWith_21 : decode cX1_startWith 21 = .ok (.getfield 9, 3) := by decide +kernel
set_option maxRecDepth 20000 in
theorem dX1_startWith_24 : decode cX1_startWith 24 = .ok (.iload_n 2, 1) := by decide +kernel
set_option maxRecDepth 20000 in
theorem dX1_startWith_25 : decode cX1_startWith 25 = .ok (.iload_n 2, 1) := by decide +kernel
set_option maxRecDepth 20000 in
theorem dX1_startWith_26 : decode cX1_startWith 26 = .ok (.iastore, 1) := by decide +kernel
set_option maxRecDepth 20000 in
theorem dX1_startWith_27 : decode cX1_startWith 27 = .ok (.iinc 2 1, 3) := by decide +kernel
set_option maxRecDepth 20000 in
theorem dX1_startWith_30 : decode cX1_startWith 30 = .ok (.goto (-18), 3) := by decide +kernel
set_option maxRecDepth 20000 in
theorem dX1_startWith_33 : decode cX1_startWith 33 = .ok (.return_, 1) := by decide +kernel
set_option maxRecDepth 20000 in
theorem dX1_holds_0 : decode cX1_holds 0 = .ok (.iload_n 1, 1) := by decide +kernel
set_option maxRecDepth 20000 in
theorem dX1_holds_1 : decode cX1_holds 1 = .ok (.ifCond .lt 15, 3) := by decide +kernel
set_option maxRecDepth 20000 in
theorem dX1_holds_4 : decode cX1_holds 4 = .ok (.iload_n 1, 1) := by decide +kernel
set_option maxRecDepth 20000 in
theorem dX1_holds_5 : decode cX1_holds 5 = .ok (.aload_n 0, 1) := by decide +kernel
set_option maxRecDepth 20000 in
theorem dX1_holds_6 : decode cX1_holds 6 = .ok (.getfield 24, 3) := by decide +kernel
set_option maxRecDepth 20000 in
theorem dX1_holds_9 : decode cX1_holds 9 = .ok (.if_icmp .ge 7, 3) := by decide +kernel
set_option maxRecDepth 20000 in
theorem dX1_holds_12 : decode cX1_holds 12 = .ok (.iconst 1, 1) := by decide +kernel
set_option maxRecDepth 20000 in
theorem dX1_holds_13 : decode cX1_holds 13 = .ok (.goto 4, 3) := by decide +kernel
set_option maxRecDepth 20000 in
theorem dX1_holds_16 : decode cX1_holds 16 = .ok (.iconst 0, 1) := by decide +kernel
set_option maxRecDepth 20000 in
theorem dX1_holds_17 : decode cX1_holds 17 = .ok (.ireturn, 1) := by decide +kernel
set_option maxRecDepth 20000 in
theorem dX1_follow_0 : decode cX1_follow 0 = .ok (.aload_n 0, 1) := by decide +kernel
set_option maxRecDepth 20000 in
theorem dX1_follow_1 : decode cX1_follow 1 = .ok (.iload_n 1, 1) := by decide +kernel
set_option maxRecDepth 20000 in
theorem dX1_follow_2 : decode cX1_follow 2 = .ok (.invokevirtual 28, 3) := by decide +kernel
set_option maxRecDepth 20000 in
theorem dX1_follow_5 : decode cX1_follow 5 = .ok (.ifCond .eq 12, 3) := by decide +kernel
set_option maxRecDepth 20000 in
theorem dX1_follow_8 : decode cX1_follow 8 = .ok (.aload_n 0, 1) := by decide +kernel
set_option maxRecDepth 20000 in
theorem dX1_follow_9 : decode cX1_follow 9 = .ok (.getfield 9, 3) := by decide +kernel
set_option maxRecDepth 20000 in
theorem dX1_follow_12 : decode cX1_follow 12 = .ok (.iload_n 1, 1) := by decide +kernel
set_option maxRecDepth 20000 in
theorem dX1_follow_13 : decode cX1_follow 13 = .ok (.iaload, 1) := by decide +kernel
set_option maxRecDepth 20000 in
theorem dX1_follow_14 : decode cX1_follow 14 = .ok (.goto 4, 3) := by decide +kernel
set_option maxRecDepth 20000 in
theorem dX1_follow_17 : decode cX1_follow 17 = .ok (.iconst 0, 1) := by decide +kernel
set_option maxRecDepth 20000 in
theorem dX1_follow_18 : decode cX1_follow 18 = .ok (.ireturn, 1) := by decide +kernel
set_option maxRecDepth 20000 in
theorem dX1_makeAt_0 : decode cX1_makeAt 0 = .ok (.aload_n 0, 1) := by decide +kernel
set_option maxRecDepth 20000 in
theorem dX1_makeAt_1 : decode cX1_makeAt 1 = .ok (.iload_n 1, 1) := by decide +kernel
set_option maxRecDepth 20000 in
theorem dX1_makeAt_2 : decode cX1_makeAt 2 = .ok (.invokevirtual 28, 3) := by decide +kernel
set_option maxRecDepth 20000 in
theorem dX1_makeAt_5 : decode cX1_makeAt 5 = .ok (.ifCond .eq 10, 3) := by decide +kernel
set_option maxRecDepth 20000 in
theorem dX1_makeAt_8 : decode cX1_makeAt 8 = .ok (.aload_n 0, 1) := by decide +kernel
set_option maxRecDepth 20000 in
theorem dX1_makeAt_9 : decode cX1_makeAt 9 = .ok (.getfield 15, 3) := by decide +kernel
set_option maxRecDepth 20000 in
theorem dX1_makeAt_12 : decode cX1_makeAt 12 = .ok (.iload_n 1, 1) := by decide +kernel
set_option maxRecDepth 20000 in
theorem dX1_makeAt_13 : decode cX1_makeAt 13 = .ok (.iload_n 2, 1) := by decide +kernel
set_option maxRecDepth 20000 in
theorem dX1_makeAt_14 : decode cX1_makeAt 14 = .ok (.iastore, 1) := by decide +kernel
set_option maxRecDepth 20000 in
theorem dX1_makeAt_15 : decode cX1_makeAt 15 = .ok (.return_, 1) := by decide +kernel
set_option maxRecDepth 20000 in
theorem dX1_keepMade_0 : decode cX1_keepMade 0 = .ok (.iconst 0, 1) := by decide +kernel
set_option maxRecDepth 20000 in
theorem dX1_keepMade_1 : decode cX1_keepMade 1 = .ok (.istore_n 1, 1) := by decide +kernel
set_option maxRecDepth 20000 in
theorem dX1_keepMade_2 : decode cX1_keepMade 2 = .ok (.iload_n 1, 1) := by decide +kernel
set_option maxRecDepth 20000 in
theorem dX1_keepMade_3 : decode cX1_keepMade 3 = .ok (.aload_n 0, 1) := by decide +kernel
set_option maxRecDepth 20000 in
theorem dX1_keepMade_4 : decode cX1_keepMade 4 = .ok (.getfield 24, 3) := by decide +kernel
set_option maxRecDepth 20000 in
theorem dX1_keepMade_7 : decode cX1_keepMade 7 = .ok (.if_icmp .ge 21, 3) := by decide +kernel
set_option maxRecDepth 20000 in
theorem dX1_keepMade_10 : decode cX1_keepMade 10 = .ok (.aload_n 0, 1) := by decide +kernel
set_option maxRecDepth 20000 in
theorem dX1_keepMade_11 : decode cX1_keepMade 11 = .ok (.getfield 9, 3) := by decide +kernel
set_option maxRecDepth 20000 in
theorem dX1_keepMade_14 : decode cX1_keepMade 14 = .ok (.iload_n 1, 1) := by decide +kernel
set_option maxRecDepth 20000 in
theorem dX1_keepMade_15 : decode cX1_keepMade 15 = .ok (.aload_n 0, 1) := by decide +kernel
set_option maxRecDepth 20000 in
theorem dX1_keepMade_16 : decode cX1_keepMade 16 = .ok (.getfield 15, 3) := by decide +kernel
set_option maxRecDepth 20000 in
theorem dX1_keepMade_19 : decode cX1_keepMade 19 = .ok (.iload_n 1, 1) := by decide +kernel
set_option maxRecDepth 20000 in
theorem dX1_keepMade_20 : decode cX1_keepMade 20 = .ok (.iaload, 1) := by decide +kernel
set_option maxRecDepth 20000 in
theorem dX1_keepMade_21 : decode cX1_keepMade 21 = .ok (.iastore, 1) := by decide +kernel
set_option maxRecDepth 20000 in
theorem dX1_keepMade_22 : decode cX1_keepMade 22 = .ok (.iinc 1 1, 3) := by decide +kernel
set_option maxRecDepth 20000 in
theorem dX1_keepMade_25 : decode cX1_keepMade 25 = .ok (.goto (-23), 3) := by decide +kernel
set_option maxRecDepth 20000 in
theorem dX1_keepMade_28 : decode cX1_keepMade 28 = .ok (.return_, 1) := by decide +kernel
set_option maxRecDepth 20000 in
theorem dX1_readFigures_0 : decode cX1_readFigures 0 = .ok (.lload_n 1, 1) := by decide +kernel
set_option maxRecDepth 20000 in
theorem dX1_readFigures_1 : decode cX1_readFigures 1 = .ok (.lconst 0, 1) := by decide +kernel
set_option maxRecDepth 20000 in
theorem dX1_readFigures_2 : decode cX1_readFigures 2 = .ok (.lcmp, 1) := by decide +kernel
set_option maxRecDepth 20000 in
theorem dX1_readFigures_3 : decode cX1_readFigures 3 = .ok (.ifCond .lt 9, 3) := by decide +kernel
set_option maxRecDepth 20000 in
theorem dX1_readFigures_6 : decode cX1_readFigures 6 = .ok (.lload_n 3, 1) := by decide +kernel
set_option maxRecDepth 20000 in
theorem dX1_readFigures_7 : decode cX1_readFigures 7 = .ok (.lconst 0, 1) := by decide +kernel
set_option maxRecDepth 20000 in
theorem dX1_readFigures_8 : decode cX1_readFigures 8 = .ok (.lcmp, 1) := by decide +kernel
set_option maxRecDepth 20000 in
theorem dX1_readFigures_9 : decode cX1_readFigures 9 = .ok (.ifCond .ge 5, 3) := by decide +kernel
set_option maxRecDepth 20000 in
theorem dX1_readFigures_12 : decode cX1_readFigures 12 = .ok (.iconst 0, 1) := by decide +kernel
set_option maxRecDepth 20000 in
theorem dX1_readFigures_13 : decode cX1_readFigures 13 = .ok (.ireturn, 1) := by decide +kernel
set_option maxRecDepth 20000 in
theorem dX1_readFigures_14 : decode cX1_readFigures 14 = .ok (.lload_n 1, 1) := by decide +kernel
set_option maxRecDepth 20000 in
theorem dX1_readFigures_15 : decode cX1_readFigures 15 = .ok (.lstore 5, 2) := by decide +kernel
set_option maxRecDepth 20000 in
theorem dX1_readFigures_17 : decode cX1_readFigures 17 = .ok (.lload_n 3, 1) := by decide +kernel
set_option maxRecDepth 20000 in
theorem dX1_readFigures_18 : decode cX1_readFigures 18 = .ok (.lstore 7, 2) := by decide +kernel
set_option maxRecDepth 20000 in
theorem dX1_readFigures_20 : decode cX1_readFigures 20 = .ok (.iconst 0, 1) := by decide +kernel
set_option maxRecDepth 20000 in
theorem dX1_readFigures_21 : decode cX1_readFigures 21 = .ok (.istore 9, 2) := by decide +kernel
set_option maxRecDepth 20000 in
theorem dX1_readFigures_23 : decode cX1_readFigures 23 = .ok (.iconst 0, 1) := by decide +kernel
set_option maxRecDepth 20000 in
theorem dX1_readFigures_24 : decode cX1_readFigures 24 = .ok (.istore 10, 2) := by decide +kernel
set_option maxRecDepth 20000 in
theorem dX1_readFigures_26 : decode cX1_readFigures 26 = .ok (.iload 10, 2) := by decide +kernel
set_option maxRecDepth 20000 in
theorem dX1_readFigures_28 : decode cX1_readFigures 28 = .ok (.aload_n 0, 1) := by decide +kernel
set_option maxRecDepth 20000 in
theorem dX1_readFigures_29 : decode cX1_readFigures 29 = .ok (.getfield 24, 3) := by decide +kernel
set_option maxRecDepth 20000 in
theorem dX1_readFigures_32 : decode cX1_readFigures 32 = .ok (.if_icmp .ge 95, 3) := by decide +kernel
set_option maxRecDepth 20000 in
theorem dX1_readFigures_35 : decode cX1_readFigures 35 = .ok (.iload 10, 2) := by decide +kernel
set_option maxRecDepth 20000 in
theorem dX1_readFigures_37 : decode cX1_readFigures 37 = .ok (.bipush 9, 2) := by decide +kernel
set_option maxRecDepth 20000 in
theorem dX1_readFigures_39 : decode cX1_readFigures 39 = .ok (.if_icmp .ge 7, 3) := by decide +kernel
set_option maxRecDepth 20000 in
theorem dX1_readFigures_42 : decode cX1_readFigures 42 = .ok (.iconst 1, 1) := by decide +kernel
set_option maxRecDepth 20000 in
theorem dX1_readFigures_43 : decode cX1_readFigures 43 = .ok (.goto 4, 3) := by decide +kernel
set_option maxRecDepth 20000 in
theorem dX1_readFigures_46 : decode cX1_readFigures 46 = .ok (.iconst 0, 1) := by decide +kernel
set_option maxRecDepth 20000 in
theorem dX1_readFigures_47 : decode cX1_readFigures 47 = .ok (.istore 11, 2) := by decide +kernel
set_option maxRecDepth 20000 in
theorem dX1_readFigures_49 : decode cX1_readFigures 49 = .ok (.iload 11, 2) := by decide +kernel
set_option maxRecDepth 20000 in
theorem dX1_readFigures_51 : decode cX1_readFigures 51 = .ok (.ifCond .eq 8, 3) := by decide +kernel
set_option maxRecDepth 20000 in
theorem dX1_readFigures_54 : decode cX1_readFigures 54 = .ok (.lload 5, 2) := by decide +kernel
set_option maxRecDepth 20000 in
theorem dX1_readFigures_56 : decode cX1_readFigures 56 = .ok (.goto 5, 3) := by decide +kernel
set_option maxRecDepth 20000 in
theorem dX1_readFigures_59 : decode cX1_readFigures 59 = .ok (.lload 7, 2) := by decide +kernel
set_option maxRecDepth 20000 in
theorem dX1_readFigures_61 : decode cX1_readFigures 61 = .ok (.ldc2_w 32, 3) := by decide +kernel
set_option maxRecDepth 20000 in
theorem dX1_readFigures_64 : decode cX1_readFigures 64 = .ok (.lrem, 1) := by decide +kernel
set_option maxRecDepth 20000 in
theorem dX1_readFigures_65 : decode cX1_readFigures 65 = .ok (.l2i, 1) := by decide +kernel
set_option maxRecDepth 20000 in
theorem dX1_readFigures_66 : decode cX1_readFigures 66 = .ok (.istore 12, 2) := by decide +kernel
set_option maxRecDepth 20000 in
theorem dX1_readFigures_68 : decode cX1_readFigures 68 = .ok (.aload_n 0, 1) := by decide +kernel
set_option maxRecDepth 20000 in
theorem dX1_readFigures_69 : decode cX1_readFigures 69 = .ok (.iload 12, 2) := by decide +kernel
set_option maxRecDepth 20000 in
theorem dX1_readFigures_71 : decode cX1_readFigures 71 = .ok (.invokevirtual 28, 3) := by decide +kernel
set_option maxRecDepth 20000 in
theorem dX1_readFigures_74 : decode cX1_readFigures 74 = .ok (.ifCond .ne 5, 3) := by decide +kernel
set_option maxRecDepth 20000 in
theorem dX1_readFigures_77 : decode cX1_readFigures 77 = .ok (.iconst 0, 1) := by decide +kernel
set_option maxRecDepth 20000 in
theorem dX1_readFigures_78 : decode cX1_readFigures 78 = .ok (.ireturn, 1) := by decide +kernel
set_option maxRecDepth 20000 in
theorem dX1_readFigures_79 : decode cX1_readFigures 79 = .ok (.iload 11, 2) := by decide +kernel
set_option maxRecDepth 20000 in
theorem dX1_readFigures_81 : decode cX1_readFigures 81 = .ok (.ifCond .eq 14, 3) := by decide +kernel
set_option maxRecDepth 20000 in
theorem dX1_readFigures_84 : decode cX1_readFigures 84 = .ok (.lload 5, 2) := by decide +kernel
set_option maxRecDepth 20000 in
theorem dX1_readFigures_86 : decode cX1_readFigures 86 = .ok (.ldc2_w 32, 3) := by decide +kernel
set_option maxRecDepth 20000 in
theorem dX1_readFigures_89 : decode cX1_readFigures 89 = .ok (.ldiv, 1) := by decide +kernel
set_option maxRecDepth 20000 in
theorem dX1_readFigures_90 : decode cX1_readFigures 90 = .ok (.lstore 5, 2) := by decide +kernel
set_option maxRecDepth 20000 in
theorem dX1_readFigures_92 : decode cX1_readFigures 92 = .ok (.goto 11, 3) := by decide +kernel
set_option maxRecDepth 20000 in
theorem dX1_readFigures_95 : decode cX1_readFigures 95 = .ok (.lload 7, 2) := by decide +kernel
set_option maxRecDepth 20000 in
theorem dX1_readFigures_97 : decode cX1_readFigures 97 = .ok (.ldc2_w 32, 3) := by decide +kernel
set_option maxRecDepth 20000 in
theorem dX1_readFigures_100 : decode cX1_readFigures 100 = .ok (.ldiv, 1) := by decide +kernel
set_option maxRecDepth 20000 in
theorem dX1_readFigures_101 : decode cX1_readFigures 101 = .ok (.lstore 7, 2) := by decide +kernel
set_option maxRecDepth 20000 in
theorem dX1_readFigures_103 : decode cX1_readFigures 103 = .ok (.aload_n 0, 1) := by decide +kernel
set_option maxRecDepth 20000 in
theorem dX1_readFigures_104 : decode cX1_readFigures 104 = .ok (.getfield 15, 3) := by decide +kernel
set_option maxRecDepth 20000 in
theorem dX1_readFigures_107 : decode cX1_readFigures 107 = .ok (.iload 10, 2) := by decide +kernel
set_option maxRecDepth 20000 in
theorem dX1_readFigures_109 : decode cX1_readFigures 109 = .ok (.iload 12, 2) := by decide +kernel
set_option maxRecDepth 20000 in
theorem dX1_readFigures_111 : decode cX1_readFigures 111 = .ok (.iastore, 1) := by decide +kernel
set_option maxRecDepth 20000 in
theorem dX1_readFigures_112 : decode cX1_readFigures 112 = .ok (.iload 9, 2) := by decide +kernel
set_option maxRecDepth 20000 in
theorem dX1_readFigures_114 : decode cX1_readFigures 114 = .ok (.iconst 1, 1) := by decide +kernel
set_option maxRecDepth 20000 in
theorem dX1_readFigures_115 : decode cX1_readFigures 115 = .ok (.iload 12, 2) := by decide +kernel
set_option maxRecDepth 20000 in
theorem dX1_readFigures_117 : decode cX1_readFigures 117 = .ok (.ishl, 1) := by decide +kernel
set_option maxRecDepth 20000 in
theorem dX1_readFigures_118 : decode cX1_readFigures 118 = .ok (.ior, 1) := by decide +kernel
set_option maxRecDepth 20000 in
theorem dX1_readFigures_119 : decode cX1_readFigures 119 = .ok (.istore 9, 2) := by decide +kernel
set_option maxRecDepth 20000 in
theorem dX1_readFigures_121 : decode cX1_readFigures 121 = .ok (.iinc 10 1, 3) := by decide +kernel
set_option maxRecDepth 20000 in
theorem dX1_readFigures_124 : decode cX1_readFigures 124 = .ok (.goto (-98), 3) := by decide +kernel
set_option maxRecDepth 20000 in
theorem dX1_readFigures_127 : decode cX1_readFigures 127 = .ok (.lload 5, 2) := by decide +kernel
set_option maxRecDepth 20000 in
theorem dX1_readFigures_129 : decode cX1_readFigures 129 = .ok (.lconst 0, 1) := by decide +kernel
set_option maxRecDepth 20000 in
theorem dX1_readFigures_130 : decode cX1_readFigures 130 = .ok (.lcmp, 1) := by decide +kernel
set_option maxRecDepth 20000 in
theorem dX1_readFigures_131 : decode cX1_readFigures 131 = .ok (.ifCond .ne 23, 3) := by decide +kernel
set_option maxRecDepth 20000 in
theorem dX1_readFigures_134 : decode cX1_readFigures 134 = .ok (.lload 7, 2) := by decide +kernel
set_option maxRecDepth 20000 in
theorem dX1_readFigures_136 : decode cX1_readFigures 136 = .ok (.lconst 0, 1) := by decide +kernel
set_option maxRecDepth 20000 in
theorem dX1_readFigures_137 : decode cX1_readFigures 137 = .ok (.lcmp, 1) := by decide +kernel
set_option maxRecDepth 20000 in
theorem dX1_readFigures_138 : decode cX1_readFigures 138 = .ok (.ifCond .ne 16, 3) := by decide +kernel
set_option maxRecDepth 20000 in
theorem dX1_readFigures_141 : decode cX1_readFigures 141 = .ok (.iload 9, 2) := by decide +kernel
set_option maxRecDepth 20000 in
theorem dX1_readFigures_143 : decode cX1_readFigures 143 = .ok (.iconst 1, 1) := by decide +kernel
set_option maxRecDepth 20000 in
theorem dX1_readFigures_144 : decode cX1_readFigures 144 = .ok (.aload_n 0, 1) := by decide +kernel
set_option maxRecDepth 20000 in
theorem dX1_readFigures_145 : decode cX1_readFigures 145 = .ok (.getfield 24, 3) := by decide +kernel
set_option maxRecDepth 20000 in
theorem dX1_readFigures_148 : decode cX1_readFigures 148 = .ok (.ishl, 1) := by decide +kernel
set_option maxRecDepth 20000 in
theorem dX1_readFigures_149 : decode cX1_readFigures 149 = .ok (.iconst 1, 1) := by decide +kernel
set_option maxRecDepth 20000 in
theorem dX1_readFigures_150 : decode cX1_readFigures 150 = .ok (.isub, 1) := by decide +kernel
set_option maxRecDepth 20000 in
theorem dX1_readFigures_151 : decode cX1_readFigures 151 = .ok (.if_icmp .eq 5, 3) := by decide +kernel
set_option maxRecDepth 20000 in
theorem dX1_readFigures_154 : decode cX1_readFigures 154 = .ok (.iconst 0, 1) := by decide +kernel
set_option maxRecDepth 20000 in
theorem dX1_readFigures_155 : decode cX1_readFigures 155 = .ok (.ireturn, 1) := by decide +kernel
set_option maxRecDepth 20000 in
theorem dX1_readFigures_156 : decode cX1_readFigures 156 = .ok (.aload_n 0, 1) := by decide +kernel
set_option maxRecDepth 20000 in
theorem dX1_readFigures_157 : decode cX1_readFigures 157 = .ok (.invokevirtual 34, 3) := by decide +kernel
set_option maxRecDepth 20000 in
theorem dX1_readFigures_160 : decode cX1_readFigures 160 = .ok (.iconst 1, 1) := by decide +kernel
set_option maxRecDepth 20000 in
theorem dX1_readFigures_161 : decode cX1_readFigures 161 = .ok (.ireturn, 1) := by decide +kernel
set_option maxRecDepth 20000 in
theorem dX1_exchange_0 : decode cX1_exchange 0 = .ok (.aload_n 0, 1) := by decide +kernel
set_option maxRecDepth 20000 in
theorem dX1_exchange_1 : decode cX1_exchange 1 = .ok (.iload_n 1, 1) := by decide +kernel
set_option maxRecDepth 20000 in
theorem dX1_exchange_2 : decode cX1_exchange 2 = .ok (.invokevirtual 28, 3) := by decide +kernel
set_option maxRecDepth 20000 in
theorem dX1_exchange_5 : decode cX1_exchange 5 = .ok (.ifCond .eq 37, 3) := by decide +kernel
set_option maxRecDepth 20000 in
theorem dX1_exchange_8 : decode cX1_exchange 8 = .ok (.aload_n 0, 1) := by decide +kernel
set_option maxRecDepth 20000 in
theorem dX1_exchange_9 : decode cX1_exchange 9 = .ok (.iload_n 2, 1) := by decide +kernel
set_option maxRecDepth 20000 in
theorem dX1_exchange_10 : decode cX1_exchange 10 = .ok (.invokevirtual 28, 3) := by decide +kernel
set_option maxRecDepth 20000 in
theorem dX1_exchange_13 : decode cX1_exchange 13 = .ok (.ifCond .eq 29, 3) := by decide +kernel
set_option maxRecDepth 20000 in
theorem dX1_exchange_16 : decode cX1_exchange 16 = .ok (.aload_n 0, 1) := by decide +kernel
set_option maxRecDepth 20000 in
theorem dX1_exchange_17 : decode cX1_exchange 17 = .ok (.getfield 9, 3) := by decide +kernel
set_option maxRecDepth 20000 in
theorem dX1_exchange_20 : decode cX1_exchange 20 = .ok (.iload_n 1, 1) := by decide +kernel
set_option maxRecDepth 20000 in
theorem dX1_exchange_21 : decode cX1_exchange 21 = .ok (.iaload, 1) := by decide +kernel
set_option maxRecDepth 20000 in
theorem dX1_exchange_22 : decode cX1_exchange 22 = .ok (.istore_n 3, 1) := by decide +kernel
set_option maxRecDepth 20000 in
theorem dX1_exchange_23 : decode cX1_exchange 23 = .ok (.aload_n 0, 1) := by decide +kernel
set_option maxRecDepth 20000 in
theorem dX1_exchange_24 : decode cX1_exchange 24 = .ok (.getfield 9, 3) := by decide +kernel
set_option maxRecDepth 20000 in
theorem dX1_exchange_27 : decode cX1_exchange 27 = .ok (.iload_n 1, 1) := by decide +kernel
set_option maxRecDepth 20000 in
theorem dX1_exchange_28 : decode cX1_exchange 28 = .ok (.aload_n 0, 1) := by decide +kernel
set_option maxRecDepth 20000 in
theorem dX1_exchange_29 : decode cX1_exchange 29 = .ok (.getfield 9, 3) := by decide +kernel
set_option maxRecDepth 20000 in
theorem dX1_exchange_32 : decode cX1_exchange 32 = .ok (.iload_n 2, 1) := by decide +kernel
set_option maxRecDepth 20000 in
theorem dX1_exchange_33 : decode cX1_exchange 33 = .ok (.iaload, 1) := by decide +kernel
set_option maxRecDepth 20000 in
theorem dX1_exchange_34 : decode cX1_exchange 34 = .ok (.iastore, 1) := by decide +kernel
set_option maxRecDepth 20000 in
theorem dX1_exchange_35 : decode cX1_exchange 35 = .ok (.aload_n 0, 1) := by decide +kernel
set_option maxRecDepth 20000 in
theorem dX1_exchange_36 : decode cX1_exchange 36 = .ok (.getfield 9, 3) := by decide +kernel
set_option maxRecDepth 20000 in
theorem dX1_exchange_39 : decode cX1_exchange 39 = .ok (.iload_n 2, 1) := by decide +kernel
set_option maxRecDepth 20000 in
theorem dX1_exchange_40 : decode cX1_exchange 40 = .ok (.iload_n 3, 1) := by decide +kernel
set_option maxRecDepth 20000 in
theorem dX1_exchange_41 : decode cX1_exchange 41 = .ok (.iastore, 1) := by decide +kernel
set_option maxRecDepth 20000 in
theorem dX1_exchange_42 : decode cX1_exchange 42 = .ok (.return_, 1) := by decide +kernel
set_option maxRecDepth 20000 in
theorem dX1_copyFrom_0 : decode cX1_copyFrom 0 = .ok (.iconst 0, 1) := by decide +kernel
set_option maxRecDepth 20000 in
theorem dX1_copyFrom_1 : decode cX1_copyFrom 1 = .ok (.istore_n 2, 1) := by decide +kernel
set_option maxRecDepth 20000 in
theorem dX1_copyFrom_2 : decode cX1_copyFrom 2 = .ok (.iload_n 2, 1) := by decide +kernel
set_option maxRecDepth 20000 in
theorem dX1_copyFrom_3 : decode cX1_copyFrom 3 = .ok (.aload_n 0, 1) := by decide +kernel
set_option maxRecDepth 20000 in
theorem dX1_copyFrom_4 : decode cX1_copyFrom 4 = .ok (.getfield 24, 3) := by decide +kernel
set_option maxRecDepth 20000 in
theorem dX1_copyFrom_7 : decode cX1_copyFrom 7 = .ok (.if_icmp .ge 21, 3) := by decide +kernel
set_option maxRecDepth 20000 in
theorem dX1_copyFrom_10 : decode cX1_copyFrom 10 = .ok (.aload_n 0, 1) := by decide +kernel
set_option maxRecDepth 20000 in
theorem dX1_copyFrom_11 : decode cX1_copyFrom 11 = .ok (.getfield 9, 3) := by decide +kernel
set_option maxRecDepth 20000 in
theorem dX1_copyFrom_14 : decode cX1_copyFrom 14 = .ok (.iload_n 2, 1) := by decide +kernel
set_option maxRecDepth 20000 in
theorem dX1_copyFrom_15 : decode cX1_copyFrom 15 = .ok (.aload_n 1, 1) := by decide +kernel
set_option maxRecDepth 20000 in
theorem dX1_copyFrom_16 : decode cX1_copyFrom 16 = .ok (.getfield 9, 3) := by decide +kernel
set_option maxRecDepth 20000 in
theorem dX1_copyFrom_19 : decode cX1_copyFrom 19 = .ok (.iload_n 2, 1) := by decide +kernel
set_option maxRecDepth 20000 in
theorem dX1_copyFrom_20 : decode cX1_copyFrom 20 = .ok (.iaload, 1) := by decide +kernel
set_option maxRecDepth 20000 in
theorem dX1_copyFrom_21 : decode cX1_copyFrom 21 = .ok (.iastore, 1) := by decide +kernel
set_option maxRecDepth 20000 in
theorem dX1_copyFrom_22 : decode cX1_copyFrom 22 = .ok (.iinc 2 1, 3) := by decide +kernel
set_option maxRecDepth 20000 in
theorem dX1_copyFrom_25 : decode cX1_copyFrom 25 = .ok (.goto (-23), 3) := by decide +kernel
set_option maxRecDepth 20000 in
theorem dX1_copyFrom_28 : decode cX1_copyFrom 28 = .ok (.return_, 1) := by decide +kernel
set_option maxRecDepth 20000 in
theorem dX1_goOnBy_0 : decode cX1_goOnBy 0 = .ok (.iconst 0, 1) := by decide +kernel
set_option maxRecDepth 20000 in
theorem dX1_goOnBy_1 : decode cX1_goOnBy 1 = .ok (.istore_n 2, 1) := by decide +kernel
set_option maxRecDepth 20000 in
theorem dX1_goOnBy_2 : decode cX1_goOnBy 2 = .ok (.iload_n 2, 1) := by decide +kernel
set_option maxRecDepth 20000 in
theorem dX1_goOnBy_3 : decode cX1_goOnBy 3 = .ok (.aload_n 0, 1) := by decide +kernel
set_option maxRecDepth 20000 in
theorem dX1_goOnBy_4 : decode cX1_goOnBy 4 = .ok (.getfield 24, 3) := by decide +kernel
set_option maxRecDepth 20000 in
theorem dX1_goOnBy_7 : decode cX1_goOnBy 7 = .ok (.if_icmp .ge 25, 3) := by decide +kernel
set_option maxRecDepth 20000 in
theorem dX1_goOnBy_10 : decode cX1_goOnBy 10 = .ok (.aload_n 0, 1) := by decide +kernel
set_option maxRecDepth 20000 in
theorem dX1_goOnBy_11 : decode cX1_goOnBy 11 = .ok (.getfield 9, 3) := by decide +kernel
set_option maxRecDepth 20000 in
theorem dX1_goOnBy_14 : decode cX1_goOnBy 14 = .ok (.iload_n 2, 1) := by decide +kernel
set_option maxRecDepth 20000 in
theorem dX1_goOnBy_15 : decode cX1_goOnBy 15 = .ok (.aload_n 1, 1) := by decide +kernel
set_option maxRecDepth 20000 in
theorem dX1_goOnBy_16 : decode cX1_goOnBy 16 = .ok (.aload_n 0, 1) := by decide +kernel
set_option maxRecDepth 20000 in
theorem dX1_goOnBy_17 : decode cX1_goOnBy 17 = .ok (.getfield 9, 3) := by decide +kernel
set_option maxRecDepth 20000 in
theorem dX1_goOnBy_20 : decode cX1_goOnBy 20 = .ok (.iload_n 2, 1) := by decide +kernel
set_option maxRecDepth 20000 in
theorem dX1_goOnBy_21 : decode cX1_goOnBy 21 = .ok (.iaload, 1) := by decide +kernel
set_option maxRecDepth 20000 in
theorem dX1_goOnBy_22 : decode cX1_goOnBy 22 = .ok (.invokevirtual 37, 3) := by decide +kernel
set_option maxRecDepth 20000 in
theorem dX1_goOnBy_25 : decode cX1_goOnBy 25 = .ok (.iastore, 1) := by decide +kernel
set_option maxRecDepth 20000 in
theorem dX1_goOnBy_26 : decode cX1_goOnBy 26 = .ok (.iinc 2 1, 3) := by decide +kernel
set_option maxRecDepth 20000 in
theorem dX1_goOnBy_29 : decode cX1_goOnBy 29 = .ok (.goto (-27), 3) := by decide +kernel
set_option maxRecDepth 20000 in
theorem dX1_goOnBy_32 : decode cX1_goOnBy 32 = .ok (.return_, 1) := by decide +kernel
set_option maxRecDepth 20000 in
theorem dX1_turnBack_0 : decode cX1_turnBack 0 = .ok (.iconst 0, 1) := by decide +kernel
set_option maxRecDepth 20000 in
theorem dX1_turnBack_1 : decode cX1_turnBack 1 = .ok (.istore_n 1, 1) := by decide +kernel
set_option maxRecDepth 20000 in
theorem dX1_turnBack_2 : decode cX1_turnBack 2 = .ok (.iload_n 1, 1) := by decide +kernel
set_option maxRecDepth 20000 in
theorem dX1_turnBack_3 : decode cX1_turnBack 3 = .ok (.aload_n 0, 1) := by decide +kernel
set_option maxRecDepth 20000 in
theorem dX1_turnBack_4 : decode cX1_turnBack 4 = .ok (.getfield 24, 3) := by decide +kernel
set_option maxRecDepth 20000 in
theorem dX1_turnBack_7 : decode cX1_turnBack 7 = .ok (.if_icmp .ge 20, 3) := by decide +kernel
set_option maxRecDepth 20000 in
theorem dX1_turnBack_10 : decode cX1_turnBack 10 = .ok (.aload_n 0, 1) := by decide +kernel
set_option maxRecDepth 20000 in
theorem dX1_turnBack_11 : decode cX1_turnBack 11 = .ok (.aload_n 0, 1) := by decide +kernel
set_option maxRecDepth 20000 in
theorem dX1_turnBack_12 : decode cX1_turnBack 12 = .ok (.getfield 9, 3) := by decide +kernel
set_option maxRecDepth 20000 in
theorem dX1_turnBack_15 : decode cX1_turnBack 15 = .ok (.iload_n 1, 1) := by decide +kernel
set_option maxRecDepth 20000 in
theorem dX1_turnBack_16 : decode cX1_turnBack 16 = .ok (.iaload, 1) := by decide +kernel
set_option maxRecDepth 20000 in
theorem dX1_turnBack_17 : decode cX1_turnBack 17 = .ok (.iload_n 1, 1) := by decide +kernel
set_option maxRecDepth 20000 in
theorem dX1_turnBack_18 : decode cX1_turnBack 18 = .ok (.invokevirtual 41, 3) := by decide +kernel
set_option maxRecDepth 20000 in
theorem dX1_turnBack_21 : decode cX1_turnBack 21 = .ok (.iinc 1 1, 3) := by decide +kernel
set_option maxRecDepth 20000 in
theorem dX1_turnBack_24 : decode cX1_turnBack 24 = .ok (.goto (-22), 3) := by decide +kernel
set_option maxRecDepth 20000 in
theorem dX1_turnBack_27 : decode cX1_turnBack 27 = .ok (.aload_n 0, 1) := by decide +kernel
set_option maxRecDepth 20000 in
theorem dX1_turnBack_28 : decode cX1_turnBack 28 = .ok (.invokevirtual 34, 3) := by decide +kernel
set_option maxRecDepth 20000 in
theorem dX1_turnBack_31 : decode cX1_turnBack 31 = .ok (.return_, 1) := by decide +kernel
set_option maxRecDepth 20000 in
theorem dX1_makeRounds_0 : decode cX1_makeRounds 0 = .ok (.aload_n 0, 1) := by decide +kernel
set_option maxRecDepth 20000 in
theorem dX1_makeRounds_1 : decode cX1_makeRounds 1 = .ok (.getfield 9, 3) := by decide +kernel
set_option maxRecDepth 20000 in
theorem dX1_makeRounds_4 : decode cX1_makeRounds 4 = .ok (.iconst 0, 1) := by decide +kernel
set_option maxRecDepth 20000 in
theorem dX1_makeRounds_5 : decode cX1_makeRounds 5 = .ok (.iaload, 1) := by decide +kernel
set_option maxRecDepth 20000 in
theorem dX1_makeRounds_6 : decode cX1_makeRounds 6 = .ok (.istore_n 1, 1) := by decide +kernel
set_option maxRecDepth 20000 in
theorem dX1_makeRounds_7 : decode cX1_makeRounds 7 = .ok (.iconst 0, 1) := by decide +kernel
set_option maxRecDepth 20000 in
theorem dX1_makeRounds_8 : decode cX1_makeRounds 8 = .ok (.istore_n 2, 1) := by decide +kernel
set_option maxRecDepth 20000 in
theorem dX1_makeRounds_9 : decode cX1_makeRounds 9 = .ok (.iload_n 2, 1) := by decide +kernel
set_option maxRecDepth 20000 in
theorem dX1_makeRounds_10 : decode cX1_makeRounds 10 = .ok (.iconst 1, 1) := by decide +kernel
set_option maxRecDepth 20000 in
theorem dX1_makeRounds_11 : decode cX1_makeRounds 11 = .ok (.iadd, 1) := by decide +kernel
set_option maxRecDepth 20000 in
theorem dX1_makeRounds_12 : decode cX1_makeRounds 12 = .ok (.aload_n 0, 1) := by decide +kernel
set_option maxRecDepth 20000 in
theorem dX1_makeRounds_13 : decode cX1_makeRounds 13 = .ok (.getfield 24, 3) := by decide +kernel
set_option maxRecDepth 20000 in
theorem dX1_makeRounds_16 : decode cX1_makeRounds 16 = .ok (.if_icmp .ge 44, 3) := by decide +kernel
set_option maxRecDepth 20000 in
theorem dX1_makeRounds_19 : decode cX1_makeRounds 19 = .ok (.aload_n 0, 1) := by decide +kernel
set_option maxRecDepth 20000 in
theorem dX1_makeRounds_20 : decode cX1_makeRounds 20 = .ok (.getfield 9, 3) := by decide +kernel
set_option maxRecDepth 20000 in
theorem dX1_makeRounds_23 : decode cX1_makeRounds 23 = .ok (.iload_n 2, 1) := by decide +kernel
set_option maxRecDepth 20000 in
theorem dX1_makeRounds_24 : decode cX1_makeRounds 24 = .ok (.iconst 1, 1) := by decide +kernel
set_option maxRecDepth 20000 in
theorem dX1_makeRounds_25 : decode cX1_makeRounds 25 = .ok (.iadd, 1) := by decide +kernel
set_option maxRecDepth 20000 in
theorem dX1_makeRounds_26 : decode cX1_makeRounds 26 = .ok (.iaload, 1) := by decide +kernel
set_option maxRecDepth 20000 in
theorem dX1_makeRounds_27 : decode cX1_makeRounds 27 = .ok (.istore_n 3, 1) := by decide +kernel
set_option maxRecDepth 20000 in
theorem dX1_makeRounds_28 : decode cX1_makeRounds 28 = .ok (.aload_n 0, 1) := by decide +kernel
set_option maxRecDepth 20000 in
theorem dX1_makeRounds_29 : decode cX1_makeRounds 29 = .ok (.aload_n 0, 1) := by decide +kernel
set_option maxRecDepth 20000 in
theorem dX1_makeRounds_30 : decode cX1_makeRounds 30 = .ok (.getfield 9, 3) := by decide +kernel
set_option maxRecDepth 20000 in
theorem dX1_makeRounds_33 : decode cX1_makeRounds 33 = .ok (.iload_n 2, 1) := by decide +kernel
set_option maxRecDepth 20000 in
theorem dX1_makeRounds_34 : decode cX1_makeRounds 34 = .ok (.iaload, 1) := by decide +kernel
set_option maxRecDepth 20000 in
theorem dX1_makeRounds_35 : decode cX1_makeRounds 35 = .ok (.iload_n 3, 1) := by decide +kernel
set_option maxRecDepth 20000 in
theorem dX1_makeRounds_36 : decode cX1_makeRounds 36 = .ok (.iload_n 1, 1) := by decide +kernel
set_option maxRecDepth 20000 in
theorem dX1_makeRounds_37 : decode cX1_makeRounds 37 = .ok (.if_icmp .le 7, 3) := by decide +kernel
set_option maxRecDepth 20000 in
theorem dX1_makeRounds_40 : decode cX1_makeRounds 40 = .ok (.iload_n 1, 1) := by decide +kernel
set_option maxRecDepth 20000 in
theorem dX1_makeRounds_41 : decode cX1_makeRounds 41 = .ok (.goto 4, 3) := by decide +kernel
set_option maxRecDepth 20000 in
theorem dX1_makeRounds_44 : decode cX1_makeRounds 44 = .ok (.iload_n 3, 1) := by decide +kernel
set_option maxRecDepth 20000 in
theorem dX1_makeRounds_45 : decode cX1_makeRounds 45 = .ok (.invokevirtual 41, 3) := by decide +kernel
set_option maxRecDepth 20000 in
theorem dX1_makeRounds_48 : decode cX1_makeRounds 48 = .ok (.iload_n 1, 1) := by decide +kernel
set_option maxRecDepth 20000 in
theorem dX1_makeRounds_49 : decode cX1_makeRounds 49 = .ok (.iload_n 3, 1) := by decide +kernel
set_option maxRecDepth 20000 in
theorem dX1_makeRounds_50 : decode cX1_makeRounds 50 = .ok (.invokestatic 45, 3) := by decide +kernel
set_option maxRecDepth 20000 in
theorem dX1_makeRounds_53 : decode cX1_makeRounds 53 = .ok (.istore_n 1, 1) := by decide +kernel
set_option maxRecDepth 20000 in
theorem dX1_makeRounds_54 : decode cX1_makeRounds 54 = .ok (.iinc 2 1, 3) := by decide +kernel
set_option maxRecDepth 20000 in
theorem dX1_makeRounds_57 : decode cX1_makeRounds 57 = .ok (.goto (-48), 3) := by decide +kernel
set_option maxRecDepth 20000 in
theorem dX1_makeRounds_60 : decode cX1_makeRounds 60 = .ok (.aload_n 0, 1) := by decide +kernel
set_option maxRecDepth 20000 in
theorem dX1_makeRounds_61 : decode cX1_makeRounds 61 = .ok (.aload_n 0, 1) := by decide +kernel
set_option maxRecDepth 20000 in
theorem dX1_makeRounds_62 : decode cX1_makeRounds 62 = .ok (.aload_n 0, 1) := by decide +kernel
set_option maxRecDepth 20000 in
theorem dX1_makeRounds_63 : decode cX1_makeRounds 63 = .ok (.getfield 24, 3) := by decide +kernel
set_option maxRecDepth 20000 in
theorem dX1_makeRounds_66 : decode cX1_makeRounds 66 = .ok (.iconst 1, 1) := by decide +kernel
set_option maxRecDepth 20000 in
theorem dX1_makeRounds_67 : decode cX1_makeRounds 67 = .ok (.isub, 1) := by decide +kernel
set_option maxRecDepth 20000 in
theorem dX1_makeRounds_68 : decode cX1_makeRounds 68 = .ok (.invokevirtual 37, 3) := by decide +kernel
set_option maxRecDepth 20000 in
theorem dX1_makeRounds_71 : decode cX1_makeRounds 71 = .ok (.iload_n 1, 1) := by decide +kernel
set_option maxRecDepth 20000 in
theorem dX1_makeRounds_72 : decode cX1_makeRounds 72 = .ok (.invokevirtual 41, 3) := by decide +kernel
set_option maxRecDepth 20000 in
theorem dX1_makeRounds_75 : decode cX1_makeRounds 75 = .ok (.aload_n 0, 1) := by decide +kernel
set_option maxRecDepth 20000 in
theorem dX1_makeRounds_76 : decode cX1_makeRounds 76 = .ok (.invokevirtual 34, 3) := by decide +kernel
set_option maxRecDepth 20000 in
theorem dX1_makeRounds_79 : decode cX1_makeRounds 79 = .ok (.return_, 1) := by decide +kernel
set_option maxRecDepth 20000 in
theorem dX1_makeRecords_0 : decode cX1_makeRecords 0 = .ok (.iconst 0, 1) := by decide +kernel
set_option maxRecDepth 20000 in
theorem dX1_makeRecords_1 : decode cX1_makeRecords 1 = .ok (.istore_n 1, 1) := by decide +kernel
set_option maxRecDepth 20000 in
theorem dX1_makeRecords_2 : decode cX1_makeRecords 2 = .ok (.iconst 0, 1) := by decide +kernel
set_option maxRecDepth 20000 in
theorem dX1_makeRecords_3 : decode cX1_makeRecords 3 = .ok (.istore_n 2, 1) := by decide +kernel
set_option maxRecDepth 20000 in
theorem dX1_makeRecords_4 : decode cX1_makeRecords 4 = .ok (.iload_n 2, 1) := by decide +kernel
set_option maxRecDepth 20000 in
theorem dX1_makeRecords_5 : decode cX1_makeRecords 5 = .ok (.aload_n 0, 1) := by decide +kernel
set_option maxRecDepth 20000 in
theorem dX1_makeRecords_6 : decode cX1_makeRecords 6 = .ok (.getfield 24, 3) := by decide +kernel
set_option maxRecDepth 20000 in
theorem dX1_makeRecords_9 : decode cX1_makeRecords 9 = .ok (.if_icmp .ge 55, 3) := by decide +kernel
set_option maxRecDepth 20000 in
theorem dX1_makeRecords_12 : decode cX1_makeRecords 12 = .ok (.aload_n 0, 1) := by decide +kernel
set_option maxRecDepth 20000 in
theorem dX1_makeRecords_13 : decode cX1_makeRecords 13 = .ok (.iload_n 2, 1) := by decide +kernel
set_option maxRecDepth 20000 in
theorem dX1_makeRecords_14 : decode cX1_makeRecords 14 = .ok (.invokevirtual 48, 3) := by decide +kernel
set_option maxRecDepth 20000 in
theorem dX1_makeRecords_17 : decode cX1_makeRecords 17 = .ok (.ifCond .ne 6, 3) := by decide +kernel
set_option maxRecDepth 20000 in
theorem dX1_makeRecords_20 : decode cX1_makeRecords 20 = .ok (.goto 38, 3) := by decide +kernel
set_option maxRecDepth 20000 in
theorem dX1_makeRecords_23 : decode cX1_makeRecords 23 = .ok (.iload_n 2, 1) := by decide +kernel
set_option maxRecDepth 20000 in
theorem dX1_makeRecords_24 : decode cX1_makeRecords 24 = .ok (.istore_n 3, 1) := by decide +kernel
set_option maxRecDepth 20000 in
theorem dX1_makeRecords_25 : decode cX1_makeRecords 25 = .ok (.aload_n 0, 1) := by decide +kernel
set_option maxRecDepth 20000 in
theorem dX1_makeRecords_26 : decode cX1_makeRecords 26 = .ok (.iload_n 2, 1) := by decide +kernel
set_option maxRecDepth 20000 in
theorem dX1_makeRecords_27 : decode cX1_makeRecords 27 = .ok (.invokevirtual 51, 3) := by decide +kernel
set_option maxRecDepth 20000 in
theorem dX1_makeRecords_30 : decode cX1_makeRecords 30 = .ok (.istore 4, 2) := by decide +kernel
set_option maxRecDepth 20000 in
theorem dX1_makeRecords_32 : decode cX1_makeRecords 32 = .ok (.iload 4, 2) := by decide +kernel
set_option maxRecDepth 20000 in
theorem dX1_makeRecords_34 : decode cX1_makeRecords 34 = .ok (.ifCond .le 24, 3) := by decide +kernel
set_option maxRecDepth 20000 in
theorem dX1_makeRecords_37 : decode cX1_makeRecords 37 = .ok (.aload_n 0, 1) := by decide +kernel
set_option maxRecDepth 20000 in
theorem dX1_makeRecords_38 : decode cX1_makeRecords 38 = .ok (.iload_n 1, 1) := by decide +kernel
set_option maxRecDepth 20000 in
theorem dX1_makeRecords_39 : decode cX1_makeRecords 39 = .ok (.iload_n 3, 1) := by decide +kernel
set_option maxRecDepth 20000 in
theorem dX1_makeRecords_40 : decode cX1_makeRecords 40 = .ok (.invokevirtual 41, 3) := by decide +kernel
set_option maxRecDepth 20000 in
theorem dX1_makeRecords_43 : decode cX1_makeRecords 43 = .ok (.iinc 1 1, 3) := by decide +kernel
set_option maxRecDepth 20000 in
theorem dX1_makeRecords_46 : decode cX1_makeRecords 46 = .ok (.aload_n 0, 1) := by decide +kernel
set_option maxRecDepth 20000 in
theorem dX1_makeRecords_47 : decode cX1_makeRecords 47 = .ok (.iload_n 3, 1) := by decide +kernel
set_option maxRecDepth 20000 in
theorem dX1_makeRecords_48 : decode cX1_makeRecords 48 = .ok (.invokevirtual 37, 3) := by decide +kernel
set_option maxRecDepth 20000 in
theorem dX1_makeRecords_51 : decode cX1_makeRecords 51 = .ok (.istore_n 3, 1) := by decide +kernel
set_option maxRecDepth 20000 in
theorem dX1_makeRecords_52 : decode cX1_makeRecords 52 = .ok (.iinc 4 (-1), 3) := by decide +kernel
set_option maxRecDepth 20000 in
theorem dX1_makeRecords_55 : decode cX1_makeRecords 55 = .ok (.goto (-23), 3) := by decide +kernel
set_option maxRecDepth 20000 in
theorem dX1_makeRecords_58 : decode cX1_makeRecords 58 = .ok (.iinc 2 1, 3) := by decide +kernel
set_option maxRecDepth 20000 in
theorem dX1_makeRecords_61 : decode cX1_makeRecords 61 = .ok (.goto (-57), 3) := by decide +kernel
set_option maxRecDepth 20000 in
theorem dX1_makeRecords_64 : decode cX1_makeRecords 64 = .ok (.aload_n 0, 1) := by decide +kernel
set_option maxRecDepth 20000 in
theorem dX1_makeRecords_65 : decode cX1_makeRecords 65 = .ok (.invokevirtual 34, 3) := by decide +kernel
set_option maxRecDepth 20000 in
theorem dX1_makeRecords_68 : decode cX1_makeRecords 68 = .ok (.return_, 1) := by decide +kernel
set_option maxRecDepth 20000 in
theorem dX1_roundLength_0 : decode cX1_roundLength 0 = .ok (.aload_n 0, 1) := by decide +kernel
set_option maxRecDepth 20000 in
theorem dX1_roundLength_1 : decode cX1_roundLength 1 = .ok (.iload_n 1, 1) := by decide +kernel
set_option maxRecDepth 20000 in
theorem dX1_roundLength_2 : decode cX1_roundLength 2 = .ok (.invokevirtual 37, 3) := by decide +kernel
set_option maxRecDepth 20000 in
theorem dX1_roundLength_5 : decode cX1_roundLength 5 = .ok (.istore_n 2, 1) := by decide +kernel
set_option maxRecDepth 20000 in
theorem dX1_roundLength_6 : decode cX1_roundLength 6 = .ok (.iconst 1, 1) := by decide +kernel
set_option maxRecDepth 20000 in
theorem dX1_roundLength_7 : decode cX1_roundLength 7 = .ok (.istore_n 3, 1) := by decide +kernel
set_option maxRecDepth 20000 in
theorem dX1_roundLength_8 : decode cX1_roundLength 8 = .ok (.iload_n 2, 1) := by decide +kernel
set_option maxRecDepth 20000 in
theorem dX1_roundLength_9 : decode cX1_roundLength 9 = .ok (.iload_n 1, 1) := by decide +kernel
set_option maxRecDepth 20000 in
theorem dX1_roundLength_10 : decode cX1_roundLength 10 = .ok (.if_icmp .eq 23, 3) := by decide +kernel
set_option maxRecDepth 20000 in
theorem dX1_roundLength_13 : decode cX1_roundLength 13 = .ok (.iload_n 3, 1) := by decide +kernel
set_option maxRecDepth 20000 in
theorem dX1_roundLength_14 : decode cX1_roundLength 14 = .ok (.aload_n 0, 1) := by decide +kernel
set_option maxRecDepth 20000 in
theorem dX1_roundLength_15 : decode cX1_roundLength 15 = .ok (.getfield 24, 3) := by decide +kernel
set_option maxRecDepth 20000 in
theorem dX1_roundLength_18 : decode cX1_roundLength 18 = .ok (.if_icmp .ge 15, 3) := by decide +kernel
set_option maxRecDepth 20000 in
theorem dX1_roundLength_21 : decode cX1_roundLength 21 = .ok (.aload_n 0, 1) := by decide +kernel
set_option maxRecDepth 20000 in
theorem dX1_roundLength_22 : decode cX1_roundLength 22 = .ok (.iload_n 2, 1) := by decide +kernel
set_option maxRecDepth 20000 in
theorem dX1_roundLength_23 : decode cX1_roundLength 23 = .ok (.invokevirtual 37, 3) := by decide +kernel
set_option maxRecDepth 20000 in
theorem dX1_roundLength_26 : decode cX1_roundLength 26 = .ok (.istore_n 2, 1) := by decide +kernel
set_option maxRecDepth 20000 in
theorem dX1_roundLength_27 : decode cX1_roundLength 27 = .ok (.iinc 3 1, 3) := by decide +kernel
set_option maxRecDepth 20000 in
theorem dX1_roundLength_30 : decode cX1_roundLength 30 = .ok (.goto (-22), 3) := by decide +kernel
set_option maxRecDepth 20000 in
theorem dX1_roundLength_33 : decode cX1_roundLength 33 = .ok (.iload_n 3, 1) := by decide +kernel
set_option maxRecDepth 20000 in
theorem dX1_roundLength_34 : decode cX1_roundLength 34 = .ok (.ireturn, 1) := by decide +kernel
set_option maxRecDepth 20000 in
theorem dX1_leadsRound_0 : decode cX1_leadsRound 0 = .ok (.aload_n 0, 1) := by decide +kernel
set_option maxRecDepth 20000 in
theorem dX1_leadsRound_1 : decode cX1_leadsRound 1 = .ok (.iload_n 1, 1) := by decide +kernel
set_option maxRecDepth 20000 in
theorem dX1_leadsRound_2 : decode cX1_leadsRound 2 = .ok (.invokevirtual 37, 3) := by decide +kernel
set_option maxRecDepth 20000 in
theorem dX1_leadsRound_5 : decode cX1_leadsRound 5 = .ok (.istore_n 2, 1) := by decide +kernel
set_option maxRecDepth 20000 in
theorem dX1_leadsRound_6 : decode cX1_leadsRound 6 = .ok (.iconst 0, 1) := by decide +kernel
set_option maxRecDepth 20000 in
theorem dX1_leadsRound_7 : decode cX1_leadsRound 7 = .ok (.istore_n 3, 1) := by decide +kernel
set_option maxRecDepth 20000 in
theorem dX1_leadsRound_8 : decode cX1_leadsRound 8 = .ok (.iload_n 3, 1) := by decide +kernel
set_option maxRecDepth 20000 in
theorem dX1_leadsRound_9 : decode cX1_leadsRound 9 = .ok (.aload_n 0, 1) := by decide +kernel
set_option maxRecDepth 20000 in
theorem dX1_leadsRound_10 : decode cX1_leadsRound 10 = .ok (.getfield 24, 3) := by decide +kernel
set_option maxRecDepth 20000 in
theorem dX1_leadsRound_13 : decode cX1_leadsRound 13 = .ok (.if_icmp .ge 20, 3) := by decide +kernel
set_option maxRecDepth 20000 in
theorem dX1_leadsRound_16 : decode cX1_leadsRound 16 = .ok (.iload_n 2, 1) := by decide +kernel
set_option maxRecDepth 20000 in
theorem dX1_leadsRound_17 : decode cX1_leadsRound 17 = .ok (.iload_n 1, 1) := by decide +kernel
set_option maxRecDepth 20000 in
theorem dX1_leadsRound_18 : decode cX1_leadsRound 18 = .ok (.if_icmp .ge 15, 3) := by decide +kernel
set_option maxRecDepth 20000 in
theorem dX1_leadsRound_21 : decode cX1_leadsRound 21 = .ok (.aload_n 0, 1) := by decide +kernel
set_option maxRecDepth 20000 in
theorem dX1_leadsRound_22 : decode cX1_leadsRound 22 = .ok (.iload_n 2, 1) := by decide +kernel
set_option maxRecDepth 20000 in
theorem dX1_leadsRound_23 : decode cX1_leadsRound 23 = .ok (.invokevirtual 37, 3) := by decide +kernel
set_option maxRecDepth 20000 in
theorem dX1_leadsRound_26 : decode cX1_leadsRound 26 = .ok (.istore_n 2, 1) := by decide +kernel
set_option maxRecDepth 20000 in
theorem dX1_leadsRound_27 : decode cX1_leadsRound 27 = .ok (.iinc 3 1, 3) := by decide +kernel
set_option maxRecDepth 20000 in
theorem dX1_leadsRound_30 : decode cX1_leadsRound 30 = .ok (.goto (-22), 3) := by decide +kernel
set_option maxRecDepth 20000 in
theorem dX1_leadsRound_33 : decode cX1_leadsRound 33 = .ok (.iload_n 2, 1) := by decide +kernel
set_option maxRecDepth 20000 in
theorem dX1_leadsRound_34 : decode cX1_leadsRound 34 = .ok (.iload_n 1, 1) := by decide +kernel
set_option maxRecDepth 20000 in
theorem dX1_leadsRound_35 : decode cX1_leadsRound 35 = .ok (.if_icmp .ne 7, 3) := by decide +kernel
set_option maxRecDepth 20000 in
theorem dX1_leadsRound_38 : decode cX1_leadsRound 38 = .ok (.iconst 1, 1) := by decide +kernel
set_option maxRecDepth 20000 in
theorem dX1_leadsRound_39 : decode cX1_leadsRound 39 = .ok (.goto 4, 3) := by decide +kernel
set_option maxRecDepth 20000 in
theorem dX1_leadsRound_42 : decode cX1_leadsRound 42 = .ok (.iconst 0, 1) := by decide +kernel
set_option maxRecDepth 20000 in
theorem dX1_leadsRound_43 : decode cX1_leadsRound 43 = .ok (.ireturn, 1) := by decide +kernel
set_option maxRecDepth 20000 in
theorem dX1_numberOf_0 : decode cX1_numberOf 0 = .ok (.iload_n 1, 1) := by decide +kernel
set_option maxRecDepth 20000 in
theorem dX1_numberOf_1 : decode cX1_numberOf 1 = .ok (.tableswitch 87 0 7 #[47, 52, 57, 62, 67, 72, 77, 82], 47) := by decide +kernel
set_option maxRecDepth 20000 in
theorem dX1_numberOf_48 : decode cX1_numberOf 48 = .ok (.aload_n 0, 1) := by decide +kernel
set_option maxRecDepth 20000 in
theorem dX1_numberOf_49 : decode cX1_numberOf 49 = .ok (.invokevirtual 54, 3) := by decide +kernel
set_option maxRecDepth 20000 in
theorem dX1_numberOf_52 : decode cX1_numberOf 52 = .ok (.ireturn, 1) := by decide +kernel
set_option maxRecDepth 20000 in
theorem dX1_numberOf_53 : decode cX1_numberOf 53 = .ok (.aload_n 0, 1) := by decide +kernel
set_option maxRecDepth 20000 in
theorem dX1_numberOf_54 : decode cX1_numberOf 54 = .ok (.invokevirtual 58, 3) := by decide +kernel
set_option maxRecDepth 20000 in
theorem dX1_numberOf_57 : decode cX1_numberOf 57 = .ok (.ireturn, 1) := by decide +kernel
set_option maxRecDepth 20000 in
theorem dX1_numberOf_58 : decode cX1_numberOf 58 = .ok (.aload_n 0, 1) := by decide +kernel
set_option maxRecDepth 20000 in
theorem dX1_numberOf_59 : decode cX1_numberOf 59 = .ok (.invokevirtual 61, 3) := by decide +kernel
set_option maxRecDepth 20000 in
theorem dX1_numberOf_62 : decode cX1_numberOf 62 = .ok (.ireturn, 1) := by decide +kernel
set_option maxRecDepth 20000 in
theorem dX1_numberOf_63 : decode cX1_numberOf 63 = .ok (.aload_n 0, 1) := by decide +kernel
set_option maxRecDepth 20000 in
theorem dX1_numberOf_64 : decode cX1_numberOf 64 = .ok (.invokevirtual 64, 3) := by decide +kernel
set_option maxRecDepth 20000 in
theorem dX1_numberOf_67 : decode cX1_numberOf 67 = .ok (.ireturn, 1) := by decide +kernel
set_option maxRecDepth 20000 in
theorem dX1_numberOf_68 : decode cX1_numberOf 68 = .ok (.aload_n 0, 1) := by decide +kernel
set_option maxRecDepth 20000 in
theorem dX1_numberOf_69 : decode cX1_numberOf 69 = .ok (.invokevirtual 67, 3) := by decide +kernel
set_option maxRecDepth 20000 in
theorem dX1_numberOf_72 : decode cX1_numberOf 72 = .ok (.ireturn, 1) := by decide +kernel
set_option maxRecDepth 20000 in
theorem dX1_numberOf_73 : decode cX1_numberOf 73 = .ok (.aload_n 0, 1) := by decide +kernel
set_option maxRecDepth 20000 in
theorem dX1_numberOf_74 : decode cX1_numberOf 74 = .ok (.invokevirtual 70, 3) := by decide +kernel
set_option maxRecDepth 20000 in
theorem dX1_numberOf_77 : decode cX1_numberOf 77 = .ok (.ireturn, 1) := by decide +kernel
set_option maxRecDepth 20000 in
theorem dX1_numberOf_78 : decode cX1_numberOf 78 = .ok (.aload_n 0, 1) := by decide +kernel
set_option maxRecDepth 20000 in
theorem dX1_numberOf_79 : decode cX1_numberOf 79 = .ok (.invokevirtual 73, 3) := by decide +kernel
set_option maxRecDepth 20000 in
theorem dX1_numberOf_82 : decode cX1_numberOf 82 = .ok (.ireturn, 1) := by decide +kernel
set_option maxRecDepth 20000 in
theorem dX1_numberOf_83 : decode cX1_numberOf 83 = .ok (.aload_n 0, 1) := by decide +kernel
set_option maxRecDepth 20000 in
theorem dX1_numberOf_84 : decode cX1_numberOf 84 = .ok (.invokevirtual 76, 3) := by decide +kernel
set_option maxRecDepth 20000 in
theorem dX1_numberOf_87 : decode cX1_numberOf 87 = .ok (.ireturn, 1) := by decide +kernel
set_option maxRecDepth 20000 in
theorem dX1_numberOf_88 : decode cX1_numberOf 88 = .ok (.bipush (-2), 2) := by decide +kernel
set_option maxRecDepth 20000 in
theorem dX1_numberOf_90 : decode cX1_numberOf 90 = .ok (.ireturn, 1) := by decide +kernel
set_option maxRecDepth 20000 in
theorem dX1_rounds_0 : decode cX1_rounds 0 = .ok (.iconst 0, 1) := by decide +kernel
set_option maxRecDepth 20000 in
theorem dX1_rounds_1 : decode cX1_rounds 1 = .ok (.istore_n 1, 1) := by decide +kernel
set_option maxRecDepth 20000 in
theorem dX1_rounds_2 : decode cX1_rounds 2 = .ok (.iconst 0, 1) := by decide +kernel
set_option maxRecDepth 20000 in
theorem dX1_rounds_3 : decode cX1_rounds 3 = .ok (.istore_n 2, 1) := by decide +kernel
set_option maxRecDepth 20000 in
theorem dX1_rounds_4 : decode cX1_rounds 4 = .ok (.iload_n 2, 1) := by decide +kernel
set_option maxRecDepth 20000 in
theorem dX1_rounds_5 : decode cX1_rounds 5 = .ok (.aload_n 0, 1) := by decide +kernel
set_option maxRecDepth 20000 in
theorem dX1_rounds_6 : decode cX1_rounds 6 = .ok (.getfield 24, 3) := by decide +kernel
set_option maxRecDepth 20000 in
theorem dX1_rounds_9 : decode cX1_rounds 9 = .ok (.if_icmp .ge 20, 3) := by decide +kernel
set_option maxRecDepth 20000 in
theorem dX1_rounds_12 : decode cX1_rounds 12 = .ok (.aload_n 0, 1) := by decide +kernel
set_option maxRecDepth 20000 in
theorem dX1_rounds_13 : decode cX1_rounds 13 = .ok (.iload_n 2, 1) := by decide +kernel
set_option maxRecDepth 20000 in
theorem dX1_rounds_14 : decode cX1_rounds 14 = .ok (.invokevirtual 48, 3) := by decide +kernel
set_option maxRecDepth 20000 in
theorem dX1_rounds_17 : decode cX1_rounds 17 = .ok (.ifCond .eq 6, 3) := by decide +kernel
set_option maxRecDepth 20000 in
theorem dX1_rounds_20 : decode cX1_rounds 20 = .ok (.iinc 1 1, 3) := by decide +kernel
set_option maxRecDepth 20000 in
theorem dX1_rounds_23 : decode cX1_rounds 23 = .ok (.iinc 2 1, 3) := by decide +kernel
set_option maxRecDepth 20000 in
theorem dX1_rounds_26 : decode cX1_rounds 26 = .ok (.goto (-22), 3) := by decide +kernel
set_option maxRecDepth 20000 in
theorem dX1_rounds_29 : decode cX1_rounds 29 = .ok (.iload_n 1, 1) := by decide +kernel
set_option maxRecDepth 20000 in
theorem dX1_rounds_30 : decode cX1_rounds 30 = .ok (.ireturn, 1) := by decide +kernel
set_option maxRecDepth 20000 in
theorem dX1_records_0 : decode cX1_records 0 = .ok (.iconst 0, 1) := by decide +kernel
set_option maxRecDepth 20000 in
theorem dX1_records_1 : decode cX1_records 1 = .ok (.istore_n 1, 1) := by decide +kernel
set_option maxRecDepth 20000 in
theorem dX1_records_2 : decode cX1_records 2 = .ok (.iconst (-1), 1) := by decide +kernel
set_option maxRecDepth 20000 in
theorem dX1_records_3 : decode cX1_records 3 = .ok (.istore_n 2, 1) := by decide +kernel
set_option maxRecDepth 20000 in
theorem dX1_records_4 : decode cX1_records 4 = .ok (.iconst 0, 1) := by decide +kernel
set_option maxRecDepth 20000 in
theorem dX1_records_5 : decode cX1_records 5 = .ok (.istore_n 3, 1) := by decide +kernel
set_option maxRecDepth 20000 in
theorem dX1_records_6 : decode cX1_records 6 = .ok (.iload_n 3, 1) := by decide +kernel
set_option maxRecDepth 20000 in
theorem dX1_records_7 : decode cX1_records 7 = .ok (.aload_n 0, 1) := by decide +kernel
set_option maxRecDepth 20000 in
theorem dX1_records_8 : decode cX1_records 8 = .ok (.getfield 24, 3) := by decide +kernel
set_option maxRecDepth 20000 in
theorem dX1_records_11 : decode cX1_records 11 = .ok (.if_icmp .ge 29, 3) := by decide +kernel
set_option maxRecDepth 20000 in
theorem dX1_records_14 : decode cX1_records 14 = .ok (.aload_n 0, 1) := by decide +kernel
set_option maxRecDepth 20000 in
theorem dX1_records_15 : decode cX1_records 15 = .ok (.getfield 9, 3) := by decide +kernel
set_option maxRecDepth 20000 in
theorem dX1_records_18 : decode cX1_records 18 = .ok (.iload_n 3, 1) := by decide +kernel
set_option maxRecDepth 20000 in
theorem dX1_records_19 : decode cX1_records 19 = .ok (.iaload, 1) := by decide +kernel
set_option maxRecDepth 20000 in
theorem dX1_records_20 : decode cX1_records 20 = .ok (.iload_n 2, 1) := by decide +kernel
set_option maxRecDepth 20000 in
theorem dX1_records_21 : decode cX1_records 21 = .ok (.if_icmp .le 13, 3) := by decide +kernel
set_option maxRecDepth 20000 in
theorem dX1_records_24 : decode cX1_records 24 = .ok (.aload_n 0, 1) := by decide +kernel
set_option maxRecDepth 20000 in
theorem dX1_records_25 : decode cX1_records 25 = .ok (.getfield 9, 3) := by decide +kernel
set_option maxRecDepth 20000 in
theorem dX1_records_28 : decode cX1_records 28 = .ok (.iload_n 3, 1) := by decide +kernel
set_option maxRecDepth 20000 in
theorem dX1_records_29 : decode cX1_records 29 = .ok (.iaload, 1) := by decide +kernel
set_option maxRecDepth 20000 in
theorem dX1_records_30 : decode cX1_records 30 = .ok (.istore_n 2, 1) := by decide +kernel
set_option maxRecDepth 20000 in
theorem dX1_records_31 : decode cX1_records 31 = .ok (.iinc 1 1, 3) := by decide +kernel
set_option maxRecDepth 20000 in
theorem dX1_records_34 : decode cX1_records 34 = .ok (.iinc 3 1, 3) := by decide +kernel
set_option maxRecDepth 20000 in
theorem dX1_records_37 : decode cX1_records 37 = .ok (.goto (-31), 3) := by decide +kernel
set_option maxRecDepth 20000 in
theorem dX1_records_40 : decode cX1_records 40 = .ok (.iload_n 1, 1) := by decide +kernel
set_option maxRecDepth 20000 in
theorem dX1_records_41 : decode cX1_records 41 = .ok (.ireturn, 1) := by decide +kernel
set_option maxRecDepth 20000 in
theorem dX1_rises_0 : decode cX1_rises 0 = .ok (.iconst 0, 1) := by decide +kernel
set_option maxRecDepth 20000 in
theorem dX1_rises_1 : decode cX1_rises 1 = .ok (.istore_n 1, 1) := by decide +kernel
set_option maxRecDepth 20000 in
theorem dX1_rises_2 : decode cX1_rises 2 = .ok (.iconst 0, 1) := by decide +kernel
set_option maxRecDepth 20000 in
theorem dX1_rises_3 : decode cX1_rises 3 = .ok (.istore_n 2, 1) := by decide +kernel
set_option maxRecDepth 20000 in
theorem dX1_rises_4 : decode cX1_rises 4 = .ok (.iload_n 2, 1) := by decide +kernel
set_option maxRecDepth 20000 in
theorem dX1_rises_5 : decode cX1_rises 5 = .ok (.iconst 1, 1) := by decide +kernel
set_option maxRecDepth 20000 in
theorem dX1_rises_6 : decode cX1_rises 6 = .ok (.iadd, 1) := by decide +kernel
set_option maxRecDepth 20000 in
theorem dX1_rises_7 : decode cX1_rises 7 = .ok (.aload_n 0, 1) := by decide +kernel
set_option maxRecDepth 20000 in
theorem dX1_rises_8 : decode cX1_rises 8 = .ok (.getfield 24, 3) := by decide +kernel
set_option maxRecDepth 20000 in
theorem dX1_rises_11 : decode cX1_rises 11 = .ok (.if_icmp .ge 29, 3) := by decide +kernel
set_option maxRecDepth 20000 in
theorem dX1_rises_14 : decode cX1_rises 14 = .ok (.aload_n 0, 1) := by decide +kernel
set_option maxRecDepth 20000 in
theorem dX1_rises_15 : decode cX1_rises 15 = .ok (.getfield 9, 3) := by decide +kernel
set_option maxRecDepth 20000 in
theorem dX1_rises_18 : decode cX1_rises 18 = .ok (.iload_n 2, 1) := by decide +kernel
set_option maxRecDepth 20000 in
theorem dX1_rises_19 : decode cX1_rises 19 = .ok (.iaload, 1) := by decide +kernel
set_option maxRecDepth 20000 in
theorem dX1_rises_20 : decode cX1_rises 20 = .ok (.aload_n 0, 1) := by decide +kernel
set_option maxRecDepth 20000 in
theorem dX1_rises_21 : decode cX1_rises 21 = .ok (.getfield 9, 3) := by decide +kernel
set_option maxRecDepth 20000 in
theorem dX1_rises_24 : decode cX1_rises 24 = .ok (.iload_n 2, 1) := by decide +kernel
set_option maxRecDepth 20000 in
theorem dX1_rises_25 : decode cX1_rises 25 = .ok (.iconst 1, 1) := by decide +kernel
set_option maxRecDepth 20000 in
theorem dX1_rises_26 : decode cX1_rises 26 = .ok (.iadd, 1) := by decide +kernel
set_option maxRecDepth 20000 in
theorem dX1_rises_27 : decode cX1_rises 27 = .ok (.iaload, 1) := by decide +kernel
set_option maxRecDepth 20000 in
theorem dX1_rises_28 : decode cX1_rises 28 = .ok (.if_icmp .ge 6, 3) := by decide +kernel
set_option maxRecDepth 20000 in
theorem dX1_rises_31 : decode cX1_rises 31 = .ok (.iinc 1 1, 3) := by decide +kernel
set_option maxRecDepth 20000 in
theorem dX1_rises_34 : decode cX1_rises 34 = .ok (.iinc 2 1, 3) := by decide +kernel
set_option maxRecDepth 20000 in
theorem dX1_rises_37 : decode cX1_rises 37 = .ok (.goto (-33), 3) := by decide +kernel
set_option maxRecDepth 20000 in
theorem dX1_rises_40 : decode cX1_rises 40 = .ok (.iload_n 1, 1) := by decide +kernel
set_option maxRecDepth 20000 in
theorem dX1_rises_41 : decode cX1_rises 41 = .ok (.ireturn, 1) := by decide +kernel
set_option maxRecDepth 20000 in
theorem dX1_still_0 : decode cX1_still 0 = .ok (.iconst 0, 1) := by decide +kernel
set_option maxRecDepth 20000 in
theorem dX1_still_1 : decode cX1_still 1 = .ok (.istore_n 1, 1) := by decide +kernel
set_option maxRecDepth 20000 in
theorem dX1_still_2 : decode cX1_still 2 = .ok (.iconst 0, 1) := by decide +kernel
set_option maxRecDepth 20000 in
theorem dX1_still_3 : decode cX1_still 3 = .ok (.istore_n 2, 1) := by decide +kernel
set_option maxRecDepth 20000 in
theorem dX1_still_4 : decode cX1_still 4 = .ok (.iload_n 2, 1) := by decide +kernel
set_option maxRecDepth 20000 in
theorem dX1_still_5 : decode cX1_still 5 = .ok (.aload_n 0, 1) := by decide +kernel
set_option maxRecDepth 20000 in
theorem dX1_still_6 : decode cX1_still 6 = .ok (.getfield 24, 3) := by decide +kernel
set_option maxRecDepth 20000 in
theorem dX1_still_9 : decode cX1_still 9 = .ok (.if_icmp .ge 22, 3) := by decide +kernel
set_option maxRecDepth 20000 in
theorem dX1_still_12 : decode cX1_still 12 = .ok (.aload_n 0, 1) := by decide +kernel
set_option maxRecDepth 20000 in
theorem dX1_still_13 : decode cX1_still 13 = .ok (.getfield 9, 3) := by decide +kernel
set_option maxRecDepth 20000 in
theorem dX1_still_16 : decode cX1_still 16 = .ok (.iload_n 2, 1) := by decide +kernel
set_option maxRecDepth 20000 in
theorem dX1_still_17 : decode cX1_still 17 = .ok (.iaload, 1) := by decide +kernel
set_option maxRecDepth 20000 in
theorem dX1_still_18 : decode cX1_still 18 = .ok (.iload_n 2, 1) := by decide +kernel
set_option maxRecDepth 20000 in
theorem dX1_still_19 : decode cX1_still 19 = .ok (.if_icmp .ne 6, 3) := by decide +kernel
set_option maxRecDepth 20000 in
theorem dX1_still_22 : decode cX1_still 22 = .ok (.iinc 1 1, 3) := by decide +kernel
set_option maxRecDepth 20000 in
theorem dX1_still_25 : decode cX1_still 25 = .ok (.iinc 2 1, 3) := by decide +kernel
set_option maxRecDepth 20000 in
theorem dX1_still_28 : decode cX1_still 28 = .ok (.goto (-24), 3) := by decide +kernel
set_option maxRecDepth 20000 in
theorem dX1_still_31 : decode cX1_still 31 = .ok (.iload_n 1, 1) := by decide +kernel
set_option maxRecDepth 20000 in
theorem dX1_still_32 : decode cX1_still 32 = .ok (.ireturn, 1) := by decide +kernel
set_option maxRecDepth 20000 in
theorem dX1_longestRound_0 : decode cX1_longestRound 0 = .ok (.iconst 0, 1) := by decide +kernel
set_option maxRecDepth 20000 in
theorem dX1_longestRound_1 : decode cX1_longestRound 1 = .ok (.istore_n 1, 1) := by decide +kernel
set_option maxRecDepth 20000 in
theorem dX1_longestRound_2 : decode cX1_longestRound 2 = .ok (.iconst 0, 1) := by decide +kernel
set_option maxRecDepth 20000 in
theorem dX1_longestRound_3 : decode cX1_longestRound 3 = .ok (.istore_n 2, 1) := by decide +kernel
set_option maxRecDepth 20000 in
theorem dX1_longestRound_4 : decode cX1_longestRound 4 = .ok (.iload_n 2, 1) := by decide +kernel
set_option maxRecDepth 20000 in
theorem dX1_longestRound_5 : decode cX1_longestRound 5 = .ok (.aload_n 0, 1) := by decide +kernel
set_option maxRecDepth 20000 in
theorem dX1_longestRound_6 : decode cX1_longestRound 6 = .ok (.getfield 24, 3) := by decide +kernel
set_option maxRecDepth 20000 in
theorem dX1_longestRound_9 : decode cX1_longestRound 9 = .ok (.if_icmp .ge 19, 3) := by decide +kernel
set_option maxRecDepth 20000 in
theorem dX1_longestRound_12 : decode cX1_longestRound 12 = .ok (.iload_n 1, 1) := by decide +kernel
set_option maxRecDepth 20000 in
theorem dX1_longestRound_13 : decode cX1_longestRound 13 = .ok (.aload_n 0, 1) := by decide +kernel
set_option maxRecDepth 20000 in
theorem dX1_longestRound_14 : decode cX1_longestRound 14 = .ok (.iload_n 2, 1) := by decide +kernel
set_option maxRecDepth 20000 in
theorem dX1_longestRound_15 : decode cX1_longestRound 15 = .ok (.invokevirtual 51, 3) := by decide +kernel
set_option maxRecDepth 20000 in
theorem dX1_longestRound_18 : decode cX1_longestRound 18 = .ok (.invokestatic 45, 3) := by decide +kernel
set_option maxRecDepth 20000 in
theorem dX1_longestRound_21 : decode cX1_longestRound 21 = .ok (.istore_n 1, 1) := by decide +kernel
set_option maxRecDepth 20000 in
theorem dX1_longestRound_22 : decode cX1_longestRound 22 = .ok (.iinc 2 1, 3) := by decide +kernel
set_option maxRecDepth 20000 in
theorem dX1_longestRound_25 : decode cX1_longestRound 25 = .ok (.goto (-21), 3) := by decide +kernel
set_option maxRecDepth 20000 in
theorem dX1_longestRound_28 : decode cX1_longestRound 28 = .ok (.iload_n 1, 1) := by decide +kernel
set_option maxRecDepth 20000 in
theorem dX1_longestRound_29 : decode cX1_longestRound 29 = .ok (.ireturn, 1) := by decide +kernel
set_option maxRecDepth 20000 in
theorem dX1_pairsOut_0 : decode cX1_pairsOut 0 = .ok (.iconst 0, 1) := by decide +kernel
set_option maxRecDepth 20000 in
theorem dX1_pairsOut_1 : decode cX1_pairsOut 1 = .ok (.istore_n 1, 1) := by decide +kernel
set_option maxRecDepth 20000 in
theorem dX1_pairsOut_2 : decode cX1_pairsOut 2 = .ok (.iconst 0, 1) := by decide +kernel
set_option maxRecDepth 20000 in
theorem dX1_pairsOut_3 : decode cX1_pairsOut 3 = .ok (.istore_n 2, 1) := by decide +kernel
set_option maxRecDepth 20000 in
theorem dX1_pairsOut_4 : decode cX1_pairsOut 4 = .ok (.iload_n 2, 1) := by decide +kernel
set_option maxRecDepth 20000 in
theorem dX1_pairsOut_5 : decode cX1_pairsOut 5 = .ok (.aload_n 0, 1) := by decide +kernel
set_option maxRecDepth 20000 in
theorem dX1_pairsOut_6 : decode cX1_pairsOut 6 = .ok (.getfield 24, 3) := by decide +kernel
set_option maxRecDepth 20000 in
theorem dX1_pairsOut_9 : decode cX1_pairsOut 9 = .ok (.if_icmp .ge 40, 3) := by decide +kernel
set_option maxRecDepth 20000 in
theorem dX1_pairsOut_12 : decode cX1_pairsOut 12 = .ok (.iconst 0, 1) := by decide +kernel
set_option maxRecDepth 20000 in
theorem dX1_pairsOut_13 : decode cX1_pairsOut 13 = .ok (.istore_n 3, 1) := by decide +kernel
set_option maxRecDepth 20000 in
theorem dX1_pairsOut_14 : decode cX1_pairsOut 14 = .ok (.iload_n 3, 1) := by decide +kernel
set_option maxRecDepth 20000 in
theorem dX1_pairsOut_15 : decode cX1_pairsOut 15 = .ok (.iload_n 2, 1) := by decide +kernel
set_option maxRecDepth 20000 in
theorem dX1_pairsOut_16 : decode cX1_pairsOut 16 = .ok (.if_icmp .ge 27, 3) := by decide +kernel
set_option maxRecDepth 20000 in
theorem dX1_pairsOut_19 : decode cX1_pairsOut 19 = .ok (.aload_n 0, 1) := by decide +kernel
set_option maxRecDepth 20000 in
theorem dX1_pairsOut_20 : decode cX1_pairsOut 20 = .ok (.getfield 9, 3) := by decide +kernel
set_option maxRecDepth 20000 in
theorem dX1_pairsOut_23 : decode cX1_pairsOut 23 = .ok (.iload_n 3, 1) := by decide +kernel
set_option maxRecDepth 20000 in
theorem dX1_pairsOut_24 : decode cX1_pairsOut 24 = .ok (.iaload, 1) := by decide +kernel
set_option maxRecDepth 20000 in
theorem dX1_pairsOut_25 : decode cX1_pairsOut 25 = .ok (.aload_n 0, 1) := by decide +kernel
set_option maxRecDepth 20000 in
theorem dX1_pairsOut_26 : decode cX1_pairsOut 26 = .ok (.getfield 9, 3) := by decide +kernel
set_option maxRecDepth 20000 in
theorem dX1_pairsOut_29 : decode cX1_pairsOut 29 = .ok (.iload_n 2, 1) := by decide +kernel
set_option maxRecDepth 20000 in
theorem dX1_pairsOut_30 : decode cX1_pairsOut 30 = .ok (.iaload, 1) := by decide +kernel
set_option maxRecDepth 20000 in
theorem dX1_pairsOut_31 : decode cX1_pairsOut 31 = .ok (.if_icmp .le 6, 3) := by decide +kernel
set_option maxRecDepth 20000 in
theorem dX1_pairsOut_34 : decode cX1_pairsOut 34 = .ok (.iinc 1 1, 3) := by decide +kernel
set_option maxRecDepth 20000 in
theorem dX1_pairsOut_37 : decode cX1_pairsOut 37 = .ok (.iinc 3 1, 3) := by decide +kernel
set_option maxRecDepth 20000 in
theorem dX1_pairsOut_40 : decode cX1_pairsOut 40 = .ok (.goto (-26), 3) := by decide +kernel
set_option maxRecDepth 20000 in
theorem dX1_pairsOut_43 : decode cX1_pairsOut 43 = .ok (.iinc 2 1, 3) := by decide +kernel
set_option maxRecDepth 20000 in
theorem dX1_pairsOut_46 : decode cX1_pairsOut 46 = .ok (.goto (-42), 3) := by decide +kernel
set_option maxRecDepth 20000 in
theorem dX1_pairsOut_49 : decode cX1_pairsOut 49 = .ok (.iload_n 1, 1) := by decide +kernel
set_option maxRecDepth 20000 in
theorem dX1_pairsOut_50 : decode cX1_pairsOut 50 = .ok (.ireturn, 1) := by decide +kernel
set_option maxRecDepth 20000 in
theorem dX1_longestRise_0 : decode cX1_longestRise 0 = .ok (.iconst 0, 1) := by decide +kernel
set_option maxRecDepth 20000 in
theorem dX1_longestRise_1 : decode cX1_longestRise 1 = .ok (.istore_n 1, 1) := by decide +kernel
set_option maxRecDepth 20000 in
theorem dX1_longestRise_2 : decode cX1_longestRise 2 = .ok (.iconst 0, 1) := by decide +kernel
set_option maxRecDepth 20000 in
theorem dX1_longestRise_3 : decode cX1_longestRise 3 = .ok (.istore_n 2, 1) := by decide +kernel
set_option maxRecDepth 20000 in
theorem dX1_longestRise_4 : decode cX1_longestRise 4 = .ok (.iload_n 2, 1) := by decide +kernel
set_option maxRecDepth 20000 in
theorem dX1_longestRise_5 : decode cX1_longestRise 5 = .ok (.aload_n 0, 1) := by decide +kernel
set_option maxRecDepth 20000 in
theorem dX1_longestRise_6 : decode cX1_longestRise 6 = .ok (.getfield 24, 3) := by decide +kernel
set_option maxRecDepth 20000 in
theorem dX1_longestRise_9 : decode cX1_longestRise 9 = .ok (.if_icmp .ge 74, 3) := by decide +kernel
set_option maxRecDepth 20000 in
theorem dX1_longestRise_12 : decode cX1_longestRise 12 = .ok (.iconst 0, 1) := by decide +kernel
set_option maxRecDepth 20000 in
theorem dX1_longestRise_13 : decode cX1_longestRise 13 = .ok (.istore_n 3, 1) := by decide +kernel
set_option maxRecDepth 20000 in
theorem dX1_longestRise_14 : decode cX1_longestRise 14 = .ok (.iconst 0, 1) := by decide +kernel
set_option maxRecDepth 20000 in
theorem dX1_longestRise_15 : decode cX1_longestRise 15 = .ok (.istore 4, 2) := by decide +kernel
set_option maxRecDepth 20000 in
theorem dX1_longestRise_17 : decode cX1_longestRise 17 = .ok (.iload 4, 2) := by decide +kernel
set_option maxRecDepth 20000 in
theorem dX1_longestRise_19 : decode cX1_longestRise 19 = .ok (.iload_n 2, 1) := by decide +kernel
set_option maxRecDepth 20000 in
theorem dX1_longestRise_20 : decode cX1_longestRise 20 = .ok (.if_icmp .ge 37, 3) := by decide +kernel
set_option maxRecDepth 20000 in
theorem dX1_longestRise_23 : decode cX1_longestRise 23 = .ok (.aload_n 0, 1) := by decide +kernel
set_option maxRecDepth 20000 in
theorem dX1_longestRise_24 : decode cX1_longestRise 24 = .ok (.getfield 9, 3) := by decide +kernel
set_option maxRecDepth 20000 in
theorem dX1_longestRise_27 : decode cX1_longestRise 27 = .ok (.iload 4, 2) := by decide +kernel
set_option maxRecDepth 20000 in
theorem dX1_longestRise_29 : decode cX1_longestRise 29 = .ok (.iaload, 1) := by decide +kernel
set_option maxRecDepth 20000 in
theorem dX1_longestRise_30 : decode cX1_longestRise 30 = .ok (.aload_n 0, 1) := by decide +kernel
set_option maxRecDepth 20000 in
theorem dX1_longestRise_31 : decode cX1_longestRise 31 = .ok (.getfield 9, 3) := by decide +kernel
set_option maxRecDepth 20000 in
theorem dX1_longestRise_34 : decode cX1_longestRise 34 = .ok (.iload_n 2, 1) := by decide +kernel
set_option maxRecDepth 20000 in
theorem dX1_longestRise_35 : decode cX1_longestRise 35 = .ok (.iaload, 1) := by decide +kernel
set_option maxRecDepth 20000 in
theorem dX1_longestRise_36 : decode cX1_longestRise 36 = .ok (.if_icmp .ge 15, 3) := by decide +kernel
set_option maxRecDepth 20000 in
theorem dX1_longestRise_39 : decode cX1_longestRise 39 = .ok (.iload_n 3, 1) := by decide +kernel
set_option maxRecDepth 20000 in
theorem dX1_longestRise_40 : decode cX1_longestRise 40 = .ok (.aload_n 0, 1) := by decide +kernel
set_option maxRecDepth 20000 in
theorem dX1_longestRise_41 : decode cX1_longestRise 41 = .ok (.getfield 15, 3) := by decide +kernel
set_option maxRecDepth 20000 in
theorem dX1_longestRise_44 : decode cX1_longestRise 44 = .ok (.iload 4, 2) := by decide +kernel
set_option maxRecDepth 20000 in
theorem dX1_longestRise_46 : decode cX1_longestRise 46 = .ok (.iaload, 1) := by decide +kernel
set_option maxRecDepth 20000 in
theorem dX1_longestRise_47 : decode cX1_longestRise 47 = .ok (.invokestatic 45, 3) := by decide +kernel
set_option maxRecDepth 20000 in
theorem dX1_longestRise_50 : decode cX1_longestRise 50 = .ok (.istore_n 3, 1) := by decide +kernel
set_option maxRecDepth 20000 in
theorem dX1_longestRise_51 : decode cX1_longestRise 51 = .ok (.iinc 4 1, 3) := by decide +kernel
set_option maxRecDepth 20000 in
theorem dX1_longestRise_54 : decode cX1_longestRise 54 = .ok (.goto (-37), 3) := by decide +kernel
set_option maxRecDepth 20000 in
theorem dX1_longestRise_57 : decode cX1_longestRise 57 = .ok (.aload_n 0, 1) := by decide +kernel
set_option maxRecDepth 20000 in
theorem dX1_longestRise_58 : decode cX1_longestRise 58 = .ok (.getfield 15, 3) := by decide +kernel
set_option maxRecDepth 20000 in
theorem dX1_longestRise_61 : decode cX1_longestRise 61 = .ok (.iload_n 2, 1) := by decide +kernel
set_option maxRecDepth 20000 in
theorem dX1_longestRise_62 : decode cX1_longestRise 62 = .ok (.iload_n 3, 1) := by decide +kernel
set_option maxRecDepth 20000 in
theorem dX1_longestRise_63 : decode cX1_longestRise 63 = .ok (.iconst 1, 1) := by decide +kernel
set_option maxRecDepth 20000 in
theorem dX1_longestRise_64 : decode cX1_longestRise 64 = .ok (.iadd, 1) := by decide +kernel
set_option maxRecDepth 20000 in
theorem dX1_longestRise_65 : decode cX1_longestRise 65 = .ok (.iastore, 1) := by decide +kernel
set_option maxRecDepth 20000 in
theorem dX1_longestRise_66 : decode cX1_longestRise 66 = .ok (.iload_n 1, 1) := by decide +kernel
set_option maxRecDepth 20000 in
theorem dX1_longestRise_67 : decode cX1_longestRise 67 = .ok (.aload_n 0, 1) := by decide +kernel
set_option maxRecDepth 20000 in
theorem dX1_longestRise_68 : decode cX1_longestRise 68 = .ok (.getfield 15, 3) := by decide +kernel
set_option maxRecDepth 20000 in
theorem dX1_longestRise_71 : decode cX1_longestRise 71 = .ok (.iload_n 2, 1) := by decide +kernel
set_option maxRecDepth 20000 in
theorem dX1_longestRise_72 : decode cX1_longestRise 72 = .ok (.iaload, 1) := by decide +kernel
set_option maxRecDepth 20000 in
theorem dX1_longestRise_73 : decode cX1_longestRise 73 = .ok (.invokestatic 45, 3) := by decide +kernel
set_option maxRecDepth 20000 in
theorem dX1_longestRise_76 : decode cX1_longestRise 76 = .ok (.istore_n 1, 1) := by decide +kernel
set_option maxRecDepth 20000 in
theorem dX1_longestRise_77 : decode cX1_longestRise 77 = .ok (.iinc 2 1, 3) := by decide +kernel
set_option maxRecDepth 20000 in
theorem dX1_longestRise_80 : decode cX1_longestRise 80 = .ok (.goto (-76), 3) := by decide +kernel
set_option maxRecDepth 20000 in
theorem dX1_longestRise_83 : decode cX1_longestRise 83 = .ok (.iload_n 1, 1) := by decide +kernel
set_option maxRecDepth 20000 in
theorem dX1_longestRise_84 : decode cX1_longestRise 84 = .ok (.ireturn, 1) := by decide +kernel
set_option maxRecDepth 20000 in
theorem dX1_turns_0 : decode cX1_turns 0 = .ok (.iconst 1, 1) := by decide +kernel
set_option maxRecDepth 20000 in
theorem dX1_turns_1 : decode cX1_turns 1 = .ok (.istore_n 1, 1) := by decide +kernel
set_option maxRecDepth 20000 in
theorem dX1_turns_2 : decode cX1_turns 2 = .ok (.iconst 0, 1) := by decide +kernel
set_option maxRecDepth 20000 in
theorem dX1_turns_3 : decode cX1_turns 3 = .ok (.istore_n 2, 1) := by decide +kernel
set_option maxRecDepth 20000 in
theorem dX1_turns_4 : decode cX1_turns 4 = .ok (.iload_n 2, 1) := by decide +kernel
set_option maxRecDepth 20000 in
theorem dX1_turns_5 : decode cX1_turns 5 = .ok (.aload_n 0, 1) := by decide +kernel
set_option maxRecDepth 20000 in
theorem dX1_turns_6 : decode cX1_turns 6 = .ok (.getfield 24, 3) := by decide +kernel
set_option maxRecDepth 20000 in
theorem dX1_turns_9 : decode cX1_turns 9 = .ok (.if_icmp .ge 27, 3) := by decide +kernel
set_option maxRecDepth 20000 in
theorem dX1_turns_12 : decode cX1_turns 12 = .ok (.aload_n 0, 1) := by decide +kernel
set_option maxRecDepth 20000 in
theorem dX1_turns_13 : decode cX1_turns 13 = .ok (.iload_n 2, 1) := by decide +kernel
set_option maxRecDepth 20000 in
theorem dX1_turns_14 : decode cX1_turns 14 = .ok (.invokevirtual 48, 3) := by decide +kernel
set_option maxRecDepth 20000 in
theorem dX1_turns_17 : decode cX1_turns 17 = .ok (.ifCond .eq 13, 3) := by decide +kernel
set_option maxRecDepth 20000 in
theorem dX1_turns_20 : decode cX1_turns 20 = .ok (.iload_n 1, 1) := by decide +kernel
set_option maxRecDepth 20000 in
theorem dX1_turns_21 : decode cX1_turns 21 = .ok (.aload_n 0, 1) := by decide +kernel
set_option maxRecDepth 20000 in
theorem dX1_turns_22 : decode cX1_turns 22 = .ok (.iload_n 2, 1) := by decide +kernel
set_option maxRecDepth 20000 in
theorem dX1_turns_23 : decode cX1_turns 23 = .ok (.invokevirtual 51, 3) := by decide +kernel
set_option maxRecDepth 20000 in
theorem dX1_turns_26 : decode cX1_turns 26 = .ok (.invokestatic 79, 3) := by decide +kernel
set_option maxRecDepth 20000 in
theorem dX1_turns_29 : decode cX1_turns 29 = .ok (.istore_n 1, 1) := by decide +kernel
set_option maxRecDepth 20000 in
theorem dX1_turns_30 : decode cX1_turns 30 = .ok (.iinc 2 1, 3) := by decide +kernel
set_option maxRecDepth 20000 in
theorem dX1_turns_33 : decode cX1_turns 33 = .ok (.goto (-29), 3) := by decide +kernel
set_option maxRecDepth 20000 in
theorem dX1_turns_36 : decode cX1_turns 36 = .ok (.iload_n 1, 1) := by decide +kernel
set_option maxRecDepth 20000 in
theorem dX1_turns_37 : decode cX1_turns 37 = .ok (.ireturn, 1) := by decide +kernel
set_option maxRecDepth 20000 in
theorem dX2_init_0 : decode cX2_init 0 = .ok (.aload_n 0, 1) := by decide +kernel
set_option maxRecDepth 20000 in
theorem dX2_init_1 : decode cX2_init 1 = .ok (.invokespecial 3, 3) := by decide +kernel
set_option maxRecDepth 20000 in
theorem dX2_init_4 : decode cX2_init 4 = .ok (.aload_n 0, 1) := by decide +kernel
set_option maxRecDepth 20000 in
theorem dX2_init_5 : decode cX2_init 5 = .ok (.bipush 18, 2) := by decide +kernel
set_option maxRecDepth 20000 in
theorem dX2_init_7 : decode cX2_init 7 = .ok (.newarray .int, 2) := by decide +kernel
set_option maxRecDepth 20000 in
theorem dX2_init_9 : decode cX2_init 9 = .ok (.putfield 9, 3) := by decide +kernel
set_option maxRecDepth 20000 in
theorem dX2_init_12 : decode cX2_init 12 = .ok (.aload_n 0, 1) := by decide +kernel
set_option maxRecDepth 20000 in
theorem dX2_init_13 : decode cX2_init 13 = .ok (.iconst 1, 1) := by decide +kernel
set_option maxRecDepth 20000 in
theorem dX2_init_14 : decode cX2_init 14 = .ok (.putfield 15, 3) := by decide +kernel
set_option maxRecDepth 20000 in
theorem dX2_init_17 : decode cX2_init 17 = .ok (.aload_n 0, 1) := by decide +kernel
set_option maxRecDepth 20000 in
theorem dX2_init_18 : decode cX2_init 18 = .ok (.getfield 9, 3) := by decide +kernel
set_option maxRecDepth 20000 in
theorem dX2_init_21 : decode cX2_init 21 = .ok (.iconst 0, 1) := by decide +kernel
set_option maxRecDepth 20000 in
theorem dX2_init_22 : decode cX2_init 22 = .ok (.iload_n 1, 1) := by decide +kernel
set_option maxRecDepth 20000 in
theorem dX2_init_23 : decode cX2_init 23 = .ok (.iastore, 1) := by decide +kernel
set_option maxRecDepth 20000 in
theorem dX2_init_24 : decode cX2_init 24 = .ok (.return_, 1) := by decide +kernel
set_option maxRecDepth 20000 in
theorem dX2_firstPart_0 : decode cX2_firstPart 0 = .ok (.aload_n 0, 1) := by decide +kernel
set_option maxRecDepth 20000 in
theorem dX2_firstPart_1 : decode cX2_firstPart 1 = .ok (.getfield 9, 3) := by decide +kernel
set_option maxRecDepth 20000 in
theorem dX2_firstPart_4 : decode cX2_firstPart 4 = .ok (.iconst 0, 1) := by decide +kernel
set_option maxRecDepth 20000 in
theorem dX2_firstPart_5 : decode cX2_firstPart 5 = .ok (.iaload, 1) := by decide +kernel
set_option maxRecDepth 20000 in
theorem dX2_firstPart_6 : decode cX2_firstPart 6 = .ok (.ireturn, 1) := by decide +kernel
set_option maxRecDepth 20000 in
theorem dX2_goOn_0 : decode cX2_goOn 0 = .ok (.aload_n 0, 1) := by decide +kernel
set_option maxRecDepth 20000 in
theorem dX2_goOn_1 : decode cX2_goOn 1 = .ok (.getfield 15, 3) := by decide +kernel
set_option maxRecDepth 20000 in
theorem dX2_goOn_4 : decode cX2_goOn 4 = .ok (.iconst 1, 1) := by decide +kernel
set_option maxRecDepth 20000 in
theorem dX2_goOn_5 : decode cX2_goOn 5 = .ok (.isub, 1) := by decide +kernel
set_option maxRecDepth 20000 in
theorem dX2_goOn_6 : decode cX2_goOn 6 = .ok (.istore_n 1, 1) := by decide +kernel
set_option maxRecDepth 20000 in
theorem dX2_goOn_7 : decode cX2_goOn 7 = .ok (.iload_n 1, 1) := by decide +kernel
set_option maxRecDepth 20000 in
theorem dX2_goOn_8 : decode cX2_goOn 8 = .ok (.ifCond .lt 19, 3) := by decide +kernel
set_option maxRecDepth 20000 in
theorem dX2_goOn_11 : decode cX2_goOn 11 = .ok (.aload_n 0, 1) := by decide +kernel
set_option maxRecDepth 20000 in
theorem dX2_goOn_12 : decode cX2_goOn 12 = .ok (.getfield 9, 3) := by decide +kernel
set_option maxRecDepth 20000 in
theorem dX2_goOn_15 : decode cX2_goOn 15 = .ok (.iload_n 1, 1) := by decide +kernel
set_option maxRecDepth 20000 in
theorem dX2_goOn_16 : decode cX2_goOn 16 = .ok (.iaload, 1) := by decide +kernel
set_option maxRecDepth 20000 in
theorem dX2_goOn_17 : decode cX2_goOn 17 = .ok (.iconst 1, 1) := by decide +kernel
set_option maxRecDepth 20000 in
theorem dX2_goOn_18 : decode cX2_goOn 18 = .ok (.if_icmp .ne 9, 3) := by decide +kernel
set_option maxRecDepth 20000 in
theorem dX2_goOn_21 : decode cX2_goOn 21 = .ok (.iinc 1 (-1), 3) := by decide +kernel
set_option maxRecDepth 20000 in
theorem dX2_goOn_24 : decode cX2_goOn 24 = .ok (.goto (-17), 3) := by decide +kernel
set_option maxRecDepth 20000 in
theorem dX2_goOn_27 : decode cX2_goOn 27 = .ok (.iload_n 1, 1) := by decide +kernel
set_option maxRecDepth 20000 in
theorem dX2_goOn_28 : decode cX2_goOn 28 = .ok (.ifCond .ge 5, 3) := by decide +kernel
set_option maxRecDepth 20000 in
theorem dX2_goOn_31 : decode cX2_goOn 31 = .ok (.iconst 0, 1) := by decide +kernel
set_option maxRecDepth 20000 in
theorem dX2_goOn_32 : decode cX2_goOn 32 = .ok (.ireturn, 1) := by decide +kernel
set_option maxRecDepth 20000 in
theorem dX2_goOn_33 : decode cX2_goOn 33 = .ok (.aload_n 0, 1) := by decide +kernel
set_option maxRecDepth 20000 in
theorem dX2_goOn_34 : decode cX2_goOn 34 = .ok (.getfield 15, 3) := by decide +kernel
set_option maxRecDepth 20000 in
theorem dX2_goOn_37 : decode cX2_goOn 37 = .ok (.iload_n 1, 1) := by decide +kernel
set_option maxRecDepth 20000 in
theorem dX2_goOn_38 : decode cX2_goOn 38 = .ok (.isub, 1) := by decide +kernel
set_option maxRecDepth 20000 in
theorem dX2_goOn_39 : decode cX2_goOn 39 = .ok (.istore_n 2, 1) := by decide +kernel
set_option maxRecDepth 20000 in
theorem dX2_goOn_40 : decode cX2_goOn 40 = .ok (.aload_n 0, 1) := by decide +kernel
set_option maxRecDepth 20000 in
theorem dX2_goOn_41 : decode cX2_goOn 41 = .ok (.getfield 9, 3) := by decide +kernel
set_option maxRecDepth 20000 in
theorem dX2_goOn_44 : decode cX2_goOn 44 = .ok (.iload_n 1, 1) := by decide +kernel
set_option maxRecDepth 20000 in
theorem dX2_goOn_45 : decode cX2_goOn 45 = .ok (.iaload, 1) := by decide +kernel
set_option maxRecDepth 20000 in
theorem dX2_goOn_46 : decode cX2_goOn 46 = .ok (.iconst 1, 1) := by decide +kernel
set_option maxRecDepth 20000 in
theorem dX2_goOn_47 : decode cX2_goOn 47 = .ok (.isub, 1) := by decide +kernel
set_option maxRecDepth 20000 in
theorem dX2_goOn_48 : decode cX2_goOn 48 = .ok (.istore_n 3, 1) := by decide +kernel
set_option maxRecDepth 20000 in
theorem dX2_goOn_49 : decode cX2_goOn 49 = .ok (.aload_n 0, 1) := by decide +kernel
set_option maxRecDepth 20000 in
theorem dX2_goOn_50 : decode cX2_goOn 50 = .ok (.getfield 9, 3) := by decide +kernel
set_option maxRecDepth 20000 in
theorem dX2_goOn_53 : decode cX2_goOn 53 = .ok (.iload_n 1, 1) := by decide +kernel
set_option maxRecDepth 20000 in
theorem dX2_goOn_54 : decode cX2_goOn 54 = .ok (.iload_n 3, 1) := by decide +kernel
set_option maxRecDepth 20000 in
theorem dX2_goOn_55 : decode cX2_goOn 55 = .ok (.iastore, 1) := by decide +kernel
set_option maxRecDepth 20000 in
theorem dX2_goOn_56 : decode cX2_goOn 56 = .ok (.aload_n 0, 1) := by decide +kernel
set_option maxRecDepth 20000 in
theorem dX2_goOn_57 : decode cX2_goOn 57 = .ok (.iload_n 1, 1) := by decide +kernel
set_option maxRecDepth 20000 in
theorem dX2_goOn_58 : decode cX2_goOn 58 = .ok (.iconst 1, 1) := by decide +kernel
set_option maxRecDepth 20000 in
theorem dX2_goOn_59 : decode cX2_goOn 59 = .ok (.iadd, 1) := by decide +kernel
set_option maxRecDepth 20000 in
theorem dX2_goOn_60 : decode cX2_goOn 60 = .ok (.putfield 15, 3) := by decide +kernel
set_option maxRecDepth 20000 in
theorem dX2_goOn_63 : decode cX2_goOn 63 = .ok (.iload_n 2, 1) := by decide +kernel
set_option maxRecDepth 20000 in
theorem dX2_goOn_64 : decode cX2_goOn 64 = .ok (.ifCond .le 51, 3) := by decide +kernel
set_option maxRecDepth 20000 in
theorem dX2_goOn_67 : decode cX2_goOn 67 = .ok (.aload_n 0, 1) := by decide +kernel
set_option maxRecDepth 20000 in
theorem dX2_goOn_68 : decode cX2_goOn 68 = .ok (.getfield 15, 3) := by decide +kernel
set_option maxRecDepth 20000 in
theorem dX2_goOn_71 : decode cX2_goOn 71 = .ok (.bipush 18, 2) := by decide +kernel
set_option maxRecDepth 20000 in
theorem dX2_goOn_73 : decode cX2_goOn 73 = .ok (.if_icmp .ge 42, 3) := by decide +kernel
set_option maxRecDepth 20000 in
theorem dX2_goOn_76 : decode cX2_goOn 76 = .ok (.aload_n 0, 1) := by decide +kernel
set_option maxRecDepth 20000 in
theorem dX2_goOn_77 : decode cX2_goOn 77 = .ok (.getfield 9, 3) := by decide +kernel
set_option maxRecDepth 20000 in
theorem dX2_goOn_80 : decode cX2_goOn 80 = .ok (.aload_n 0, 1) := by decide +kernel
set_option maxRecDepth 20000 in
theorem dX2_goOn_81 : decode cX2_goOn 81 = .ok (.getfield 15, 3) := by decide +kernel
set_option maxRecDepth 20000 in
theorem dX2_goOn_84 : decode cX2_goOn 84 = .ok (.iload_n 2, 1) := by decide +kernel
set_option maxRecDepth 20000 in
theorem dX2_goOn_85 : decode cX2_goOn 85 = .ok (.iload_n 3, 1) := by decide +kernel
set_option maxRecDepth 20000 in
theorem dX2_goOn_86 : decode cX2_goOn 86 = .ok (.invokestatic 19, 3) := by decide +kernel
set_option maxRecDepth 20000 in
theorem dX2_goOn_89 : decode cX2_goOn 89 = .ok (.iastore, 1) := by decide +kernel
set_option maxRecDepth 20000 in
theorem dX2_goOn_90 : decode cX2_goOn 90 = .ok (.iload_n 2, 1) := by decide +kernel
set_option maxRecDepth 20000 in
theorem dX2_goOn_91 : decode cX2_goOn 91 = .ok (.aload_n 0, 1) := by decide +kernel
set_option maxRecDepth 20000 in
theorem dX2_goOn_92 : decode cX2_goOn 92 = .ok (.getfield 9, 3) := by decide +kernel
set_option maxRecDepth 20000 in
theorem dX2_goOn_95 : decode cX2_goOn 95 = .ok (.aload_n 0, 1) := by decide +kernel
set_option maxRecDepth 20000 in
theorem dX2_goOn_96 : decode cX2_goOn 96 = .ok (.getfield 15, 3) := by decide +kernel
set_option maxRecDepth 20000 in
theorem dX2_goOn_99 : decode cX2_goOn 99 = .ok (.iaload, 1) := by decide +kernel
set_option maxRecDepth 20000 in
theorem dX2_goOn_100 : decode cX2_goOn 100 = .ok (.isub, 1) := by decide +kernel
set_option maxRecDepth 20000 in
theorem dX2_goOn_101 : decode cX2_goOn 101 = .ok (.istore_n 2, 1) := by decide +kernel
set_option maxRecDepth 20000 in
theorem dX2_goOn_102 : decode cX2_goOn 102 = .ok (.aload_n 0, 1) := by decide +kernel
set_option maxRecDepth 20000 in
theorem dX2_goOn_103 : decode cX2_goOn 103 = .ok (.dup, 1) := by decide +kernel
set_option maxRecDepth 20000 in
theorem dX2_goOn_104 : decode cX2_goOn 104 = .ok (.getfield 15, 3) := by decide +kernel
set_option maxRecDepth 20000 in
theorem dX2_goOn_107 : decode cX2_goOn 107 = .ok (.iconst 1, 1) := by decide +kernel
set_option maxRecDepth 20000 in
theorem dX2_goOn_108 : decode cX2_goOn 108 = .ok (.iadd, 1) := by decide +kernel
set_option maxRecDepth 20000 in
theorem dX2_goOn_109 : decode cX2_goOn 109 = .ok (.putfield 15, 3) := by decide +kernel
set_option maxRecDepth 20000 in
theorem dX2_goOn_112 : decode cX2_goOn 112 = .ok (.goto (-49), 3) := by decide +kernel
set_option maxRecDepth 20000 in
theorem dX2_goOn_115 : decode cX2_goOn 115 = .ok (.iconst 1, 1) := by decide +kernel
set_option maxRecDepth 20000 in
theorem dX2_goOn_116 : decode cX2_goOn 116 = .ok (.ireturn, 1) := by decide +kernel
set_option maxRecDepth 20000 in
theorem dX2_hookProduct_0 : decode cX2_hookProduct 0 = .ok (.lconst 1, 1) := by decide +kernel
set_option maxRecDepth 20000 in
theorem dX2_hookProduct_1 : decode cX2_hookProduct 1 = .ok (.lstore_n 1, 1) := by decide +kernel
set_option maxRecDepth 20000 in
theorem dX2_hookProduct_2 : decode cX2_hookProduct 2 = .ok (.iconst 0, 1) := by decide +kernel
set_option maxRecDepth 20000 in
theorem dX2_hookProduct_3 : decode cX2_hookProduct 3 = .ok (.istore_n 3, 1) := by decide +kernel
set_option maxRecDepth 20000 in
theorem dX2_hookProduct_4 : decode cX2_hookProduct 4 = .ok (.iload_n 3, 1) := by decide +kernel
set_option maxRecDepth 20000 in
theorem dX2_hookProduct_5 : decode cX2_hookProduct 5 = .ok (.aload_n 0, 1) := by decide +kernel
set_option maxRecDepth 20000 in
theorem dX2_hookProduct_6 : decode cX2_hookProduct 6 = .ok (.getfield 15, 3) := by decide +kernel
set_option maxRecDepth 20000 in
theorem dX2_hookProduct_9 : decode cX2_hookProduct 9 = .ok (.if_icmp .ge 79, 3) := by decide +kernel
set_option maxRecDepth 20000 in
theorem dX2_hookProduct_12 : decode cX2_hookProduct 12 = .ok (.aload_n 0, 1) := by decide +kernel
set_option maxRecDepth 20000 in
theorem dX2_hookProduct_13 : decode cX2_hookProduct 13 = .ok (.getfield 15, 3) := by decide +kernel
set_option maxRecDepth 20000 in
theorem dX2_hookProduct_16 : decode cX2_hookProduct 16 = .ok (.iconst 1, 1) := by decide +kernel
set_option maxRecDepth 20000 in
theorem dX2_hookProduct_17 : decode cX2_hookProduct 17 = .ok (.isub, 1) := by decide +kernel
set_option maxRecDepth 20000 in
theorem dX2_hookProduct_18 : decode cX2_hookProduct 18 = .ok (.istore 4, 2) := by decide +kernel
set_option maxRecDepth 20000 in
theorem dX2_hookProduct_20 : decode cX2_hookProduct 20 = .ok (.iconst 0, 1) := by decide +kernel
set_option maxRecDepth 20000 in
theorem dX2_hookProduct_21 : decode cX2_hookProduct 21 = .ok (.istore 5, 2) := by decide +kernel
set_option maxRecDepth 20000 in
theorem dX2_hookProduct_23 : decode cX2_hookProduct 23 = .ok (.iload 5, 2) := by decide +kernel
set_option maxRecDepth 20000 in
theorem dX2_hookProduct_25 : decode cX2_hookProduct 25 = .ok (.aload_n 0, 1) := by decide +kernel
set_option maxRecDepth 20000 in
theorem dX2_hookProduct_26 : decode cX2_hookProduct 26 = .ok (.getfield 9, 3) := by decide +kernel
set_option maxRecDepth 20000 in
theorem dX2_hookProduct_29 : decode cX2_hookProduct 29 = .ok (.iload_n 3, 1) := by decide +kernel
set_option maxRecDepth 20000 in
theorem dX2_hookProduct_30 : decode cX2_hookProduct 30 = .ok (.iaload, 1) := by decide +kernel
set_option maxRecDepth 20000 in
theorem dX2_hookProduct_31 : decode cX2_hookProduct 31 = .ok (.if_icmp .ge 51, 3) := by decide +kernel
set_option maxRecDepth 20000 in
theorem dX2_hookProduct_34 : decode cX2_hookProduct 34 = .ok (.iload 4, 2) := by decide +kernel
set_option maxRecDepth 20000 in
theorem dX2_hookProduct_36 : decode cX2_hookProduct 36 = .ok (.iload_n 3, 1) := by decide +kernel
set_option maxRecDepth 20000 in
theorem dX2_hookProduct_37 : decode cX2_hookProduct 37 = .ok (.if_icmp .le 21, 3) := by decide +kernel
set_option maxRecDepth 20000 in
theorem dX2_hookProduct_40 : decode cX2_hookProduct 40 = .ok (.aload_n 0, 1) := by decide +kernel
set_option maxRecDepth 20000 in
theorem dX2_hookProduct_41 : decode cX2_hookProduct 41 = .ok (.getfield 9, 3) := by decide +kernel
set_option maxRecDepth 20000 in
theorem dX2_hookProduct_44 : decode cX2_hookProduct 44 = .ok (.iload 4, 2) := by decide +kernel
set_option maxRecDepth 20000 in
theorem dX2_hookProduct_46 : decode cX2_hookProduct 46 = .ok (.iaload, 1) := by decide +kernel
set_option maxRecDepth 20000 in
theorem dX2_hookProduct_47 : decode cX2_hookProduct 47 = .ok (.iload 5, 2) := by decide +kernel
set_option maxRecDepth 20000 in
theorem dX2_hookProduct_49 : decode cX2_hookProduct 49 = .ok (.if_icmp .gt 9, 3) := by decide +kernel
set_option maxRecDepth 20000 in
theorem dX2_hookProduct_52 : decode cX2_hookProduct 52 = .ok (.iinc 4 (-1), 3) := by decide +kernel
set_option maxRecDepth 20000 in
theorem dX2_hookProduct_55 : decode cX2_hookProduct 55 = .ok (.goto (-21), 3) := by decide +kernel
set_option maxRecDepth 20000 in
theorem dX2_hookProduct_58 : decode cX2_hookProduct 58 = .ok (.lload_n 1, 1) := by decide +kernel
set_option maxRecDepth 20000 in
theorem dX2_hookProduct_59 : decode cX2_hookProduct 59 = .ok (.aload_n 0, 1) := by decide +kernel
set_option maxRecDepth 20000 in
theorem dX2_hookProduct_60 : decode cX2_hookProduct 60 = .ok (.getfield 9, 3) := by decide +kernel
set_option maxRecDepth 20000 in
theorem dX2_hookProduct_63 : decode cX2_hookProduct 63 = .ok (.iload_n 3, 1) := by decide +kernel
set_option maxRecDepth 20000 in
theorem dX2_hookProduct_64 : decode cX2_hookProduct 64 = .ok (.iaload, 1) := by decide +kernel
set_option maxRecDepth 20000 in
theorem dX2_hookProduct_65 : decode cX2_hookProduct 65 = .ok (.iload 5, 2) := by decide +kernel
set_option maxRecDepth 20000 in
theorem dX2_hookProduct_67 : decode cX2_hookProduct 67 = .ok (.isub, 1) := by decide +kernel
set_option maxRecDepth 20000 in
theorem dX2_hookProduct_68 : decode cX2_hookProduct 68 = .ok (.iload 4, 2) := by decide +kernel
set_option maxRecDepth 20000 in
theorem dX2_hookProduct_70 : decode cX2_hookProduct 70 = .ok (.iadd, 1) := by decide +kernel
set_option maxRecDepth 20000 in
theorem dX2_hookProduct_71 : decode cX2_hookProduct 71 = .ok (.iload_n 3, 1) := by decide +kernel
set_option maxRecDepth 20000 in
theorem dX2_hookProduct_72 : decode cX2_hookProduct 72 = .ok (.isub, 1) := by decide +kernel
set_option maxRecDepth 20000 in
theorem dX2_hookProduct_73 : decode cX2_hookProduct 73 = .ok (.i2l, 1) := by decide +kernel
set_option maxRecDepth 20000 in
theorem dX2_hookProduct_74 : decode cX2_hookProduct 74 = .ok (.lmul, 1) := by decide +kernel
set_option maxRecDepth 20000 in
theorem dX2_hookProduct_75 : decode cX2_hookProduct 75 = .ok (.lstore_n 1, 1) := by decide +kernel
set_option maxRecDepth 20000 in
theorem dX2_hookProduct_76 : decode cX2_hookProduct 76 = .ok (.iinc 5 1, 3) := by decide +kernel
set_option maxRecDepth 20000 in
theorem dX2_hookProduct_79 : decode cX2_hookProduct 79 = .ok (.goto (-56), 3) := by decide +kernel
set_option maxRecDepth 20000 in
theorem dX2_hookProduct_82 : decode cX2_hookProduct 82 = .ok (.iinc 3 1, 3) := by decide +kernel
set_option maxRecDepth 20000 in
theorem dX2_hookProduct_85 : decode cX2_hookProduct 85 = .ok (.goto (-81), 3) := by decide +kernel
set_option maxRecDepth 20000 in
theorem dX2_hookProduct_88 : decode cX2_hookProduct 88 = .ok (.lload_n 1, 1) := by decide +kernel
set_option maxRecDepth 20000 in
theorem dX2_hookProduct_89 : decode cX2_hookProduct 89 = .ok (.lreturn, 1) := by decide +kernel
set_option maxRecDepth 20000 in
theorem dX2_sameRounds_0 : decode cX2_sameRounds 0 = .ok (.lconst 1, 1) := by decide +kernel
set_option maxRecDepth 20000 in
theorem dX2_sameRounds_1 : decode cX2_sameRounds 1 = .ok (.lstore_n 1, 1) := by decide +kernel
set_option maxRecDepth 20000 in
theorem dX2_sameRounds_2 : decode cX2_sameRounds 2 = .ok (.iconst 0, 1) := by decide +kernel
set_option maxRecDepth 20000 in
theorem dX2_sameRounds_3 : decode cX2_sameRounds 3 = .ok (.istore_n 3, 1) := by decide +kernel
set_option maxRecDepth 20000 in
theorem dX2_sameRounds_4 : decode cX2_sameRounds 4 = .ok (.iconst 0, 1) := by decide +kernel
set_option maxRecDepth 20000 in
theorem dX2_sameRounds_5 : decode cX2_sameRounds 5 = .ok (.istore 4, 2) := by decide +kernel
set_option maxRecDepth 20000 in
theorem dX2_sameRounds_7 : decode cX2_sameRounds 7 = .ok (.iload 4, 2) := by decide +kernel
set_option maxRecDepth 20000 in
theorem dX2_sameRounds_9 : decode cX2_sameRounds 9 = .ok (.aload_n 0, 1) := by decide +kernel
set_option maxRecDepth 20000 in
theorem dX2_sameRounds_10 : decode cX2_sameRounds 10 = .ok (.getfield 15, 3) := by decide +kernel
set_option maxRecDepth 20000 in
theorem dX2_sameRounds_13 : decode cX2_sameRounds 13 = .ok (.if_icmp .ge 55, 3) := by decide +kernel
set_option maxRecDepth 20000 in
theorem dX2_sameRounds_16 : decode cX2_sameRounds 16 = .ok (.iload 4, 2) := by decide +kernel
set_option maxRecDepth 20000 in
theorem dX2_sameRounds_18 : decode cX2_sameRounds 18 = .ok (.ifCond .le 28, 3) := by decide +kernel
set_option maxRecDepth 20000 in
theorem dX2_sameRounds_21 : decode cX2_sameRounds 21 = .ok (.aload_n 0, 1) := by decide +kernel
set_option maxRecDepth 20000 in
theorem dX2_sameRounds_22 : decode cX2_sameRounds 22 = .ok (.getfield 9, 3) := by decide +kernel
set_option maxRecDepth 20000 in
theorem dX2_sameRounds_25 : decode cX2_sameRounds 25 = .ok (.iload 4, 2) := by decide +kernel
set_option maxRecDepth 20000 in
theorem dX2_sameRounds_27 : decode cX2_sameRounds 27 = .ok (.iaload, 1) := by decide +kernel
set_option maxRecDepth 20000 in
theorem dX2_sameRounds_28 : decode cX2_sameRounds 28 = .ok (.aload_n 0, 1) := by decide +kernel
set_option maxRecDepth 20000 in
theorem dX2_sameRounds_29 : decode cX2_sameRounds 29 = .ok (.getfield 9, 3) := by decide +kernel
set_option maxRecDepth 20000 in
theorem dX2_sameRounds_32 : decode cX2_sameRounds 32 = .ok (.iload 4, 2) := by decide +kernel
set_option maxRecDepth 20000 in
theorem dX2_sameRounds_34 : decode cX2_sameRounds 34 = .ok (.iconst 1, 1) := by decide +kernel
set_option maxRecDepth 20000 in
theorem dX2_sameRounds_35 : decode cX2_sameRounds 35 = .ok (.isub, 1) := by decide +kernel
set_option maxRecDepth 20000 in
theorem dX2_sameRounds_36 : decode cX2_sameRounds 36 = .ok (.iaload, 1) := by decide +kernel
set_option maxRecDepth 20000 in
theorem dX2_sameRounds_37 : decode cX2_sameRounds 37 = .ok (.if_icmp .ne 9, 3) := by decide +kernel
set_option maxRecDepth 20000 in
theorem dX2_sameRounds_40 : decode cX2_sameRounds 40 = .ok (.iload_n 3, 1) := by decide +kernel
set_option maxRecDepth 20000 in
theorem dX2_sameRounds_41 : decode cX2_sameRounds 41 = .ok (.iconst 1, 1) := by decide +kernel
set_option maxRecDepth 20000 in
theorem dX2_sameRounds_42 : decode cX2_sameRounds 42 = .ok (.iadd, 1) := by decide +kernel
set_option maxRecDepth 20000 in
theorem dX2_sameRounds_43 : decode cX2_sameRounds 43 = .ok (.goto 4, 3) := by decide +kernel
set_option maxRecDepth 20000 in
theorem dX2_sameRounds_46 : decode cX2_sameRounds 46 = .ok (.iconst 1, 1) := by decide +kernel
set_option maxRecDepth 20000 in
theorem dX2_sameRounds_47 : decode cX2_sameRounds 47 = .ok (.istore_n 3, 1) := by decide +kernel
set_option maxRecDepth 20000 in
theorem dX2_sameRounds_48 : decode cX2_sameRounds 48 = .ok (.lload_n 1, 1) := by decide +kernel
set_option maxRecDepth 20000 in
theorem dX2_sameRounds_49 : decode cX2_sameRounds 49 = .ok (.aload_n 0, 1) := by decide +kernel
set_option maxRecDepth 20000 in
theorem dX2_sameRounds_50 : decode cX2_sameRounds 50 = .ok (.getfield 9, 3) := by decide +kernel
set_option maxRecDepth 20000 in
theorem dX2_sameRounds_53 : decode cX2_sameRounds 53 = .ok (.iload 4, 2) := by decide +kernel
set_option maxRecDepth 20000 in
theorem dX2_sameRounds_55 : decode cX2_sameRounds 55 = .ok (.iaload, 1) := by decide +kernel
set_option maxRecDepth 20000 in
theorem dX2_sameRounds_56 : decode cX2_sameRounds 56 = .ok (.i2l, 1) := by decide +kernel
set_option maxRecDepth 20000 in
theorem dX2_sameRounds_57 : decode cX2_sameRounds 57 = .ok (.iload_n 3, 1) := by decide +kernel
set_option maxRecDepth 20000 in
theorem dX2_sameRounds_58 : decode cX2_sameRounds 58 = .ok (.i2l, 1) := by decide +kernel
set_option maxRecDepth 20000 in
theorem dX2_sameRounds_59 : decode cX2_sameRounds 59 = .ok (.lmul, 1) := by decide +kernel
set_option maxRecDepth 20000 in
theorem dX2_sameRounds_60 : decode cX2_sameRounds 60 = .ok (.lmul, 1) := by decide +kernel
set_option maxRecDepth 20000 in
theorem dX2_sameRounds_61 : decode cX2_sameRounds 61 = .ok (.lstore_n 1, 1) := by decide +kernel
set_option maxRecDepth 20000 in
theorem dX2_sameRounds_62 : decode cX2_sameRounds 62 = .ok (.iinc 4 1, 3) := by decide +kernel
set_option maxRecDepth 20000 in
theorem dX2_sameRounds_65 : decode cX2_sameRounds 65 = .ok (.goto (-58), 3) := by decide +kernel
set_option maxRecDepth 20000 in
theorem dX2_sameRounds_68 : decode cX2_sameRounds 68 = .ok (.lload_n 1, 1) := by decide +kernel
set_option maxRecDepth 20000 in
theorem dX2_sameRounds_69 : decode cX2_sameRounds 69 = .ok (.lreturn, 1) := by decide +kernel
set_option maxRecDepth 20000 in
theorem dX2_turns_0 : decode cX2_turns 0 = .ok (.iconst 1, 1) := by decide +kernel
set_option maxRecDepth 20000 in
theorem dX2_turns_1 : decode cX2_turns 1 = .ok (.istore_n 1, 1) := by decide +kernel
set_option maxRecDepth 20000 in
theorem dX2_turns_2 : decode cX2_turns 2 = .ok (.iconst 0, 1) := by decide +kernel
set_option maxRecDepth 20000 in
theorem dX2_turns_3 : decode cX2_turns 3 = .ok (.istore_n 2, 1) := by decide +kernel
set_option maxRecDepth 20000 in
theorem dX2_turns_4 : decode cX2_turns 4 = .ok (.iload_n 2, 1) := by decide +kernel
set_option maxRecDepth 20000 in
theorem dX2_turns_5 : decode cX2_turns 5 = .ok (.aload_n 0, 1) := by decide +kernel
set_option maxRecDepth 20000 in
theorem dX2_turns_6 : decode cX2_turns 6 = .ok (.getfield 15, 3) := by decide +kernel
set_option maxRecDepth 20000 in
theorem dX2_turns_9 : decode cX2_turns 9 = .ok (.if_icmp .ge 20, 3) := by decide +kernel
set_option maxRecDepth 20000 in
theorem dX2_turns_12 : decode cX2_turns 12 = .ok (.iload_n 1, 1) := by decide +kernel
set_option maxRecDepth 20000 in
theorem dX2_turns_13 : decode cX2_turns 13 = .ok (.aload_n 0, 1) := by decide +kernel
set_option maxRecDepth 20000 in
theorem dX2_turns_14 : decode cX2_turns 14 = .ok (.getfield 9, 3) := by decide +kernel
set_option maxRecDepth 20000 in
theorem dX2_turns_17 : decode cX2_turns 17 = .ok (.iload_n 2, 1) := by decide +kernel
set_option maxRecDepth 20000 in
theorem dX2_turns_18 : decode cX2_turns 18 = .ok (.iaload, 1) := by decide +kernel
set_option maxRecDepth 20000 in
theorem dX2_turns_19 : decode cX2_turns 19 = .ok (.invokestatic 25, 3) := by decide +kernel
set_option maxRecDepth 20000 in
theorem dX2_turns_22 : decode cX2_turns 22 = .ok (.istore_n 1, 1) := by decide +kernel
set_option maxRecDepth 20000 in
theorem dX2_turns_23 : decode cX2_turns 23 = .ok (.iinc 2 1, 3) := by decide +kernel
set_option maxRecDepth 20000 in
theorem dX2_turns_26 : decode cX2_turns 26 = .ok (.goto (-22), 3) := by decide +kernel
set_option maxRecDepth 20000 in
theorem dX2_turns_29 : decode cX2_turns 29 = .ok (.iload_n 1, 1) := by decide +kernel
set_option maxRecDepth 20000 in
theorem dX2_turns_30 : decode cX2_turns 30 = .ok (.ireturn, 1) := by decide +kernel
set_option maxRecDepth 20000 in
theorem dX3_init_0 : decode cX3_init 0 = .ok (.aload_n 0, 1) := by decide +kernel
set_option maxRecDepth 20000 in
theorem dX3_init_1 : decode cX3_init 1 = .ok (.invokespecial 3, 3) := by decide +kernel
set_option maxRecDepth 20000 in
theorem dX3_init_4 : decode cX3_init 4 = .ok (.aload_n 0, 1) := by decide +kernel
set_option maxRecDepth 20000 in
theorem dX3_init_5 : decode cX3_init 5 = .ok (.bipush 19, 2) := by decide +kernel
set_option maxRecDepth 20000 in
theorem dX3_init_7 : decode cX3_init 7 = .ok (.newarray .long, 2) := by decide +kernel
set_option maxRecDepth 20000 in
theorem dX3_init_9 : decode cX3_init 9 = .ok (.putfield 9, 3) := by decide +kernel
set_option maxRecDepth 20000 in
theorem dX3_init_12 : decode cX3_init 12 = .ok (.aload_n 0, 1) := by decide +kernel
set_option maxRecDepth 20000 in
theorem dX3_init_13 : decode cX3_init 13 = .ok (.bipush 19, 2) := by decide +kernel
set_option maxRecDepth 20000 in
theorem dX3_init_15 : decode cX3_init 15 = .ok (.newarray .long, 2) := by decide +kernel
set_option maxRecDepth 20000 in
theorem dX3_init_17 : decode cX3_init 17 = .ok (.putfield 15, 3) := by decide +kernel
set_option maxRecDepth 20000 in
theorem dX3_init_20 : decode cX3_init 20 = .ok (.aload_n 0, 1) := by decide +kernel
set_option maxRecDepth 20000 in
theorem dX3_init_21 : decode cX3_init 21 = .ok (.bipush 19, 2) := by decide +kernel
set_option maxRecDepth 20000 in
theorem dX3_init_23 : decode cX3_init 23 = .ok (.bipush 19, 2) := by decide +kernel
set_option maxRecDepth 20000 in
theorem dX3_init_25 : decode cX3_init 25 = .ok (.multianewarray 18 2, 4) := by decide +kernel
set_option maxRecDepth 20000 in
theorem dX3_init_29 : decode cX3_init 29 = .ok (.putfield 20, 3) := by decide +kernel
set_option maxRecDepth 20000 in
theorem dX3_init_32 : decode cX3_init 32 = .ok (.aload_n 0, 1) := by decide +kernel
set_option maxRecDepth 20000 in
theorem dX3_init_33 : decode cX3_init 33 = .ok (.bipush 19, 2) := by decide +kernel
set_option maxRecDepth 20000 in
theorem dX3_init_35 : decode cX3_init 35 = .ok (.bipush 19, 2) := by decide +kernel
set_option maxRecDepth 20000 in
theorem dX3_init_37 : decode cX3_init 37 = .ok (.multianewarray 18 2, 4) := by decide +kernel
set_option maxRecDepth 20000 in
theorem dX3_init_41 : decode cX3_init 41 = .ok (.putfield 23, 3) := by decide +kernel
set_option maxRecDepth 20000 in
theorem dX3_init_44 : decode cX3_init 44 = .ok (.aload_n 0, 1) := by decide +kernel
set_option maxRecDepth 20000 in
theorem dX3_init_45 : decode cX3_init 45 = .ok (.bipush 19, 2) := by decide +kernel
set_option maxRecDepth 20000 in
theorem dX3_init_47 : decode cX3_init 47 = .ok (.iconst 0, 1) := by decide +kernel
set_option maxRecDepth 20000 in
theorem dX3_init_48 : decode cX3_init 48 = .ok (.iconst 0, 1) := by decide +kernel
set_option maxRecDepth 20000 in
theorem dX3_init_49 : decode cX3_init 49 = .ok (.invokestatic 26, 3) := by decide +kernel
set_option maxRecDepth 20000 in
theorem dX3_init_52 : decode cX3_init 52 = .ok (.newarray .long, 2) := by decide +kernel
set_option maxRecDepth 20000 in
theorem dX3_init_54 : decode cX3_init 54 = .ok (.putfield 30, 3) := by decide +kernel
set_option maxRecDepth 20000 in
theorem dX3_init_57 : decode cX3_init 57 = .ok (.aload_n 0, 1) := by decide +kernel
set_option maxRecDepth 20000 in
theorem dX3_init_58 : decode cX3_init 58 = .ok (.invokevirtual 33, 3) := by decide +kernel
set_option maxRecDepth 20000 in
theorem dX3_init_61 : decode cX3_init 61 = .ok (.aload_n 0, 1) := by decide +kernel
set_option maxRecDepth 20000 in
theorem dX3_init_62 : decode cX3_init 62 = .ok (.invokevirtual 36, 3) := by decide +kernel
set_option maxRecDepth 20000 in
theorem dX3_init_65 : decode cX3_init 65 = .ok (.aload_n 0, 1) := by decide +kernel
set_option maxRecDepth 20000 in
theorem dX3_init_66 : decode cX3_init 66 = .ok (.invokevirtual 39, 3) := by decide +kernel
set_option maxRecDepth 20000 in
theorem dX3_init_69 : decode cX3_init 69 = .ok (.aload_n 0, 1) := by decide +kernel
set_option maxRecDepth 20000 in
theorem dX3_init_70 : decode cX3_init 70 = .ok (.invokevirtual 42, 3) := by decide +kernel
set_option maxRecDepth 20000 in
theorem dX3_init_73 : decode cX3_init 73 = .ok (.aload_n 0, 1) := by decide +kernel
set_option maxRecDepth 20000 in
theorem dX3_init_74 : decode cX3_init 74 = .ok (.invokevirtual 45, 3) := by decide +kernel
set_option maxRecDepth 20000 in
theorem dX3_init_77 : decode cX3_init 77 = .ok (.return_, 1) := by decide +kernel
set_option maxRecDepth 20000 in
theorem dX3_fillFactorials_0 : decode cX3_fillFactorials 0 = .ok (.aload_n 0, 1) := by decide +kernel
set_option maxRecDepth 20000 in
theorem dX3_fillFactorials_1 : decode cX3_fillFactorials 1 = .ok (.getfield 9, 3) := by decide +kernel
set_option maxRecDepth 20000 in
theorem dX3_fillFactorials_4 : decode cX3_fillFactorials 4 = .ok (.iconst 0, 1) := by decide +kernel
set_option maxRecDepth 20000 in
theorem dX3_fillFactorials_5 : decode cX3_fillFactorials 5 = .ok (.lconst 1, 1) := by decide +kernel
set_option maxRecDepth 20000 in
theorem dX3_fillFactorials_6 : decode cX3_fillFactorials 6 = .ok (.lastore, 1) := by decide +kernel
set_option maxRecDepth 20000 in
theorem dX3_fillFactorials_7 : decode cX3_fillFactorials 7 = .ok (.iconst 1, 1) := by decide +kernel
set_option maxRecDepth 20000 in
theorem dX3_fillFactorials_8 : decode cX3_fillFactorials 8 = .ok (.istore_n 1, 1) := by decide +kernel
set_option maxRecDepth 20000 in
theorem dX3_fillFactorials_9 : decode cX3_fillFactorials 9 = .ok (.iload_n 1, 1) := by decide +kernel
set_option maxRecDepth 20000 in
theorem dX3_fillFactorials_10 : decode cX3_fillFactorials 10 = .ok (.bipush 18, 2) := by decide +kernel
set_option maxRecDepth 20000 in
theorem dX3_fillFactorials_12 : decode cX3_fillFactorials 12 = .ok (.if_icmp .gt 26, 3) := by decide +kernel
set_option maxRecDepth 20000 in
theorem dX3_fillFactorials_15 : decode cX3_fillFactorials 15 = .ok (.aload_n 0, 1) := by decide +kernel
set_option maxRecDepth 20000 in
theorem dX3_fillFactorials_16 : decode cX3_fillFactorials 16 = .ok (.getfield 9, 3) := by decide +kernel
set_option maxRecDepth 20000 in
theorem dX3_fillFactorials_19 : decode cX3_fillFactorials 19 = .ok (.iload_n 1, 1) := by decide +kernel
set_option maxRecDepth 20000 in
theorem dX3_fillFactorials_20 : decode cX3_fillFactorials 20 = .ok (.aload_n 0, 1) := by decide +kernel
set_option maxRecDepth 20000 in
theorem dX3_fillFactorials_21 : decode cX3_fillFactorials 21 = .ok (.getfield 9, 3) := by decide +kernel
set_option maxRecDepth 20000 in
theorem dX3_fillFactorials_24 : decode cX3_fillFactorials 24 = .ok (.iload_n 1, 1) := by decide +kernel
set_option maxRecDepth 20000 in
theorem dX3_fillFactorials_25 : decode cX3_fillFactorials 25 = .ok (.iconst 1, 1) := by decide +kernel
set_option maxRecDepth 20000 in
theorem dX3_fillFactorials_26 : decode cX3_fillFactorials 26 = .ok (.isub, 1) := by decide +kernel
set_option maxRecDepth 20000 in
theorem dX3_fillFactorials_27 : decode cX3_fillFactorials 27 = .ok (.laload, 1) := by decide +kernel
set_option maxRecDepth 20000 in
theorem dX3_fillFactorials_28 : decode cX3_fillFactorials 28 = .ok (.iload_n 1, 1) := by decide +kernel
set_option maxRecDepth 20000 in
theorem dX3_fillFactorials_29 : decode cX3_fillFactorials 29 = .ok (.i2l, 1) := by decide +kernel
set_option maxRecDepth 20000 in
theorem dX3_fillFactorials_30 : decode cX3_fillFactorials 30 = .ok (.lmul, 1) := by decide +kernel
set_option maxRecDepth 20000 in
theorem dX3_fillFactorials_31 : decode cX3_fillFactorials 31 = .ok (.lastore, 1) := by decide +kernel
set_option maxRecDepth 20000 in
theorem dX3_fillFactorials_32 : decode cX3_fillFactorials 32 = .ok (.iinc 1 1, 3) := by decide +kernel
set_option maxRecDepth 20000 in
theorem dX3_fillFactorials_35 : decode cX3_fillFactorials 35 = .ok (.goto (-26), 3) := by decide +kernel
set_option maxRecDepth 20000 in
theorem dX3_fillFactorials_38 : decode cX3_fillFactorials 38 = .ok (.return_, 1) := by decide +kernel
set_option maxRecDepth 20000 in
theorem dX3_fillDeranged_0 : decode cX3_fillDeranged 0 = .ok (.aload_n 0, 1) := by decide +kernel
set_option maxRecDepth 20000 in
theorem dX3_fillDeranged_1 : decode cX3_fillDeranged 1 = .ok (.getfield 15, 3) := by decide +kernel
set_option maxRecDepth 20000 in
theorem dX3_fillDeranged_4 : decode cX3_fillDeranged 4 = .ok (.iconst 0, 1) := by decide +kernel
set_option maxRecDepth 20000 in
theorem dX3_fillDeranged_5 : decode cX3_fillDeranged 5 = .ok (.lconst 1, 1) := by decide +kernel
set_option maxRecDepth 20000 in
theorem dX3_fillDeranged_6 : decode cX3_fillDeranged 6 = .ok (.lastore, 1) := by decide +kernel
set_option maxRecDepth 20000 in
theorem dX3_fillDeranged_7 : decode cX3_fillDeranged 7 = .ok (.iconst 2, 1) := by decide +kernel
set_option maxRecDepth 20000 in
theorem dX3_fillDeranged_8 : decode cX3_fillDeranged 8 = .ok (.istore_n 1, 1) := by decide +kernel
set_option maxRecDepth 20000 in
theorem dX3_fillDeranged_9 : decode cX3_fillDeranged 9 = .ok (.iload_n 1, 1) := by decide +kernel
set_option maxRecDepth 20000 in
theorem dX3_fillDeranged_10 : decode cX3_fillDeranged 10 = .ok (.bipush 18, 2) := by decide +kernel
set_option maxRecDepth 20000 in
theorem dX3_fillDeranged_12 : decode cX3_fillDeranged 12 = .ok (.if_icmp .gt 37, 3) := by decide +kernel
set_option maxRecDepth 20000 in
theorem dX3_fillDeranged_15 : decode cX3_fillDeranged 15 = .ok (.aload_n 0, 1) := by decide +kernel
set_option maxRecDepth 20000 in
theorem dX3_fillDeranged_16 : decode cX3_fillDeranged 16 = .ok (.getfield 15, 3) := by decide +kernel
set_option maxRecDepth 20000 in
theorem dX3_fillDeranged_19 : decode cX3_fillDeranged 19 = .ok (.iload_n 1, 1) := by decide +kernel
set_option maxRecDepth 20000 in
theorem dX3_fillDeranged_20 : decode cX3_fillDeranged 20 = .ok (.iload_n 1, 1) := by decide +kernel
set_option maxRecDepth 20000 in
theorem dX3_fillDeranged_21 : decode cX3_fillDeranged 21 = .ok (.iconst 1, 1) := by decide +kernel
set_option maxRecDepth 20000 in
theorem dX3_fillDeranged_22 : decode cX3_fillDeranged 22 = .ok (.isub, 1) := by decide +kernel
set_option maxRecDepth 20000 in
theorem dX3_fillDeranged_23 : decode cX3_fillDeranged 23 = .ok (.i2l, 1) := by decide +kernel
set_option maxRecDepth 20000 in
theorem dX3_fillDeranged_24 : decode cX3_fillDeranged 24 = .ok (.aload_n 0, 1) := by decide +kernel
set_option maxRecDepth 20000 in
theorem dX3_fillDeranged_25 : decode cX3_fillDeranged 25 = .ok (.getfield 15, 3) := by decide +kernel
set_option maxRecDepth 20000 in
theorem dX3_fillDeranged_28 : decode cX3_fillDeranged 28 = .ok (.iload_n 1, 1) := by decide +kernel
set_option maxRecDepth 20000 in
theorem dX3_fillDeranged_29 : decode cX3_fillDeranged 29 = .ok (.iconst 1, 1) := by decide +kernel
set_option maxRecDepth 20000 in
theorem dX3_fillDeranged_30 : decode cX3_fillDeranged 30 = .ok (.isub, 1) := by decide +kernel
set_option maxRecDepth 20000 in
theorem dX3_fillDeranged_31 : decode cX3_fillDeranged 31 = .ok (.laload, 1) := by decide +kernel
set_option maxRecDepth 20000 in
theorem dX3_fillDeranged_32 : decode cX3_fillDeranged 32 = .ok (.aload_n 0, 1) := by decide +kernel
set_option maxRecDepth 20000 in
theorem dX3_fillDeranged_33 : decode cX3_fillDeranged 33 = .ok (.getfield 15, 3) := by decide +kernel
set_option maxRecDepth 20000 in
theorem dX3_fillDeranged_36 : decode cX3_fillDeranged 36 = .ok (.iload_n 1, 1) := by decide +kernel
set_option maxRecDepth 20000 in
theorem dX3_fillDeranged_37 : decode cX3_fillDeranged 37 = .ok (.iconst 2, 1) := by decide +kernel
set_option maxRecDepth 20000 in
theorem dX3_fillDeranged_38 : decode cX3_fillDeranged 38 = .ok (.isub, 1) := by decide +kernel
set_option maxRecDepth 20000 in
theorem dX3_fillDeranged_39 : decode cX3_fillDeranged 39 = .ok (.laload, 1) := by decide +kernel
set_option maxRecDepth 20000 in
theorem dX3_fillDeranged_40 : decode cX3_fillDeranged 40 = .ok (.ladd, 1) := by decide +kernel
set_option maxRecDepth 20000 in
theorem dX3_fillDeranged_41 : decode cX3_fillDeranged 41 = .ok (.lmul, 1) := by decide +kernel
set_option maxRecDepth 20000 in
theorem dX3_fillDeranged_42 : decode cX3_fillDeranged 42 = .ok (.lastore, 1) := by decide +kernel
set_option maxRecDepth 20000 in
theorem dX3_fillDeranged_43 : decode cX3_fillDeranged 43 = .ok (.iinc 1 1, 3) := by decide +kernel
set_option maxRecDepth 20000 in
theorem dX3_fillDeranged_46 : decode cX3_fillDeranged 46 = .ok (.goto (-37), 3) := by decide +kernel
set_option maxRecDepth 20000 in
theorem dX3_fillDeranged_49 : decode cX3_fillDeranged 49 = .ok (.return_, 1) := by decide +kernel
set_option maxRecDepth 20000 in
theorem dX3_fillRecords_0 : decode cX3_fillRecords 0 = .ok (.aload_n 0, 1) := by decide +kernel
set_option maxRecDepth 20000 in
theorem dX3_fillRecords_1 : decode cX3_fillRecords 1 = .ok (.getfield 20, 3) := by decide +kernel
set_option maxRecDepth 20000 in
theorem dX3_fillRecords_4 : decode cX3_fillRecords 4 = .ok (.iconst 0, 1) := by decide +kernel
set_option maxRecDepth 20000 in
theorem dX3_fillRecords_5 : decode cX3_fillRecords 5 = .ok (.aaload, 1) := by decide +kernel
set_option maxRecDepth 20000 in
theorem dX3_fillRecords_6 : decode cX3_fillRecords 6 = .ok (.iconst 0, 1) := by decide +kernel
set_option maxRecDepth 20000 in
theorem dX3_fillRecords_7 : decode cX3_fillRecords 7 = .ok (.lconst 1, 1) := by decide +kernel
set_option maxRecDepth 20000 in
theorem dX3_fillRecords_8 : decode cX3_fillRecords 8 = .ok (.lastore, 1) := by decide +kernel
set_option maxRecDepth 20000 in
theorem dX3_fillRecords_9 : decode cX3_fillRecords 9 = .ok (.iconst 1, 1) := by decide +kernel
set_option maxRecDepth 20000 in
theorem dX3_fillRecords_10 : decode cX3_fillRecords 10 = .ok (.istore_n 1, 1) := by decide +kernel
set_option maxRecDepth 20000 in
theorem dX3_fillRecords_11 : decode cX3_fillRecords 11 = .ok (.iload_n 1, 1) := by decide +kernel
set_option maxRecDepth 20000 in
theorem dX3_fillRecords_12 : decode cX3_fillRecords 12 = .ok (.bipush 18, 2) := by decide +kernel
set_option maxRecDepth 20000 in
theorem dX3_fillRecords_14 : decode cX3_fillRecords 14 = .ok (.if_icmp .gt 58, 3) := by decide +kernel
set_option maxRecDepth 20000 in
theorem dX3_fillRecords_17 : decode cX3_fillRecords 17 = .ok (.iconst 1, 1) := by decide +kernel
set_option maxRecDepth 20000 in
theorem dX3_fillRecords_18 : decode cX3_fillRecords 18 = .ok (.istore_n 2, 1) := by decide +kernel
set_option maxRecDepth 20000 in
theorem dX3_fillRecords_19 : decode cX3_fillRecords 19 = .ok (.iload_n 2, 1) := by decide +kernel
set_option maxRecDepth 20000 in
theorem dX3_fillRecords_20 : decode cX3_fillRecords 20 = .ok (.iload_n 1, 1) := by decide +kernel
set_option maxRecDepth 20000 in
theorem dX3_fillRecords_21 : decode cX3_fillRecords 21 = .ok (.if_icmp .gt 45, 3) := by decide +kernel
set_option maxRecDepth 20000 in
theorem dX3_fillRecords_24 : decode cX3_fillRecords 24 = .ok (.aload_n 0, 1) := by decide +kernel
set_option maxRecDepth 20000 in
theorem dX3_fillRecords_25 : decode cX3_fillRecords 25 = .ok (.getfield 20, 3) := by decide +kernel
set_option maxRecDepth 20000 in
theorem dX3_fillRecords_28 : decode cX3_fillRecords 28 = .ok (.iload_n 1, 1) := by decide +kernel
set_option maxRecDepth 20000 in
theorem dX3_fillRecords_29 : decode cX3_fillRecords 29 = .ok (.aaload, 1) := by decide +kernel
set_option maxRecDepth 20000 in
theorem dX3_fillRecords_30 : decode cX3_fillRecords 30 = .ok (.iload_n 2, 1) := by decide +kernel
set_option maxRecDepth 20000 in
theorem dX3_fillRecords_31 : decode cX3_fillRecords 31 = .ok (.aload_n 0, 1) := by decide +kernel
set_option maxRecDepth 20000 in
theorem dX3_fillRecords_32 : decode cX3_fillRecords 32 = .ok (.getfield 20, 3) := by decide +kernel
set_option maxRecDepth 20000 in
theorem dX3_fillRecords_35 : decode cX3_fillRecords 35 = .ok (.iload_n 1, 1) := by decide +kernel
set_option maxRecDepth 20000 in
theorem dX3_fillRecords_36 : decode cX3_fillRecords 36 = .ok (.iconst 1, 1) := by decide +kernel
set_option maxRecDepth 20000 in
theorem dX3_fillRecords_37 : decode cX3_fillRecords 37 = .ok (.isub, 1) := by decide +kernel
set_option maxRecDepth 20000 in
theorem dX3_fillRecords_38 : decode cX3_fillRecords 38 = .ok (.aaload, 1) := by decide +kernel
set_option maxRecDepth 20000 in
theorem dX3_fillRecords_39 : decode cX3_fillRecords 39 = .ok (.iload_n 2, 1) := by decide +kernel
set_option maxRecDepth 20000 in
theorem dX3_fillRecords_40 : decode cX3_fillRecords 40 = .ok (.iconst 1, 1) := by decide +kernel
set_option maxRecDepth 20000 in
theorem dX3_fillRecords_41 : decode cX3_fillRecords 41 = .ok (.isub, 1) := by decide +kernel
set_option maxRecDepth 20000 in
theorem dX3_fillRecords_42 : decode cX3_fillRecords 42 = .ok (.laload, 1) := by decide +kernel
set_option maxRecDepth 20000 in
theorem dX3_fillRecords_43 : decode cX3_fillRecords 43 = .ok (.iload_n 1, 1) := by decide +kernel
set_option maxRecDepth 20000 in
theorem dX3_fillRecords_44 : decode cX3_fillRecords 44 = .ok (.iconst 1, 1) := by decide +kernel
set_option maxRecDepth 20000 in
theorem dX3_fillRecords_45 : decode cX3_fillRecords 45 = .ok (.isub, 1) := by decide +kernel
set_option maxRecDepth 20000 in
theorem dX3_fillRecords_46 : decode cX3_fillRecords 46 = .ok (.i2l, 1) := by decide +kernel
set_option maxRecDepth 20000 in
theorem dX3_fillRecords_47 : decode cX3_fillRecords 47 = .ok (.aload_n 0, 1) := by decide +kernel
set_option maxRecDepth 20000 in
theorem dX3_fillRecords_48 : decode cX3_fillRecords 48 = .ok (.getfield 20, 3) := by decide +kernel
set_option maxRecDepth 20000 in
theorem dX3_fillRecords_51 : decode cX3_fillRecords 51 = .ok (.iload_n 1, 1) := by decide +kernel
set_option maxRecDepth 20000 in
theorem dX3_fillRecords_52 : decode cX3_fillRecords 52 = .ok (.iconst 1, 1) := by decide +kernel
set_option maxRecDepth 20000 in
theorem dX3_fillRecords_53 : decode cX3_fillRecords 53 = .ok (.isub, 1) := by decide +kernel
set_option maxRecDepth 20000 in
theorem dX3_fillRecords_54 : decode cX3_fillRecords 54 = .ok (.aaload, 1) := by decide +kernel
set_option maxRecDepth 20000 in
theorem dX3_fillRecords_55 : decode cX3_fillRecords 55 = .ok (.iload_n 2, 1) := by decide +kernel
set_option maxRecDepth 20000 in
theorem dX3_fillRecords_56 : decode cX3_fillRecords 56 = .ok (.laload, 1) := by decide +kernel
set_option maxRecDepth 20000 in
theorem dX3_fillRecords_57 : decode cX3_fillRecords 57 = .ok (.lmul, 1) := by decide +kernel
set_option maxRecDepth 20000 in
theorem dX3_fillRecords_58 : decode cX3_fillRecords 58 = .ok (.ladd, 1) := by decide +kernel
set_option maxRecDepth 20000 in
theorem dX3_fillRecords_59 : decode cX3_fillRecords 59 = .ok (.lastore, 1) := by decide +kernel
set_option maxRecDepth 20000 in
theorem dX3_fillRecords_60 : decode cX3_fillRecords 60 = .ok (.iinc 2 1, 3) := by decide +kernel
set_option maxRecDepth 20000 in
theorem dX3_fillRecords_63 : decode cX3_fillRecords 63 = .ok (.goto (-44), 3) := by decide +kernel
set_option maxRecDepth 20000 in
theorem dX3_fillRecords_66 : decode cX3_fillRecords 66 = .ok (.iinc 1 1, 3) := by decide +kernel
set_option maxRecDepth 20000 in
theorem dX3_fillRecords_69 : decode cX3_fillRecords 69 = .ok (.goto (-58), 3) := by decide +kernel
set_option maxRecDepth 20000 in
theorem dX3_fillRecords_72 : decode cX3_fillRecords 72 = .ok (.return_, 1) := by decide +kernel
set_option maxRecDepth 20000 in
theorem dX3_fillRoundsUpTo_0 : decode cX3_fillRoundsUpTo 0 = .ok (.iconst 0, 1) := by decide +kernel
set_option maxRecDepth 20000 in
theorem dX3_fillRoundsUpTo_1 : decode cX3_fillRoundsUpTo 1 = .ok (.istore_n 1, 1) := by decide +kernel
set_option maxRecDepth 20000 in
theorem dX3_fillRoundsUpTo_2 : decode cX3_fillRoundsUpTo 2 = .ok (.iload_n 1, 1) := by decide +kernel
set_option maxRecDepth 20000 in
theorem dX3_fillRoundsUpTo_3 : decode cX3_fillRoundsUpTo 3 = .ok (.bipush 18, 2) := by decide +kernel
set_option maxRecDepth 20000 in
theorem dX3_fillRoundsUpTo_5 : decode cX3_fillRoundsUpTo 5 = .ok (.if_icmp .gt 46, 3) := by decide +kernel
set_option maxRecDepth 20000 in
theorem dX3_fillRoundsUpTo_8 : decode cX3_fillRoundsUpTo 8 = .ok (.aload_n 0, 1) := by decide +kernel
set_option maxRecDepth 20000 in
theorem dX3_fillRoundsUpTo_9 : decode cX3_fillRoundsUpTo 9 = .ok (.getfield 23, 3) := by decide +kernel
set_option maxRecDepth 20000 in
theorem dX3_fillRoundsUpTo_12 : decode cX3_fillRoundsUpTo 12 = .ok (.iload_n 1, 1) := by decide +kernel
set_option maxRecDepth 20000 in
theorem dX3_fillRoundsUpTo_13 : decode cX3_fillRoundsUpTo 13 = .ok (.aaload, 1) := by decide +kernel
set_option maxRecDepth 20000 in
theorem dX3_fillRoundsUpTo_14 : decode cX3_fillRoundsUpTo 14 = .ok (.iconst 0, 1) := by decide +kernel
set_option maxRecDepth 20000 in
theorem dX3_fillRoundsUpTo_15 : decode cX3_fillRoundsUpTo 15 = .ok (.lconst 1, 1) := by decide +kernel
set_option maxRecDepth 20000 in
theorem dX3_fillRoundsUpTo_16 : decode cX3_fillRoundsUpTo 16 = .ok (.lastore, 1) := by decide +kernel
set_option maxRecDepth 20000 in
theorem dX3_fillRoundsUpTo_17 : decode cX3_fillRoundsUpTo 17 = .ok (.iconst 1, 1) := by decide +kernel
set_option maxRecDepth 20000 in
theorem dX3_fillRoundsUpTo_18 : decode cX3_fillRoundsUpTo 18 = .ok (.istore_n 2, 1) := by decide +kernel
set_option maxRecDepth 20000 in
theorem dX3_fillRoundsUpTo_19 : decode cX3_fillRoundsUpTo 19 = .ok (.iload_n 2, 1) := by decide +kernel
set_option maxRecDepth 20000 in
theorem dX3_fillRoundsUpTo_20 : decode cX3_fillRoundsUpTo 20 = .ok (.bipush 18, 2) := by decide +kernel
set_option maxRecDepth 20000 in
theorem dX3_fillRoundsUpTo_22 : decode cX3_fillRoundsUpTo 22 = .ok (.if_icmp .gt 23, 3) := by decide +kernel
set_option maxRecDepth 20000 in
theorem dX3_fillRoundsUpTo_25 : decode cX3_fillRoundsUpTo 25 = .ok (.aload_n 0, 1) := by decide +kernel
set_option maxRecDepth 20000 in
theorem dX3_fillRoundsUpTo_26 : decode cX3_fillRoundsUpTo 26 = .ok (.getfield 23, 3) := by decide +kernel
set_option maxRecDepth 20000 in
theorem dX3_fillRoundsUpTo_29 : decode cX3_fillRoundsUpTo 29 = .ok (.iload_n 1, 1) := by decide +kernel
set_option maxRecDepth 20000 in
theorem dX3_fillRoundsUpTo_30 : decode cX3_fillRoundsUpTo 30 = .ok (.aaload, 1) := by decide +kernel
set_option maxRecDepth 20000 in
theorem dX3_fillRoundsUpTo_31 : decode cX3_fillRoundsUpTo 31 = .ok (.iload_n 2, 1) := by decide +kernel
set_option maxRecDepth 20000 in
theorem dX3_fillRoundsUpTo_32 : decode cX3_fillRoundsUpTo 32 = .ok (.aload_n 0, 1) := by decide +kernel
set_option maxRecDepth 20000 in
theorem dX3_fillRoundsUpTo_33 : decode cX3_fillRoundsUpTo 33 = .ok (.iload_n 1, 1) := by decide +kernel
set_option maxRecDepth 20000 in
theorem dX3_fillRoundsUpTo_34 : decode cX3_fillRoundsUpTo 34 = .ok (.iload_n 2, 1) := by decide +kernel
set_option maxRecDepth 20000 in
theorem dX3_fillRoundsUpTo_35 : decode cX3_fillRoundsUpTo 35 = .ok (.invokevirtual 48, 3) := by decide +kernel
set_option maxRecDepth 20000 in
theorem dX3_fillRoundsUpTo_38 : decode cX3_fillRoundsUpTo 38 = .ok (.lastore, 1) := by decide +kernel
set_option maxRecDepth 20000 in
theorem dX3_fillRoundsUpTo_39 : decode cX3_fillRoundsUpTo 39 = .ok (.iinc 2 1, 3) := by decide +kernel
set_option maxRecDepth 20000 in
theorem dX3_fillRoundsUpTo_42 : decode cX3_fillRoundsUpTo 42 = .ok (.goto (-23), 3) := by decide +kernel
set_option maxRecDepth 20000 in
theorem dX3_fillRoundsUpTo_45 : decode cX3_fillRoundsUpTo 45 = .ok (.iinc 1 1, 3) := by decide +kernel
set_option maxRecDepth 20000 in
theorem dX3_fillRoundsUpTo_48 : decode cX3_fillRoundsUpTo 48 = .ok (.goto (-46), 3) := by decide +kernel
set_option maxRecDepth 20000 in
theorem dX3_fillRoundsUpTo_51 : decode cX3_fillRoundsUpTo 51 = .ok (.return_, 1) := by decide +kernel
set_option maxRecDepth 20000 in
theorem dX3_sumByRoundOfLast_0 : decode cX3_sumByRoundOfLast 0 = .ok (.lconst 0, 1) := by decide +kernel
set_option maxRecDepth 20000 in
theorem dX3_sumByRoundOfLast_1 : decode cX3_sumByRoundOfLast 1 = .ok (.lstore_n 3, 1) := by decide +kernel
set_option maxRecDepth 20000 in
theorem dX3_sumByRoundOfLast_2 : decode cX3_sumByRoundOfLast 2 = .ok (.lconst 1, 1) := by decide +kernel
set_option maxRecDepth 20000 in
theorem dX3_sumByRoundOfLast_3 : decode cX3_sumByRoundOfLast 3 = .ok (.lstore 5, 2) := by decide +kernel
set_option maxRecDepth 20000 in
theorem dX3_sumByRoundOfLast_5 : decode cX3_sumByRoundOfLast 5 = .ok (.iconst 1, 1) := by decide +kernel
set_option maxRecDepth 20000 in
theorem dX3_sumByRoundOfLast_6 : decode cX3_sumByRoundOfLast 6 = .ok (.istore 7, 2) := by decide +kernel
set_option maxRecDepth 20000 in
theorem dX3_sumByRoundOfLast_8 : decode cX3_sumByRoundOfLast 8 = .ok (.iload 7, 2) := by decide +kernel
set_option maxRecDepth 20000 in
theorem dX3_sumByRoundOfLast_10 : decode cX3_sumByRoundOfLast 10 = .ok (.iload_n 2, 1) := by decide +kernel
set_option maxRecDepth 20000 in
theorem dX3_sumByRoundOfLast_11 : decode cX3_sumByRoundOfLast 11 = .ok (.if_icmp .gt 42, 3) := by decide +kernel
set_option maxRecDepth 20000 in
theorem dX3_sumByRoundOfLast_14 : decode cX3_sumByRoundOfLast 14 = .ok (.iload 7, 2) := by decide +kernel
set_option maxRecDepth 20000 in
theorem dX3_sumByRoundOfLast_16 : decode cX3_sumByRoundOfLast 16 = .ok (.iload_n 1, 1) := by decide +kernel
set_option maxRecDepth 20000 in
theorem dX3_sumByRoundOfLast_17 : decode cX3_sumByRoundOfLast 17 = .ok (.if_icmp .gt 36, 3) := by decide +kernel
set_option maxRecDepth 20000 in
theorem dX3_sumByRoundOfLast_20 : decode cX3_sumByRoundOfLast 20 = .ok (.lload_n 3, 1) := by decide +kernel
set_option maxRecDepth 20000 in
theorem dX3_sumByRoundOfLast_21 : decode cX3_sumByRoundOfLast 21 = .ok (.lload 5, 2) := by decide +kernel
set_option maxRecDepth 20000 in
theorem dX3_sumByRoundOfLast_23 : decode cX3_sumByRoundOfLast 23 = .ok (.aload_n 0, 1) := by decide +kernel
set_option maxRecDepth 20000 in
theorem dX3_sumByRoundOfLast_24 : decode cX3_sumByRoundOfLast 24 = .ok (.getfield 23, 3) := by decide +kernel
set_option maxRecDepth 20000 in
theorem dX3_sumByRoundOfLast_27 : decode cX3_sumByRoundOfLast 27 = .ok (.iload_n 1, 1) := by decide +kernel
set_option maxRecDepth 20000 in
theorem dX3_sumByRoundOfLast_28 : decode cX3_sumByRoundOfLast 28 = .ok (.aaload, 1) := by decide +kernel
set_option maxRecDepth 20000 in
theorem dX3_sumByRoundOfLast_29 : decode cX3_sumByRoundOfLast 29 = .ok (.iload_n 2, 1) := by decide +kernel
set_option maxRecDepth 20000 in
theorem dX3_sumByRoundOfLast_30 : decode cX3_sumByRoundOfLast 30 = .ok (.iload 7, 2) := by decide +kernel
set_option maxRecDepth 20000 in
theorem dX3_sumByRoundOfLast_32 : decode cX3_sumByRoundOfLast 32 = .ok (.isub, 1) := by decide +kernel
set_option maxRecDepth 20000 in
theorem dX3_sumByRoundOfLast_33 : decode cX3_sumByRoundOfLast 33 = .ok (.laload, 1) := by decide +kernel
set_option maxRecDepth 20000 in
theorem dX3_sumByRoundOfLast_34 : decode cX3_sumByRoundOfLast 34 = .ok (.lmul, 1) := by decide +kernel
set_option maxRecDepth 20000 in
theorem dX3_sumByRoundOfLast_35 : decode cX3_sumByRoundOfLast 35 = .ok (.ladd, 1) := by decide +kernel
set_option maxRecDepth 20000 in
theorem dX3_sumByRoundOfLast_36 : decode cX3_sumByRoundOfLast 36 = .ok (.lstore_n 3, 1) := by decide +kernel
set_option maxRecDepth 20000 in
theorem dX3_sumByRoundOfLast_37 : decode cX3_sumByRoundOfLast 37 = .ok (.lload 5, 2) := by decide +kernel
set_option maxRecDepth 20000 in
theorem dX3_sumByRoundOfLast_39 : decode cX3_sumByRoundOfLast 39 = .ok (.iload_n 2, 1) := by decide +kernel
set_option maxRecDepth 20000 in
theorem dX3_sumByRoundOfLast_40 : decode cX3_sumByRoundOfLast 40 = .ok (.iload 7, 2) := by decide +kernel
set_option maxRecDepth 20000 in
theorem dX3_sumByRoundOfLast_42 : decode cX3_sumByRoundOfLast 42 = .ok (.isub, 1) := by decide +kernel
set_option maxRecDepth 20000 in
theorem dX3_sumByRoundOfLast_43 : decode cX3_sumByRoundOfLast 43 = .ok (.i2l, 1) := by decide +kernel
set_option maxRecDepth 20000 in
theorem dX3_sumByRoundOfLast_44 : decode cX3_sumByRoundOfLast 44 = .ok (.lmul, 1) := by decide +kernel
set_option maxRecDepth 20000 in
theorem dX3_sumByRoundOfLast_45 : decode cX3_sumByRoundOfLast 45 = .ok (.lstore 5, 2) := by decide +kernel
set_option maxRecDepth 20000 in
theorem dX3_sumByRoundOfLast_47 : decode cX3_sumByRoundOfLast 47 = .ok (.iinc 7 1, 3) := by decide +kernel
set_option maxRecDepth 20000 in
theorem dX3_sumByRoundOfLast_50 : decode cX3_sumByRoundOfLast 50 = .ok (.goto (-42), 3) := by decide +kernel
set_option maxRecDepth 20000 in
theorem dX3_sumByRoundOfLast_53 : decode cX3_sumByRoundOfLast 53 = .ok (.lload_n 3, 1) := by decide +kernel
set_option maxRecDepth 20000 in
theorem dX3_sumByRoundOfLast_54 : decode cX3_sumByRoundOfLast 54 = .ok (.lreturn, 1) := by decide +kernel
set_option maxRecDepth 20000 in
theorem dX3_fillRises_0 : decode cX3_fillRises 0 = .ok (.aload_n 0, 1) := by decide +kernel
set_option maxRecDepth 20000 in
theorem dX3_fillRises_1 : decode cX3_fillRises 1 = .ok (.getfield 30, 3) := by decide +kernel
set_option maxRecDepth 20000 in
theorem dX3_fillRises_4 : decode cX3_fillRises 4 = .ok (.iconst 0, 1) := by decide +kernel
set_option maxRecDepth 20000 in
theorem dX3_fillRises_5 : decode cX3_fillRises 5 = .ok (.lconst 1, 1) := by decide +kernel
set_option maxRecDepth 20000 in
theorem dX3_fillRises_6 : decode cX3_fillRises 6 = .ok (.lastore, 1) := by decide +kernel
set_option maxRecDepth 20000 in
theorem dX3_fillRises_7 : decode cX3_fillRises 7 = .ok (.iconst 1, 1) := by decide +kernel
set_option maxRecDepth 20000 in
theorem dX3_fillRises_8 : decode cX3_fillRises 8 = .ok (.istore_n 1, 1) := by decide +kernel
set_option maxRecDepth 20000 in
theorem dX3_fillRises_9 : decode cX3_fillRises 9 = .ok (.iload_n 1, 1) := by decide +kernel
set_option maxRecDepth 20000 in
theorem dX3_fillRises_10 : decode cX3_fillRises 10 = .ok (.bipush 18, 2) := by decide +kernel
set_option maxRecDepth 20000 in
theorem dX3_fillRises_12 : decode cX3_fillRises 12 = .ok (.if_icmp .gt 28, 3) := by decide +kernel
set_option maxRecDepth 20000 in
theorem dX3_fillRises_15 : decode cX3_fillRises 15 = .ok (.iconst 0, 1) := by decide +kernel
set_option maxRecDepth 20000 in
theorem dX3_fillRises_16 : decode cX3_fillRises 16 = .ok (.istore_n 2, 1) := by decide +kernel
set_option maxRecDepth 20000 in
theorem dX3_fillRises_17 : decode cX3_fillRises 17 = .ok (.iload_n 2, 1) := by decide +kernel
set_option maxRecDepth 20000 in
theorem dX3_fillRises_18 : decode cX3_fillRises 18 = .ok (.iload_n 1, 1) := by decide +kernel
set_option maxRecDepth 20000 in
theorem dX3_fillRises_19 : decode cX3_fillRises 19 = .ok (.if_icmp .gt 15, 3) := by decide +kernel
set_option maxRecDepth 20000 in
theorem dX3_fillRises_22 : decode cX3_fillRises 22 = .ok (.aload_n 0, 1) := by decide +kernel
set_option maxRecDepth 20000 in
theorem dX3_fillRises_23 : decode cX3_fillRises 23 = .ok (.iload_n 1, 1) := by decide +kernel
set_option maxRecDepth 20000 in
theorem dX3_fillRises_24 : decode cX3_fillRises 24 = .ok (.iload_n 2, 1) := by decide +kernel
set_option maxRecDepth 20000 in
theorem dX3_fillRises_25 : decode cX3_fillRises 25 = .ok (.invokevirtual 52, 3) := by decide +kernel
set_option maxRecDepth 20000 in
theorem dX3_fillRises_28 : decode cX3_fillRises 28 = .ok (.iinc 2 1, 3) := by decide +kernel
set_option maxRecDepth 20000 in
theorem dX3_fillRises_31 : decode cX3_fillRises 31 = .ok (.goto (-14), 3) := by decide +kernel
set_option maxRecDepth 20000 in
theorem dX3_fillRises_34 : decode cX3_fillRises 34 = .ok (.iinc 1 1, 3) := by decide +kernel
set_option maxRecDepth 20000 in
theorem dX3_fillRises_37 : decode cX3_fillRises 37 = .ok (.goto (-28), 3) := by decide +kernel
set_option maxRecDepth 20000 in
theorem dX3_fillRises_40 : decode cX3_fillRises 40 = .ok (.return_, 1) := by decide +kernel
set_option maxRecDepth 20000 in
theorem dX3_fillRisesByBelow_0 : decode cX3_fillRisesByBelow 0 = .ok (.lconst 0, 1) := by decide +kernel
set_option maxRecDepth 20000 in
theorem dX3_fillRisesByBelow_1 : decode cX3_fillRisesByBelow 1 = .ok (.lstore_n 3, 1) := by decide +kernel
set_option maxRecDepth 20000 in
theorem dX3_fillRisesByBelow_2 : decode cX3_fillRisesByBelow 2 = .ok (.iconst 0, 1) := by decide +kernel
set_option maxRecDepth 20000 in
theorem dX3_fillRisesByBelow_3 : decode cX3_fillRisesByBelow 3 = .ok (.istore 5, 2) := by decide +kernel
set_option maxRecDepth 20000 in
theorem dX3_fillRisesByBelow_5 : decode cX3_fillRisesByBelow 5 = .ok (.iload 5, 2) := by decide +kernel
set_option maxRecDepth 20000 in
theorem dX3_fillRisesByBelow_7 : decode cX3_fillRisesByBelow 7 = .ok (.iload_n 1, 1) := by decide +kernel
set_option maxRecDepth 20000 in
theorem dX3_fillRisesByBelow_8 : decode cX3_fillRisesByBelow 8 = .ok (.if_icmp .ge 24, 3) := by decide +kernel
set_option maxRecDepth 20000 in
theorem dX3_fillRisesByBelow_11 : decode cX3_fillRisesByBelow 11 = .ok (.lload_n 3, 1) := by decide +kernel
set_option maxRecDepth 20000 in
theorem dX3_fillRisesByBelow_12 : decode cX3_fillRisesByBelow 12 = .ok (.aload_n 0, 1) := by decide +kernel
set_option maxRecDepth 20000 in
theorem dX3_fillRisesByBelow_13 : decode cX3_fillRisesByBelow 13 = .ok (.iload_n 1, 1) := by decide +kernel
set_option maxRecDepth 20000 in
theorem dX3_fillRisesByBelow_14 : decode cX3_fillRisesByBelow 14 = .ok (.iconst 1, 1) := by decide +kernel
set_option maxRecDepth 20000 in
theorem dX3_fillRisesByBelow_15 : decode cX3_fillRisesByBelow 15 = .ok (.isub, 1) := by decide +kernel
set_option maxRecDepth 20000 in
theorem dX3_fillRisesByBelow_16 : decode cX3_fillRisesByBelow 16 = .ok (.iload 5, 2) := by decide +kernel
set_option maxRecDepth 20000 in
theorem dX3_fillRisesByBelow_18 : decode cX3_fillRisesByBelow 18 = .ok (.iload_n 2, 1) := by decide +kernel
set_option maxRecDepth 20000 in
theorem dX3_fillRisesByBelow_19 : decode cX3_fillRisesByBelow 19 = .ok (.iconst 1, 1) := by decide +kernel
set_option maxRecDepth 20000 in
theorem dX3_fillRisesByBelow_20 : decode cX3_fillRisesByBelow 20 = .ok (.isub, 1) := by decide +kernel
set_option maxRecDepth 20000 in
theorem dX3_fillRisesByBelow_21 : decode cX3_fillRisesByBelow 21 = .ok (.invokevirtual 56, 3) := by decide +kernel
set_option maxRecDepth 20000 in
theorem dX3_fillRisesByBelow_24 : decode cX3_fillRisesByBelow 24 = .ok (.ladd, 1) := by decide +kernel
set_option maxRecDepth 20000 in
theorem dX3_fillRisesByBelow_25 : decode cX3_fillRisesByBelow 25 = .ok (.lstore_n 3, 1) := by decide +kernel
set_option maxRecDepth 20000 in
theorem dX3_fillRisesByBelow_26 : decode cX3_fillRisesByBelow 26 = .ok (.iinc 5 1, 3) := by decide +kernel
set_option maxRecDepth 20000 in
theorem dX3_fillRisesByBelow_29 : decode cX3_fillRisesByBelow 29 = .ok (.goto (-24), 3) := by decide +kernel
set_option maxRecDepth 20000 in
theorem dX3_fillRisesByBelow_32 : decode cX3_fillRisesByBelow 32 = .ok (.aload_n 0, 1) := by decide +kernel
set_option maxRecDepth 20000 in
theorem dX3_fillRisesByBelow_33 : decode cX3_fillRisesByBelow 33 = .ok (.getfield 30, 3) := by decide +kernel
set_option maxRecDepth 20000 in
theorem dX3_fillRisesByBelow_36 : decode cX3_fillRisesByBelow 36 = .ok (.iload_n 1, 1) := by decide +kernel
set_option maxRecDepth 20000 in
theorem dX3_fillRisesByBelow_37 : decode cX3_fillRisesByBelow 37 = .ok (.iconst 0, 1) := by decide +kernel
set_option maxRecDepth 20000 in
theorem dX3_fillRisesByBelow_38 : decode cX3_fillRisesByBelow 38 = .ok (.iload_n 2, 1) := by decide +kernel
set_option maxRecDepth 20000 in
theorem dX3_fillRisesByBelow_39 : decode cX3_fillRisesByBelow 39 = .ok (.invokestatic 26, 3) := by decide +kernel
set_option maxRecDepth 20000 in
theorem dX3_fillRisesByBelow_42 : decode cX3_fillRisesByBelow 42 = .ok (.lload_n 3, 1) := by decide +kernel
set_option maxRecDepth 20000 in
theorem dX3_fillRisesByBelow_43 : decode cX3_fillRisesByBelow 43 = .ok (.lastore, 1) := by decide +kernel
set_option maxRecDepth 20000 in
theorem dX3_fillRisesByBelow_44 : decode cX3_fillRisesByBelow 44 = .ok (.iconst 1, 1) := by decide +kernel
set_option maxRecDepth 20000 in
theorem dX3_fillRisesByBelow_45 : decode cX3_fillRisesByBelow 45 = .ok (.istore 5, 2) := by decide +kernel
set_option maxRecDepth 20000 in
theorem dX3_fillRisesByBelow_47 : decode cX3_fillRisesByBelow 47 = .ok (.iload 5, 2) := by decide +kernel
set_option maxRecDepth 20000 in
theorem dX3_fillRisesByBelow_49 : decode cX3_fillRisesByBelow 49 = .ok (.iload_n 1, 1) := by decide +kernel
set_option maxRecDepth 20000 in
theorem dX3_fillRisesByBelow_50 : decode cX3_fillRisesByBelow 50 = .ok (.if_icmp .gt 52, 3) := by decide +kernel
set_option maxRecDepth 20000 in
theorem dX3_fillRisesByBelow_53 : decode cX3_fillRisesByBelow 53 = .ok (.lload_n 3, 1) := by decide +kernel
set_option maxRecDepth 20000 in
theorem dX3_fillRisesByBelow_54 : decode cX3_fillRisesByBelow 54 = .ok (.aload_n 0, 1) := by decide +kernel
set_option maxRecDepth 20000 in
theorem dX3_fillRisesByBelow_55 : decode cX3_fillRisesByBelow 55 = .ok (.iload_n 1, 1) := by decide +kernel
set_option maxRecDepth 20000 in
theorem dX3_fillRisesByBelow_56 : decode cX3_fillRisesByBelow 56 = .ok (.iconst 1, 1) := by decide +kernel
set_option maxRecDepth 20000 in
theorem dX3_fillRisesByBelow_57 : decode cX3_fillRisesByBelow 57 = .ok (.isub, 1) := by decide +kernel
set_option maxRecDepth 20000 in
theorem dX3_fillRisesByBelow_58 : decode cX3_fillRisesByBelow 58 = .ok (.iload 5, 2) := by decide +kernel
set_option maxRecDepth 20000 in
theorem dX3_fillRisesByBelow_60 : decode cX3_fillRisesByBelow 60 = .ok (.iconst 1, 1) := by decide +kernel
set_option maxRecDepth 20000 in
theorem dX3_fillRisesByBelow_61 : decode cX3_fillRisesByBelow 61 = .ok (.isub, 1) := by decide +kernel
set_option maxRecDepth 20000 in
theorem dX3_fillRisesByBelow_62 : decode cX3_fillRisesByBelow 62 = .ok (.iload_n 2, 1) := by decide +kernel
set_option maxRecDepth 20000 in
theorem dX3_fillRisesByBelow_63 : decode cX3_fillRisesByBelow 63 = .ok (.invokevirtual 56, 3) := by decide +kernel
set_option maxRecDepth 20000 in
theorem dX3_fillRisesByBelow_66 : decode cX3_fillRisesByBelow 66 = .ok (.aload_n 0, 1) := by decide +kernel
set_option maxRecDepth 20000 in
theorem dX3_fillRisesByBelow_67 : decode cX3_fillRisesByBelow 67 = .ok (.iload_n 1, 1) := by decide +kernel
set_option maxRecDepth 20000 in
theorem dX3_fillRisesByBelow_68 : decode cX3_fillRisesByBelow 68 = .ok (.iconst 1, 1) := by decide +kernel
set_option maxRecDepth 20000 in
theorem dX3_fillRisesByBelow_69 : decode cX3_fillRisesByBelow 69 = .ok (.isub, 1) := by decide +kernel
set_option maxRecDepth 20000 in
theorem dX3_fillRisesByBelow_70 : decode cX3_fillRisesByBelow 70 = .ok (.iload 5, 2) := by decide +kernel
set_option maxRecDepth 20000 in
theorem dX3_fillRisesByBelow_72 : decode cX3_fillRisesByBelow 72 = .ok (.iconst 1, 1) := by decide +kernel
set_option maxRecDepth 20000 in
theorem dX3_fillRisesByBelow_73 : decode cX3_fillRisesByBelow 73 = .ok (.isub, 1) := by decide +kernel
set_option maxRecDepth 20000 in
theorem dX3_fillRisesByBelow_74 : decode cX3_fillRisesByBelow 74 = .ok (.iload_n 2, 1) := by decide +kernel
set_option maxRecDepth 20000 in
theorem dX3_fillRisesByBelow_75 : decode cX3_fillRisesByBelow 75 = .ok (.iconst 1, 1) := by decide +kernel
set_option maxRecDepth 20000 in
theorem dX3_fillRisesByBelow_76 : decode cX3_fillRisesByBelow 76 = .ok (.isub, 1) := by decide +kernel
set_option maxRecDepth 20000 in
theorem dX3_fillRisesByBelow_77 : decode cX3_fillRisesByBelow 77 = .ok (.invokevirtual 56, 3) := by decide +kernel
set_option maxRecDepth 20000 in
theorem dX3_fillRisesByBelow_80 : decode cX3_fillRisesByBelow 80 = .ok (.lsub, 1) := by decide +kernel
set_option maxRecDepth 20000 in
theorem dX3_fillRisesByBelow_81 : decode cX3_fillRisesByBelow 81 = .ok (.ladd, 1) := by decide +kernel
set_option maxRecDepth 20000 in
theorem dX3_fillRisesByBelow_82 : decode cX3_fillRisesByBelow 82 = .ok (.lstore_n 3, 1) := by decide +kernel
set_option maxRecDepth 20000 in
theorem dX3_fillRisesByBelow_83 : decode cX3_fillRisesByBelow 83 = .ok (.aload_n 0, 1) := by decide +kernel
set_option maxRecDepth 20000 in
theorem dX3_fillRisesByBelow_84 : decode cX3_fillRisesByBelow 84 = .ok (.getfield 30, 3) := by decide +kernel
set_option maxRecDepth 20000 in
theorem dX3_fillRisesByBelow_87 : decode cX3_fillRisesByBelow 87 = .ok (.iload_n 1, 1) := by decide +kernel
set_option maxRecDepth 20000 in
theorem dX3_fillRisesByBelow_88 : decode cX3_fillRisesByBelow 88 = .ok (.iload 5, 2) := by decide +kernel
set_option maxRecDepth 20000 in
theorem dX3_fillRisesByBelow_90 : decode cX3_fillRisesByBelow 90 = .ok (.iload_n 2, 1) := by decide +kernel
set_option maxRecDepth 20000 in
theorem dX3_fillRisesByBelow_91 : decode cX3_fillRisesByBelow 91 = .ok (.invokestatic 26, 3) := by decide +kernel
set_option maxRecDepth 20000 in
theorem dX3_fillRisesByBelow_94 : decode cX3_fillRisesByBelow 94 = .ok (.lload_n 3, 1) := by decide +kernel
set_option maxRecDepth 20000 in
theorem dX3_fillRisesByBelow_95 : decode cX3_fillRisesByBelow 95 = .ok (.lastore, 1) := by decide +kernel
set_option maxRecDepth 20000 in
theorem dX3_fillRisesByBelow_96 : decode cX3_fillRisesByBelow 96 = .ok (.iinc 5 1, 3) := by decide +kernel
set_option maxRecDepth 20000 in
theorem dX3_fillRisesByBelow_99 : decode cX3_fillRisesByBelow 99 = .ok (.goto (-52), 3) := by decide +kernel
set_option maxRecDepth 20000 in
theorem dX3_fillRisesByBelow_102 : decode cX3_fillRisesByBelow 102 = .ok (.return_, 1) := by decide +kernel
set_option maxRecDepth 20000 in
theorem dX3_riseSlot_0 : decode cX3_riseSlot 0 = .ok (.iload_n 0, 1) := by decide +kernel
set_option maxRecDepth 20000 in
theorem dX3_riseSlot_1 : decode cX3_riseSlot 1 = .ok (.iload_n 0, 1) := by decide +kernel
set_option maxRecDepth 20000 in
theorem dX3_riseSlot_2 : decode cX3_riseSlot 2 = .ok (.iconst 1, 1) := by decide +kernel
set_option maxRecDepth 20000 in
theorem dX3_riseSlot_3 : decode cX3_riseSlot 3 = .ok (.iadd, 1) := by decide +kernel
set_option maxRecDepth 20000 in
theorem dX3_riseSlot_4 : decode cX3_riseSlot 4 = .ok (.imul, 1) := by decide +kernel
set_option maxRecDepth 20000 in
theorem dX3_riseSlot_5 : decode cX3_riseSlot 5 = .ok (.iconst 2, 1) := by decide +kernel
set_option maxRecDepth 20000 in
theorem dX3_riseSlot_6 : decode cX3_riseSlot 6 = .ok (.iload_n 0, 1) := by decide +kernel
set_option maxRecDepth 20000 in
theorem dX3_riseSlot_7 : decode cX3_riseSlot 7 = .ok (.imul, 1) := by decide +kernel
set_option maxRecDepth 20000 in
theorem dX3_riseSlot_8 : decode cX3_riseSlot 8 = .ok (.iconst 1, 1) := by decide +kernel
set_option maxRecDepth 20000 in
theorem dX3_riseSlot_9 : decode cX3_riseSlot 9 = .ok (.iadd, 1) := by decide +kernel
set_option maxRecDepth 20000 in
theorem dX3_riseSlot_10 : decode cX3_riseSlot 10 = .ok (.imul, 1) := by decide +kernel
set_option maxRecDepth 20000 in
theorem dX3_riseSlot_11 : decode cX3_riseSlot 11 = .ok (.bipush 6, 2) := by decide +kernel
set_option maxRecDepth 20000 in
theorem dX3_riseSlot_13 : decode cX3_riseSlot 13 = .ok (.idiv, 1) := by decide +kernel
set_option maxRecDepth 20000 in
theorem dX3_riseSlot_14 : decode cX3_riseSlot 14 = .ok (.iload_n 1, 1) := by decide +kernel
set_option maxRecDepth 20000 in
theorem dX3_riseSlot_15 : decode cX3_riseSlot 15 = .ok (.iload_n 0, 1) := by decide +kernel
set_option maxRecDepth 20000 in
theorem dX3_riseSlot_16 : decode cX3_riseSlot 16 = .ok (.iconst 1, 1) := by decide +kernel
set_option maxRecDepth 20000 in
theorem dX3_riseSlot_17 : decode cX3_riseSlot 17 = .ok (.iadd, 1) := by decide +kernel
set_option maxRecDepth 20000 in
theorem dX3_riseSlot_18 : decode cX3_riseSlot 18 = .ok (.imul, 1) := by decide +kernel
set_option maxRecDepth 20000 in
theorem dX3_riseSlot_19 : decode cX3_riseSlot 19 = .ok (.iadd, 1) := by decide +kernel
set_option maxRecDepth 20000 in
theorem dX3_riseSlot_20 : decode cX3_riseSlot 20 = .ok (.iload_n 2, 1) := by decide +kernel
set_option maxRecDepth 20000 in
theorem dX3_riseSlot_21 : decode cX3_riseSlot 21 = .ok (.iadd, 1) := by decide +kernel
set_option maxRecDepth 20000 in
theorem dX3_riseSlot_22 : decode cX3_riseSlot 22 = .ok (.ireturn, 1) := by decide +kernel
set_option maxRecDepth 20000 in
theorem dX3_ordersOf_0 : decode cX3_ordersOf 0 = .ok (.aload_n 0, 1) := by decide +kernel
set_option maxRecDepth 20000 in
theorem dX3_ordersOf_1 : decode cX3_ordersOf 1 = .ok (.getfield 9, 3) := by decide +kernel
set_option maxRecDepth 20000 in
theorem dX3_ordersOf_4 : decode cX3_ordersOf 4 = .ok (.iload_n 1, 1) := by decide +kernel
set_option maxRecDepth 20000 in
theorem dX3_ordersOf_5 : decode cX3_ordersOf 5 = .ok (.invokestatic 60, 3) := by decide +kernel
set_option maxRecDepth 20000 in
theorem dX3_ordersOf_8 : decode cX3_ordersOf 8 = .ok (.lreturn, 1) := by decide +kernel
set_option maxRecDepth 20000 in
theorem dX3_withStill_0 : decode cX3_withStill 0 = .ok (.iload_n 2, 1) := by decide +kernel
set_option maxRecDepth 20000 in
theorem dX3_withStill_1 : decode cX3_withStill 1 = .ok (.ifCond .lt 8, 3) := by decide +kernel
set_option maxRecDepth 20000 in
theorem dX3_withStill_4 : decode cX3_withStill 4 = .ok (.iload_n 2, 1) := by decide +kernel
set_option maxRecDepth 20000 in
theorem dX3_withStill_5 : decode cX3_withStill 5 = .ok (.iload_n 1, 1) := by decide +kernel
set_option maxRecDepth 20000 in
theorem dX3_withStill_6 : decode cX3_withStill 6 = .ok (.if_icmp .le 5, 3) := by decide +kernel
set_option maxRecDepth 20000 in
theorem dX3_withStill_9 : decode cX3_withStill 9 = .ok (.lconst 0, 1) := by decide +kernel
set_option maxRecDepth 20000 in
theorem dX3_withStill_10 : decode cX3_withStill 10 = .ok (.lreturn, 1) := by decide +kernel
set_option maxRecDepth 20000 in
theorem dX3_withStill_11 : decode cX3_withStill 11 = .ok (.aload_n 0, 1) := by decide +kernel
set_option maxRecDepth 20000 in
theorem dX3_withStill_12 : decode cX3_withStill 12 = .ok (.getfield 15, 3) := by decide +kernel
set_option maxRecDepth 20000 in
theorem dX3_withStill_15 : decode cX3_withStill 15 = .ok (.iload_n 1, 1) := by decide +kernel
set_option maxRecDepth 20000 in
theorem dX3_withStill_16 : decode cX3_withStill 16 = .ok (.iload_n 2, 1) := by decide +kernel
set_option maxRecDepth 20000 in
theorem dX3_withStill_17 : decode cX3_withStill 17 = .ok (.isub, 1) := by decide +kernel
set_option maxRecDepth 20000 in
theorem dX3_withStill_18 : decode cX3_withStill 18 = .ok (.invokestatic 60, 3) := by decide +kernel
set_option maxRecDepth 20000 in
theorem dX3_withStill_21 : decode cX3_withStill 21 = .ok (.lstore_n 3, 1) := by decide +kernel
set_option maxRecDepth 20000 in
theorem dX3_withStill_22 : decode cX3_withStill 22 = .ok (.iconst 1, 1) := by decide +kernel
set_option maxRecDepth 20000 in
theorem dX3_withStill_23 : decode cX3_withStill 23 = .ok (.istore 5, 2) := by decide +kernel
set_option maxRecDepth 20000 in
theorem dX3_withStill_25 : decode cX3_withStill 25 = .ok (.iload 5, 2) := by decide +kernel
set_option maxRecDepth 20000 in
theorem dX3_withStill_27 : decode cX3_withStill 27 = .ok (.iload_n 2, 1) := by decide +kernel
set_option maxRecDepth 20000 in
theorem dX3_withStill_28 : decode cX3_withStill 28 = .ok (.if_icmp .gt 23, 3) := by decide +kernel
set_option maxRecDepth 20000 in
theorem dX3_withStill_31 : decode cX3_withStill 31 = .ok (.lload_n 3, 1) := by decide +kernel
set_option maxRecDepth 20000 in
theorem dX3_withStill_32 : decode cX3_withStill 32 = .ok (.iload_n 1, 1) := by decide +kernel
set_option maxRecDepth 20000 in
theorem dX3_withStill_33 : decode cX3_withStill 33 = .ok (.iload_n 2, 1) := by decide +kernel
set_option maxRecDepth 20000 in
theorem dX3_withStill_34 : decode cX3_withStill 34 = .ok (.isub, 1) := by decide +kernel
set_option maxRecDepth 20000 in
theorem dX3_withStill_35 : decode cX3_withStill 35 = .ok (.iload 5, 2) := by decide +kernel
set_option maxRecDepth 20000 in
theorem dX3_withStill_37 : decode cX3_withStill 37 = .ok (.iadd, 1) := by decide +kernel
set_option maxRecDepth 20000 in
theorem dX3_withStill_38 : decode cX3_withStill 38 = .ok (.i2l, 1) := by decide +kernel
set_option maxRecDepth 20000 in
theorem dX3_withStill_39 : decode cX3_withStill 39 = .ok (.lmul, 1) := by decide +kernel
set_option maxRecDepth 20000 in
theorem dX3_withStill_40 : decode cX3_withStill 40 = .ok (.iload 5, 2) := by decide +kernel
set_option maxRecDepth 20000 in
theorem dX3_withStill_42 : decode cX3_withStill 42 = .ok (.i2l, 1) := by decide +kernel
set_option maxRecDepth 20000 in
theorem dX3_withStill_43 : decode cX3_withStill 43 = .ok (.ldiv, 1) := by decide +kernel
set_option maxRecDepth 20000 in
theorem dX3_withStill_44 : decode cX3_withStill 44 = .ok (.lstore_n 3, 1) := by decide +kernel
set_option maxRecDepth 20000 in
theorem dX3_withStill_45 : decode cX3_withStill 45 = .ok (.iinc 5 1, 3) := by decide +kernel
set_option maxRecDepth 20000 in
theorem dX3_withStill_48 : decode cX3_withStill 48 = .ok (.goto (-23), 3) := by decide +kernel
set_option maxRecDepth 20000 in
theorem dX3_withStill_51 : decode cX3_withStill 51 = .ok (.lload_n 3, 1) := by decide +kernel
set_option maxRecDepth 20000 in
theorem dX3_withStill_52 : decode cX3_withStill 52 = .ok (.lreturn, 1) := by decide +kernel
set_option maxRecDepth 20000 in
theorem dX3_withRoundsUpTo_0 : decode cX3_withRoundsUpTo 0 = .ok (.iload_n 1, 1) := by decide +kernel
set_option maxRecDepth 20000 in
theorem dX3_withRoundsUpTo_1 : decode cX3_withRoundsUpTo 1 = .ok (.ifCond .lt 22, 3) := by decide +kernel
set_option maxRecDepth 20000 in
theorem dX3_withRoundsUpTo_4 : decode cX3_withRoundsUpTo 4 = .ok (.iload_n 1, 1) := by decide +kernel
set_option maxRecDepth 20000 in
theorem dX3_withRoundsUpTo_5 : decode cX3_withRoundsUpTo 5 = .ok (.bipush 18, 2) := by decide +kernel
set_option maxRecDepth 20000 in
theorem dX3_withRoundsUpTo_7 : decode cX3_withRoundsUpTo 7 = .ok (.if_icmp .gt 16, 3) := by decide +kernel
set_option maxRecDepth 20000 in
theorem dX3_withRoundsUpTo_10 : decode cX3_withRoundsUpTo 10 = .ok (.aload_n 0, 1) := by decide +kernel
set_option maxRecDepth 20000 in
theorem dX3_withRoundsUpTo_11 : decode cX3_withRoundsUpTo 11 = .ok (.getfield 23, 3) := by decide +kernel
set_option maxRecDepth 20000 in
theorem dX3_withRoundsUpTo_14 : decode cX3_withRoundsUpTo 14 = .ok (.iload_n 1, 1) := by decide +kernel
set_option maxRecDepth 20000 in
theorem dX3_withRoundsUpTo_15 : decode cX3_withRoundsUpTo 15 = .ok (.aaload, 1) := by decide +kernel
set_option maxRecDepth 20000 in
theorem dX3_withRoundsUpTo_16 : decode cX3_withRoundsUpTo 16 = .ok (.iload_n 2, 1) := by decide +kernel
set_option maxRecDepth 20000 in
theorem dX3_withRoundsUpTo_17 : decode cX3_withRoundsUpTo 17 = .ok (.invokestatic 60, 3) := by decide +kernel
set_option maxRecDepth 20000 in
theorem dX3_withRoundsUpTo_20 : decode cX3_withRoundsUpTo 20 = .ok (.goto 4, 3) := by decide +kernel
set_option maxRecDepth 20000 in
theorem dX3_withRoundsUpTo_23 : decode cX3_withRoundsUpTo 23 = .ok (.lconst 0, 1) := by decide +kernel
set_option maxRecDepth 20000 in
theorem dX3_withRoundsUpTo_24 : decode cX3_withRoundsUpTo 24 = .ok (.lreturn, 1) := by decide +kernel
set_option maxRecDepth 20000 in
theorem dX3_withRecords_0 : decode cX3_withRecords 0 = .ok (.iload_n 2, 1) := by decide +kernel
set_option maxRecDepth 20000 in
theorem dX3_withRecords_1 : decode cX3_withRecords 1 = .ok (.ifCond .lt 14, 3) := by decide +kernel
set_option maxRecDepth 20000 in
theorem dX3_withRecords_4 : decode cX3_withRecords 4 = .ok (.iload_n 2, 1) := by decide +kernel
set_option maxRecDepth 20000 in
theorem dX3_withRecords_5 : decode cX3_withRecords 5 = .ok (.iload_n 1, 1) := by decide +kernel
set_option maxRecDepth 20000 in
theorem dX3_withRecords_6 : decode cX3_withRecords 6 = .ok (.if_icmp .gt 9, 3) := by decide +kernel
set_option maxRecDepth 20000 in
theorem dX3_withRecords_9 : decode cX3_withRecords 9 = .ok (.iload_n 1, 1) := by decide +kernel
set_option maxRecDepth 20000 in
theorem dX3_withRecords_10 : decode cX3_withRecords 10 = .ok (.bipush 18, 2) := by decide +kernel
set_option maxRecDepth 20000 in
theorem dX3_withRecords_12 : decode cX3_withRecords 12 = .ok (.if_icmp .le 5, 3) := by decide +kernel
set_option maxRecDepth 20000 in
theorem dX3_withRecords_15 : decode cX3_withRecords 15 = .ok (.lconst 0, 1) := by decide +kernel
set_option maxRecDepth 20000 in
theorem dX3_withRecords_16 : decode cX3_withRecords 16 = .ok (.lreturn, 1) := by decide +kernel
set_option maxRecDepth 20000 in
theorem dX3_withRecords_17 : decode cX3_withRecords 17 = .ok (.aload_n 0, 1) := by decide +kernel
set_option maxRecDepth 20000 in
theorem dX3_withRecords_18 : decode cX3_withRecords 18 = .ok (.getfield 20, 3) := by decide +kernel
set_option maxRecDepth 20000 in
theorem dX3_withRecords_21 : decode cX3_withRecords 21 = .ok (.iload_n 2, 1) := by decide +kernel
set_option maxRecDepth 20000 in
theorem dX3_withRecords_22 : decode cX3_withRecords 22 = .ok (.aaload, 1) := by decide +kernel
set_option maxRecDepth 20000 in
theorem dX3_withRecords_23 : decode cX3_withRecords 23 = .ok (.iload_n 3, 1) := by decide +kernel
set_option maxRecDepth 20000 in
theorem dX3_withRecords_24 : decode cX3_withRecords 24 = .ok (.invokestatic 60, 3) := by decide +kernel
set_option maxRecDepth 20000 in
theorem dX3_withRecords_27 : decode cX3_withRecords 27 = .ok (.lstore 4, 2) := by decide +kernel
set_option maxRecDepth 20000 in
theorem dX3_withRecords_29 : decode cX3_withRecords 29 = .ok (.iload_n 2, 1) := by decide +kernel
set_option maxRecDepth 20000 in
theorem dX3_withRecords_30 : decode cX3_withRecords 30 = .ok (.iconst 1, 1) := by decide +kernel
set_option maxRecDepth 20000 in
theorem dX3_withRecords_31 : decode cX3_withRecords 31 = .ok (.iadd, 1) := by decide +kernel
set_option maxRecDepth 20000 in
theorem dX3_withRecords_32 : decode cX3_withRecords 32 = .ok (.istore 6, 2) := by decide +kernel
set_option maxRecDepth 20000 in
theorem dX3_withRecords_34 : decode cX3_withRecords 34 = .ok (.iload 6, 2) := by decide +kernel
set_option maxRecDepth 20000 in
theorem dX3_withRecords_36 : decode cX3_withRecords 36 = .ok (.iload_n 1, 1) := by decide +kernel
set_option maxRecDepth 20000 in
theorem dX3_withRecords_37 : decode cX3_withRecords 37 = .ok (.if_icmp .gt 17, 3) := by decide +kernel
set_option maxRecDepth 20000 in
theorem dX3_withRecords_40 : decode cX3_withRecords 40 = .ok (.lload 4, 2) := by decide +kernel
set_option maxRecDepth 20000 in
theorem dX3_withRecords_42 : decode cX3_withRecords 42 = .ok (.iload 6, 2) := by decide +kernel
set_option maxRecDepth 20000 in
theorem dX3_withRecords_44 : decode cX3_withRecords 44 = .ok (.i2l, 1) := by decide +kernel
set_option maxRecDepth 20000 in
theorem dX3_withRecords_45 : decode cX3_withRecords 45 = .ok (.lmul, 1) := by decide +kernel
set_option maxRecDepth 20000 in
theorem dX3_withRecords_46 : decode cX3_withRecords 46 = .ok (.lstore 4, 2) := by decide +kernel
set_option maxRecDepth 20000 in
theorem dX3_withRecords_48 : decode cX3_withRecords 48 = .ok (.iinc 6 1, 3) := by decide +kernel
set_option maxRecDepth 20000 in
theorem dX3_withRecords_51 : decode cX3_withRecords 51 = .ok (.goto (-17), 3) := by decide +kernel
set_option maxRecDepth 20000 in
theorem dX3_withRecords_54 : decode cX3_withRecords 54 = .ok (.lload 4, 2) := by decide +kernel
set_option maxRecDepth 20000 in
theorem dX3_withRecords_56 : decode cX3_withRecords 56 = .ok (.lreturn, 1) := by decide +kernel
set_option maxRecDepth 20000 in
theorem dX3_withRises_0 : decode cX3_withRises 0 = .ok (.iload_n 1, 1) := by decide +kernel
set_option maxRecDepth 20000 in
theorem dX3_withRises_1 : decode cX3_withRises 1 = .ok (.ifCond .lt 27, 3) := by decide +kernel
set_option maxRecDepth 20000 in
theorem dX3_withRises_4 : decode cX3_withRises 4 = .ok (.iload_n 1, 1) := by decide +kernel
set_option maxRecDepth 20000 in
theorem dX3_withRises_5 : decode cX3_withRises 5 = .ok (.bipush 18, 2) := by decide +kernel
set_option maxRecDepth 20000 in
theorem dX3_withRises_7 : decode cX3_withRises 7 = .ok (.if_icmp .gt 21, 3) := by decide +kernel
set_option maxRecDepth 20000 in
theorem dX3_withRises_10 : decode cX3_withRises 10 = .ok (.iload_n 2, 1) := by decide +kernel
set_option maxRecDepth 20000 in
theorem dX3_withRises_11 : decode cX3_withRises 11 = .ok (.ifCond .lt 17, 3) := by decide +kernel
set_option maxRecDepth 20000 in
theorem dX3_withRises_14 : decode cX3_withRises 14 = .ok (.iload_n 2, 1) := by decide +kernel
set_option maxRecDepth 20000 in
theorem dX3_withRises_15 : decode cX3_withRises 15 = .ok (.iload_n 1, 1) := by decide +kernel
set_option maxRecDepth 20000 in
theorem dX3_withRises_16 : decode cX3_withRises 16 = .ok (.if_icmp .gt 12, 3) := by decide +kernel
set_option maxRecDepth 20000 in
theorem dX3_withRises_19 : decode cX3_withRises 19 = .ok (.iload_n 3, 1) := by decide +kernel
set_option maxRecDepth 20000 in
theorem dX3_withRises_20 : decode cX3_withRises 20 = .ok (.ifCond .lt 8, 3) := by decide +kernel
set_option maxRecDepth 20000 in
theorem dX3_withRises_23 : decode cX3_withRises 23 = .ok (.iload_n 3, 1) := by decide +kernel
set_option maxRecDepth 20000 in
theorem dX3_withRises_24 : decode cX3_withRises 24 = .ok (.iload_n 1, 1) := by decide +kernel
set_option maxRecDepth 20000 in
theorem dX3_withRises_25 : decode cX3_withRises 25 = .ok (.if_icmp .le 5, 3) := by decide +kernel
set_option maxRecDepth 20000 in
theorem dX3_withRises_28 : decode cX3_withRises 28 = .ok (.lconst 0, 1) := by decide +kernel
set_option maxRecDepth 20000 in
theorem dX3_withRises_29 : decode cX3_withRises 29 = .ok (.lreturn, 1) := by decide +kernel
set_option maxRecDepth 20000 in
theorem dX3_withRises_30 : decode cX3_withRises 30 = .ok (.aload_n 0, 1) := by decide +kernel
set_option maxRecDepth 20000 in
theorem dX3_withRises_31 : decode cX3_withRises 31 = .ok (.getfield 30, 3) := by decide +kernel
set_option maxRecDepth 20000 in
theorem dX3_withRises_34 : decode cX3_withRises 34 = .ok (.iload_n 1, 1) := by decide +kernel
set_option maxRecDepth 20000 in
theorem dX3_withRises_35 : decode cX3_withRises 35 = .ok (.iload_n 2, 1) := by decide +kernel
set_option maxRecDepth 20000 in
theorem dX3_withRises_36 : decode cX3_withRises 36 = .ok (.iload_n 3, 1) := by decide +kernel
set_option maxRecDepth 20000 in
theorem dX3_withRises_37 : decode cX3_withRises 37 = .ok (.invokestatic 26, 3) := by decide +kernel
set_option maxRecDepth 20000 in
theorem dX3_withRises_40 : decode cX3_withRises 40 = .ok (.invokestatic 60, 3) := by decide +kernel
set_option maxRecDepth 20000 in
theorem dX3_withRises_43 : decode cX3_withRises 43 = .ok (.lreturn, 1) := by decide +kernel
set_option maxRecDepth 20000 in
theorem dX4_init_0 : decode cX4_init 0 = .ok (.aload_n 0, 1) := by decide +kernel
set_option maxRecDepth 20000 in
theorem dX4_init_1 : decode cX4_init 1 = .ok (.invokespecial 3, 3) := by decide +kernel
set_option maxRecDepth 20000 in
theorem dX4_init_4 : decode cX4_init 4 = .ok (.aload_n 0, 1) := by decide +kernel
set_option maxRecDepth 20000 in
theorem dX4_init_5 : decode cX4_init 5 = .ok (.iload_n 2, 1) := by decide +kernel
set_option maxRecDepth 20000 in
theorem dX4_init_6 : decode cX4_init 6 = .ok (.putfield 9, 3) := by decide +kernel
set_option maxRecDepth 20000 in
theorem dX4_init_9 : decode cX4_init 9 = .ok (.aload_n 0, 1) := by decide +kernel
set_option maxRecDepth 20000 in
theorem dX4_init_10 : decode cX4_init 10 = .ok (.aload_n 3, 1) := by decide +kernel
set_option maxRecDepth 20000 in
theorem dX4_init_11 : decode cX4_init 11 = .ok (.putfield 15, 3) := by decide +kernel
set_option maxRecDepth 20000 in
theorem dX4_init_14 : decode cX4_init 14 = .ok (.aload_n 0, 1) := by decide +kernel
set_option maxRecDepth 20000 in
theorem dX4_init_15 : decode cX4_init 15 = .ok (.iload_n 1, 1) := by decide +kernel
set_option maxRecDepth 20000 in
theorem dX4_init_16 : decode cX4_init 16 = .ok (.iload_n 2, 1) := by decide +kernel
set_option maxRecDepth 20000 in
theorem dX4_init_17 : decode cX4_init 17 = .ok (.invokestatic 19, 3) := by decide +kernel
set_option maxRecDepth 20000 in
theorem dX4_init_20 : decode cX4_init 20 = .ok (.iconst 1, 1) := by decide +kernel
set_option maxRecDepth 20000 in
theorem dX4_init_21 : decode cX4_init 21 = .ok (.iadd, 1) := by decide +kernel
set_option maxRecDepth 20000 in
theorem dX4_init_22 : decode cX4_init 22 = .ok (.newarray .long, 2) := by decide +kernel
set_option maxRecDepth 20000 in
theorem dX4_init_24 : decode cX4_init 24 = .ok (.putfield 23, 3) := by decide +kernel
set_option maxRecDepth 20000 in
theorem dX4_init_27 : decode cX4_init 27 = .ok (.iload_n 1, 1) := by decide +kernel
set_option maxRecDepth 20000 in
theorem dX4_init_28 : decode cX4_init 28 = .ok (.iconst 5, 1) := by decide +kernel
set_option maxRecDepth 20000 in
theorem dX4_init_29 : decode cX4_init 29 = .ok (.if_icmp .ne 10, 3) := by decide +kernel
set_option maxRecDepth 20000 in
theorem dX4_init_32 : decode cX4_init 32 = .ok (.aload_n 0, 1) := by decide +kernel
set_option maxRecDepth 20000 in
theorem dX4_init_33 : decode cX4_init 33 = .ok (.invokevirtual 27, 3) := by decide +kernel
set_option maxRecDepth 20000 in
theorem dX4_init_36 : decode cX4_init 36 = .ok (.goto 28, 3) := by decide +kernel
set_option maxRecDepth 20000 in
theorem dX4_init_39 : decode cX4_init 39 = .ok (.iload_n 1, 1) := by decide +kernel
set_option maxRecDepth 20000 in
theorem dX4_init_40 : decode cX4_init 40 = .ok (.bipush 6, 2) := by decide +kernel
set_option maxRecDepth 20000 in
theorem dX4_init_42 : decode cX4_init 42 = .ok (.if_icmp .eq 9, 3) := by decide +kernel
set_option maxRecDepth 20000 in
theorem dX4_init_45 : decode cX4_init 45 = .ok (.iload_n 1, 1) := by decide +kernel
set_option maxRecDepth 20000 in
theorem dX4_init_46 : decode cX4_init 46 = .ok (.bipush 7, 2) := by decide +kernel
set_option maxRecDepth 20000 in
theorem dX4_init_48 : decode cX4_init 48 = .ok (.if_icmp .ne 11, 3) := by decide +kernel
set_option maxRecDepth 20000 in
theorem dX4_init_51 : decode cX4_init 51 = .ok (.aload_n 0, 1) := by decide +kernel
set_option maxRecDepth 20000 in
theorem dX4_init_52 : decode cX4_init 52 = .ok (.iload_n 1, 1) := by decide +kernel
set_option maxRecDepth 20000 in
theorem dX4_init_53 : decode cX4_init 53 = .ok (.invokevirtual 30, 3) := by decide +kernel
set_option maxRecDepth 20000 in
theorem dX4_init_56 : decode cX4_init 56 = .ok (.goto 8, 3) := by decide +kernel
set_option maxRecDepth 20000 in
theorem dX4_init_59 : decode cX4_init 59 = .ok (.aload_n 0, 1) := by decide +kernel
set_option maxRecDepth 20000 in
theorem dX4_init_60 : decode cX4_init 60 = .ok (.iload_n 1, 1) := by decide +kernel
set_option maxRecDepth 20000 in
theorem dX4_init_61 : decode cX4_init 61 = .ok (.invokevirtual 34, 3) := by decide +kernel
set_option maxRecDepth 20000 in
theorem dX4_init_64 : decode cX4_init 64 = .ok (.return_, 1) := by decide +kernel
set_option maxRecDepth 20000 in
theorem dX4_greatest_0 : decode cX4_greatest 0 = .ok (.iload_n 0, 1) := by decide +kernel
set_option maxRecDepth 20000 in
theorem dX4_greatest_1 : decode cX4_greatest 1 = .ok (.lookupswitch 43 #[(5, 27), (7, 39)], 27) := by decide +kernel
set_option maxRecDepth 20000 in
theorem dX4_greatest_28 : decode cX4_greatest 28 = .ok (.iconst 0, 1) := by decide +kernel
set_option maxRecDepth 20000 in
theorem dX4_greatest_29 : decode cX4_greatest 29 = .ok (.iload_n 1, 1) := by decide +kernel
set_option maxRecDepth 20000 in
theorem dX4_greatest_30 : decode cX4_greatest 30 = .ok (.iload_n 1, 1) := by decide +kernel
set_option maxRecDepth 20000 in
theorem dX4_greatest_31 : decode cX4_greatest 31 = .ok (.iconst 1, 1) := by decide +kernel
set_option maxRecDepth 20000 in
theorem dX4_greatest_32 : decode cX4_greatest 32 = .ok (.isub, 1) := by decide +kernel
set_option maxRecDepth 20000 in
theorem dX4_greatest_33 : decode cX4_greatest 33 = .ok (.imul, 1) := by decide +kernel
set_option maxRecDepth 20000 in
theorem dX4_greatest_34 : decode cX4_greatest 34 = .ok (.iconst 2, 1) := by decide +kernel
set_option maxRecDepth 20000 in
theorem dX4_greatest_35 : decode cX4_greatest 35 = .ok (.idiv, 1) := by decide +kernel
set_option maxRecDepth 20000 in
theorem dX4_greatest_36 : decode cX4_greatest 36 = .ok (.invokestatic 37, 3) := by decide +kernel
set_option maxRecDepth 20000 in
theorem dX4_greatest_39 : decode cX4_greatest 39 = .ok (.ireturn, 1) := by decide +kernel
set_option maxRecDepth 20000 in
theorem dX4_greatest_40 : decode cX4_greatest 40 = .ok (.sipush 210, 3) := by decide +kernel
set_option maxRecDepth 20000 in
theorem dX4_greatest_43 : decode cX4_greatest 43 = .ok (.ireturn, 1) := by decide +kernel
set_option maxRecDepth 20000 in
theorem dX4_greatest_44 : decode cX4_greatest 44 = .ok (.iconst 0, 1) := by decide +kernel
set_option maxRecDepth 20000 in
theorem dX4_greatest_45 : decode cX4_greatest 45 = .ok (.iload_n 1, 1) := by decide +kernel
set_option maxRecDepth 20000 in
theorem dX4_greatest_46 : decode cX4_greatest 46 = .ok (.invokestatic 37, 3) := by decide +kernel
set_option maxRecDepth 20000 in
theorem dX4_greatest_49 : decode cX4_greatest 49 = .ok (.ireturn, 1) := by decide +kernel
set_option maxRecDepth 20000 in
theorem dX4_fillByTables_0 : decode cX4_fillByTables 0 = .ok (.iconst 0, 1) := by decide +kernel
set_option maxRecDepth 20000 in
theorem dX4_fillByTables_1 : decode cX4_fillByTables 1 = .ok (.istore_n 2, 1) := by decide +kernel
set_option maxRecDepth 20000 in
theorem dX4_fillByTables_2 : decode cX4_fillByTables 2 = .ok (.iload_n 2, 1) := by decide +kernel
set_option maxRecDepth 20000 in
theorem dX4_fillByTables_3 : decode cX4_fillByTables 3 = .ok (.aload_n 0, 1) := by decide +kernel
set_option maxRecDepth 20000 in
theorem dX4_fillByTables_4 : decode cX4_fillByTables 4 = .ok (.getfield 23, 3) := by decide +kernel
set_option maxRecDepth 20000 in
theorem dX4_fillByTables_7 : decode cX4_fillByTables 7 = .ok (.arraylength, 1) := by decide +kernel
set_option maxRecDepth 20000 in
theorem dX4_fillByTables_8 : decode cX4_fillByTables 8 = .ok (.if_icmp .ge 21, 3) := by decide +kernel
set_option maxRecDepth 20000 in
theorem dX4_fillByTables_11 : decode cX4_fillByTables 11 = .ok (.aload_n 0, 1) := by decide +kernel
set_option maxRecDepth 20000 in
theorem dX4_fillByTables_12 : decode cX4_fillByTables 12 = .ok (.getfield 23, 3) := by decide +kernel
set_option maxRecDepth 20000 in
theorem dX4_fillByTables_15 : decode cX4_fillByTables 15 = .ok (.iload_n 2, 1) := by decide +kernel
set_option maxRecDepth 20000 in
theorem dX4_fillByTables_16 : decode cX4_fillByTables 16 = .ok (.aload_n 0, 1) := by decide +kernel
set_option maxRecDepth 20000 in
theorem dX4_fillByTables_17 : decode cX4_fillByTables 17 = .ok (.iload_n 1, 1) := by decide +kernel
set_option maxRecDepth 20000 in
theorem dX4_fillByTables_18 : decode cX4_fillByTables 18 = .ok (.iload_n 2, 1) := by decide +kernel
set_option maxRecDepth 20000 in
theorem dX4_fillByTables_19 : decode cX4_fillByTables 19 = .ok (.invokevirtual 42, 3) := by decide +kernel
set_option maxRecDepth 20000 in
theorem dX4_fillByTables_22 : decode cX4_fillByTables 22 = .ok (.lastore, 1) := by decide +kernel
set_option maxRecDepth 20000 in
theorem dX4_fillByTables_23 : decode cX4_fillByTables 23 = .ok (.iinc 2 1, 3) := by decide +kernel
set_option maxRecDepth 20000 in
theorem dX4_fillByTables_26 : decode cX4_fillByTables 26 = .ok (.goto (-24), 3) := by decide +kernel
set_option maxRecDepth 20000 in
theorem dX4_fillByTables_29 : decode cX4_fillByTables 29 = .ok (.return_, 1) := by decide +kernel
set_option maxRecDepth 20000 in
theorem dX4_fromTables_0 : decode cX4_fromTables 0 = .ok (.iload_n 1, 1) := by decide +kernel
set_option maxRecDepth 20000 in
theorem dX4_fromTables_1 : decode cX4_fromTables 1 = .ok (.tableswitch 110 0 4 #[35, 35, 52, 69, 82], 35) := by decide +kernel
set_option maxRecDepth 20000 in
theorem dX4_fromTables_36 : decode cX4_fromTables 36 = .ok (.aload_n 0, 1) := by decide +kernel
set_option maxRecDepth 20000 in
theorem dX4_fromTables_37 : decode cX4_fromTables 37 = .ok (.getfield 15, 3) := by decide +kernel
set_option maxRecDepth 20000 in
theorem dX4_fromTables_40 : decode cX4_fromTables 40 = .ok (.aload_n 0, 1) := by decide +kernel
set_option maxRecDepth 20000 in
theorem dX4_fromTables_41 : decode cX4_fromTables 41 = .ok (.getfield 9, 3) := by decide +kernel
set_option maxRecDepth 20000 in
theorem dX4_fromTables_44 : decode cX4_fromTables 44 = .ok (.aload_n 0, 1) := by decide +kernel
set_option maxRecDepth 20000 in
theorem dX4_fromTables_45 : decode cX4_fromTables 45 = .ok (.getfield 9, 3) := by decide +kernel
set_option maxRecDepth 20000 in
theorem dX4_fromTables_48 : decode cX4_fromTables 48 = .ok (.iload_n 2, 1) := by decide +kernel
set_option maxRecDepth 20000 in
theorem dX4_fromTables_49 : decode cX4_fromTables 49 = .ok (.invokevirtual 46, 3) := by decide +kernel
set_option maxRecDepth 20000 in
theorem dX4_fromTables_52 : decode cX4_fromTables 52 = .ok (.lreturn, 1) := by decide +kernel
set_option maxRecDepth 20000 in
theorem dX4_fromTables_53 : decode cX4_fromTables 53 = .ok (.aload_n 0, 1) := by decide +kernel
set_option maxRecDepth 20000 in
theorem dX4_fromTables_54 : decode cX4_fromTables 54 = .ok (.getfield 15, 3) := by decide +kernel
set_option maxRecDepth 20000 in
theorem dX4_fromTables_57 : decode cX4_fromTables 57 = .ok (.aload_n 0, 1) := by decide +kernel
set_option maxRecDepth 20000 in
theorem dX4_fromTables_58 : decode cX4_fromTables 58 = .ok (.getfield 9, 3) := by decide +kernel
set_option maxRecDepth 20000 in
theorem dX4_fromTables_61 : decode cX4_fromTables 61 = .ok (.aload_n 0, 1) := by decide +kernel
set_option maxRecDepth 20000 in
theorem dX4_fromTables_62 : decode cX4_fromTables 62 = .ok (.getfield 9, 3) := by decide +kernel
set_option maxRecDepth 20000 in
theorem dX4_fromTables_65 : decode cX4_fromTables 65 = .ok (.iload_n 2, 1) := by decide +kernel
set_option maxRecDepth 20000 in
theorem dX4_fromTables_66 : decode cX4_fromTables 66 = .ok (.invokevirtual 52, 3) := by decide +kernel
set_option maxRecDepth 20000 in
theorem dX4_fromTables_69 : decode cX4_fromTables 69 = .ok (.lreturn, 1) := by decide +kernel
set_option maxRecDepth 20000 in
theorem dX4_fromTables_70 : decode cX4_fromTables 70 = .ok (.aload_n 0, 1) := by decide +kernel
set_option maxRecDepth 20000 in
theorem dX4_fromTables_71 : decode cX4_fromTables 71 = .ok (.getfield 15, 3) := by decide +kernel
set_option maxRecDepth 20000 in
theorem dX4_fromTables_74 : decode cX4_fromTables 74 = .ok (.aload_n 0, 1) := by decide +kernel
set_option maxRecDepth 20000 in
theorem dX4_fromTables_75 : decode cX4_fromTables 75 = .ok (.getfield 9, 3) := by decide +kernel
set_option maxRecDepth 20000 in
theorem dX4_fromTables_78 : decode cX4_fromTables 78 = .ok (.iload_n 2, 1) := by decide +kernel
set_option maxRecDepth 20000 in
theorem dX4_fromTables_79 : decode cX4_fromTables 79 = .ok (.invokevirtual 55, 3) := by decide +kernel
set_option maxRecDepth 20000 in
theorem dX4_fromTables_82 : decode cX4_fromTables 82 = .ok (.lreturn, 1) := by decide +kernel
set_option maxRecDepth 20000 in
theorem dX4_fromTables_83 : decode cX4_fromTables 83 = .ok (.aload_n 0, 1) := by decide +kernel
set_option maxRecDepth 20000 in
theorem dX4_fromTables_84 : decode cX4_fromTables 84 = .ok (.getfield 15, 3) := by decide +kernel
set_option maxRecDepth 20000 in
theorem dX4_fromTables_87 : decode cX4_fromTables 87 = .ok (.iload_n 2, 1) := by decide +kernel
set_option maxRecDepth 20000 in
theorem dX4_fromTables_88 : decode cX4_fromTables 88 = .ok (.aload_n 0, 1) := by decide +kernel
set_option maxRecDepth 20000 in
theorem dX4_fromTables_89 : decode cX4_fromTables 89 = .ok (.getfield 9, 3) := by decide +kernel
set_option maxRecDepth 20000 in
theorem dX4_fromTables_92 : decode cX4_fromTables 92 = .ok (.invokevirtual 58, 3) := by decide +kernel
set_option maxRecDepth 20000 in
theorem dX4_fromTables_95 : decode cX4_fromTables 95 = .ok (.aload_n 0, 1) := by decide +kernel
set_option maxRecDepth 20000 in
theorem dX4_fromTables_96 : decode cX4_fromTables 96 = .ok (.getfield 15, 3) := by decide +kernel
set_option maxRecDepth 20000 in
theorem dX4_fromTables_99 : decode cX4_fromTables 99 = .ok (.iload_n 2, 1) := by decide +kernel
set_option maxRecDepth 20000 in
theorem dX4_fromTables_100 : decode cX4_fromTables 100 = .ok (.iconst 1, 1) := by decide +kernel
set_option maxRecDepth 20000 in
theorem dX4_fromTables_101 : decode cX4_fromTables 101 = .ok (.isub, 1) := by decide +kernel
set_option maxRecDepth 20000 in
theorem dX4_fromTables_102 : decode cX4_fromTables 102 = .ok (.aload_n 0, 1) := by decide +kernel
set_option maxRecDepth 20000 in
theorem dX4_fromTables_103 : decode cX4_fromTables 103 = .ok (.getfield 9, 3) := by decide +kernel
set_option maxRecDepth 20000 in
theorem dX4_fromTables_106 : decode cX4_fromTables 106 = .ok (.invokevirtual 58, 3) := by decide +kernel
set_option maxRecDepth 20000 in
theorem dX4_fromTables_109 : decode cX4_fromTables 109 = .ok (.lsub, 1) := by decide +kernel
set_option maxRecDepth 20000 in
theorem dX4_fromTables_110 : decode cX4_fromTables 110 = .ok (.lreturn, 1) := by decide +kernel
set_option maxRecDepth 20000 in
theorem dX4_fromTables_111 : decode cX4_fromTables 111 = .ok (.lconst 0, 1) := by decide +kernel
set_option maxRecDepth 20000 in
theorem dX4_fromTables_112 : decode cX4_fromTables 112 = .ok (.lreturn, 1) := by decide +kernel
set_option maxRecDepth 20000 in
theorem dX4_fillPairsOut_0 : decode cX4_fillPairsOut 0 = .ok (.aload_n 0, 1) := by decide +kernel
set_option maxRecDepth 20000 in
theorem dX4_fillPairsOut_1 : decode cX4_fillPairsOut 1 = .ok (.getfield 23, 3) := by decide +kernel
set_option maxRecDepth 20000 in
theorem dX4_fillPairsOut_4 : decode cX4_fillPairsOut 4 = .ok (.iconst 0, 1) := by decide +kernel
set_option maxRecDepth 20000 in
theorem dX4_fillPairsOut_5 : decode cX4_fillPairsOut 5 = .ok (.lconst 1, 1) := by decide +kernel
set_option maxRecDepth 20000 in
theorem dX4_fillPairsOut_6 : decode cX4_fillPairsOut 6 = .ok (.lastore, 1) := by decide +kernel
set_option maxRecDepth 20000 in
theorem dX4_fillPairsOut_7 : decode cX4_fillPairsOut 7 = .ok (.iconst 2, 1) := by decide +kernel
set_option maxRecDepth 20000 in
theorem dX4_fillPairsOut_8 : decode cX4_fillPairsOut 8 = .ok (.istore_n 1, 1) := by decide +kernel
set_option maxRecDepth 20000 in
theorem dX4_fillPairsOut_9 : decode cX4_fillPairsOut 9 = .ok (.iload_n 1, 1) := by decide +kernel
set_option maxRecDepth 20000 in
theorem dX4_fillPairsOut_10 : decode cX4_fillPairsOut 10 = .ok (.aload_n 0, 1) := by decide +kernel
set_option maxRecDepth 20000 in
theorem dX4_fillPairsOut_11 : decode cX4_fillPairsOut 11 = .ok (.getfield 9, 3) := by decide +kernel
set_option maxRecDepth 20000 in
theorem dX4_fillPairsOut_14 : decode cX4_fillPairsOut 14 = .ok (.if_icmp .gt 63, 3) := by decide +kernel
set_option maxRecDepth 20000 in
theorem dX4_fillPairsOut_17 : decode cX4_fillPairsOut 17 = .ok (.aload_n 0, 1) := by decide +kernel
set_option maxRecDepth 20000 in
theorem dX4_fillPairsOut_18 : decode cX4_fillPairsOut 18 = .ok (.getfield 23, 3) := by decide +kernel
set_option maxRecDepth 20000 in
theorem dX4_fillPairsOut_21 : decode cX4_fillPairsOut 21 = .ok (.arraylength, 1) := by decide +kernel
set_option maxRecDepth 20000 in
theorem dX4_fillPairsOut_22 : decode cX4_fillPairsOut 22 = .ok (.iconst 1, 1) := by decide +kernel
set_option maxRecDepth 20000 in
theorem dX4_fillPairsOut_23 : decode cX4_fillPairsOut 23 = .ok (.isub, 1) := by decide +kernel
set_option maxRecDepth 20000 in
theorem dX4_fillPairsOut_24 : decode cX4_fillPairsOut 24 = .ok (.istore_n 2, 1) := by decide +kernel
set_option maxRecDepth 20000 in
theorem dX4_fillPairsOut_25 : decode cX4_fillPairsOut 25 = .ok (.iload_n 2, 1) := by decide +kernel
set_option maxRecDepth 20000 in
theorem dX4_fillPairsOut_26 : decode cX4_fillPairsOut 26 = .ok (.ifCond .le 45, 3) := by decide +kernel
set_option maxRecDepth 20000 in
theorem dX4_fillPairsOut_29 : decode cX4_fillPairsOut 29 = .ok (.iconst 0, 1) := by decide +kernel
set_option maxRecDepth 20000 in
theorem dX4_fillPairsOut_30 : decode cX4_fillPairsOut 30 = .ok (.iload_n 2, 1) := by decide +kernel
set_option maxRecDepth 20000 in
theorem dX4_fillPairsOut_31 : decode cX4_fillPairsOut 31 = .ok (.iload_n 1, 1) := by decide +kernel
set_option maxRecDepth 20000 in
theorem dX4_fillPairsOut_32 : decode cX4_fillPairsOut 32 = .ok (.isub, 1) := by decide +kernel
set_option maxRecDepth 20000 in
theorem dX4_fillPairsOut_33 : decode cX4_fillPairsOut 33 = .ok (.iconst 1, 1) := by decide +kernel
set_option maxRecDepth 20000 in
theorem dX4_fillPairsOut_34 : decode cX4_fillPairsOut 34 = .ok (.iadd, 1) := by decide +kernel
set_option maxRecDepth 20000 in
theorem dX4_fillPairsOut_35 : decode cX4_fillPairsOut 35 = .ok (.invokestatic 37, 3) := by decide +kernel
set_option maxRecDepth 20000 in
theorem dX4_fillPairsOut_38 : decode cX4_fillPairsOut 38 = .ok (.istore_n 3, 1) := by decide +kernel
set_option maxRecDepth 20000 in
theorem dX4_fillPairsOut_39 : decode cX4_fillPairsOut 39 = .ok (.iload_n 3, 1) := by decide +kernel
set_option maxRecDepth 20000 in
theorem dX4_fillPairsOut_40 : decode cX4_fillPairsOut 40 = .ok (.iload_n 2, 1) := by decide +kernel
set_option maxRecDepth 20000 in
theorem dX4_fillPairsOut_41 : decode cX4_fillPairsOut 41 = .ok (.if_icmp .ge 24, 3) := by decide +kernel
set_option maxRecDepth 20000 in
theorem dX4_fillPairsOut_44 : decode cX4_fillPairsOut 44 = .ok (.aload_n 0, 1) := by decide +kernel
set_option maxRecDepth 20000 in
theorem dX4_fillPairsOut_45 : decode cX4_fillPairsOut 45 = .ok (.getfield 23, 3) := by decide +kernel
set_option maxRecDepth 20000 in
theorem dX4_fillPairsOut_48 : decode cX4_fillPairsOut 48 = .ok (.iload_n 2, 1) := by decide +kernel
set_option maxRecDepth 20000 in
theorem dX4_fillPairsOut_49 : decode cX4_fillPairsOut 49 = .ok (.dup2, 1) := by decide +kernel
set_option maxRecDepth 20000 in
theorem dX4_fillPairsOut_50 : decode cX4_fillPairsOut 50 = .ok (.laload, 1) := by decide +kernel
set_option maxRecDepth 20000 in
theorem dX4_fillPairsOut_51 : decode cX4_fillPairsOut 51 = .ok (.aload_n 0, 1) := by decide +kernel
set_option maxRecDepth 20000 in
theorem dX4_fillPairsOut_52 : decode cX4_fillPairsOut 52 = .ok (.getfield 23, 3) := by decide +kernel
set_option maxRecDepth 20000 in
theorem dX4_fillPairsOut_55 : decode cX4_fillPairsOut 55 = .ok (.iload_n 3, 1) := by decide +kernel
set_option maxRecDepth 20000 in
theorem dX4_fillPairsOut_56 : decode cX4_fillPairsOut 56 = .ok (.laload, 1) := by decide +kernel
set_option maxRecDepth 20000 in
theorem dX4_fillPairsOut_57 : decode cX4_fillPairsOut 57 = .ok (.ladd, 1) := by decide +kernel
set_option maxRecDepth 20000 in
theorem dX4_fillPairsOut_58 : decode cX4_fillPairsOut 58 = .ok (.lastore, 1) := by decide +kernel
set_option maxRecDepth 20000 in
theorem dX4_fillPairsOut_59 : decode cX4_fillPairsOut 59 = .ok (.iinc 3 1, 3) := by decide +kernel
set_option maxRecDepth 20000 in
theorem dX4_fillPairsOut_62 : decode cX4_fillPairsOut 62 = .ok (.goto (-23), 3) := by decide +kernel
set_option maxRecDepth 20000 in
theorem dX4_fillPairsOut_65 : decode cX4_fillPairsOut 65 = .ok (.iinc 2 (-1), 3) := by decide +kernel
set_option maxRecDepth 20000 in
theorem dX4_fillPairsOut_68 : decode cX4_fillPairsOut 68 = .ok (.goto (-43), 3) := by decide +kernel
set_option maxRecDepth 20000 in
theorem dX4_fillPairsOut_71 : decode cX4_fillPairsOut 71 = .ok (.iinc 1 1, 3) := by decide +kernel
set_option maxRecDepth 20000 in
theorem dX4_fillPairsOut_74 : decode cX4_fillPairsOut 74 = .ok (.goto (-65), 3) := by decide +kernel
set_option maxRecDepth 20000 in
theorem dX4_fillPairsOut_77 : decode cX4_fillPairsOut 77 = .ok (.return_, 1) := by decide +kernel
set_option maxRecDepth 20000 in
theorem dX4_fillByPartitions_0 : decode cX4_fillByPartitions 0 = .ok (.new 61, 3) := by decide +kernel
set_option maxRecDepth 20000 in
theorem dX4_fillByPartitions_3 : decode cX4_fillByPartitions 3 = .ok (.dup, 1) := by decide +kernel
set_option maxRecDepth 20000 in
theorem dX4_fillByPartitions_4 : decode cX4_fillByPartitions 4 = .ok (.aload_n 0, 1) := by decide +kernel
set_option maxRecDepth 20000 in
theorem dX4_fillByPartitions_5 : decode cX4_fillByPartitions 5 = .ok (.getfield 9, 3) := by decide +kernel
set_option maxRecDepth 20000 in
theorem dX4_fillByPartitions_8 : decode cX4_fillByPartitions 8 = .ok (.invokespecial 63, 3) := by decide +kernel
set_option maxRecDepth 20000 in
theorem dX4_fillByPartitions_11 : decode cX4_fillByPartitions 11 = .ok (.astore_n 2, 1) := by decide +kernel
set_option maxRecDepth 20000 in
theorem dX4_fillByPartitions_12 : decode cX4_fillByPartitions 12 = .ok (.iconst 1, 1) := by decide +kernel
set_option maxRecDepth 20000 in
theorem dX4_fillByPartitions_13 : decode cX4_fillByPartitions 13 = .ok (.istore_n 3, 1) := by decide +kernel
set_option maxRecDepth 20000 in
theorem dX4_fillByPartitions_14 : decode cX4_fillByPartitions 14 = .ok (.iconst 0, 1) := by decide +kernel
set_option maxRecDepth 20000 in
theorem dX4_fillByPartitions_15 : decode cX4_fillByPartitions 15 = .ok (.istore 4, 2) := by decide +kernel
set_option maxRecDepth 20000 in
theorem dX4_fillByPartitions_17 : decode cX4_fillByPartitions 17 = .ok (.iload 4, 2) := by decide +kernel
set_option maxRecDepth 20000 in
theorem dX4_fillByPartitions_19 : decode cX4_fillByPartitions 19 = .ok (.sipush 1000, 3) := by decide +kernel
set_option maxRecDepth 20000 in
theorem dX4_fillByPartitions_22 : decode cX4_fillByPartitions 22 = .ok (.if_icmp .ge 86, 3) := by decide +kernel
set_option maxRecDepth 20000 in
theorem dX4_fillByPartitions_25 : decode cX4_fillByPartitions 25 = .ok (.iload_n 3, 1) := by decide +kernel
set_option maxRecDepth 20000 in
theorem dX4_fillByPartitions_26 : decode cX4_fillByPartitions 26 = .ok (.ifCond .eq 82, 3) := by decide +kernel
set_option maxRecDepth 20000 in
theorem dX4_fillByPartitions_29 : decode cX4_fillByPartitions 29 = .ok (.iload_n 1, 1) := by decide +kernel
set_option maxRecDepth 20000 in
theorem dX4_fillByPartitions_30 : decode cX4_fillByPartitions 30 = .ok (.bipush 6, 2) := by decide +kernel
set_option maxRecDepth 20000 in
theorem dX4_fillByPartitions_32 : decode cX4_fillByPartitions 32 = .ok (.if_icmp .ne 39, 3) := by decide +kernel
set_option maxRecDepth 20000 in
theorem dX4_fillByPartitions_35 : decode cX4_fillByPartitions 35 = .ok (.aload_n 0, 1) := by decide +kernel
set_option maxRecDepth 20000 in
theorem dX4_fillByPartitions_36 : decode cX4_fillByPartitions 36 = .ok (.getfield 15, 3) := by decide +kernel
set_option maxRecDepth 20000 in
theorem dX4_fillByPartitions_39 : decode cX4_fillByPartitions 39 = .ok (.aload_n 0, 1) := by decide +kernel
set_option maxRecDepth 20000 in
theorem dX4_fillByPartitions_40 : decode cX4_fillByPartitions 40 = .ok (.getfield 9, 3) := by decide +kernel
set_option maxRecDepth 20000 in
theorem dX4_fillByPartitions_43 : decode cX4_fillByPartitions 43 = .ok (.invokevirtual 65, 3) := by decide +kernel
set_option maxRecDepth 20000 in
theorem dX4_fillByPartitions_46 : decode cX4_fillByPartitions 46 = .ok (.aload_n 2, 1) := by decide +kernel
set_option maxRecDepth 20000 in
theorem dX4_fillByPartitions_47 : decode cX4_fillByPartitions 47 = .ok (.invokevirtual 69, 3) := by decide +kernel
set_option maxRecDepth 20000 in
theorem dX4_fillByPartitions_50 : decode cX4_fillByPartitions 50 = .ok (.invokestatic 73, 3) := by decide +kernel
set_option maxRecDepth 20000 in
theorem dX4_fillByPartitions_53 : decode cX4_fillByPartitions 53 = .ok (.lstore 5, 2) := by decide +kernel
set_option maxRecDepth 20000 in
theorem dX4_fillByPartitions_55 : decode cX4_fillByPartitions 55 = .ok (.aload_n 0, 1) := by decide +kernel
set_option maxRecDepth 20000 in
theorem dX4_fillByPartitions_56 : decode cX4_fillByPartitions 56 = .ok (.aload_n 2, 1) := by decide +kernel
set_option maxRecDepth 20000 in
theorem dX4_fillByPartitions_57 : decode cX4_fillByPartitions 57 = .ok (.invokevirtual 77, 3) := by decide +kernel
set_option maxRecDepth 20000 in
theorem dX4_fillByPartitions_60 : decode cX4_fillByPartitions 60 = .ok (.lload 5, 2) := by decide +kernel
set_option maxRecDepth 20000 in
theorem dX4_fillByPartitions_62 : decode cX4_fillByPartitions 62 = .ok (.lload 5, 2) := by decide +kernel
set_option maxRecDepth 20000 in
theorem dX4_fillByPartitions_64 : decode cX4_fillByPartitions 64 = .ok (.lmul, 1) := by decide +kernel
set_option maxRecDepth 20000 in
theorem dX4_fillByPartitions_65 : decode cX4_fillByPartitions 65 = .ok (.invokevirtual 81, 3) := by decide +kernel
set_option maxRecDepth 20000 in
theorem dX4_fillByPartitions_68 : decode cX4_fillByPartitions 68 = .ok (.goto 29, 3) := by decide +kernel
set_option maxRecDepth 20000 in
theorem dX4_fillByPartitions_71 : decode cX4_fillByPartitions 71 = .ok (.aload_n 0, 1) := by decide +kernel
set_option maxRecDepth 20000 in
theorem dX4_fillByPartitions_72 : decode cX4_fillByPartitions 72 = .ok (.aload_n 2, 1) := by decide +kernel
set_option maxRecDepth 20000 in
theorem dX4_fillByPartitions_73 : decode cX4_fillByPartitions 73 = .ok (.invokevirtual 85, 3) := by decide +kernel
set_option maxRecDepth 20000 in
theorem dX4_fillByPartitions_76 : decode cX4_fillByPartitions 76 = .ok (.aload_n 0, 1) := by decide +kernel
set_option maxRecDepth 20000 in
theorem dX4_fillByPartitions_77 : decode cX4_fillByPartitions 77 = .ok (.getfield 15, 3) := by decide +kernel
set_option maxRecDepth 20000 in
theorem dX4_fillByPartitions_80 : decode cX4_fillByPartitions 80 = .ok (.aload_n 0, 1) := by decide +kernel
set_option maxRecDepth 20000 in
theorem dX4_fillByPartitions_81 : decode cX4_fillByPartitions 81 = .ok (.getfield 9, 3) := by decide +kernel
set_option maxRecDepth 20000 in
theorem dX4_fillByPartitions_84 : decode cX4_fillByPartitions 84 = .ok (.invokevirtual 65, 3) := by decide +kernel
set_option maxRecDepth 20000 in
theorem dX4_fillByPartitions_87 : decode cX4_fillByPartitions 87 = .ok (.aload_n 2, 1) := by decide +kernel
set_option maxRecDepth 20000 in
theorem dX4_fillByPartitions_88 : decode cX4_fillByPartitions 88 = .ok (.invokevirtual 88, 3) := by decide +kernel
set_option maxRecDepth 20000 in
theorem dX4_fillByPartitions_91 : decode cX4_fillByPartitions 91 = .ok (.invokestatic 73, 3) := by decide +kernel
set_option maxRecDepth 20000 in
theorem dX4_fillByPartitions_94 : decode cX4_fillByPartitions 94 = .ok (.invokevirtual 81, 3) := by decide +kernel
set_option maxRecDepth 20000 in
theorem dX4_fillByPartitions_97 : decode cX4_fillByPartitions 97 = .ok (.aload_n 2, 1) := by decide +kernel
set_option maxRecDepth 20000 in
theorem dX4_fillByPartitions_98 : decode cX4_fillByPartitions 98 = .ok (.invokevirtual 91, 3) := by decide +kernel
set_option maxRecDepth 20000 in
theorem dX4_fillByPartitions_101 : decode cX4_fillByPartitions 101 = .ok (.istore_n 3, 1) := by decide +kernel
set_option maxRecDepth 20000 in
theorem dX4_fillByPartitions_102 : decode cX4_fillByPartitions 102 = .ok (.iinc 4 1, 3) := by decide +kernel
set_option maxRecDepth 20000 in
theorem dX4_fillByPartitions_105 : decode cX4_fillByPartitions 105 = .ok (.goto (-88), 3) := by decide +kernel
set_option maxRecDepth 20000 in
theorem dX4_fillByPartitions_108 : decode cX4_fillByPartitions 108 = .ok (.return_, 1) := by decide +kernel
set_option maxRecDepth 20000 in
theorem dX4_addOrders_0 : decode cX4_addOrders 0 = .ok (.iload_n 1, 1) := by decide +kernel
set_option maxRecDepth 20000 in
theorem dX4_addOrders_1 : decode cX4_addOrders 1 = .ok (.ifCond .lt 22, 3) := by decide +kernel
set_option maxRecDepth 20000 in
theorem dX4_addOrders_4 : decode cX4_addOrders 4 = .ok (.iload_n 1, 1) := by decide +kernel
set_option maxRecDepth 20000 in
theorem dX4_addOrders_5 : decode cX4_addOrders 5 = .ok (.aload_n 0, 1) := by decide +kernel
set_option maxRecDepth 20000 in
theorem dX4_addOrders_6 : decode cX4_addOrders 6 = .ok (.getfield 23, 3) := by decide +kernel
set_option maxRecDepth 20000 in
theorem dX4_addOrders_9 : decode cX4_addOrders 9 = .ok (.arraylength, 1) := by decide +kernel
set_option maxRecDepth 20000 in
theorem dX4_addOrders_10 : decode cX4_addOrders 10 = .ok (.if_icmp .ge 13, 3) := by decide +kernel
set_option maxRecDepth 20000 in
theorem dX4_addOrders_13 : decode cX4_addOrders 13 = .ok (.aload_n 0, 1) := by decide +kernel
set_option maxRecDepth 20000 in
theorem dX4_addOrders_14 : decode cX4_addOrders 14 = .ok (.getfield 23, 3) := by decide +kernel
set_option maxRecDepth 20000 in
theorem dX4_addOrders_17 : decode cX4_addOrders 17 = .ok (.iload_n 1, 1) := by decide +kernel
set_option maxRecDepth 20000 in
theorem dX4_addOrders_18 : decode cX4_addOrders 18 = .ok (.dup2, 1) := by decide +kernel
set_option maxRecDepth 20000 in
theorem dX4_addOrders_19 : decode cX4_addOrders 19 = .ok (.laload, 1) := by decide +kernel
set_option maxRecDepth 20000 in
theorem dX4_addOrders_20 : decode cX4_addOrders 20 = .ok (.lload_n 2, 1) := by decide +kernel
set_option maxRecDepth 20000 in
theorem dX4_addOrders_21 : decode cX4_addOrders 21 = .ok (.ladd, 1) := by decide +kernel
set_option maxRecDepth 20000 in
theorem dX4_addOrders_22 : decode cX4_addOrders 22 = .ok (.lastore, 1) := by decide +kernel
set_option maxRecDepth 20000 in
theorem dX4_addOrders_23 : decode cX4_addOrders 23 = .ok (.return_, 1) := by decide +kernel
set_option maxRecDepth 20000 in
theorem dX4_ordersWith_0 : decode cX4_ordersWith 0 = .ok (.aload_n 0, 1) := by decide +kernel
set_option maxRecDepth 20000 in
theorem dX4_ordersWith_1 : decode cX4_ordersWith 1 = .ok (.getfield 23, 3) := by decide +kernel
set_option maxRecDepth 20000 in
theorem dX4_ordersWith_4 : decode cX4_ordersWith 4 = .ok (.iload_n 1, 1) := by decide +kernel
set_option maxRecDepth 20000 in
theorem dX4_ordersWith_5 : decode cX4_ordersWith 5 = .ok (.invokestatic 95, 3) := by decide +kernel
set_option maxRecDepth 20000 in
theorem dX4_ordersWith_8 : decode cX4_ordersWith 8 = .ok (.lreturn, 1) := by decide +kernel
set_option maxRecDepth 20000 in
theorem dX4_sumOfNumbers_0 : decode cX4_sumOfNumbers 0 = .ok (.lconst 0, 1) := by decide +kernel
set_option maxRecDepth 20000 in
theorem dX4_sumOfNumbers_1 : decode cX4_sumOfNumbers 1 = .ok (.lstore_n 1, 1) := by decide +kernel
set_option maxRecDepth 20000 in
theorem dX4_sumOfNumbers_2 : decode cX4_sumOfNumbers 2 = .ok (.iconst 0, 1) := by decide +kernel
set_option maxRecDepth 20000 in
theorem dX4_sumOfNumbers_3 : decode cX4_sumOfNumbers 3 = .ok (.istore_n 3, 1) := by decide +kernel
set_option maxRecDepth 20000 in
theorem dX4_sumOfNumbers_4 : decode cX4_sumOfNumbers 4 = .ok (.iload_n 3, 1) := by decide +kernel
set_option maxRecDepth 20000 in
theorem dX4_sumOfNumbers_5 : decode cX4_sumOfNumbers 5 = .ok (.aload_n 0, 1) := by decide +kernel
set_option maxRecDepth 20000 in
theorem dX4_sumOfNumbers_6 : decode cX4_sumOfNumbers 6 = .ok (.getfield 23, 3) := by decide +kernel
set_option maxRecDepth 20000 in
theorem dX4_sumOfNumbers_9 : decode cX4_sumOfNumbers 9 = .ok (.arraylength, 1) := by decide +kernel
set_option maxRecDepth 20000 in
theorem dX4_sumOfNumbers_10 : decode cX4_sumOfNumbers 10 = .ok (.if_icmp .ge 21, 3) := by decide +kernel
set_option maxRecDepth 20000 in
theorem dX4_sumOfNumbers_13 : decode cX4_sumOfNumbers 13 = .ok (.lload_n 1, 1) := by decide +kernel
set_option maxRecDepth 20000 in
theorem dX4_sumOfNumbers_14 : decode cX4_sumOfNumbers 14 = .ok (.iload_n 3, 1) := by decide +kernel
set_option maxRecDepth 20000 in
theorem dX4_sumOfNumbers_15 : decode cX4_sumOfNumbers 15 = .ok (.i2l, 1) := by decide +kernel
set_option maxRecDepth 20000 in
theorem dX4_sumOfNumbers_16 : decode cX4_sumOfNumbers 16 = .ok (.aload_n 0, 1) := by decide +kernel
set_option maxRecDepth 20000 in
theorem dX4_sumOfNumbers_17 : decode cX4_sumOfNumbers 17 = .ok (.getfield 23, 3) := by decide +kernel
set_option maxRecDepth 20000 in
theorem dX4_sumOfNumbers_20 : decode cX4_sumOfNumbers 20 = .ok (.iload_n 3, 1) := by decide +kernel
set_option maxRecDepth 20000 in
theorem dX4_sumOfNumbers_21 : decode cX4_sumOfNumbers 21 = .ok (.laload, 1) := by decide +kernel
set_option maxRecDepth 20000 in
theorem dX4_sumOfNumbers_22 : decode cX4_sumOfNumbers 22 = .ok (.lmul, 1) := by decide +kernel
set_option maxRecDepth 20000 in
theorem dX4_sumOfNumbers_23 : decode cX4_sumOfNumbers 23 = .ok (.ladd, 1) := by decide +kernel
set_option maxRecDepth 20000 in
theorem dX4_sumOfNumbers_24 : decode cX4_sumOfNumbers 24 = .ok (.lstore_n 1, 1) := by decide +kernel
set_option maxRecDepth 20000 in
theorem dX4_sumOfNumbers_25 : decode cX4_sumOfNumbers 25 = .ok (.iinc 3 1, 3) := by decide +kernel
set_option maxRecDepth 20000 in
theorem dX4_sumOfNumbers_28 : decode cX4_sumOfNumbers 28 = .ok (.goto (-24), 3) := by decide +kernel
set_option maxRecDepth 20000 in
theorem dX4_sumOfNumbers_31 : decode cX4_sumOfNumbers 31 = .ok (.lload_n 1, 1) := by decide +kernel
set_option maxRecDepth 20000 in
theorem dX4_sumOfNumbers_32 : decode cX4_sumOfNumbers 32 = .ok (.lreturn, 1) := by decide +kernel
set_option maxRecDepth 20000 in
theorem dX5_init_0 : decode cX5_init 0 = .ok (.aload_n 0, 1) := by decide +kernel
set_option maxRecDepth 20000 in
theorem dX5_init_1 : decode cX5_init 1 = .ok (.invokespecial 3, 3) := by decide +kernel
set_option maxRecDepth 20000 in
theorem dX5_init_4 : decode cX5_init 4 = .ok (.aload_n 0, 1) := by decide +kernel
set_option maxRecDepth 20000 in
theorem dX5_init_5 : decode cX5_init 5 = .ok (.bipush 18, 2) := by decide +kernel
set_option maxRecDepth 20000 in
theorem dX5_init_7 : decode cX5_init 7 = .ok (.newarray .boolean, 2) := by decide +kernel
set_option maxRecDepth 20000 in
theorem dX5_init_9 : decode cX5_init 9 = .ok (.putfield 9, 3) := by decide +kernel
set_option maxRecDepth 20000 in
theorem dX5_init_12 : decode cX5_init 12 = .ok (.aload_n 0, 1) := by decide +kernel
set_option maxRecDepth 20000 in
theorem dX5_init_13 : decode cX5_init 13 = .ok (.aload_n 1, 1) := by decide +kernel
set_option maxRecDepth 20000 in
theorem dX5_init_14 : decode cX5_init 14 = .ok (.putfield 15, 3) := by decide +kernel
set_option maxRecDepth 20000 in
theorem dX5_init_17 : decode cX5_init 17 = .ok (.return_, 1) := by decide +kernel
set_option maxRecDepth 20000 in
theorem dX5_start_0 : decode cX5_start 0 = .ok (.aload_n 0, 1) := by decide +kernel
set_option maxRecDepth 20000 in
theorem dX5_start_1 : decode cX5_start 1 = .ok (.iload_n 1, 1) := by decide +kernel
set_option maxRecDepth 20000 in
theorem dX5_start_2 : decode cX5_start 2 = .ok (.putfield 19, 3) := by decide +kernel
set_option maxRecDepth 20000 in
theorem dX5_start_5 : decode cX5_start 5 = .ok (.aload_n 0, 1) := by decide +kernel
set_option maxRecDepth 20000 in
theorem dX5_start_6 : decode cX5_start 6 = .ok (.iload_n 2, 1) := by decide +kernel
set_option maxRecDepth 20000 in
theorem dX5_start_7 : decode cX5_start 7 = .ok (.bipush 18, 2) := by decide +kernel
set_option maxRecDepth 20000 in
theorem dX5_start_9 : decode cX5_start 9 = .ok (.invokestatic 23, 3) := by decide +kernel
set_option maxRecDepth 20000 in
theorem dX5_start_12 : decode cX5_start 12 = .ok (.putfield 29, 3) := by decide +kernel
set_option maxRecDepth 20000 in
theorem dX5_start_15 : decode cX5_start 15 = .ok (.aload_n 0, 1) := by decide +kernel
set_option maxRecDepth 20000 in
theorem dX5_start_16 : decode cX5_start 16 = .ok (.iload_n 3, 1) := by decide +kernel
set_option maxRecDepth 20000 in
theorem dX5_start_17 : decode cX5_start 17 = .ok (.putfield 32, 3) := by decide +kernel
set_option maxRecDepth 20000 in
theorem dX5_start_20 : decode cX5_start 20 = .ok (.aload_n 0, 1) := by decide +kernel
set_option maxRecDepth 20000 in
theorem dX5_start_21 : decode cX5_start 21 = .ok (.aload_n 0, 1) := by decide +kernel
set_option maxRecDepth 20000 in
theorem dX5_start_22 : decode cX5_start 22 = .ok (.getfield 29, 3) := by decide +kernel
set_option maxRecDepth 20000 in
theorem dX5_start_25 : decode cX5_start 25 = .ok (.putfield 35, 3) := by decide +kernel
set_option maxRecDepth 20000 in
theorem dX5_start_28 : decode cX5_start 28 = .ok (.aload_n 0, 1) := by decide +kernel
set_option maxRecDepth 20000 in
theorem dX5_start_29 : decode cX5_start 29 = .ok (.aload_n 0, 1) := by decide +kernel
set_option maxRecDepth 20000 in
theorem dX5_start_30 : decode cX5_start 30 = .ok (.getfield 29, 3) := by decide +kernel
set_option maxRecDepth 20000 in
theorem dX5_start_33 : decode cX5_start 33 = .ok (.putfield 38, 3) := by decide +kernel
set_option maxRecDepth 20000 in
theorem dX5_start_36 : decode cX5_start 36 = .ok (.aload_n 0, 1) := by decide +kernel
set_option maxRecDepth 20000 in
theorem dX5_start_37 : decode cX5_start 37 = .ok (.iconst (-1), 1) := by decide +kernel
set_option maxRecDepth 20000 in
theorem dX5_start_38 : decode cX5_start 38 = .ok (.putfield 41, 3) := by decide +kernel
set_option maxRecDepth 20000 in
theorem dX5_start_41 : decode cX5_start 41 = .ok (.iconst 0, 1) := by decide +kernel
set_option maxRecDepth 20000 in
theorem dX5_start_42 : decode cX5_start 42 = .ok (.istore 4, 2) := by decide +kernel
set_option maxRecDepth 20000 in
theorem dX5_start_44 : decode cX5_start 44 = .ok (.iload 4, 2) := by decide +kernel
set_option maxRecDepth 20000 in
theorem dX5_start_46 : decode cX5_start 46 = .ok (.bipush 18, 2) := by decide +kernel
set_option maxRecDepth 20000 in
theorem dX5_start_48 : decode cX5_start 48 = .ok (.if_icmp .ge 17, 3) := by decide +kernel
set_option maxRecDepth 20000 in
theorem dX5_start_51 : decode cX5_start 51 = .ok (.aload_n 0, 1) := by decide +kernel
set_option maxRecDepth 20000 in
theorem dX5_start_52 : decode cX5_start 52 = .ok (.getfield 9, 3) := by decide +kernel
set_option maxRecDepth 20000 in
theorem dX5_start_55 : decode cX5_start 55 = .ok (.iload 4, 2) := by decide +kernel
set_option maxRecDepth 20000 in
theorem dX5_start_57 : decode cX5_start 57 = .ok (.iconst 0, 1) := by decide +kernel
set_option maxRecDepth 20000 in
theorem dX5_start_58 : decode cX5_start 58 = .ok (.bastore, 1) := by decide +kernel
set_option maxRecDepth 20000 in
theorem dX5_start_59 : decode cX5_start 59 = .ok (.iinc 4 1, 3) := by decide +kernel
set_option maxRecDepth 20000 in
theorem dX5_start_62 : decode cX5_start 62 = .ok (.goto (-18), 3) := by decide +kernel
set_option maxRecDepth 20000 in
theorem dX5_start_65 : decode cX5_start 65 = .ok (.return_, 1) := by decide +kernel
set_option maxRecDepth 20000 in
theorem dX5_waysAtStart_0 : decode cX5_waysAtStart 0 = .ok (.aload_n 0, 1) := by decide +kernel
set_option maxRecDepth 20000 in
theorem dX5_waysAtStart_1 : decode cX5_waysAtStart 1 = .ok (.aload_n 0, 1) := by decide +kernel
set_option maxRecDepth 20000 in
theorem dX5_waysAtStart_2 : decode cX5_waysAtStart 2 = .ok (.getfield 29, 3) := by decide +kernel
set_option maxRecDepth 20000 in
theorem dX5_waysAtStart_5 : decode cX5_waysAtStart 5 = .ok (.aload_n 0, 1) := by decide +kernel
set_option maxRecDepth 20000 in
theorem dX5_waysAtStart_6 : decode cX5_waysAtStart 6 = .ok (.getfield 29, 3) := by decide +kernel
set_option maxRecDepth 20000 in
theorem dX5_waysAtStart_9 : decode cX5_waysAtStart 9 = .ok (.aload_n 0, 1) := by decide +kernel
set_option maxRecDepth 20000 in
theorem dX5_waysAtStart_10 : decode cX5_waysAtStart 10 = .ok (.getfield 29, 3) := by decide +kernel
set_option maxRecDepth 20000 in
theorem dX5_waysAtStart_13 : decode cX5_waysAtStart 13 = .ok (.aload_n 0, 1) := by decide +kernel
set_option maxRecDepth 20000 in
theorem dX5_waysAtStart_14 : decode cX5_waysAtStart 14 = .ok (.getfield 32, 3) := by decide +kernel
set_option maxRecDepth 20000 in
theorem dX5_waysAtStart_17 : decode cX5_waysAtStart 17 = .ok (.invokevirtual 44, 3) := by decide +kernel
set_option maxRecDepth 20000 in
theorem dX5_waysAtStart_20 : decode cX5_waysAtStart 20 = .ok (.lreturn, 1) := by decide +kernel
set_option maxRecDepth 20000 in
theorem dX5_writeRow_0 : decode cX5_writeRow 0 = .ok (.lload_n 1, 1) := by decide +kernel
set_option maxRecDepth 20000 in
theorem dX5_writeRow_1 : decode cX5_writeRow 1 = .ok (.lstore 4, 2) := by decide +kernel
set_option maxRecDepth 20000 in
theorem dX5_writeRow_3 : decode cX5_writeRow 3 = .ok (.iconst 0, 1) := by decide +kernel
set_option maxRecDepth 20000 in
theorem dX5_writeRow_4 : decode cX5_writeRow 4 = .ok (.istore 6, 2) := by decide +kernel
set_option maxRecDepth 20000 in
theorem dX5_writeRow_6 : decode cX5_writeRow 6 = .ok (.iload 6, 2) := by decide +kernel
set_option maxRecDepth 20000 in
theorem dX5_writeRow_8 : decode cX5_writeRow 8 = .ok (.aload_n 0, 1) := by decide +kernel
set_option maxRecDepth 20000 in
theorem dX5_writeRow_9 : decode cX5_writeRow 9 = .ok (.getfield 29, 3) := by decide +kernel
set_option maxRecDepth 20000 in
theorem dX5_writeRow_12 : decode cX5_writeRow 12 = .ok (.if_icmp .ge 88, 3) := by decide +kernel
set_option maxRecDepth 20000 in
theorem dX5_writeRow_15 : decode cX5_writeRow 15 = .ok (.iconst 0, 1) := by decide +kernel
set_option maxRecDepth 20000 in
theorem dX5_writeRow_16 : decode cX5_writeRow 16 = .ok (.istore 7, 2) := by decide +kernel
set_option maxRecDepth 20000 in
theorem dX5_writeRow_18 : decode cX5_writeRow 18 = .ok (.iconst 0, 1) := by decide +kernel
set_option maxRecDepth 20000 in
theorem dX5_writeRow_19 : decode cX5_writeRow 19 = .ok (.istore 8, 2) := by decide +kernel
set_option maxRecDepth 20000 in
theorem dX5_writeRow_21 : decode cX5_writeRow 21 = .ok (.iload 8, 2) := by decide +kernel
set_option maxRecDepth 20000 in
theorem dX5_writeRow_23 : decode cX5_writeRow 23 = .ok (.aload_n 0, 1) := by decide +kernel
set_option maxRecDepth 20000 in
theorem dX5_writeRow_24 : decode cX5_writeRow 24 = .ok (.getfield 29, 3) := by decide +kernel
set_option maxRecDepth 20000 in
theorem dX5_writeRow_27 : decode cX5_writeRow 27 = .ok (.if_icmp .ge 67, 3) := by decide +kernel
set_option maxRecDepth 20000 in
theorem dX5_writeRow_30 : decode cX5_writeRow 30 = .ok (.aload_n 0, 1) := by decide +kernel
set_option maxRecDepth 20000 in
theorem dX5_writeRow_31 : decode cX5_writeRow 31 = .ok (.getfield 9, 3) := by decide +kernel
set_option maxRecDepth 20000 in
theorem dX5_writeRow_34 : decode cX5_writeRow 34 = .ok (.iload 8, 2) := by decide +kernel
set_option maxRecDepth 20000 in
theorem dX5_writeRow_36 : decode cX5_writeRow 36 = .ok (.baload, 1) := by decide +kernel
set_option maxRecDepth 20000 in
theorem dX5_writeRow_37 : decode cX5_writeRow 37 = .ok (.ifCond .eq 6, 3) := by decide +kernel
set_option maxRecDepth 20000 in
theorem dX5_writeRow_40 : decode cX5_writeRow 40 = .ok (.goto 48, 3) := by decide +kernel
set_option maxRecDepth 20000 in
theorem dX5_writeRow_43 : decode cX5_writeRow 43 = .ok (.aload_n 0, 1) := by decide +kernel
set_option maxRecDepth 20000 in
theorem dX5_writeRow_44 : decode cX5_writeRow 44 = .ok (.iload 8, 2) := by decide +kernel
set_option maxRecDepth 20000 in
theorem dX5_writeRow_46 : decode cX5_writeRow 46 = .ok (.iload 7, 2) := by decide +kernel
set_option maxRecDepth 20000 in
theorem dX5_writeRow_48 : decode cX5_writeRow 48 = .ok (.invokevirtual 48, 3) := by decide +kernel
set_option maxRecDepth 20000 in
theorem dX5_writeRow_51 : decode cX5_writeRow 51 = .ok (.lstore 9, 2) := by decide +kernel
set_option maxRecDepth 20000 in
theorem dX5_writeRow_53 : decode cX5_writeRow 53 = .ok (.lload 4, 2) := by decide +kernel
set_option maxRecDepth 20000 in
theorem dX5_writeRow_55 : decode cX5_writeRow 55 = .ok (.lload 9, 2) := by decide +kernel
set_option maxRecDepth 20000 in
theorem dX5_writeRow_57 : decode cX5_writeRow 57 = .ok (.lcmp, 1) := by decide +kernel
set_option maxRecDepth 20000 in
theorem dX5_writeRow_58 : decode cX5_writeRow 58 = .ok (.ifCond .ge 20, 3) := by decide +kernel
set_option maxRecDepth 20000 in
theorem dX5_writeRow_61 : decode cX5_writeRow 61 = .ok (.aload_n 3, 1) := by decide +kernel
set_option maxRecDepth 20000 in
theorem dX5_writeRow_62 : decode cX5_writeRow 62 = .ok (.iload 6, 2) := by decide +kernel
set_option maxRecDepth 20000 in
theorem dX5_writeRow_64 : decode cX5_writeRow 64 = .ok (.iload 8, 2) := by decide +kernel
set_option maxRecDepth 20000 in
theorem dX5_writeRow_66 : decode cX5_writeRow 66 = .ok (.invokevirtual 52, 3) := by decide +kernel
set_option maxRecDepth 20000 in
theorem dX5_writeRow_69 : decode cX5_writeRow 69 = .ok (.aload_n 0, 1) := by decide +kernel
set_option maxRecDepth 20000 in
theorem dX5_writeRow_70 : decode cX5_writeRow 70 = .ok (.iload 8, 2) := by decide +kernel
set_option maxRecDepth 20000 in
theorem dX5_writeRow_72 : decode cX5_writeRow 72 = .ok (.invokevirtual 58, 3) := by decide +kernel
set_option maxRecDepth 20000 in
theorem dX5_writeRow_75 : decode cX5_writeRow 75 = .ok (.goto 19, 3) := by decide +kernel
set_option maxRecDepth 20000 in
theorem dX5_writeRow_78 : decode cX5_writeRow 78 = .ok (.lload 4, 2) := by decide +kernel
set_option maxRecDepth 20000 in
theorem dX5_writeRow_80 : decode cX5_writeRow 80 = .ok (.lload 9, 2) := by decide +kernel
set_option maxRecDepth 20000 in
theorem dX5_writeRow_82 : decode cX5_writeRow 82 = .ok (.lsub, 1) := by decide +kernel
set_option maxRecDepth 20000 in
theorem dX5_writeRow_83 : decode cX5_writeRow 83 = .ok (.lstore 4, 2) := by decide +kernel
set_option maxRecDepth 20000 in
theorem dX5_writeRow_85 : decode cX5_writeRow 85 = .ok (.iinc 7 1, 3) := by decide +kernel
set_option maxRecDepth 20000 in
theorem dX5_writeRow_88 : decode cX5_writeRow 88 = .ok (.iinc 8 1, 3) := by decide +kernel
set_option maxRecDepth 20000 in
theorem dX5_writeRow_91 : decode cX5_writeRow 91 = .ok (.goto (-70), 3) := by decide +kernel
set_option maxRecDepth 20000 in
theorem dX5_writeRow_94 : decode cX5_writeRow 94 = .ok (.iinc 6 1, 3) := by decide +kernel
set_option maxRecDepth 20000 in
theorem dX5_writeRow_97 : decode cX5_writeRow 97 = .ok (.goto (-91), 3) := by decide +kernel
set_option maxRecDepth 20000 in
theorem dX5_writeRow_100 : decode cX5_writeRow 100 = .ok (.aload_n 3, 1) := by decide +kernel
set_option maxRecDepth 20000 in
theorem dX5_writeRow_101 : decode cX5_writeRow 101 = .ok (.invokevirtual 62, 3) := by decide +kernel
set_option maxRecDepth 20000 in
theorem dX5_writeRow_104 : decode cX5_writeRow 104 = .ok (.return_, 1) := by decide +kernel
set_option maxRecDepth 20000 in
theorem dX5_rowsAheadOf_0 : decode cX5_rowsAheadOf 0 = .ok (.lconst 0, 1) := by decide +kernel
set_option maxRecDepth 20000 in
theorem dX5_rowsAheadOf_1 : decode cX5_rowsAheadOf 1 = .ok (.lstore_n 2, 1) := by decide +kernel
set_option maxRecDepth 20000 in
theorem dX5_rowsAheadOf_2 : decode cX5_rowsAheadOf 2 = .ok (.iconst 0, 1) := by decide +kernel
set_option maxRecDepth 20000 in
theorem dX5_rowsAheadOf_3 : decode cX5_rowsAheadOf 3 = .ok (.istore 4, 2) := by decide +kernel
set_option maxRecDepth 20000 in
theorem dX5_rowsAheadOf_5 : decode cX5_rowsAheadOf 5 = .ok (.iload 4, 2) := by decide +kernel
set_option maxRecDepth 20000 in
theorem dX5_rowsAheadOf_7 : decode cX5_rowsAheadOf 7 = .ok (.aload_n 0, 1) := by decide +kernel
set_option maxRecDepth 20000 in
theorem dX5_rowsAheadOf_8 : decode cX5_rowsAheadOf 8 = .ok (.getfield 29, 3) := by decide +kernel
set_option maxRecDepth 20000 in
theorem dX5_rowsAheadOf_11 : decode cX5_rowsAheadOf 11 = .ok (.if_icmp .ge 75, 3) := by decide +kernel
set_option maxRecDepth 20000 in
theorem dX5_rowsAheadOf_14 : decode cX5_rowsAheadOf 14 = .ok (.aload_n 1, 1) := by decide +kernel
set_option maxRecDepth 20000 in
theorem dX5_rowsAheadOf_15 : decode cX5_rowsAheadOf 15 = .ok (.iload 4, 2) := by decide +kernel
set_option maxRecDepth 20000 in
theorem dX5_rowsAheadOf_17 : decode cX5_rowsAheadOf 17 = .ok (.invokevirtual 65, 3) := by decide +kernel
set_option maxRecDepth 20000 in
theorem dX5_rowsAheadOf_20 : decode cX5_rowsAheadOf 20 = .ok (.istore 5, 2) := by decide +kernel
set_option maxRecDepth 20000 in
theorem dX5_rowsAheadOf_22 : decode cX5_rowsAheadOf 22 = .ok (.iconst 0, 1) := by decide +kernel
set_option maxRecDepth 20000 in
theorem dX5_rowsAheadOf_23 : decode cX5_rowsAheadOf 23 = .ok (.istore 6, 2) := by decide +kernel
set_option maxRecDepth 20000 in
theorem dX5_rowsAheadOf_25 : decode cX5_rowsAheadOf 25 = .ok (.iconst 0, 1) := by decide +kernel
set_option maxRecDepth 20000 in
theorem dX5_rowsAheadOf_26 : decode cX5_rowsAheadOf 26 = .ok (.istore 7, 2) := by decide +kernel
set_option maxRecDepth 20000 in
theorem dX5_rowsAheadOf_28 : decode cX5_rowsAheadOf 28 = .ok (.iload 7, 2) := by decide +kernel
set_option maxRecDepth 20000 in
theorem dX5_rowsAheadOf_30 : decode cX5_rowsAheadOf 30 = .ok (.iload 5, 2) := by decide +kernel
set_option maxRecDepth 20000 in
theorem dX5_rowsAheadOf_32 : decode cX5_rowsAheadOf 32 = .ok (.if_icmp .ge 42, 3) := by decide +kernel
set_option maxRecDepth 20000 in
theorem dX5_rowsAheadOf_35 : decode cX5_rowsAheadOf 35 = .ok (.iload 7, 2) := by decide +kernel
set_option maxRecDepth 20000 in
theorem dX5_rowsAheadOf_37 : decode cX5_rowsAheadOf 37 = .ok (.aload_n 0, 1) := by decide +kernel
set_option maxRecDepth 20000 in
theorem dX5_rowsAheadOf_38 : decode cX5_rowsAheadOf 38 = .ok (.getfield 29, 3) := by decide +kernel
set_option maxRecDepth 20000 in
theorem dX5_rowsAheadOf_41 : decode cX5_rowsAheadOf 41 = .ok (.if_icmp .ge 33, 3) := by decide +kernel
set_option maxRecDepth 20000 in
theorem dX5_rowsAheadOf_44 : decode cX5_rowsAheadOf 44 = .ok (.aload_n 0, 1) := by decide +kernel
set_option maxRecDepth 20000 in
theorem dX5_rowsAheadOf_45 : decode cX5_rowsAheadOf 45 = .ok (.getfield 9, 3) := by decide +kernel
set_option maxRecDepth 20000 in
theorem dX5_rowsAheadOf_48 : decode cX5_rowsAheadOf 48 = .ok (.iload 7, 2) := by decide +kernel
set_option maxRecDepth 20000 in
theorem dX5_rowsAheadOf_50 : decode cX5_rowsAheadOf 50 = .ok (.baload, 1) := by decide +kernel
set_option maxRecDepth 20000 in
theorem dX5_rowsAheadOf_51 : decode cX5_rowsAheadOf 51 = .ok (.ifCond .ne 17, 3) := by decide +kernel
set_option maxRecDepth 20000 in
theorem dX5_rowsAheadOf_54 : decode cX5_rowsAheadOf 54 = .ok (.lload_n 2, 1) := by decide +kernel
set_option maxRecDepth 20000 in
theorem dX5_rowsAheadOf_55 : decode cX5_rowsAheadOf 55 = .ok (.aload_n 0, 1) := by decide +kernel
set_option maxRecDepth 20000 in
theorem dX5_rowsAheadOf_56 : decode cX5_rowsAheadOf 56 = .ok (.iload 7, 2) := by decide +kernel
set_option maxRecDepth 20000 in
theorem dX5_rowsAheadOf_58 : decode cX5_rowsAheadOf 58 = .ok (.iload 6, 2) := by decide +kernel
set_option maxRecDepth 20000 in
theorem dX5_rowsAheadOf_60 : decode cX5_rowsAheadOf 60 = .ok (.invokevirtual 48, 3) := by decide +kernel
set_option maxRecDepth 20000 in
theorem dX5_rowsAheadOf_63 : decode cX5_rowsAheadOf 63 = .ok (.ladd, 1) := by decide +kernel
set_option maxRecDepth 20000 in
theorem dX5_rowsAheadOf_64 : decode cX5_rowsAheadOf 64 = .ok (.lstore_n 2, 1) := by decide +kernel
set_option maxRecDepth 20000 in
theorem dX5_rowsAheadOf_65 : decode cX5_rowsAheadOf 65 = .ok (.iinc 6 1, 3) := by decide +kernel
set_option maxRecDepth 20000 in
theorem dX5_rowsAheadOf_68 : decode cX5_rowsAheadOf 68 = .ok (.iinc 7 1, 3) := by decide +kernel
set_option maxRecDepth 20000 in
theorem dX5_rowsAheadOf_71 : decode cX5_rowsAheadOf 71 = .ok (.goto (-43), 3) := by decide +kernel
set_option maxRecDepth 20000 in
theorem dX5_rowsAheadOf_74 : decode cX5_rowsAheadOf 74 = .ok (.aload_n 0, 1) := by decide +kernel
set_option maxRecDepth 20000 in
theorem dX5_rowsAheadOf_75 : decode cX5_rowsAheadOf 75 = .ok (.iload 5, 2) := by decide +kernel
set_option maxRecDepth 20000 in
theorem dX5_rowsAheadOf_77 : decode cX5_rowsAheadOf 77 = .ok (.invokevirtual 58, 3) := by decide +kernel
set_option maxRecDepth 20000 in
theorem dX5_rowsAheadOf_80 : decode cX5_rowsAheadOf 80 = .ok (.iinc 4 1, 3) := by decide +kernel
set_option maxRecDepth 20000 in
theorem dX5_rowsAheadOf_83 : decode cX5_rowsAheadOf 83 = .ok (.goto (-78), 3) := by decide +kernel
set_option maxRecDepth 20000 in
theorem dX5_rowsAheadOf_86 : decode cX5_rowsAheadOf 86 = .ok (.lload_n 2, 1) := by decide +kernel
set_option maxRecDepth 20000 in
theorem dX5_rowsAheadOf_87 : decode cX5_rowsAheadOf 87 = .ok (.lreturn, 1) := by decide +kernel
set_option maxRecDepth 20000 in
theorem dX5_waysWith_0 : decode cX5_waysWith 0 = .ok (.aload_n 0, 1) := by decide +kernel
set_option maxRecDepth 20000 in
theorem dX5_waysWith_1 : decode cX5_waysWith 1 = .ok (.aload_n 0, 1) := by decide +kernel
set_option maxRecDepth 20000 in
theorem dX5_waysWith_2 : decode cX5_waysWith 2 = .ok (.getfield 35, 3) := by decide +kernel
set_option maxRecDepth 20000 in
theorem dX5_waysWith_5 : decode cX5_waysWith 5 = .ok (.iconst 1, 1) := by decide +kernel
set_option maxRecDepth 20000 in
theorem dX5_waysWith_6 : decode cX5_waysWith 6 = .ok (.isub, 1) := by decide +kernel
set_option maxRecDepth 20000 in
theorem dX5_waysWith_7 : decode cX5_waysWith 7 = .ok (.iload_n 2, 1) := by decide +kernel
set_option maxRecDepth 20000 in
theorem dX5_waysWith_8 : decode cX5_waysWith 8 = .ok (.aload_n 0, 1) := by decide +kernel
set_option maxRecDepth 20000 in
theorem dX5_waysWith_9 : decode cX5_waysWith 9 = .ok (.getfield 29, 3) := by decide +kernel
set_option maxRecDepth 20000 in
theorem dX5_waysWith_12 : decode cX5_waysWith 12 = .ok (.iconst 1, 1) := by decide +kernel
set_option maxRecDepth 20000 in
theorem dX5_waysWith_13 : decode cX5_waysWith 13 = .ok (.isub, 1) := by decide +kernel
set_option maxRecDepth 20000 in
theorem dX5_waysWith_14 : decode cX5_waysWith 14 = .ok (.aload_n 0, 1) := by decide +kernel
set_option maxRecDepth 20000 in
theorem dX5_waysWith_15 : decode cX5_waysWith 15 = .ok (.getfield 41, 3) := by decide +kernel
set_option maxRecDepth 20000 in
theorem dX5_waysWith_18 : decode cX5_waysWith 18 = .ok (.iload_n 1, 1) := by decide +kernel
set_option maxRecDepth 20000 in
theorem dX5_waysWith_19 : decode cX5_waysWith 19 = .ok (.invokestatic 69, 3) := by decide +kernel
set_option maxRecDepth 20000 in
theorem dX5_waysWith_22 : decode cX5_waysWith 22 = .ok (.isub, 1) := by decide +kernel
set_option maxRecDepth 20000 in
theorem dX5_waysWith_23 : decode cX5_waysWith 23 = .ok (.aload_n 0, 1) := by decide +kernel
set_option maxRecDepth 20000 in
theorem dX5_waysWith_24 : decode cX5_waysWith 24 = .ok (.iload_n 1, 1) := by decide +kernel
set_option maxRecDepth 20000 in
theorem dX5_waysWith_25 : decode cX5_waysWith 25 = .ok (.invokevirtual 72, 3) := by decide +kernel
set_option maxRecDepth 20000 in
theorem dX5_waysWith_28 : decode cX5_waysWith 28 = .ok (.invokevirtual 44, 3) := by decide +kernel
set_option maxRecDepth 20000 in
theorem dX5_waysWith_31 : decode cX5_waysWith 31 = .ok (.lreturn, 1) := by decide +kernel
set_option maxRecDepth 20000 in
theorem dX5_ways_0 : decode cX5_ways 0 = .ok (.aload_n 0, 1) := by decide +kernel
set_option maxRecDepth 20000 in
theorem dX5_ways_1 : decode cX5_ways 1 = .ok (.getfield 19, 3) := by decide +kernel
set_option maxRecDepth 20000 in
theorem dX5_ways_4 : decode cX5_ways 4 = .ok (.lookupswitch 52 #[(1, 28), (2, 40)], 28) := by decide +kernel
set_option maxRecDepth 20000 in
theorem dX5_ways_32 : decode cX5_ways 32 = .ok (.aload_n 0, 1) := by decide +kernel
set_option maxRecDepth 20000 in
theorem dX5_ways_33 : decode cX5_ways 33 = .ok (.getfield 15, 3) := by decide +kernel
set_option maxRecDepth 20000 in
theorem dX5_ways_36 : decode cX5_ways 36 = .ok (.iload_n 1, 1) := by decide +kernel
set_option maxRecDepth 20000 in
theorem dX5_ways_37 : decode cX5_ways 37 = .ok (.iload_n 3, 1) := by decide +kernel
set_option maxRecDepth 20000 in
theorem dX5_ways_38 : decode cX5_ways 38 = .ok (.iload 4, 2) := by decide +kernel
set_option maxRecDepth 20000 in
theorem dX5_ways_40 : decode cX5_ways 40 = .ok (.invokevirtual 75, 3) := by decide +kernel
set_option maxRecDepth 20000 in
theorem dX5_ways_43 : decode cX5_ways 43 = .ok (.lreturn, 1) := by decide +kernel
set_option maxRecDepth 20000 in
theorem dX5_ways_44 : decode cX5_ways 44 = .ok (.aload_n 0, 1) := by decide +kernel
set_option maxRecDepth 20000 in
theorem dX5_ways_45 : decode cX5_ways 45 = .ok (.getfield 15, 3) := by decide +kernel
set_option maxRecDepth 20000 in
theorem dX5_ways_48 : decode cX5_ways 48 = .ok (.iload_n 1, 1) := by decide +kernel
set_option maxRecDepth 20000 in
theorem dX5_ways_49 : decode cX5_ways 49 = .ok (.iload_n 2, 1) := by decide +kernel
set_option maxRecDepth 20000 in
theorem dX5_ways_50 : decode cX5_ways 50 = .ok (.iload 4, 2) := by decide +kernel
set_option maxRecDepth 20000 in
theorem dX5_ways_52 : decode cX5_ways 52 = .ok (.invokevirtual 81, 3) := by decide +kernel
set_option maxRecDepth 20000 in
theorem dX5_ways_55 : decode cX5_ways 55 = .ok (.lreturn, 1) := by decide +kernel
set_option maxRecDepth 20000 in
theorem dX5_ways_56 : decode cX5_ways 56 = .ok (.aload_n 0, 1) := by decide +kernel
set_option maxRecDepth 20000 in
theorem dX5_ways_57 : decode cX5_ways 57 = .ok (.getfield 15, 3) := by decide +kernel
set_option maxRecDepth 20000 in
theorem dX5_ways_60 : decode cX5_ways 60 = .ok (.iload_n 1, 1) := by decide +kernel
set_option maxRecDepth 20000 in
theorem dX5_ways_61 : decode cX5_ways 61 = .ok (.invokevirtual 84, 3) := by decide +kernel
set_option maxRecDepth 20000 in
theorem dX5_ways_64 : decode cX5_ways 64 = .ok (.lreturn, 1) := by decide +kernel
set_option maxRecDepth 20000 in
theorem dX5_wantedAfter_0 : decode cX5_wantedAfter 0 = .ok (.aload_n 0, 1) := by decide +kernel
set_option maxRecDepth 20000 in
theorem dX5_wantedAfter_1 : decode cX5_wantedAfter 1 = .ok (.getfield 19, 3) := by decide +kernel
set_option maxRecDepth 20000 in
theorem dX5_wantedAfter_4 : decode cX5_wantedAfter 4 = .ok (.iconst 1, 1) := by decide +kernel
set_option maxRecDepth 20000 in
theorem dX5_wantedAfter_5 : decode cX5_wantedAfter 5 = .ok (.if_icmp .ne 19, 3) := by decide +kernel
set_option maxRecDepth 20000 in
theorem dX5_wantedAfter_8 : decode cX5_wantedAfter 8 = .ok (.iload_n 1, 1) := by decide +kernel
set_option maxRecDepth 20000 in
theorem dX5_wantedAfter_9 : decode cX5_wantedAfter 9 = .ok (.aload_n 0, 1) := by decide +kernel
set_option maxRecDepth 20000 in
theorem dX5_wantedAfter_10 : decode cX5_wantedAfter 10 = .ok (.getfield 41, 3) := by decide +kernel
set_option maxRecDepth 20000 in
theorem dX5_wantedAfter_13 : decode cX5_wantedAfter 13 = .ok (.if_icmp .le 7, 3) := by decide +kernel
set_option maxRecDepth 20000 in
theorem dX5_wantedAfter_16 : decode cX5_wantedAfter 16 = .ok (.iconst 1, 1) := by decide +kernel
set_option maxRecDepth 20000 in
theorem dX5_wantedAfter_17 : decode cX5_wantedAfter 17 = .ok (.goto 28, 3) := by decide +kernel
set_option maxRecDepth 20000 in
theorem dX5_wantedAfter_20 : decode cX5_wantedAfter 20 = .ok (.iconst 0, 1) := by decide +kernel
set_option maxRecDepth 20000 in
theorem dX5_wantedAfter_21 : decode cX5_wantedAfter 21 = .ok (.goto 24, 3) := by decide +kernel
set_option maxRecDepth 20000 in
theorem dX5_wantedAfter_24 : decode cX5_wantedAfter 24 = .ok (.aload_n 0, 1) := by decide +kernel
set_option maxRecDepth 20000 in
theorem dX5_wantedAfter_25 : decode cX5_wantedAfter 25 = .ok (.getfield 19, 3) := by decide +kernel
set_option maxRecDepth 20000 in
theorem dX5_wantedAfter_28 : decode cX5_wantedAfter 28 = .ok (.iconst 2, 1) := by decide +kernel
set_option maxRecDepth 20000 in
theorem dX5_wantedAfter_29 : decode cX5_wantedAfter 29 = .ok (.if_icmp .ne 15, 3) := by decide +kernel
set_option maxRecDepth 20000 in
theorem dX5_wantedAfter_32 : decode cX5_wantedAfter 32 = .ok (.iload_n 1, 1) := by decide +kernel
set_option maxRecDepth 20000 in
theorem dX5_wantedAfter_33 : decode cX5_wantedAfter 33 = .ok (.aload_n 0, 1) := by decide +kernel
set_option maxRecDepth 20000 in
theorem dX5_wantedAfter_34 : decode cX5_wantedAfter 34 = .ok (.getfield 38, 3) := by decide +kernel
set_option maxRecDepth 20000 in
theorem dX5_wantedAfter_37 : decode cX5_wantedAfter 37 = .ok (.if_icmp .le 7, 3) := by decide +kernel
set_option maxRecDepth 20000 in
theorem dX5_wantedAfter_40 : decode cX5_wantedAfter 40 = .ok (.iconst 1, 1) := by decide +kernel
set_option maxRecDepth 20000 in
theorem dX5_wantedAfter_41 : decode cX5_wantedAfter 41 = .ok (.goto 4, 3) := by decide +kernel
set_option maxRecDepth 20000 in
theorem dX5_wantedAfter_44 : decode cX5_wantedAfter 44 = .ok (.iconst 0, 1) := by decide +kernel
set_option maxRecDepth 20000 in
theorem dX5_wantedAfter_45 : decode cX5_wantedAfter 45 = .ok (.istore_n 2, 1) := by decide +kernel
set_option maxRecDepth 20000 in
theorem dX5_wantedAfter_46 : decode cX5_wantedAfter 46 = .ok (.iload_n 2, 1) := by decide +kernel
set_option maxRecDepth 20000 in
theorem dX5_wantedAfter_47 : decode cX5_wantedAfter 47 = .ok (.ifCond .eq 12, 3) := by decide +kernel
set_option maxRecDepth 20000 in
theorem dX5_wantedAfter_50 : decode cX5_wantedAfter 50 = .ok (.aload_n 0, 1) := by decide +kernel
set_option maxRecDepth 20000 in
theorem dX5_wantedAfter_51 : decode cX5_wantedAfter 51 = .ok (.getfield 32, 3) := by decide +kernel
set_option maxRecDepth 20000 in
theorem dX5_wantedAfter_54 : decode cX5_wantedAfter 54 = .ok (.iconst 1, 1) := by decide +kernel
set_option maxRecDepth 20000 in
theorem dX5_wantedAfter_55 : decode cX5_wantedAfter 55 = .ok (.isub, 1) := by decide +kernel
set_option maxRecDepth 20000 in
theorem dX5_wantedAfter_56 : decode cX5_wantedAfter 56 = .ok (.goto 7, 3) := by decide +kernel
set_option maxRecDepth 20000 in
theorem dX5_wantedAfter_59 : decode cX5_wantedAfter 59 = .ok (.aload_n 0, 1) := by decide +kernel
set_option maxRecDepth 20000 in
theorem dX5_wantedAfter_60 : decode cX5_wantedAfter 60 = .ok (.getfield 32, 3) := by decide +kernel
set_option maxRecDepth 20000 in
theorem dX5_wantedAfter_63 : decode cX5_wantedAfter 63 = .ok (.ireturn, 1) := by decide +kernel
set_option maxRecDepth 20000 in
theorem dX5_step_0 : decode cX5_step 0 = .ok (.aload_n 0, 1) := by decide +kernel
set_option maxRecDepth 20000 in
theorem dX5_step_1 : decode cX5_step 1 = .ok (.aload_n 0, 1) := by decide +kernel
set_option maxRecDepth 20000 in
theorem dX5_step_2 : decode cX5_step 2 = .ok (.iload_n 1, 1) := by decide +kernel
set_option maxRecDepth 20000 in
theorem dX5_step_3 : decode cX5_step 3 = .ok (.invokevirtual 72, 3) := by decide +kernel
set_option maxRecDepth 20000 in
theorem dX5_step_6 : decode cX5_step 6 = .ok (.putfield 32, 3) := by decide +kernel
set_option maxRecDepth 20000 in
theorem dX5_step_9 : decode cX5_step 9 = .ok (.aload_n 0, 1) := by decide +kernel
set_option maxRecDepth 20000 in
theorem dX5_step_10 : decode cX5_step 10 = .ok (.iload_n 1, 1) := by decide +kernel
set_option maxRecDepth 20000 in
theorem dX5_step_11 : decode cX5_step 11 = .ok (.putfield 38, 3) := by decide +kernel
set_option maxRecDepth 20000 in
theorem dX5_step_14 : decode cX5_step 14 = .ok (.aload_n 0, 1) := by decide +kernel
set_option maxRecDepth 20000 in
theorem dX5_step_15 : decode cX5_step 15 = .ok (.aload_n 0, 1) := by decide +kernel
set_option maxRecDepth 20000 in
theorem dX5_step_16 : decode cX5_step 16 = .ok (.getfield 41, 3) := by decide +kernel
set_option maxRecDepth 20000 in
theorem dX5_step_19 : decode cX5_step 19 = .ok (.iload_n 1, 1) := by decide +kernel
set_option maxRecDepth 20000 in
theorem dX5_step_20 : decode cX5_step 20 = .ok (.invokestatic 69, 3) := by decide +kernel
set_option maxRecDepth 20000 in
theorem dX5_step_23 : decode cX5_step 23 = .ok (.putfield 41, 3) := by decide +kernel
set_option maxRecDepth 20000 in
theorem dX5_step_26 : decode cX5_step 26 = .ok (.aload_n 0, 1) := by decide +kernel
set_option maxRecDepth 20000 in
theorem dX5_step_27 : decode cX5_step 27 = .ok (.dup, 1) := by decide +kernel
set_option maxRecDepth 20000 in
theorem dX5_step_28 : decode cX5_step 28 = .ok (.getfield 35, 3) := by decide +kernel
set_option maxRecDepth 20000 in
theorem dX5_step_31 : decode cX5_step 31 = .ok (.iconst 1, 1) := by decide +kernel
set_option maxRecDepth 20000 in
theorem dX5_step_32 : decode cX5_step 32 = .ok (.isub, 1) := by decide +kernel
set_option maxRecDepth 20000 in
theorem dX5_step_33 : decode cX5_step 33 = .ok (.putfield 35, 3) := by decide +kernel
set_option maxRecDepth 20000 in
theorem dX5_step_36 : decode cX5_step 36 = .ok (.iload_n 1, 1) := by decide +kernel
set_option maxRecDepth 20000 in
theorem dX5_step_37 : decode cX5_step 37 = .ok (.ifCond .lt 16, 3) := by decide +kernel
set_option maxRecDepth 20000 in
theorem dX5_step_40 : decode cX5_step 40 = .ok (.iload_n 1, 1) := by decide +kernel
set_option maxRecDepth 20000 in
theorem dX5_step_41 : decode cX5_step 41 = .ok (.bipush 18, 2) := by decide +kernel
set_option maxRecDepth 20000 in
theorem dX5_step_43 : decode cX5_step 43 = .ok (.if_icmp .ge 10, 3) := by decide +kernel
set_option maxRecDepth 20000 in
theorem dX5_step_46 : decode cX5_step 46 = .ok (.aload_n 0, 1) := by decide +kernel
set_option maxRecDepth 20000 in
theorem dX5_step_47 : decode cX5_step 47 = .ok (.getfield 9, 3) := by decide +kernel
set_option maxRecDepth 20000 in
theorem dX5_step_50 : decode cX5_step 50 = .ok (.iload_n 1, 1) := by decide +kernel
set_option maxRecDepth 20000 in
theorem dX5_step_51 : decode cX5_step 51 = .ok (.iconst 1, 1) := by decide +kernel
set_option maxRecDepth 20000 in
theorem dX5_step_52 : decode cX5_step 52 = .ok (.bastore, 1) := by decide +kernel
set_option maxRecDepth 20000 in
theorem dX5_step_53 : decode cX5_step 53 = .ok (.return_, 1) := by decide +kernel
set_option maxRecDepth 20000 in
theorem dX6_init_0 : decode cX6_init 0 = .ok (.aload_n 0, 1) := by decide +kernel
set_option maxRecDepth 20000 in
theorem dX6_init_1 : decode cX6_init 1 = .ok (.invokespecial 1, 3) := by decide +kernel
set_option maxRecDepth 20000 in
theorem dX6_init_4 : decode cX6_init 4 = .ok (.aload_n 0, 1) := by decide +kernel
set_option maxRecDepth 20000 in
theorem dX6_init_5 : decode cX6_init 5 = .ok (.new 7, 3) := by decide +kernel
set_option maxRecDepth 20000 in
theorem dX6_init_8 : decode cX6_init 8 = .ok (.dup, 1) := by decide +kernel
set_option maxRecDepth 20000 in
theorem dX6_init_9 : decode cX6_init 9 = .ok (.invokespecial 9, 3) := by decide +kernel
set_option maxRecDepth 20000 in
theorem dX6_init_12 : decode cX6_init 12 = .ok (.putfield 10, 3) := by decide +kernel
set_option maxRecDepth 20000 in
theorem dX6_init_15 : decode cX6_init 15 = .ok (.aload_n 0, 1) := by decide +kernel
set_option maxRecDepth 20000 in
theorem dX6_init_16 : decode cX6_init 16 = .ok (.iconst 4, 1) := by decide +kernel
set_option maxRecDepth 20000 in
theorem dX6_init_17 : decode cX6_init 17 = .ok (.anewarray 7, 3) := by decide +kernel
set_option maxRecDepth 20000 in
theorem dX6_init_20 : decode cX6_init 20 = .ok (.putfield 16, 3) := by decide +kernel
set_option maxRecDepth 20000 in
theorem dX6_init_23 : decode cX6_init 23 = .ok (.aload_n 0, 1) := by decide +kernel
set_option maxRecDepth 20000 in
theorem dX6_init_24 : decode cX6_init 24 = .ok (.new 20, 3) := by decide +kernel
set_option maxRecDepth 20000 in
theorem dX6_init_27 : decode cX6_init 27 = .ok (.dup, 1) := by decide +kernel
set_option maxRecDepth 20000 in
theorem dX6_init_28 : decode cX6_init 28 = .ok (.invokespecial 22, 3) := by decide +kernel
set_option maxRecDepth 20000 in
theorem dX6_init_31 : decode cX6_init 31 = .ok (.putfield 23, 3) := by decide +kernel
set_option maxRecDepth 20000 in
theorem dX6_init_34 : decode cX6_init 34 = .ok (.aload_n 0, 1) := by decide +kernel
set_option maxRecDepth 20000 in
theorem dX6_init_35 : decode cX6_init 35 = .ok (.new 27, 3) := by decide +kernel
set_option maxRecDepth 20000 in
theorem dX6_init_38 : decode cX6_init 38 = .ok (.dup, 1) := by decide +kernel
set_option maxRecDepth 20000 in
theorem dX6_init_39 : decode cX6_init 39 = .ok (.invokespecial 29, 3) := by decide +kernel
set_option maxRecDepth 20000 in
theorem dX6_init_42 : decode cX6_init 42 = .ok (.putfield 30, 3) := by decide +kernel
set_option maxRecDepth 20000 in
theorem dX6_init_45 : decode cX6_init 45 = .ok (.aload_n 0, 1) := by decide +kernel
set_option maxRecDepth 20000 in
theorem dX6_init_46 : decode cX6_init 46 = .ok (.new 34, 3) := by decide +kernel
set_option maxRecDepth 20000 in
theorem dX6_init_49 : decode cX6_init 49 = .ok (.dup, 1) := by decide +kernel
set_option maxRecDepth 20000 in
theorem dX6_init_50 : decode cX6_init 50 = .ok (.aload_n 0, 1) := by decide +kernel
set_option maxRecDepth 20000 in
theorem dX6_init_51 : decode cX6_init 51 = .ok (.getfield 30, 3) := by decide +kernel
set_option maxRecDepth 20000 in
theorem dX6_init_54 : decode cX6_init 54 = .ok (.invokespecial 36, 3) := by decide +kernel
set_option maxRecDepth 20000 in
theorem dX6_init_57 : decode cX6_init 57 = .ok (.putfield 39, 3) := by decide +kernel
set_option maxRecDepth 20000 in
theorem dX6_init_60 : decode cX6_init 60 = .ok (.aload_n 0, 1) := by decide +kernel
set_option maxRecDepth 20000 in
theorem dX6_init_61 : decode cX6_init 61 = .ok (.sipush 152, 3) := by decide +kernel
set_option maxRecDepth 20000 in
theorem dX6_init_64 : decode cX6_init 64 = .ok (.anewarray 43, 3) := by decide +kernel
set_option maxRecDepth 20000 in
theorem dX6_init_67 : decode cX6_init 67 = .ok (.putfield 45, 3) := by decide +kernel
set_option maxRecDepth 20000 in
theorem dX6_init_70 : decode cX6_init 70 = .ok (.iconst 0, 1) := by decide +kernel
set_option maxRecDepth 20000 in
theorem dX6_init_71 : decode cX6_init 71 = .ok (.istore_n 1, 1) := by decide +kernel
set_option maxRecDepth 20000 in
theorem dX6_init_72 : decode cX6_init 72 = .ok (.iload_n 1, 1) := by decide +kernel
set_option maxRecDepth 20000 in
theorem dX6_init_73 : decode cX6_init 73 = .ok (.iconst 4, 1) := by decide +kernel
set_option maxRecDepth 20000 in
theorem dX6_init_74 : decode cX6_init 74 = .ok (.if_icmp .ge 22, 3) := by decide +kernel
set_option maxRecDepth 20000 in
theorem dX6_init_77 : decode cX6_init 77 = .ok (.aload_n 0, 1) := by decide +kernel
set_option maxRecDepth 20000 in
theorem dX6_init_78 : decode cX6_init 78 = .ok (.getfield 16, 3) := by decide +kernel
set_option maxRecDepth 20000 in
theorem dX6_init_81 : decode cX6_init 81 = .ok (.iload_n 1, 1) := by decide +kernel
set_option maxRecDepth 20000 in
theorem dX6_init_82 : decode cX6_init 82 = .ok (.new 7, 3) := by decide +kernel
set_option maxRecDepth 20000 in
theorem dX6_init_85 : decode cX6_init 85 = .ok (.dup, 1) := by decide +kernel
set_option maxRecDepth 20000 in
theorem dX6_init_86 : decode cX6_init 86 = .ok (.invokespecial 9, 3) := by decide +kernel
set_option maxRecDepth 20000 in
theorem dX6_init_89 : decode cX6_init 89 = .ok (.aastore, 1) := by decide +kernel
set_option maxRecDepth 20000 in
theorem dX6_init_90 : decode cX6_init 90 = .ok (.iinc 1 1, 3) := by decide +kernel
set_option maxRecDepth 20000 in
theorem dX6_init_93 : decode cX6_init 93 = .ok (.goto (-21), 3) := by decide +kernel
set_option maxRecDepth 20000 in
theorem dX6_init_96 : decode cX6_init 96 = .ok (.aload_n 0, 1) := by decide +kernel
set_option maxRecDepth 20000 in
theorem dX6_init_97 : decode cX6_init 97 = .ok (.iconst 4, 1) := by decide +kernel
set_option maxRecDepth 20000 in
theorem dX6_init_98 : decode cX6_init 98 = .ok (.invokevirtual 49, 3) := by decide +kernel
set_option maxRecDepth 20000 in
theorem dX6_init_101 : decode cX6_init 101 = .ok (.return_, 1) := by decide +kernel
set_option maxRecDepth 20000 in
theorem dX6_things_0 : decode cX6_things 0 = .ok (.iload_n 1, 1) := by decide +kernel
set_option maxRecDepth 20000 in
theorem dX6_things_1 : decode cX6_things 1 = .ok (.iconst 1, 1) := by decide +kernel
set_option maxRecDepth 20000 in
theorem dX6_things_2 : decode cX6_things 2 = .ok (.if_icmp .lt 9, 3) := by decide +kernel
set_option maxRecDepth 20000 in
theorem dX6_things_5 : decode cX6_things 5 = .ok (.iload_n 1, 1) := by decide +kernel
set_option maxRecDepth 20000 in
theorem dX6_things_6 : decode cX6_things 6 = .ok (.bipush 18, 2) := by decide +kernel
set_option maxRecDepth 20000 in
theorem dX6_things_8 : decode cX6_things 8 = .ok (.if_icmp .le 6, 3) := by decide +kernel
set_option maxRecDepth 20000 in
theorem dX6_things_11 : decode cX6_things 11 = .ok (.bipush (-2), 2) := by decide +kernel
set_option maxRecDepth 20000 in
theorem dX6_things_13 : decode cX6_things 13 = .ok (.ireturn, 1) := by decide +kernel
set_option maxRecDepth 20000 in
theorem dX6_things_14 : decode cX6_things 14 = .ok (.aload_n 0, 1) := by decide +kernel
set_option maxRecDepth 20000 in
theorem dX6_things_15 : decode cX6_things 15 = .ok (.iload_n 1, 1) := by decide +kernel
set_option maxRecDepth 20000 in
theorem dX6_things_16 : decode cX6_things 16 = .ok (.invokevirtual 49, 3) := by decide +kernel
set_option maxRecDepth 20000 in
theorem dX6_things_19 : decode cX6_things 19 = .ok (.iconst 1, 1) := by decide +kernel
set_option maxRecDepth 20000 in
theorem dX6_things_20 : decode cX6_things 20 = .ok (.ireturn, 1) := by decide +kernel
set_option maxRecDepth 20000 in
theorem dX6_order_0 : decode cX6_order 0 = .ok (.aload_n 0, 1) := by decide +kernel
set_option maxRecDepth 20000 in
theorem dX6_order_1 : decode cX6_order 1 = .ok (.getfield 10, 3) := by decide +kernel
set_option maxRecDepth 20000 in
theorem dX6_order_4 : decode cX6_order 4 = .ok (.lload_n 1, 1) := by decide +kernel
set_option maxRecDepth 20000 in
theorem dX6_order_5 : decode cX6_order 5 = .ok (.lload_n 3, 1) := by decide +kernel
set_option maxRecDepth 20000 in
theorem dX6_order_6 : decode cX6_order 6 = .ok (.invokevirtual 53, 3) := by decide +kernel
set_option maxRecDepth 20000 in
theorem dX6_order_9 : decode cX6_order 9 = .ok (.ifCond .eq 7, 3) := by decide +kernel
set_option maxRecDepth 20000 in
theorem dX6_order_12 : decode cX6_order 12 = .ok (.iconst 1, 1) := by decide +kernel
set_option maxRecDepth 20000 in
theorem dX6_order_13 : decode cX6_order 13 = .ok (.goto 5, 3) := by decide +kernel
set_option maxRecDepth 20000 in
theorem dX6_order_16 : decode cX6_order 16 = .ok (.bipush (-2), 2) := by decide +kernel
set_option maxRecDepth 20000 in
theorem dX6_order_18 : decode cX6_order 18 = .ok (.ireturn, 1) := by decide +kernel
set_option maxRecDepth 20000 in
theorem dX6_at_0 : decode cX6_at 0 = .ok (.aload_n 0, 1) := by decide +kernel
set_option maxRecDepth 20000 in
theorem dX6_at_1 : decode cX6_at 1 = .ok (.iload_n 1, 1) := by decide +kernel
set_option maxRecDepth 20000 in
theorem dX6_at_2 : decode cX6_at 2 = .ok (.invokevirtual 57, 3) := by decide +kernel
set_option maxRecDepth 20000 in
theorem dX6_at_5 : decode cX6_at 5 = .ok (.ifCond .eq 14, 3) := by decide +kernel
set_option maxRecDepth 20000 in
theorem dX6_at_8 : decode cX6_at 8 = .ok (.aload_n 0, 1) := by decide +kernel
set_option maxRecDepth 20000 in
theorem dX6_at_9 : decode cX6_at 9 = .ok (.getfield 10, 3) := by decide +kernel
set_option maxRecDepth 20000 in
theorem dX6_at_12 : decode cX6_at 12 = .ok (.iload_n 1, 1) := by decide +kernel
set_option maxRecDepth 20000 in
theorem dX6_at_13 : decode cX6_at 13 = .ok (.invokevirtual 61, 3) := by decide +kernel
set_option maxRecDepth 20000 in
theorem dX6_at_16 : decode cX6_at 16 = .ok (.goto 5, 3) := by decide +kernel
set_option maxRecDepth 20000 in
theorem dX6_at_19 : decode cX6_at 19 = .ok (.bipush (-2), 2) := by decide +kernel
set_option maxRecDepth 20000 in
theorem dX6_at_21 : decode cX6_at 21 = .ok (.ireturn, 1) := by decide +kernel
set_option maxRecDepth 20000 in
theorem dX6_swap_0 : decode cX6_swap 0 = .ok (.aload_n 0, 1) := by decide +kernel
set_option maxRecDepth 20000 in
theorem dX6_swap_1 : decode cX6_swap 1 = .ok (.iload_n 1, 1) := by decide +kernel
set_option maxRecDepth 20000 in
theorem dX6_swap_2 : decode cX6_swap 2 = .ok (.invokevirtual 57, 3) := by decide +kernel
set_option maxRecDepth 20000 in
theorem dX6_swap_5 : decode cX6_swap 5 = .ok (.ifCond .eq 11, 3) := by decide +kernel
set_option maxRecDepth 20000 in
theorem dX6_swap_8 : decode cX6_swap 8 = .ok (.aload_n 0, 1) := by decide +kernel
set_option maxRecDepth 20000 in
theorem dX6_swap_9 : decode cX6_swap 9 = .ok (.iload_n 2, 1) := by decide +kernel
set_option maxRecDepth 20000 in
theorem dX6_swap_10 : decode cX6_swap 10 = .ok (.invokevirtual 57, 3) := by decide +kernel
set_option maxRecDepth 20000 in
theorem dX6_swap_13 : decode cX6_swap 13 = .ok (.ifCond .ne 6, 3) := by decide +kernel
set_option maxRecDepth 20000 in
theorem dX6_swap_16 : decode cX6_swap 16 = .ok (.bipush (-2), 2) := by decide +kernel
set_option maxRecDepth 20000 in
theorem dX6_swap_18 : decode cX6_swap 18 = .ok (.ireturn, 1) := by decide +kernel
set_option maxRecDepth 20000 in
theorem dX6_swap_19 : decode cX6_swap 19 = .ok (.aload_n 0, 1) := by decide +kernel
set_option maxRecDepth 20000 in
theorem dX6_swap_20 : decode cX6_swap 20 = .ok (.getfield 10, 3) := by decide +kernel
set_option maxRecDepth 20000 in
theorem dX6_swap_23 : decode cX6_swap 23 = .ok (.iload_n 1, 1) := by decide +kernel
set_option maxRecDepth 20000 in
theorem dX6_swap_24 : decode cX6_swap 24 = .ok (.iload_n 2, 1) := by decide +kernel
set_option maxRecDepth 20000 in
theorem dX6_swap_25 : decode cX6_swap 25 = .ok (.invokevirtual 65, 3) := by decide +kernel
set_option maxRecDepth 20000 in
theorem dX6_swap_28 : decode cX6_swap 28 = .ok (.iconst 1, 1) := by decide +kernel
set_option maxRecDepth 20000 in
theorem dX6_swap_29 : decode cX6_swap 29 = .ok (.ireturn, 1) := by decide +kernel
set_option maxRecDepth 20000 in
theorem dX6_lay_0 : decode cX6_lay 0 = .ok (.iload_n 1, 1) := by decide +kernel
set_option maxRecDepth 20000 in
theorem dX6_lay_1 : decode cX6_lay 1 = .ok (.invokestatic 69, 3) := by decide +kernel
set_option maxRecDepth 20000 in
theorem dX6_lay_4 : decode cX6_lay 4 = .ok (.ifCond .ne 6, 3) := by decide +kernel
set_option maxRecDepth 20000 in
theorem dX6_lay_7 : decode cX6_lay 7 = .ok (.bipush (-2), 2) := by decide +kernel
set_option maxRecDepth 20000 in
theorem dX6_lay_9 : decode cX6_lay 9 = .ok (.ireturn, 1) := by decide +kernel
set_option maxRecDepth 20000 in
theorem dX6_lay_10 : decode cX6_lay 10 = .ok (.aload_n 0, 1) := by decide +kernel
set_option maxRecDepth 20000 in
theorem dX6_lay_11 : decode cX6_lay 11 = .ok (.getfield 16, 3) := by decide +kernel
set_option maxRecDepth 20000 in
theorem dX6_lay_14 : decode cX6_lay 14 = .ok (.iload_n 1, 1) := by decide +kernel
set_option maxRecDepth 20000 in
theorem dX6_lay_15 : decode cX6_lay 15 = .ok (.aaload, 1) := by decide +kernel
set_option maxRecDepth 20000 in
theorem dX6_lay_16 : decode cX6_lay 16 = .ok (.aload_n 0, 1) := by decide +kernel
set_option maxRecDepth 20000 in
theorem dX6_lay_17 : decode cX6_lay 17 = .ok (.getfield 10, 3) := by decide +kernel
set_option maxRecDepth 20000 in
theorem dX6_lay_20 : decode cX6_lay 20 = .ok (.invokevirtual 72, 3) := by decide +kernel
set_option maxRecDepth 20000 in
theorem dX6_lay_23 : decode cX6_lay 23 = .ok (.iconst 1, 1) := by decide +kernel
set_option maxRecDepth 20000 in
theorem dX6_lay_24 : decode cX6_lay 24 = .ok (.ireturn, 1) := by decide +kernel
set_option maxRecDepth 20000 in
theorem dX6_take_0 : decode cX6_take 0 = .ok (.iload_n 1, 1) := by decide +kernel
set_option maxRecDepth 20000 in
theorem dX6_take_1 : decode cX6_take 1 = .ok (.invokestatic 69, 3) := by decide +kernel
set_option maxRecDepth 20000 in
theorem dX6_take_4 : decode cX6_take 4 = .ok (.ifCond .ne 6, 3) := by decide +kernel
set_option maxRecDepth 20000 in
theorem dX6_take_7 : decode cX6_take 7 = .ok (.bipush (-2), 2) := by decide +kernel
set_option maxRecDepth 20000 in
theorem dX6_take_9 : decode cX6_take 9 = .ok (.ireturn, 1) := by decide +kernel
set_option maxRecDepth 20000 in
theorem dX6_take_10 : decode cX6_take 10 = .ok (.aload_n 0, 1) := by decide +kernel
set_option maxRecDepth 20000 in
theorem dX6_take_11 : decode cX6_take 11 = .ok (.getfield 10, 3) := by decide +kernel
set_option maxRecDepth 20000 in
theorem dX6_take_14 : decode cX6_take 14 = .ok (.aload_n 0, 1) := by decide +kernel
set_option maxRecDepth 20000 in
theorem dX6_take_15 : decode cX6_take 15 = .ok (.getfield 16, 3) := by decide +kernel
set_option maxRecDepth 20000 in
theorem dX6_take_18 : decode cX6_take 18 = .ok (.iload_n 1, 1) := by decide +kernel
set_option maxRecDepth 20000 in
theorem dX6_take_19 : decode cX6_take 19 = .ok (.aaload, 1) := by decide +kernel
set_option maxRecDepth 20000 in
theorem dX6_take_20 : decode cX6_take 20 = .ok (.invokevirtual 72, 3) := by decide +kernel
set_option maxRecDepth 20000 in
theorem dX6_take_23 : decode cX6_take 23 = .ok (.iconst 1, 1) := by decide +kernel
set_option maxRecDepth 20000 in
theorem dX6_take_24 : decode cX6_take 24 = .ok (.ireturn, 1) := by decide +kernel
set_option maxRecDepth 20000 in
theorem dX6_then_0 : decode cX6_then 0 = .ok (.iload_n 1, 1) := by decide +kernel
set_option maxRecDepth 20000 in
theorem dX6_then_1 : decode cX6_then 1 = .ok (.invokestatic 69, 3) := by decide +kernel
set_option maxRecDepth 20000 in
theorem dX6_then_4 : decode cX6_then 4 = .ok (.ifCond .ne 6, 3) := by decide +kernel
set_option maxRecDepth 20000 in
theorem dX6_then_7 : decode cX6_then 7 = .ok (.bipush (-2), 2) := by decide +kernel
set_option maxRecDepth 20000 in
theorem dX6_then_9 : decode cX6_then 9 = .ok (.ireturn, 1) := by decide +kernel
set_option maxRecDepth 20000 in
theorem dX6_then_10 : decode cX6_then 10 = .ok (.aload_n 0, 1) := by decide +kernel
set_option maxRecDepth 20000 in
theorem dX6_then_11 : decode cX6_then 11 = .ok (.getfield 10, 3) := by decide +kernel
set_option maxRecDepth 20000 in
theorem dX6_then_14 : decode cX6_then 14 = .ok (.aload_n 0, 1) := by decide +kernel
set_option maxRecDepth 20000 in
theorem dX6_then_15 : decode cX6_then 15 = .ok (.getfield 16, 3) := by decide +kernel
set_option maxRecDepth 20000 in
theorem dX6_then_18 : decode cX6_then 18 = .ok (.iload_n 1, 1) := by decide +kernel
set_option maxRecDepth 20000 in
theorem dX6_then_19 : decode cX6_then 19 = .ok (.aaload, 1) := by decide +kernel
set_option maxRecDepth 20000 in
theorem dX6_then_20 : decode cX6_then 20 = .ok (.invokevirtual 76, 3) := by decide +kernel
set_option maxRecDepth 20000 in
theorem dX6_then_23 : decode cX6_then 23 = .ok (.iconst 1, 1) := by decide +kernel
set_option maxRecDepth 20000 in
theorem dX6_then_24 : decode cX6_then 24 = .ok (.ireturn, 1) := by decide +kernel
set_option maxRecDepth 20000 in
theorem dX6_back_0 : decode cX6_back 0 = .ok (.aload_n 0, 1) := by decide +kernel
set_option maxRecDepth 20000 in
theorem dX6_back_1 : decode cX6_back 1 = .ok (.getfield 10, 3) := by decide +kernel
set_option maxRecDepth 20000 in
theorem dX6_back_4 : decode cX6_back 4 = .ok (.invokevirtual 79, 3) := by decide +kernel
set_option maxRecDepth 20000 in
theorem dX6_back_7 : decode cX6_back 7 = .ok (.iconst 1, 1) := by decide +kernel
set_option maxRecDepth 20000 in
theorem dX6_back_8 : decode cX6_back 8 = .ok (.ireturn, 1) := by decide +kernel
set_option maxRecDepth 20000 in
theorem dX6_number_0 : decode cX6_number 0 = .ok (.iload_n 1, 1) := by decide +kernel
set_option maxRecDepth 20000 in
theorem dX6_number_1 : decode cX6_number 1 = .ok (.invokestatic 82, 3) := by decide +kernel
set_option maxRecDepth 20000 in
theorem dX6_number_4 : decode cX6_number 4 = .ok (.ifCond .eq 14, 3) := by decide +kernel
set_option maxRecDepth 20000 in
theorem dX6_number_7 : decode cX6_number 7 = .ok (.aload_n 0, 1) := by decide +kernel
set_option maxRecDepth 20000 in
theorem dX6_number_8 : decode cX6_number 8 = .ok (.getfield 10, 3) := by decide +kernel
set_option maxRecDepth 20000 in
theorem dX6_number_11 : decode cX6_number 11 = .ok (.iload_n 1, 1) := by decide +kernel
set_option maxRecDepth 20000 in
theorem dX6_number_12 : decode cX6_number 12 = .ok (.invokevirtual 85, 3) := by decide +kernel
set_option maxRecDepth 20000 in
theorem dX6_number_15 : decode cX6_number 15 = .ok (.goto 5, 3) := by decide +kernel
set_option maxRecDepth 20000 in
theorem dX6_number_18 : decode cX6_number 18 = .ok (.bipush (-2), 2) := by decide +kernel
set_option maxRecDepth 20000 in
theorem dX6_number_20 : decode cX6_number 20 = .ok (.ireturn, 1) := by decide +kernel
set_option maxRecDepth 20000 in
theorem dX6_many_0 : decode cX6_many 0 = .ok (.iload_n 1, 1) := by decide +kernel
set_option maxRecDepth 20000 in
theorem dX6_many_1 : decode cX6_many 1 = .ok (.invokestatic 82, 3) := by decide +kernel
set_option maxRecDepth 20000 in
theorem dX6_many_4 : decode cX6_many 4 = .ok (.ifCond .eq 15, 3) := by decide +kernel
set_option maxRecDepth 20000 in
theorem dX6_many_7 : decode cX6_many 7 = .ok (.aload_n 0, 1) := by decide +kernel
set_option maxRecDepth 20000 in
theorem dX6_many_8 : decode cX6_many 8 = .ok (.iload_n 1, 1) := by decide +kernel
set_option maxRecDepth 20000 in
theorem dX6_many_9 : decode cX6_many 9 = .ok (.invokevirtual 88, 3) := by decide +kernel
set_option maxRecDepth 20000 in
theorem dX6_many_12 : decode cX6_many 12 = .ok (.iload_n 2, 1) := by decide +kernel
set_option maxRecDepth 20000 in
theorem dX6_many_13 : decode cX6_many 13 = .ok (.invokevirtual 92, 3) := by decide +kernel
set_option maxRecDepth 20000 in
theorem dX6_many_16 : decode cX6_many 16 = .ok (.goto 6, 3) := by decide +kernel
set_option maxRecDepth 20000 in
theorem dX6_many_19 : decode cX6_many 19 = .ok (.ldc2_w 96, 3) := by decide +kernel
set_option maxRecDepth 20000 in
theorem dX6_many_22 : decode cX6_many 22 = .ok (.lreturn, 1) := by decide +kernel
set_option maxRecDepth 20000 in
theorem dX6_mean_0 : decode cX6_mean 0 = .ok (.iload_n 1, 1) := by decide +kernel
set_option maxRecDepth 20000 in
theorem dX6_mean_1 : decode cX6_mean 1 = .ok (.invokestatic 82, 3) := by decide +kernel
set_option maxRecDepth 20000 in
theorem dX6_mean_4 : decode cX6_mean 4 = .ok (.ifCond .eq 12, 3) := by decide +kernel
set_option maxRecDepth 20000 in
theorem dX6_mean_7 : decode cX6_mean 7 = .ok (.iload_n 2, 1) := by decide +kernel
set_option maxRecDepth 20000 in
theorem dX6_mean_8 : decode cX6_mean 8 = .ok (.ifCond .lt 8, 3) := by decide +kernel
set_option maxRecDepth 20000 in
theorem dX6_mean_11 : decode cX6_mean 11 = .ok (.iload_n 2, 1) := by decide +kernel
set_option maxRecDepth 20000 in
theorem dX6_mean_12 : decode cX6_mean 12 = .ok (.iconst 1, 1) := by decide +kernel
set_option maxRecDepth 20000 in
theorem dX6_mean_13 : decode cX6_mean 13 = .ok (.if_icmp .le 7, 3) := by decide +kernel
set_option maxRecDepth 20000 in
theorem dX6_mean_16 : decode cX6_mean 16 = .ok (.ldc2_w 96, 3) := by decide +kernel
set_option maxRecDepth 20000 in
theorem dX6_mean_19 : decode cX6_mean 19 = .ok (.lreturn, 1) := by decide +kernel
set_option maxRecDepth 20000 in
theorem dX6_mean_20 : decode cX6_mean 20 = .ok (.aload_n 0, 1) := by decide +kernel
set_option maxRecDepth 20000 in
theorem dX6_mean_21 : decode cX6_mean 21 = .ok (.iload_n 1, 1) := by decide +kernel
set_option maxRecDepth 20000 in
theorem dX6_mean_22 : decode cX6_mean 22 = .ok (.invokevirtual 88, 3) := by decide +kernel
set_option maxRecDepth 20000 in
theorem dX6_mean_25 : decode cX6_mean 25 = .ok (.invokevirtual 98, 3) := by decide +kernel
set_option maxRecDepth 20000 in
theorem dX6_mean_28 : decode cX6_mean 28 = .ok (.lstore_n 3, 1) := by decide +kernel
set_option maxRecDepth 20000 in
theorem dX6_mean_29 : decode cX6_mean 29 = .ok (.aload_n 0, 1) := by decide +kernel
set_option maxRecDepth 20000 in
theorem dX6_mean_30 : decode cX6_mean 30 = .ok (.getfield 30, 3) := by decide +kernel
set_option maxRecDepth 20000 in
theorem dX6_mean_33 : decode cX6_mean 33 = .ok (.aload_n 0, 1) := by decide +kernel
set_option maxRecDepth 20000 in
theorem dX6_mean_34 : decode cX6_mean 34 = .ok (.getfield 102, 3) := by decide +kernel
set_option maxRecDepth 20000 in
theorem dX6_mean_37 : decode cX6_mean 37 = .ok (.invokevirtual 106, 3) := by decide +kernel
set_option maxRecDepth 20000 in
theorem dX6_mean_40 : decode cX6_mean 40 = .ok (.lstore 5, 2) := by decide +kernel
set_option maxRecDepth 20000 in
theorem dX6_mean_42 : decode cX6_mean 42 = .ok (.iload_n 2, 1) := by decide +kernel
set_option maxRecDepth 20000 in
theorem dX6_mean_43 : decode cX6_mean 43 = .ok (.ifCond .ne 7, 3) := by decide +kernel
set_option maxRecDepth 20000 in
theorem dX6_mean_46 : decode cX6_mean 46 = .ok (.lload_n 3, 1) := by decide +kernel
set_option maxRecDepth 20000 in
theorem dX6_mean_47 : decode cX6_mean 47 = .ok (.goto 5, 3) := by decide +kernel
set_option maxRecDepth 20000 in
theorem dX6_mean_50 : decode cX6_mean 50 = .ok (.lload 5, 2) := by decide +kernel
set_option maxRecDepth 20000 in
theorem dX6_mean_52 : decode cX6_mean 52 = .ok (.lload_n 3, 1) := by decide +kernel
set_option maxRecDepth 20000 in
theorem dX6_mean_53 : decode cX6_mean 53 = .ok (.lload 5, 2) := by decide +kernel
set_option maxRecDepth 20000 in
theorem dX6_mean_55 : decode cX6_mean 55 = .ok (.invokestatic 109, 3) := by decide +kernel
set_option maxRecDepth 20000 in
theorem dX6_mean_58 : decode cX6_mean 58 = .ok (.invokestatic 113, 3) := by decide +kernel
set_option maxRecDepth 20000 in
theorem dX6_mean_61 : decode cX6_mean 61 = .ok (.lreturn, 1) := by decide +kernel
set_option maxRecDepth 20000 in
theorem dX6_row_0 : decode cX6_row 0 = .ok (.iload_n 1, 1) := by decide +kernel
set_option maxRecDepth 20000 in
theorem dX6_row_1 : decode cX6_row 1 = .ok (.invokestatic 116, 3) := by decide +kernel
set_option maxRecDepth 20000 in
theorem dX6_row_4 : decode cX6_row 4 = .ok (.ifCond .eq 9, 3) := by decide +kernel
set_option maxRecDepth 20000 in
theorem dX6_row_7 : decode cX6_row 7 = .ok (.lload_n 3, 1) := by decide +kernel
set_option maxRecDepth 20000 in
theorem dX6_row_8 : decode cX6_row 8 = .ok (.lconst 0, 1) := by decide +kernel
set_option maxRecDepth 20000 in
theorem dX6_row_9 : decode cX6_row 9 = .ok (.lcmp, 1) := by decide +kernel
set_option maxRecDepth 20000 in
theorem dX6_row_10 : decode cX6_row 10 = .ok (.ifCond .ge 6, 3) := by decide +kernel
set_option maxRecDepth 20000 in
theorem dX6_row_13 : decode cX6_row 13 = .ok (.bipush (-2), 2) := by decide +kernel
set_option maxRecDepth 20000 in
theorem dX6_row_15 : decode cX6_row 15 = .ok (.ireturn, 1) := by decide +kernel
set_option maxRecDepth 20000 in
theorem dX6_row_16 : decode cX6_row 16 = .ok (.aload_n 0, 1) := by decide +kernel
set_option maxRecDepth 20000 in
theorem dX6_row_17 : decode cX6_row 17 = .ok (.getfield 39, 3) := by decide +kernel
set_option maxRecDepth 20000 in
theorem dX6_row_20 : decode cX6_row 20 = .ok (.iload_n 1, 1) := by decide +kernel
set_option maxRecDepth 20000 in
theorem dX6_row_21 : decode cX6_row 21 = .ok (.aload_n 0, 1) := by decide +kernel
set_option maxRecDepth 20000 in
theorem dX6_row_22 : decode cX6_row 22 = .ok (.getfield 102, 3) := by decide +kernel
set_option maxRecDepth 20000 in
theorem dX6_row_25 : decode cX6_row 25 = .ok (.iload_n 2, 1) := by decide +kernel
set_option maxRecDepth 20000 in
theorem dX6_row_26 : decode cX6_row 26 = .ok (.invokevirtual 119, 3) := by decide +kernel
set_option maxRecDepth 20000 in
theorem dX6_row_29 : decode cX6_row 29 = .ok (.lload_n 3, 1) := by decide +kernel
set_option maxRecDepth 20000 in
theorem dX6_row_30 : decode cX6_row 30 = .ok (.aload_n 0, 1) := by decide +kernel
set_option maxRecDepth 20000 in
theorem dX6_row_31 : decode cX6_row 31 = .ok (.getfield 39, 3) := by decide +kernel
set_option maxRecDepth 20000 in
theorem dX6_row_34 : decode cX6_row 34 = .ok (.invokevirtual 123, 3) := by decide +kernel
set_option maxRecDepth 20000 in
theorem dX6_row_37 : decode cX6_row 37 = .ok (.lcmp, 1) := by decide +kernel
set_option maxRecDepth 20000 in
theorem dX6_row_38 : decode cX6_row 38 = .ok (.ifCond .lt 5, 3) := by decide +kernel
set_option maxRecDepth 20000 in
theorem dX6_row_41 : decode cX6_row 41 = .ok (.iconst (-1), 1) := by decide +kernel
set_option maxRecDepth 20000 in
theorem dX6_row_42 : decode cX6_row 42 = .ok (.ireturn, 1) := by decide +kernel
set_option maxRecDepth 20000 in
theorem dX6_row_43 : decode cX6_row 43 = .ok (.aload_n 0, 1) := by decide +kernel
set_option maxRecDepth 20000 in
theorem dX6_row_44 : decode cX6_row 44 = .ok (.getfield 39, 3) := by decide +kernel
set_option maxRecDepth 20000 in
theorem dX6_row_47 : decode cX6_row 47 = .ok (.lload_n 3, 1) := by decide +kernel
set_option maxRecDepth 20000 in
theorem dX6_row_48 : decode cX6_row 48 = .ok (.aload_n 0, 1) := by decide +kernel
set_option maxRecDepth 20000 in
theorem dX6_row_49 : decode cX6_row 49 = .ok (.getfield 10, 3) := by decide +kernel
set_option maxRecDepth 20000 in
theorem dX6_row_52 : decode cX6_row 52 = .ok (.invokevirtual 126, 3) := by decide +kernel
set_option maxRecDepth 20000 in
theorem dX6_row_55 : decode cX6_row 55 = .ok (.iconst 1, 1) := by decide +kernel
set_option maxRecDepth 20000 in
theorem dX6_row_56 : decode cX6_row 56 = .ok (.ireturn, 1) := by decide +kernel
set_option maxRecDepth 20000 in
theorem dX6_place_0 : decode cX6_place 0 = .ok (.iload_n 1, 1) := by decide +kernel
set_option maxRecDepth 20000 in
theorem dX6_place_1 : decode cX6_place 1 = .ok (.invokestatic 116, 3) := by decide +kernel
set_option maxRecDepth 20000 in
theorem dX6_place_4 : decode cX6_place 4 = .ok (.ifCond .ne 7, 3) := by decide +kernel
set_option maxRecDepth 20000 in
theorem dX6_place_7 : decode cX6_place 7 = .ok (.ldc2_w 96, 3) := by decide +kernel
set_option maxRecDepth 20000 in
theorem dX6_place_10 : decode cX6_place 10 = .ok (.lreturn, 1) := by decide +kernel
set_option maxRecDepth 20000 in
theorem dX6_place_11 : decode cX6_place 11 = .ok (.aload_n 0, 1) := by decide +kernel
set_option maxRecDepth 20000 in
theorem dX6_place_12 : decode cX6_place 12 = .ok (.getfield 39, 3) := by decide +kernel
set_option maxRecDepth 20000 in
theorem dX6_place_15 : decode cX6_place 15 = .ok (.iload_n 1, 1) := by decide +kernel
set_option maxRecDepth 20000 in
theorem dX6_place_16 : decode cX6_place 16 = .ok (.aload_n 0, 1) := by decide +kernel
set_option maxRecDepth 20000 in
theorem dX6_place_17 : decode cX6_place 17 = .ok (.getfield 102, 3) := by decide +kernel
set_option maxRecDepth 20000 in
theorem dX6_place_20 : decode cX6_place 20 = .ok (.iload_n 1, 1) := by decide +kernel
set_option maxRecDepth 20000 in
theorem dX6_place_21 : decode cX6_place 21 = .ok (.iconst (-1), 1) := by decide +kernel
set_option maxRecDepth 20000 in
theorem dX6_place_22 : decode cX6_place 22 = .ok (.if_icmp .ne 7, 3) := by decide +kernel
set_option maxRecDepth 20000 in
theorem dX6_place_25 : decode cX6_place 25 = .ok (.iconst 0, 1) := by decide +kernel
set_option maxRecDepth 20000 in
theorem dX6_place_26 : decode cX6_place 26 = .ok (.goto 11, 3) := by decide +kernel
set_option maxRecDepth 20000 in
theorem dX6_place_29 : decode cX6_place 29 = .ok (.aload_n 0, 1) := by decide +kernel
set_option maxRecDepth 20000 in
theorem dX6_place_30 : decode cX6_place 30 = .ok (.getfield 10, 3) := by decide +kernel
set_option maxRecDepth 20000 in
theorem dX6_place_33 : decode cX6_place 33 = .ok (.iload_n 1, 1) := by decide +kernel
set_option maxRecDepth 20000 in
theorem dX6_place_34 : decode cX6_place 34 = .ok (.invokevirtual 85, 3) := by decide +kernel
set_option maxRecDepth 20000 in
theorem dX6_place_37 : decode cX6_place 37 = .ok (.invokevirtual 119, 3) := by decide +kernel
set_option maxRecDepth 20000 in
theorem dX6_place_40 : decode cX6_place 40 = .ok (.aload_n 0, 1) := by decide +kernel
set_option maxRecDepth 20000 in
theorem dX6_place_41 : decode cX6_place 41 = .ok (.getfield 39, 3) := by decide +kernel
set_option maxRecDepth 20000 in
theorem dX6_place_44 : decode cX6_place 44 = .ok (.aload_n 0, 1) := by decide +kernel
set_option maxRecDepth 20000 in
theorem dX6_place_45 : decode cX6_place 45 = .ok (.getfield 10, 3) := by decide +kernel
set_option maxRecDepth 20000 in
theorem dX6_place_48 : decode cX6_place 48 = .ok (.invokevirtual 130, 3) := by decide +kernel
set_option maxRecDepth 20000 in
theorem dX6_place_51 : decode cX6_place 51 = .ok (.lreturn, 1) := by decide +kernel
set_option maxRecDepth 20000 in
theorem dX6_toRounds_0 : decode cX6_toRounds 0 = .ok (.aload_n 0, 1) := by decide +kernel
set_option maxRecDepth 20000 in
theorem dX6_toRounds_1 : decode cX6_toRounds 1 = .ok (.getfield 10, 3) := by decide +kernel
set_option maxRecDepth 20000 in
theorem dX6_toRounds_4 : decode cX6_toRounds 4 = .ok (.invokevirtual 134, 3) := by decide +kernel
set_option maxRecDepth 20000 in
theorem dX6_toRounds_7 : decode cX6_toRounds 7 = .ok (.iconst 1, 1) := by decide +kernel
set_option maxRecDepth 20000 in
theorem dX6_toRounds_8 : decode cX6_toRounds 8 = .ok (.ireturn, 1) := by decide +kernel
set_option maxRecDepth 20000 in
theorem dX6_toRecords_0 : decode cX6_toRecords 0 = .ok (.aload_n 0, 1) := by decide +kernel
set_option maxRecDepth 20000 in
theorem dX6_toRecords_1 : decode cX6_toRecords 1 = .ok (.getfield 10, 3) := by decide +kernel
set_option maxRecDepth 20000 in
theorem dX6_toRecords_4 : decode cX6_toRecords 4 = .ok (.invokevirtual 137, 3) := by decide +kernel
set_option maxRecDepth 20000 in
theorem dX6_toRecords_7 : decode cX6_toRecords 7 = .ok (.iconst 1, 1) := by decide +kernel
set_option maxRecDepth 20000 in
theorem dX6_toRecords_8 : decode cX6_toRecords 8 = .ok (.ireturn, 1) := by decide +kernel
set_option maxRecDepth 20000 in
theorem dX6_opens_0 : decode cX6_opens 0 = .ok (.iload_n 1, 1) := by decide +kernel
set_option maxRecDepth 20000 in
theorem dX6_opens_1 : decode cX6_opens 1 = .ok (.iconst 1, 1) := by decide +kernel
set_option maxRecDepth 20000 in
theorem dX6_opens_2 : decode cX6_opens 2 = .ok (.if_icmp .lt 11, 3) := by decide +kernel
set_option maxRecDepth 20000 in
theorem dX6_opens_5 : decode cX6_opens 5 = .ok (.iload_n 1, 1) := by decide +kernel
set_option maxRecDepth 20000 in
theorem dX6_opens_6 : decode cX6_opens 6 = .ok (.aload_n 0, 1) := by decide +kernel
set_option maxRecDepth 20000 in
theorem dX6_opens_7 : decode cX6_opens 7 = .ok (.getfield 102, 3) := by decide +kernel
set_option maxRecDepth 20000 in
theorem dX6_opens_10 : decode cX6_opens 10 = .ok (.if_icmp .le 6, 3) := by decide +kernel
set_option maxRecDepth 20000 in
theorem dX6_opens_13 : decode cX6_opens 13 = .ok (.bipush (-2), 2) := by decide +kernel
set_option maxRecDepth 20000 in
theorem dX6_opens_15 : decode cX6_opens 15 = .ok (.ireturn, 1) := by decide +kernel
set_option maxRecDepth 20000 in
theorem dX6_opens_16 : decode cX6_opens 16 = .ok (.aload_n 0, 1) := by decide +kernel
set_option maxRecDepth 20000 in
theorem dX6_opens_17 : decode cX6_opens 17 = .ok (.getfield 140, 3) := by decide +kernel
set_option maxRecDepth 20000 in
theorem dX6_opens_20 : decode cX6_opens 20 = .ok (.istore_n 2, 1) := by decide +kernel
set_option maxRecDepth 20000 in
theorem dX6_opens_21 : decode cX6_opens 21 = .ok (.aload_n 0, 1) := by decide +kernel
set_option maxRecDepth 20000 in
theorem dX6_opens_22 : decode cX6_opens 22 = .ok (.iload_n 1, 1) := by decide +kernel
set_option maxRecDepth 20000 in
theorem dX6_opens_23 : decode cX6_opens 23 = .ok (.putfield 140, 3) := by decide +kernel
set_option maxRecDepth 20000 in
theorem dX6_opens_26 : decode cX6_opens 26 = .ok (.iload_n 2, 1) := by decide +kernel
set_option maxRecDepth 20000 in
theorem dX6_opens_27 : decode cX6_opens 27 = .ok (.ireturn, 1) := by decide +kernel
set_option maxRecDepth 20000 in
theorem dX6_list_0 : decode cX6_list 0 = .ok (.aload_n 0, 1) := by decide +kernel
set_option maxRecDepth 20000 in
theorem dX6_list_1 : decode cX6_list 1 = .ok (.iload_n 1, 1) := by decide +kernel
set_option maxRecDepth 20000 in
theorem dX6_list_2 : decode cX6_list 2 = .ok (.invokevirtual 57, 3) := by decide +kernel
set_option maxRecDepth 20000 in
theorem dX6_list_5 : decode cX6_list 5 = .ok (.ifCond .eq 11, 3) := by decide +kernel
set_option maxRecDepth 20000 in
theorem dX6_list_8 : decode cX6_list 8 = .ok (.aload_n 0, 1) := by decide +kernel
set_option maxRecDepth 20000 in
theorem dX6_list_9 : decode cX6_list 9 = .ok (.iload_n 2, 1) := by decide +kernel
set_option maxRecDepth 20000 in
theorem dX6_list_10 : decode cX6_list 10 = .ok (.invokevirtual 57, 3) := by decide +kernel
set_option maxRecDepth 20000 in
theorem dX6_list_13 : decode cX6_list 13 = .ok (.ifCond .ne 6, 3) := by decide +kernel
set_option maxRecDepth 20000 in
theorem dX6_list_16 : decode cX6_list 16 = .ok (.bipush (-2), 2) := by decide +kernel
set_option maxRecDepth 20000 in
theorem dX6_list_18 : decode cX6_list 18 = .ok (.ireturn, 1) := by decide +kernel
set_option maxRecDepth 20000 in
theorem dX6_list_19 : decode cX6_list 19 = .ok (.aload_n 0, 1) := by decide +kernel
set_option maxRecDepth 20000 in
theorem dX6_list_20 : decode cX6_list 20 = .ok (.getfield 23, 3) := by decide +kernel
set_option maxRecDepth 20000 in
theorem dX6_list_23 : decode cX6_list 23 = .ok (.iload_n 1, 1) := by decide +kernel
set_option maxRecDepth 20000 in
theorem dX6_list_24 : decode cX6_list 24 = .ok (.iload_n 2, 1) := by decide +kernel
set_option maxRecDepth 20000 in
theorem dX6_list_25 : decode cX6_list 25 = .ok (.invokevirtual 143, 3) := by decide +kernel
set_option maxRecDepth 20000 in
theorem dX6_list_28 : decode cX6_list 28 = .ok (.ifCond .eq 8, 3) := by decide +kernel
set_option maxRecDepth 20000 in
theorem dX6_list_31 : decode cX6_list 31 = .ok (.bipush (-4), 2) := by decide +kernel
set_option maxRecDepth 20000 in
theorem dX6_list_33 : decode cX6_list 33 = .ok (.goto 12, 3) := by decide +kernel
set_option maxRecDepth 20000 in
theorem dX6_list_36 : decode cX6_list 36 = .ok (.aload_n 0, 1) := by decide +kernel
set_option maxRecDepth 20000 in
theorem dX6_list_37 : decode cX6_list 37 = .ok (.getfield 23, 3) := by decide +kernel
set_option maxRecDepth 20000 in
theorem dX6_list_40 : decode cX6_list 40 = .ok (.iload_n 1, 1) := by decide +kernel
set_option maxRecDepth 20000 in
theorem dX6_list_41 : decode cX6_list 41 = .ok (.iload_n 2, 1) := by decide +kernel
set_option maxRecDepth 20000 in
theorem dX6_list_42 : decode cX6_list 42 = .ok (.invokevirtual 147, 3) := by decide +kernel
set_option maxRecDepth 20000 in
theorem dX6_list_45 : decode cX6_list 45 = .ok (.ireturn, 1) := by decide +kernel
set_option maxRecDepth 20000 in
theorem dX6_forget_0 : decode cX6_forget 0 = .ok (.aload_n 0, 1) := by decide +kernel
set_option maxRecDepth 20000 in
theorem dX6_forget_1 : decode cX6_forget 1 = .ok (.iload_n 1, 1) := by decide +kernel
set_option maxRecDepth 20000 in
theorem dX6_forget_2 : decode cX6_forget 2 = .ok (.invokevirtual 57, 3) := by decide +kernel
set_option maxRecDepth 20000 in
theorem dX6_forget_5 : decode cX6_forget 5 = .ok (.ifCond .eq 14, 3) := by decide +kernel
set_option maxRecDepth 20000 in
theorem dX6_forget_8 : decode cX6_forget 8 = .ok (.aload_n 0, 1) := by decide +kernel
set_option maxRecDepth 20000 in
theorem dX6_forget_9 : decode cX6_forget 9 = .ok (.getfield 23, 3) := by decide +kernel
set_option maxRecDepth 20000 in
theorem dX6_forget_12 : decode cX6_forget 12 = .ok (.iload_n 1, 1) := by decide +kernel
set_option maxRecDepth 20000 in
theorem dX6_forget_13 : decode cX6_forget 13 = .ok (.invokevirtual 151, 3) := by decide +kernel
set_option maxRecDepth 20000 in
theorem dX6_forget_16 : decode cX6_forget 16 = .ok (.goto 5, 3) := by decide +kernel
set_option maxRecDepth 20000 in
theorem dX6_forget_19 : decode cX6_forget 19 = .ok (.bipush (-2), 2) := by decide +kernel
set_option maxRecDepth 20000 in
theorem dX6_forget_21 : decode cX6_forget 21 = .ok (.ireturn, 1) := by decide +kernel
set_option maxRecDepth 20000 in
theorem dX6_wins_0 : decode cX6_wins 0 = .ok (.iload_n 1, 1) := by decide +kernel
set_option maxRecDepth 20000 in
theorem dX6_wins_1 : decode cX6_wins 1 = .ok (.invokestatic 154, 3) := by decide +kernel
set_option maxRecDepth 20000 in
theorem dX6_wins_4 : decode cX6_wins 4 = .ok (.ifCond .eq 11, 3) := by decide +kernel
set_option maxRecDepth 20000 in
theorem dX6_wins_7 : decode cX6_wins 7 = .ok (.aload_n 0, 1) := by decide +kernel
set_option maxRecDepth 20000 in
theorem dX6_wins_8 : decode cX6_wins 8 = .ok (.iload_n 2, 1) := by decide +kernel
set_option maxRecDepth 20000 in
theorem dX6_wins_9 : decode cX6_wins 9 = .ok (.invokevirtual 57, 3) := by decide +kernel
set_option maxRecDepth 20000 in
theorem dX6_wins_12 : decode cX6_wins 12 = .ok (.ifCond .ne 6, 3) := by decide +kernel
set_option maxRecDepth 20000 in
theorem dX6_wins_15 : decode cX6_wins 15 = .ok (.bipush (-2), 2) := by decide +kernel
set_option maxRecDepth 20000 in
theorem dX6_wins_17 : decode cX6_wins 17 = .ok (.ireturn, 1) := by decide +kernel
set_option maxRecDepth 20000 in
theorem dX6_wins_18 : decode cX6_wins 18 = .ok (.iload_n 1, 1) := by decide +kernel
set_option maxRecDepth 20000 in
theorem dX6_wins_19 : decode cX6_wins 19 = .ok (.ifCond .ne 26, 3) := by decide +kernel
set_option maxRecDepth 20000 in
theorem dX6_wins_22 : decode cX6_wins 22 = .ok (.aload_n 0, 1) := by decide +kernel
set_option maxRecDepth 20000 in
theorem dX6_wins_23 : decode cX6_wins 23 = .ok (.getfield 10, 3) := by decide +kernel
set_option maxRecDepth 20000 in
theorem dX6_wins_26 : decode cX6_wins 26 = .ok (.iload_n 2, 1) := by decide +kernel
set_option maxRecDepth 20000 in
theorem dX6_wins_27 : decode cX6_wins 27 = .ok (.invokevirtual 157, 3) := by decide +kernel
set_option maxRecDepth 20000 in
theorem dX6_wins_30 : decode cX6_wins 30 = .ok (.aload_n 0, 1) := by decide +kernel
set_option maxRecDepth 20000 in
theorem dX6_wins_31 : decode cX6_wins 31 = .ok (.getfield 140, 3) := by decide +kernel
set_option maxRecDepth 20000 in
theorem dX6_wins_34 : decode cX6_wins 34 = .ok (.if_icmp .gt 7, 3) := by decide +kernel
set_option maxRecDepth 20000 in
theorem dX6_wins_37 : decode cX6_wins 37 = .ok (.iconst 1, 1) := by decide +kernel
set_option maxRecDepth 20000 in
theorem dX6_wins_38 : decode cX6_wins 38 = .ok (.goto 23, 3) := by decide +kernel
set_option maxRecDepth 20000 in
theorem dX6_wins_41 : decode cX6_wins 41 = .ok (.iconst 0, 1) := by decide +kernel
set_option maxRecDepth 20000 in
theorem dX6_wins_42 : decode cX6_wins 42 = .ok (.goto 19, 3) := by decide +kernel
set_option maxRecDepth 20000 in
theorem dX6_wins_45 : decode cX6_wins 45 = .ok (.aload_n 0, 1) := by decide +kernel
set_option maxRecDepth 20000 in
theorem dX6_wins_46 : decode cX6_wins 46 = .ok (.getfield 23, 3) := by decide +kernel
set_option maxRecDepth 20000 in
theorem dX6_wins_49 : decode cX6_wins 49 = .ok (.iload_n 2, 1) := by decide +kernel
set_option maxRecDepth 20000 in
theorem dX6_wins_50 : decode cX6_wins 50 = .ok (.aload_n 0, 1) := by decide +kernel
set_option maxRecDepth 20000 in
theorem dX6_wins_51 : decode cX6_wins 51 = .ok (.getfield 140, 3) := by decide +kernel
set_option maxRecDepth 20000 in
theorem dX6_wins_54 : decode cX6_wins 54 = .ok (.aload_n 0, 1) := by decide +kernel
set_option maxRecDepth 20000 in
theorem dX6_wins_55 : decode cX6_wins 55 = .ok (.getfield 10, 3) := by decide +kernel
set_option maxRecDepth 20000 in
theorem dX6_wins_58 : decode cX6_wins 58 = .ok (.invokevirtual 160, 3) := by decide +kernel
set_option maxRecDepth 20000 in
theorem dX6_wins_61 : decode cX6_wins 61 = .ok (.istore_n 3, 1) := by decide +kernel
set_option maxRecDepth 20000 in
theorem dX6_wins_62 : decode cX6_wins 62 = .ok (.iload_n 3, 1) := by decide +kernel
set_option maxRecDepth 20000 in
theorem dX6_wins_63 : decode cX6_wins 63 = .ok (.ifCond .eq 7, 3) := by decide +kernel
set_option maxRecDepth 20000 in
theorem dX6_wins_66 : decode cX6_wins 66 = .ok (.iconst 1, 1) := by decide +kernel
set_option maxRecDepth 20000 in
theorem dX6_wins_67 : decode cX6_wins 67 = .ok (.goto 4, 3) := by decide +kernel
set_option maxRecDepth 20000 in
theorem dX6_wins_70 : decode cX6_wins 70 = .ok (.iconst 0, 1) := by decide +kernel
set_option maxRecDepth 20000 in
theorem dX6_wins_71 : decode cX6_wins 71 = .ok (.ireturn, 1) := by decide +kernel
set_option maxRecDepth 20000 in
theorem dX6_allWin_0 : decode cX6_allWin 0 = .ok (.iload_n 1, 1) := by decide +kernel
set_option maxRecDepth 20000 in
theorem dX6_allWin_1 : decode cX6_allWin 1 = .ok (.invokestatic 154, 3) := by decide +kernel
set_option maxRecDepth 20000 in
theorem dX6_allWin_4 : decode cX6_allWin 4 = .ok (.ifCond .ne 7, 3) := by decide +kernel
set_option maxRecDepth 20000 in
theorem dX6_allWin_7 : decode cX6_allWin 7 = .ok (.ldc2_w 96, 3) := by decide +kernel
set_option maxRecDepth 20000 in
theorem dX6_allWin_10 : decode cX6_allWin 10 = .ok (.lreturn, 1) := by decide +kernel
set_option maxRecDepth 20000 in
theorem dX6_allWin_11 : decode cX6_allWin 11 = .ok (.iload_n 1, 1) := by decide +kernel
set_option maxRecDepth 20000 in
theorem dX6_allWin_12 : decode cX6_allWin 12 = .ok (.ifCond .ne 19, 3) := by decide +kernel
set_option maxRecDepth 20000 in
theorem dX6_allWin_15 : decode cX6_allWin 15 = .ok (.aload_n 0, 1) := by decide +kernel
set_option maxRecDepth 20000 in
theorem dX6_allWin_16 : decode cX6_allWin 16 = .ok (.getfield 30, 3) := by decide +kernel
set_option maxRecDepth 20000 in
theorem dX6_allWin_19 : decode cX6_allWin 19 = .ok (.aload_n 0, 1) := by decide +kernel
set_option maxRecDepth 20000 in
theorem dX6_allWin_20 : decode cX6_allWin 20 = .ok (.getfield 140, 3) := by decide +kernel
set_option maxRecDepth 20000 in
theorem dX6_allWin_23 : decode cX6_allWin 23 = .ok (.aload_n 0, 1) := by decide +kernel
set_option maxRecDepth 20000 in
theorem dX6_allWin_24 : decode cX6_allWin 24 = .ok (.getfield 102, 3) := by decide +kernel
set_option maxRecDepth 20000 in
theorem dX6_allWin_27 : decode cX6_allWin 27 = .ok (.invokevirtual 164, 3) := by decide +kernel
set_option maxRecDepth 20000 in
theorem dX6_allWin_30 : decode cX6_allWin 30 = .ok (.lreturn, 1) := by decide +kernel
set_option maxRecDepth 20000 in
theorem dX6_allWin_31 : decode cX6_allWin 31 = .ok (.aload_n 0, 1) := by decide +kernel
set_option maxRecDepth 20000 in
theorem dX6_allWin_32 : decode cX6_allWin 32 = .ok (.getfield 102, 3) := by decide +kernel
set_option maxRecDepth 20000 in
theorem dX6_allWin_35 : decode cX6_allWin 35 = .ok (.bipush 7, 2) := by decide +kernel
set_option maxRecDepth 20000 in
theorem dX6_allWin_37 : decode cX6_allWin 37 = .ok (.if_icmp .le 9, 3) := by decide +kernel
set_option maxRecDepth 20000 in
theorem dX6_allWin_40 : decode cX6_allWin 40 = .ok (.ldc2_w 168, 3) := by decide +kernel
set_option maxRecDepth 20000 in
theorem dX6_allWin_43 : decode cX6_allWin 43 = .ok (.goto 18, 3) := by decide +kernel
set_option maxRecDepth 20000 in
theorem dX6_allWin_46 : decode cX6_allWin 46 = .ok (.aload_n 0, 1) := by decide +kernel
set_option maxRecDepth 20000 in
theorem dX6_allWin_47 : decode cX6_allWin 47 = .ok (.getfield 23, 3) := by decide +kernel
set_option maxRecDepth 20000 in
theorem dX6_allWin_50 : decode cX6_allWin 50 = .ok (.aload_n 0, 1) := by decide +kernel
set_option maxRecDepth 20000 in
theorem dX6_allWin_51 : decode cX6_allWin 51 = .ok (.getfield 102, 3) := by decide +kernel
set_option maxRecDepth 20000 in
theorem dX6_allWin_54 : decode cX6_allWin 54 = .ok (.aload_n 0, 1) := by decide +kernel
set_option maxRecDepth 20000 in
theorem dX6_allWin_55 : decode cX6_allWin 55 = .ok (.getfield 140, 3) := by decide +kernel
set_option maxRecDepth 20000 in
theorem dX6_allWin_58 : decode cX6_allWin 58 = .ok (.invokevirtual 170, 3) := by decide +kernel
set_option maxRecDepth 20000 in
theorem dX6_allWin_61 : decode cX6_allWin 61 = .ok (.lreturn, 1) := by decide +kernel
set_option maxRecDepth 20000 in
theorem dX6_count_0 : decode cX6_count 0 = .ok (.iload_n 1, 1) := by decide +kernel
set_option maxRecDepth 20000 in
theorem dX6_count_1 : decode cX6_count 1 = .ok (.tableswitch 45 0 2 #[27, 32, 37], 27) := by decide +kernel
set_option maxRecDepth 20000 in
theorem dX6_count_28 : decode cX6_count 28 = .ok (.aload_n 0, 1) := by decide +kernel
set_option maxRecDepth 20000 in
theorem dX6_count_29 : decode cX6_count 29 = .ok (.getfield 102, 3) := by decide +kernel
set_option maxRecDepth 20000 in
theorem dX6_count_32 : decode cX6_count 32 = .ok (.ireturn, 1) := by decide +kernel
set_option maxRecDepth 20000 in
theorem dX6_count_33 : decode cX6_count 33 = .ok (.aload_n 0, 1) := by decide +kernel
set_option maxRecDepth 20000 in
theorem dX6_count_34 : decode cX6_count 34 = .ok (.getfield 140, 3) := by decide +kernel
set_option maxRecDepth 20000 in
theorem dX6_count_37 : decode cX6_count 37 = .ok (.ireturn, 1) := by decide +kernel
set_option maxRecDepth 20000 in
theorem dX6_count_38 : decode cX6_count 38 = .ok (.aload_n 0, 1) := by decide +kernel
set_option maxRecDepth 20000 in
theorem dX6_count_39 : decode cX6_count 39 = .ok (.getfield 23, 3) := by decide +kernel
set_option maxRecDepth 20000 in
theorem dX6_count_42 : decode cX6_count 42 = .ok (.invokevirtual 173, 3) := by decide +kernel
set_option maxRecDepth 20000 in
theorem dX6_count_45 : decode cX6_count 45 = .ok (.ireturn, 1) := by decide +kernel
set_option maxRecDepth 20000 in
theorem dX6_count_46 : decode cX6_count 46 = .ok (.bipush (-2), 2) := by decide +kernel
set_option maxRecDepth 20000 in
theorem dX6_count_48 : decode cX6_count 48 = .ok (.ireturn, 1) := by decide +kernel
set_option maxRecDepth 20000 in
theorem dX6_startWith_0 : decode cX6_startWith 0 = .ok (.aload_n 0, 1) := by decide +kernel
set_option maxRecDepth 20000 in
theorem dX6_startWith_1 : decode cX6_startWith 1 = .ok (.iload_n 1, 1) := by decide +kernel
set_option maxRecDepth 20000 in
theorem dX6_startWith_2 : decode cX6_startWith 2 = .ok (.putfield 102, 3) := by decide +kernel
set_option maxRecDepth 20000 in
theorem dX6_startWith_5 : decode cX6_startWith 5 = .ok (.aload_n 0, 1) := by decide +kernel
set_option maxRecDepth 20000 in
theorem dX6_startWith_6 : decode cX6_startWith 6 = .ok (.iconst 2, 1) := by decide +kernel
set_option maxRecDepth 20000 in
theorem dX6_startWith_7 : decode cX6_startWith 7 = .ok (.iload_n 1, 1) := by decide +kernel
set_option maxRecDepth 20000 in
theorem dX6_startWith_8 : decode cX6_startWith 8 = .ok (.invokestatic 177, 3) := by decide +kernel
set_option maxRecDepth 20000 in
theorem dX6_startWith_11 : decode cX6_startWith 11 = .ok (.putfield 140, 3) := by decide +kernel
set_option maxRecDepth 20000 in
theorem dX6_startWith_14 : decode cX6_startWith 14 = .ok (.aload_n 0, 1) := by decide +kernel
set_option maxRecDepth 20000 in
theorem dX6_startWith_15 : decode cX6_startWith 15 = .ok (.getfield 10, 3) := by decide +kernel
set_option maxRecDepth 20000 in
theorem dX6_startWith_18 : decode cX6_startWith 18 = .ok (.iload_n 1, 1) := by decide +kernel
set_option maxRecDepth 20000 in
theorem dX6_startWith_19 : decode cX6_startWith 19 = .ok (.invokevirtual 182, 3) := by decide +kernel
set_option maxRecDepth 20000 in
theorem dX6_startWith_22 : decode cX6_startWith 22 = .ok (.iconst 0, 1) := by decide +kernel
set_option maxRecDepth 20000 in
theorem dX6_startWith_23 : decode cX6_startWith 23 = .ok (.istore_n 2, 1) := by decide +kernel
set_option maxRecDepth 20000 in
theorem dX6_startWith_24 : decode cX6_startWith 24 = .ok (.iload_n 2, 1) := by decide +kernel
set_option maxRecDepth 20000 in
theorem dX6_startWith_25 : decode cX6_startWith 25 = .ok (.iconst 4, 1) := by decide +kernel
set_option maxRecDepth 20000 in
theorem dX6_startWith_26 : decode cX6_startWith 26 = .ok (.if_icmp .ge 19, 3) := by decide +kernel
set_option maxRecDepth 20000 in
theorem dX6_startWith_29 : decode cX6_startWith 29 = .ok (.aload_n 0, 1) := by decide +kernel
set_option maxRecDepth 20000 in
theorem dX6_startWith_30 : decode cX6_startWith 30 = .ok (.getfield 16, 3) := by decide +kernel
set_option maxRecDepth 20000 in
theorem dX6_startWith_33 : decode cX6_startWith 33 = .ok (.iload_n 2, 1) := by decide +kernel
set_option maxRecDepth 20000 in
theorem dX6_startWith_34 : decode cX6_startWith 34 = .ok (.aaload, 1) := by decide +kernel
set_option maxRecDepth 20000 in
theorem dX6_startWith_35 : decode cX6_startWith 35 = .ok (.iload_n 1, 1) := by decide +kernel
set_option maxRecDepth 20000 in
theorem dX6_startWith_36 : decode cX6_startWith 36 = .ok (.invokevirtual 182, 3) := by decide +kernel
set_option maxRecDepth 20000 in
theorem dX6_startWith_39 : decode cX6_startWith 39 = .ok (.iinc 2 1, 3) := by decide +kernel
set_option maxRecDepth 20000 in
theorem dX6_startWith_42 : decode cX6_startWith 42 = .ok (.goto (-18), 3) := by decide +kernel
set_option maxRecDepth 20000 in
theorem dX6_startWith_45 : decode cX6_startWith 45 = .ok (.aload_n 0, 1) := by decide +kernel
set_option maxRecDepth 20000 in
theorem dX6_startWith_46 : decode cX6_startWith 46 = .ok (.getfield 23, 3) := by decide +kernel
set_option maxRecDepth 20000 in
theorem dX6_startWith_49 : decode cX6_startWith 49 = .ok (.invokevirtual 183, 3) := by decide +kernel
set_option maxRecDepth 20000 in
theorem dX6_startWith_52 : decode cX6_startWith 52 = .ok (.return_, 1) := by decide +kernel
set_option maxRecDepth 20000 in
theorem dX6_isThing_0 : decode cX6_isThing 0 = .ok (.iload_n 1, 1) := by decide +kernel
set_option maxRecDepth 20000 in
theorem dX6_isThing_1 : decode cX6_isThing 1 = .ok (.ifCond .lt 15, 3) := by decide +kernel
set_option maxRecDepth 20000 in
theorem dX6_isThing_4 : decode cX6_isThing 4 = .ok (.iload_n 1, 1) := by decide +kernel
set_option maxRecDepth 20000 in
theorem dX6_isThing_5 : decode cX6_isThing 5 = .ok (.aload_n 0, 1) := by decide +kernel
set_option maxRecDepth 20000 in
theorem dX6_isThing_6 : decode cX6_isThing 6 = .ok (.getfield 102, 3) := by decide +kernel
set_option maxRecDepth 20000 in
theorem dX6_isThing_9 : decode cX6_isThing 9 = .ok (.if_icmp .ge 7, 3) := by decide +kernel
set_option maxRecDepth 20000 in
theorem dX6_isThing_12 : decode cX6_isThing 12 = .ok (.iconst 1, 1) := by decide +kernel
set_option maxRecDepth 20000 in
theorem dX6_isThing_13 : decode cX6_isThing 13 = .ok (.goto 4, 3) := by decide +kernel
set_option maxRecDepth 20000 in
theorem dX6_isThing_16 : decode cX6_isThing 16 = .ok (.iconst 0, 1) := by decide +kernel
set_option maxRecDepth 20000 in
theorem dX6_isThing_17 : decode cX6_isThing 17 = .ok (.ireturn, 1) := by decide +kernel
set_option maxRecDepth 20000 in
theorem dX6_isPlace_0 : decode cX6_isPlace 0 = .ok (.iload_n 0, 1) := by decide +kernel
set_option maxRecDepth 20000 in
theorem dX6_isPlace_1 : decode cX6_isPlace 1 = .ok (.ifCond .lt 12, 3) := by decide +kernel
set_option maxRecDepth 20000 in
theorem dX6_isPlace_4 : decode cX6_isPlace 4 = .ok (.iload_n 0, 1) := by decide +kernel
set_option maxRecDepth 20000 in
theorem dX6_isPlace_5 : decode cX6_isPlace 5 = .ok (.iconst 4, 1) := by decide +kernel
set_option maxRecDepth 20000 in
theorem dX6_isPlace_6 : decode cX6_isPlace 6 = .ok (.if_icmp .ge 7, 3) := by decide +kernel
set_option maxRecDepth 20000 in
theorem dX6_isPlace_9 : decode cX6_isPlace 9 = .ok (.iconst 1, 1) := by decide +kernel
set_option maxRecDepth 20000 in
theorem dX6_isPlace_10 : decode cX6_isPlace 10 = .ok (.goto 4, 3) := by decide +kernel
set_option maxRecDepth 20000 in
theorem dX6_isPlace_13 : decode cX6_isPlace 13 = .ok (.iconst 0, 1) := by decide +kernel
set_option maxRecDepth 20000 in
theorem dX6_isPlace_14 : decode cX6_isPlace 14 = .ok (.ireturn, 1) := by decide +kernel
set_option maxRecDepth 20000 in
theorem dX6_isKind_0 : decode cX6_isKind 0 = .ok (.iload_n 0, 1) := by decide +kernel
set_option maxRecDepth 20000 in
theorem dX6_isKind_1 : decode cX6_isKind 1 = .ok (.ifCond .lt 13, 3) := by decide +kernel
set_option maxRecDepth 20000 in
theorem dX6_isKind_4 : decode cX6_isKind 4 = .ok (.iload_n 0, 1) := by decide +kernel
set_option maxRecDepth 20000 in
theorem dX6_isKind_5 : decode cX6_isKind 5 = .ok (.bipush 8, 2) := by decide +kernel
set_option maxRecDepth 20000 in
theorem dX6_isKind_7 : decode cX6_isKind 7 = .ok (.if_icmp .ge 7, 3) := by decide +kernel
set_option maxRecDepth 20000 in
theorem dX6_isKind_10 : decode cX6_isKind 10 = .ok (.iconst 1, 1) := by decide +kernel
set_option maxRecDepth 20000 in
theorem dX6_isKind_11 : decode cX6_isKind 11 = .ok (.goto 4, 3) := by decide +kernel
set_option maxRecDepth 20000 in
theorem dX6_isKind_14 : decode cX6_isKind 14 = .ok (.iconst 0, 1) := by decide +kernel
set_option maxRecDepth 20000 in
theorem dX6_isKind_15 : decode cX6_isKind 15 = .ok (.ireturn, 1) := by decide +kernel
set_option maxRecDepth 20000 in
theorem dX6_isRowKind_0 : decode cX6_isRowKind 0 = .ok (.iload_n 0, 1) := by decide +kernel
set_option maxRecDepth 20000 in
theorem dX6_isRowKind_1 : decode cX6_isRowKind 1 = .ok (.iconst (-1), 1) := by decide +kernel
set_option maxRecDepth 20000 in
theorem dX6_isRowKind_2 : decode cX6_isRowKind 2 = .ok (.if_icmp .eq 13, 3) := by decide +kernel
set_option maxRecDepth 20000 in
theorem dX6_isRowKind_5 : decode cX6_isRowKind 5 = .ok (.iload_n 0, 1) := by decide +kernel
set_option maxRecDepth 20000 in
theorem dX6_isRowKind_6 : decode cX6_isRowKind 6 = .ok (.iconst 1, 1) := by decide +kernel
set_option maxRecDepth 20000 in
theorem dX6_isRowKind_7 : decode cX6_isRowKind 7 = .ok (.if_icmp .eq 8, 3) := by decide +kernel
set_option maxRecDepth 20000 in
theorem dX6_isRowKind_10 : decode cX6_isRowKind 10 = .ok (.iload_n 0, 1) := by decide +kernel
set_option maxRecDepth 20000 in
theorem dX6_isRowKind_11 : decode cX6_isRowKind 11 = .ok (.iconst 2, 1) := by decide +kernel
set_option maxRecDepth 20000 in
theorem dX6_isRowKind_12 : decode cX6_isRowKind 12 = .ok (.if_icmp .ne 7, 3) := by decide +kernel
set_option maxRecDepth 20000 in
theorem dX6_isRowKind_15 : decode cX6_isRowKind 15 = .ok (.iconst 1, 1) := by decide +kernel
set_option maxRecDepth 20000 in
theorem dX6_isRowKind_16 : decode cX6_isRowKind 16 = .ok (.goto 4, 3) := by decide +kernel
set_option maxRecDepth 20000 in
theorem dX6_isRowKind_19 : decode cX6_isRowKind 19 = .ok (.iconst 0, 1) := by decide +kernel
set_option maxRecDepth 20000 in
theorem dX6_isRowKind_20 : decode cX6_isRowKind 20 = .ok (.ireturn, 1) := by decide +kernel
set_option maxRecDepth 20000 in
theorem dX6_isWay_0 : decode cX6_isWay 0 = .ok (.iload_n 0, 1) := by decide +kernel
set_option maxRecDepth 20000 in
theorem dX6_isWay_1 : decode cX6_isWay 1 = .ok (.ifCond .eq 8, 3) := by decide +kernel
set_option maxRecDepth 20000 in
theorem dX6_isWay_4 : decode cX6_isWay 4 = .ok (.iload_n 0, 1) := by decide +kernel
set_option maxRecDepth 20000 in
theorem dX6_isWay_5 : decode cX6_isWay 5 = .ok (.iconst 1, 1) := by decide +kernel
set_option maxRecDepth 20000 in
theorem dX6_isWay_6 : decode cX6_isWay 6 = .ok (.if_icmp .ne 7, 3) := by decide +kernel
set_option maxRecDepth 20000 in
theorem dX6_isWay_9 : decode cX6_isWay 9 = .ok (.iconst 1, 1) := by decide +kernel
set_option maxRecDepth 20000 in
theorem dX6_isWay_10 : decode cX6_isWay 10 = .ok (.goto 4, 3) := by decide +kernel
set_option maxRecDepth 20000 in
theorem dX6_isWay_13 : decode cX6_isWay 13 = .ok (.iconst 0, 1) := by decide +kernel
set_option maxRecDepth 20000 in
theorem dX6_isWay_14 : decode cX6_isWay 14 = .ok (.ireturn, 1) := by decide +kernel
set_option maxRecDepth 20000 in
theorem dX6_tallyOf_0 : decode cX6_tallyOf 0 = .ok (.iload_n 1, 1) := by decide +kernel
set_option maxRecDepth 20000 in
theorem dX6_tallyOf_1 : decode cX6_tallyOf 1 = .ok (.bipush 19, 2) := by decide +kernel
set_option maxRecDepth 20000 in
theorem dX6_tallyOf_3 : decode cX6_tallyOf 3 = .ok (.imul, 1) := by decide +kernel
set_option maxRecDepth 20000 in
theorem dX6_tallyOf_4 : decode cX6_tallyOf 4 = .ok (.aload_n 0, 1) := by decide +kernel
set_option maxRecDepth 20000 in
theorem dX6_tallyOf_5 : decode cX6_tallyOf 5 = .ok (.getfield 102, 3) := by decide +kernel
set_option maxRecDepth 20000 in
theorem dX6_tallyOf_8 : decode cX6_tallyOf 8 = .ok (.iadd, 1) := by decide +kernel
set_option maxRecDepth 20000 in
theorem dX6_tallyOf_9 : decode cX6_tallyOf 9 = .ok (.istore_n 2, 1) := by decide +kernel
set_option maxRecDepth 20000 in
theorem dX6_tallyOf_10 : decode cX6_tallyOf 10 = .ok (.aload_n 0, 1) := by decide +kernel
set_option maxRecDepth 20000 in
theorem dX6_tallyOf_11 : decode cX6_tallyOf 11 = .ok (.getfield 45, 3) := by decide +kernel
set_option maxRecDepth 20000 in
theorem dX6_tallyOf_14 : decode cX6_tallyOf 14 = .ok (.iload_n 2, 1) := by decide +kernel
set_option maxRecDepth 20000 in
theorem dX6_tallyOf_15 : decode cX6_tallyOf 15 = .ok (.aaload, 1) := by decide +kernel
set_option maxRecDepth 20000 in
theorem dX6_tallyOf_16 : decode cX6_tallyOf 16 = .ok (.ifnonnull 25, 3) := by decide +kernel
set_option maxRecDepth 20000 in
theorem dX6_tallyOf_19 : decode cX6_tallyOf 19 = .ok (.aload_n 0, 1) := by decide +kernel
set_option maxRecDepth 20000 in
theorem dX6_tallyOf_20 : decode cX6_tallyOf 20 = .ok (.getfield 45, 3) := by decide +kernel
set_option maxRecDepth 20000 in
theorem dX6_tallyOf_23 : decode cX6_tallyOf 23 = .ok (.iload_n 2, 1) := by decide +kernel
set_option maxRecDepth 20000 in
theorem dX6_tallyOf_24 : decode cX6_tallyOf 24 = .ok (.new 43, 3) := by decide +kernel
set_option maxRecDepth 20000 in
theorem dX6_tallyOf_27 : decode cX6_tallyOf 27 = .ok (.dup, 1) := by decide +kernel
set_option maxRecDepth 20000 in
theorem dX6_tallyOf_28 : decode cX6_tallyOf 28 = .ok (.iload_n 1, 1) := by decide +kernel
set_option maxRecDepth 20000 in
theorem dX6_tallyOf_29 : decode cX6_tallyOf 29 = .ok (.aload_n 0, 1) := by decide +kernel
set_option maxRecDepth 20000 in
theorem dX6_tallyOf_30 : decode cX6_tallyOf 30 = .ok (.getfield 102, 3) := by decide +kernel
set_option maxRecDepth 20000 in
theorem dX6_tallyOf_33 : decode cX6_tallyOf 33 = .ok (.aload_n 0, 1) := by decide +kernel
set_option maxRecDepth 20000 in
theorem dX6_tallyOf_34 : decode cX6_tallyOf 34 = .ok (.getfield 30, 3) := by decide +kernel
set_option maxRecDepth 20000 in
theorem dX6_tallyOf_37 : decode cX6_tallyOf 37 = .ok (.invokespecial 186, 3) := by decide +kernel
set_option maxRecDepth 20000 in
theorem dX6_tallyOf_40 : decode cX6_tallyOf 40 = .ok (.aastore, 1) := by decide +kernel
set_option maxRecDepth 20000 in
theorem dX6_tallyOf_41 : decode cX6_tallyOf 41 = .ok (.aload_n 0, 1) := by decide +kernel
set_option maxRecDepth 20000 in
theorem dX6_tallyOf_42 : decode cX6_tallyOf 42 = .ok (.getfield 45, 3) := by decide +kernel
set_option maxRecDepth 20000 in
theorem dX6_tallyOf_45 : decode cX6_tallyOf 45 = .ok (.iload_n 2, 1) := by decide +kernel
set_option maxRecDepth 20000 in
theorem dX6_tallyOf_46 : decode cX6_tallyOf 46 = .ok (.aaload, 1) := by decide +kernel
set_option maxRecDepth 20000 in
theorem dX6_tallyOf_47 : decode cX6_tallyOf 47 = .ok (.areturn, 1) := by decide +kernel
set_option maxRecDepth 20000 in
theorem dX6_commonDivisor_0 : decode cX6_commonDivisor 0 = .ok (.lload_n 0, 1) := by decide +kernel
set_option maxRecDepth 20000 in
theorem dX6_commonDivisor_1 : decode cX6_commonDivisor 1 = .ok (.lstore 4, 2) := by decide +kernel
set_option maxRecDepth 20000 in
theorem dX6_commonDivisor_3 : decode cX6_commonDivisor 3 = .ok (.lload_n 2, 1) := by decide +kernel
set_option maxRecDepth 20000 in
theorem dX6_commonDivisor_4 : decode cX6_commonDivisor 4 = .ok (.lstore 6, 2) := by decide +kernel
set_option maxRecDepth 20000 in
theorem dX6_commonDivisor_6 : decode cX6_commonDivisor 6 = .ok (.iconst 0, 1) := by decide +kernel
set_option maxRecDepth 20000 in
theorem dX6_commonDivisor_7 : decode cX6_commonDivisor 7 = .ok (.istore 8, 2) := by decide +kernel
set_option maxRecDepth 20000 in
theorem dX6_commonDivisor_9 : decode cX6_commonDivisor 9 = .ok (.iload 8, 2) := by decide +kernel
set_option maxRecDepth 20000 in
theorem dX6_commonDivisor_11 : decode cX6_commonDivisor 11 = .ok (.bipush 100, 2) := by decide +kernel
set_option maxRecDepth 20000 in
theorem dX6_commonDivisor_13 : decode cX6_commonDivisor 13 = .ok (.if_icmp .ge 31, 3) := by decide +kernel
set_option maxRecDepth 20000 in
theorem dX6_commonDivisor_16 : decode cX6_commonDivisor 16 = .ok (.lload 6, 2) := by decide +kernel
set_option maxRecDepth 20000 in
theorem dX6_commonDivisor_18 : decode cX6_commonDivisor 18 = .ok (.lconst 0, 1) := by decide +kernel
set_option maxRecDepth 20000 in
theorem dX6_commonDivisor_19 : decode cX6_commonDivisor 19 = .ok (.lcmp, 1) := by decide +kernel
set_option maxRecDepth 20000 in
theorem dX6_commonDivisor_20 : decode cX6_commonDivisor 20 = .ok (.ifCond .eq 24, 3) := by decide +kernel
set_option maxRecDepth 20000 in
theorem dX6_commonDivisor_23 : decode cX6_commonDivisor 23 = .ok (.lload 4, 2) := by decide +kernel
set_option maxRecDepth 20000 in
theorem dX6_commonDivisor_25 : decode cX6_commonDivisor 25 = .ok (.lload 6, 2) := by decide +kernel
set_option maxRecDepth 20000 in
theorem dX6_commonDivisor_27 : decode cX6_commonDivisor 27 = .ok (.lrem, 1) := by decide +kernel
set_option maxRecDepth 20000 in
theorem dX6_commonDivisor_28 : decode cX6_commonDivisor 28 = .ok (.lstore 9, 2) := by decide +kernel
set_option maxRecDepth 20000 in
theorem dX6_commonDivisor_30 : decode cX6_commonDivisor 30 = .ok (.lload 6, 2) := by decide +kernel
set_option maxRecDepth 20000 in
theorem dX6_commonDivisor_32 : decode cX6_commonDivisor 32 = .ok (.lstore 4, 2) := by decide +kernel
set_option maxRecDepth 20000 in
theorem dX6_commonDivisor_34 : decode cX6_commonDivisor 34 = .ok (.lload 9, 2) := by decide +kernel
set_option maxRecDepth 20000 in
theorem dX6_commonDivisor_36 : decode cX6_commonDivisor 36 = .ok (.lstore 6, 2) := by decide +kernel
set_option maxRecDepth 20000 in
theorem dX6_commonDivisor_38 : decode cX6_commonDivisor 38 = .ok (.iinc 8 1, 3) := by decide +kernel
set_option maxRecDepth 20000 in
theorem dX6_commonDivisor_41 : decode cX6_commonDivisor 41 = .ok (.goto (-32), 3) := by decide +kernel
set_option maxRecDepth 20000 in
theorem dX6_commonDivisor_44 : decode cX6_commonDivisor 44 = .ok (.lload 4, 2) := by decide +kernel
set_option maxRecDepth 20000 in
theorem dX6_commonDivisor_46 : decode cX6_commonDivisor 46 = .ok (.lreturn, 1) := by decide +kernel
set_option maxRecDepth 20000 in
theorem dX6_commonMultiple_0 : decode cX6_commonMultiple 0 = .ok (.iload_n 0, 1) := by decide +kernel
set_option maxRecDepth 20000 in
theorem dX6_commonMultiple_1 : decode cX6_commonMultiple 1 = .ok (.i2l, 1) := by decide +kernel
set_option maxRecDepth 20000 in
theorem dX6_commonMultiple_2 : decode cX6_commonMultiple 2 = .ok (.iload_n 1, 1) := by decide +kernel
set_option maxRecDepth 20000 in
theorem dX6_commonMultiple_3 : decode cX6_commonMultiple 3 = .ok (.i2l, 1) := by decide +kernel
set_option maxRecDepth 20000 in
theorem dX6_commonMultiple_4 : decode cX6_commonMultiple 4 = .ok (.lmul, 1) := by decide +kernel
set_option maxRecDepth 20000 in
theorem dX6_commonMultiple_5 : decode cX6_commonMultiple 5 = .ok (.iload_n 0, 1) := by decide +kernel
set_option maxRecDepth 20000 in
theorem dX6_commonMultiple_6 : decode cX6_commonMultiple 6 = .ok (.i2l, 1) := by decide +kernel
set_option maxRecDepth 20000 in
theorem dX6_commonMultiple_7 : decode cX6_commonMultiple 7 = .ok (.iload_n 1, 1) := by decide +kernel
set_option maxRecDepth 20000 in
theorem dX6_commonMultiple_8 : decode cX6_commonMultiple 8 = .ok (.i2l, 1) := by decide +kernel
set_option maxRecDepth 20000 in
theorem dX6_commonMultiple_9 : decode cX6_commonMultiple 9 = .ok (.invokestatic 109, 3) := by decide +kernel
set_option maxRecDepth 20000 in
theorem dX6_commonMultiple_12 : decode cX6_commonMultiple 12 = .ok (.invokestatic 113, 3) := by decide +kernel
set_option maxRecDepth 20000 in
theorem dX6_commonMultiple_15 : decode cX6_commonMultiple 15 = .ok (.l2i, 1) := by decide +kernel
set_option maxRecDepth 20000 in
theorem dX6_commonMultiple_16 : decode cX6_commonMultiple 16 = .ok (.ireturn, 1) := by decide +kernel
set_option maxRecDepth 20000 in
theorem dX6_quotient_0 : decode cX6_quotient 0 = .ok (.lload_n 2, 1) := by decide +kernel
set_option maxRecDepth 20000 in
theorem dX6_quotient_1 : decode cX6_quotient 1 = .ok (.lconst 0, 1) := by decide +kernel
set_option maxRecDepth 20000 in
theorem dX6_quotient_2 : decode cX6_quotient 2 = .ok (.lcmp, 1) := by decide +kernel
set_option maxRecDepth 20000 in
theorem dX6_quotient_3 : decode cX6_quotient 3 = .ok (.ifCond .ne 7, 3) := by decide +kernel
set_option maxRecDepth 20000 in
theorem dX6_quotient_6 : decode cX6_quotient 6 = .ok (.lconst 0, 1) := by decide +kernel
set_option maxRecDepth 20000 in
theorem dX6_quotient_7 : decode cX6_quotient 7 = .ok (.goto 6, 3) := by decide +kernel
set_option maxRecDepth 20000 in
theorem dX6_quotient_10 : decode cX6_quotient 10 = .ok (.lload_n 0, 1) := by decide +kernel
set_option maxRecDepth 20000 in
theorem dX6_quotient_11 : decode cX6_quotient 11 = .ok (.lload_n 2, 1) := by decide +kernel
set_option maxRecDepth 20000 in
theorem dX6_quotient_12 : decode cX6_quotient 12 = .ok (.ldiv, 1) := by decide +kernel
set_option maxRecDepth 20000 in
theorem dX6_quotient_13 : decode cX6_quotient 13 = .ok (.lreturn, 1) := by decide +kernel
set_option maxRecDepth 20000 in
theorem dX6_entry_0 : decode cX6_entry 0 = .ok (.iload_n 1, 1) := by decide +kernel
set_option maxRecDepth 20000 in
theorem dX6_entry_1 : decode cX6_entry 1 = .ok (.ifCond .lt 15, 3) := by decide +kernel
set_option maxRecDepth 20000 in
theorem dX6_entry_4 : decode cX6_entry 4 = .ok (.iload_n 1, 1) := by decide +kernel
set_option maxRecDepth 20000 in
theorem dX6_entry_5 : decode cX6_entry 5 = .ok (.aload_n 0, 1) := by decide +kernel
set_option maxRecDepth 20000 in
theorem dX6_entry_6 : decode cX6_entry 6 = .ok (.arraylength, 1) := by decide +kernel
set_option maxRecDepth 20000 in
theorem dX6_entry_7 : decode cX6_entry 7 = .ok (.if_icmp .ge 9, 3) := by decide +kernel
set_option maxRecDepth 20000 in
theorem dX6_entry_10 : decode cX6_entry 10 = .ok (.aload_n 0, 1) := by decide +kernel
set_option maxRecDepth 20000 in
theorem dX6_entry_11 : decode cX6_entry 11 = .ok (.iload_n 1, 1) := by decide +kernel
set_option maxRecDepth 20000 in
theorem dX6_entry_12 : decode cX6_entry 12 = .ok (.laload, 1) := by decide +kernel
set_option maxRecDepth 20000 in
theorem dX6_entry_13 : decode cX6_entry 13 = .ok (.goto 4, 3) := by decide +kernel
set_option maxRecDepth 20000 in
theorem dX6_entry_16 : decode cX6_entry 16 = .ok (.lconst 0, 1) := by decide +kernel
set_option maxRecDepth 20000 in
theorem dX6_entry_17 : decode cX6_entry 17 = .ok (.lreturn, 1) := by decide +kernel
set_option maxRecDepth 20000 in
theorem dJ6_bitCount_0f7a4_0 : decode cJ6_bitCount_0f7a4 0 = .ok (.iload_n 0, 1) := by decide +kernel
set_option maxRecDepth 20000 in
theorem dJ6_bitCount_0f7a4_1 : decode cJ6_bitCount_0f7a4 1 = .ok (.iload_n 0, 1) := by decide +kernel
set_option maxRecDepth 20000 in
theorem dJ6_bitCount_0f7a4_2 : decode cJ6_bitCount_0f7a4 2 = .ok (.iconst 1, 1) := by decide +kernel
set_option maxRecDepth 20000 in
theorem dJ6_bitCount_0f7a4_3 : decode cJ6_bitCount_0f7a4 3 = .ok (.iushr, 1) := by decide +kernel
set_option maxRecDepth 20000 in
theorem dJ6_bitCount_0f7a4_4 : decode cJ6_bitCount_0f7a4 4 = .ok (.ldc_w 265, 3) := by decide +kernel
set_option maxRecDepth 20000 in
theorem dJ6_bitCount_0f7a4_7 : decode cJ6_bitCount_0f7a4 7 = .ok (.iand, 1) := by decide +kernel
set_option maxRecDepth 20000 in
theorem dJ6_bitCount_0f7a4_8 : decode cJ6_bitCount_0f7a4 8 = .ok (.isub, 1) := by decide +kernel
set_option maxRecDepth 20000 in
theorem dJ6_bitCount_0f7a4_9 : decode cJ6_bitCount_0f7a4 9 = .ok (.istore_n 0, 1) := by decide +kernel
set_option maxRecDepth 20000 in
theorem dJ6_bitCount_0f7a4_10 : decode cJ6_bitCount_0f7a4 10 = .ok (.iload_n 0, 1) := by decide +kernel
set_option maxRecDepth 20000 in
theorem dJ6_bitCount_0f7a4_11 : decode cJ6_bitCount_0f7a4 11 = .ok (.ldc_w 266, 3) := by decide +kernel
set_option maxRecDepth 20000 in
theorem dJ6_bitCount_0f7a4_14 : decode cJ6_bitCount_0f7a4 14 = .ok (.iand, 1) := by decide +kernel
set_option maxRecDepth 20000 in
theorem dJ6_bitCount_0f7a4_15 : decode cJ6_bitCount_0f7a4 15 = .ok (.iload_n 0, 1) := by decide +kernel
set_option maxRecDepth 20000 in
theorem dJ6_bitCount_0f7a4_16 : decode cJ6_bitCount_0f7a4 16 = .ok (.iconst 2, 1) := by decide +kernel
set_option maxRecDepth 20000 in
theorem dJ6_bitCount_0f7a4_17 : decode cJ6_bitCount_0f7a4 17 = .ok (.iushr, 1) := by decide +kernel
set_option maxRecDepth 20000 in
theorem dJ6_bitCount_0f7a4_18 : decode cJ6_bitCount_0f7a4 18 = .ok (.ldc_w 266, 3) := by decide +kernel
set_option maxRecDepth 20000 in
theorem dJ6_bitCount_0f7a4_21 : decode cJ6_bitCount_0f7a4 21 = .ok (.iand, 1) := by decide +kernel
set_option maxRecDepth 20000 in
theorem dJ6_bitCount_0f7a4_22 : decode cJ6_bitCount_0f7a4 22 = .ok (.iadd, 1) := by decide +kernel
set_option maxRecDepth 20000 in
theorem dJ6_bitCount_0f7a4_23 : decode cJ6_bitCount_0f7a4 23 = .ok (.istore_n 0, 1) := by decide +kernel
set_option maxRecDepth 20000 in
theorem dJ6_bitCount_0f7a4_24 : decode cJ6_bitCount_0f7a4 24 = .ok (.iload_n 0, 1) := by decide +kernel
set_option maxRecDepth 20000 in
theorem dJ6_bitCount_0f7a4_25 : decode cJ6_bitCount_0f7a4 25 = .ok (.iload_n 0, 1) := by decide +kernel
set_option maxRecDepth 20000 in
theorem dJ6_bitCount_0f7a4_26 : decode cJ6_bitCount_0f7a4 26 = .ok (.iconst 4, 1) := by decide +kernel
set_option maxRecDepth 20000 in
theorem dJ6_bitCount_0f7a4_27 : decode cJ6_bitCount_0f7a4 27 = .ok (.iushr, 1) := by decide +kernel
set_option maxRecDepth 20000 in
theorem dJ6_bitCount_0f7a4_28 : decode cJ6_bitCount_0f7a4 28 = .ok (.iadd, 1) := by decide +kernel
set_option maxRecDepth 20000 in
theorem dJ6_bitCount_0f7a4_29 : decode cJ6_bitCount_0f7a4 29 = .ok (.ldc_w 267, 3) := by decide +kernel
set_option maxRecDepth 20000 in
theorem dJ6_bitCount_0f7a4_32 : decode cJ6_bitCount_0f7a4 32 = .ok (.iand, 1) := by decide +kernel
set_option maxRecDepth 20000 in
theorem dJ6_bitCount_0f7a4_33 : decode cJ6_bitCount_0f7a4 33 = .ok (.istore_n 0, 1) := by decide +kernel
set_option maxRecDepth 20000 in
theorem dJ6_bitCount_0f7a4_34 : decode cJ6_bitCount_0f7a4 34 = .ok (.iload_n 0, 1) := by decide +kernel
set_option maxRecDepth 20000 in
theorem dJ6_bitCount_0f7a4_35 : decode cJ6_bitCount_0f7a4 35 = .ok (.iload_n 0, 1) := by decide +kernel
set_option maxRecDepth 20000 in
theorem dJ6_bitCount_0f7a4_36 : decode cJ6_bitCount_0f7a4 36 = .ok (.bipush 8, 2) := by decide +kernel
set_option maxRecDepth 20000 in
theorem dJ6_bitCount_0f7a4_38 : decode cJ6_bitCount_0f7a4 38 = .ok (.iushr, 1) := by decide +kernel
set_option maxRecDepth 20000 in
theorem dJ6_bitCount_0f7a4_39 : decode cJ6_bitCount_0f7a4 39 = .ok (.iadd, 1) := by decide +kernel
set_option maxRecDepth 20000 in
theorem dJ6_bitCount_0f7a4_40 : decode cJ6_bitCount_0f7a4 40 = .ok (.istore_n 0, 1) := by decide +kernel
set_option maxRecDepth 20000 in
theorem dJ6_bitCount_0f7a4_41 : decode cJ6_bitCount_0f7a4 41 = .ok (.iload_n 0, 1) := by decide +kernel
set_option maxRecDepth 20000 in
theorem dJ6_bitCount_0f7a4_42 : decode cJ6_bitCount_0f7a4 42 = .ok (.iload_n 0, 1) := by decide +kernel
set_option maxRecDepth 20000 in
theorem dJ6_bitCount_0f7a4_43 : decode cJ6_bitCount_0f7a4 43 = .ok (.bipush 16, 2) := by decide +kernel
set_option maxRecDepth 20000 in
theorem dJ6_bitCount_0f7a4_45 : decode cJ6_bitCount_0f7a4 45 = .ok (.iushr, 1) := by decide +kernel
set_option maxRecDepth 20000 in
theorem dJ6_bitCount_0f7a4_46 : decode cJ6_bitCount_0f7a4 46 = .ok (.iadd, 1) := by decide +kernel
set_option maxRecDepth 20000 in
theorem dJ6_bitCount_0f7a4_47 : decode cJ6_bitCount_0f7a4 47 = .ok (.istore_n 0, 1) := by decide +kernel
set_option maxRecDepth 20000 in
theorem dJ6_bitCount_0f7a4_48 : decode cJ6_bitCount_0f7a4 48 = .ok (.iload_n 0, 1) := by decide +kernel
set_option maxRecDepth 20000 in
theorem dJ6_bitCount_0f7a4_49 : decode cJ6_bitCount_0f7a4 49 = .ok (.bipush 63, 2) := by decide +kernel
set_option maxRecDepth 20000 in
theorem dJ6_bitCount_0f7a4_51 : decode cJ6_bitCount_0f7a4 51 = .ok (.iand, 1) := by decide +kernel
set_option maxRecDepth 20000 in
theorem dJ6_bitCount_0f7a4_52 : decode cJ6_bitCount_0f7a4 52 = .ok (.ireturn, 1) := by decide +kernel
set_option maxRecDepth 20000 in
theorem dJ9_max_7cf53_0 : decode cJ9_max_7cf53 0 = .ok (.iload_n 0, 1) := by decide +kernel
set_option maxRecDepth 20000 in
theorem dJ9_max_7cf53_1 : decode cJ9_max_7cf53 1 = .ok (.iload_n 1, 1) := by decide +kernel
set_option maxRecDepth 20000 in
theorem dJ9_max_7cf53_2 : decode cJ9_max_7cf53 2 = .ok (.if_icmp .lt 7, 3) := by decide +kernel
set_option maxRecDepth 20000 in
theorem dJ9_max_7cf53_5 : decode cJ9_max_7cf53 5 = .ok (.iload_n 0, 1) := by decide +kernel
set_option maxRecDepth 20000 in
theorem dJ9_max_7cf53_6 : decode cJ9_max_7cf53 6 = .ok (.goto 4, 3) := by decide +kernel
set_option maxRecDepth 20000 in
theorem dJ9_max_7cf53_9 : decode cJ9_max_7cf53 9 = .ok (.iload_n 1, 1) := by decide +kernel
set_option maxRecDepth 20000 in
theorem dJ9_max_7cf53_10 : decode cJ9_max_7cf53 10 = .ok (.ireturn, 1) := by decide +kernel
set_option maxRecDepth 20000 in
theorem dJ9_min_7cf53_0 : decode cJ9_min_7cf53 0 = .ok (.iload_n 0, 1) := by decide +kernel
set_option maxRecDepth 20000 in
theorem dJ9_min_7cf53_1 : decode cJ9_min_7cf53 1 = .ok (.iload_n 1, 1) := by decide +kernel
set_option maxRecDepth 20000 in
theorem dJ9_min_7cf53_2 : decode cJ9_min_7cf53 2 = .ok (.if_icmp .gt 7, 3) := by decide +kernel
set_option maxRecDepth 20000 in
theorem dJ9_min_7cf53_5 : decode cJ9_min_7cf53 5 = .ok (.iload_n 0, 1) := by decide +kernel
set_option maxRecDepth 20000 in
theorem dJ9_min_7cf53_6 : decode cJ9_min_7cf53 6 = .ok (.goto 4, 3) := by decide +kernel
set_option maxRecDepth 20000 in
theorem dJ9_min_7cf53_9 : decode cJ9_min_7cf53 9 = .ok (.iload_n 1, 1) := by decide +kernel
set_option maxRecDepth 20000 in
theorem dJ9_min_7cf53_10 : decode cJ9_min_7cf53 10 = .ok (.ireturn, 1) := by decide +kernel
end
section
set_option maxRecDepth 20000 in
theorem dX7_init_0 : decode cX7_init 0 = .ok (.aload_n 0, 1) := by decide +kernel
set_option maxRecDepth 20000 in
theorem dX7_init_1 : decode cX7_init 1 = .ok (.invokespecial 1, 3) := by decide +kernel
set_option maxRecDepth 20000 in
theorem dX7_init_4 : decode cX7_init 4 = .ok (.aload_n 0, 1) := by decide +kernel
set_option maxRecDepth 20000 in
theorem dX7_init_5 : decode cX7_init 5 = .ok (.iconst 4, 1) := by decide +kernel
set_option maxRecDepth 20000 in
theorem dX7_init_6 : decode cX7_init 6 = .ok (.putfield 7, 3) := by decide +kernel
set_option maxRecDepth 20000 in
theorem dX7_init_9 : decode cX7_init 9 = .ok (.aload_n 0, 1) := by decide +kernel
set_option maxRecDepth 20000 in
theorem dX7_init_10 : decode cX7_init 10 = .ok (.bipush 18, 2) := by decide +kernel
set_option maxRecDepth 20000 in
theorem dX7_init_12 : decode cX7_init 12 = .ok (.newarray .int, 2) := by decide +kernel
set_option maxRecDepth 20000 in
theorem dX7_init_14 : decode cX7_init 14 = .ok (.putfield 13, 3) := by decide +kernel
set_option maxRecDepth 20000 in
theorem dX7_init_17 : decode cX7_init 17 = .ok (.aload_n 0, 1) := by decide +kernel
set_option maxRecDepth 20000 in
theorem dX7_init_18 : decode cX7_init 18 = .ok (.bipush 72, 2) := by decide +kernel
set_option maxRecDepth 20000 in
theorem dX7_init_20 : decode cX7_init 20 = .ok (.newarray .int, 2) := by decide +kernel
set_option maxRecDepth 20000 in
theorem dX7_init_22 : decode cX7_init 22 = .ok (.putfield 17, 3) := by decide +kernel
set_option maxRecDepth 20000 in
theorem dX7_init_25 : decode cX7_init 25 = .ok (.aload_n 0, 1) := by decide +kernel
set_option maxRecDepth 20000 in
theorem dX7_init_26 : decode cX7_init 26 = .ok (.iconst 2, 1) := by decide +kernel
set_option maxRecDepth 20000 in
theorem dX7_init_27 : decode cX7_init 27 = .ok (.putfield 20, 3) := by decide +kernel
set_option maxRecDepth 20000 in
theorem dX7_init_30 : decode cX7_init 30 = .ok (.aload_n 0, 1) := by decide +kernel
set_option maxRecDepth 20000 in
theorem dX7_init_31 : decode cX7_init 31 = .ok (.sipush 324, 3) := by decide +kernel
set_option maxRecDepth 20000 in
theorem dX7_init_34 : decode cX7_init 34 = .ok (.newarray .int, 2) := by decide +kernel
set_option maxRecDepth 20000 in
theorem dX7_init_36 : decode cX7_init 36 = .ok (.putfield 23, 3) := by decide +kernel
set_option maxRecDepth 20000 in
theorem dX7_init_39 : decode cX7_init 39 = .ok (.aload_n 0, 1) := by decide +kernel
set_option maxRecDepth 20000 in
theorem dX7_init_40 : decode cX7_init 40 = .ok (.bipush 18, 2) := by decide +kernel
set_option maxRecDepth 20000 in
theorem dX7_init_42 : decode cX7_init 42 = .ok (.newarray .int, 2) := by decide +kernel
set_option maxRecDepth 20000 in
theorem dX7_init_44 : decode cX7_init 44 = .ok (.putfield 26, 3) := by decide +kernel
set_option maxRecDepth 20000 in
theorem dX7_init_47 : decode cX7_init 47 = .ok (.aload_n 0, 1) := by decide +kernel
set_option maxRecDepth 20000 in
theorem dX7_init_48 : decode cX7_init 48 = .ok (.bipush 18, 2) := by decide +kernel
set_option maxRecDepth 20000 in
theorem dX7_init_50 : decode cX7_init 50 = .ok (.newarray .int, 2) := by decide +kernel
set_option maxRecDepth 20000 in
theorem dX7_init_52 : decode cX7_init 52 = .ok (.putfield 29, 3) := by decide +kernel
set_option maxRecDepth 20000 in
theorem dX7_init_55 : decode cX7_init 55 = .ok (.aload_n 0, 1) := by decide +kernel
set_option maxRecDepth 20000 in
theorem dX7_init_56 : decode cX7_init 56 = .ok (.sipush 211, 3) := by decide +kernel
set_option maxRecDepth 20000 in
theorem dX7_init_59 : decode cX7_init 59 = .ok (.newarray .long, 2) := by decide +kernel
set_option maxRecDepth 20000 in
theorem dX7_init_61 : decode cX7_init 61 = .ok (.putfield 32, 3) := by decide +kernel
set_option maxRecDepth 20000 in
theorem dX7_init_64 : decode cX7_init 64 = .ok (.aload_n 0, 1) := by decide +kernel
set_option maxRecDepth 20000 in
theorem dX7_init_65 : decode cX7_init 65 = .ok (.sipush 211, 3) := by decide +kernel
set_option maxRecDepth 20000 in
theorem dX7_init_68 : decode cX7_init 68 = .ok (.newarray .long, 2) := by decide +kernel
set_option maxRecDepth 20000 in
theorem dX7_init_70 : decode cX7_init 70 = .ok (.putfield 36, 3) := by decide +kernel
set_option maxRecDepth 20000 in
theorem dX7_init_73 : decode cX7_init 73 = .ok (.aload_n 0, 1) := by decide +kernel
set_option maxRecDepth 20000 in
theorem dX7_init_74 : decode cX7_init 74 = .ok (.bipush 19, 2) := by decide +kernel
set_option maxRecDepth 20000 in
theorem dX7_init_76 : decode cX7_init 76 = .ok (.newarray .long, 2) := by decide +kernel
set_option maxRecDepth 20000 in
theorem dX7_init_78 : decode cX7_init 78 = .ok (.putfield 39, 3) := by decide +kernel
set_option maxRecDepth 20000 in
theorem dX7_init_81 : decode cX7_init 81 = .ok (.aload_n 0, 1) := by decide +kernel
set_option maxRecDepth 20000 in
theorem dX7_init_82 : decode cX7_init 82 = .ok (.bipush 18, 2) := by decide +kernel
set_option maxRecDepth 20000 in
theorem dX7_init_84 : decode cX7_init 84 = .ok (.newarray .int, 2) := by decide +kernel
set_option maxRecDepth 20000 in
theorem dX7_init_86 : decode cX7_init 86 = .ok (.putfield 42, 3) := by decide +kernel
set_option maxRecDepth 20000 in
theorem dX7_init_89 : decode cX7_init 89 = .ok (.aload_n 0, 1) := by decide +kernel
set_option maxRecDepth 20000 in
theorem dX7_init_90 : decode cX7_init 90 = .ok (.sipush 6859, 3) := by decide +kernel
set_option maxRecDepth 20000 in
theorem dX7_init_93 : decode cX7_init 93 = .ok (.newarray .long, 2) := by decide +kernel
set_option maxRecDepth 20000 in
theorem dX7_init_95 : decode cX7_init 95 = .ok (.putfield 45, 3) := by decide +kernel
set_option maxRecDepth 20000 in
theorem dX7_init_98 : decode cX7_init 98 = .ok (.aload_n 0, 1) := by decide +kernel
set_option maxRecDepth 20000 in
theorem dX7_init_99 : decode cX7_init 99 = .ok (.invokevirtual 48, 3) := by decide +kernel
set_option maxRecDepth 20000 in
theorem dX7_init_102 : decode cX7_init 102 = .ok (.return_, 1) := by decide +kernel
set_option maxRecDepth 20000 in
theorem dX7_in_0 : decode cX7_in 0 = .ok (.lload_n 0, 1) := by decide +kernel
set_option maxRecDepth 20000 in
theorem dX7_in_1 : decode cX7_in 1 = .ok (.lload_n 2, 1) := by decide +kernel
set_option maxRecDepth 20000 in
theorem dX7_in_2 : decode cX7_in 2 = .ok (.lcmp, 1) := by decide +kernel
set_option maxRecDepth 20000 in
theorem dX7_in_3 : decode cX7_in 3 = .ok (.ifCond .lt 14, 3) := by decide +kernel
set_option maxRecDepth 20000 in
theorem dX7_in_6 : decode cX7_in 6 = .ok (.lload_n 0, 1) := by decide +kernel
set_option maxRecDepth 20000 in
theorem dX7_in_7 : decode cX7_in 7 = .ok (.lload 4, 2) := by decide +kernel
set_option maxRecDepth 20000 in
theorem dX7_in_9 : decode cX7_in 9 = .ok (.lcmp, 1) := by decide +kernel
set_option maxRecDepth 20000 in
theorem dX7_in_10 : decode cX7_in 10 = .ok (.ifCond .gt 7, 3) := by decide +kernel
set_option maxRecDepth 20000 in
theorem dX7_in_13 : decode cX7_in 13 = .ok (.iconst 1, 1) := by decide +kernel
set_option maxRecDepth 20000 in
theorem dX7_in_14 : decode cX7_in 14 = .ok (.goto 4, 3) := by decide +kernel
set_option maxRecDepth 20000 in
theorem dX7_in_17 : decode cX7_in 17 = .ok (.iconst 0, 1) := by decide +kernel
set_option maxRecDepth 20000 in
theorem dX7_in_18 : decode cX7_in 18 = .ok (.ireturn, 1) := by decide +kernel
set_option maxRecDepth 20000 in
theorem dX7_begin_0 : decode cX7_begin 0 = .ok (.iconst 0, 1) := by decide +kernel
set_option maxRecDepth 20000 in
theorem dX7_begin_1 : decode cX7_begin 1 = .ok (.istore_n 1, 1) := by decide +kernel
set_option maxRecDepth 20000 in
theorem dX7_begin_2 : decode cX7_begin 2 = .ok (.iload_n 1, 1) := by decide +kernel
set_option maxRecDepth 20000 in
theorem dX7_begin_3 : decode cX7_begin 3 = .ok (.bipush 18, 2) := by decide +kernel
set_option maxRecDepth 20000 in
theorem dX7_begin_5 : decode cX7_begin 5 = .ok (.if_icmp .ge 48, 3) := by decide +kernel
set_option maxRecDepth 20000 in
theorem dX7_begin_8 : decode cX7_begin 8 = .ok (.aload_n 0, 1) := by decide +kernel
set_option maxRecDepth 20000 in
theorem dX7_begin_9 : decode cX7_begin 9 = .ok (.getfield 13, 3) := by decide +kernel
set_option maxRecDepth 20000 in
theorem dX7_begin_12 : decode cX7_begin 12 = .ok (.iload_n 1, 1) := by decide +kernel
set_option maxRecDepth 20000 in
theorem dX7_begin_13 : decode cX7_begin 13 = .ok (.iload_n 1, 1) := by decide +kernel
set_option maxRecDepth 20000 in
theorem dX7_begin_14 : decode cX7_begin 14 = .ok (.iastore, 1) := by decide +kernel
set_option maxRecDepth 20000 in
theorem dX7_begin_15 : decode cX7_begin 15 = .ok (.aload_n 0, 1) := by decide +kernel
set_option maxRecDepth 20000 in
theorem dX7_begin_16 : decode cX7_begin 16 = .ok (.getfield 26, 3) := by decide +kernel
set_option maxRecDepth 20000 in
theorem dX7_begin_19 : decode cX7_begin 19 = .ok (.iload_n 1, 1) := by decide +kernel
set_option maxRecDepth 20000 in
theorem dX7_begin_20 : decode cX7_begin 20 = .ok (.iconst 0, 1) := by decide +kernel
set_option maxRecDepth 20000 in
theorem dX7_begin_21 : decode cX7_begin 21 = .ok (.iastore, 1) := by decide +kernel
set_option maxRecDepth 20000 in
theorem dX7_begin_22 : decode cX7_begin 22 = .ok (.iconst 0, 1) := by decide +kernel
set_option maxRecDepth 20000 in
theorem dX7_begin_23 : decode cX7_begin 23 = .ok (.istore_n 2, 1) := by decide +kernel
set_option maxRecDepth 20000 in
theorem dX7_begin_24 : decode cX7_begin 24 = .ok (.iload_n 2, 1) := by decide +kernel
set_option maxRecDepth 20000 in
theorem dX7_begin_25 : decode cX7_begin 25 = .ok (.iconst 4, 1) := by decide +kernel
set_option maxRecDepth 20000 in
theorem dX7_begin_26 : decode cX7_begin 26 = .ok (.if_icmp .ge 21, 3) := by decide +kernel
set_option maxRecDepth 20000 in
theorem dX7_begin_29 : decode cX7_begin 29 = .ok (.aload_n 0, 1) := by decide +kernel
set_option maxRecDepth 20000 in
theorem dX7_begin_30 : decode cX7_begin 30 = .ok (.getfield 17, 3) := by decide +kernel
set_option maxRecDepth 20000 in
theorem dX7_begin_33 : decode cX7_begin 33 = .ok (.bipush 18, 2) := by decide +kernel
set_option maxRecDepth 20000 in
theorem dX7_begin_35 : decode cX7_begin 35 = .ok (.iload_n 2, 1) := by decide +kernel
set_option maxRecDepth 20000 in
theorem dX7_begin_36 : decode cX7_begin 36 = .ok (.imul, 1) := by decide +kernel
set_option maxRecDepth 20000 in
theorem dX7_begin_37 : decode cX7_begin 37 = .ok (.iload_n 1, 1) := by decide +kernel
set_option maxRecDepth 20000 in
theorem dX7_begin_38 : decode cX7_begin 38 = .ok (.iadd, 1) := by decide +kernel
set_option maxRecDepth 20000 in
theorem dX7_begin_39 : decode cX7_begin 39 = .ok (.iload_n 1, 1) := by decide +kernel
set_option maxRecDepth 20000 in
theorem dX7_begin_40 : decode cX7_begin 40 = .ok (.iastore, 1) := by decide +kernel
set_option maxRecDepth 20000 in
theorem dX7_begin_41 : decode cX7_begin 41 = .ok (.iinc 2 1, 3) := by decide +kernel
set_option maxRecDepth 20000 in
theorem dX7_begin_44 : decode cX7_begin 44 = .ok (.goto (-20), 3) := by decide +kernel
set_option maxRecDepth 20000 in
theorem dX7_begin_47 : decode cX7_begin 47 = .ok (.iinc 1 1, 3) := by decide +kernel
set_option maxRecDepth 20000 in
theorem dX7_begin_50 : decode cX7_begin 50 = .ok (.goto (-48), 3) := by decide +kernel
set_option maxRecDepth 20000 in
theorem dX7_begin_53 : decode cX7_begin 53 = .ok (.aload_n 0, 1) := by decide +kernel
set_option maxRecDepth 20000 in
theorem dX7_begin_54 : decode cX7_begin 54 = .ok (.aload_n 0, 1) := by decide +kernel
set_option maxRecDepth 20000 in
theorem dX7_begin_55 : decode cX7_begin 55 = .ok (.getfield 7, 3) := by decide +kernel
set_option maxRecDepth 20000 in
theorem dX7_begin_58 : decode cX7_begin 58 = .ok (.iconst 2, 1) := by decide +kernel
set_option maxRecDepth 20000 in
theorem dX7_begin_59 : decode cX7_begin 59 = .ok (.if_icmp .ge 7, 3) := by decide +kernel
set_option maxRecDepth 20000 in
theorem dX7_begin_62 : decode cX7_begin 62 = .ok (.iconst 1, 1) := by decide +kernel
set_option maxRecDepth 20000 in
theorem dX7_begin_63 : decode cX7_begin 63 = .ok (.goto 4, 3) := by decide +kernel
set_option maxRecDepth 20000 in
theorem dX7_begin_66 : decode cX7_begin 66 = .ok (.iconst 2, 1) := by decide +kernel
set_option maxRecDepth 20000 in
theorem dX7_begin_67 : decode cX7_begin 67 = .ok (.putfield 20, 3) := by decide +kernel
set_option maxRecDepth 20000 in
theorem dX7_begin_70 : decode cX7_begin 70 = .ok (.return_, 1) := by decide +kernel
set_option maxRecDepth 20000 in
theorem dX7_isThing_0 : decode cX7_isThing 0 = .ok (.iload_n 1, 1) := by decide +kernel
set_option maxRecDepth 20000 in
theorem dX7_isThing_1 : decode cX7_isThing 1 = .ok (.i2l, 1) := by decide +kernel
set_option maxRecDepth 20000 in
theorem dX7_isThing_2 : decode cX7_isThing 2 = .ok (.lconst 0, 1) := by decide +kernel
set_option maxRecDepth 20000 in
theorem dX7_isThing_3 : decode cX7_isThing 3 = .ok (.aload_n 0, 1) := by decide +kernel
set_option maxRecDepth 20000 in
theorem dX7_isThing_4 : decode cX7_isThing 4 = .ok (.getfield 7, 3) := by decide +kernel
set_option maxRecDepth 20000 in
theorem dX7_isThing_7 : decode cX7_isThing 7 = .ok (.iconst 1, 1) := by decide +kernel
set_option maxRecDepth 20000 in
theorem dX7_isThing_8 : decode cX7_isThing 8 = .ok (.isub, 1) := by decide +kernel
set_option maxRecDepth 20000 in
theorem dX7_isThing_9 : decode cX7_isThing 9 = .ok (.i2l, 1) := by decide +kernel
set_option maxRecDepth 20000 in
theorem dX7_isThing_10 : decode cX7_isThing 10 = .ok (.invokestatic 51, 3) := by decide +kernel
set_option maxRecDepth 20000 in
theorem dX7_isThing_13 : decode cX7_isThing 13 = .ok (.ireturn, 1) := by decide +kernel
set_option maxRecDepth 20000 in
theorem dX7_things_0 : decode cX7_things 0 = .ok (.iload_n 1, 1) := by decide +kernel
set_option maxRecDepth 20000 in
theorem dX7_things_1 : decode cX7_things 1 = .ok (.i2l, 1) := by decide +kernel
set_option maxRecDepth 20000 in
theorem dX7_things_2 : decode cX7_things 2 = .ok (.lconst 1, 1) := by decide +kernel
set_option maxRecDepth 20000 in
theorem dX7_things_3 : decode cX7_things 3 = .ok (.ldc2_w 55, 3) := by decide +kernel
set_option maxRecDepth 20000 in
theorem dX7_things_6 : decode cX7_things 6 = .ok (.invokestatic 51, 3) := by decide +kernel
set_option maxRecDepth 20000 in
theorem dX7_things_9 : decode cX7_things 9 = .ok (.ifCond .ne 6, 3) := by decide +kernel
set_option maxRecDepth 20000 in
theorem dX7_things_12 : decode cX7_things 12 = .ok (.bipush (-2), 2) := by decide +kernel
set_option maxRecDepth 20000 in
theorem dX7_things_14 : decode cX7_things 14 = .ok (.ireturn, 1) := by decide +kernel
set_option maxRecDepth 20000 in
theorem dX7_things_15 : decode cX7_things 15 = .ok (.aload_n 0, 1) := by decide +kernel
set_option maxRecDepth 20000 in
theorem dX7_things_16 : decode cX7_things 16 = .ok (.iload_n 1, 1) := by decide +kernel
set_option maxRecDepth 20000 in
theorem dX7_things_17 : decode cX7_things 17 = .ok (.putfield 7, 3) := by decide +kernel
set_option maxRecDepth 20000 in
theorem dX7_things_20 : decode cX7_things 20 = .ok (.aload_n 0, 1) := by decide +kernel
set_option maxRecDepth 20000 in
theorem dX7_things_21 : decode cX7_things 21 = .ok (.invokevirtual 48, 3) := by decide +kernel
set_option maxRecDepth 20000 in
theorem dX7_things_24 : decode cX7_things 24 = .ok (.iconst 1, 1) := by decide +kernel
set_option maxRecDepth 20000 in
theorem dX7_things_25 : decode cX7_things 25 = .ok (.ireturn, 1) := by decide +kernel
set_option maxRecDepth 20000 in
theorem dX7_become_0 : decode cX7_become 0 = .ok (.iconst 0, 1) := by decide +kernel
set_option maxRecDepth 20000 in
theorem dX7_become_1 : decode cX7_become 1 = .ok (.istore_n 1, 1) := by decide +kernel
set_option maxRecDepth 20000 in
theorem dX7_become_2 : decode cX7_become 2 = .ok (.iload_n 1, 1) := by decide +kernel
set_option maxRecDepth 20000 in
theorem dX7_become_3 : decode cX7_become 3 = .ok (.aload_n 0, 1) := by decide +kernel
set_option maxRecDepth 20000 in
theorem dX7_become_4 : decode cX7_become 4 = .ok (.getfield 7, 3) := by decide +kernel
set_option maxRecDepth 20000 in
theorem dX7_become_7 : decode cX7_become 7 = .ok (.if_icmp .ge 21, 3) := by decide +kernel
set_option maxRecDepth 20000 in
theorem dX7_become_10 : decode cX7_become 10 = .ok (.aload_n 0, 1) := by decide +kernel
set_option maxRecDepth 20000 in
theorem dX7_become_11 : decode cX7_become 11 = .ok (.getfield 13, 3) := by decide +kernel
set_option maxRecDepth 20000 in
theorem dX7_become_14 : decode cX7_become 14 = .ok (.iload_n 1, 1) := by decide +kernel
set_option maxRecDepth 20000 in
theorem dX7_become_15 : decode cX7_become 15 = .ok (.aload_n 0, 1) := by decide +kernel
set_option maxRecDepth 20000 in
theorem dX7_become_16 : decode cX7_become 16 = .ok (.getfield 29, 3) := by decide +kernel
set_option maxRecDepth 20000 in
theorem dX7_become_19 : decode cX7_become 19 = .ok (.iload_n 1, 1) := by decide +kernel
set_option maxRecDepth 20000 in
theorem dX7_become_20 : decode cX7_become 20 = .ok (.iaload, 1) := by decide +kernel
set_option maxRecDepth 20000 in
theorem dX7_become_21 : decode cX7_become 21 = .ok (.iastore, 1) := by decide +kernel
set_option maxRecDepth 20000 in
theorem dX7_become_22 : decode cX7_become 22 = .ok (.iinc 1 1, 3) := by decide +kernel
set_option maxRecDepth 20000 in
theorem dX7_become_25 : decode cX7_become 25 = .ok (.goto (-23), 3) := by decide +kernel
set_option maxRecDepth 20000 in
theorem dX7_become_28 : decode cX7_become 28 = .ok (.return_, 1) := by decide +kernel
set_option maxRecDepth 20000 in
theorem dX7_order_0 : decode cX7_order 0 = .ok (.lload_n 1, 1) := by decide +kernel
set_option maxRecDepth 20000 in
theorem dX7_order_1 : decode cX7_order 1 = .ok (.lconst 0, 1) := by decide +kernel
set_option maxRecDepth 20000 in
theorem dX7_order_2 : decode cX7_order 2 = .ok (.lcmp, 1) := by decide +kernel
set_option maxRecDepth 20000 in
theorem dX7_order_3 : decode cX7_order 3 = .ok (.ifCond .lt 9, 3) := by decide +kernel
set_option maxRecDepth 20000 in
theorem dX7_order_6 : decode cX7_order 6 = .ok (.lload_n 3, 1) := by decide +kernel
set_option maxRecDepth 20000 in
theorem dX7_order_7 : decode cX7_order 7 = .ok (.lconst 0, 1) := by decide +kernel
set_option maxRecDepth 20000 in
theorem dX7_order_8 : decode cX7_order 8 = .ok (.lcmp, 1) := by decide +kernel
set_option maxRecDepth 20000 in
theorem dX7_order_9 : decode cX7_order 9 = .ok (.ifCond .ge 6, 3) := by decide +kernel
set_option maxRecDepth 20000 in
theorem dX7_order_12 : decode cX7_order 12 = .ok (.bipush (-2), 2) := by decide +kernel
set_option maxRecDepth 20000 in
theorem dX7_order_14 : decode cX7_order 14 = .ok (.ireturn, 1) := by decide +kernel
set_option maxRecDepth 20000 in
theorem dX7_order_15 : decode cX7_order 15 = .ok (.lload_n 1, 1) := by decide +kernel
set_option maxRecDepth 20000 in
theorem dX7_order_16 : decode cX7_order 16 = .ok (.lstore 5, 2) := by decide +kernel
set_option maxRecDepth 20000 in
theorem dX7_order_18 : decode cX7_order 18 = .ok (.lload_n 3, 1) := by decide +kernel
set_option maxRecDepth 20000 in
theorem dX7_order_19 : decode cX7_order 19 = .ok (.lstore 7, 2) := by decide +kernel
set_option maxRecDepth 20000 in
theorem dX7_order_21 : decode cX7_order 21 = .ok (.iconst 0, 1) := by decide +kernel
set_option maxRecDepth 20000 in
theorem dX7_order_22 : decode cX7_order 22 = .ok (.istore 9, 2) := by decide +kernel
set_option maxRecDepth 20000 in
theorem dX7_order_24 : decode cX7_order 24 = .ok (.iconst 0, 1) := by decide +kernel
set_option maxRecDepth 20000 in
theorem dX7_order_25 : decode cX7_order 25 = .ok (.istore 10, 2) := by decide +kernel
set_option maxRecDepth 20000 in
theorem dX7_order_27 : decode cX7_order 27 = .ok (.iload 10, 2) := by decide +kernel
set_option maxRecDepth 20000 in
theorem dX7_order_29 : decode cX7_order 29 = .ok (.aload_n 0, 1) := by decide +kernel
set_option maxRecDepth 20000 in
theorem dX7_order_30 : decode cX7_order 30 = .ok (.getfield 7, 3) := by decide +kernel
set_option maxRecDepth 20000 in
theorem dX7_order_33 : decode cX7_order 33 = .ok (.if_icmp .ge 93, 3) := by decide +kernel
set_option maxRecDepth 20000 in
theorem dX7_order_36 : decode cX7_order 36 = .ok (.aload_n 0, 1) := by decide +kernel
set_option maxRecDepth 20000 in
theorem dX7_order_37 : decode cX7_order 37 = .ok (.getfield 29, 3) := by decide +kernel
set_option maxRecDepth 20000 in
theorem dX7_order_40 : decode cX7_order 40 = .ok (.iload 10, 2) := by decide +kernel
set_option maxRecDepth 20000 in
theorem dX7_order_42 : decode cX7_order 42 = .ok (.iload 10, 2) := by decide +kernel
set_option maxRecDepth 20000 in
theorem dX7_order_44 : decode cX7_order 44 = .ok (.bipush 9, 2) := by decide +kernel
set_option maxRecDepth 20000 in
theorem dX7_order_46 : decode cX7_order 46 = .ok (.if_icmp .ge 12, 3) := by decide +kernel
set_option maxRecDepth 20000 in
theorem dX7_order_49 : decode cX7_order 49 = .ok (.lload 5, 2) := by decide +kernel
set_option maxRecDepth 20000 in
theorem dX7_order_51 : decode cX7_order 51 = .ok (.ldc2_w 55, 3) := by decide +kernel
set_option maxRecDepth 20000 in
theorem dX7_order_54 : decode cX7_order 54 = .ok (.lrem, 1) := by decide +kernel
set_option maxRecDepth 20000 in
theorem dX7_order_55 : decode cX7_order 55 = .ok (.goto 9, 3) := by decide +kernel
set_option maxRecDepth 20000 in
theorem dX7_order_58 : decode cX7_order 58 = .ok (.lload 7, 2) := by decide +kernel
set_option maxRecDepth 20000 in
theorem dX7_order_60 : decode cX7_order 60 = .ok (.ldc2_w 55, 3) := by decide +kernel
set_option maxRecDepth 20000 in
theorem dX7_order_63 : decode cX7_order 63 = .ok (.lrem, 1) := by decide +kernel
set_option maxRecDepth 20000 in
theorem dX7_order_64 : decode cX7_order 64 = .ok (.l2i, 1) := by decide +kernel
set_option maxRecDepth 20000 in
theorem dX7_order_65 : decode cX7_order 65 = .ok (.iastore, 1) := by decide +kernel
set_option maxRecDepth 20000 in
theorem dX7_order_66 : decode cX7_order 66 = .ok (.iload 10, 2) := by decide +kernel
set_option maxRecDepth 20000 in
theorem dX7_order_68 : decode cX7_order 68 = .ok (.bipush 9, 2) := by decide +kernel
set_option maxRecDepth 20000 in
theorem dX7_order_70 : decode cX7_order 70 = .ok (.if_icmp .ge 12, 3) := by decide +kernel
set_option maxRecDepth 20000 in
theorem dX7_order_73 : decode cX7_order 73 = .ok (.lload 5, 2) := by decide +kernel
set_option maxRecDepth 20000 in
theorem dX7_order_75 : decode cX7_order 75 = .ok (.ldc2_w 55, 3) := by decide +kernel
set_option maxRecDepth 20000 in
theorem dX7_order_78 : decode cX7_order 78 = .ok (.ldiv, 1) := by decide +kernel
set_option maxRecDepth 20000 in
theorem dX7_order_79 : decode cX7_order 79 = .ok (.goto 5, 3) := by decide +kernel
set_option maxRecDepth 20000 in
theorem dX7_order_82 : decode cX7_order 82 = .ok (.lload 5, 2) := by decide +kernel
set_option maxRecDepth 20000 in
theorem dX7_order_84 : decode cX7_order 84 = .ok (.lstore 5, 2) := by decide +kernel
set_option maxRecDepth 20000 in
theorem dX7_order_86 : decode cX7_order 86 = .ok (.iload 10, 2) := by decide +kernel
set_option maxRecDepth 20000 in
theorem dX7_order_88 : decode cX7_order 88 = .ok (.bipush 9, 2) := by decide +kernel
set_option maxRecDepth 20000 in
theorem dX7_order_90 : decode cX7_order 90 = .ok (.if_icmp .ge 8, 3) := by decide +kernel
set_option maxRecDepth 20000 in
theorem dX7_order_93 : decode cX7_order 93 = .ok (.lload 7, 2) := by decide +kernel
set_option maxRecDepth 20000 in
theorem dX7_order_95 : decode cX7_order 95 = .ok (.goto 9, 3) := by decide +kernel
set_option maxRecDepth 20000 in
theorem dX7_order_98 : decode cX7_order 98 = .ok (.lload 7, 2) := by decide +kernel
set_option maxRecDepth 20000 in
theorem dX7_order_100 : decode cX7_order 100 = .ok (.ldc2_w 55, 3) := by decide +kernel
set_option maxRecDepth 20000 in
theorem dX7_order_103 : decode cX7_order 103 = .ok (.ldiv, 1) := by decide +kernel
set_option maxRecDepth 20000 in
theorem dX7_order_104 : decode cX7_order 104 = .ok (.lstore 7, 2) := by decide +kernel
set_option maxRecDepth 20000 in
theorem dX7_order_106 : decode cX7_order 106 = .ok (.iload 9, 2) := by decide +kernel
set_option maxRecDepth 20000 in
theorem dX7_order_108 : decode cX7_order 108 = .ok (.iconst 1, 1) := by decide +kernel
set_option maxRecDepth 20000 in
theorem dX7_order_109 : decode cX7_order 109 = .ok (.aload_n 0, 1) := by decide +kernel
set_option maxRecDepth 20000 in
theorem dX7_order_110 : decode cX7_order 110 = .ok (.getfield 29, 3) := by decide +kernel
set_option maxRecDepth 20000 in
theorem dX7_order_113 : decode cX7_order 113 = .ok (.iload 10, 2) := by decide +kernel
set_option maxRecDepth 20000 in
theorem dX7_order_115 : decode cX7_order 115 = .ok (.iaload, 1) := by decide +kernel
set_option maxRecDepth 20000 in
theorem dX7_order_116 : decode cX7_order 116 = .ok (.ishl, 1) := by decide +kernel
set_option maxRecDepth 20000 in
theorem dX7_order_117 : decode cX7_order 117 = .ok (.ior, 1) := by decide +kernel
set_option maxRecDepth 20000 in
theorem dX7_order_118 : decode cX7_order 118 = .ok (.istore 9, 2) := by decide +kernel
set_option maxRecDepth 20000 in
theorem dX7_order_120 : decode cX7_order 120 = .ok (.iinc 10 1, 3) := by decide +kernel
set_option maxRecDepth 20000 in
theorem dX7_order_123 : decode cX7_order 123 = .ok (.goto (-96), 3) := by decide +kernel
set_option maxRecDepth 20000 in
theorem dX7_order_126 : decode cX7_order 126 = .ok (.lload 5, 2) := by decide +kernel
set_option maxRecDepth 20000 in
theorem dX7_order_128 : decode cX7_order 128 = .ok (.lconst 0, 1) := by decide +kernel
set_option maxRecDepth 20000 in
theorem dX7_order_129 : decode cX7_order 129 = .ok (.lcmp, 1) := by decide +kernel
set_option maxRecDepth 20000 in
theorem dX7_order_130 : decode cX7_order 130 = .ok (.ifCond .ne 23, 3) := by decide +kernel
set_option maxRecDepth 20000 in
theorem dX7_order_133 : decode cX7_order 133 = .ok (.lload 7, 2) := by decide +kernel
set_option maxRecDepth 20000 in
theorem dX7_order_135 : decode cX7_order 135 = .ok (.lconst 0, 1) := by decide +kernel
set_option maxRecDepth 20000 in
theorem dX7_order_136 : decode cX7_order 136 = .ok (.lcmp, 1) := by decide +kernel
set_option maxRecDepth 20000 in
theorem dX7_order_137 : decode cX7_order 137 = .ok (.ifCond .ne 16, 3) := by decide +kernel
set_option maxRecDepth 20000 in
theorem dX7_order_140 : decode cX7_order 140 = .ok (.iload 9, 2) := by decide +kernel
set_option maxRecDepth 20000 in
theorem dX7_order_142 : decode cX7_order 142 = .ok (.iconst 1, 1) := by decide +kernel
set_option maxRecDepth 20000 in
theorem dX7_order_143 : decode cX7_order 143 = .ok (.aload_n 0, 1) := by decide +kernel
set_option maxRecDepth 20000 in
theorem dX7_order_144 : decode cX7_order 144 = .ok (.getfield 7, 3) := by decide +kernel
set_option maxRecDepth 20000 in
theorem dX7_order_147 : decode cX7_order 147 = .ok (.ishl, 1) := by decide +kernel
set_option maxRecDepth 20000 in
theorem dX7_order_148 : decode cX7_order 148 = .ok (.iconst 1, 1) := by decide +kernel
set_option maxRecDepth 20000 in
theorem dX7_order_149 : decode cX7_order 149 = .ok (.isub, 1) := by decide +kernel
set_option maxRecDepth 20000 in
theorem dX7_order_150 : decode cX7_order 150 = .ok (.if_icmp .eq 6, 3) := by decide +kernel
set_option maxRecDepth 20000 in
theorem dX7_order_153 : decode cX7_order 153 = .ok (.bipush (-2), 2) := by decide +kernel
set_option maxRecDepth 20000 in
theorem dX7_order_155 : decode cX7_order 155 = .ok (.ireturn, 1) := by decide +kernel
set_option maxRecDepth 20000 in
theorem dX7_order_156 : decode cX7_order 156 = .ok (.aload_n 0, 1) := by decide +kernel
set_option maxRecDepth 20000 in
theorem dX7_order_157 : decode cX7_order 157 = .ok (.invokevirtual 57, 3) := by decide +kernel
set_option maxRecDepth 20000 in
theorem dX7_order_160 : decode cX7_order 160 = .ok (.iconst 1, 1) := by decide +kernel
set_option maxRecDepth 20000 in
theorem dX7_order_161 : decode cX7_order 161 = .ok (.ireturn, 1) := by decide +kernel
set_option maxRecDepth 20000 in
theorem dX7_at_0 : decode cX7_at 0 = .ok (.aload_n 0, 1) := by decide +kernel
set_option maxRecDepth 20000 in
theorem dX7_at_1 : decode cX7_at 1 = .ok (.iload_n 1, 1) := by decide +kernel
set_option maxRecDepth 20000 in
theorem dX7_at_2 : decode cX7_at 2 = .ok (.invokevirtual 60, 3) := by decide +kernel
set_option maxRecDepth 20000 in
theorem dX7_at_5 : decode cX7_at 5 = .ok (.ifCond .eq 12, 3) := by decide +kernel
set_option maxRecDepth 20000 in
theorem dX7_at_8 : decode cX7_at 8 = .ok (.aload_n 0, 1) := by decide +kernel
set_option maxRecDepth 20000 in
theorem dX7_at_9 : decode cX7_at 9 = .ok (.getfield 13, 3) := by decide +kernel
set_option maxRecDepth 20000 in
theorem dX7_at_12 : decode cX7_at 12 = .ok (.iload_n 1, 1) := by decide +kernel
set_option maxRecDepth 20000 in
theorem dX7_at_13 : decode cX7_at 13 = .ok (.iaload, 1) := by decide +kernel
set_option maxRecDepth 20000 in
theorem dX7_at_14 : decode cX7_at 14 = .ok (.goto 5, 3) := by decide +kernel
set_option maxRecDepth 20000 in
theorem dX7_at_17 : decode cX7_at 17 = .ok (.bipush (-2), 2) := by decide +kernel
set_option maxRecDepth 20000 in
theorem dX7_at_19 : decode cX7_at 19 = .ok (.ireturn, 1) := by decide +kernel
set_option maxRecDepth 20000 in
theorem dX7_swap_0 : decode cX7_swap 0 = .ok (.aload_n 0, 1) := by decide +kernel
set_option maxRecDepth 20000 in
theorem dX7_swap_1 : decode cX7_swap 1 = .ok (.iload_n 1, 1) := by decide +kernel
set_option maxRecDepth 20000 in
theorem dX7_swap_2 : decode cX7_swap 2 = .ok (.invokevirtual 60, 3) := by decide +kernel
set_option maxRecDepth 20000 in
theorem dX7_swap_5 : decode cX7_swap 5 = .ok (.ifCond .eq 11, 3) := by decide +kernel
set_option maxRecDepth 20000 in
theorem dX7_swap_8 : decode cX7_swap 8 = .ok (.aload_n 0, 1) := by decide +kernel
set_option maxRecDepth 20000 in
theorem dX7_swap_9 : decode cX7_swap 9 = .ok (.iload_n 2, 1) := by decide +kernel
set_option maxRecDepth 20000 in
theorem dX7_swap_10 : decode cX7_swap 10 = .ok (.invokevirtual 60, 3) := by decide +kernel
set_option maxRecDepth 20000 in
theorem dX7_swap_13 : decode cX7_swap 13 = .ok (.ifCond .ne 6, 3) := by decide +kernel
set_option maxRecDepth 20000 in
theorem dX7_swap_16 : decode cX7_swap 16 = .ok (.bipush (-2), 2) := by decide +kernel
set_option maxRecDepth 20000 in
theorem dX7_swap_18 : decode cX7_swap 18 = .ok (.ireturn, 1) := by decide +kernel
set_option maxRecDepth 20000 in
theorem dX7_swap_19 : decode cX7_swap 19 = .ok (.aload_n 0, 1) := by decide +kernel
set_option maxRecDepth 20000 in
theorem dX7_swap_20 : decode cX7_swap 20 = .ok (.getfield 13, 3) := by decide +kernel
set_option maxRecDepth 20000 in
theorem dX7_swap_23 : decode cX7_swap 23 = .ok (.iload_n 1, 1) := by decide +kernel
set_option maxRecDepth 20000 in
theorem dX7_swap_24 : decode cX7_swap 24 = .ok (.iaload, 1) := by decide +kernel
set_option maxRecDepth 20000 in
theorem dX7_swap_25 : decode cX7_swap 25 = .ok (.istore_n 3, 1) := by decide +kernel
set_option maxRecDepth 20000 in
theorem dX7_swap_26 : decode cX7_swap 26 = .ok (.aload_n 0, 1) := by decide +kernel
set_option maxRecDepth 20000 in
theorem dX7_swap_27 : decode cX7_swap 27 = .ok (.getfield 13, 3) := by decide +kernel
set_option maxRecDepth 20000 in
theorem dX7_swap_30 : decode cX7_swap 30 = .ok (.iload_n 1, 1) := by decide +kernel
set_option maxRecDepth 20000 in
theorem dX7_swap_31 : decode cX7_swap 31 = .ok (.aload_n 0, 1) := by decide +kernel
set_option maxRecDepth 20000 in
theorem dX7_swap_32 : decode cX7_swap 32 = .ok (.getfield 13, 3) := by decide +kernel
set_option maxRecDepth 20000 in
theorem dX7_swap_35 : decode cX7_swap 35 = .ok (.iload_n 2, 1) := by decide +kernel
set_option maxRecDepth 20000 in
theorem dX7_swap_36 : decode cX7_swap 36 = .ok (.iaload, 1) := by decide +kernel
set_option maxRecDepth 20000 in
theorem dX7_swap_37 : decode cX7_swap 37 = .ok (.iastore, 1) := by decide +kernel
set_option maxRecDepth 20000 in
theorem dX7_swap_38 : decode cX7_swap 38 = .ok (.aload_n 0, 1) := by decide +kernel
set_option maxRecDepth 20000 in
theorem dX7_swap_39 : decode cX7_swap 39 = .ok (.getfield 13, 3) := by decide +kernel
set_option maxRecDepth 20000 in
theorem dX7_swap_42 : decode cX7_swap 42 = .ok (.iload_n 2, 1) := by decide +kernel
set_option maxRecDepth 20000 in
theorem dX7_swap_43 : decode cX7_swap 43 = .ok (.iload_n 3, 1) := by decide +kernel
set_option maxRecDepth 20000 in
theorem dX7_swap_44 : decode cX7_swap 44 = .ok (.iastore, 1) := by decide +kernel
set_option maxRecDepth 20000 in
theorem dX7_swap_45 : decode cX7_swap 45 = .ok (.iconst 1, 1) := by decide +kernel
set_option maxRecDepth 20000 in
theorem dX7_swap_46 : decode cX7_swap 46 = .ok (.ireturn, 1) := by decide +kernel
set_option maxRecDepth 20000 in
theorem dX7_lay_0 : decode cX7_lay 0 = .ok (.iload_n 1, 1) := by decide +kernel
set_option maxRecDepth 20000 in
theorem dX7_lay_1 : decode cX7_lay 1 = .ok (.i2l, 1) := by decide +kernel
set_option maxRecDepth 20000 in
theorem dX7_lay_2 : decode cX7_lay 2 = .ok (.lconst 0, 1) := by decide +kernel
set_option maxRecDepth 20000 in
theorem dX7_lay_3 : decode cX7_lay 3 = .ok (.ldc2_w 64, 3) := by decide +kernel
set_option maxRecDepth 20000 in
theorem dX7_lay_6 : decode cX7_lay 6 = .ok (.invokestatic 51, 3) := by decide +kernel
set_option maxRecDepth 20000 in
theorem dX7_lay_9 : decode cX7_lay 9 = .ok (.ifCond .ne 6, 3) := by decide +kernel
set_option maxRecDepth 20000 in
theorem dX7_lay_12 : decode cX7_lay 12 = .ok (.bipush (-2), 2) := by decide +kernel
set_option maxRecDepth 20000 in
theorem dX7_lay_14 : decode cX7_lay 14 = .ok (.ireturn, 1) := by decide +kernel
set_option maxRecDepth 20000 in
theorem dX7_lay_15 : decode cX7_lay 15 = .ok (.iconst 0, 1) := by decide +kernel
set_option maxRecDepth 20000 in
theorem dX7_lay_16 : decode cX7_lay 16 = .ok (.istore_n 2, 1) := by decide +kernel
set_option maxRecDepth 20000 in
theorem dX7_lay_17 : decode cX7_lay 17 = .ok (.iload_n 2, 1) := by decide +kernel
set_option maxRecDepth 20000 in
theorem dX7_lay_18 : decode cX7_lay 18 = .ok (.aload_n 0, 1) := by decide +kernel
set_option maxRecDepth 20000 in
theorem dX7_lay_19 : decode cX7_lay 19 = .ok (.getfield 7, 3) := by decide +kernel
set_option maxRecDepth 20000 in
theorem dX7_lay_22 : decode cX7_lay 22 = .ok (.if_icmp .ge 26, 3) := by decide +kernel
set_option maxRecDepth 20000 in
theorem dX7_lay_25 : decode cX7_lay 25 = .ok (.aload_n 0, 1) := by decide +kernel
set_option maxRecDepth 20000 in
theorem dX7_lay_26 : decode cX7_lay 26 = .ok (.getfield 17, 3) := by decide +kernel
set_option maxRecDepth 20000 in
theorem dX7_lay_29 : decode cX7_lay 29 = .ok (.bipush 18, 2) := by decide +kernel
set_option maxRecDepth 20000 in
theorem dX7_lay_31 : decode cX7_lay 31 = .ok (.iload_n 1, 1) := by decide +kernel
set_option maxRecDepth 20000 in
theorem dX7_lay_32 : decode cX7_lay 32 = .ok (.imul, 1) := by decide +kernel
set_option maxRecDepth 20000 in
theorem dX7_lay_33 : decode cX7_lay 33 = .ok (.iload_n 2, 1) := by decide +kernel
set_option maxRecDepth 20000 in
theorem dX7_lay_34 : decode cX7_lay 34 = .ok (.iadd, 1) := by decide +kernel
set_option maxRecDepth 20000 in
theorem dX7_lay_35 : decode cX7_lay 35 = .ok (.aload_n 0, 1) := by decide +kernel
set_option maxRecDepth 20000 in
theorem dX7_lay_36 : decode cX7_lay 36 = .ok (.getfield 13, 3) := by decide +kernel
set_option maxRecDepth 20000 in
theorem dX7_lay_39 : decode cX7_lay 39 = .ok (.iload_n 2, 1) := by decide +kernel
set_option maxRecDepth 20000 in
theorem dX7_lay_40 : decode cX7_lay 40 = .ok (.iaload, 1) := by decide +kernel
set_option maxRecDepth 20000 in
theorem dX7_lay_41 : decode cX7_lay 41 = .ok (.iastore, 1) := by decide +kernel
set_option maxRecDepth 20000 in
theorem dX7_lay_42 : decode cX7_lay 42 = .ok (.iinc 2 1, 3) := by decide +kernel
set_option maxRecDepth 20000 in
theorem dX7_lay_45 : decode cX7_lay 45 = .ok (.goto (-28), 3) := by decide +kernel
set_option maxRecDepth 20000 in
theorem dX7_lay_48 : decode cX7_lay 48 = .ok (.iconst 1, 1) := by decide +kernel
set_option maxRecDepth 20000 in
theorem dX7_lay_49 : decode cX7_lay 49 = .ok (.ireturn, 1) := by decide +kernel
set_option maxRecDepth 20000 in
theorem dX7_take_0 : decode cX7_take 0 = .ok (.iload_n 1, 1) := by decide +kernel
set_option maxRecDepth 20000 in
theorem dX7_take_1 : decode cX7_take 1 = .ok (.i2l, 1) := by decide +kernel
set_option maxRecDepth 20000 in
theorem dX7_take_2 : decode cX7_take 2 = .ok (.lconst 0, 1) := by decide +kernel
set_option maxRecDepth 20000 in
theorem dX7_take_3 : decode cX7_take 3 = .ok (.ldc2_w 64, 3) := by decide +kernel
set_option maxRecDepth 20000 in
theorem dX7_take_6 : decode cX7_take 6 = .ok (.invokestatic 51, 3) := by decide +kernel
set_option maxRecDepth 20000 in
theorem dX7_take_9 : decode cX7_take 9 = .ok (.ifCond .ne 6, 3) := by decide +kernel
set_option maxRecDepth 20000 in
theorem dX7_take_12 : decode cX7_take 12 = .ok (.bipush (-2), 2) := by decide +kernel
set_option maxRecDepth 20000 in
theorem dX7_take_14 : decode cX7_take 14 = .ok (.ireturn, 1) := by decide +kernel
set_option maxRecDepth 20000 in
theorem dX7_take_15 : decode cX7_take 15 = .ok (.iconst 0, 1) := by decide +kernel
set_option maxRecDepth 20000 in
theorem dX7_take_16 : decode cX7_take 16 = .ok (.istore_n 2, 1) := by decide +kernel
set_option maxRecDepth 20000 in
theorem dX7_take_17 : decode cX7_take 17 = .ok (.iload_n 2, 1) := by decide +kernel
set_option maxRecDepth 20000 in
theorem dX7_take_18 : decode cX7_take 18 = .ok (.aload_n 0, 1) := by decide +kernel
set_option maxRecDepth 20000 in
theorem dX7_take_19 : decode cX7_take 19 = .ok (.getfield 7, 3) := by decide +kernel
set_option maxRecDepth 20000 in
theorem dX7_take_22 : decode cX7_take 22 = .ok (.if_icmp .ge 26, 3) := by decide +kernel
set_option maxRecDepth 20000 in
theorem dX7_take_25 : decode cX7_take 25 = .ok (.aload_n 0, 1) := by decide +kernel
set_option maxRecDepth 20000 in
theorem dX7_take_26 : decode cX7_take 26 = .ok (.getfield 13, 3) := by decide +kernel
set_option maxRecDepth 20000 in
theorem dX7_take_29 : decode cX7_take 29 = .ok (.iload_n 2, 1) := by decide +kernel
set_option maxRecDepth 20000 in
theorem dX7_take_30 : decode cX7_take 30 = .ok (.aload_n 0, 1) := by decide +kernel
set_option maxRecDepth 20000 in
theorem dX7_take_31 : decode cX7_take 31 = .ok (.getfield 17, 3) := by decide +kernel
set_option maxRecDepth 20000 in
theorem dX7_take_34 : decode cX7_take 34 = .ok (.bipush 18, 2) := by decide +kernel
set_option maxRecDepth 20000 in
theorem dX7_take_36 : decode cX7_take 36 = .ok (.iload_n 1, 1) := by decide +kernel
set_option maxRecDepth 20000 in
theorem dX7_take_37 : decode cX7_take 37 = .ok (.imul, 1) := by decide +kernel
set_option maxRecDepth 20000 in
theorem dX7_take_38 : decode cX7_take 38 = .ok (.iload_n 2, 1) := by decide +kernel
set_option maxRecDepth 20000 in
theorem dX7_take_39 : decode cX7_take 39 = .ok (.iadd, 1) := by decide +kernel
set_option maxRecDepth 20000 in
theorem dX7_take_40 : decode cX7_take 40 = .ok (.iaload, 1) := by decide +kernel
set_option maxRecDepth 20000 in
theorem dX7_take_41 : decode cX7_take 41 = .ok (.iastore, 1) := by decide +kernel
set_option maxRecDepth 20000 in
theorem dX7_take_42 : decode cX7_take 42 = .ok (.iinc 2 1, 3) := by decide +kernel
set_option maxRecDepth 20000 in
theorem dX7_take_45 : decode cX7_take 45 = .ok (.goto (-28), 3) := by decide +kernel
set_option maxRecDepth 20000 in
theorem dX7_take_48 : decode cX7_take 48 = .ok (.iconst 1, 1) := by decide +kernel
set_option maxRecDepth 20000 in
theorem dX7_take_49 : decode cX7_take 49 = .ok (.ireturn, 1) := by decide +kernel
set_option maxRecDepth 20000 in
theorem dX7_then_0 : decode cX7_then 0 = .ok (.iload_n 1, 1) := by decide +kernel
set_option maxRecDepth 20000 in
theorem dX7_then_1 : decode cX7_then 1 = .ok (.i2l, 1) := by decide +kernel
set_option maxRecDepth 20000 in
theorem dX7_then_2 : decode cX7_then 2 = .ok (.lconst 0, 1) := by decide +kernel
set_option maxRecDepth 20000 in
theorem dX7_then_3 : decode cX7_then 3 = .ok (.ldc2_w 64, 3) := by decide +kernel
set_option maxRecDepth 20000 in
theorem dX7_then_6 : decode cX7_then 6 = .ok (.invokestatic 51, 3) := by decide +kernel
set_option maxRecDepth 20000 in
theorem dX7_then_9 : decode cX7_then 9 = .ok (.ifCond .ne 6, 3) := by decide +kernel
set_option maxRecDepth 20000 in
theorem dX7_then_12 : decode cX7_then 12 = .ok (.bipush (-2), 2) := by decide +kernel
set_option maxRecDepth 20000 in
theorem dX7_then_14 : decode cX7_then 14 = .ok (.ireturn, 1) := by decide +kernel
set_option maxRecDepth 20000 in
theorem dX7_then_15 : decode cX7_then 15 = .ok (.iconst 0, 1) := by decide +kernel
set_option maxRecDepth 20000 in
theorem dX7_then_16 : decode cX7_then 16 = .ok (.istore_n 2, 1) := by decide +kernel
set_option maxRecDepth 20000 in
theorem dX7_then_17 : decode cX7_then 17 = .ok (.iload_n 2, 1) := by decide +kernel
set_option maxRecDepth 20000 in
theorem dX7_then_18 : decode cX7_then 18 = .ok (.aload_n 0, 1) := by decide +kernel
set_option maxRecDepth 20000 in
theorem dX7_then_19 : decode cX7_then 19 = .ok (.getfield 7, 3) := by decide +kernel
set_option maxRecDepth 20000 in
theorem dX7_then_22 : decode cX7_then 22 = .ok (.if_icmp .ge 31, 3) := by decide +kernel
set_option maxRecDepth 20000 in
theorem dX7_then_25 : decode cX7_then 25 = .ok (.aload_n 0, 1) := by decide +kernel
set_option maxRecDepth 20000 in
theorem dX7_then_26 : decode cX7_then 26 = .ok (.getfield 29, 3) := by decide +kernel
set_option maxRecDepth 20000 in
theorem dX7_then_29 : decode cX7_then 29 = .ok (.iload_n 2, 1) := by decide +kernel
set_option maxRecDepth 20000 in
theorem dX7_then_30 : decode cX7_then 30 = .ok (.aload_n 0, 1) := by decide +kernel
set_option maxRecDepth 20000 in
theorem dX7_then_31 : decode cX7_then 31 = .ok (.getfield 17, 3) := by decide +kernel
set_option maxRecDepth 20000 in
theorem dX7_then_34 : decode cX7_then 34 = .ok (.bipush 18, 2) := by decide +kernel
set_option maxRecDepth 20000 in
theorem dX7_then_36 : decode cX7_then 36 = .ok (.iload_n 1, 1) := by decide +kernel
set_option maxRecDepth 20000 in
theorem dX7_then_37 : decode cX7_then 37 = .ok (.imul, 1) := by decide +kernel
set_option maxRecDepth 20000 in
theorem dX7_then_38 : decode cX7_then 38 = .ok (.aload_n 0, 1) := by decide +kernel
set_option maxRecDepth 20000 in
theorem dX7_then_39 : decode cX7_then 39 = .ok (.getfield 13, 3) := by decide +kernel
set_option maxRecDepth 20000 in
theorem dX7_then_42 : decode cX7_then 42 = .ok (.iload_n 2, 1) := by decide +kernel
set_option maxRecDepth 20000 in
theorem dX7_then_43 : decode cX7_then 43 = .ok (.iaload, 1) := by decide +kernel
set_option maxRecDepth 20000 in
theorem dX7_then_44 : decode cX7_then 44 = .ok (.iadd, 1) := by decide +kernel
set_option maxRecDepth 20000 in
theorem dX7_then_45 : decode cX7_then 45 = .ok (.iaload, 1) := by decide +kernel
set_option maxRecDepth 20000 in
theorem dX7_then_46 : decode cX7_then 46 = .ok (.iastore, 1) := by decide +kernel
set_option maxRecDepth 20000 in
theorem dX7_then_47 : decode cX7_then 47 = .ok (.iinc 2 1, 3) := by decide +kernel
set_option maxRecDepth 20000 in
theorem dX7_then_50 : decode cX7_then 50 = .ok (.goto (-33), 3) := by decide +kernel
set_option maxRecDepth 20000 in
theorem dX7_then_53 : decode cX7_then 53 = .ok (.aload_n 0, 1) := by decide +kernel
set_option maxRecDepth 20000 in
theorem dX7_then_54 : decode cX7_then 54 = .ok (.invokevirtual 57, 3) := by decide +kernel
set_option maxRecDepth 20000 in
theorem dX7_then_57 : decode cX7_then 57 = .ok (.iconst 1, 1) := by decide +kernel
set_option maxRecDepth 20000 in
theorem dX7_then_58 : decode cX7_then 58 = .ok (.ireturn, 1) := by decide +kernel
set_option maxRecDepth 20000 in
theorem dX7_back_0 : decode cX7_back 0 = .ok (.iconst 0, 1) := by decide +kernel
set_option maxRecDepth 20000 in
theorem dX7_back_1 : decode cX7_back 1 = .ok (.istore_n 1, 1) := by decide +kernel
set_option maxRecDepth 20000 in
theorem dX7_back_2 : decode cX7_back 2 = .ok (.iload_n 1, 1) := by decide +kernel
set_option maxRecDepth 20000 in
theorem dX7_back_3 : decode cX7_back 3 = .ok (.aload_n 0, 1) := by decide +kernel
set_option maxRecDepth 20000 in
theorem dX7_back_4 : decode cX7_back 4 = .ok (.getfield 7, 3) := by decide +kernel
set_option maxRecDepth 20000 in
theorem dX7_back_7 : decode cX7_back 7 = .ok (.if_icmp .ge 21, 3) := by decide +kernel
set_option maxRecDepth 20000 in
theorem dX7_back_10 : decode cX7_back 10 = .ok (.aload_n 0, 1) := by decide +kernel
set_option maxRecDepth 20000 in
theorem dX7_back_11 : decode cX7_back 11 = .ok (.getfield 29, 3) := by decide +kernel
set_option maxRecDepth 20000 in
theorem dX7_back_14 : decode cX7_back 14 = .ok (.aload_n 0, 1) := by decide +kernel
set_option maxRecDepth 20000 in
theorem dX7_back_15 : decode cX7_back 15 = .ok (.getfield 13, 3) := by decide +kernel
set_option maxRecDepth 20000 in
theorem dX7_back_18 : decode cX7_back 18 = .ok (.iload_n 1, 1) := by decide +kernel
set_option maxRecDepth 20000 in
theorem dX7_back_19 : decode cX7_back 19 = .ok (.iaload, 1) := by decide +kernel
set_option maxRecDepth 20000 in
theorem dX7_back_20 : decode cX7_back 20 = .ok (.iload_n 1, 1) := by decide +kernel
set_option maxRecDepth 20000 in
theorem dX7_back_21 : decode cX7_back 21 = .ok (.iastore, 1) := by decide +kernel
set_option maxRecDepth 20000 in
theorem dX7_back_22 : decode cX7_back 22 = .ok (.iinc 1 1, 3) := by decide +kernel
set_option maxRecDepth 20000 in
theorem dX7_back_25 : decode cX7_back 25 = .ok (.goto (-23), 3) := by decide +kernel
set_option maxRecDepth 20000 in
theorem dX7_back_28 : decode cX7_back 28 = .ok (.aload_n 0, 1) := by decide +kernel
set_option maxRecDepth 20000 in
theorem dX7_back_29 : decode cX7_back 29 = .ok (.invokevirtual 57, 3) := by decide +kernel
set_option maxRecDepth 20000 in
theorem dX7_back_32 : decode cX7_back 32 = .ok (.iconst 1, 1) := by decide +kernel
set_option maxRecDepth 20000 in
theorem dX7_back_33 : decode cX7_back 33 = .ok (.ireturn, 1) := by decide +kernel
set_option maxRecDepth 20000 in
theorem dX7_common_0 : decode cX7_common 0 = .ok (.lload_n 0, 1) := by decide +kernel
set_option maxRecDepth 20000 in
theorem dX7_common_1 : decode cX7_common 1 = .ok (.lstore 4, 2) := by decide +kernel
set_option maxRecDepth 20000 in
theorem dX7_common_3 : decode cX7_common 3 = .ok (.lload_n 2, 1) := by decide +kernel
set_option maxRecDepth 20000 in
theorem dX7_common_4 : decode cX7_common 4 = .ok (.lstore 6, 2) := by decide +kernel
set_option maxRecDepth 20000 in
theorem dX7_common_6 : decode cX7_common 6 = .ok (.lload 6, 2) := by decide +kernel
set_option maxRecDepth 20000 in
theorem dX7_common_8 : decode cX7_common 8 = .ok (.lconst 0, 1) := by decide +kernel
set_option maxRecDepth 20000 in
theorem dX7_common_9 : decode cX7_common 9 = .ok (.lcmp, 1) := by decide +kernel
set_option maxRecDepth 20000 in
theorem dX7_common_10 : decode cX7_common 10 = .ok (.ifCond .eq 21, 3) := by decide +kernel
set_option maxRecDepth 20000 in
theorem dX7_common_13 : decode cX7_common 13 = .ok (.lload 4, 2) := by decide +kernel
set_option maxRecDepth 20000 in
theorem dX7_common_15 : decode cX7_common 15 = .ok (.lload 6, 2) := by decide +kernel
set_option maxRecDepth 20000 in
theorem dX7_common_17 : decode cX7_common 17 = .ok (.lrem, 1) := by decide +kernel
set_option maxRecDepth 20000 in
theorem dX7_common_18 : decode cX7_common 18 = .ok (.lstore 8, 2) := by decide +kernel
set_option maxRecDepth 20000 in
theorem dX7_common_20 : decode cX7_common 20 = .ok (.lload 6, 2) := by decide +kernel
set_option maxRecDepth 20000 in
theorem dX7_common_22 : decode cX7_common 22 = .ok (.lstore 4, 2) := by decide +kernel
set_option maxRecDepth 20000 in
theorem dX7_common_24 : decode cX7_common 24 = .ok (.lload 8, 2) := by decide +kernel
set_option maxRecDepth 20000 in
theorem dX7_common_26 : decode cX7_common 26 = .ok (.lstore 6, 2) := by decide +kernel
set_option maxRecDepth 20000 in
theorem dX7_common_28 : decode cX7_common 28 = .ok (.goto (-22), 3) := by decide +kernel
set_option maxRecDepth 20000 in
theorem dX7_common_31 : decode cX7_common 31 = .ok (.lload 4, 2) := by decide +kernel
set_option maxRecDepth 20000 in
theorem dX7_common_33 : decode cX7_common 33 = .ok (.lreturn, 1) := by decide +kernel
set_option maxRecDepth 20000 in
theorem dX7_roundOf_0 : decode cX7_roundOf 0 = .ok (.iconst 1, 1) := by decide +kernel
set_option maxRecDepth 20000 in
theorem dX7_roundOf_1 : decode cX7_roundOf 1 = .ok (.istore_n 2, 1) := by decide +kernel
set_option maxRecDepth 20000 in
theorem dX7_roundOf_2 : decode cX7_roundOf 2 = .ok (.aload_n 0, 1) := by decide +kernel
set_option maxRecDepth 20000 in
theorem dX7_roundOf_3 : decode cX7_roundOf 3 = .ok (.getfield 13, 3) := by decide +kernel
set_option maxRecDepth 20000 in
theorem dX7_roundOf_6 : decode cX7_roundOf 6 = .ok (.iload_n 1, 1) := by decide +kernel
set_option maxRecDepth 20000 in
theorem dX7_roundOf_7 : decode cX7_roundOf 7 = .ok (.iaload, 1) := by decide +kernel
set_option maxRecDepth 20000 in
theorem dX7_roundOf_8 : decode cX7_roundOf 8 = .ok (.istore_n 3, 1) := by decide +kernel
set_option maxRecDepth 20000 in
theorem dX7_roundOf_9 : decode cX7_roundOf 9 = .ok (.iload_n 3, 1) := by decide +kernel
set_option maxRecDepth 20000 in
theorem dX7_roundOf_10 : decode cX7_roundOf 10 = .ok (.iload_n 1, 1) := by decide +kernel
set_option maxRecDepth 20000 in
theorem dX7_roundOf_11 : decode cX7_roundOf 11 = .ok (.if_icmp .eq 16, 3) := by decide +kernel
set_option maxRecDepth 20000 in
theorem dX7_roundOf_14 : decode cX7_roundOf 14 = .ok (.iinc 2 1, 3) := by decide +kernel
set_option maxRecDepth 20000 in
theorem dX7_roundOf_17 : decode cX7_roundOf 17 = .ok (.aload_n 0, 1) := by decide +kernel
set_option maxRecDepth 20000 in
theorem dX7_roundOf_18 : decode cX7_roundOf 18 = .ok (.getfield 13, 3) := by decide +kernel
set_option maxRecDepth 20000 in
theorem dX7_roundOf_21 : decode cX7_roundOf 21 = .ok (.iload_n 3, 1) := by decide +kernel
set_option maxRecDepth 20000 in
theorem dX7_roundOf_22 : decode cX7_roundOf 22 = .ok (.iaload, 1) := by decide +kernel
set_option maxRecDepth 20000 in
theorem dX7_roundOf_23 : decode cX7_roundOf 23 = .ok (.istore_n 3, 1) := by decide +kernel
set_option maxRecDepth 20000 in
theorem dX7_roundOf_24 : decode cX7_roundOf 24 = .ok (.goto (-15), 3) := by decide +kernel
set_option maxRecDepth 20000 in
theorem dX7_roundOf_27 : decode cX7_roundOf 27 = .ok (.iload_n 2, 1) := by decide +kernel
set_option maxRecDepth 20000 in
theorem dX7_roundOf_28 : decode cX7_roundOf 28 = .ok (.ireturn, 1) := by decide +kernel
set_option maxRecDepth 20000 in
theorem dX7_isRecord_0 : decode cX7_isRecord 0 = .ok (.iconst 1, 1) := by decide +kernel
set_option maxRecDepth 20000 in
theorem dX7_isRecord_1 : decode cX7_isRecord 1 = .ok (.istore_n 2, 1) := by decide +kernel
set_option maxRecDepth 20000 in
theorem dX7_isRecord_2 : decode cX7_isRecord 2 = .ok (.iconst 0, 1) := by decide +kernel
set_option maxRecDepth 20000 in
theorem dX7_isRecord_3 : decode cX7_isRecord 3 = .ok (.istore_n 3, 1) := by decide +kernel
set_option maxRecDepth 20000 in
theorem dX7_isRecord_4 : decode cX7_isRecord 4 = .ok (.iload_n 3, 1) := by decide +kernel
set_option maxRecDepth 20000 in
theorem dX7_isRecord_5 : decode cX7_isRecord 5 = .ok (.iload_n 1, 1) := by decide +kernel
set_option maxRecDepth 20000 in
theorem dX7_isRecord_6 : decode cX7_isRecord 6 = .ok (.if_icmp .ge 34, 3) := by decide +kernel
set_option maxRecDepth 20000 in
theorem dX7_isRecord_9 : decode cX7_isRecord 9 = .ok (.iload_n 2, 1) := by decide +kernel
set_option maxRecDepth 20000 in
theorem dX7_isRecord_10 : decode cX7_isRecord 10 = .ok (.ifCond .eq 22, 3) := by decide +kernel
set_option maxRecDepth 20000 in
theorem dX7_isRecord_13 : decode cX7_isRecord 13 = .ok (.aload_n 0, 1) := by decide +kernel
set_option maxRecDepth 20000 in
theorem dX7_isRecord_14 : decode cX7_isRecord 14 = .ok (.getfield 13, 3) := by decide +kernel
set_option maxRecDepth 20000 in
theorem dX7_isRecord_17 : decode cX7_isRecord 17 = .ok (.iload_n 3, 1) := by decide +kernel
set_option maxRecDepth 20000 in
theorem dX7_isRecord_18 : decode cX7_isRecord 18 = .ok (.iaload, 1) := by decide +kernel
set_option maxRecDepth 20000 in
theorem dX7_isRecord_19 : decode cX7_isRecord 19 = .ok (.aload_n 0, 1) := by decide +kernel
set_option maxRecDepth 20000 in
theorem dX7_isRecord_20 : decode cX7_isRecord 20 = .ok (.getfield 13, 3) := by decide +kernel
set_option maxRecDepth 20000 in
theorem dX7_isRecord_23 : decode cX7_isRecord 23 = .ok (.iload_n 1, 1) := by decide +kernel
set_option maxRecDepth 20000 in
theorem dX7_isRecord_24 : decode cX7_isRecord 24 = .ok (.iaload, 1) := by decide +kernel
set_option maxRecDepth 20000 in
theorem dX7_isRecord_25 : decode cX7_isRecord 25 = .ok (.if_icmp .ge 7, 3) := by decide +kernel
set_option maxRecDepth 20000 in
theorem dX7_isRecord_28 : decode cX7_isRecord 28 = .ok (.iconst 1, 1) := by decide +kernel
set_option maxRecDepth 20000 in
theorem dX7_isRecord_29 : decode cX7_isRecord 29 = .ok (.goto 4, 3) := by decide +kernel
set_option maxRecDepth 20000 in
theorem dX7_isRecord_32 : decode cX7_isRecord 32 = .ok (.iconst 0, 1) := by decide +kernel
set_option maxRecDepth 20000 in
theorem dX7_isRecord_33 : decode cX7_isRecord 33 = .ok (.istore_n 2, 1) := by decide +kernel
set_option maxRecDepth 20000 in
theorem dX7_isRecord_34 : decode cX7_isRecord 34 = .ok (.iinc 3 1, 3) := by decide +kernel
set_option maxRecDepth 20000 in
theorem dX7_isRecord_37 : decode cX7_isRecord 37 = .ok (.goto (-33), 3) := by decide +kernel
set_option maxRecDepth 20000 in
theorem dX7_isRecord_40 : decode cX7_isRecord 40 = .ok (.iload_n 2, 1) := by decide +kernel
set_option maxRecDepth 20000 in
theorem dX7_isRecord_41 : decode cX7_isRecord 41 = .ok (.ireturn, 1) := by decide +kernel
set_option maxRecDepth 20000 in
theorem dX7_isFirst_0 : decode cX7_isFirst 0 = .ok (.iconst 1, 1) := by decide +kernel
set_option maxRecDepth 20000 in
theorem dX7_isFirst_1 : decode cX7_isFirst 1 = .ok (.istore_n 2, 1) := by decide +kernel
set_option maxRecDepth 20000 in
theorem dX7_isFirst_2 : decode cX7_isFirst 2 = .ok (.aload_n 0, 1) := by decide +kernel
set_option maxRecDepth 20000 in
theorem dX7_isFirst_3 : decode cX7_isFirst 3 = .ok (.getfield 13, 3) := by decide +kernel
set_option maxRecDepth 20000 in
theorem dX7_isFirst_6 : decode cX7_isFirst 6 = .ok (.iload_n 1, 1) := by decide +kernel
set_option maxRecDepth 20000 in
theorem dX7_isFirst_7 : decode cX7_isFirst 7 = .ok (.iaload, 1) := by decide +kernel
set_option maxRecDepth 20000 in
theorem dX7_isFirst_8 : decode cX7_isFirst 8 = .ok (.istore_n 3, 1) := by decide +kernel
set_option maxRecDepth 20000 in
theorem dX7_isFirst_9 : decode cX7_isFirst 9 = .ok (.iload_n 3, 1) := by decide +kernel
set_option maxRecDepth 20000 in
theorem dX7_isFirst_10 : decode cX7_isFirst 10 = .ok (.iload_n 1, 1) := by decide +kernel
set_option maxRecDepth 20000 in
theorem dX7_isFirst_11 : decode cX7_isFirst 11 = .ok (.if_icmp .eq 28, 3) := by decide +kernel
set_option maxRecDepth 20000 in
theorem dX7_isFirst_14 : decode cX7_isFirst 14 = .ok (.iload_n 2, 1) := by decide +kernel
set_option maxRecDepth 20000 in
theorem dX7_isFirst_15 : decode cX7_isFirst 15 = .ok (.ifCond .eq 12, 3) := by decide +kernel
set_option maxRecDepth 20000 in
theorem dX7_isFirst_18 : decode cX7_isFirst 18 = .ok (.iload_n 3, 1) := by decide +kernel
set_option maxRecDepth 20000 in
theorem dX7_isFirst_19 : decode cX7_isFirst 19 = .ok (.iload_n 1, 1) := by decide +kernel
set_option maxRecDepth 20000 in
theorem dX7_isFirst_20 : decode cX7_isFirst 20 = .ok (.if_icmp .le 7, 3) := by decide +kernel
set_option maxRecDepth 20000 in
theorem dX7_isFirst_23 : decode cX7_isFirst 23 = .ok (.iconst 1, 1) := by decide +kernel
set_option maxRecDepth 20000 in
theorem dX7_isFirst_24 : decode cX7_isFirst 24 = .ok (.goto 4, 3) := by decide +kernel
set_option maxRecDepth 20000 in
theorem dX7_isFirst_27 : decode cX7_isFirst 27 = .ok (.iconst 0, 1) := by decide +kernel
set_option maxRecDepth 20000 in
theorem dX7_isFirst_28 : decode cX7_isFirst 28 = .ok (.istore_n 2, 1) := by decide +kernel
set_option maxRecDepth 20000 in
theorem dX7_isFirst_29 : decode cX7_isFirst 29 = .ok (.aload_n 0, 1) := by decide +kernel
set_option maxRecDepth 20000 in
theorem dX7_isFirst_30 : decode cX7_isFirst 30 = .ok (.getfield 13, 3) := by decide +kernel
set_option maxRecDepth 20000 in
theorem dX7_isFirst_33 : decode cX7_isFirst 33 = .ok (.iload_n 3, 1) := by decide +kernel
set_option maxRecDepth 20000 in
theorem dX7_isFirst_34 : decode cX7_isFirst 34 = .ok (.iaload, 1) := by decide +kernel
set_option maxRecDepth 20000 in
theorem dX7_isFirst_35 : decode cX7_isFirst 35 = .ok (.istore_n 3, 1) := by decide +kernel
set_option maxRecDepth 20000 in
theorem dX7_isFirst_36 : decode cX7_isFirst 36 = .ok (.goto (-27), 3) := by decide +kernel
set_option maxRecDepth 20000 in
theorem dX7_isFirst_39 : decode cX7_isFirst 39 = .ok (.iload_n 2, 1) := by decide +kernel
set_option maxRecDepth 20000 in
theorem dX7_isFirst_40 : decode cX7_isFirst 40 = .ok (.ireturn, 1) := by decide +kernel
set_option maxRecDepth 20000 in
theorem dX7_longestRise_0 : decode cX7_longestRise 0 = .ok (.iconst 0, 1) := by decide +kernel
set_option maxRecDepth 20000 in
theorem dX7_longestRise_1 : decode cX7_longestRise 1 = .ok (.istore_n 1, 1) := by decide +kernel
set_option maxRecDepth 20000 in
theorem dX7_longestRise_2 : decode cX7_longestRise 2 = .ok (.iconst 0, 1) := by decide +kernel
set_option maxRecDepth 20000 in
theorem dX7_longestRise_3 : decode cX7_longestRise 3 = .ok (.istore_n 2, 1) := by decide +kernel
set_option maxRecDepth 20000 in
theorem dX7_longestRise_4 : decode cX7_longestRise 4 = .ok (.iload_n 2, 1) := by decide +kernel
set_option maxRecDepth 20000 in
theorem dX7_longestRise_5 : decode cX7_longestRise 5 = .ok (.aload_n 0, 1) := by decide +kernel
set_option maxRecDepth 20000 in
theorem dX7_longestRise_6 : decode cX7_longestRise 6 = .ok (.getfield 7, 3) := by decide +kernel
set_option maxRecDepth 20000 in
theorem dX7_longestRise_9 : decode cX7_longestRise 9 = .ok (.if_icmp .ge 105, 3) := by decide +kernel
set_option maxRecDepth 20000 in
theorem dX7_longestRise_12 : decode cX7_longestRise 12 = .ok (.aload_n 0, 1) := by decide +kernel
set_option maxRecDepth 20000 in
theorem dX7_longestRise_13 : decode cX7_longestRise 13 = .ok (.getfield 29, 3) := by decide +kernel
set_option maxRecDepth 20000 in
theorem dX7_longestRise_16 : decode cX7_longestRise 16 = .ok (.iload_n 2, 1) := by decide +kernel
set_option maxRecDepth 20000 in
theorem dX7_longestRise_17 : decode cX7_longestRise 17 = .ok (.iconst 1, 1) := by decide +kernel
set_option maxRecDepth 20000 in
theorem dX7_longestRise_18 : decode cX7_longestRise 18 = .ok (.iastore, 1) := by decide +kernel
set_option maxRecDepth 20000 in
theorem dX7_longestRise_19 : decode cX7_longestRise 19 = .ok (.iconst 0, 1) := by decide +kernel
set_option maxRecDepth 20000 in
theorem dX7_longestRise_20 : decode cX7_longestRise 20 = .ok (.istore_n 3, 1) := by decide +kernel
set_option maxRecDepth 20000 in
theorem dX7_longestRise_21 : decode cX7_longestRise 21 = .ok (.iload_n 3, 1) := by decide +kernel
set_option maxRecDepth 20000 in
theorem dX7_longestRise_22 : decode cX7_longestRise 22 = .ok (.iload_n 2, 1) := by decide +kernel
set_option maxRecDepth 20000 in
theorem dX7_longestRise_23 : decode cX7_longestRise 23 = .ok (.if_icmp .ge 64, 3) := by decide +kernel
set_option maxRecDepth 20000 in
theorem dX7_longestRise_26 : decode cX7_longestRise 26 = .ok (.aload_n 0, 1) := by decide +kernel
set_option maxRecDepth 20000 in
theorem dX7_longestRise_27 : decode cX7_longestRise 27 = .ok (.getfield 29, 3) := by decide +kernel
set_option maxRecDepth 20000 in
theorem dX7_longestRise_30 : decode cX7_longestRise 30 = .ok (.iload_n 2, 1) := by decide +kernel
set_option maxRecDepth 20000 in
theorem dX7_longestRise_31 : decode cX7_longestRise 31 = .ok (.aload_n 0, 1) := by decide +kernel
set_option maxRecDepth 20000 in
theorem dX7_longestRise_32 : decode cX7_longestRise 32 = .ok (.getfield 13, 3) := by decide +kernel
set_option maxRecDepth 20000 in
theorem dX7_longestRise_35 : decode cX7_longestRise 35 = .ok (.iload_n 3, 1) := by decide +kernel
set_option maxRecDepth 20000 in
theorem dX7_longestRise_36 : decode cX7_longestRise 36 = .ok (.iaload, 1) := by decide +kernel
set_option maxRecDepth 20000 in
theorem dX7_longestRise_37 : decode cX7_longestRise 37 = .ok (.aload_n 0, 1) := by decide +kernel
set_option maxRecDepth 20000 in
theorem dX7_longestRise_38 : decode cX7_longestRise 38 = .ok (.getfield 13, 3) := by decide +kernel
set_option maxRecDepth 20000 in
theorem dX7_longestRise_41 : decode cX7_longestRise 41 = .ok (.iload_n 2, 1) := by decide +kernel
set_option maxRecDepth 20000 in
theorem dX7_longestRise_42 : decode cX7_longestRise 42 = .ok (.iaload, 1) := by decide +kernel
set_option maxRecDepth 20000 in
theorem dX7_longestRise_43 : decode cX7_longestRise 43 = .ok (.if_icmp .ge 31, 3) := by decide +kernel
set_option maxRecDepth 20000 in
theorem dX7_longestRise_46 : decode cX7_longestRise 46 = .ok (.aload_n 0, 1) := by decide +kernel
set_option maxRecDepth 20000 in
theorem dX7_longestRise_47 : decode cX7_longestRise 47 = .ok (.getfield 29, 3) := by decide +kernel
set_option maxRecDepth 20000 in
theorem dX7_longestRise_50 : decode cX7_longestRise 50 = .ok (.iload_n 3, 1) := by decide +kernel
set_option maxRecDepth 20000 in
theorem dX7_longestRise_51 : decode cX7_longestRise 51 = .ok (.iaload, 1) := by decide +kernel
set_option maxRecDepth 20000 in
theorem dX7_longestRise_52 : decode cX7_longestRise 52 = .ok (.iconst 1, 1) := by decide +kernel
set_option maxRecDepth 20000 in
theorem dX7_longestRise_53 : decode cX7_longestRise 53 = .ok (.iadd, 1) := by decide +kernel
set_option maxRecDepth 20000 in
theorem dX7_longestRise_54 : decode cX7_longestRise 54 = .ok (.aload_n 0, 1) := by decide +kernel
set_option maxRecDepth 20000 in
theorem dX7_longestRise_55 : decode cX7_longestRise 55 = .ok (.getfield 29, 3) := by decide +kernel
set_option maxRecDepth 20000 in
theorem dX7_longestRise_58 : decode cX7_longestRise 58 = .ok (.iload_n 2, 1) := by decide +kernel
set_option maxRecDepth 20000 in
theorem dX7_longestRise_59 : decode cX7_longestRise 59 = .ok (.iaload, 1) := by decide +kernel
set_option maxRecDepth 20000 in
theorem dX7_longestRise_60 : decode cX7_longestRise 60 = .ok (.if_icmp .le 14, 3) := by decide +kernel
set_option maxRecDepth 20000 in
theorem dX7_longestRise_63 : decode cX7_longestRise 63 = .ok (.aload_n 0, 1) := by decide +kernel
set_option maxRecDepth 20000 in
theorem dX7_longestRise_64 : decode cX7_longestRise 64 = .ok (.getfield 29, 3) := by decide +kernel
set_option maxRecDepth 20000 in
theorem dX7_longestRise_67 : decode cX7_longestRise 67 = .ok (.iload_n 3, 1) := by decide +kernel
set_option maxRecDepth 20000 in
theorem dX7_longestRise_68 : decode cX7_longestRise 68 = .ok (.iaload, 1) := by decide +kernel
set_option maxRecDepth 20000 in
theorem dX7_longestRise_69 : decode cX7_longestRise 69 = .ok (.iconst 1, 1) := by decide +kernel
set_option maxRecDepth 20000 in
theorem dX7_longestRise_70 : decode cX7_longestRise 70 = .ok (.iadd, 1) := by decide +kernel
set_option maxRecDepth 20000 in
theorem dX7_longestRise_71 : decode cX7_longestRise 71 = .ok (.goto 9, 3) := by decide +kernel
set_option maxRecDepth 20000 in
theorem dX7_longestRise_74 : decode cX7_longestRise 74 = .ok (.aload_n 0, 1) := by decide +kernel
set_option maxRecDepth 20000 in
theorem dX7_longestRise_75 : decode cX7_longestRise 75 = .ok (.getfield 29, 3) := by decide +kernel
set_option maxRecDepth 20000 in
theorem dX7_longestRise_78 : decode cX7_longestRise 78 = .ok (.iload_n 2, 1) := by decide +kernel
set_option maxRecDepth 20000 in
theorem dX7_longestRise_79 : decode cX7_longestRise 79 = .ok (.iaload, 1) := by decide +kernel
set_option maxRecDepth 20000 in
theorem dX7_longestRise_80 : decode cX7_longestRise 80 = .ok (.iastore, 1) := by decide +kernel
set_option maxRecDepth 20000 in
theorem dX7_longestRise_81 : decode cX7_longestRise 81 = .ok (.iinc 3 1, 3) := by decide +kernel
set_option maxRecDepth 20000 in
theorem dX7_longestRise_84 : decode cX7_longestRise 84 = .ok (.goto (-63), 3) := by decide +kernel
set_option maxRecDepth 20000 in
theorem dX7_longestRise_87 : decode cX7_longestRise 87 = .ok (.aload_n 0, 1) := by decide +kernel
set_option maxRecDepth 20000 in
theorem dX7_longestRise_88 : decode cX7_longestRise 88 = .ok (.getfield 29, 3) := by decide +kernel
set_option maxRecDepth 20000 in
theorem dX7_longestRise_91 : decode cX7_longestRise 91 = .ok (.iload_n 2, 1) := by decide +kernel
set_option maxRecDepth 20000 in
theorem dX7_longestRise_92 : decode cX7_longestRise 92 = .ok (.iaload, 1) := by decide +kernel
set_option maxRecDepth 20000 in
theorem dX7_longestRise_93 : decode cX7_longestRise 93 = .ok (.iload_n 1, 1) := by decide +kernel
set_option maxRecDepth 20000 in
theorem dX7_longestRise_94 : decode cX7_longestRise 94 = .ok (.if_icmp .le 12, 3) := by decide +kernel
set_option maxRecDepth 20000 in
theorem dX7_longestRise_97 : decode cX7_longestRise 97 = .ok (.aload_n 0, 1) := by decide +kernel
set_option maxRecDepth 20000 in
theorem dX7_longestRise_98 : decode cX7_longestRise 98 = .ok (.getfield 29, 3) := by decide +kernel
set_option maxRecDepth 20000 in
theorem dX7_longestRise_101 : decode cX7_longestRise 101 = .ok (.iload_n 2, 1) := by decide +kernel
set_option maxRecDepth 20000 in
theorem dX7_longestRise_102 : decode cX7_longestRise 102 = .ok (.iaload, 1) := by decide +kernel
set_option maxRecDepth 20000 in
theorem dX7_longestRise_103 : decode cX7_longestRise 103 = .ok (.goto 4, 3) := by decide +kernel
set_option maxRecDepth 20000 in
theorem dX7_longestRise_106 : decode cX7_longestRise 106 = .ok (.iload_n 1, 1) := by decide +kernel
set_option maxRecDepth 20000 in
theorem dX7_longestRise_107 : decode cX7_longestRise 107 = .ok (.istore_n 1, 1) := by decide +kernel
set_option maxRecDepth 20000 in
theorem dX7_longestRise_108 : decode cX7_longestRise 108 = .ok (.iinc 2 1, 3) := by decide +kernel
set_option maxRecDepth 20000 in
theorem dX7_longestRise_111 : decode cX7_longestRise 111 = .ok (.goto (-107), 3) := by decide +kernel
set_option maxRecDepth 20000 in
theorem dX7_longestRise_114 : decode cX7_longestRise 114 = .ok (.iload_n 1, 1) := by decide +kernel
set_option maxRecDepth 20000 in
theorem dX7_longestRise_115 : decode cX7_longestRise 115 = .ok (.ireturn, 1) := by decide +kernel
set_option maxRecDepth 20000 in
theorem dX7_out_0 : decode cX7_out 0 = .ok (.iconst 0, 1) := by decide +kernel
set_option maxRecDepth 20000 in
theorem dX7_out_1 : decode cX7_out 1 = .ok (.istore_n 1, 1) := by decide +kernel
set_option maxRecDepth 20000 in
theorem dX7_out_2 : decode cX7_out 2 = .ok (.iconst 0, 1) := by decide +kernel
set_option maxRecDepth 20000 in
theorem dX7_out_3 : decode cX7_out 3 = .ok (.istore_n 2, 1) := by decide +kernel
set_option maxRecDepth 20000 in
theorem dX7_out_4 : decode cX7_out 4 = .ok (.iload_n 2, 1) := by decide +kernel
set_option maxRecDepth 20000 in
theorem dX7_out_5 : decode cX7_out 5 = .ok (.aload_n 0, 1) := by decide +kernel
set_option maxRecDepth 20000 in
theorem dX7_out_6 : decode cX7_out 6 = .ok (.getfield 7, 3) := by decide +kernel
set_option maxRecDepth 20000 in
theorem dX7_out_9 : decode cX7_out 9 = .ok (.if_icmp .ge 50, 3) := by decide +kernel
set_option maxRecDepth 20000 in
theorem dX7_out_12 : decode cX7_out 12 = .ok (.iload_n 2, 1) := by decide +kernel
set_option maxRecDepth 20000 in
theorem dX7_out_13 : decode cX7_out 13 = .ok (.iconst 1, 1) := by decide +kernel
set_option maxRecDepth 20000 in
theorem dX7_out_14 : decode cX7_out 14 = .ok (.iadd, 1) := by decide +kernel
set_option maxRecDepth 20000 in
theorem dX7_out_15 : decode cX7_out 15 = .ok (.istore_n 3, 1) := by decide +kernel
set_option maxRecDepth 20000 in
theorem dX7_out_16 : decode cX7_out 16 = .ok (.iload_n 3, 1) := by decide +kernel
set_option maxRecDepth 20000 in
theorem dX7_out_17 : decode cX7_out 17 = .ok (.aload_n 0, 1) := by decide +kernel
set_option maxRecDepth 20000 in
theorem dX7_out_18 : decode cX7_out 18 = .ok (.getfield 7, 3) := by decide +kernel
set_option maxRecDepth 20000 in
theorem dX7_out_21 : decode cX7_out 21 = .ok (.if_icmp .ge 32, 3) := by decide +kernel
set_option maxRecDepth 20000 in
theorem dX7_out_24 : decode cX7_out 24 = .ok (.iload_n 1, 1) := by decide +kernel
set_option maxRecDepth 20000 in
theorem dX7_out_25 : decode cX7_out 25 = .ok (.aload_n 0, 1) := by decide +kernel
set_option maxRecDepth 20000 in
theorem dX7_out_26 : decode cX7_out 26 = .ok (.getfield 13, 3) := by decide +kernel
set_option maxRecDepth 20000 in
theorem dX7_out_29 : decode cX7_out 29 = .ok (.iload_n 2, 1) := by decide +kernel
set_option maxRecDepth 20000 in
theorem dX7_out_30 : decode cX7_out 30 = .ok (.iaload, 1) := by decide +kernel
set_option maxRecDepth 20000 in
theorem dX7_out_31 : decode cX7_out 31 = .ok (.aload_n 0, 1) := by decide +kernel
set_option maxRecDepth 20000 in
theorem dX7_out_32 : decode cX7_out 32 = .ok (.getfield 13, 3) := by decide +kernel
set_option maxRecDepth 20000 in
theorem dX7_out_35 : decode cX7_out 35 = .ok (.iload_n 3, 1) := by decide +kernel
set_option maxRecDepth 20000 in
theorem dX7_out_36 : decode cX7_out 36 = .ok (.iaload, 1) := by decide +kernel
set_option maxRecDepth 20000 in
theorem dX7_out_37 : decode cX7_out 37 = .ok (.if_icmp .le 7, 3) := by decide +kernel
set_option maxRecDepth 20000 in
theorem dX7_out_40 : decode cX7_out 40 = .ok (.iconst 1, 1) := by decide +kernel
set_option maxRecDepth 20000 in
theorem dX7_out_41 : decode cX7_out 41 = .ok (.goto 4, 3) := by decide +kernel
set_option maxRecDepth 20000 in
theorem dX7_out_44 : decode cX7_out 44 = .ok (.iconst 0, 1) := by decide +kernel
set_option maxRecDepth 20000 in
theorem dX7_out_45 : decode cX7_out 45 = .ok (.iadd, 1) := by decide +kernel
set_option maxRecDepth 20000 in
theorem dX7_out_46 : decode cX7_out 46 = .ok (.istore_n 1, 1) := by decide +kernel
set_option maxRecDepth 20000 in
theorem dX7_out_47 : decode cX7_out 47 = .ok (.iinc 3 1, 3) := by decide +kernel
set_option maxRecDepth 20000 in
theorem dX7_out_50 : decode cX7_out 50 = .ok (.goto (-34), 3) := by decide +kernel
set_option maxRecDepth 20000 in
theorem dX7_out_53 : decode cX7_out 53 = .ok (.iinc 2 1, 3) := by decide +kernel
set_option maxRecDepth 20000 in
theorem dX7_out_56 : decode cX7_out 56 = .ok (.goto (-52), 3) := by decide +kernel
set_option maxRecDepth 20000 in
theorem dX7_out_59 : decode cX7_out 59 = .ok (.iload_n 1, 1) := by decide +kernel
set_option maxRecDepth 20000 in
theorem dX7_out_60 : decode cX7_out 60 = .ok (.ireturn, 1) := by decide +kernel
set_option maxRecDepth 20000 in
theorem dX7_numberOf_0 : decode cX7_numberOf 0 = .ok (.iconst 0, 1) := by decide +kernel
set_option maxRecDepth 20000 in
theorem dX7_numberOf_1 : decode cX7_numberOf 1 = .ok (.istore_n 2, 1) := by decide +kernel
set_option maxRecDepth 20000 in
theorem dX7_numberOf_2 : decode cX7_numberOf 2 = .ok (.iconst 0, 1) := by decide +kernel
set_option maxRecDepth 20000 in
theorem dX7_numberOf_3 : decode cX7_numberOf 3 = .ok (.istore_n 3, 1) := by decide +kernel
set_option maxRecDepth 20000 in
theorem dX7_numberOf_4 : decode cX7_numberOf 4 = .ok (.lconst 1, 1) := by decide +kernel
set_option maxRecDepth 20000 in
theorem dX7_numberOf_5 : decode cX7_numberOf 5 = .ok (.lstore 4, 2) := by decide +kernel
set_option maxRecDepth 20000 in
theorem dX7_numberOf_7 : decode cX7_numberOf 7 = .ok (.iconst 0, 1) := by decide +kernel
set_option maxRecDepth 20000 in
theorem dX7_numberOf_8 : decode cX7_numberOf 8 = .ok (.istore 6, 2) := by decide +kernel
set_option maxRecDepth 20000 in
theorem dX7_numberOf_10 : decode cX7_numberOf 10 = .ok (.iload 6, 2) := by decide +kernel
set_option maxRecDepth 20000 in
theorem dX7_numberOf_12 : decode cX7_numberOf 12 = .ok (.aload_n 0, 1) := by decide +kernel
set_option maxRecDepth 20000 in
theorem dX7_numberOf_13 : decode cX7_numberOf 13 = .ok (.getfield 7, 3) := by decide +kernel
set_option maxRecDepth 20000 in
theorem dX7_numberOf_16 : decode cX7_numberOf 16 = .ok (.if_icmp .ge 149, 3) := by decide +kernel
set_option maxRecDepth 20000 in
theorem dX7_numberOf_19 : decode cX7_numberOf 19 = .ok (.aload_n 0, 1) := by decide +kernel
set_option maxRecDepth 20000 in
theorem dX7_numberOf_20 : decode cX7_numberOf 20 = .ok (.iload 6, 2) := by decide +kernel
set_option maxRecDepth 20000 in
theorem dX7_numberOf_22 : decode cX7_numberOf 22 = .ok (.invokevirtual 66, 3) := by decide +kernel
set_option maxRecDepth 20000 in
theorem dX7_numberOf_25 : decode cX7_numberOf 25 = .ok (.istore 7, 2) := by decide +kernel
set_option maxRecDepth 20000 in
theorem dX7_numberOf_27 : decode cX7_numberOf 27 = .ok (.iload 7, 2) := by decide +kernel
set_option maxRecDepth 20000 in
theorem dX7_numberOf_29 : decode cX7_numberOf 29 = .ok (.iload_n 3, 1) := by decide +kernel
set_option maxRecDepth 20000 in
theorem dX7_numberOf_30 : decode cX7_numberOf 30 = .ok (.if_icmp .le 8, 3) := by decide +kernel
set_option maxRecDepth 20000 in
theorem dX7_numberOf_33 : decode cX7_numberOf 33 = .ok (.iload 7, 2) := by decide +kernel
set_option maxRecDepth 20000 in
theorem dX7_numberOf_35 : decode cX7_numberOf 35 = .ok (.goto 4, 3) := by decide +kernel
set_option maxRecDepth 20000 in
theorem dX7_numberOf_38 : decode cX7_numberOf 38 = .ok (.iload_n 3, 1) := by decide +kernel
set_option maxRecDepth 20000 in
theorem dX7_numberOf_39 : decode cX7_numberOf 39 = .ok (.istore_n 3, 1) := by decide +kernel
set_option maxRecDepth 20000 in
theorem dX7_numberOf_40 : decode cX7_numberOf 40 = .ok (.lload 4, 2) := by decide +kernel
set_option maxRecDepth 20000 in
theorem dX7_numberOf_42 : decode cX7_numberOf 42 = .ok (.lload 4, 2) := by decide +kernel
set_option maxRecDepth 20000 in
theorem dX7_numberOf_44 : decode cX7_numberOf 44 = .ok (.iload 7, 2) := by decide +kernel
set_option maxRecDepth 20000 in
theorem dX7_numberOf_46 : decode cX7_numberOf 46 = .ok (.i2l, 1) := by decide +kernel
set_option maxRecDepth 20000 in
theorem dX7_numberOf_47 : decode cX7_numberOf 47 = .ok (.invokestatic 70, 3) := by decide +kernel
set_option maxRecDepth 20000 in
theorem dX7_numberOf_50 : decode cX7_numberOf 50 = .ok (.ldiv, 1) := by decide +kernel
set_option maxRecDepth 20000 in
theorem dX7_numberOf_51 : decode cX7_numberOf 51 = .ok (.iload 7, 2) := by decide +kernel
set_option maxRecDepth 20000 in
theorem dX7_numberOf_53 : decode cX7_numberOf 53 = .ok (.i2l, 1) := by decide +kernel
set_option maxRecDepth 20000 in
theorem dX7_numberOf_54 : decode cX7_numberOf 54 = .ok (.lmul, 1) := by decide +kernel
set_option maxRecDepth 20000 in
theorem dX7_numberOf_55 : decode cX7_numberOf 55 = .ok (.lstore 4, 2) := by decide +kernel
set_option maxRecDepth 20000 in
theorem dX7_numberOf_57 : decode cX7_numberOf 57 = .ok (.iload_n 1, 1) := by decide +kernel
set_option maxRecDepth 20000 in
theorem dX7_numberOf_58 : decode cX7_numberOf 58 = .ok (.ifCond .ne 12, 3) := by decide +kernel
set_option maxRecDepth 20000 in
theorem dX7_numberOf_61 : decode cX7_numberOf 61 = .ok (.aload_n 0, 1) := by decide +kernel
set_option maxRecDepth 20000 in
theorem dX7_numberOf_62 : decode cX7_numberOf 62 = .ok (.iload 6, 2) := by decide +kernel
set_option maxRecDepth 20000 in
theorem dX7_numberOf_64 : decode cX7_numberOf 64 = .ok (.invokevirtual 74, 3) := by decide +kernel
set_option maxRecDepth 20000 in
theorem dX7_numberOf_67 : decode cX7_numberOf 67 = .ok (.goto 77, 3) := by decide +kernel
set_option maxRecDepth 20000 in
theorem dX7_numberOf_70 : decode cX7_numberOf 70 = .ok (.iload_n 1, 1) := by decide +kernel
set_option maxRecDepth 20000 in
theorem dX7_numberOf_71 : decode cX7_numberOf 71 = .ok (.iconst 1, 1) := by decide +kernel
set_option maxRecDepth 20000 in
theorem dX7_numberOf_72 : decode cX7_numberOf 72 = .ok (.if_icmp .ne 12, 3) := by decide +kernel
set_option maxRecDepth 20000 in
theorem dX7_numberOf_75 : decode cX7_numberOf 75 = .ok (.aload_n 0, 1) := by decide +kernel
set_option maxRecDepth 20000 in
theorem dX7_numberOf_76 : decode cX7_numberOf 76 = .ok (.iload 6, 2) := by decide +kernel
set_option maxRecDepth 20000 in
theorem dX7_numberOf_78 : decode cX7_numberOf 78 = .ok (.invokevirtual 77, 3) := by decide +kernel
set_option maxRecDepth 20000 in
theorem dX7_numberOf_81 : decode cX7_numberOf 81 = .ok (.goto 63, 3) := by decide +kernel
set_option maxRecDepth 20000 in
theorem dX7_numberOf_84 : decode cX7_numberOf 84 = .ok (.iload_n 1, 1) := by decide +kernel
set_option maxRecDepth 20000 in
theorem dX7_numberOf_85 : decode cX7_numberOf 85 = .ok (.iconst 2, 1) := by decide +kernel
set_option maxRecDepth 20000 in
theorem dX7_numberOf_86 : decode cX7_numberOf 86 = .ok (.if_icmp .ne 41, 3) := by decide +kernel
set_option maxRecDepth 20000 in
theorem dX7_numberOf_89 : decode cX7_numberOf 89 = .ok (.iload 6, 2) := by decide +kernel
set_option maxRecDepth 20000 in
theorem dX7_numberOf_91 : decode cX7_numberOf 91 = .ok (.aload_n 0, 1) := by decide +kernel
set_option maxRecDepth 20000 in
theorem dX7_numberOf_92 : decode cX7_numberOf 92 = .ok (.getfield 7, 3) := by decide +kernel
set_option maxRecDepth 20000 in
theorem dX7_numberOf_95 : decode cX7_numberOf 95 = .ok (.iconst 1, 1) := by decide +kernel
set_option maxRecDepth 20000 in
theorem dX7_numberOf_96 : decode cX7_numberOf 96 = .ok (.isub, 1) := by decide +kernel
set_option maxRecDepth 20000 in
theorem dX7_numberOf_97 : decode cX7_numberOf 97 = .ok (.if_icmp .ge 26, 3) := by decide +kernel
set_option maxRecDepth 20000 in
theorem dX7_numberOf_100 : decode cX7_numberOf 100 = .ok (.aload_n 0, 1) := by decide +kernel
set_option maxRecDepth 20000 in
theorem dX7_numberOf_101 : decode cX7_numberOf 101 = .ok (.getfield 13, 3) := by decide +kernel
set_option maxRecDepth 20000 in
theorem dX7_numberOf_104 : decode cX7_numberOf 104 = .ok (.iload 6, 2) := by decide +kernel
set_option maxRecDepth 20000 in
theorem dX7_numberOf_106 : decode cX7_numberOf 106 = .ok (.iaload, 1) := by decide +kernel
set_option maxRecDepth 20000 in
theorem dX7_numberOf_107 : decode cX7_numberOf 107 = .ok (.aload_n 0, 1) := by decide +kernel
set_option maxRecDepth 20000 in
theorem dX7_numberOf_108 : decode cX7_numberOf 108 = .ok (.getfield 13, 3) := by decide +kernel
set_option maxRecDepth 20000 in
theorem dX7_numberOf_111 : decode cX7_numberOf 111 = .ok (.iload 6, 2) := by decide +kernel
set_option maxRecDepth 20000 in
theorem dX7_numberOf_113 : decode cX7_numberOf 113 = .ok (.iconst 1, 1) := by decide +kernel
set_option maxRecDepth 20000 in
theorem dX7_numberOf_114 : decode cX7_numberOf 114 = .ok (.iadd, 1) := by decide +kernel
set_option maxRecDepth 20000 in
theorem dX7_numberOf_115 : decode cX7_numberOf 115 = .ok (.iaload, 1) := by decide +kernel
set_option maxRecDepth 20000 in
theorem dX7_numberOf_116 : decode cX7_numberOf 116 = .ok (.if_icmp .ge 7, 3) := by decide +kernel
set_option maxRecDepth 20000 in
theorem dX7_numberOf_119 : decode cX7_numberOf 119 = .ok (.iconst 1, 1) := by decide +kernel
set_option maxRecDepth 20000 in
theorem dX7_numberOf_120 : decode cX7_numberOf 120 = .ok (.goto 24, 3) := by decide +kernel
set_option maxRecDepth 20000 in
theorem dX7_numberOf_123 : decode cX7_numberOf 123 = .ok (.iconst 0, 1) := by decide +kernel
set_option maxRecDepth 20000 in
theorem dX7_numberOf_124 : decode cX7_numberOf 124 = .ok (.goto 20, 3) := by decide +kernel
set_option maxRecDepth 20000 in
theorem dX7_numberOf_127 : decode cX7_numberOf 127 = .ok (.aload_n 0, 1) := by decide +kernel
set_option maxRecDepth 20000 in
theorem dX7_numberOf_128 : decode cX7_numberOf 128 = .ok (.getfield 13, 3) := by decide +kernel
set_option maxRecDepth 20000 in
theorem dX7_numberOf_131 : decode cX7_numberOf 131 = .ok (.iload 6, 2) := by decide +kernel
set_option maxRecDepth 20000 in
theorem dX7_numberOf_133 : decode cX7_numberOf 133 = .ok (.iaload, 1) := by decide +kernel
set_option maxRecDepth 20000 in
theorem dX7_numberOf_134 : decode cX7_numberOf 134 = .ok (.iload 6, 2) := by decide +kernel
set_option maxRecDepth 20000 in
theorem dX7_numberOf_136 : decode cX7_numberOf 136 = .ok (.if_icmp .ne 7, 3) := by decide +kernel
set_option maxRecDepth 20000 in
theorem dX7_numberOf_139 : decode cX7_numberOf 139 = .ok (.iconst 1, 1) := by decide +kernel
set_option maxRecDepth 20000 in
theorem dX7_numberOf_140 : decode cX7_numberOf 140 = .ok (.goto 4, 3) := by decide +kernel
set_option maxRecDepth 20000 in
theorem dX7_numberOf_143 : decode cX7_numberOf 143 = .ok (.iconst 0, 1) := by decide +kernel
set_option maxRecDepth 20000 in
theorem dX7_numberOf_144 : decode cX7_numberOf 144 = .ok (.istore 8, 2) := by decide +kernel
set_option maxRecDepth 20000 in
theorem dX7_numberOf_146 : decode cX7_numberOf 146 = .ok (.iload_n 2, 1) := by decide +kernel
set_option maxRecDepth 20000 in
theorem dX7_numberOf_147 : decode cX7_numberOf 147 = .ok (.iload 8, 2) := by decide +kernel
set_option maxRecDepth 20000 in
theorem dX7_numberOf_149 : decode cX7_numberOf 149 = .ok (.ifCond .eq 7, 3) := by decide +kernel
set_option maxRecDepth 20000 in
theorem dX7_numberOf_152 : decode cX7_numberOf 152 = .ok (.iconst 1, 1) := by decide +kernel
set_option maxRecDepth 20000 in
theorem dX7_numberOf_153 : decode cX7_numberOf 153 = .ok (.goto 4, 3) := by decide +kernel
set_option maxRecDepth 20000 in
theorem dX7_numberOf_156 : decode cX7_numberOf 156 = .ok (.iconst 0, 1) := by decide +kernel
set_option maxRecDepth 20000 in
theorem dX7_numberOf_157 : decode cX7_numberOf 157 = .ok (.iadd, 1) := by decide +kernel
set_option maxRecDepth 20000 in
theorem dX7_numberOf_158 : decode cX7_numberOf 158 = .ok (.istore_n 2, 1) := by decide +kernel
set_option maxRecDepth 20000 in
theorem dX7_numberOf_159 : decode cX7_numberOf 159 = .ok (.iinc 6 1, 3) := by decide +kernel
set_option maxRecDepth 20000 in
theorem dX7_numberOf_162 : decode cX7_numberOf 162 = .ok (.goto (-152), 3) := by decide +kernel
set_option maxRecDepth 20000 in
theorem dX7_numberOf_165 : decode cX7_numberOf 165 = .ok (.iload_n 1, 1) := by decide +kernel
set_option maxRecDepth 20000 in
theorem dX7_numberOf_166 : decode cX7_numberOf 166 = .ok (.iconst 4, 1) := by decide +kernel
set_option maxRecDepth 20000 in
theorem dX7_numberOf_167 : decode cX7_numberOf 167 = .ok (.if_icmp .ge 7, 3) := by decide +kernel
set_option maxRecDepth 20000 in
theorem dX7_numberOf_170 : decode cX7_numberOf 170 = .ok (.iload_n 2, 1) := by decide +kernel
set_option maxRecDepth 20000 in
theorem dX7_numberOf_171 : decode cX7_numberOf 171 = .ok (.goto 40, 3) := by decide +kernel
set_option maxRecDepth 20000 in
theorem dX7_numberOf_174 : decode cX7_numberOf 174 = .ok (.iload_n 1, 1) := by decide +kernel
set_option maxRecDepth 20000 in
theorem dX7_numberOf_175 : decode cX7_numberOf 175 = .ok (.iconst 4, 1) := by decide +kernel
set_option maxRecDepth 20000 in
theorem dX7_numberOf_176 : decode cX7_numberOf 176 = .ok (.if_icmp .ne 7, 3) := by decide +kernel
set_option maxRecDepth 20000 in
theorem dX7_numberOf_179 : decode cX7_numberOf 179 = .ok (.iload_n 3, 1) := by decide +kernel
set_option maxRecDepth 20000 in
theorem dX7_numberOf_180 : decode cX7_numberOf 180 = .ok (.goto 31, 3) := by decide +kernel
set_option maxRecDepth 20000 in
theorem dX7_numberOf_183 : decode cX7_numberOf 183 = .ok (.iload_n 1, 1) := by decide +kernel
set_option maxRecDepth 20000 in
theorem dX7_numberOf_184 : decode cX7_numberOf 184 = .ok (.iconst 5, 1) := by decide +kernel
set_option maxRecDepth 20000 in
theorem dX7_numberOf_185 : decode cX7_numberOf 185 = .ok (.if_icmp .ne 10, 3) := by decide +kernel
set_option maxRecDepth 20000 in
theorem dX7_numberOf_188 : decode cX7_numberOf 188 = .ok (.aload_n 0, 1) := by decide +kernel
set_option maxRecDepth 20000 in
theorem dX7_numberOf_189 : decode cX7_numberOf 189 = .ok (.invokevirtual 80, 3) := by decide +kernel
set_option maxRecDepth 20000 in
theorem dX7_numberOf_192 : decode cX7_numberOf 192 = .ok (.goto 19, 3) := by decide +kernel
set_option maxRecDepth 20000 in
theorem dX7_numberOf_195 : decode cX7_numberOf 195 = .ok (.iload_n 1, 1) := by decide +kernel
set_option maxRecDepth 20000 in
theorem dX7_numberOf_196 : decode cX7_numberOf 196 = .ok (.bipush 6, 2) := by decide +kernel
set_option maxRecDepth 20000 in
theorem dX7_numberOf_198 : decode cX7_numberOf 198 = .ok (.if_icmp .ne 10, 3) := by decide +kernel
set_option maxRecDepth 20000 in
theorem dX7_numberOf_201 : decode cX7_numberOf 201 = .ok (.aload_n 0, 1) := by decide +kernel
set_option maxRecDepth 20000 in
theorem dX7_numberOf_202 : decode cX7_numberOf 202 = .ok (.invokevirtual 84, 3) := by decide +kernel
set_option maxRecDepth 20000 in
theorem dX7_numberOf_205 : decode cX7_numberOf 205 = .ok (.goto 6, 3) := by decide +kernel
set_option maxRecDepth 20000 in
theorem dX7_numberOf_208 : decode cX7_numberOf 208 = .ok (.lload 4, 2) := by decide +kernel
set_option maxRecDepth 20000 in
theorem dX7_numberOf_210 : decode cX7_numberOf 210 = .ok (.l2i, 1) := by decide +kernel
set_option maxRecDepth 20000 in
theorem dX7_numberOf_211 : decode cX7_numberOf 211 = .ok (.ireturn, 1) := by decide +kernel
set_option maxRecDepth 20000 in
theorem dX7_number_0 : decode cX7_number 0 = .ok (.iload_n 1, 1) := by decide +kernel
set_option maxRecDepth 20000 in
theorem dX7_number_1 : decode cX7_number 1 = .ok (.i2l, 1) := by decide +kernel
set_option maxRecDepth 20000 in
theorem dX7_number_2 : decode cX7_number 2 = .ok (.lconst 0, 1) := by decide +kernel
set_option maxRecDepth 20000 in
theorem dX7_number_3 : decode cX7_number 3 = .ok (.ldc2_w 87, 3) := by decide +kernel
set_option maxRecDepth 20000 in
theorem dX7_number_6 : decode cX7_number 6 = .ok (.invokestatic 51, 3) := by decide +kernel
set_option maxRecDepth 20000 in
theorem dX7_number_9 : decode cX7_number 9 = .ok (.ifCond .eq 11, 3) := by decide +kernel
set_option maxRecDepth 20000 in
theorem dX7_number_12 : decode cX7_number 12 = .ok (.aload_n 0, 1) := by decide +kernel
set_option maxRecDepth 20000 in
theorem dX7_number_13 : decode cX7_number 13 = .ok (.iload_n 1, 1) := by decide +kernel
set_option maxRecDepth 20000 in
theorem dX7_number_14 : decode cX7_number 14 = .ok (.invokevirtual 89, 3) := by decide +kernel
set_option maxRecDepth 20000 in
theorem dX7_number_17 : decode cX7_number 17 = .ok (.goto 5, 3) := by decide +kernel
set_option maxRecDepth 20000 in
theorem dX7_number_20 : decode cX7_number 20 = .ok (.bipush (-2), 2) := by decide +kernel
set_option maxRecDepth 20000 in
theorem dX7_number_22 : decode cX7_number 22 = .ok (.ireturn, 1) := by decide +kernel
set_option maxRecDepth 20000 in
theorem dX7_layProducts_0 : decode cX7_layProducts 0 = .ok (.aload_n 0, 1) := by decide +kernel
set_option maxRecDepth 20000 in
theorem dX7_layProducts_1 : decode cX7_layProducts 1 = .ok (.getfield 39, 3) := by decide +kernel
set_option maxRecDepth 20000 in
theorem dX7_layProducts_4 : decode cX7_layProducts 4 = .ok (.iconst 0, 1) := by decide +kernel
set_option maxRecDepth 20000 in
theorem dX7_layProducts_5 : decode cX7_layProducts 5 = .ok (.lconst 1, 1) := by decide +kernel
set_option maxRecDepth 20000 in
theorem dX7_layProducts_6 : decode cX7_layProducts 6 = .ok (.lastore, 1) := by decide +kernel
set_option maxRecDepth 20000 in
theorem dX7_layProducts_7 : decode cX7_layProducts 7 = .ok (.iconst 1, 1) := by decide +kernel
set_option maxRecDepth 20000 in
theorem dX7_layProducts_8 : decode cX7_layProducts 8 = .ok (.istore_n 1, 1) := by decide +kernel
set_option maxRecDepth 20000 in
theorem dX7_layProducts_9 : decode cX7_layProducts 9 = .ok (.iload_n 1, 1) := by decide +kernel
set_option maxRecDepth 20000 in
theorem dX7_layProducts_10 : decode cX7_layProducts 10 = .ok (.bipush 18, 2) := by decide +kernel
set_option maxRecDepth 20000 in
theorem dX7_layProducts_12 : decode cX7_layProducts 12 = .ok (.if_icmp .gt 26, 3) := by decide +kernel
set_option maxRecDepth 20000 in
theorem dX7_layProducts_15 : decode cX7_layProducts 15 = .ok (.aload_n 0, 1) := by decide +kernel
set_option maxRecDepth 20000 in
theorem dX7_layProducts_16 : decode cX7_layProducts 16 = .ok (.getfield 39, 3) := by decide +kernel
set_option maxRecDepth 20000 in
theorem dX7_layProducts_19 : decode cX7_layProducts 19 = .ok (.iload_n 1, 1) := by decide +kernel
set_option maxRecDepth 20000 in
theorem dX7_layProducts_20 : decode cX7_layProducts 20 = .ok (.aload_n 0, 1) := by decide +kernel
set_option maxRecDepth 20000 in
theorem dX7_layProducts_21 : decode cX7_layProducts 21 = .ok (.getfield 39, 3) := by decide +kernel
set_option maxRecDepth 20000 in
theorem dX7_layProducts_24 : decode cX7_layProducts 24 = .ok (.iload_n 1, 1) := by decide +kernel
set_option maxRecDepth 20000 in
theorem dX7_layProducts_25 : decode cX7_layProducts 25 = .ok (.iconst 1, 1) := by decide +kernel
set_option maxRecDepth 20000 in
theorem dX7_layProducts_26 : decode cX7_layProducts 26 = .ok (.isub, 1) := by decide +kernel
set_option maxRecDepth 20000 in
theorem dX7_layProducts_27 : decode cX7_layProducts 27 = .ok (.laload, 1) := by decide +kernel
set_option maxRecDepth 20000 in
theorem dX7_layProducts_28 : decode cX7_layProducts 28 = .ok (.iload_n 1, 1) := by decide +kernel
set_option maxRecDepth 20000 in
theorem dX7_layProducts_29 : decode cX7_layProducts 29 = .ok (.i2l, 1) := by decide +kernel
set_option maxRecDepth 20000 in
theorem dX7_layProducts_30 : decode cX7_layProducts 30 = .ok (.lmul, 1) := by decide +kernel
set_option maxRecDepth 20000 in
theorem dX7_layProducts_31 : decode cX7_layProducts 31 = .ok (.lastore, 1) := by decide +kernel
set_option maxRecDepth 20000 in
theorem dX7_layProducts_32 : decode cX7_layProducts 32 = .ok (.iinc 1 1, 3) := by decide +kernel
set_option maxRecDepth 20000 in
theorem dX7_layProducts_35 : decode cX7_layProducts 35 = .ok (.goto (-26), 3) := by decide +kernel
set_option maxRecDepth 20000 in
theorem dX7_layProducts_38 : decode cX7_layProducts 38 = .ok (.return_, 1) := by decide +kernel
set_option maxRecDepth 20000 in
theorem dX7_step_0 : decode cX7_step 0 = .ok (.iconst 0, 1) := by decide +kernel
set_option maxRecDepth 20000 in
theorem dX7_step_1 : decode cX7_step 1 = .ok (.istore_n 1, 1) := by decide +kernel
set_option maxRecDepth 20000 in
theorem dX7_step_2 : decode cX7_step 2 = .ok (.iload_n 1, 1) := by decide +kernel
set_option maxRecDepth 20000 in
theorem dX7_step_3 : decode cX7_step 3 = .ok (.sipush 210, 3) := by decide +kernel
set_option maxRecDepth 20000 in
theorem dX7_step_6 : decode cX7_step 6 = .ok (.if_icmp .gt 28, 3) := by decide +kernel
set_option maxRecDepth 20000 in
theorem dX7_step_9 : decode cX7_step 9 = .ok (.aload_n 0, 1) := by decide +kernel
set_option maxRecDepth 20000 in
theorem dX7_step_10 : decode cX7_step 10 = .ok (.getfield 36, 3) := by decide +kernel
set_option maxRecDepth 20000 in
theorem dX7_step_13 : decode cX7_step 13 = .ok (.iload_n 1, 1) := by decide +kernel
set_option maxRecDepth 20000 in
theorem dX7_step_14 : decode cX7_step 14 = .ok (.aload_n 0, 1) := by decide +kernel
set_option maxRecDepth 20000 in
theorem dX7_step_15 : decode cX7_step 15 = .ok (.getfield 32, 3) := by decide +kernel
set_option maxRecDepth 20000 in
theorem dX7_step_18 : decode cX7_step 18 = .ok (.iload_n 1, 1) := by decide +kernel
set_option maxRecDepth 20000 in
theorem dX7_step_19 : decode cX7_step 19 = .ok (.laload, 1) := by decide +kernel
set_option maxRecDepth 20000 in
theorem dX7_step_20 : decode cX7_step 20 = .ok (.lastore, 1) := by decide +kernel
set_option maxRecDepth 20000 in
theorem dX7_step_21 : decode cX7_step 21 = .ok (.aload_n 0, 1) := by decide +kernel
set_option maxRecDepth 20000 in
theorem dX7_step_22 : decode cX7_step 22 = .ok (.getfield 32, 3) := by decide +kernel
set_option maxRecDepth 20000 in
theorem dX7_step_25 : decode cX7_step 25 = .ok (.iload_n 1, 1) := by decide +kernel
set_option maxRecDepth 20000 in
theorem dX7_step_26 : decode cX7_step 26 = .ok (.lconst 0, 1) := by decide +kernel
set_option maxRecDepth 20000 in
theorem dX7_step_27 : decode cX7_step 27 = .ok (.lastore, 1) := by decide +kernel
set_option maxRecDepth 20000 in
theorem dX7_step_28 : decode cX7_step 28 = .ok (.iinc 1 1, 3) := by decide +kernel
set_option maxRecDepth 20000 in
theorem dX7_step_31 : decode cX7_step 31 = .ok (.goto (-29), 3) := by decide +kernel
set_option maxRecDepth 20000 in
theorem dX7_step_34 : decode cX7_step 34 = .ok (.return_, 1) := by decide +kernel
set_option maxRecDepth 20000 in
theorem dX7_countByThings_0 : decode cX7_countByThings 0 = .ok (.iconst 0, 1) := by decide +kernel
set_option maxRecDepth 20000 in
theorem dX7_countByThings_1 : decode cX7_countByThings 1 = .ok (.istore_n 2, 1) := by decide +kernel
set_option maxRecDepth 20000 in
theorem dX7_countByThings_2 : decode cX7_countByThings 2 = .ok (.iload_n 2, 1) := by decide +kernel
set_option maxRecDepth 20000 in
theorem dX7_countByThings_3 : decode cX7_countByThings 3 = .ok (.sipush 210, 3) := by decide +kernel
set_option maxRecDepth 20000 in
theorem dX7_countByThings_6 : decode cX7_countByThings 6 = .ok (.if_icmp .gt 34, 3) := by decide +kernel
set_option maxRecDepth 20000 in
theorem dX7_countByThings_9 : decode cX7_countByThings 9 = .ok (.aload_n 0, 1) := by decide +kernel
set_option maxRecDepth 20000 in
theorem dX7_countByThings_10 : decode cX7_countByThings 10 = .ok (.getfield 32, 3) := by decide +kernel
set_option maxRecDepth 20000 in
theorem dX7_countByThings_13 : decode cX7_countByThings 13 = .ok (.iload_n 2, 1) := by decide +kernel
set_option maxRecDepth 20000 in
theorem dX7_countByThings_14 : decode cX7_countByThings 14 = .ok (.iload_n 2, 1) := by decide +kernel
set_option maxRecDepth 20000 in
theorem dX7_countByThings_15 : decode cX7_countByThings 15 = .ok (.iload_n 1, 1) := by decide +kernel
set_option maxRecDepth 20000 in
theorem dX7_countByThings_16 : decode cX7_countByThings 16 = .ok (.iconst 2, 1) := by decide +kernel
set_option maxRecDepth 20000 in
theorem dX7_countByThings_17 : decode cX7_countByThings 17 = .ok (.if_icmp .ge 7, 3) := by decide +kernel
set_option maxRecDepth 20000 in
theorem dX7_countByThings_20 : decode cX7_countByThings 20 = .ok (.iconst 1, 1) := by decide +kernel
set_option maxRecDepth 20000 in
theorem dX7_countByThings_21 : decode cX7_countByThings 21 = .ok (.goto 4, 3) := by decide +kernel
set_option maxRecDepth 20000 in
theorem dX7_countByThings_24 : decode cX7_countByThings 24 = .ok (.iconst 0, 1) := by decide +kernel
set_option maxRecDepth 20000 in
theorem dX7_countByThings_25 : decode cX7_countByThings 25 = .ok (.if_icmp .ne 7, 3) := by decide +kernel
set_option maxRecDepth 20000 in
theorem dX7_countByThings_28 : decode cX7_countByThings 28 = .ok (.lconst 1, 1) := by decide +kernel
set_option maxRecDepth 20000 in
theorem dX7_countByThings_29 : decode cX7_countByThings 29 = .ok (.goto 4, 3) := by decide +kernel
set_option maxRecDepth 20000 in
theorem dX7_countByThings_32 : decode cX7_countByThings 32 = .ok (.lconst 0, 1) := by decide +kernel
set_option maxRecDepth 20000 in
theorem dX7_countByThings_33 : decode cX7_countByThings 33 = .ok (.lastore, 1) := by decide +kernel
set_option maxRecDepth 20000 in
theorem dX7_countByThings_34 : decode cX7_countByThings 34 = .ok (.iinc 2 1, 3) := by decide +kernel
set_option maxRecDepth 20000 in
theorem dX7_countByThings_37 : decode cX7_countByThings 37 = .ok (.goto (-35), 3) := by decide +kernel
set_option maxRecDepth 20000 in
theorem dX7_countByThings_40 : decode cX7_countByThings 40 = .ok (.iconst 2, 1) := by decide +kernel
set_option maxRecDepth 20000 in
theorem dX7_countByThings_41 : decode cX7_countByThings 41 = .ok (.istore_n 2, 1) := by decide +kernel
set_option maxRecDepth 20000 in
theorem dX7_countByThings_42 : decode cX7_countByThings 42 = .ok (.iload_n 2, 1) := by decide +kernel
set_option maxRecDepth 20000 in
theorem dX7_countByThings_43 : decode cX7_countByThings 43 = .ok (.aload_n 0, 1) := by decide +kernel
set_option maxRecDepth 20000 in
theorem dX7_countByThings_44 : decode cX7_countByThings 44 = .ok (.getfield 7, 3) := by decide +kernel
set_option maxRecDepth 20000 in
theorem dX7_countByThings_47 : decode cX7_countByThings 47 = .ok (.if_icmp .gt 155, 3) := by decide +kernel
set_option maxRecDepth 20000 in
theorem dX7_countByThings_50 : decode cX7_countByThings 50 = .ok (.aload_n 0, 1) := by decide +kernel
set_option maxRecDepth 20000 in
theorem dX7_countByThings_51 : decode cX7_countByThings 51 = .ok (.invokevirtual 92, 3) := by decide +kernel
set_option maxRecDepth 20000 in
theorem dX7_countByThings_54 : decode cX7_countByThings 54 = .ok (.iconst 0, 1) := by decide +kernel
set_option maxRecDepth 20000 in
theorem dX7_countByThings_55 : decode cX7_countByThings 55 = .ok (.istore_n 3, 1) := by decide +kernel
set_option maxRecDepth 20000 in
theorem dX7_countByThings_56 : decode cX7_countByThings 56 = .ok (.iload_n 3, 1) := by decide +kernel
set_option maxRecDepth 20000 in
theorem dX7_countByThings_57 : decode cX7_countByThings 57 = .ok (.sipush 210, 3) := by decide +kernel
set_option maxRecDepth 20000 in
theorem dX7_countByThings_60 : decode cX7_countByThings 60 = .ok (.if_icmp .gt 136, 3) := by decide +kernel
set_option maxRecDepth 20000 in
theorem dX7_countByThings_63 : decode cX7_countByThings 63 = .ok (.iload_n 3, 1) := by decide +kernel
set_option maxRecDepth 20000 in
theorem dX7_countByThings_64 : decode cX7_countByThings 64 = .ok (.ifCond .le 14, 3) := by decide +kernel
set_option maxRecDepth 20000 in
theorem dX7_countByThings_67 : decode cX7_countByThings 67 = .ok (.aload_n 0, 1) := by decide +kernel
set_option maxRecDepth 20000 in
theorem dX7_countByThings_68 : decode cX7_countByThings 68 = .ok (.getfield 36, 3) := by decide +kernel
set_option maxRecDepth 20000 in
theorem dX7_countByThings_71 : decode cX7_countByThings 71 = .ok (.iload_n 3, 1) := by decide +kernel
set_option maxRecDepth 20000 in
theorem dX7_countByThings_72 : decode cX7_countByThings 72 = .ok (.iconst 1, 1) := by decide +kernel
set_option maxRecDepth 20000 in
theorem dX7_countByThings_73 : decode cX7_countByThings 73 = .ok (.isub, 1) := by decide +kernel
set_option maxRecDepth 20000 in
theorem dX7_countByThings_74 : decode cX7_countByThings 74 = .ok (.laload, 1) := by decide +kernel
set_option maxRecDepth 20000 in
theorem dX7_countByThings_75 : decode cX7_countByThings 75 = .ok (.goto 4, 3) := by decide +kernel
set_option maxRecDepth 20000 in
theorem dX7_countByThings_78 : decode cX7_countByThings 78 = .ok (.lconst 0, 1) := by decide +kernel
set_option maxRecDepth 20000 in
theorem dX7_countByThings_79 : decode cX7_countByThings 79 = .ok (.lstore 4, 2) := by decide +kernel
set_option maxRecDepth 20000 in
theorem dX7_countByThings_81 : decode cX7_countByThings 81 = .ok (.iload_n 1, 1) := by decide +kernel
set_option maxRecDepth 20000 in
theorem dX7_countByThings_82 : decode cX7_countByThings 82 = .ok (.iconst 2, 1) := by decide +kernel
set_option maxRecDepth 20000 in
theorem dX7_countByThings_83 : decode cX7_countByThings 83 = .ok (.if_icmp .ge 26, 3) := by decide +kernel
set_option maxRecDepth 20000 in
theorem dX7_countByThings_86 : decode cX7_countByThings 86 = .ok (.aload_n 0, 1) := by decide +kernel
set_option maxRecDepth 20000 in
theorem dX7_countByThings_87 : decode cX7_countByThings 87 = .ok (.getfield 32, 3) := by decide +kernel
set_option maxRecDepth 20000 in
theorem dX7_countByThings_90 : decode cX7_countByThings 90 = .ok (.iload_n 3, 1) := by decide +kernel
set_option maxRecDepth 20000 in
theorem dX7_countByThings_91 : decode cX7_countByThings 91 = .ok (.aload_n 0, 1) := by decide +kernel
set_option maxRecDepth 20000 in
theorem dX7_countByThings_92 : decode cX7_countByThings 92 = .ok (.getfield 36, 3) := by decide +kernel
set_option maxRecDepth 20000 in
theorem dX7_countByThings_95 : decode cX7_countByThings 95 = .ok (.iload_n 3, 1) := by decide +kernel
set_option maxRecDepth 20000 in
theorem dX7_countByThings_96 : decode cX7_countByThings 96 = .ok (.laload, 1) := by decide +kernel
set_option maxRecDepth 20000 in
theorem dX7_countByThings_97 : decode cX7_countByThings 97 = .ok (.iload_n 2, 1) := by decide +kernel
set_option maxRecDepth 20000 in
theorem dX7_countByThings_98 : decode cX7_countByThings 98 = .ok (.iconst 1, 1) := by decide +kernel
set_option maxRecDepth 20000 in
theorem dX7_countByThings_99 : decode cX7_countByThings 99 = .ok (.isub, 1) := by decide +kernel
set_option maxRecDepth 20000 in
theorem dX7_countByThings_100 : decode cX7_countByThings 100 = .ok (.i2l, 1) := by decide +kernel
set_option maxRecDepth 20000 in
theorem dX7_countByThings_101 : decode cX7_countByThings 101 = .ok (.lmul, 1) := by decide +kernel
set_option maxRecDepth 20000 in
theorem dX7_countByThings_102 : decode cX7_countByThings 102 = .ok (.lload 4, 2) := by decide +kernel
set_option maxRecDepth 20000 in
theorem dX7_countByThings_104 : decode cX7_countByThings 104 = .ok (.ladd, 1) := by decide +kernel
set_option maxRecDepth 20000 in
theorem dX7_countByThings_105 : decode cX7_countByThings 105 = .ok (.lastore, 1) := by decide +kernel
set_option maxRecDepth 20000 in
theorem dX7_countByThings_106 : decode cX7_countByThings 106 = .ok (.goto 84, 3) := by decide +kernel
set_option maxRecDepth 20000 in
theorem dX7_countByThings_109 : decode cX7_countByThings 109 = .ok (.iload_n 1, 1) := by decide +kernel
set_option maxRecDepth 20000 in
theorem dX7_countByThings_110 : decode cX7_countByThings 110 = .ok (.iconst 2, 1) := by decide +kernel
set_option maxRecDepth 20000 in
theorem dX7_countByThings_111 : decode cX7_countByThings 111 = .ok (.if_icmp .ne 40, 3) := by decide +kernel
set_option maxRecDepth 20000 in
theorem dX7_countByThings_114 : decode cX7_countByThings 114 = .ok (.aload_n 0, 1) := by decide +kernel
set_option maxRecDepth 20000 in
theorem dX7_countByThings_115 : decode cX7_countByThings 115 = .ok (.getfield 32, 3) := by decide +kernel
set_option maxRecDepth 20000 in
theorem dX7_countByThings_118 : decode cX7_countByThings 118 = .ok (.iload_n 3, 1) := by decide +kernel
set_option maxRecDepth 20000 in
theorem dX7_countByThings_119 : decode cX7_countByThings 119 = .ok (.iload_n 3, 1) := by decide +kernel
set_option maxRecDepth 20000 in
theorem dX7_countByThings_120 : decode cX7_countByThings 120 = .ok (.iload_n 2, 1) := by decide +kernel
set_option maxRecDepth 20000 in
theorem dX7_countByThings_121 : decode cX7_countByThings 121 = .ok (.if_icmp .ge 25, 3) := by decide +kernel
set_option maxRecDepth 20000 in
theorem dX7_countByThings_124 : decode cX7_countByThings 124 = .ok (.aload_n 0, 1) := by decide +kernel
set_option maxRecDepth 20000 in
theorem dX7_countByThings_125 : decode cX7_countByThings 125 = .ok (.getfield 36, 3) := by decide +kernel
set_option maxRecDepth 20000 in
theorem dX7_countByThings_128 : decode cX7_countByThings 128 = .ok (.iload_n 3, 1) := by decide +kernel
set_option maxRecDepth 20000 in
theorem dX7_countByThings_129 : decode cX7_countByThings 129 = .ok (.laload, 1) := by decide +kernel
set_option maxRecDepth 20000 in
theorem dX7_countByThings_130 : decode cX7_countByThings 130 = .ok (.iload_n 3, 1) := by decide +kernel
set_option maxRecDepth 20000 in
theorem dX7_countByThings_131 : decode cX7_countByThings 131 = .ok (.iconst 1, 1) := by decide +kernel
set_option maxRecDepth 20000 in
theorem dX7_countByThings_132 : decode cX7_countByThings 132 = .ok (.iadd, 1) := by decide +kernel
set_option maxRecDepth 20000 in
theorem dX7_countByThings_133 : decode cX7_countByThings 133 = .ok (.i2l, 1) := by decide +kernel
set_option maxRecDepth 20000 in
theorem dX7_countByThings_134 : decode cX7_countByThings 134 = .ok (.lmul, 1) := by decide +kernel
set_option maxRecDepth 20000 in
theorem dX7_countByThings_135 : decode cX7_countByThings 135 = .ok (.lload 4, 2) := by decide +kernel
set_option maxRecDepth 20000 in
theorem dX7_countByThings_137 : decode cX7_countByThings 137 = .ok (.iload_n 2, 1) := by decide +kernel
set_option maxRecDepth 20000 in
theorem dX7_countByThings_138 : decode cX7_countByThings 138 = .ok (.iload_n 3, 1) := by decide +kernel
set_option maxRecDepth 20000 in
theorem dX7_countByThings_139 : decode cX7_countByThings 139 = .ok (.isub, 1) := by decide +kernel
set_option maxRecDepth 20000 in
theorem dX7_countByThings_140 : decode cX7_countByThings 140 = .ok (.i2l, 1) := by decide +kernel
set_option maxRecDepth 20000 in
theorem dX7_countByThings_141 : decode cX7_countByThings 141 = .ok (.lmul, 1) := by decide +kernel
set_option maxRecDepth 20000 in
theorem dX7_countByThings_142 : decode cX7_countByThings 142 = .ok (.ladd, 1) := by decide +kernel
set_option maxRecDepth 20000 in
theorem dX7_countByThings_143 : decode cX7_countByThings 143 = .ok (.goto 4, 3) := by decide +kernel
set_option maxRecDepth 20000 in
theorem dX7_countByThings_146 : decode cX7_countByThings 146 = .ok (.lconst 0, 1) := by decide +kernel
set_option maxRecDepth 20000 in
theorem dX7_countByThings_147 : decode cX7_countByThings 147 = .ok (.lastore, 1) := by decide +kernel
set_option maxRecDepth 20000 in
theorem dX7_countByThings_148 : decode cX7_countByThings 148 = .ok (.goto 42, 3) := by decide +kernel
set_option maxRecDepth 20000 in
theorem dX7_countByThings_151 : decode cX7_countByThings 151 = .ok (.iconst 0, 1) := by decide +kernel
set_option maxRecDepth 20000 in
theorem dX7_countByThings_152 : decode cX7_countByThings 152 = .ok (.istore 6, 2) := by decide +kernel
set_option maxRecDepth 20000 in
theorem dX7_countByThings_154 : decode cX7_countByThings 154 = .ok (.iload 6, 2) := by decide +kernel
set_option maxRecDepth 20000 in
theorem dX7_countByThings_156 : decode cX7_countByThings 156 = .ok (.iload_n 2, 1) := by decide +kernel
set_option maxRecDepth 20000 in
theorem dX7_countByThings_157 : decode cX7_countByThings 157 = .ok (.if_icmp .ge 33, 3) := by decide +kernel
set_option maxRecDepth 20000 in
theorem dX7_countByThings_160 : decode cX7_countByThings 160 = .ok (.iload 6, 2) := by decide +kernel
set_option maxRecDepth 20000 in
theorem dX7_countByThings_162 : decode cX7_countByThings 162 = .ok (.iload_n 3, 1) := by decide +kernel
set_option maxRecDepth 20000 in
theorem dX7_countByThings_163 : decode cX7_countByThings 163 = .ok (.if_icmp .gt 27, 3) := by decide +kernel
set_option maxRecDepth 20000 in
theorem dX7_countByThings_166 : decode cX7_countByThings 166 = .ok (.aload_n 0, 1) := by decide +kernel
set_option maxRecDepth 20000 in
theorem dX7_countByThings_167 : decode cX7_countByThings 167 = .ok (.getfield 32, 3) := by decide +kernel
set_option maxRecDepth 20000 in
theorem dX7_countByThings_170 : decode cX7_countByThings 170 = .ok (.iload_n 3, 1) := by decide +kernel
set_option maxRecDepth 20000 in
theorem dX7_countByThings_171 : decode cX7_countByThings 171 = .ok (.dup2, 1) := by decide +kernel
set_option maxRecDepth 20000 in
theorem dX7_countByThings_172 : decode cX7_countByThings 172 = .ok (.laload, 1) := by decide +kernel
set_option maxRecDepth 20000 in
theorem dX7_countByThings_173 : decode cX7_countByThings 173 = .ok (.aload_n 0, 1) := by decide +kernel
set_option maxRecDepth 20000 in
theorem dX7_countByThings_174 : decode cX7_countByThings 174 = .ok (.getfield 36, 3) := by decide +kernel
set_option maxRecDepth 20000 in
theorem dX7_countByThings_177 : decode cX7_countByThings 177 = .ok (.iload_n 3, 1) := by decide +kernel
set_option maxRecDepth 20000 in
theorem dX7_countByThings_178 : decode cX7_countByThings 178 = .ok (.iload 6, 2) := by decide +kernel
set_option maxRecDepth 20000 in
theorem dX7_countByThings_180 : decode cX7_countByThings 180 = .ok (.isub, 1) := by decide +kernel
set_option maxRecDepth 20000 in
theorem dX7_countByThings_181 : decode cX7_countByThings 181 = .ok (.laload, 1) := by decide +kernel
set_option maxRecDepth 20000 in
theorem dX7_countByThings_182 : decode cX7_countByThings 182 = .ok (.ladd, 1) := by decide +kernel
set_option maxRecDepth 20000 in
theorem dX7_countByThings_183 : decode cX7_countByThings 183 = .ok (.lastore, 1) := by decide +kernel
set_option maxRecDepth 20000 in
theorem dX7_countByThings_184 : decode cX7_countByThings 184 = .ok (.iinc 6 1, 3) := by decide +kernel
set_option maxRecDepth 20000 in
theorem dX7_countByThings_187 : decode cX7_countByThings 187 = .ok (.goto (-33), 3) := by decide +kernel
set_option maxRecDepth 20000 in
theorem dX7_countByThings_190 : decode cX7_countByThings 190 = .ok (.iinc 3 1, 3) := by decide +kernel
set_option maxRecDepth 20000 in
theorem dX7_countByThings_193 : decode cX7_countByThings 193 = .ok (.goto (-137), 3) := by decide +kernel
set_option maxRecDepth 20000 in
theorem dX7_countByThings_196 : decode cX7_countByThings 196 = .ok (.iinc 2 1, 3) := by decide +kernel
set_option maxRecDepth 20000 in
theorem dX7_countByThings_199 : decode cX7_countByThings 199 = .ok (.goto (-157), 3) := by decide +kernel
set_option maxRecDepth 20000 in
theorem dX7_countByThings_202 : decode cX7_countByThings 202 = .ok (.return_, 1) := by decide +kernel
set_option maxRecDepth 20000 in
theorem dX7_nextShape_0 : decode cX7_nextShape 0 = .ok (.iconst 0, 1) := by decide +kernel
set_option maxRecDepth 20000 in
theorem dX7_nextShape_1 : decode cX7_nextShape 1 = .ok (.istore_n 1, 1) := by decide +kernel
set_option maxRecDepth 20000 in
theorem dX7_nextShape_2 : decode cX7_nextShape 2 = .ok (.aload_n 0, 1) := by decide +kernel
set_option maxRecDepth 20000 in
theorem dX7_nextShape_3 : decode cX7_nextShape 3 = .ok (.getfield 95, 3) := by decide +kernel
set_option maxRecDepth 20000 in
theorem dX7_nextShape_6 : decode cX7_nextShape 6 = .ok (.ifCond .le 34, 3) := by decide +kernel
set_option maxRecDepth 20000 in
theorem dX7_nextShape_9 : decode cX7_nextShape 9 = .ok (.aload_n 0, 1) := by decide +kernel
set_option maxRecDepth 20000 in
theorem dX7_nextShape_10 : decode cX7_nextShape 10 = .ok (.getfield 42, 3) := by decide +kernel
set_option maxRecDepth 20000 in
theorem dX7_nextShape_13 : decode cX7_nextShape 13 = .ok (.aload_n 0, 1) := by decide +kernel
set_option maxRecDepth 20000 in
theorem dX7_nextShape_14 : decode cX7_nextShape 14 = .ok (.getfield 95, 3) := by decide +kernel
set_option maxRecDepth 20000 in
theorem dX7_nextShape_17 : decode cX7_nextShape 17 = .ok (.iconst 1, 1) := by decide +kernel
set_option maxRecDepth 20000 in
theorem dX7_nextShape_18 : decode cX7_nextShape 18 = .ok (.isub, 1) := by decide +kernel
set_option maxRecDepth 20000 in
theorem dX7_nextShape_19 : decode cX7_nextShape 19 = .ok (.iaload, 1) := by decide +kernel
set_option maxRecDepth 20000 in
theorem dX7_nextShape_20 : decode cX7_nextShape 20 = .ok (.iconst 1, 1) := by decide +kernel
set_option maxRecDepth 20000 in
theorem dX7_nextShape_21 : decode cX7_nextShape 21 = .ok (.if_icmp .ne 19, 3) := by decide +kernel
set_option maxRecDepth 20000 in
theorem dX7_nextShape_24 : decode cX7_nextShape 24 = .ok (.aload_n 0, 1) := by decide +kernel
set_option maxRecDepth 20000 in
theorem dX7_nextShape_25 : decode cX7_nextShape 25 = .ok (.dup, 1) := by decide +kernel
set_option maxRecDepth 20000 in
theorem dX7_nextShape_26 : decode cX7_nextShape 26 = .ok (.getfield 95, 3) := by decide +kernel
set_option maxRecDepth 20000 in
theorem dX7_nextShape_29 : decode cX7_nextShape 29 = .ok (.iconst 1, 1) := by decide +kernel
set_option maxRecDepth 20000 in
theorem dX7_nextShape_30 : decode cX7_nextShape 30 = .ok (.isub, 1) := by decide +kernel
set_option maxRecDepth 20000 in
theorem dX7_nextShape_31 : decode cX7_nextShape 31 = .ok (.putfield 95, 3) := by decide +kernel
set_option maxRecDepth 20000 in
theorem dX7_nextShape_34 : decode cX7_nextShape 34 = .ok (.iinc 1 1, 3) := by decide +kernel
set_option maxRecDepth 20000 in
theorem dX7_nextShape_37 : decode cX7_nextShape 37 = .ok (.goto (-35), 3) := by decide +kernel
set_option maxRecDepth 20000 in
theorem dX7_nextShape_40 : decode cX7_nextShape 40 = .ok (.aload_n 0, 1) := by decide +kernel
set_option maxRecDepth 20000 in
theorem dX7_nextShape_41 : decode cX7_nextShape 41 = .ok (.getfield 95, 3) := by decide +kernel
set_option maxRecDepth 20000 in
theorem dX7_nextShape_44 : decode cX7_nextShape 44 = .ok (.ifCond .ne 5, 3) := by decide +kernel
set_option maxRecDepth 20000 in
theorem dX7_nextShape_47 : decode cX7_nextShape 47 = .ok (.iconst 0, 1) := by decide +kernel
set_option maxRecDepth 20000 in
theorem dX7_nextShape_48 : decode cX7_nextShape 48 = .ok (.ireturn, 1) := by decide +kernel
set_option maxRecDepth 20000 in
theorem dX7_nextShape_49 : decode cX7_nextShape 49 = .ok (.aload_n 0, 1) := by decide +kernel
set_option maxRecDepth 20000 in
theorem dX7_nextShape_50 : decode cX7_nextShape 50 = .ok (.getfield 42, 3) := by decide +kernel
set_option maxRecDepth 20000 in
theorem dX7_nextShape_53 : decode cX7_nextShape 53 = .ok (.aload_n 0, 1) := by decide +kernel
set_option maxRecDepth 20000 in
theorem dX7_nextShape_54 : decode cX7_nextShape 54 = .ok (.getfield 95, 3) := by decide +kernel
set_option maxRecDepth 20000 in
theorem dX7_nextShape_57 : decode cX7_nextShape 57 = .ok (.iconst 1, 1) := by decide +kernel
set_option maxRecDepth 20000 in
theorem dX7_nextShape_58 : decode cX7_nextShape 58 = .ok (.isub, 1) := by decide +kernel
set_option maxRecDepth 20000 in
theorem dX7_nextShape_59 : decode cX7_nextShape 59 = .ok (.dup2, 1) := by decide +kernel
set_option maxRecDepth 20000 in
theorem dX7_nextShape_60 : decode cX7_nextShape 60 = .ok (.iaload, 1) := by decide +kernel
set_option maxRecDepth 20000 in
theorem dX7_nextShape_61 : decode cX7_nextShape 61 = .ok (.iconst 1, 1) := by decide +kernel
set_option maxRecDepth 20000 in
theorem dX7_nextShape_62 : decode cX7_nextShape 62 = .ok (.isub, 1) := by decide +kernel
set_option maxRecDepth 20000 in
theorem dX7_nextShape_63 : decode cX7_nextShape 63 = .ok (.iastore, 1) := by decide +kernel
set_option maxRecDepth 20000 in
theorem dX7_nextShape_64 : decode cX7_nextShape 64 = .ok (.iload_n 1, 1) := by decide +kernel
set_option maxRecDepth 20000 in
theorem dX7_nextShape_65 : decode cX7_nextShape 65 = .ok (.iconst 1, 1) := by decide +kernel
set_option maxRecDepth 20000 in
theorem dX7_nextShape_66 : decode cX7_nextShape 66 = .ok (.iadd, 1) := by decide +kernel
set_option maxRecDepth 20000 in
theorem dX7_nextShape_67 : decode cX7_nextShape 67 = .ok (.istore_n 2, 1) := by decide +kernel
set_option maxRecDepth 20000 in
theorem dX7_nextShape_68 : decode cX7_nextShape 68 = .ok (.aload_n 0, 1) := by decide +kernel
set_option maxRecDepth 20000 in
theorem dX7_nextShape_69 : decode cX7_nextShape 69 = .ok (.getfield 42, 3) := by decide +kernel
set_option maxRecDepth 20000 in
theorem dX7_nextShape_72 : decode cX7_nextShape 72 = .ok (.aload_n 0, 1) := by decide +kernel
set_option maxRecDepth 20000 in
theorem dX7_nextShape_73 : decode cX7_nextShape 73 = .ok (.getfield 95, 3) := by decide +kernel
set_option maxRecDepth 20000 in
theorem dX7_nextShape_76 : decode cX7_nextShape 76 = .ok (.iconst 1, 1) := by decide +kernel
set_option maxRecDepth 20000 in
theorem dX7_nextShape_77 : decode cX7_nextShape 77 = .ok (.isub, 1) := by decide +kernel
set_option maxRecDepth 20000 in
theorem dX7_nextShape_78 : decode cX7_nextShape 78 = .ok (.iaload, 1) := by decide +kernel
set_option maxRecDepth 20000 in
theorem dX7_nextShape_79 : decode cX7_nextShape 79 = .ok (.istore_n 3, 1) := by decide +kernel
set_option maxRecDepth 20000 in
theorem dX7_nextShape_80 : decode cX7_nextShape 80 = .ok (.iload_n 2, 1) := by decide +kernel
set_option maxRecDepth 20000 in
theorem dX7_nextShape_81 : decode cX7_nextShape 81 = .ok (.ifCond .le 47, 3) := by decide +kernel
set_option maxRecDepth 20000 in
theorem dX7_nextShape_84 : decode cX7_nextShape 84 = .ok (.aload_n 0, 1) := by decide +kernel
set_option maxRecDepth 20000 in
theorem dX7_nextShape_85 : decode cX7_nextShape 85 = .ok (.getfield 42, 3) := by decide +kernel
set_option maxRecDepth 20000 in
theorem dX7_nextShape_88 : decode cX7_nextShape 88 = .ok (.aload_n 0, 1) := by decide +kernel
set_option maxRecDepth 20000 in
theorem dX7_nextShape_89 : decode cX7_nextShape 89 = .ok (.getfield 95, 3) := by decide +kernel
set_option maxRecDepth 20000 in
theorem dX7_nextShape_92 : decode cX7_nextShape 92 = .ok (.iload_n 2, 1) := by decide +kernel
set_option maxRecDepth 20000 in
theorem dX7_nextShape_93 : decode cX7_nextShape 93 = .ok (.iload_n 3, 1) := by decide +kernel
set_option maxRecDepth 20000 in
theorem dX7_nextShape_94 : decode cX7_nextShape 94 = .ok (.if_icmp .ge 7, 3) := by decide +kernel
set_option maxRecDepth 20000 in
theorem dX7_nextShape_97 : decode cX7_nextShape 97 = .ok (.iload_n 2, 1) := by decide +kernel
set_option maxRecDepth 20000 in
theorem dX7_nextShape_98 : decode cX7_nextShape 98 = .ok (.goto 4, 3) := by decide +kernel
set_option maxRecDepth 20000 in
theorem dX7_nextShape_101 : decode cX7_nextShape 101 = .ok (.iload_n 3, 1) := by decide +kernel
set_option maxRecDepth 20000 in
theorem dX7_nextShape_102 : decode cX7_nextShape 102 = .ok (.iastore, 1) := by decide +kernel
set_option maxRecDepth 20000 in
theorem dX7_nextShape_103 : decode cX7_nextShape 103 = .ok (.iload_n 2, 1) := by decide +kernel
set_option maxRecDepth 20000 in
theorem dX7_nextShape_104 : decode cX7_nextShape 104 = .ok (.aload_n 0, 1) := by decide +kernel
set_option maxRecDepth 20000 in
theorem dX7_nextShape_105 : decode cX7_nextShape 105 = .ok (.getfield 42, 3) := by decide +kernel
set_option maxRecDepth 20000 in
theorem dX7_nextShape_108 : decode cX7_nextShape 108 = .ok (.aload_n 0, 1) := by decide +kernel
set_option maxRecDepth 20000 in
theorem dX7_nextShape_109 : decode cX7_nextShape 109 = .ok (.getfield 95, 3) := by decide +kernel
set_option maxRecDepth 20000 in
theorem dX7_nextShape_112 : decode cX7_nextShape 112 = .ok (.iaload, 1) := by decide +kernel
set_option maxRecDepth 20000 in
theorem dX7_nextShape_113 : decode cX7_nextShape 113 = .ok (.isub, 1) := by decide +kernel
set_option maxRecDepth 20000 in
theorem dX7_nextShape_114 : decode cX7_nextShape 114 = .ok (.istore_n 2, 1) := by decide +kernel
set_option maxRecDepth 20000 in
theorem dX7_nextShape_115 : decode cX7_nextShape 115 = .ok (.aload_n 0, 1) := by decide +kernel
set_option maxRecDepth 20000 in
theorem dX7_nextShape_116 : decode cX7_nextShape 116 = .ok (.dup, 1) := by decide +kernel
set_option maxRecDepth 20000 in
theorem dX7_nextShape_117 : decode cX7_nextShape 117 = .ok (.getfield 95, 3) := by decide +kernel
set_option maxRecDepth 20000 in
theorem dX7_nextShape_120 : decode cX7_nextShape 120 = .ok (.iconst 1, 1) := by decide +kernel
set_option maxRecDepth 20000 in
theorem dX7_nextShape_121 : decode cX7_nextShape 121 = .ok (.iadd, 1) := by decide +kernel
set_option maxRecDepth 20000 in
theorem dX7_nextShape_122 : decode cX7_nextShape 122 = .ok (.putfield 95, 3) := by decide +kernel
set_option maxRecDepth 20000 in
theorem dX7_nextShape_125 : decode cX7_nextShape 125 = .ok (.goto (-45), 3) := by decide +kernel
set_option maxRecDepth 20000 in
theorem dX7_nextShape_128 : decode cX7_nextShape 128 = .ok (.iconst 1, 1) := by decide +kernel
set_option maxRecDepth 20000 in
theorem dX7_nextShape_129 : decode cX7_nextShape 129 = .ok (.ireturn, 1) := by decide +kernel
set_option maxRecDepth 20000 in
theorem dX7_byRounds_0 : decode cX7_byRounds 0 = .ok (.aload_n 0, 1) := by decide +kernel
set_option maxRecDepth 20000 in
theorem dX7_byRounds_1 : decode cX7_byRounds 1 = .ok (.getfield 39, 3) := by decide +kernel
set_option maxRecDepth 20000 in
theorem dX7_byRounds_4 : decode cX7_byRounds 4 = .ok (.aload_n 0, 1) := by decide +kernel
set_option maxRecDepth 20000 in
theorem dX7_byRounds_5 : decode cX7_byRounds 5 = .ok (.getfield 7, 3) := by decide +kernel
set_option maxRecDepth 20000 in
theorem dX7_byRounds_8 : decode cX7_byRounds 8 = .ok (.laload, 1) := by decide +kernel
set_option maxRecDepth 20000 in
theorem dX7_byRounds_9 : decode cX7_byRounds 9 = .ok (.lstore_n 1, 1) := by decide +kernel
set_option maxRecDepth 20000 in
theorem dX7_byRounds_10 : decode cX7_byRounds 10 = .ok (.iconst 0, 1) := by decide +kernel
set_option maxRecDepth 20000 in
theorem dX7_byRounds_11 : decode cX7_byRounds 11 = .ok (.istore_n 3, 1) := by decide +kernel
set_option maxRecDepth 20000 in
theorem dX7_byRounds_12 : decode cX7_byRounds 12 = .ok (.iconst 0, 1) := by decide +kernel
set_option maxRecDepth 20000 in
theorem dX7_byRounds_13 : decode cX7_byRounds 13 = .ok (.istore 4, 2) := by decide +kernel
set_option maxRecDepth 20000 in
theorem dX7_byRounds_15 : decode cX7_byRounds 15 = .ok (.iload 4, 2) := by decide +kernel
set_option maxRecDepth 20000 in
theorem dX7_byRounds_17 : decode cX7_byRounds 17 = .ok (.aload_n 0, 1) := by decide +kernel
set_option maxRecDepth 20000 in
theorem dX7_byRounds_18 : decode cX7_byRounds 18 = .ok (.getfield 95, 3) := by decide +kernel
set_option maxRecDepth 20000 in
theorem dX7_byRounds_21 : decode cX7_byRounds 21 = .ok (.if_icmp .ge 55, 3) := by decide +kernel
set_option maxRecDepth 20000 in
theorem dX7_byRounds_24 : decode cX7_byRounds 24 = .ok (.iload 4, 2) := by decide +kernel
set_option maxRecDepth 20000 in
theorem dX7_byRounds_26 : decode cX7_byRounds 26 = .ok (.ifCond .le 28, 3) := by decide +kernel
set_option maxRecDepth 20000 in
theorem dX7_byRounds_29 : decode cX7_byRounds 29 = .ok (.aload_n 0, 1) := by decide +kernel
set_option maxRecDepth 20000 in
theorem dX7_byRounds_30 : decode cX7_byRounds 30 = .ok (.getfield 42, 3) := by decide +kernel
set_option maxRecDepth 20000 in
theorem dX7_byRounds_33 : decode cX7_byRounds 33 = .ok (.iload 4, 2) := by decide +kernel
set_option maxRecDepth 20000 in
theorem dX7_byRounds_35 : decode cX7_byRounds 35 = .ok (.iaload, 1) := by decide +kernel
set_option maxRecDepth 20000 in
theorem dX7_byRounds_36 : decode cX7_byRounds 36 = .ok (.aload_n 0, 1) := by decide +kernel
set_option maxRecDepth 20000 in
theorem dX7_byRounds_37 : decode cX7_byRounds 37 = .ok (.getfield 42, 3) := by decide +kernel
set_option maxRecDepth 20000 in
theorem dX7_byRounds_40 : decode cX7_byRounds 40 = .ok (.iload 4, 2) := by decide +kernel
set_option maxRecDepth 20000 in
theorem dX7_byRounds_42 : decode cX7_byRounds 42 = .ok (.iconst 1, 1) := by decide +kernel
set_option maxRecDepth 20000 in
theorem dX7_byRounds_43 : decode cX7_byRounds 43 = .ok (.isub, 1) := by decide +kernel
set_option maxRecDepth 20000 in
theorem dX7_byRounds_44 : decode cX7_byRounds 44 = .ok (.iaload, 1) := by decide +kernel
set_option maxRecDepth 20000 in
theorem dX7_byRounds_45 : decode cX7_byRounds 45 = .ok (.if_icmp .ne 9, 3) := by decide +kernel
set_option maxRecDepth 20000 in
theorem dX7_byRounds_48 : decode cX7_byRounds 48 = .ok (.iload_n 3, 1) := by decide +kernel
set_option maxRecDepth 20000 in
theorem dX7_byRounds_49 : decode cX7_byRounds 49 = .ok (.iconst 1, 1) := by decide +kernel
set_option maxRecDepth 20000 in
theorem dX7_byRounds_50 : decode cX7_byRounds 50 = .ok (.iadd, 1) := by decide +kernel
set_option maxRecDepth 20000 in
theorem dX7_byRounds_51 : decode cX7_byRounds 51 = .ok (.goto 4, 3) := by decide +kernel
set_option maxRecDepth 20000 in
theorem dX7_byRounds_54 : decode cX7_byRounds 54 = .ok (.iconst 1, 1) := by decide +kernel
set_option maxRecDepth 20000 in
theorem dX7_byRounds_55 : decode cX7_byRounds 55 = .ok (.istore_n 3, 1) := by decide +kernel
set_option maxRecDepth 20000 in
theorem dX7_byRounds_56 : decode cX7_byRounds 56 = .ok (.lload_n 1, 1) := by decide +kernel
set_option maxRecDepth 20000 in
theorem dX7_byRounds_57 : decode cX7_byRounds 57 = .ok (.aload_n 0, 1) := by decide +kernel
set_option maxRecDepth 20000 in
theorem dX7_byRounds_58 : decode cX7_byRounds 58 = .ok (.getfield 42, 3) := by decide +kernel
set_option maxRecDepth 20000 in
theorem dX7_byRounds_61 : decode cX7_byRounds 61 = .ok (.iload 4, 2) := by decide +kernel
set_option maxRecDepth 20000 in
theorem dX7_byRounds_63 : decode cX7_byRounds 63 = .ok (.iaload, 1) := by decide +kernel
set_option maxRecDepth 20000 in
theorem dX7_byRounds_64 : decode cX7_byRounds 64 = .ok (.i2l, 1) := by decide +kernel
set_option maxRecDepth 20000 in
theorem dX7_byRounds_65 : decode cX7_byRounds 65 = .ok (.ldiv, 1) := by decide +kernel
set_option maxRecDepth 20000 in
theorem dX7_byRounds_66 : decode cX7_byRounds 66 = .ok (.iload_n 3, 1) := by decide +kernel
set_option maxRecDepth 20000 in
theorem dX7_byRounds_67 : decode cX7_byRounds 67 = .ok (.i2l, 1) := by decide +kernel
set_option maxRecDepth 20000 in
theorem dX7_byRounds_68 : decode cX7_byRounds 68 = .ok (.ldiv, 1) := by decide +kernel
set_option maxRecDepth 20000 in
theorem dX7_byRounds_69 : decode cX7_byRounds 69 = .ok (.lstore_n 1, 1) := by decide +kernel
set_option maxRecDepth 20000 in
theorem dX7_byRounds_70 : decode cX7_byRounds 70 = .ok (.iinc 4 1, 3) := by decide +kernel
set_option maxRecDepth 20000 in
theorem dX7_byRounds_73 : decode cX7_byRounds 73 = .ok (.goto (-58), 3) := by decide +kernel
set_option maxRecDepth 20000 in
theorem dX7_byRounds_76 : decode cX7_byRounds 76 = .ok (.lload_n 1, 1) := by decide +kernel
set_option maxRecDepth 20000 in
theorem dX7_byRounds_77 : decode cX7_byRounds 77 = .ok (.lreturn, 1) := by decide +kernel
set_option maxRecDepth 20000 in
theorem dX7_byFillings_0 : decode cX7_byFillings 0 = .ok (.lconst 1, 1) := by decide +kernel
set_option maxRecDepth 20000 in
theorem dX7_byFillings_1 : decode cX7_byFillings 1 = .ok (.lstore_n 1, 1) := by decide +kernel
set_option maxRecDepth 20000 in
theorem dX7_byFillings_2 : decode cX7_byFillings 2 = .ok (.iconst 0, 1) := by decide +kernel
set_option maxRecDepth 20000 in
theorem dX7_byFillings_3 : decode cX7_byFillings 3 = .ok (.istore_n 3, 1) := by decide +kernel
set_option maxRecDepth 20000 in
theorem dX7_byFillings_4 : decode cX7_byFillings 4 = .ok (.iload_n 3, 1) := by decide +kernel
set_option maxRecDepth 20000 in
theorem dX7_byFillings_5 : decode cX7_byFillings 5 = .ok (.aload_n 0, 1) := by decide +kernel
set_option maxRecDepth 20000 in
theorem dX7_byFillings_6 : decode cX7_byFillings 6 = .ok (.getfield 95, 3) := by decide +kernel
set_option maxRecDepth 20000 in
theorem dX7_byFillings_9 : decode cX7_byFillings 9 = .ok (.if_icmp .ge 90, 3) := by decide +kernel
set_option maxRecDepth 20000 in
theorem dX7_byFillings_12 : decode cX7_byFillings 12 = .ok (.iconst 0, 1) := by decide +kernel
set_option maxRecDepth 20000 in
theorem dX7_byFillings_13 : decode cX7_byFillings 13 = .ok (.istore 4, 2) := by decide +kernel
set_option maxRecDepth 20000 in
theorem dX7_byFillings_15 : decode cX7_byFillings 15 = .ok (.iload 4, 2) := by decide +kernel
set_option maxRecDepth 20000 in
theorem dX7_byFillings_17 : decode cX7_byFillings 17 = .ok (.aload_n 0, 1) := by decide +kernel
set_option maxRecDepth 20000 in
theorem dX7_byFillings_18 : decode cX7_byFillings 18 = .ok (.getfield 42, 3) := by decide +kernel
set_option maxRecDepth 20000 in
theorem dX7_byFillings_21 : decode cX7_byFillings 21 = .ok (.iload_n 3, 1) := by decide +kernel
set_option maxRecDepth 20000 in
theorem dX7_byFillings_22 : decode cX7_byFillings 22 = .ok (.iaload, 1) := by decide +kernel
set_option maxRecDepth 20000 in
theorem dX7_byFillings_23 : decode cX7_byFillings 23 = .ok (.if_icmp .ge 70, 3) := by decide +kernel
set_option maxRecDepth 20000 in
theorem dX7_byFillings_26 : decode cX7_byFillings 26 = .ok (.iconst 0, 1) := by decide +kernel
set_option maxRecDepth 20000 in
theorem dX7_byFillings_27 : decode cX7_byFillings 27 = .ok (.istore 5, 2) := by decide +kernel
set_option maxRecDepth 20000 in
theorem dX7_byFillings_29 : decode cX7_byFillings 29 = .ok (.iload_n 3, 1) := by decide +kernel
set_option maxRecDepth 20000 in
theorem dX7_byFillings_30 : decode cX7_byFillings 30 = .ok (.iconst 1, 1) := by decide +kernel
set_option maxRecDepth 20000 in
theorem dX7_byFillings_31 : decode cX7_byFillings 31 = .ok (.iadd, 1) := by decide +kernel
set_option maxRecDepth 20000 in
theorem dX7_byFillings_32 : decode cX7_byFillings 32 = .ok (.istore 6, 2) := by decide +kernel
set_option maxRecDepth 20000 in
theorem dX7_byFillings_34 : decode cX7_byFillings 34 = .ok (.iload 6, 2) := by decide +kernel
set_option maxRecDepth 20000 in
theorem dX7_byFillings_36 : decode cX7_byFillings 36 = .ok (.aload_n 0, 1) := by decide +kernel
set_option maxRecDepth 20000 in
theorem dX7_byFillings_37 : decode cX7_byFillings 37 = .ok (.getfield 95, 3) := by decide +kernel
set_option maxRecDepth 20000 in
theorem dX7_byFillings_40 : decode cX7_byFillings 40 = .ok (.if_icmp .ge 31, 3) := by decide +kernel
set_option maxRecDepth 20000 in
theorem dX7_byFillings_43 : decode cX7_byFillings 43 = .ok (.iload 5, 2) := by decide +kernel
set_option maxRecDepth 20000 in
theorem dX7_byFillings_45 : decode cX7_byFillings 45 = .ok (.aload_n 0, 1) := by decide +kernel
set_option maxRecDepth 20000 in
theorem dX7_byFillings_46 : decode cX7_byFillings 46 = .ok (.getfield 42, 3) := by decide +kernel
set_option maxRecDepth 20000 in
theorem dX7_byFillings_49 : decode cX7_byFillings 49 = .ok (.iload 6, 2) := by decide +kernel
set_option maxRecDepth 20000 in
theorem dX7_byFillings_51 : decode cX7_byFillings 51 = .ok (.iaload, 1) := by decide +kernel
set_option maxRecDepth 20000 in
theorem dX7_byFillings_52 : decode cX7_byFillings 52 = .ok (.iload 4, 2) := by decide +kernel
set_option maxRecDepth 20000 in
theorem dX7_byFillings_54 : decode cX7_byFillings 54 = .ok (.if_icmp .le 7, 3) := by decide +kernel
set_option maxRecDepth 20000 in
theorem dX7_byFillings_57 : decode cX7_byFillings 57 = .ok (.iconst 1, 1) := by decide +kernel
set_option maxRecDepth 20000 in
theorem dX7_byFillings_58 : decode cX7_byFillings 58 = .ok (.goto 4, 3) := by decide +kernel
set_option maxRecDepth 20000 in
theorem dX7_byFillings_61 : decode cX7_byFillings 61 = .ok (.iconst 0, 1) := by decide +kernel
set_option maxRecDepth 20000 in
theorem dX7_byFillings_62 : decode cX7_byFillings 62 = .ok (.iadd, 1) := by decide +kernel
set_option maxRecDepth 20000 in
theorem dX7_byFillings_63 : decode cX7_byFillings 63 = .ok (.istore 5, 2) := by decide +kernel
set_option maxRecDepth 20000 in
theorem dX7_byFillings_65 : decode cX7_byFillings 65 = .ok (.iinc 6 1, 3) := by decide +kernel
set_option maxRecDepth 20000 in
theorem dX7_byFillings_68 : decode cX7_byFillings 68 = .ok (.goto (-34), 3) := by decide +kernel
set_option maxRecDepth 20000 in
theorem dX7_byFillings_71 : decode cX7_byFillings 71 = .ok (.lload_n 1, 1) := by decide +kernel
set_option maxRecDepth 20000 in
theorem dX7_byFillings_72 : decode cX7_byFillings 72 = .ok (.aload_n 0, 1) := by decide +kernel
set_option maxRecDepth 20000 in
theorem dX7_byFillings_73 : decode cX7_byFillings 73 = .ok (.getfield 42, 3) := by decide +kernel
set_option maxRecDepth 20000 in
theorem dX7_byFillings_76 : decode cX7_byFillings 76 = .ok (.iload_n 3, 1) := by decide +kernel
set_option maxRecDepth 20000 in
theorem dX7_byFillings_77 : decode cX7_byFillings 77 = .ok (.iaload, 1) := by decide +kernel
set_option maxRecDepth 20000 in
theorem dX7_byFillings_78 : decode cX7_byFillings 78 = .ok (.iload 4, 2) := by decide +kernel
set_option maxRecDepth 20000 in
theorem dX7_byFillings_80 : decode cX7_byFillings 80 = .ok (.isub, 1) := by decide +kernel
set_option maxRecDepth 20000 in
theorem dX7_byFillings_81 : decode cX7_byFillings 81 = .ok (.iload 5, 2) := by decide +kernel
set_option maxRecDepth 20000 in
theorem dX7_byFillings_83 : decode cX7_byFillings 83 = .ok (.iadd, 1) := by decide +kernel
set_option maxRecDepth 20000 in
theorem dX7_byFillings_84 : decode cX7_byFillings 84 = .ok (.i2l, 1) := by decide +kernel
set_option maxRecDepth 20000 in
theorem dX7_byFillings_85 : decode cX7_byFillings 85 = .ok (.lmul, 1) := by decide +kernel
set_option maxRecDepth 20000 in
theorem dX7_byFillings_86 : decode cX7_byFillings 86 = .ok (.lstore_n 1, 1) := by decide +kernel
set_option maxRecDepth 20000 in
theorem dX7_byFillings_87 : decode cX7_byFillings 87 = .ok (.iinc 4 1, 3) := by decide +kernel
set_option maxRecDepth 20000 in
theorem dX7_byFillings_90 : decode cX7_byFillings 90 = .ok (.goto (-75), 3) := by decide +kernel
set_option maxRecDepth 20000 in
theorem dX7_byFillings_93 : decode cX7_byFillings 93 = .ok (.iinc 3 1, 3) := by decide +kernel
set_option maxRecDepth 20000 in
theorem dX7_byFillings_96 : decode cX7_byFillings 96 = .ok (.goto (-92), 3) := by decide +kernel
set_option maxRecDepth 20000 in
theorem dX7_byFillings_99 : decode cX7_byFillings 99 = .ok (.aload_n 0, 1) := by decide +kernel
set_option maxRecDepth 20000 in
theorem dX7_byFillings_100 : decode cX7_byFillings 100 = .ok (.getfield 39, 3) := by decide +kernel
set_option maxRecDepth 20000 in
theorem dX7_byFillings_103 : decode cX7_byFillings 103 = .ok (.aload_n 0, 1) := by decide +kernel
set_option maxRecDepth 20000 in
theorem dX7_byFillings_104 : decode cX7_byFillings 104 = .ok (.getfield 7, 3) := by decide +kernel
set_option maxRecDepth 20000 in
theorem dX7_byFillings_107 : decode cX7_byFillings 107 = .ok (.laload, 1) := by decide +kernel
set_option maxRecDepth 20000 in
theorem dX7_byFillings_108 : decode cX7_byFillings 108 = .ok (.lload_n 1, 1) := by decide +kernel
set_option maxRecDepth 20000 in
theorem dX7_byFillings_109 : decode cX7_byFillings 109 = .ok (.ldiv, 1) := by decide +kernel
set_option maxRecDepth 20000 in
theorem dX7_byFillings_110 : decode cX7_byFillings 110 = .ok (.lstore_n 3, 1) := by decide +kernel
set_option maxRecDepth 20000 in
theorem dX7_byFillings_111 : decode cX7_byFillings 111 = .ok (.lload_n 3, 1) := by decide +kernel
set_option maxRecDepth 20000 in
theorem dX7_byFillings_112 : decode cX7_byFillings 112 = .ok (.lload_n 3, 1) := by decide +kernel
set_option maxRecDepth 20000 in
theorem dX7_byFillings_113 : decode cX7_byFillings 113 = .ok (.lmul, 1) := by decide +kernel
set_option maxRecDepth 20000 in
theorem dX7_byFillings_114 : decode cX7_byFillings 114 = .ok (.lreturn, 1) := by decide +kernel
set_option maxRecDepth 20000 in
theorem dX7_shapeNumber_0 : decode cX7_shapeNumber 0 = .ok (.iconst 0, 1) := by decide +kernel
set_option maxRecDepth 20000 in
theorem dX7_shapeNumber_1 : decode cX7_shapeNumber 1 = .ok (.istore_n 2, 1) := by decide +kernel
set_option maxRecDepth 20000 in
theorem dX7_shapeNumber_2 : decode cX7_shapeNumber 2 = .ok (.lconst 1, 1) := by decide +kernel
set_option maxRecDepth 20000 in
theorem dX7_shapeNumber_3 : decode cX7_shapeNumber 3 = .ok (.lstore_n 3, 1) := by decide +kernel
set_option maxRecDepth 20000 in
theorem dX7_shapeNumber_4 : decode cX7_shapeNumber 4 = .ok (.iconst 0, 1) := by decide +kernel
set_option maxRecDepth 20000 in
theorem dX7_shapeNumber_5 : decode cX7_shapeNumber 5 = .ok (.istore 5, 2) := by decide +kernel
set_option maxRecDepth 20000 in
theorem dX7_shapeNumber_7 : decode cX7_shapeNumber 7 = .ok (.iload 5, 2) := by decide +kernel
set_option maxRecDepth 20000 in
theorem dX7_shapeNumber_9 : decode cX7_shapeNumber 9 = .ok (.aload_n 0, 1) := by decide +kernel
set_option maxRecDepth 20000 in
theorem dX7_shapeNumber_10 : decode cX7_shapeNumber 10 = .ok (.getfield 95, 3) := by decide +kernel
set_option maxRecDepth 20000 in
theorem dX7_shapeNumber_13 : decode cX7_shapeNumber 13 = .ok (.if_icmp .ge 52, 3) := by decide +kernel
set_option maxRecDepth 20000 in
theorem dX7_shapeNumber_16 : decode cX7_shapeNumber 16 = .ok (.iload_n 2, 1) := by decide +kernel
set_option maxRecDepth 20000 in
theorem dX7_shapeNumber_17 : decode cX7_shapeNumber 17 = .ok (.aload_n 0, 1) := by decide +kernel
set_option maxRecDepth 20000 in
theorem dX7_shapeNumber_18 : decode cX7_shapeNumber 18 = .ok (.getfield 42, 3) := by decide +kernel
set_option maxRecDepth 20000 in
theorem dX7_shapeNumber_21 : decode cX7_shapeNumber 21 = .ok (.iload 5, 2) := by decide +kernel
set_option maxRecDepth 20000 in
theorem dX7_shapeNumber_23 : decode cX7_shapeNumber 23 = .ok (.iaload, 1) := by decide +kernel
set_option maxRecDepth 20000 in
theorem dX7_shapeNumber_24 : decode cX7_shapeNumber 24 = .ok (.iconst 1, 1) := by decide +kernel
set_option maxRecDepth 20000 in
theorem dX7_shapeNumber_25 : decode cX7_shapeNumber 25 = .ok (.if_icmp .ne 7, 3) := by decide +kernel
set_option maxRecDepth 20000 in
theorem dX7_shapeNumber_28 : decode cX7_shapeNumber 28 = .ok (.iconst 1, 1) := by decide +kernel
set_option maxRecDepth 20000 in
theorem dX7_shapeNumber_29 : decode cX7_shapeNumber 29 = .ok (.goto 4, 3) := by decide +kernel
set_option maxRecDepth 20000 in
theorem dX7_shapeNumber_32 : decode cX7_shapeNumber 32 = .ok (.iconst 0, 1) := by decide +kernel
set_option maxRecDepth 20000 in
theorem dX7_shapeNumber_33 : decode cX7_shapeNumber 33 = .ok (.iadd, 1) := by decide +kernel
set_option maxRecDepth 20000 in
theorem dX7_shapeNumber_34 : decode cX7_shapeNumber 34 = .ok (.istore_n 2, 1) := by decide +kernel
set_option maxRecDepth 20000 in
theorem dX7_shapeNumber_35 : decode cX7_shapeNumber 35 = .ok (.lload_n 3, 1) := by decide +kernel
set_option maxRecDepth 20000 in
theorem dX7_shapeNumber_36 : decode cX7_shapeNumber 36 = .ok (.lload_n 3, 1) := by decide +kernel
set_option maxRecDepth 20000 in
theorem dX7_shapeNumber_37 : decode cX7_shapeNumber 37 = .ok (.aload_n 0, 1) := by decide +kernel
set_option maxRecDepth 20000 in
theorem dX7_shapeNumber_38 : decode cX7_shapeNumber 38 = .ok (.getfield 42, 3) := by decide +kernel
set_option maxRecDepth 20000 in
theorem dX7_shapeNumber_41 : decode cX7_shapeNumber 41 = .ok (.iload 5, 2) := by decide +kernel
set_option maxRecDepth 20000 in
theorem dX7_shapeNumber_43 : decode cX7_shapeNumber 43 = .ok (.iaload, 1) := by decide +kernel
set_option maxRecDepth 20000 in
theorem dX7_shapeNumber_44 : decode cX7_shapeNumber 44 = .ok (.i2l, 1) := by decide +kernel
set_option maxRecDepth 20000 in
theorem dX7_shapeNumber_45 : decode cX7_shapeNumber 45 = .ok (.invokestatic 70, 3) := by decide +kernel
set_option maxRecDepth 20000 in
theorem dX7_shapeNumber_48 : decode cX7_shapeNumber 48 = .ok (.ldiv, 1) := by decide +kernel
set_option maxRecDepth 20000 in
theorem dX7_shapeNumber_49 : decode cX7_shapeNumber 49 = .ok (.aload_n 0, 1) := by decide +kernel
set_option maxRecDepth 20000 in
theorem dX7_shapeNumber_50 : decode cX7_shapeNumber 50 = .ok (.getfield 42, 3) := by decide +kernel
set_option maxRecDepth 20000 in
theorem dX7_shapeNumber_53 : decode cX7_shapeNumber 53 = .ok (.iload 5, 2) := by decide +kernel
set_option maxRecDepth 20000 in
theorem dX7_shapeNumber_55 : decode cX7_shapeNumber 55 = .ok (.iaload, 1) := by decide +kernel
set_option maxRecDepth 20000 in
theorem dX7_shapeNumber_56 : decode cX7_shapeNumber 56 = .ok (.i2l, 1) := by decide +kernel
set_option maxRecDepth 20000 in
theorem dX7_shapeNumber_57 : decode cX7_shapeNumber 57 = .ok (.lmul, 1) := by decide +kernel
set_option maxRecDepth 20000 in
theorem dX7_shapeNumber_58 : decode cX7_shapeNumber 58 = .ok (.lstore_n 3, 1) := by decide +kernel
set_option maxRecDepth 20000 in
theorem dX7_shapeNumber_59 : decode cX7_shapeNumber 59 = .ok (.iinc 5 1, 3) := by decide +kernel
set_option maxRecDepth 20000 in
theorem dX7_shapeNumber_62 : decode cX7_shapeNumber 62 = .ok (.goto (-55), 3) := by decide +kernel
set_option maxRecDepth 20000 in
theorem dX7_shapeNumber_65 : decode cX7_shapeNumber 65 = .ok (.iload_n 1, 1) := by decide +kernel
set_option maxRecDepth 20000 in
theorem dX7_shapeNumber_66 : decode cX7_shapeNumber 66 = .ok (.iconst 3, 1) := by decide +kernel
set_option maxRecDepth 20000 in
theorem dX7_shapeNumber_67 : decode cX7_shapeNumber 67 = .ok (.if_icmp .ne 7, 3) := by decide +kernel
set_option maxRecDepth 20000 in
theorem dX7_shapeNumber_70 : decode cX7_shapeNumber 70 = .ok (.iload_n 2, 1) := by decide +kernel
set_option maxRecDepth 20000 in
theorem dX7_shapeNumber_71 : decode cX7_shapeNumber 71 = .ok (.goto 20, 3) := by decide +kernel
set_option maxRecDepth 20000 in
theorem dX7_shapeNumber_74 : decode cX7_shapeNumber 74 = .ok (.iload_n 1, 1) := by decide +kernel
set_option maxRecDepth 20000 in
theorem dX7_shapeNumber_75 : decode cX7_shapeNumber 75 = .ok (.bipush 7, 2) := by decide +kernel
set_option maxRecDepth 20000 in
theorem dX7_shapeNumber_77 : decode cX7_shapeNumber 77 = .ok (.if_icmp .ne 8, 3) := by decide +kernel
set_option maxRecDepth 20000 in
theorem dX7_shapeNumber_80 : decode cX7_shapeNumber 80 = .ok (.lload_n 3, 1) := by decide +kernel
set_option maxRecDepth 20000 in
theorem dX7_shapeNumber_81 : decode cX7_shapeNumber 81 = .ok (.l2i, 1) := by decide +kernel
set_option maxRecDepth 20000 in
theorem dX7_shapeNumber_82 : decode cX7_shapeNumber 82 = .ok (.goto 9, 3) := by decide +kernel
set_option maxRecDepth 20000 in
theorem dX7_shapeNumber_85 : decode cX7_shapeNumber 85 = .ok (.aload_n 0, 1) := by decide +kernel
set_option maxRecDepth 20000 in
theorem dX7_shapeNumber_86 : decode cX7_shapeNumber 86 = .ok (.getfield 42, 3) := by decide +kernel
set_option maxRecDepth 20000 in
theorem dX7_shapeNumber_89 : decode cX7_shapeNumber 89 = .ok (.iconst 0, 1) := by decide +kernel
set_option maxRecDepth 20000 in
theorem dX7_shapeNumber_90 : decode cX7_shapeNumber 90 = .ok (.iaload, 1) := by decide +kernel
set_option maxRecDepth 20000 in
theorem dX7_shapeNumber_91 : decode cX7_shapeNumber 91 = .ok (.ireturn, 1) := by decide +kernel
set_option maxRecDepth 20000 in
theorem dX7_countByShapes_0 : decode cX7_countByShapes 0 = .ok (.iconst 0, 1) := by decide +kernel
set_option maxRecDepth 20000 in
theorem dX7_countByShapes_1 : decode cX7_countByShapes 1 = .ok (.istore_n 2, 1) := by decide +kernel
set_option maxRecDepth 20000 in
theorem dX7_countByShapes_2 : decode cX7_countByShapes 2 = .ok (.iload_n 2, 1) := by decide +kernel
set_option maxRecDepth 20000 in
theorem dX7_countByShapes_3 : decode cX7_countByShapes 3 = .ok (.sipush 210, 3) := by decide +kernel
set_option maxRecDepth 20000 in
theorem dX7_countByShapes_6 : decode cX7_countByShapes 6 = .ok (.if_icmp .gt 16, 3) := by decide +kernel
set_option maxRecDepth 20000 in
theorem dX7_countByShapes_9 : decode cX7_countByShapes 9 = .ok (.aload_n 0, 1) := by decide +kernel
set_option maxRecDepth 20000 in
theorem dX7_countByShapes_10 : decode cX7_countByShapes 10 = .ok (.getfield 32, 3) := by decide +kernel
set_option maxRecDepth 20000 in
theorem dX7_countByShapes_13 : decode cX7_countByShapes 13 = .ok (.iload_n 2, 1) := by decide +kernel
set_option maxRecDepth 20000 in
theorem dX7_countByShapes_14 : decode cX7_countByShapes 14 = .ok (.lconst 0, 1) := by decide +kernel
set_option maxRecDepth 20000 in
theorem dX7_countByShapes_15 : decode cX7_countByShapes 15 = .ok (.lastore, 1) := by decide +kernel
set_option maxRecDepth 20000 in
theorem dX7_countByShapes_16 : decode cX7_countByShapes 16 = .ok (.iinc 2 1, 3) := by decide +kernel
set_option maxRecDepth 20000 in
theorem dX7_countByShapes_19 : decode cX7_countByShapes 19 = .ok (.goto (-17), 3) := by decide +kernel
set_option maxRecDepth 20000 in
theorem dX7_countByShapes_22 : decode cX7_countByShapes 22 = .ok (.aload_n 0, 1) := by decide +kernel
set_option maxRecDepth 20000 in
theorem dX7_countByShapes_23 : decode cX7_countByShapes 23 = .ok (.getfield 42, 3) := by decide +kernel
set_option maxRecDepth 20000 in
theorem dX7_countByShapes_26 : decode cX7_countByShapes 26 = .ok (.iconst 0, 1) := by decide +kernel
set_option maxRecDepth 20000 in
theorem dX7_countByShapes_27 : decode cX7_countByShapes 27 = .ok (.aload_n 0, 1) := by decide +kernel
set_option maxRecDepth 20000 in
theorem dX7_countByShapes_28 : decode cX7_countByShapes 28 = .ok (.getfield 7, 3) := by decide +kernel
set_option maxRecDepth 20000 in
theorem dX7_countByShapes_31 : decode cX7_countByShapes 31 = .ok (.iastore, 1) := by decide +kernel
set_option maxRecDepth 20000 in
theorem dX7_countByShapes_32 : decode cX7_countByShapes 32 = .ok (.aload_n 0, 1) := by decide +kernel
set_option maxRecDepth 20000 in
theorem dX7_countByShapes_33 : decode cX7_countByShapes 33 = .ok (.iconst 1, 1) := by decide +kernel
set_option maxRecDepth 20000 in
theorem dX7_countByShapes_34 : decode cX7_countByShapes 34 = .ok (.putfield 95, 3) := by decide +kernel
set_option maxRecDepth 20000 in
theorem dX7_countByShapes_37 : decode cX7_countByShapes 37 = .ok (.iconst 1, 1) := by decide +kernel
set_option maxRecDepth 20000 in
theorem dX7_countByShapes_38 : decode cX7_countByShapes 38 = .ok (.istore_n 2, 1) := by decide +kernel
set_option maxRecDepth 20000 in
theorem dX7_countByShapes_39 : decode cX7_countByShapes 39 = .ok (.iload_n 2, 1) := by decide +kernel
set_option maxRecDepth 20000 in
theorem dX7_countByShapes_40 : decode cX7_countByShapes 40 = .ok (.ifCond .eq 41, 3) := by decide +kernel
set_option maxRecDepth 20000 in
theorem dX7_countByShapes_43 : decode cX7_countByShapes 43 = .ok (.aload_n 0, 1) := by decide +kernel
set_option maxRecDepth 20000 in
theorem dX7_countByShapes_44 : decode cX7_countByShapes 44 = .ok (.getfield 32, 3) := by decide +kernel
set_option maxRecDepth 20000 in
theorem dX7_countByShapes_47 : decode cX7_countByShapes 47 = .ok (.aload_n 0, 1) := by decide +kernel
set_option maxRecDepth 20000 in
theorem dX7_countByShapes_48 : decode cX7_countByShapes 48 = .ok (.iload_n 1, 1) := by decide +kernel
set_option maxRecDepth 20000 in
theorem dX7_countByShapes_49 : decode cX7_countByShapes 49 = .ok (.invokevirtual 98, 3) := by decide +kernel
set_option maxRecDepth 20000 in
theorem dX7_countByShapes_52 : decode cX7_countByShapes 52 = .ok (.dup2, 1) := by decide +kernel
set_option maxRecDepth 20000 in
theorem dX7_countByShapes_53 : decode cX7_countByShapes 53 = .ok (.laload, 1) := by decide +kernel
set_option maxRecDepth 20000 in
theorem dX7_countByShapes_54 : decode cX7_countByShapes 54 = .ok (.iload_n 1, 1) := by decide +kernel
set_option maxRecDepth 20000 in
theorem dX7_countByShapes_55 : decode cX7_countByShapes 55 = .ok (.bipush 6, 2) := by decide +kernel
set_option maxRecDepth 20000 in
theorem dX7_countByShapes_57 : decode cX7_countByShapes 57 = .ok (.if_icmp .ne 10, 3) := by decide +kernel
set_option maxRecDepth 20000 in
theorem dX7_countByShapes_60 : decode cX7_countByShapes 60 = .ok (.aload_n 0, 1) := by decide +kernel
set_option maxRecDepth 20000 in
theorem dX7_countByShapes_61 : decode cX7_countByShapes 61 = .ok (.invokevirtual 101, 3) := by decide +kernel
set_option maxRecDepth 20000 in
theorem dX7_countByShapes_64 : decode cX7_countByShapes 64 = .ok (.goto 7, 3) := by decide +kernel
set_option maxRecDepth 20000 in
theorem dX7_countByShapes_67 : decode cX7_countByShapes 67 = .ok (.aload_n 0, 1) := by decide +kernel
set_option maxRecDepth 20000 in
theorem dX7_countByShapes_68 : decode cX7_countByShapes 68 = .ok (.invokevirtual 105, 3) := by decide +kernel
set_option maxRecDepth 20000 in
theorem dX7_countByShapes_71 : decode cX7_countByShapes 71 = .ok (.ladd, 1) := by decide +kernel
set_option maxRecDepth 20000 in
theorem dX7_countByShapes_72 : decode cX7_countByShapes 72 = .ok (.lastore, 1) := by decide +kernel
set_option maxRecDepth 20000 in
theorem dX7_countByShapes_73 : decode cX7_countByShapes 73 = .ok (.aload_n 0, 1) := by decide +kernel
set_option maxRecDepth 20000 in
theorem dX7_countByShapes_74 : decode cX7_countByShapes 74 = .ok (.invokevirtual 108, 3) := by decide +kernel
set_option maxRecDepth 20000 in
theorem dX7_countByShapes_77 : decode cX7_countByShapes 77 = .ok (.istore_n 2, 1) := by decide +kernel
set_option maxRecDepth 20000 in
theorem dX7_countByShapes_78 : decode cX7_countByShapes 78 = .ok (.goto (-39), 3) := by decide +kernel
set_option maxRecDepth 20000 in
theorem dX7_countByShapes_81 : decode cX7_countByShapes 81 = .ok (.return_, 1) := by decide +kernel
set_option maxRecDepth 20000 in
theorem dX7_findCounts_0 : decode cX7_findCounts 0 = .ok (.aload_n 0, 1) := by decide +kernel
set_option maxRecDepth 20000 in
theorem dX7_findCounts_1 : decode cX7_findCounts 1 = .ok (.invokevirtual 112, 3) := by decide +kernel
set_option maxRecDepth 20000 in
theorem dX7_findCounts_4 : decode cX7_findCounts 4 = .ok (.iload_n 1, 1) := by decide +kernel
set_option maxRecDepth 20000 in
theorem dX7_findCounts_5 : decode cX7_findCounts 5 = .ok (.iconst 3, 1) := by decide +kernel
set_option maxRecDepth 20000 in
theorem dX7_findCounts_6 : decode cX7_findCounts 6 = .ok (.if_icmp .lt 8, 3) := by decide +kernel
set_option maxRecDepth 20000 in
theorem dX7_findCounts_9 : decode cX7_findCounts 9 = .ok (.iload_n 1, 1) := by decide +kernel
set_option maxRecDepth 20000 in
theorem dX7_findCounts_10 : decode cX7_findCounts 10 = .ok (.iconst 5, 1) := by decide +kernel
set_option maxRecDepth 20000 in
theorem dX7_findCounts_11 : decode cX7_findCounts 11 = .ok (.if_icmp .ne 11, 3) := by decide +kernel
set_option maxRecDepth 20000 in
theorem dX7_findCounts_14 : decode cX7_findCounts 14 = .ok (.aload_n 0, 1) := by decide +kernel
set_option maxRecDepth 20000 in
theorem dX7_findCounts_15 : decode cX7_findCounts 15 = .ok (.iload_n 1, 1) := by decide +kernel
set_option maxRecDepth 20000 in
theorem dX7_findCounts_16 : decode cX7_findCounts 16 = .ok (.invokevirtual 115, 3) := by decide +kernel
set_option maxRecDepth 20000 in
theorem dX7_findCounts_19 : decode cX7_findCounts 19 = .ok (.goto 8, 3) := by decide +kernel
set_option maxRecDepth 20000 in
theorem dX7_findCounts_22 : decode cX7_findCounts 22 = .ok (.aload_n 0, 1) := by decide +kernel
set_option maxRecDepth 20000 in
theorem dX7_findCounts_23 : decode cX7_findCounts 23 = .ok (.iload_n 1, 1) := by decide +kernel
set_option maxRecDepth 20000 in
theorem dX7_findCounts_24 : decode cX7_findCounts 24 = .ok (.invokevirtual 119, 3) := by decide +kernel
set_option maxRecDepth 20000 in
theorem dX7_findCounts_27 : decode cX7_findCounts 27 = .ok (.return_, 1) := by decide +kernel
set_option maxRecDepth 20000 in
theorem dX7_many_0 : decode cX7_many 0 = .ok (.iload_n 1, 1) := by decide +kernel
set_option maxRecDepth 20000 in
theorem dX7_many_1 : decode cX7_many 1 = .ok (.i2l, 1) := by decide +kernel
set_option maxRecDepth 20000 in
theorem dX7_many_2 : decode cX7_many 2 = .ok (.lconst 0, 1) := by decide +kernel
set_option maxRecDepth 20000 in
theorem dX7_many_3 : decode cX7_many 3 = .ok (.ldc2_w 87, 3) := by decide +kernel
set_option maxRecDepth 20000 in
theorem dX7_many_6 : decode cX7_many 6 = .ok (.invokestatic 51, 3) := by decide +kernel
set_option maxRecDepth 20000 in
theorem dX7_many_9 : decode cX7_many 9 = .ok (.ifCond .ne 7, 3) := by decide +kernel
set_option maxRecDepth 20000 in
theorem dX7_many_12 : decode cX7_many 12 = .ok (.ldc2_w 122, 3) := by decide +kernel
set_option maxRecDepth 20000 in
theorem dX7_many_15 : decode cX7_many 15 = .ok (.lreturn, 1) := by decide +kernel
set_option maxRecDepth 20000 in
theorem dX7_many_16 : decode cX7_many 16 = .ok (.aload_n 0, 1) := by decide +kernel
set_option maxRecDepth 20000 in
theorem dX7_many_17 : decode cX7_many 17 = .ok (.iload_n 1, 1) := by decide +kernel
set_option maxRecDepth 20000 in
theorem dX7_many_18 : decode cX7_many 18 = .ok (.invokevirtual 124, 3) := by decide +kernel
set_option maxRecDepth 20000 in
theorem dX7_many_21 : decode cX7_many 21 = .ok (.iload_n 2, 1) := by decide +kernel
set_option maxRecDepth 20000 in
theorem dX7_many_22 : decode cX7_many 22 = .ok (.i2l, 1) := by decide +kernel
set_option maxRecDepth 20000 in
theorem dX7_many_23 : decode cX7_many 23 = .ok (.lconst 0, 1) := by decide +kernel
set_option maxRecDepth 20000 in
theorem dX7_many_24 : decode cX7_many 24 = .ok (.ldc2_w 127, 3) := by decide +kernel
set_option maxRecDepth 20000 in
theorem dX7_many_27 : decode cX7_many 27 = .ok (.invokestatic 51, 3) := by decide +kernel
set_option maxRecDepth 20000 in
theorem dX7_many_30 : decode cX7_many 30 = .ok (.ifCond .eq 12, 3) := by decide +kernel
set_option maxRecDepth 20000 in
theorem dX7_many_33 : decode cX7_many 33 = .ok (.aload_n 0, 1) := by decide +kernel
set_option maxRecDepth 20000 in
theorem dX7_many_34 : decode cX7_many 34 = .ok (.getfield 32, 3) := by decide +kernel
set_option maxRecDepth 20000 in
theorem dX7_many_37 : decode cX7_many 37 = .ok (.iload_n 2, 1) := by decide +kernel
set_option maxRecDepth 20000 in
theorem dX7_many_38 : decode cX7_many 38 = .ok (.laload, 1) := by decide +kernel
set_option maxRecDepth 20000 in
theorem dX7_many_39 : decode cX7_many 39 = .ok (.goto 4, 3) := by decide +kernel
set_option maxRecDepth 20000 in
theorem dX7_many_42 : decode cX7_many 42 = .ok (.lconst 0, 1) := by decide +kernel
set_option maxRecDepth 20000 in
theorem dX7_many_43 : decode cX7_many 43 = .ok (.lreturn, 1) := by decide +kernel
set_option maxRecDepth 20000 in
theorem dX7_mean_0 : decode cX7_mean 0 = .ok (.iload_n 1, 1) := by decide +kernel
set_option maxRecDepth 20000 in
theorem dX7_mean_1 : decode cX7_mean 1 = .ok (.i2l, 1) := by decide +kernel
set_option maxRecDepth 20000 in
theorem dX7_mean_2 : decode cX7_mean 2 = .ok (.lconst 0, 1) := by decide +kernel
set_option maxRecDepth 20000 in
theorem dX7_mean_3 : decode cX7_mean 3 = .ok (.ldc2_w 87, 3) := by decide +kernel
set_option maxRecDepth 20000 in
theorem dX7_mean_6 : decode cX7_mean 6 = .ok (.invokestatic 51, 3) := by decide +kernel
set_option maxRecDepth 20000 in
theorem dX7_mean_9 : decode cX7_mean 9 = .ok (.ifCond .eq 13, 3) := by decide +kernel
set_option maxRecDepth 20000 in
theorem dX7_mean_12 : decode cX7_mean 12 = .ok (.iload_n 2, 1) := by decide +kernel
set_option maxRecDepth 20000 in
theorem dX7_mean_13 : decode cX7_mean 13 = .ok (.i2l, 1) := by decide +kernel
set_option maxRecDepth 20000 in
theorem dX7_mean_14 : decode cX7_mean 14 = .ok (.lconst 0, 1) := by decide +kernel
set_option maxRecDepth 20000 in
theorem dX7_mean_15 : decode cX7_mean 15 = .ok (.lconst 1, 1) := by decide +kernel
set_option maxRecDepth 20000 in
theorem dX7_mean_16 : decode cX7_mean 16 = .ok (.invokestatic 51, 3) := by decide +kernel
set_option maxRecDepth 20000 in
theorem dX7_mean_19 : decode cX7_mean 19 = .ok (.ifCond .ne 7, 3) := by decide +kernel
set_option maxRecDepth 20000 in
theorem dX7_mean_22 : decode cX7_mean 22 = .ok (.ldc2_w 122, 3) := by decide +kernel
set_option maxRecDepth 20000 in
theorem dX7_mean_25 : decode cX7_mean 25 = .ok (.lreturn, 1) := by decide +kernel
set_option maxRecDepth 20000 in
theorem dX7_mean_26 : decode cX7_mean 26 = .ok (.aload_n 0, 1) := by decide +kernel
set_option maxRecDepth 20000 in
theorem dX7_mean_27 : decode cX7_mean 27 = .ok (.iload_n 1, 1) := by decide +kernel
set_option maxRecDepth 20000 in
theorem dX7_mean_28 : decode cX7_mean 28 = .ok (.invokevirtual 124, 3) := by decide +kernel
set_option maxRecDepth 20000 in
theorem dX7_mean_31 : decode cX7_mean 31 = .ok (.lconst 0, 1) := by decide +kernel
set_option maxRecDepth 20000 in
theorem dX7_mean_32 : decode cX7_mean 32 = .ok (.lstore_n 3, 1) := by decide +kernel
set_option maxRecDepth 20000 in
theorem dX7_mean_33 : decode cX7_mean 33 = .ok (.iconst 0, 1) := by decide +kernel
set_option maxRecDepth 20000 in
theorem dX7_mean_34 : decode cX7_mean 34 = .ok (.istore 5, 2) := by decide +kernel
set_option maxRecDepth 20000 in
theorem dX7_mean_36 : decode cX7_mean 36 = .ok (.iload 5, 2) := by decide +kernel
set_option maxRecDepth 20000 in
theorem dX7_mean_38 : decode cX7_mean 38 = .ok (.sipush 210, 3) := by decide +kernel
set_option maxRecDepth 20000 in
theorem dX7_mean_41 : decode cX7_mean 41 = .ok (.if_icmp .gt 23, 3) := by decide +kernel
set_option maxRecDepth 20000 in
theorem dX7_mean_44 : decode cX7_mean 44 = .ok (.lload_n 3, 1) := by decide +kernel
set_option maxRecDepth 20000 in
theorem dX7_mean_45 : decode cX7_mean 45 = .ok (.iload 5, 2) := by decide +kernel
set_option maxRecDepth 20000 in
theorem dX7_mean_47 : decode cX7_mean 47 = .ok (.i2l, 1) := by decide +kernel
set_option maxRecDepth 20000 in
theorem dX7_mean_48 : decode cX7_mean 48 = .ok (.aload_n 0, 1) := by decide +kernel
set_option maxRecDepth 20000 in
theorem dX7_mean_49 : decode cX7_mean 49 = .ok (.getfield 32, 3) := by decide +kernel
set_option maxRecDepth 20000 in
theorem dX7_mean_52 : decode cX7_mean 52 = .ok (.iload 5, 2) := by decide +kernel
set_option maxRecDepth 20000 in
theorem dX7_mean_54 : decode cX7_mean 54 = .ok (.laload, 1) := by decide +kernel
set_option maxRecDepth 20000 in
theorem dX7_mean_55 : decode cX7_mean 55 = .ok (.lmul, 1) := by decide +kernel
set_option maxRecDepth 20000 in
theorem dX7_mean_56 : decode cX7_mean 56 = .ok (.ladd, 1) := by decide +kernel
set_option maxRecDepth 20000 in
theorem dX7_mean_57 : decode cX7_mean 57 = .ok (.lstore_n 3, 1) := by decide +kernel
set_option maxRecDepth 20000 in
theorem dX7_mean_58 : decode cX7_mean 58 = .ok (.iinc 5 1, 3) := by decide +kernel
set_option maxRecDepth 20000 in
theorem dX7_mean_61 : decode cX7_mean 61 = .ok (.goto (-25), 3) := by decide +kernel
set_option maxRecDepth 20000 in
theorem dX7_mean_64 : decode cX7_mean 64 = .ok (.lload_n 3, 1) := by decide +kernel
set_option maxRecDepth 20000 in
theorem dX7_mean_65 : decode cX7_mean 65 = .ok (.aload_n 0, 1) := by decide +kernel
set_option maxRecDepth 20000 in
theorem dX7_mean_66 : decode cX7_mean 66 = .ok (.getfield 39, 3) := by decide +kernel
set_option maxRecDepth 20000 in
theorem dX7_mean_69 : decode cX7_mean 69 = .ok (.aload_n 0, 1) := by decide +kernel
set_option maxRecDepth 20000 in
theorem dX7_mean_70 : decode cX7_mean 70 = .ok (.getfield 7, 3) := by decide +kernel
set_option maxRecDepth 20000 in
theorem dX7_mean_73 : decode cX7_mean 73 = .ok (.laload, 1) := by decide +kernel
set_option maxRecDepth 20000 in
theorem dX7_mean_74 : decode cX7_mean 74 = .ok (.invokestatic 70, 3) := by decide +kernel
set_option maxRecDepth 20000 in
theorem dX7_mean_77 : decode cX7_mean 77 = .ok (.lstore 5, 2) := by decide +kernel
set_option maxRecDepth 20000 in
theorem dX7_mean_79 : decode cX7_mean 79 = .ok (.iload_n 2, 1) := by decide +kernel
set_option maxRecDepth 20000 in
theorem dX7_mean_80 : decode cX7_mean 80 = .ok (.ifCond .ne 10, 3) := by decide +kernel
set_option maxRecDepth 20000 in
theorem dX7_mean_83 : decode cX7_mean 83 = .ok (.lload_n 3, 1) := by decide +kernel
set_option maxRecDepth 20000 in
theorem dX7_mean_84 : decode cX7_mean 84 = .ok (.lload 5, 2) := by decide +kernel
set_option maxRecDepth 20000 in
theorem dX7_mean_86 : decode cX7_mean 86 = .ok (.ldiv, 1) := by decide +kernel
set_option maxRecDepth 20000 in
theorem dX7_mean_87 : decode cX7_mean 87 = .ok (.goto 15, 3) := by decide +kernel
set_option maxRecDepth 20000 in
theorem dX7_mean_90 : decode cX7_mean 90 = .ok (.aload_n 0, 1) := by decide +kernel
set_option maxRecDepth 20000 in
theorem dX7_mean_91 : decode cX7_mean 91 = .ok (.getfield 39, 3) := by decide +kernel
set_option maxRecDepth 20000 in
theorem dX7_mean_94 : decode cX7_mean 94 = .ok (.aload_n 0, 1) := by decide +kernel
set_option maxRecDepth 20000 in
theorem dX7_mean_95 : decode cX7_mean 95 = .ok (.getfield 7, 3) := by decide +kernel
set_option maxRecDepth 20000 in
theorem dX7_mean_98 : decode cX7_mean 98 = .ok (.laload, 1) := by decide +kernel
set_option maxRecDepth 20000 in
theorem dX7_mean_99 : decode cX7_mean 99 = .ok (.lload 5, 2) := by decide +kernel
set_option maxRecDepth 20000 in
theorem dX7_mean_101 : decode cX7_mean 101 = .ok (.ldiv, 1) := by decide +kernel
set_option maxRecDepth 20000 in
theorem dX7_mean_102 : decode cX7_mean 102 = .ok (.lreturn, 1) := by decide +kernel
set_option maxRecDepth 20000 in
theorem dX7_wayAt_0 : decode cX7_wayAt 0 = .ok (.bipush 19, 2) := by decide +kernel
set_option maxRecDepth 20000 in
theorem dX7_wayAt_2 : decode cX7_wayAt 2 = .ok (.iload_n 0, 1) := by decide +kernel
set_option maxRecDepth 20000 in
theorem dX7_wayAt_3 : decode cX7_wayAt 3 = .ok (.imul, 1) := by decide +kernel
set_option maxRecDepth 20000 in
theorem dX7_wayAt_4 : decode cX7_wayAt 4 = .ok (.iload_n 1, 1) := by decide +kernel
set_option maxRecDepth 20000 in
theorem dX7_wayAt_5 : decode cX7_wayAt 5 = .ok (.iadd, 1) := by decide +kernel
set_option maxRecDepth 20000 in
theorem dX7_wayAt_6 : decode cX7_wayAt 6 = .ok (.bipush 19, 2) := by decide +kernel
set_option maxRecDepth 20000 in
theorem dX7_wayAt_8 : decode cX7_wayAt 8 = .ok (.imul, 1) := by decide +kernel
set_option maxRecDepth 20000 in
theorem dX7_wayAt_9 : decode cX7_wayAt 9 = .ok (.iload_n 2, 1) := by decide +kernel
set_option maxRecDepth 20000 in
theorem dX7_wayAt_10 : decode cX7_wayAt 10 = .ok (.iadd, 1) := by decide +kernel
set_option maxRecDepth 20000 in
theorem dX7_wayAt_11 : decode cX7_wayAt 11 = .ok (.ireturn, 1) := by decide +kernel
set_option maxRecDepth 20000 in
theorem dX7_layWays_0 : decode cX7_layWays 0 = .ok (.iconst 0, 1) := by decide +kernel
set_option maxRecDepth 20000 in
theorem dX7_layWays_1 : decode cX7_layWays 1 = .ok (.istore_n 2, 1) := by decide +kernel
set_option maxRecDepth 20000 in
theorem dX7_layWays_2 : decode cX7_layWays 2 = .ok (.iload_n 2, 1) := by decide +kernel
set_option maxRecDepth 20000 in
theorem dX7_layWays_3 : decode cX7_layWays 3 = .ok (.sipush 6859, 3) := by decide +kernel
set_option maxRecDepth 20000 in
theorem dX7_layWays_6 : decode cX7_layWays 6 = .ok (.if_icmp .ge 16, 3) := by decide +kernel
set_option maxRecDepth 20000 in
theorem dX7_layWays_9 : decode cX7_layWays 9 = .ok (.aload_n 0, 1) := by decide +kernel
set_option maxRecDepth 20000 in
theorem dX7_layWays_10 : decode cX7_layWays 10 = .ok (.getfield 45, 3) := by decide +kernel
set_option maxRecDepth 20000 in
theorem dX7_layWays_13 : decode cX7_layWays 13 = .ok (.iload_n 2, 1) := by decide +kernel
set_option maxRecDepth 20000 in
theorem dX7_layWays_14 : decode cX7_layWays 14 = .ok (.lconst 0, 1) := by decide +kernel
set_option maxRecDepth 20000 in
theorem dX7_layWays_15 : decode cX7_layWays 15 = .ok (.lastore, 1) := by decide +kernel
set_option maxRecDepth 20000 in
theorem dX7_layWays_16 : decode cX7_layWays 16 = .ok (.iinc 2 1, 3) := by decide +kernel
set_option maxRecDepth 20000 in
theorem dX7_layWays_19 : decode cX7_layWays 19 = .ok (.goto (-17), 3) := by decide +kernel
set_option maxRecDepth 20000 in
theorem dX7_layWays_22 : decode cX7_layWays 22 = .ok (.aload_n 0, 1) := by decide +kernel
set_option maxRecDepth 20000 in
theorem dX7_layWays_23 : decode cX7_layWays 23 = .ok (.getfield 45, 3) := by decide +kernel
set_option maxRecDepth 20000 in
theorem dX7_layWays_26 : decode cX7_layWays 26 = .ok (.iconst 0, 1) := by decide +kernel
set_option maxRecDepth 20000 in
theorem dX7_layWays_27 : decode cX7_layWays 27 = .ok (.lconst 1, 1) := by decide +kernel
set_option maxRecDepth 20000 in
theorem dX7_layWays_28 : decode cX7_layWays 28 = .ok (.lastore, 1) := by decide +kernel
set_option maxRecDepth 20000 in
theorem dX7_layWays_29 : decode cX7_layWays 29 = .ok (.iconst 1, 1) := by decide +kernel
set_option maxRecDepth 20000 in
theorem dX7_layWays_30 : decode cX7_layWays 30 = .ok (.istore_n 2, 1) := by decide +kernel
set_option maxRecDepth 20000 in
theorem dX7_layWays_31 : decode cX7_layWays 31 = .ok (.iload_n 2, 1) := by decide +kernel
set_option maxRecDepth 20000 in
theorem dX7_layWays_32 : decode cX7_layWays 32 = .ok (.aload_n 0, 1) := by decide +kernel
set_option maxRecDepth 20000 in
theorem dX7_layWays_33 : decode cX7_layWays 33 = .ok (.getfield 7, 3) := by decide +kernel
set_option maxRecDepth 20000 in
theorem dX7_layWays_36 : decode cX7_layWays 36 = .ok (.if_icmp .gt 88, 3) := by decide +kernel
set_option maxRecDepth 20000 in
theorem dX7_layWays_39 : decode cX7_layWays 39 = .ok (.iconst 0, 1) := by decide +kernel
set_option maxRecDepth 20000 in
theorem dX7_layWays_40 : decode cX7_layWays 40 = .ok (.istore_n 3, 1) := by decide +kernel
set_option maxRecDepth 20000 in
theorem dX7_layWays_41 : decode cX7_layWays 41 = .ok (.iload_n 3, 1) := by decide +kernel
set_option maxRecDepth 20000 in
theorem dX7_layWays_42 : decode cX7_layWays 42 = .ok (.iload_n 2, 1) := by decide +kernel
set_option maxRecDepth 20000 in
theorem dX7_layWays_43 : decode cX7_layWays 43 = .ok (.if_icmp .gt 75, 3) := by decide +kernel
set_option maxRecDepth 20000 in
theorem dX7_layWays_46 : decode cX7_layWays 46 = .ok (.iconst 0, 1) := by decide +kernel
set_option maxRecDepth 20000 in
theorem dX7_layWays_47 : decode cX7_layWays 47 = .ok (.istore 4, 2) := by decide +kernel
set_option maxRecDepth 20000 in
theorem dX7_layWays_49 : decode cX7_layWays 49 = .ok (.iload 4, 2) := by decide +kernel
set_option maxRecDepth 20000 in
theorem dX7_layWays_51 : decode cX7_layWays 51 = .ok (.aload_n 0, 1) := by decide +kernel
set_option maxRecDepth 20000 in
theorem dX7_layWays_52 : decode cX7_layWays 52 = .ok (.getfield 7, 3) := by decide +kernel
set_option maxRecDepth 20000 in
theorem dX7_layWays_55 : decode cX7_layWays 55 = .ok (.if_icmp .gt 57, 3) := by decide +kernel
set_option maxRecDepth 20000 in
theorem dX7_layWays_58 : decode cX7_layWays 58 = .ok (.lconst 0, 1) := by decide +kernel
set_option maxRecDepth 20000 in
theorem dX7_layWays_59 : decode cX7_layWays 59 = .ok (.lstore 5, 2) := by decide +kernel
set_option maxRecDepth 20000 in
theorem dX7_layWays_61 : decode cX7_layWays 61 = .ok (.iconst 0, 1) := by decide +kernel
set_option maxRecDepth 20000 in
theorem dX7_layWays_62 : decode cX7_layWays 62 = .ok (.istore 7, 2) := by decide +kernel
set_option maxRecDepth 20000 in
theorem dX7_layWays_64 : decode cX7_layWays 64 = .ok (.iload 7, 2) := by decide +kernel
set_option maxRecDepth 20000 in
theorem dX7_layWays_66 : decode cX7_layWays 66 = .ok (.iload_n 2, 1) := by decide +kernel
set_option maxRecDepth 20000 in
theorem dX7_layWays_67 : decode cX7_layWays 67 = .ok (.if_icmp .ge 25, 3) := by decide +kernel
set_option maxRecDepth 20000 in
theorem dX7_layWays_70 : decode cX7_layWays 70 = .ok (.lload 5, 2) := by decide +kernel
set_option maxRecDepth 20000 in
theorem dX7_layWays_72 : decode cX7_layWays 72 = .ok (.aload_n 0, 1) := by decide +kernel
set_option maxRecDepth 20000 in
theorem dX7_layWays_73 : decode cX7_layWays 73 = .ok (.iload_n 1, 1) := by decide +kernel
set_option maxRecDepth 20000 in
theorem dX7_layWays_74 : decode cX7_layWays 74 = .ok (.iload_n 2, 1) := by decide +kernel
set_option maxRecDepth 20000 in
theorem dX7_layWays_75 : decode cX7_layWays 75 = .ok (.iload_n 3, 1) := by decide +kernel
set_option maxRecDepth 20000 in
theorem dX7_layWays_76 : decode cX7_layWays 76 = .ok (.iload 4, 2) := by decide +kernel
set_option maxRecDepth 20000 in
theorem dX7_layWays_78 : decode cX7_layWays 78 = .ok (.iload 7, 2) := by decide +kernel
set_option maxRecDepth 20000 in
theorem dX7_layWays_80 : decode cX7_layWays 80 = .ok (.invokevirtual 129, 3) := by decide +kernel
set_option maxRecDepth 20000 in
theorem dX7_layWays_83 : decode cX7_layWays 83 = .ok (.ladd, 1) := by decide +kernel
set_option maxRecDepth 20000 in
theorem dX7_layWays_84 : decode cX7_layWays 84 = .ok (.lstore 5, 2) := by decide +kernel
set_option maxRecDepth 20000 in
theorem dX7_layWays_86 : decode cX7_layWays 86 = .ok (.iinc 7 1, 3) := by decide +kernel
set_option maxRecDepth 20000 in
theorem dX7_layWays_89 : decode cX7_layWays 89 = .ok (.goto (-25), 3) := by decide +kernel
set_option maxRecDepth 20000 in
theorem dX7_layWays_92 : decode cX7_layWays 92 = .ok (.aload_n 0, 1) := by decide +kernel
set_option maxRecDepth 20000 in
theorem dX7_layWays_93 : decode cX7_layWays 93 = .ok (.getfield 45, 3) := by decide +kernel
set_option maxRecDepth 20000 in
theorem dX7_layWays_96 : decode cX7_layWays 96 = .ok (.iload_n 2, 1) := by decide +kernel
set_option maxRecDepth 20000 in
theorem dX7_layWays_97 : decode cX7_layWays 97 = .ok (.iload_n 3, 1) := by decide +kernel
set_option maxRecDepth 20000 in
theorem dX7_layWays_98 : decode cX7_layWays 98 = .ok (.iload 4, 2) := by decide +kernel
set_option maxRecDepth 20000 in
theorem dX7_layWays_100 : decode cX7_layWays 100 = .ok (.invokestatic 133, 3) := by decide +kernel
set_option maxRecDepth 20000 in
theorem dX7_layWays_103 : decode cX7_layWays 103 = .ok (.lload 5, 2) := by decide +kernel
set_option maxRecDepth 20000 in
theorem dX7_layWays_105 : decode cX7_layWays 105 = .ok (.lastore, 1) := by decide +kernel
set_option maxRecDepth 20000 in
theorem dX7_layWays_106 : decode cX7_layWays 106 = .ok (.iinc 4 1, 3) := by decide +kernel
set_option maxRecDepth 20000 in
theorem dX7_layWays_109 : decode cX7_layWays 109 = .ok (.goto (-60), 3) := by decide +kernel
set_option maxRecDepth 20000 in
theorem dX7_layWays_112 : decode cX7_layWays 112 = .ok (.iinc 3 1, 3) := by decide +kernel
set_option maxRecDepth 20000 in
theorem dX7_layWays_115 : decode cX7_layWays 115 = .ok (.goto (-74), 3) := by decide +kernel
set_option maxRecDepth 20000 in
theorem dX7_layWays_118 : decode cX7_layWays 118 = .ok (.iinc 2 1, 3) := by decide +kernel
set_option maxRecDepth 20000 in
theorem dX7_layWays_121 : decode cX7_layWays 121 = .ok (.goto (-90), 3) := by decide +kernel
set_option maxRecDepth 20000 in
theorem dX7_layWays_124 : decode cX7_layWays 124 = .ok (.return_, 1) := by decide +kernel
set_option maxRecDepth 20000 in
theorem dX7_waysBy_0 : decode cX7_waysBy 0 = .ok (.iload 5, 2) := by decide +kernel
set_option maxRecDepth 20000 in
theorem dX7_waysBy_2 : decode cX7_waysBy 2 = .ok (.iload_n 2, 1) := by decide +kernel
set_option maxRecDepth 20000 in
theorem dX7_waysBy_3 : decode cX7_waysBy 3 = .ok (.iload_n 3, 1) := by decide +kernel
set_option maxRecDepth 20000 in
theorem dX7_waysBy_4 : decode cX7_waysBy 4 = .ok (.isub, 1) := by decide +kernel
set_option maxRecDepth 20000 in
theorem dX7_waysBy_5 : decode cX7_waysBy 5 = .ok (.if_icmp .lt 7, 3) := by decide +kernel
set_option maxRecDepth 20000 in
theorem dX7_waysBy_8 : decode cX7_waysBy 8 = .ok (.iconst 1, 1) := by decide +kernel
set_option maxRecDepth 20000 in
theorem dX7_waysBy_9 : decode cX7_waysBy 9 = .ok (.goto 4, 3) := by decide +kernel
set_option maxRecDepth 20000 in
theorem dX7_waysBy_12 : decode cX7_waysBy 12 = .ok (.iconst 0, 1) := by decide +kernel
set_option maxRecDepth 20000 in
theorem dX7_waysBy_13 : decode cX7_waysBy 13 = .ok (.istore 6, 2) := by decide +kernel
set_option maxRecDepth 20000 in
theorem dX7_waysBy_15 : decode cX7_waysBy 15 = .ok (.iload 4, 2) := by decide +kernel
set_option maxRecDepth 20000 in
theorem dX7_waysBy_17 : decode cX7_waysBy 17 = .ok (.iload 6, 2) := by decide +kernel
set_option maxRecDepth 20000 in
theorem dX7_waysBy_19 : decode cX7_waysBy 19 = .ok (.ifCond .eq 7, 3) := by decide +kernel
set_option maxRecDepth 20000 in
theorem dX7_waysBy_22 : decode cX7_waysBy 22 = .ok (.iconst 1, 1) := by decide +kernel
set_option maxRecDepth 20000 in
theorem dX7_waysBy_23 : decode cX7_waysBy 23 = .ok (.goto 4, 3) := by decide +kernel
set_option maxRecDepth 20000 in
theorem dX7_waysBy_26 : decode cX7_waysBy 26 = .ok (.iconst 0, 1) := by decide +kernel
set_option maxRecDepth 20000 in
theorem dX7_waysBy_27 : decode cX7_waysBy 27 = .ok (.isub, 1) := by decide +kernel
set_option maxRecDepth 20000 in
theorem dX7_waysBy_28 : decode cX7_waysBy 28 = .ok (.istore 7, 2) := by decide +kernel
set_option maxRecDepth 20000 in
theorem dX7_waysBy_30 : decode cX7_waysBy 30 = .ok (.iload_n 1, 1) := by decide +kernel
set_option maxRecDepth 20000 in
theorem dX7_waysBy_31 : decode cX7_waysBy 31 = .ok (.iconst 2, 1) := by decide +kernel
set_option maxRecDepth 20000 in
theorem dX7_waysBy_32 : decode cX7_waysBy 32 = .ok (.if_icmp .eq 8, 3) := by decide +kernel
set_option maxRecDepth 20000 in
theorem dX7_waysBy_35 : decode cX7_waysBy 35 = .ok (.iload 6, 2) := by decide +kernel
set_option maxRecDepth 20000 in
theorem dX7_waysBy_37 : decode cX7_waysBy 37 = .ok (.ifCond .eq 12, 3) := by decide +kernel
set_option maxRecDepth 20000 in
theorem dX7_waysBy_40 : decode cX7_waysBy 40 = .ok (.iload_n 2, 1) := by decide +kernel
set_option maxRecDepth 20000 in
theorem dX7_waysBy_41 : decode cX7_waysBy 41 = .ok (.iconst 1, 1) := by decide +kernel
set_option maxRecDepth 20000 in
theorem dX7_waysBy_42 : decode cX7_waysBy 42 = .ok (.isub, 1) := by decide +kernel
set_option maxRecDepth 20000 in
theorem dX7_waysBy_43 : decode cX7_waysBy 43 = .ok (.iload 5, 2) := by decide +kernel
set_option maxRecDepth 20000 in
theorem dX7_waysBy_45 : decode cX7_waysBy 45 = .ok (.isub, 1) := by decide +kernel
set_option maxRecDepth 20000 in
theorem dX7_waysBy_46 : decode cX7_waysBy 46 = .ok (.goto 4, 3) := by decide +kernel
set_option maxRecDepth 20000 in
theorem dX7_waysBy_49 : decode cX7_waysBy 49 = .ok (.iload_n 3, 1) := by decide +kernel
set_option maxRecDepth 20000 in
theorem dX7_waysBy_50 : decode cX7_waysBy 50 = .ok (.istore 8, 2) := by decide +kernel
set_option maxRecDepth 20000 in
theorem dX7_waysBy_52 : decode cX7_waysBy 52 = .ok (.iload 7, 2) := by decide +kernel
set_option maxRecDepth 20000 in
theorem dX7_waysBy_54 : decode cX7_waysBy 54 = .ok (.ifCond .ge 7, 3) := by decide +kernel
set_option maxRecDepth 20000 in
theorem dX7_waysBy_57 : decode cX7_waysBy 57 = .ok (.lconst 0, 1) := by decide +kernel
set_option maxRecDepth 20000 in
theorem dX7_waysBy_58 : decode cX7_waysBy 58 = .ok (.goto 18, 3) := by decide +kernel
set_option maxRecDepth 20000 in
theorem dX7_waysBy_61 : decode cX7_waysBy 61 = .ok (.aload_n 0, 1) := by decide +kernel
set_option maxRecDepth 20000 in
theorem dX7_waysBy_62 : decode cX7_waysBy 62 = .ok (.getfield 45, 3) := by decide +kernel
set_option maxRecDepth 20000 in
theorem dX7_waysBy_65 : decode cX7_waysBy 65 = .ok (.iload_n 2, 1) := by decide +kernel
set_option maxRecDepth 20000 in
theorem dX7_waysBy_66 : decode cX7_waysBy 66 = .ok (.iconst 1, 1) := by decide +kernel
set_option maxRecDepth 20000 in
theorem dX7_waysBy_67 : decode cX7_waysBy 67 = .ok (.isub, 1) := by decide +kernel
set_option maxRecDepth 20000 in
theorem dX7_waysBy_68 : decode cX7_waysBy 68 = .ok (.iload 8, 2) := by decide +kernel
set_option maxRecDepth 20000 in
theorem dX7_waysBy_70 : decode cX7_waysBy 70 = .ok (.iload 7, 2) := by decide +kernel
set_option maxRecDepth 20000 in
theorem dX7_waysBy_72 : decode cX7_waysBy 72 = .ok (.invokestatic 133, 3) := by decide +kernel
set_option maxRecDepth 20000 in
theorem dX7_waysBy_75 : decode cX7_waysBy 75 = .ok (.laload, 1) := by decide +kernel
set_option maxRecDepth 20000 in
theorem dX7_waysBy_76 : decode cX7_waysBy 76 = .ok (.lreturn, 1) := by decide +kernel
set_option maxRecDepth 20000 in
theorem dX7_waysAt_0 : decode cX7_waysAt 0 = .ok (.aload_n 0, 1) := by decide +kernel
set_option maxRecDepth 20000 in
theorem dX7_waysAt_1 : decode cX7_waysAt 1 = .ok (.getfield 7, 3) := by decide +kernel
set_option maxRecDepth 20000 in
theorem dX7_waysAt_4 : decode cX7_waysAt 4 = .ok (.iload_n 2, 1) := by decide +kernel
set_option maxRecDepth 20000 in
theorem dX7_waysAt_5 : decode cX7_waysAt 5 = .ok (.isub, 1) := by decide +kernel
set_option maxRecDepth 20000 in
theorem dX7_waysAt_6 : decode cX7_waysAt 6 = .ok (.istore 4, 2) := by decide +kernel
set_option maxRecDepth 20000 in
theorem dX7_waysAt_8 : decode cX7_waysAt 8 = .ok (.iload_n 1, 1) := by decide +kernel
set_option maxRecDepth 20000 in
theorem dX7_waysAt_9 : decode cX7_waysAt 9 = .ok (.iconst (-1), 1) := by decide +kernel
set_option maxRecDepth 20000 in
theorem dX7_waysAt_10 : decode cX7_waysAt 10 = .ok (.if_icmp .ne 13, 3) := by decide +kernel
set_option maxRecDepth 20000 in
theorem dX7_waysAt_13 : decode cX7_waysAt 13 = .ok (.aload_n 0, 1) := by decide +kernel
set_option maxRecDepth 20000 in
theorem dX7_waysAt_14 : decode cX7_waysAt 14 = .ok (.getfield 39, 3) := by decide +kernel
set_option maxRecDepth 20000 in
theorem dX7_waysAt_17 : decode cX7_waysAt 17 = .ok (.iload 4, 2) := by decide +kernel
set_option maxRecDepth 20000 in
theorem dX7_waysAt_19 : decode cX7_waysAt 19 = .ok (.iconst 1, 1) := by decide +kernel
set_option maxRecDepth 20000 in
theorem dX7_waysAt_20 : decode cX7_waysAt 20 = .ok (.isub, 1) := by decide +kernel
set_option maxRecDepth 20000 in
theorem dX7_waysAt_21 : decode cX7_waysAt 21 = .ok (.laload, 1) := by decide +kernel
set_option maxRecDepth 20000 in
theorem dX7_waysAt_22 : decode cX7_waysAt 22 = .ok (.lreturn, 1) := by decide +kernel
set_option maxRecDepth 20000 in
theorem dX7_waysAt_23 : decode cX7_waysAt 23 = .ok (.iload_n 2, 1) := by decide +kernel
set_option maxRecDepth 20000 in
theorem dX7_waysAt_24 : decode cX7_waysAt 24 = .ok (.ifCond .ne 62, 3) := by decide +kernel
set_option maxRecDepth 20000 in
theorem dX7_waysAt_27 : decode cX7_waysAt 27 = .ok (.iload_n 1, 1) := by decide +kernel
set_option maxRecDepth 20000 in
theorem dX7_waysAt_28 : decode cX7_waysAt 28 = .ok (.iconst 1, 1) := by decide +kernel
set_option maxRecDepth 20000 in
theorem dX7_waysAt_29 : decode cX7_waysAt 29 = .ok (.if_icmp .ne 12, 3) := by decide +kernel
set_option maxRecDepth 20000 in
theorem dX7_waysAt_32 : decode cX7_waysAt 32 = .ok (.aload_n 0, 1) := by decide +kernel
set_option maxRecDepth 20000 in
theorem dX7_waysAt_33 : decode cX7_waysAt 33 = .ok (.getfield 137, 3) := by decide +kernel
set_option maxRecDepth 20000 in
theorem dX7_waysAt_36 : decode cX7_waysAt 36 = .ok (.iconst 1, 1) := by decide +kernel
set_option maxRecDepth 20000 in
theorem dX7_waysAt_37 : decode cX7_waysAt 37 = .ok (.isub, 1) := by decide +kernel
set_option maxRecDepth 20000 in
theorem dX7_waysAt_38 : decode cX7_waysAt 38 = .ok (.goto 7, 3) := by decide +kernel
set_option maxRecDepth 20000 in
theorem dX7_waysAt_41 : decode cX7_waysAt 41 = .ok (.aload_n 0, 1) := by decide +kernel
set_option maxRecDepth 20000 in
theorem dX7_waysAt_42 : decode cX7_waysAt 42 = .ok (.getfield 137, 3) := by decide +kernel
set_option maxRecDepth 20000 in
theorem dX7_waysAt_45 : decode cX7_waysAt 45 = .ok (.istore 5, 2) := by decide +kernel
set_option maxRecDepth 20000 in
theorem dX7_waysAt_47 : decode cX7_waysAt 47 = .ok (.iload 5, 2) := by decide +kernel
set_option maxRecDepth 20000 in
theorem dX7_waysAt_49 : decode cX7_waysAt 49 = .ok (.ifCond .lt 12, 3) := by decide +kernel
set_option maxRecDepth 20000 in
theorem dX7_waysAt_52 : decode cX7_waysAt 52 = .ok (.iload 5, 2) := by decide +kernel
set_option maxRecDepth 20000 in
theorem dX7_waysAt_54 : decode cX7_waysAt 54 = .ok (.aload_n 0, 1) := by decide +kernel
set_option maxRecDepth 20000 in
theorem dX7_waysAt_55 : decode cX7_waysAt 55 = .ok (.getfield 7, 3) := by decide +kernel
set_option maxRecDepth 20000 in
theorem dX7_waysAt_58 : decode cX7_waysAt 58 = .ok (.if_icmp .le 7, 3) := by decide +kernel
set_option maxRecDepth 20000 in
theorem dX7_waysAt_61 : decode cX7_waysAt 61 = .ok (.lconst 0, 1) := by decide +kernel
set_option maxRecDepth 20000 in
theorem dX7_waysAt_62 : decode cX7_waysAt 62 = .ok (.goto 23, 3) := by decide +kernel
set_option maxRecDepth 20000 in
theorem dX7_waysAt_65 : decode cX7_waysAt 65 = .ok (.aload_n 0, 1) := by decide +kernel
set_option maxRecDepth 20000 in
theorem dX7_waysAt_66 : decode cX7_waysAt 66 = .ok (.getfield 45, 3) := by decide +kernel
set_option maxRecDepth 20000 in
theorem dX7_waysAt_69 : decode cX7_waysAt 69 = .ok (.iload 4, 2) := by decide +kernel
set_option maxRecDepth 20000 in
theorem dX7_waysAt_71 : decode cX7_waysAt 71 = .ok (.iconst 1, 1) := by decide +kernel
set_option maxRecDepth 20000 in
theorem dX7_waysAt_72 : decode cX7_waysAt 72 = .ok (.isub, 1) := by decide +kernel
set_option maxRecDepth 20000 in
theorem dX7_waysAt_73 : decode cX7_waysAt 73 = .ok (.iload 4, 2) := by decide +kernel
set_option maxRecDepth 20000 in
theorem dX7_waysAt_75 : decode cX7_waysAt 75 = .ok (.iconst 1, 1) := by decide +kernel
set_option maxRecDepth 20000 in
theorem dX7_waysAt_76 : decode cX7_waysAt 76 = .ok (.isub, 1) := by decide +kernel
set_option maxRecDepth 20000 in
theorem dX7_waysAt_77 : decode cX7_waysAt 77 = .ok (.iload_n 3, 1) := by decide +kernel
set_option maxRecDepth 20000 in
theorem dX7_waysAt_78 : decode cX7_waysAt 78 = .ok (.isub, 1) := by decide +kernel
set_option maxRecDepth 20000 in
theorem dX7_waysAt_79 : decode cX7_waysAt 79 = .ok (.iload 5, 2) := by decide +kernel
set_option maxRecDepth 20000 in
theorem dX7_waysAt_81 : decode cX7_waysAt 81 = .ok (.invokestatic 133, 3) := by decide +kernel
set_option maxRecDepth 20000 in
theorem dX7_waysAt_84 : decode cX7_waysAt 84 = .ok (.laload, 1) := by decide +kernel
set_option maxRecDepth 20000 in
theorem dX7_waysAt_85 : decode cX7_waysAt 85 = .ok (.lreturn, 1) := by decide +kernel
set_option maxRecDepth 20000 in
theorem dX7_waysAt_86 : decode cX7_waysAt 86 = .ok (.aload_n 0, 1) := by decide +kernel
set_option maxRecDepth 20000 in
theorem dX7_waysAt_87 : decode cX7_waysAt 87 = .ok (.iload_n 1, 1) := by decide +kernel
set_option maxRecDepth 20000 in
theorem dX7_waysAt_88 : decode cX7_waysAt 88 = .ok (.iload 4, 2) := by decide +kernel
set_option maxRecDepth 20000 in
theorem dX7_waysAt_90 : decode cX7_waysAt 90 = .ok (.aload_n 0, 1) := by decide +kernel
set_option maxRecDepth 20000 in
theorem dX7_waysAt_91 : decode cX7_waysAt 91 = .ok (.getfield 140, 3) := by decide +kernel
set_option maxRecDepth 20000 in
theorem dX7_waysAt_94 : decode cX7_waysAt 94 = .ok (.aload_n 0, 1) := by decide +kernel
set_option maxRecDepth 20000 in
theorem dX7_waysAt_95 : decode cX7_waysAt 95 = .ok (.getfield 137, 3) := by decide +kernel
set_option maxRecDepth 20000 in
theorem dX7_waysAt_98 : decode cX7_waysAt 98 = .ok (.iload_n 3, 1) := by decide +kernel
set_option maxRecDepth 20000 in
theorem dX7_waysAt_99 : decode cX7_waysAt 99 = .ok (.invokevirtual 129, 3) := by decide +kernel
set_option maxRecDepth 20000 in
theorem dX7_waysAt_102 : decode cX7_waysAt 102 = .ok (.lreturn, 1) := by decide +kernel
set_option maxRecDepth 20000 in
theorem dX7_put_0 : decode cX7_put 0 = .ok (.aload_n 0, 1) := by decide +kernel
set_option maxRecDepth 20000 in
theorem dX7_put_1 : decode cX7_put 1 = .ok (.getfield 7, 3) := by decide +kernel
set_option maxRecDepth 20000 in
theorem dX7_put_4 : decode cX7_put 4 = .ok (.iload_n 2, 1) := by decide +kernel
set_option maxRecDepth 20000 in
theorem dX7_put_5 : decode cX7_put 5 = .ok (.isub, 1) := by decide +kernel
set_option maxRecDepth 20000 in
theorem dX7_put_6 : decode cX7_put 6 = .ok (.istore 4, 2) := by decide +kernel
set_option maxRecDepth 20000 in
theorem dX7_put_8 : decode cX7_put 8 = .ok (.iload_n 2, 1) := by decide +kernel
set_option maxRecDepth 20000 in
theorem dX7_put_9 : decode cX7_put 9 = .ok (.ifCond .le 18, 3) := by decide +kernel
set_option maxRecDepth 20000 in
theorem dX7_put_12 : decode cX7_put 12 = .ok (.iload_n 3, 1) := by decide +kernel
set_option maxRecDepth 20000 in
theorem dX7_put_13 : decode cX7_put 13 = .ok (.iload 4, 2) := by decide +kernel
set_option maxRecDepth 20000 in
theorem dX7_put_15 : decode cX7_put 15 = .ok (.aload_n 0, 1) := by decide +kernel
set_option maxRecDepth 20000 in
theorem dX7_put_16 : decode cX7_put 16 = .ok (.getfield 140, 3) := by decide +kernel
set_option maxRecDepth 20000 in
theorem dX7_put_19 : decode cX7_put 19 = .ok (.isub, 1) := by decide +kernel
set_option maxRecDepth 20000 in
theorem dX7_put_20 : decode cX7_put 20 = .ok (.if_icmp .lt 7, 3) := by decide +kernel
set_option maxRecDepth 20000 in
theorem dX7_put_23 : decode cX7_put 23 = .ok (.iconst 1, 1) := by decide +kernel
set_option maxRecDepth 20000 in
theorem dX7_put_24 : decode cX7_put 24 = .ok (.goto 4, 3) := by decide +kernel
set_option maxRecDepth 20000 in
theorem dX7_put_27 : decode cX7_put 27 = .ok (.iconst 0, 1) := by decide +kernel
set_option maxRecDepth 20000 in
theorem dX7_put_28 : decode cX7_put 28 = .ok (.istore 5, 2) := by decide +kernel
set_option maxRecDepth 20000 in
theorem dX7_put_30 : decode cX7_put 30 = .ok (.aload_n 0, 1) := by decide +kernel
set_option maxRecDepth 20000 in
theorem dX7_put_31 : decode cX7_put 31 = .ok (.dup, 1) := by decide +kernel
set_option maxRecDepth 20000 in
theorem dX7_put_32 : decode cX7_put 32 = .ok (.getfield 137, 3) := by decide +kernel
set_option maxRecDepth 20000 in
theorem dX7_put_35 : decode cX7_put 35 = .ok (.iload_n 1, 1) := by decide +kernel
set_option maxRecDepth 20000 in
theorem dX7_put_36 : decode cX7_put 36 = .ok (.iconst 1, 1) := by decide +kernel
set_option maxRecDepth 20000 in
theorem dX7_put_37 : decode cX7_put 37 = .ok (.if_icmp .ne 7, 3) := by decide +kernel
set_option maxRecDepth 20000 in
theorem dX7_put_40 : decode cX7_put 40 = .ok (.iload_n 2, 1) := by decide +kernel
set_option maxRecDepth 20000 in
theorem dX7_put_41 : decode cX7_put 41 = .ok (.ifCond .eq 8, 3) := by decide +kernel
set_option maxRecDepth 20000 in
theorem dX7_put_44 : decode cX7_put 44 = .ok (.iload 5, 2) := by decide +kernel
set_option maxRecDepth 20000 in
theorem dX7_put_46 : decode cX7_put 46 = .ok (.ifCond .eq 7, 3) := by decide +kernel
set_option maxRecDepth 20000 in
theorem dX7_put_49 : decode cX7_put 49 = .ok (.iconst 1, 1) := by decide +kernel
set_option maxRecDepth 20000 in
theorem dX7_put_50 : decode cX7_put 50 = .ok (.goto 4, 3) := by decide +kernel
set_option maxRecDepth 20000 in
theorem dX7_put_53 : decode cX7_put 53 = .ok (.iconst 0, 1) := by decide +kernel
set_option maxRecDepth 20000 in
theorem dX7_put_54 : decode cX7_put 54 = .ok (.isub, 1) := by decide +kernel
set_option maxRecDepth 20000 in
theorem dX7_put_55 : decode cX7_put 55 = .ok (.putfield 137, 3) := by decide +kernel
set_option maxRecDepth 20000 in
theorem dX7_put_58 : decode cX7_put 58 = .ok (.aload_n 0, 1) := by decide +kernel
set_option maxRecDepth 20000 in
theorem dX7_put_59 : decode cX7_put 59 = .ok (.iload_n 1, 1) := by decide +kernel
set_option maxRecDepth 20000 in
theorem dX7_put_60 : decode cX7_put 60 = .ok (.iconst 2, 1) := by decide +kernel
set_option maxRecDepth 20000 in
theorem dX7_put_61 : decode cX7_put 61 = .ok (.if_icmp .eq 12, 3) := by decide +kernel
set_option maxRecDepth 20000 in
theorem dX7_put_64 : decode cX7_put 64 = .ok (.iload_n 2, 1) := by decide +kernel
set_option maxRecDepth 20000 in
theorem dX7_put_65 : decode cX7_put 65 = .ok (.ifCond .eq 8, 3) := by decide +kernel
set_option maxRecDepth 20000 in
theorem dX7_put_68 : decode cX7_put 68 = .ok (.iload 5, 2) := by decide +kernel
set_option maxRecDepth 20000 in
theorem dX7_put_70 : decode cX7_put 70 = .ok (.ifCond .eq 12, 3) := by decide +kernel
set_option maxRecDepth 20000 in
theorem dX7_put_73 : decode cX7_put 73 = .ok (.iload 4, 2) := by decide +kernel
set_option maxRecDepth 20000 in
theorem dX7_put_75 : decode cX7_put 75 = .ok (.iconst 1, 1) := by decide +kernel
set_option maxRecDepth 20000 in
theorem dX7_put_76 : decode cX7_put 76 = .ok (.isub, 1) := by decide +kernel
set_option maxRecDepth 20000 in
theorem dX7_put_77 : decode cX7_put 77 = .ok (.iload_n 3, 1) := by decide +kernel
set_option maxRecDepth 20000 in
theorem dX7_put_78 : decode cX7_put 78 = .ok (.isub, 1) := by decide +kernel
set_option maxRecDepth 20000 in
theorem dX7_put_79 : decode cX7_put 79 = .ok (.goto 7, 3) := by decide +kernel
set_option maxRecDepth 20000 in
theorem dX7_put_82 : decode cX7_put 82 = .ok (.aload_n 0, 1) := by decide +kernel
set_option maxRecDepth 20000 in
theorem dX7_put_83 : decode cX7_put 83 = .ok (.getfield 140, 3) := by decide +kernel
set_option maxRecDepth 20000 in
theorem dX7_put_86 : decode cX7_put 86 = .ok (.putfield 140, 3) := by decide +kernel
set_option maxRecDepth 20000 in
theorem dX7_put_89 : decode cX7_put 89 = .ok (.iconst 0, 1) := by decide +kernel
set_option maxRecDepth 20000 in
theorem dX7_put_90 : decode cX7_put 90 = .ok (.istore 6, 2) := by decide +kernel
set_option maxRecDepth 20000 in
theorem dX7_put_92 : decode cX7_put 92 = .ok (.iload_n 3, 1) := by decide +kernel
set_option maxRecDepth 20000 in
theorem dX7_put_93 : decode cX7_put 93 = .ok (.istore 7, 2) := by decide +kernel
set_option maxRecDepth 20000 in
theorem dX7_put_95 : decode cX7_put 95 = .ok (.aload_n 0, 1) := by decide +kernel
set_option maxRecDepth 20000 in
theorem dX7_put_96 : decode cX7_put 96 = .ok (.getfield 143, 3) := by decide +kernel
set_option maxRecDepth 20000 in
theorem dX7_put_99 : decode cX7_put 99 = .ok (.iload 6, 2) := by decide +kernel
set_option maxRecDepth 20000 in
theorem dX7_put_101 : decode cX7_put 101 = .ok (.ishr, 1) := by decide +kernel
set_option maxRecDepth 20000 in
theorem dX7_put_102 : decode cX7_put 102 = .ok (.iconst 1, 1) := by decide +kernel
set_option maxRecDepth 20000 in
theorem dX7_put_103 : decode cX7_put 103 = .ok (.iand, 1) := by decide +kernel
set_option maxRecDepth 20000 in
theorem dX7_put_104 : decode cX7_put 104 = .ok (.iconst 1, 1) := by decide +kernel
set_option maxRecDepth 20000 in
theorem dX7_put_105 : decode cX7_put 105 = .ok (.if_icmp .eq 8, 3) := by decide +kernel
set_option maxRecDepth 20000 in
theorem dX7_put_108 : decode cX7_put 108 = .ok (.iload 7, 2) := by decide +kernel
set_option maxRecDepth 20000 in
theorem dX7_put_110 : decode cX7_put 110 = .ok (.ifCond .le 31, 3) := by decide +kernel
set_option maxRecDepth 20000 in
theorem dX7_put_113 : decode cX7_put 113 = .ok (.iload 7, 2) := by decide +kernel
set_option maxRecDepth 20000 in
theorem dX7_put_115 : decode cX7_put 115 = .ok (.aload_n 0, 1) := by decide +kernel
set_option maxRecDepth 20000 in
theorem dX7_put_116 : decode cX7_put 116 = .ok (.getfield 143, 3) := by decide +kernel
set_option maxRecDepth 20000 in
theorem dX7_put_119 : decode cX7_put 119 = .ok (.iload 6, 2) := by decide +kernel
set_option maxRecDepth 20000 in
theorem dX7_put_121 : decode cX7_put 121 = .ok (.ishr, 1) := by decide +kernel
set_option maxRecDepth 20000 in
theorem dX7_put_122 : decode cX7_put 122 = .ok (.iconst 1, 1) := by decide +kernel
set_option maxRecDepth 20000 in
theorem dX7_put_123 : decode cX7_put 123 = .ok (.iand, 1) := by decide +kernel
set_option maxRecDepth 20000 in
theorem dX7_put_124 : decode cX7_put 124 = .ok (.ifCond .ne 7, 3) := by decide +kernel
set_option maxRecDepth 20000 in
theorem dX7_put_127 : decode cX7_put 127 = .ok (.iconst 1, 1) := by decide +kernel
set_option maxRecDepth 20000 in
theorem dX7_put_128 : decode cX7_put 128 = .ok (.goto 4, 3) := by decide +kernel
set_option maxRecDepth 20000 in
theorem dX7_put_131 : decode cX7_put 131 = .ok (.iconst 0, 1) := by decide +kernel
set_option maxRecDepth 20000 in
theorem dX7_put_132 : decode cX7_put 132 = .ok (.isub, 1) := by decide +kernel
set_option maxRecDepth 20000 in
theorem dX7_put_133 : decode cX7_put 133 = .ok (.istore 7, 2) := by decide +kernel
set_option maxRecDepth 20000 in
theorem dX7_put_135 : decode cX7_put 135 = .ok (.iinc 6 1, 3) := by decide +kernel
set_option maxRecDepth 20000 in
theorem dX7_put_138 : decode cX7_put 138 = .ok (.goto (-43), 3) := by decide +kernel
set_option maxRecDepth 20000 in
theorem dX7_put_141 : decode cX7_put 141 = .ok (.aload_n 0, 1) := by decide +kernel
set_option maxRecDepth 20000 in
theorem dX7_put_142 : decode cX7_put 142 = .ok (.dup, 1) := by decide +kernel
set_option maxRecDepth 20000 in
theorem dX7_put_143 : decode cX7_put 143 = .ok (.getfield 143, 3) := by decide +kernel
set_option maxRecDepth 20000 in
theorem dX7_put_146 : decode cX7_put 146 = .ok (.iconst 1, 1) := by decide +kernel
set_option maxRecDepth 20000 in
theorem dX7_put_147 : decode cX7_put 147 = .ok (.iload 6, 2) := by decide +kernel
set_option maxRecDepth 20000 in
theorem dX7_put_149 : decode cX7_put 149 = .ok (.ishl, 1) := by decide +kernel
set_option maxRecDepth 20000 in
theorem dX7_put_150 : decode cX7_put 150 = .ok (.ior, 1) := by decide +kernel
set_option maxRecDepth 20000 in
theorem dX7_put_151 : decode cX7_put 151 = .ok (.putfield 143, 3) := by decide +kernel
set_option maxRecDepth 20000 in
theorem dX7_put_154 : decode cX7_put 154 = .ok (.aload_n 0, 1) := by decide +kernel
set_option maxRecDepth 20000 in
theorem dX7_put_155 : decode cX7_put 155 = .ok (.getfield 29, 3) := by decide +kernel
set_option maxRecDepth 20000 in
theorem dX7_put_158 : decode cX7_put 158 = .ok (.iload_n 2, 1) := by decide +kernel
set_option maxRecDepth 20000 in
theorem dX7_put_159 : decode cX7_put 159 = .ok (.iload 6, 2) := by decide +kernel
set_option maxRecDepth 20000 in
theorem dX7_put_161 : decode cX7_put 161 = .ok (.iastore, 1) := by decide +kernel
set_option maxRecDepth 20000 in
theorem dX7_put_162 : decode cX7_put 162 = .ok (.return_, 1) := by decide +kernel
set_option maxRecDepth 20000 in
theorem dX7_beginRow_0 : decode cX7_beginRow 0 = .ok (.aload_n 0, 1) := by decide +kernel
set_option maxRecDepth 20000 in
theorem dX7_beginRow_1 : decode cX7_beginRow 1 = .ok (.invokevirtual 112, 3) := by decide +kernel
set_option maxRecDepth 20000 in
theorem dX7_beginRow_4 : decode cX7_beginRow 4 = .ok (.aload_n 0, 1) := by decide +kernel
set_option maxRecDepth 20000 in
theorem dX7_beginRow_5 : decode cX7_beginRow 5 = .ok (.iload_n 1, 1) := by decide +kernel
set_option maxRecDepth 20000 in
theorem dX7_beginRow_6 : decode cX7_beginRow 6 = .ok (.iconst (-1), 1) := by decide +kernel
set_option maxRecDepth 20000 in
theorem dX7_beginRow_7 : decode cX7_beginRow 7 = .ok (.if_icmp .ne 7, 3) := by decide +kernel
set_option maxRecDepth 20000 in
theorem dX7_beginRow_10 : decode cX7_beginRow 10 = .ok (.iconst 1, 1) := by decide +kernel
set_option maxRecDepth 20000 in
theorem dX7_beginRow_11 : decode cX7_beginRow 11 = .ok (.goto 4, 3) := by decide +kernel
set_option maxRecDepth 20000 in
theorem dX7_beginRow_14 : decode cX7_beginRow 14 = .ok (.iload_n 1, 1) := by decide +kernel
set_option maxRecDepth 20000 in
theorem dX7_beginRow_15 : decode cX7_beginRow 15 = .ok (.invokevirtual 146, 3) := by decide +kernel
set_option maxRecDepth 20000 in
theorem dX7_beginRow_18 : decode cX7_beginRow 18 = .ok (.aload_n 0, 1) := by decide +kernel
set_option maxRecDepth 20000 in
theorem dX7_beginRow_19 : decode cX7_beginRow 19 = .ok (.iconst 0, 1) := by decide +kernel
set_option maxRecDepth 20000 in
theorem dX7_beginRow_20 : decode cX7_beginRow 20 = .ok (.putfield 143, 3) := by decide +kernel
set_option maxRecDepth 20000 in
theorem dX7_beginRow_23 : decode cX7_beginRow 23 = .ok (.aload_n 0, 1) := by decide +kernel
set_option maxRecDepth 20000 in
theorem dX7_beginRow_24 : decode cX7_beginRow 24 = .ok (.iconst 0, 1) := by decide +kernel
set_option maxRecDepth 20000 in
theorem dX7_beginRow_25 : decode cX7_beginRow 25 = .ok (.putfield 140, 3) := by decide +kernel
set_option maxRecDepth 20000 in
theorem dX7_beginRow_28 : decode cX7_beginRow 28 = .ok (.aload_n 0, 1) := by decide +kernel
set_option maxRecDepth 20000 in
theorem dX7_beginRow_29 : decode cX7_beginRow 29 = .ok (.iload_n 2, 1) := by decide +kernel
set_option maxRecDepth 20000 in
theorem dX7_beginRow_30 : decode cX7_beginRow 30 = .ok (.putfield 137, 3) := by decide +kernel
set_option maxRecDepth 20000 in
theorem dX7_beginRow_33 : decode cX7_beginRow 33 = .ok (.return_, 1) := by decide +kernel
set_option maxRecDepth 20000 in
theorem dX7_isKind_0 : decode cX7_isKind 0 = .ok (.iload_n 0, 1) := by decide +kernel
set_option maxRecDepth 20000 in
theorem dX7_isKind_1 : decode cX7_isKind 1 = .ok (.iconst (-1), 1) := by decide +kernel
set_option maxRecDepth 20000 in
theorem dX7_isKind_2 : decode cX7_isKind 2 = .ok (.if_icmp .eq 13, 3) := by decide +kernel
set_option maxRecDepth 20000 in
theorem dX7_isKind_5 : decode cX7_isKind 5 = .ok (.iload_n 0, 1) := by decide +kernel
set_option maxRecDepth 20000 in
theorem dX7_isKind_6 : decode cX7_isKind 6 = .ok (.iconst 1, 1) := by decide +kernel
set_option maxRecDepth 20000 in
theorem dX7_isKind_7 : decode cX7_isKind 7 = .ok (.if_icmp .eq 8, 3) := by decide +kernel
set_option maxRecDepth 20000 in
theorem dX7_isKind_10 : decode cX7_isKind 10 = .ok (.iload_n 0, 1) := by decide +kernel
set_option maxRecDepth 20000 in
theorem dX7_isKind_11 : decode cX7_isKind 11 = .ok (.iconst 2, 1) := by decide +kernel
set_option maxRecDepth 20000 in
theorem dX7_isKind_12 : decode cX7_isKind 12 = .ok (.if_icmp .ne 7, 3) := by decide +kernel
set_option maxRecDepth 20000 in
theorem dX7_isKind_15 : decode cX7_isKind 15 = .ok (.iconst 1, 1) := by decide +kernel
set_option maxRecDepth 20000 in
theorem dX7_isKind_16 : decode cX7_isKind 16 = .ok (.goto 4, 3) := by decide +kernel
set_option maxRecDepth 20000 in
theorem dX7_isKind_19 : decode cX7_isKind 19 = .ok (.iconst 0, 1) := by decide +kernel
set_option maxRecDepth 20000 in
theorem dX7_isKind_20 : decode cX7_isKind 20 = .ok (.ireturn, 1) := by decide +kernel
set_option maxRecDepth 20000 in
theorem dX7_row_0 : decode cX7_row 0 = .ok (.iload_n 1, 1) := by decide +kernel
set_option maxRecDepth 20000 in
theorem dX7_row_1 : decode cX7_row 1 = .ok (.invokestatic 149, 3) := by decide +kernel
set_option maxRecDepth 20000 in
theorem dX7_row_4 : decode cX7_row 4 = .ok (.ifCond .eq 9, 3) := by decide +kernel
set_option maxRecDepth 20000 in
theorem dX7_row_7 : decode cX7_row 7 = .ok (.lload_n 3, 1) := by decide +kernel
set_option maxRecDepth 20000 in
theorem dX7_row_8 : decode cX7_row 8 = .ok (.lconst 0, 1) := by decide +kernel
set_option maxRecDepth 20000 in
theorem dX7_row_9 : decode cX7_row 9 = .ok (.lcmp, 1) := by decide +kernel
set_option maxRecDepth 20000 in
theorem dX7_row_10 : decode cX7_row 10 = .ok (.ifCond .ge 6, 3) := by decide +kernel
set_option maxRecDepth 20000 in
theorem dX7_row_13 : decode cX7_row 13 = .ok (.bipush (-2), 2) := by decide +kernel
set_option maxRecDepth 20000 in
theorem dX7_row_15 : decode cX7_row 15 = .ok (.ireturn, 1) := by decide +kernel
set_option maxRecDepth 20000 in
theorem dX7_row_16 : decode cX7_row 16 = .ok (.iload_n 1, 1) := by decide +kernel
set_option maxRecDepth 20000 in
theorem dX7_row_17 : decode cX7_row 17 = .ok (.iconst (-1), 1) := by decide +kernel
set_option maxRecDepth 20000 in
theorem dX7_row_18 : decode cX7_row 18 = .ok (.if_icmp .eq 19, 3) := by decide +kernel
set_option maxRecDepth 20000 in
theorem dX7_row_21 : decode cX7_row 21 = .ok (.iload_n 2, 1) := by decide +kernel
set_option maxRecDepth 20000 in
theorem dX7_row_22 : decode cX7_row 22 = .ok (.i2l, 1) := by decide +kernel
set_option maxRecDepth 20000 in
theorem dX7_row_23 : decode cX7_row 23 = .ok (.lconst 0, 1) := by decide +kernel
set_option maxRecDepth 20000 in
theorem dX7_row_24 : decode cX7_row 24 = .ok (.aload_n 0, 1) := by decide +kernel
set_option maxRecDepth 20000 in
theorem dX7_row_25 : decode cX7_row 25 = .ok (.getfield 7, 3) := by decide +kernel
set_option maxRecDepth 20000 in
theorem dX7_row_28 : decode cX7_row 28 = .ok (.i2l, 1) := by decide +kernel
set_option maxRecDepth 20000 in
theorem dX7_row_29 : decode cX7_row 29 = .ok (.invokestatic 51, 3) := by decide +kernel
set_option maxRecDepth 20000 in
theorem dX7_row_32 : decode cX7_row 32 = .ok (.ifCond .ne 5, 3) := by decide +kernel
set_option maxRecDepth 20000 in
theorem dX7_row_35 : decode cX7_row 35 = .ok (.iconst (-1), 1) := by decide +kernel
set_option maxRecDepth 20000 in
theorem dX7_row_36 : decode cX7_row 36 = .ok (.ireturn, 1) := by decide +kernel
set_option maxRecDepth 20000 in
theorem dX7_row_37 : decode cX7_row 37 = .ok (.aload_n 0, 1) := by decide +kernel
set_option maxRecDepth 20000 in
theorem dX7_row_38 : decode cX7_row 38 = .ok (.iload_n 1, 1) := by decide +kernel
set_option maxRecDepth 20000 in
theorem dX7_row_39 : decode cX7_row 39 = .ok (.iload_n 1, 1) := by decide +kernel
set_option maxRecDepth 20000 in
theorem dX7_row_40 : decode cX7_row 40 = .ok (.iconst (-1), 1) := by decide +kernel
set_option maxRecDepth 20000 in
theorem dX7_row_41 : decode cX7_row 41 = .ok (.if_icmp .ne 7, 3) := by decide +kernel
set_option maxRecDepth 20000 in
theorem dX7_row_44 : decode cX7_row 44 = .ok (.iconst 0, 1) := by decide +kernel
set_option maxRecDepth 20000 in
theorem dX7_row_45 : decode cX7_row 45 = .ok (.goto 4, 3) := by decide +kernel
set_option maxRecDepth 20000 in
theorem dX7_row_48 : decode cX7_row 48 = .ok (.iload_n 2, 1) := by decide +kernel
set_option maxRecDepth 20000 in
theorem dX7_row_49 : decode cX7_row 49 = .ok (.invokevirtual 152, 3) := by decide +kernel
set_option maxRecDepth 20000 in
theorem dX7_row_52 : decode cX7_row 52 = .ok (.lload_n 3, 1) := by decide +kernel
set_option maxRecDepth 20000 in
theorem dX7_row_53 : decode cX7_row 53 = .ok (.lstore 5, 2) := by decide +kernel
set_option maxRecDepth 20000 in
theorem dX7_row_55 : decode cX7_row 55 = .ok (.iconst 0, 1) := by decide +kernel
set_option maxRecDepth 20000 in
theorem dX7_row_56 : decode cX7_row 56 = .ok (.istore 7, 2) := by decide +kernel
set_option maxRecDepth 20000 in
theorem dX7_row_58 : decode cX7_row 58 = .ok (.iload 7, 2) := by decide +kernel
set_option maxRecDepth 20000 in
theorem dX7_row_60 : decode cX7_row 60 = .ok (.aload_n 0, 1) := by decide +kernel
set_option maxRecDepth 20000 in
theorem dX7_row_61 : decode cX7_row 61 = .ok (.getfield 7, 3) := by decide +kernel
set_option maxRecDepth 20000 in
theorem dX7_row_64 : decode cX7_row 64 = .ok (.if_icmp .ge 82, 3) := by decide +kernel
set_option maxRecDepth 20000 in
theorem dX7_row_67 : decode cX7_row 67 = .ok (.iconst 0, 1) := by decide +kernel
set_option maxRecDepth 20000 in
theorem dX7_row_68 : decode cX7_row 68 = .ok (.istore 8, 2) := by decide +kernel
set_option maxRecDepth 20000 in
theorem dX7_row_70 : decode cX7_row 70 = .ok (.iload 8, 2) := by decide +kernel
set_option maxRecDepth 20000 in
theorem dX7_row_72 : decode cX7_row 72 = .ok (.aload_n 0, 1) := by decide +kernel
set_option maxRecDepth 20000 in
theorem dX7_row_73 : decode cX7_row 73 = .ok (.getfield 7, 3) := by decide +kernel
set_option maxRecDepth 20000 in
theorem dX7_row_76 : decode cX7_row 76 = .ok (.iload 7, 2) := by decide +kernel
set_option maxRecDepth 20000 in
theorem dX7_row_78 : decode cX7_row 78 = .ok (.isub, 1) := by decide +kernel
set_option maxRecDepth 20000 in
theorem dX7_row_79 : decode cX7_row 79 = .ok (.if_icmp .ge 38, 3) := by decide +kernel
set_option maxRecDepth 20000 in
theorem dX7_row_82 : decode cX7_row 82 = .ok (.lload 5, 2) := by decide +kernel
set_option maxRecDepth 20000 in
theorem dX7_row_84 : decode cX7_row 84 = .ok (.aload_n 0, 1) := by decide +kernel
set_option maxRecDepth 20000 in
theorem dX7_row_85 : decode cX7_row 85 = .ok (.iload_n 1, 1) := by decide +kernel
set_option maxRecDepth 20000 in
theorem dX7_row_86 : decode cX7_row 86 = .ok (.iload 7, 2) := by decide +kernel
set_option maxRecDepth 20000 in
theorem dX7_row_88 : decode cX7_row 88 = .ok (.iload 8, 2) := by decide +kernel
set_option maxRecDepth 20000 in
theorem dX7_row_90 : decode cX7_row 90 = .ok (.invokevirtual 156, 3) := by decide +kernel
set_option maxRecDepth 20000 in
theorem dX7_row_93 : decode cX7_row 93 = .ok (.lcmp, 1) := by decide +kernel
set_option maxRecDepth 20000 in
theorem dX7_row_94 : decode cX7_row 94 = .ok (.ifCond .lt 23, 3) := by decide +kernel
set_option maxRecDepth 20000 in
theorem dX7_row_97 : decode cX7_row 97 = .ok (.lload 5, 2) := by decide +kernel
set_option maxRecDepth 20000 in
theorem dX7_row_99 : decode cX7_row 99 = .ok (.aload_n 0, 1) := by decide +kernel
set_option maxRecDepth 20000 in
theorem dX7_row_100 : decode cX7_row 100 = .ok (.iload_n 1, 1) := by decide +kernel
set_option maxRecDepth 20000 in
theorem dX7_row_101 : decode cX7_row 101 = .ok (.iload 7, 2) := by decide +kernel
set_option maxRecDepth 20000 in
theorem dX7_row_103 : decode cX7_row 103 = .ok (.iload 8, 2) := by decide +kernel
set_option maxRecDepth 20000 in
theorem dX7_row_105 : decode cX7_row 105 = .ok (.invokevirtual 156, 3) := by decide +kernel
set_option maxRecDepth 20000 in
theorem dX7_row_108 : decode cX7_row 108 = .ok (.lsub, 1) := by decide +kernel
set_option maxRecDepth 20000 in
theorem dX7_row_109 : decode cX7_row 109 = .ok (.lstore 5, 2) := by decide +kernel
set_option maxRecDepth 20000 in
theorem dX7_row_111 : decode cX7_row 111 = .ok (.iinc 8 1, 3) := by decide +kernel
set_option maxRecDepth 20000 in
theorem dX7_row_114 : decode cX7_row 114 = .ok (.goto (-44), 3) := by decide +kernel
set_option maxRecDepth 20000 in
theorem dX7_row_117 : decode cX7_row 117 = .ok (.iload 8, 2) := by decide +kernel
set_option maxRecDepth 20000 in
theorem dX7_row_119 : decode cX7_row 119 = .ok (.aload_n 0, 1) := by decide +kernel
set_option maxRecDepth 20000 in
theorem dX7_row_120 : decode cX7_row 120 = .ok (.getfield 7, 3) := by decide +kernel
set_option maxRecDepth 20000 in
theorem dX7_row_123 : decode cX7_row 123 = .ok (.iload 7, 2) := by decide +kernel
set_option maxRecDepth 20000 in
theorem dX7_row_125 : decode cX7_row 125 = .ok (.isub, 1) := by decide +kernel
set_option maxRecDepth 20000 in
theorem dX7_row_126 : decode cX7_row 126 = .ok (.if_icmp .ne 5, 3) := by decide +kernel
set_option maxRecDepth 20000 in
theorem dX7_row_129 : decode cX7_row 129 = .ok (.iconst (-1), 1) := by decide +kernel
set_option maxRecDepth 20000 in
theorem dX7_row_130 : decode cX7_row 130 = .ok (.ireturn, 1) := by decide +kernel
set_option maxRecDepth 20000 in
theorem dX7_row_131 : decode cX7_row 131 = .ok (.aload_n 0, 1) := by decide +kernel
set_option maxRecDepth 20000 in
theorem dX7_row_132 : decode cX7_row 132 = .ok (.iload_n 1, 1) := by decide +kernel
set_option maxRecDepth 20000 in
theorem dX7_row_133 : decode cX7_row 133 = .ok (.iload 7, 2) := by decide +kernel
set_option maxRecDepth 20000 in
theorem dX7_row_135 : decode cX7_row 135 = .ok (.iload 8, 2) := by decide +kernel
set_option maxRecDepth 20000 in
theorem dX7_row_137 : decode cX7_row 137 = .ok (.invokevirtual 160, 3) := by decide +kernel
set_option maxRecDepth 20000 in
theorem dX7_row_140 : decode cX7_row 140 = .ok (.iinc 7 1, 3) := by decide +kernel
set_option maxRecDepth 20000 in
theorem dX7_row_143 : decode cX7_row 143 = .ok (.goto (-85), 3) := by decide +kernel
set_option maxRecDepth 20000 in
theorem dX7_row_146 : decode cX7_row 146 = .ok (.aload_n 0, 1) := by decide +kernel
set_option maxRecDepth 20000 in
theorem dX7_row_147 : decode cX7_row 147 = .ok (.invokevirtual 57, 3) := by decide +kernel
set_option maxRecDepth 20000 in
theorem dX7_row_150 : decode cX7_row 150 = .ok (.iconst 1, 1) := by decide +kernel
set_option maxRecDepth 20000 in
theorem dX7_row_151 : decode cX7_row 151 = .ok (.ireturn, 1) := by decide +kernel
set_option maxRecDepth 20000 in
theorem dX7_place_0 : decode cX7_place 0 = .ok (.iload_n 1, 1) := by decide +kernel
set_option maxRecDepth 20000 in
theorem dX7_place_1 : decode cX7_place 1 = .ok (.invokestatic 149, 3) := by decide +kernel
set_option maxRecDepth 20000 in
theorem dX7_place_4 : decode cX7_place 4 = .ok (.ifCond .ne 7, 3) := by decide +kernel
set_option maxRecDepth 20000 in
theorem dX7_place_7 : decode cX7_place 7 = .ok (.ldc2_w 122, 3) := by decide +kernel
set_option maxRecDepth 20000 in
theorem dX7_place_10 : decode cX7_place 10 = .ok (.lreturn, 1) := by decide +kernel
set_option maxRecDepth 20000 in
theorem dX7_place_11 : decode cX7_place 11 = .ok (.aload_n 0, 1) := by decide +kernel
set_option maxRecDepth 20000 in
theorem dX7_place_12 : decode cX7_place 12 = .ok (.iload_n 1, 1) := by decide +kernel
set_option maxRecDepth 20000 in
theorem dX7_place_13 : decode cX7_place 13 = .ok (.iload_n 1, 1) := by decide +kernel
set_option maxRecDepth 20000 in
theorem dX7_place_14 : decode cX7_place 14 = .ok (.iconst (-1), 1) := by decide +kernel
set_option maxRecDepth 20000 in
theorem dX7_place_15 : decode cX7_place 15 = .ok (.if_icmp .ne 7, 3) := by decide +kernel
set_option maxRecDepth 20000 in
theorem dX7_place_18 : decode cX7_place 18 = .ok (.iconst 0, 1) := by decide +kernel
set_option maxRecDepth 20000 in
theorem dX7_place_19 : decode cX7_place 19 = .ok (.goto 8, 3) := by decide +kernel
set_option maxRecDepth 20000 in
theorem dX7_place_22 : decode cX7_place 22 = .ok (.aload_n 0, 1) := by decide +kernel
set_option maxRecDepth 20000 in
theorem dX7_place_23 : decode cX7_place 23 = .ok (.iload_n 1, 1) := by decide +kernel
set_option maxRecDepth 20000 in
theorem dX7_place_24 : decode cX7_place 24 = .ok (.invokevirtual 89, 3) := by decide +kernel
set_option maxRecDepth 20000 in
theorem dX7_place_27 : decode cX7_place 27 = .ok (.invokevirtual 152, 3) := by decide +kernel
set_option maxRecDepth 20000 in
theorem dX7_place_30 : decode cX7_place 30 = .ok (.lconst 0, 1) := by decide +kernel
set_option maxRecDepth 20000 in
theorem dX7_place_31 : decode cX7_place 31 = .ok (.lstore_n 2, 1) := by decide +kernel
set_option maxRecDepth 20000 in
theorem dX7_place_32 : decode cX7_place 32 = .ok (.iconst 0, 1) := by decide +kernel
set_option maxRecDepth 20000 in
theorem dX7_place_33 : decode cX7_place 33 = .ok (.istore 4, 2) := by decide +kernel
set_option maxRecDepth 20000 in
theorem dX7_place_35 : decode cX7_place 35 = .ok (.iload 4, 2) := by decide +kernel
set_option maxRecDepth 20000 in
theorem dX7_place_37 : decode cX7_place 37 = .ok (.aload_n 0, 1) := by decide +kernel
set_option maxRecDepth 20000 in
theorem dX7_place_38 : decode cX7_place 38 = .ok (.getfield 7, 3) := by decide +kernel
set_option maxRecDepth 20000 in
theorem dX7_place_41 : decode cX7_place 41 = .ok (.if_icmp .ge 92, 3) := by decide +kernel
set_option maxRecDepth 20000 in
theorem dX7_place_44 : decode cX7_place 44 = .ok (.iconst 0, 1) := by decide +kernel
set_option maxRecDepth 20000 in
theorem dX7_place_45 : decode cX7_place 45 = .ok (.istore 5, 2) := by decide +kernel
set_option maxRecDepth 20000 in
theorem dX7_place_47 : decode cX7_place 47 = .ok (.iconst 0, 1) := by decide +kernel
set_option maxRecDepth 20000 in
theorem dX7_place_48 : decode cX7_place 48 = .ok (.istore 6, 2) := by decide +kernel
set_option maxRecDepth 20000 in
theorem dX7_place_50 : decode cX7_place 50 = .ok (.iload 6, 2) := by decide +kernel
set_option maxRecDepth 20000 in
theorem dX7_place_52 : decode cX7_place 52 = .ok (.aload_n 0, 1) := by decide +kernel
set_option maxRecDepth 20000 in
theorem dX7_place_53 : decode cX7_place 53 = .ok (.getfield 13, 3) := by decide +kernel
set_option maxRecDepth 20000 in
theorem dX7_place_56 : decode cX7_place 56 = .ok (.iload 4, 2) := by decide +kernel
set_option maxRecDepth 20000 in
theorem dX7_place_58 : decode cX7_place 58 = .ok (.iaload, 1) := by decide +kernel
set_option maxRecDepth 20000 in
theorem dX7_place_59 : decode cX7_place 59 = .ok (.if_icmp .ge 31, 3) := by decide +kernel
set_option maxRecDepth 20000 in
theorem dX7_place_62 : decode cX7_place 62 = .ok (.iload 5, 2) := by decide +kernel
set_option maxRecDepth 20000 in
theorem dX7_place_64 : decode cX7_place 64 = .ok (.aload_n 0, 1) := by decide +kernel
set_option maxRecDepth 20000 in
theorem dX7_place_65 : decode cX7_place 65 = .ok (.getfield 143, 3) := by decide +kernel
set_option maxRecDepth 20000 in
theorem dX7_place_68 : decode cX7_place 68 = .ok (.iload 6, 2) := by decide +kernel
set_option maxRecDepth 20000 in
theorem dX7_place_70 : decode cX7_place 70 = .ok (.ishr, 1) := by decide +kernel
set_option maxRecDepth 20000 in
theorem dX7_place_71 : decode cX7_place 71 = .ok (.iconst 1, 1) := by decide +kernel
set_option maxRecDepth 20000 in
theorem dX7_place_72 : decode cX7_place 72 = .ok (.iand, 1) := by decide +kernel
set_option maxRecDepth 20000 in
theorem dX7_place_73 : decode cX7_place 73 = .ok (.ifCond .ne 7, 3) := by decide +kernel
set_option maxRecDepth 20000 in
theorem dX7_place_76 : decode cX7_place 76 = .ok (.iconst 1, 1) := by decide +kernel
set_option maxRecDepth 20000 in
theorem dX7_place_77 : decode cX7_place 77 = .ok (.goto 4, 3) := by decide +kernel
set_option maxRecDepth 20000 in
theorem dX7_place_80 : decode cX7_place 80 = .ok (.iconst 0, 1) := by decide +kernel
set_option maxRecDepth 20000 in
theorem dX7_place_81 : decode cX7_place 81 = .ok (.iadd, 1) := by decide +kernel
set_option maxRecDepth 20000 in
theorem dX7_place_82 : decode cX7_place 82 = .ok (.istore 5, 2) := by decide +kernel
set_option maxRecDepth 20000 in
theorem dX7_place_84 : decode cX7_place 84 = .ok (.iinc 6 1, 3) := by decide +kernel
set_option maxRecDepth 20000 in
theorem dX7_place_87 : decode cX7_place 87 = .ok (.goto (-37), 3) := by decide +kernel
set_option maxRecDepth 20000 in
theorem dX7_place_90 : decode cX7_place 90 = .ok (.iconst 0, 1) := by decide +kernel
set_option maxRecDepth 20000 in
theorem dX7_place_91 : decode cX7_place 91 = .ok (.istore 6, 2) := by decide +kernel
set_option maxRecDepth 20000 in
theorem dX7_place_93 : decode cX7_place 93 = .ok (.iload 6, 2) := by decide +kernel
set_option maxRecDepth 20000 in
theorem dX7_place_95 : decode cX7_place 95 = .ok (.iload 5, 2) := by decide +kernel
set_option maxRecDepth 20000 in
theorem dX7_place_97 : decode cX7_place 97 = .ok (.if_icmp .ge 21, 3) := by decide +kernel
set_option maxRecDepth 20000 in
theorem dX7_place_100 : decode cX7_place 100 = .ok (.lload_n 2, 1) := by decide +kernel
set_option maxRecDepth 20000 in
theorem dX7_place_101 : decode cX7_place 101 = .ok (.aload_n 0, 1) := by decide +kernel
set_option maxRecDepth 20000 in
theorem dX7_place_102 : decode cX7_place 102 = .ok (.iload_n 1, 1) := by decide +kernel
set_option maxRecDepth 20000 in
theorem dX7_place_103 : decode cX7_place 103 = .ok (.iload 4, 2) := by decide +kernel
set_option maxRecDepth 20000 in
theorem dX7_place_105 : decode cX7_place 105 = .ok (.iload 6, 2) := by decide +kernel
set_option maxRecDepth 20000 in
theorem dX7_place_107 : decode cX7_place 107 = .ok (.invokevirtual 156, 3) := by decide +kernel
set_option maxRecDepth 20000 in
theorem dX7_place_110 : decode cX7_place 110 = .ok (.ladd, 1) := by decide +kernel
set_option maxRecDepth 20000 in
theorem dX7_place_111 : decode cX7_place 111 = .ok (.lstore_n 2, 1) := by decide +kernel
set_option maxRecDepth 20000 in
theorem dX7_place_112 : decode cX7_place 112 = .ok (.iinc 6 1, 3) := by decide +kernel
set_option maxRecDepth 20000 in
theorem dX7_place_115 : decode cX7_place 115 = .ok (.goto (-22), 3) := by decide +kernel
set_option maxRecDepth 20000 in
theorem dX7_place_118 : decode cX7_place 118 = .ok (.aload_n 0, 1) := by decide +kernel
set_option maxRecDepth 20000 in
theorem dX7_place_119 : decode cX7_place 119 = .ok (.iload_n 1, 1) := by decide +kernel
set_option maxRecDepth 20000 in
theorem dX7_place_120 : decode cX7_place 120 = .ok (.iload 4, 2) := by decide +kernel
set_option maxRecDepth 20000 in
theorem dX7_place_122 : decode cX7_place 122 = .ok (.iload 5, 2) := by decide +kernel
set_option maxRecDepth 20000 in
theorem dX7_place_124 : decode cX7_place 124 = .ok (.invokevirtual 160, 3) := by decide +kernel
set_option maxRecDepth 20000 in
theorem dX7_place_127 : decode cX7_place 127 = .ok (.iinc 4 1, 3) := by decide +kernel
set_option maxRecDepth 20000 in
theorem dX7_place_130 : decode cX7_place 130 = .ok (.goto (-95), 3) := by decide +kernel
set_option maxRecDepth 20000 in
theorem dX7_place_133 : decode cX7_place 133 = .ok (.lload_n 2, 1) := by decide +kernel
set_option maxRecDepth 20000 in
theorem dX7_place_134 : decode cX7_place 134 = .ok (.lreturn, 1) := by decide +kernel
set_option maxRecDepth 20000 in
theorem dX7_toRounds_0 : decode cX7_toRounds 0 = .ok (.iconst 0, 1) := by decide +kernel
set_option maxRecDepth 20000 in
theorem dX7_toRounds_1 : decode cX7_toRounds 1 = .ok (.istore_n 1, 1) := by decide +kernel
set_option maxRecDepth 20000 in
theorem dX7_toRounds_2 : decode cX7_toRounds 2 = .ok (.iconst 0, 1) := by decide +kernel
set_option maxRecDepth 20000 in
theorem dX7_toRounds_3 : decode cX7_toRounds 3 = .ok (.istore_n 2, 1) := by decide +kernel
set_option maxRecDepth 20000 in
theorem dX7_toRounds_4 : decode cX7_toRounds 4 = .ok (.iload_n 2, 1) := by decide +kernel
set_option maxRecDepth 20000 in
theorem dX7_toRounds_5 : decode cX7_toRounds 5 = .ok (.aload_n 0, 1) := by decide +kernel
set_option maxRecDepth 20000 in
theorem dX7_toRounds_6 : decode cX7_toRounds 6 = .ok (.getfield 7, 3) := by decide +kernel
set_option maxRecDepth 20000 in
theorem dX7_toRounds_9 : decode cX7_toRounds 9 = .ok (.if_icmp .ge 81, 3) := by decide +kernel
set_option maxRecDepth 20000 in
theorem dX7_toRounds_12 : decode cX7_toRounds 12 = .ok (.aload_n 0, 1) := by decide +kernel
set_option maxRecDepth 20000 in
theorem dX7_toRounds_13 : decode cX7_toRounds 13 = .ok (.iload_n 2, 1) := by decide +kernel
set_option maxRecDepth 20000 in
theorem dX7_toRounds_14 : decode cX7_toRounds 14 = .ok (.invokevirtual 77, 3) := by decide +kernel
set_option maxRecDepth 20000 in
theorem dX7_toRounds_17 : decode cX7_toRounds 17 = .ok (.ifCond .eq 12, 3) := by decide +kernel
set_option maxRecDepth 20000 in
theorem dX7_toRounds_20 : decode cX7_toRounds 20 = .ok (.aload_n 0, 1) := by decide +kernel
set_option maxRecDepth 20000 in
theorem dX7_toRounds_21 : decode cX7_toRounds 21 = .ok (.getfield 13, 3) := by decide +kernel
set_option maxRecDepth 20000 in
theorem dX7_toRounds_24 : decode cX7_toRounds 24 = .ok (.iload_n 2, 1) := by decide +kernel
set_option maxRecDepth 20000 in
theorem dX7_toRounds_25 : decode cX7_toRounds 25 = .ok (.iaload, 1) := by decide +kernel
set_option maxRecDepth 20000 in
theorem dX7_toRounds_26 : decode cX7_toRounds 26 = .ok (.goto 4, 3) := by decide +kernel
set_option maxRecDepth 20000 in
theorem dX7_toRounds_29 : decode cX7_toRounds 29 = .ok (.iload_n 1, 1) := by decide +kernel
set_option maxRecDepth 20000 in
theorem dX7_toRounds_30 : decode cX7_toRounds 30 = .ok (.istore_n 1, 1) := by decide +kernel
set_option maxRecDepth 20000 in
theorem dX7_toRounds_31 : decode cX7_toRounds 31 = .ok (.iload_n 2, 1) := by decide +kernel
set_option maxRecDepth 20000 in
theorem dX7_toRounds_32 : decode cX7_toRounds 32 = .ok (.aload_n 0, 1) := by decide +kernel
set_option maxRecDepth 20000 in
theorem dX7_toRounds_33 : decode cX7_toRounds 33 = .ok (.getfield 7, 3) := by decide +kernel
set_option maxRecDepth 20000 in
theorem dX7_toRounds_36 : decode cX7_toRounds 36 = .ok (.iconst 1, 1) := by decide +kernel
set_option maxRecDepth 20000 in
theorem dX7_toRounds_37 : decode cX7_toRounds 37 = .ok (.isub, 1) := by decide +kernel
set_option maxRecDepth 20000 in
theorem dX7_toRounds_38 : decode cX7_toRounds 38 = .ok (.if_icmp .eq 13, 3) := by decide +kernel
set_option maxRecDepth 20000 in
theorem dX7_toRounds_41 : decode cX7_toRounds 41 = .ok (.aload_n 0, 1) := by decide +kernel
set_option maxRecDepth 20000 in
theorem dX7_toRounds_42 : decode cX7_toRounds 42 = .ok (.iload_n 2, 1) := by decide +kernel
set_option maxRecDepth 20000 in
theorem dX7_toRounds_43 : decode cX7_toRounds 43 = .ok (.iconst 1, 1) := by decide +kernel
set_option maxRecDepth 20000 in
theorem dX7_toRounds_44 : decode cX7_toRounds 44 = .ok (.iadd, 1) := by decide +kernel
set_option maxRecDepth 20000 in
theorem dX7_toRounds_45 : decode cX7_toRounds 45 = .ok (.invokevirtual 77, 3) := by decide +kernel
set_option maxRecDepth 20000 in
theorem dX7_toRounds_48 : decode cX7_toRounds 48 = .ok (.ifCond .eq 7, 3) := by decide +kernel
set_option maxRecDepth 20000 in
theorem dX7_toRounds_51 : decode cX7_toRounds 51 = .ok (.iconst 1, 1) := by decide +kernel
set_option maxRecDepth 20000 in
theorem dX7_toRounds_52 : decode cX7_toRounds 52 = .ok (.goto 4, 3) := by decide +kernel
set_option maxRecDepth 20000 in
theorem dX7_toRounds_55 : decode cX7_toRounds 55 = .ok (.iconst 0, 1) := by decide +kernel
set_option maxRecDepth 20000 in
theorem dX7_toRounds_56 : decode cX7_toRounds 56 = .ok (.istore_n 3, 1) := by decide +kernel
set_option maxRecDepth 20000 in
theorem dX7_toRounds_57 : decode cX7_toRounds 57 = .ok (.aload_n 0, 1) := by decide +kernel
set_option maxRecDepth 20000 in
theorem dX7_toRounds_58 : decode cX7_toRounds 58 = .ok (.getfield 29, 3) := by decide +kernel
set_option maxRecDepth 20000 in
theorem dX7_toRounds_61 : decode cX7_toRounds 61 = .ok (.aload_n 0, 1) := by decide +kernel
set_option maxRecDepth 20000 in
theorem dX7_toRounds_62 : decode cX7_toRounds 62 = .ok (.getfield 13, 3) := by decide +kernel
set_option maxRecDepth 20000 in
theorem dX7_toRounds_65 : decode cX7_toRounds 65 = .ok (.iload_n 2, 1) := by decide +kernel
set_option maxRecDepth 20000 in
theorem dX7_toRounds_66 : decode cX7_toRounds 66 = .ok (.iaload, 1) := by decide +kernel
set_option maxRecDepth 20000 in
theorem dX7_toRounds_67 : decode cX7_toRounds 67 = .ok (.iload_n 3, 1) := by decide +kernel
set_option maxRecDepth 20000 in
theorem dX7_toRounds_68 : decode cX7_toRounds 68 = .ok (.ifCond .eq 7, 3) := by decide +kernel
set_option maxRecDepth 20000 in
theorem dX7_toRounds_71 : decode cX7_toRounds 71 = .ok (.iload_n 1, 1) := by decide +kernel
set_option maxRecDepth 20000 in
theorem dX7_toRounds_72 : decode cX7_toRounds 72 = .ok (.goto 11, 3) := by decide +kernel
set_option maxRecDepth 20000 in
theorem dX7_toRounds_75 : decode cX7_toRounds 75 = .ok (.aload_n 0, 1) := by decide +kernel
set_option maxRecDepth 20000 in
theorem dX7_toRounds_76 : decode cX7_toRounds 76 = .ok (.getfield 13, 3) := by decide +kernel
set_option maxRecDepth 20000 in
theorem dX7_toRounds_79 : decode cX7_toRounds 79 = .ok (.iload_n 2, 1) := by decide +kernel
set_option maxRecDepth 20000 in
theorem dX7_toRounds_80 : decode cX7_toRounds 80 = .ok (.iconst 1, 1) := by decide +kernel
set_option maxRecDepth 20000 in
theorem dX7_toRounds_81 : decode cX7_toRounds 81 = .ok (.iadd, 1) := by decide +kernel
set_option maxRecDepth 20000 in
theorem dX7_toRounds_82 : decode cX7_toRounds 82 = .ok (.iaload, 1) := by decide +kernel
set_option maxRecDepth 20000 in
theorem dX7_toRounds_83 : decode cX7_toRounds 83 = .ok (.iastore, 1) := by decide +kernel
set_option maxRecDepth 20000 in
theorem dX7_toRounds_84 : decode cX7_toRounds 84 = .ok (.iinc 2 1, 3) := by decide +kernel
set_option maxRecDepth 20000 in
theorem dX7_toRounds_87 : decode cX7_toRounds 87 = .ok (.goto (-83), 3) := by decide +kernel
set_option maxRecDepth 20000 in
theorem dX7_toRounds_90 : decode cX7_toRounds 90 = .ok (.aload_n 0, 1) := by decide +kernel
set_option maxRecDepth 20000 in
theorem dX7_toRounds_91 : decode cX7_toRounds 91 = .ok (.invokevirtual 57, 3) := by decide +kernel
set_option maxRecDepth 20000 in
theorem dX7_toRounds_94 : decode cX7_toRounds 94 = .ok (.iconst 1, 1) := by decide +kernel
set_option maxRecDepth 20000 in
theorem dX7_toRounds_95 : decode cX7_toRounds 95 = .ok (.ireturn, 1) := by decide +kernel
set_option maxRecDepth 20000 in
theorem dX7_isGreatest_0 : decode cX7_isGreatest 0 = .ok (.iconst 1, 1) := by decide +kernel
set_option maxRecDepth 20000 in
theorem dX7_isGreatest_1 : decode cX7_isGreatest 1 = .ok (.istore_n 2, 1) := by decide +kernel
set_option maxRecDepth 20000 in
theorem dX7_isGreatest_2 : decode cX7_isGreatest 2 = .ok (.aload_n 0, 1) := by decide +kernel
set_option maxRecDepth 20000 in
theorem dX7_isGreatest_3 : decode cX7_isGreatest 3 = .ok (.getfield 13, 3) := by decide +kernel
set_option maxRecDepth 20000 in
theorem dX7_isGreatest_6 : decode cX7_isGreatest 6 = .ok (.iload_n 1, 1) := by decide +kernel
set_option maxRecDepth 20000 in
theorem dX7_isGreatest_7 : decode cX7_isGreatest 7 = .ok (.iaload, 1) := by decide +kernel
set_option maxRecDepth 20000 in
theorem dX7_isGreatest_8 : decode cX7_isGreatest 8 = .ok (.istore_n 3, 1) := by decide +kernel
set_option maxRecDepth 20000 in
theorem dX7_isGreatest_9 : decode cX7_isGreatest 9 = .ok (.iload_n 3, 1) := by decide +kernel
set_option maxRecDepth 20000 in
theorem dX7_isGreatest_10 : decode cX7_isGreatest 10 = .ok (.iload_n 1, 1) := by decide +kernel
set_option maxRecDepth 20000 in
theorem dX7_isGreatest_11 : decode cX7_isGreatest 11 = .ok (.if_icmp .eq 28, 3) := by decide +kernel
set_option maxRecDepth 20000 in
theorem dX7_isGreatest_14 : decode cX7_isGreatest 14 = .ok (.iload_n 2, 1) := by decide +kernel
set_option maxRecDepth 20000 in
theorem dX7_isGreatest_15 : decode cX7_isGreatest 15 = .ok (.ifCond .eq 12, 3) := by decide +kernel
set_option maxRecDepth 20000 in
theorem dX7_isGreatest_18 : decode cX7_isGreatest 18 = .ok (.iload_n 3, 1) := by decide +kernel
set_option maxRecDepth 20000 in
theorem dX7_isGreatest_19 : decode cX7_isGreatest 19 = .ok (.iload_n 1, 1) := by decide +kernel
set_option maxRecDepth 20000 in
theorem dX7_isGreatest_20 : decode cX7_isGreatest 20 = .ok (.if_icmp .ge 7, 3) := by decide +kernel
set_option maxRecDepth 20000 in
theorem dX7_isGreatest_23 : decode cX7_isGreatest 23 = .ok (.iconst 1, 1) := by decide +kernel
set_option maxRecDepth 20000 in
theorem dX7_isGreatest_24 : decode cX7_isGreatest 24 = .ok (.goto 4, 3) := by decide +kernel
set_option maxRecDepth 20000 in
theorem dX7_isGreatest_27 : decode cX7_isGreatest 27 = .ok (.iconst 0, 1) := by decide +kernel
set_option maxRecDepth 20000 in
theorem dX7_isGreatest_28 : decode cX7_isGreatest 28 = .ok (.istore_n 2, 1) := by decide +kernel
set_option maxRecDepth 20000 in
theorem dX7_isGreatest_29 : decode cX7_isGreatest 29 = .ok (.aload_n 0, 1) := by decide +kernel
set_option maxRecDepth 20000 in
theorem dX7_isGreatest_30 : decode cX7_isGreatest 30 = .ok (.getfield 13, 3) := by decide +kernel
set_option maxRecDepth 20000 in
theorem dX7_isGreatest_33 : decode cX7_isGreatest 33 = .ok (.iload_n 3, 1) := by decide +kernel
set_option maxRecDepth 20000 in
theorem dX7_isGreatest_34 : decode cX7_isGreatest 34 = .ok (.iaload, 1) := by decide +kernel
set_option maxRecDepth 20000 in
theorem dX7_isGreatest_35 : decode cX7_isGreatest 35 = .ok (.istore_n 3, 1) := by decide +kernel
set_option maxRecDepth 20000 in
theorem dX7_isGreatest_36 : decode cX7_isGreatest 36 = .ok (.goto (-27), 3) := by decide +kernel
set_option maxRecDepth 20000 in
theorem dX7_isGreatest_39 : decode cX7_isGreatest 39 = .ok (.iload_n 2, 1) := by decide +kernel
set_option maxRecDepth 20000 in
theorem dX7_isGreatest_40 : decode cX7_isGreatest 40 = .ok (.ireturn, 1) := by decide +kernel
set_option maxRecDepth 20000 in
theorem dX7_toRecords_0 : decode cX7_toRecords 0 = .ok (.iconst 0, 1) := by decide +kernel
set_option maxRecDepth 20000 in
theorem dX7_toRecords_1 : decode cX7_toRecords 1 = .ok (.istore_n 1, 1) := by decide +kernel
set_option maxRecDepth 20000 in
theorem dX7_toRecords_2 : decode cX7_toRecords 2 = .ok (.iconst 0, 1) := by decide +kernel
set_option maxRecDepth 20000 in
theorem dX7_toRecords_3 : decode cX7_toRecords 3 = .ok (.istore_n 2, 1) := by decide +kernel
set_option maxRecDepth 20000 in
theorem dX7_toRecords_4 : decode cX7_toRecords 4 = .ok (.iload_n 2, 1) := by decide +kernel
set_option maxRecDepth 20000 in
theorem dX7_toRecords_5 : decode cX7_toRecords 5 = .ok (.aload_n 0, 1) := by decide +kernel
set_option maxRecDepth 20000 in
theorem dX7_toRecords_6 : decode cX7_toRecords 6 = .ok (.getfield 7, 3) := by decide +kernel
set_option maxRecDepth 20000 in
theorem dX7_toRecords_9 : decode cX7_toRecords 9 = .ok (.if_icmp .ge 59, 3) := by decide +kernel
set_option maxRecDepth 20000 in
theorem dX7_toRecords_12 : decode cX7_toRecords 12 = .ok (.aload_n 0, 1) := by decide +kernel
set_option maxRecDepth 20000 in
theorem dX7_toRecords_13 : decode cX7_toRecords 13 = .ok (.iload_n 2, 1) := by decide +kernel
set_option maxRecDepth 20000 in
theorem dX7_toRecords_14 : decode cX7_toRecords 14 = .ok (.invokevirtual 164, 3) := by decide +kernel
set_option maxRecDepth 20000 in
theorem dX7_toRecords_17 : decode cX7_toRecords 17 = .ok (.ifCond .eq 45, 3) := by decide +kernel
set_option maxRecDepth 20000 in
theorem dX7_toRecords_20 : decode cX7_toRecords 20 = .ok (.iload_n 2, 1) := by decide +kernel
set_option maxRecDepth 20000 in
theorem dX7_toRecords_21 : decode cX7_toRecords 21 = .ok (.istore_n 3, 1) := by decide +kernel
set_option maxRecDepth 20000 in
theorem dX7_toRecords_22 : decode cX7_toRecords 22 = .ok (.aload_n 0, 1) := by decide +kernel
set_option maxRecDepth 20000 in
theorem dX7_toRecords_23 : decode cX7_toRecords 23 = .ok (.iload_n 2, 1) := by decide +kernel
set_option maxRecDepth 20000 in
theorem dX7_toRecords_24 : decode cX7_toRecords 24 = .ok (.invokevirtual 66, 3) := by decide +kernel
set_option maxRecDepth 20000 in
theorem dX7_toRecords_27 : decode cX7_toRecords 27 = .ok (.istore 4, 2) := by decide +kernel
set_option maxRecDepth 20000 in
theorem dX7_toRecords_29 : decode cX7_toRecords 29 = .ok (.iconst 0, 1) := by decide +kernel
set_option maxRecDepth 20000 in
theorem dX7_toRecords_30 : decode cX7_toRecords 30 = .ok (.istore 5, 2) := by decide +kernel
set_option maxRecDepth 20000 in
theorem dX7_toRecords_32 : decode cX7_toRecords 32 = .ok (.iload 5, 2) := by decide +kernel
set_option maxRecDepth 20000 in
theorem dX7_toRecords_34 : decode cX7_toRecords 34 = .ok (.iload 4, 2) := by decide +kernel
set_option maxRecDepth 20000 in
theorem dX7_toRecords_36 : decode cX7_toRecords 36 = .ok (.if_icmp .ge 26, 3) := by decide +kernel
set_option maxRecDepth 20000 in
theorem dX7_toRecords_39 : decode cX7_toRecords 39 = .ok (.aload_n 0, 1) := by decide +kernel
set_option maxRecDepth 20000 in
theorem dX7_toRecords_40 : decode cX7_toRecords 40 = .ok (.getfield 29, 3) := by decide +kernel
set_option maxRecDepth 20000 in
theorem dX7_toRecords_43 : decode cX7_toRecords 43 = .ok (.iload_n 1, 1) := by decide +kernel
set_option maxRecDepth 20000 in
theorem dX7_toRecords_44 : decode cX7_toRecords 44 = .ok (.iload_n 3, 1) := by decide +kernel
set_option maxRecDepth 20000 in
theorem dX7_toRecords_45 : decode cX7_toRecords 45 = .ok (.iastore, 1) := by decide +kernel
set_option maxRecDepth 20000 in
theorem dX7_toRecords_46 : decode cX7_toRecords 46 = .ok (.iinc 1 1, 3) := by decide +kernel
set_option maxRecDepth 20000 in
theorem dX7_toRecords_49 : decode cX7_toRecords 49 = .ok (.aload_n 0, 1) := by decide +kernel
set_option maxRecDepth 20000 in
theorem dX7_toRecords_50 : decode cX7_toRecords 50 = .ok (.getfield 13, 3) := by decide +kernel
set_option maxRecDepth 20000 in
theorem dX7_toRecords_53 : decode cX7_toRecords 53 = .ok (.iload_n 3, 1) := by decide +kernel
set_option maxRecDepth 20000 in
theorem dX7_toRecords_54 : decode cX7_toRecords 54 = .ok (.iaload, 1) := by decide +kernel
set_option maxRecDepth 20000 in
theorem dX7_toRecords_55 : decode cX7_toRecords 55 = .ok (.istore_n 3, 1) := by decide +kernel
set_option maxRecDepth 20000 in
theorem dX7_toRecords_56 : decode cX7_toRecords 56 = .ok (.iinc 5 1, 3) := by decide +kernel
set_option maxRecDepth 20000 in
theorem dX7_toRecords_59 : decode cX7_toRecords 59 = .ok (.goto (-27), 3) := by decide +kernel
set_option maxRecDepth 20000 in
theorem dX7_toRecords_62 : decode cX7_toRecords 62 = .ok (.iinc 2 1, 3) := by decide +kernel
set_option maxRecDepth 20000 in
theorem dX7_toRecords_65 : decode cX7_toRecords 65 = .ok (.goto (-61), 3) := by decide +kernel
set_option maxRecDepth 20000 in
theorem dX7_toRecords_68 : decode cX7_toRecords 68 = .ok (.aload_n 0, 1) := by decide +kernel
set_option maxRecDepth 20000 in
theorem dX7_toRecords_69 : decode cX7_toRecords 69 = .ok (.invokevirtual 57, 3) := by decide +kernel
set_option maxRecDepth 20000 in
theorem dX7_toRecords_72 : decode cX7_toRecords 72 = .ok (.iconst 1, 1) := by decide +kernel
set_option maxRecDepth 20000 in
theorem dX7_toRecords_73 : decode cX7_toRecords 73 = .ok (.ireturn, 1) := by decide +kernel
set_option maxRecDepth 20000 in
theorem dX7_opens_0 : decode cX7_opens 0 = .ok (.iload_n 1, 1) := by decide +kernel
set_option maxRecDepth 20000 in
theorem dX7_opens_1 : decode cX7_opens 1 = .ok (.i2l, 1) := by decide +kernel
set_option maxRecDepth 20000 in
theorem dX7_opens_2 : decode cX7_opens 2 = .ok (.lconst 1, 1) := by decide +kernel
set_option maxRecDepth 20000 in
theorem dX7_opens_3 : decode cX7_opens 3 = .ok (.aload_n 0, 1) := by decide +kernel
set_option maxRecDepth 20000 in
theorem dX7_opens_4 : decode cX7_opens 4 = .ok (.getfield 7, 3) := by decide +kernel
set_option maxRecDepth 20000 in
theorem dX7_opens_7 : decode cX7_opens 7 = .ok (.i2l, 1) := by decide +kernel
set_option maxRecDepth 20000 in
theorem dX7_opens_8 : decode cX7_opens 8 = .ok (.invokestatic 51, 3) := by decide +kernel
set_option maxRecDepth 20000 in
theorem dX7_opens_11 : decode cX7_opens 11 = .ok (.ifCond .ne 6, 3) := by decide +kernel
set_option maxRecDepth 20000 in
theorem dX7_opens_14 : decode cX7_opens 14 = .ok (.bipush (-2), 2) := by decide +kernel
set_option maxRecDepth 20000 in
theorem dX7_opens_16 : decode cX7_opens 16 = .ok (.ireturn, 1) := by decide +kernel
set_option maxRecDepth 20000 in
theorem dX7_opens_17 : decode cX7_opens 17 = .ok (.aload_n 0, 1) := by decide +kernel
set_option maxRecDepth 20000 in
theorem dX7_opens_18 : decode cX7_opens 18 = .ok (.getfield 20, 3) := by decide +kernel
set_option maxRecDepth 20000 in
theorem dX7_opens_21 : decode cX7_opens 21 = .ok (.istore_n 2, 1) := by decide +kernel
set_option maxRecDepth 20000 in
theorem dX7_opens_22 : decode cX7_opens 22 = .ok (.aload_n 0, 1) := by decide +kernel
set_option maxRecDepth 20000 in
theorem dX7_opens_23 : decode cX7_opens 23 = .ok (.iload_n 1, 1) := by decide +kernel
set_option maxRecDepth 20000 in
theorem dX7_opens_24 : decode cX7_opens 24 = .ok (.putfield 20, 3) := by decide +kernel
set_option maxRecDepth 20000 in
theorem dX7_opens_27 : decode cX7_opens 27 = .ok (.iload_n 2, 1) := by decide +kernel
set_option maxRecDepth 20000 in
theorem dX7_opens_28 : decode cX7_opens 28 = .ok (.ireturn, 1) := by decide +kernel
set_option maxRecDepth 20000 in
theorem dX7_list_0 : decode cX7_list 0 = .ok (.aload_n 0, 1) := by decide +kernel
set_option maxRecDepth 20000 in
theorem dX7_list_1 : decode cX7_list 1 = .ok (.iload_n 1, 1) := by decide +kernel
set_option maxRecDepth 20000 in
theorem dX7_list_2 : decode cX7_list 2 = .ok (.invokevirtual 60, 3) := by decide +kernel
set_option maxRecDepth 20000 in
theorem dX7_list_5 : decode cX7_list 5 = .ok (.ifCond .eq 11, 3) := by decide +kernel
set_option maxRecDepth 20000 in
theorem dX7_list_8 : decode cX7_list 8 = .ok (.aload_n 0, 1) := by decide +kernel
set_option maxRecDepth 20000 in
theorem dX7_list_9 : decode cX7_list 9 = .ok (.iload_n 2, 1) := by decide +kernel
set_option maxRecDepth 20000 in
theorem dX7_list_10 : decode cX7_list 10 = .ok (.invokevirtual 60, 3) := by decide +kernel
set_option maxRecDepth 20000 in
theorem dX7_list_13 : decode cX7_list 13 = .ok (.ifCond .ne 6, 3) := by decide +kernel
set_option maxRecDepth 20000 in
theorem dX7_list_16 : decode cX7_list 16 = .ok (.bipush (-2), 2) := by decide +kernel
set_option maxRecDepth 20000 in
theorem dX7_list_18 : decode cX7_list 18 = .ok (.ireturn, 1) := by decide +kernel
set_option maxRecDepth 20000 in
theorem dX7_list_19 : decode cX7_list 19 = .ok (.iconst 0, 1) := by decide +kernel
set_option maxRecDepth 20000 in
theorem dX7_list_20 : decode cX7_list 20 = .ok (.istore_n 3, 1) := by decide +kernel
set_option maxRecDepth 20000 in
theorem dX7_list_21 : decode cX7_list 21 = .ok (.iload_n 3, 1) := by decide +kernel
set_option maxRecDepth 20000 in
theorem dX7_list_22 : decode cX7_list 22 = .ok (.aload_n 0, 1) := by decide +kernel
set_option maxRecDepth 20000 in
theorem dX7_list_23 : decode cX7_list 23 = .ok (.getfield 26, 3) := by decide +kernel
set_option maxRecDepth 20000 in
theorem dX7_list_26 : decode cX7_list 26 = .ok (.iload_n 1, 1) := by decide +kernel
set_option maxRecDepth 20000 in
theorem dX7_list_27 : decode cX7_list 27 = .ok (.iaload, 1) := by decide +kernel
set_option maxRecDepth 20000 in
theorem dX7_list_28 : decode cX7_list 28 = .ok (.if_icmp .ge 27, 3) := by decide +kernel
set_option maxRecDepth 20000 in
theorem dX7_list_31 : decode cX7_list 31 = .ok (.aload_n 0, 1) := by decide +kernel
set_option maxRecDepth 20000 in
theorem dX7_list_32 : decode cX7_list 32 = .ok (.getfield 23, 3) := by decide +kernel
set_option maxRecDepth 20000 in
theorem dX7_list_35 : decode cX7_list 35 = .ok (.bipush 18, 2) := by decide +kernel
set_option maxRecDepth 20000 in
theorem dX7_list_37 : decode cX7_list 37 = .ok (.iload_n 1, 1) := by decide +kernel
set_option maxRecDepth 20000 in
theorem dX7_list_38 : decode cX7_list 38 = .ok (.imul, 1) := by decide +kernel
set_option maxRecDepth 20000 in
theorem dX7_list_39 : decode cX7_list 39 = .ok (.iload_n 3, 1) := by decide +kernel
set_option maxRecDepth 20000 in
theorem dX7_list_40 : decode cX7_list 40 = .ok (.iadd, 1) := by decide +kernel
set_option maxRecDepth 20000 in
theorem dX7_list_41 : decode cX7_list 41 = .ok (.iaload, 1) := by decide +kernel
set_option maxRecDepth 20000 in
theorem dX7_list_42 : decode cX7_list 42 = .ok (.iload_n 2, 1) := by decide +kernel
set_option maxRecDepth 20000 in
theorem dX7_list_43 : decode cX7_list 43 = .ok (.if_icmp .ne 6, 3) := by decide +kernel
set_option maxRecDepth 20000 in
theorem dX7_list_46 : decode cX7_list 46 = .ok (.bipush (-4), 2) := by decide +kernel
set_option maxRecDepth 20000 in
theorem dX7_list_48 : decode cX7_list 48 = .ok (.ireturn, 1) := by decide +kernel
set_option maxRecDepth 20000 in
theorem dX7_list_49 : decode cX7_list 49 = .ok (.iinc 3 1, 3) := by decide +kernel
set_option maxRecDepth 20000 in
theorem dX7_list_52 : decode cX7_list 52 = .ok (.goto (-31), 3) := by decide +kernel
set_option maxRecDepth 20000 in
theorem dX7_list_55 : decode cX7_list 55 = .ok (.aload_n 0, 1) := by decide +kernel
set_option maxRecDepth 20000 in
theorem dX7_list_56 : decode cX7_list 56 = .ok (.getfield 23, 3) := by decide +kernel
set_option maxRecDepth 20000 in
theorem dX7_list_59 : decode cX7_list 59 = .ok (.bipush 18, 2) := by decide +kernel
set_option maxRecDepth 20000 in
theorem dX7_list_61 : decode cX7_list 61 = .ok (.iload_n 1, 1) := by decide +kernel
set_option maxRecDepth 20000 in
theorem dX7_list_62 : decode cX7_list 62 = .ok (.imul, 1) := by decide +kernel
set_option maxRecDepth 20000 in
theorem dX7_list_63 : decode cX7_list 63 = .ok (.aload_n 0, 1) := by decide +kernel
set_option maxRecDepth 20000 in
theorem dX7_list_64 : decode cX7_list 64 = .ok (.getfield 26, 3) := by decide +kernel
set_option maxRecDepth 20000 in
theorem dX7_list_67 : decode cX7_list 67 = .ok (.iload_n 1, 1) := by decide +kernel
set_option maxRecDepth 20000 in
theorem dX7_list_68 : decode cX7_list 68 = .ok (.iaload, 1) := by decide +kernel
set_option maxRecDepth 20000 in
theorem dX7_list_69 : decode cX7_list 69 = .ok (.iadd, 1) := by decide +kernel
set_option maxRecDepth 20000 in
theorem dX7_list_70 : decode cX7_list 70 = .ok (.iload_n 2, 1) := by decide +kernel
set_option maxRecDepth 20000 in
theorem dX7_list_71 : decode cX7_list 71 = .ok (.iastore, 1) := by decide +kernel
set_option maxRecDepth 20000 in
theorem dX7_list_72 : decode cX7_list 72 = .ok (.aload_n 0, 1) := by decide +kernel
set_option maxRecDepth 20000 in
theorem dX7_list_73 : decode cX7_list 73 = .ok (.getfield 26, 3) := by decide +kernel
set_option maxRecDepth 20000 in
theorem dX7_list_76 : decode cX7_list 76 = .ok (.iload_n 1, 1) := by decide +kernel
set_option maxRecDepth 20000 in
theorem dX7_list_77 : decode cX7_list 77 = .ok (.dup2, 1) := by decide +kernel
set_option maxRecDepth 20000 in
theorem dX7_list_78 : decode cX7_list 78 = .ok (.iaload, 1) := by decide +kernel
set_option maxRecDepth 20000 in
theorem dX7_list_79 : decode cX7_list 79 = .ok (.iconst 1, 1) := by decide +kernel
set_option maxRecDepth 20000 in
theorem dX7_list_80 : decode cX7_list 80 = .ok (.iadd, 1) := by decide +kernel
set_option maxRecDepth 20000 in
theorem dX7_list_81 : decode cX7_list 81 = .ok (.iastore, 1) := by decide +kernel
set_option maxRecDepth 20000 in
theorem dX7_list_82 : decode cX7_list 82 = .ok (.aload_n 0, 1) := by decide +kernel
set_option maxRecDepth 20000 in
theorem dX7_list_83 : decode cX7_list 83 = .ok (.getfield 26, 3) := by decide +kernel
set_option maxRecDepth 20000 in
theorem dX7_list_86 : decode cX7_list 86 = .ok (.iload_n 1, 1) := by decide +kernel
set_option maxRecDepth 20000 in
theorem dX7_list_87 : decode cX7_list 87 = .ok (.iaload, 1) := by decide +kernel
set_option maxRecDepth 20000 in
theorem dX7_list_88 : decode cX7_list 88 = .ok (.ireturn, 1) := by decide +kernel
set_option maxRecDepth 20000 in
theorem dX7_forget_0 : decode cX7_forget 0 = .ok (.aload_n 0, 1) := by decide +kernel
set_option maxRecDepth 20000 in
theorem dX7_forget_1 : decode cX7_forget 1 = .ok (.iload_n 1, 1) := by decide +kernel
set_option maxRecDepth 20000 in
theorem dX7_forget_2 : decode cX7_forget 2 = .ok (.invokevirtual 60, 3) := by decide +kernel
set_option maxRecDepth 20000 in
theorem dX7_forget_5 : decode cX7_forget 5 = .ok (.ifCond .ne 6, 3) := by decide +kernel
set_option maxRecDepth 20000 in
theorem dX7_forget_8 : decode cX7_forget 8 = .ok (.bipush (-2), 2) := by decide +kernel
set_option maxRecDepth 20000 in
theorem dX7_forget_10 : decode cX7_forget 10 = .ok (.ireturn, 1) := by decide +kernel
set_option maxRecDepth 20000 in
theorem dX7_forget_11 : decode cX7_forget 11 = .ok (.aload_n 0, 1) := by decide +kernel
set_option maxRecDepth 20000 in
theorem dX7_forget_12 : decode cX7_forget 12 = .ok (.getfield 26, 3) := by decide +kernel
set_option maxRecDepth 20000 in
theorem dX7_forget_15 : decode cX7_forget 15 = .ok (.iload_n 1, 1) := by decide +kernel
set_option maxRecDepth 20000 in
theorem dX7_forget_16 : decode cX7_forget 16 = .ok (.iaload, 1) := by decide +kernel
set_option maxRecDepth 20000 in
theorem dX7_forget_17 : decode cX7_forget 17 = .ok (.istore_n 2, 1) := by decide +kernel
set_option maxRecDepth 20000 in
theorem dX7_forget_18 : decode cX7_forget 18 = .ok (.aload_n 0, 1) := by decide +kernel
set_option maxRecDepth 20000 in
theorem dX7_forget_19 : decode cX7_forget 19 = .ok (.getfield 26, 3) := by decide +kernel
set_option maxRecDepth 20000 in
theorem dX7_forget_22 : decode cX7_forget 22 = .ok (.iload_n 1, 1) := by decide +kernel
set_option maxRecDepth 20000 in
theorem dX7_forget_23 : decode cX7_forget 23 = .ok (.iconst 0, 1) := by decide +kernel
set_option maxRecDepth 20000 in
theorem dX7_forget_24 : decode cX7_forget 24 = .ok (.iastore, 1) := by decide +kernel
set_option maxRecDepth 20000 in
theorem dX7_forget_25 : decode cX7_forget 25 = .ok (.iload_n 2, 1) := by decide +kernel
set_option maxRecDepth 20000 in
theorem dX7_forget_26 : decode cX7_forget 26 = .ok (.ireturn, 1) := by decide +kernel
set_option maxRecDepth 20000 in
theorem dX7_winsBy_0 : decode cX7_winsBy 0 = .ok (.iconst 0, 1) := by decide +kernel
set_option maxRecDepth 20000 in
theorem dX7_winsBy_1 : decode cX7_winsBy 1 = .ok (.istore_n 3, 1) := by decide +kernel
set_option maxRecDepth 20000 in
theorem dX7_winsBy_2 : decode cX7_winsBy 2 = .ok (.iconst 0, 1) := by decide +kernel
set_option maxRecDepth 20000 in
theorem dX7_winsBy_3 : decode cX7_winsBy 3 = .ok (.istore 4, 2) := by decide +kernel
set_option maxRecDepth 20000 in
theorem dX7_winsBy_5 : decode cX7_winsBy 5 = .ok (.iload 4, 2) := by decide +kernel
set_option maxRecDepth 20000 in
theorem dX7_winsBy_7 : decode cX7_winsBy 7 = .ok (.aload_n 0, 1) := by decide +kernel
set_option maxRecDepth 20000 in
theorem dX7_winsBy_8 : decode cX7_winsBy 8 = .ok (.getfield 26, 3) := by decide +kernel
set_option maxRecDepth 20000 in
theorem dX7_winsBy_11 : decode cX7_winsBy 11 = .ok (.iload_n 2, 1) := by decide +kernel
set_option maxRecDepth 20000 in
theorem dX7_winsBy_12 : decode cX7_winsBy 12 = .ok (.iaload, 1) := by decide +kernel
set_option maxRecDepth 20000 in
theorem dX7_winsBy_13 : decode cX7_winsBy 13 = .ok (.if_icmp .ge 46, 3) := by decide +kernel
set_option maxRecDepth 20000 in
theorem dX7_winsBy_16 : decode cX7_winsBy 16 = .ok (.iload 4, 2) := by decide +kernel
set_option maxRecDepth 20000 in
theorem dX7_winsBy_18 : decode cX7_winsBy 18 = .ok (.aload_n 0, 1) := by decide +kernel
set_option maxRecDepth 20000 in
theorem dX7_winsBy_19 : decode cX7_winsBy 19 = .ok (.getfield 20, 3) := by decide +kernel
set_option maxRecDepth 20000 in
theorem dX7_winsBy_22 : decode cX7_winsBy 22 = .ok (.if_icmp .ge 37, 3) := by decide +kernel
set_option maxRecDepth 20000 in
theorem dX7_winsBy_25 : decode cX7_winsBy 25 = .ok (.iload_n 3, 1) := by decide +kernel
set_option maxRecDepth 20000 in
theorem dX7_winsBy_26 : decode cX7_winsBy 26 = .ok (.ifCond .ne 21, 3) := by decide +kernel
set_option maxRecDepth 20000 in
theorem dX7_winsBy_29 : decode cX7_winsBy 29 = .ok (.aload_n 1, 1) := by decide +kernel
set_option maxRecDepth 20000 in
theorem dX7_winsBy_30 : decode cX7_winsBy 30 = .ok (.aload_n 0, 1) := by decide +kernel
set_option maxRecDepth 20000 in
theorem dX7_winsBy_31 : decode cX7_winsBy 31 = .ok (.getfield 23, 3) := by decide +kernel
set_option maxRecDepth 20000 in
theorem dX7_winsBy_34 : decode cX7_winsBy 34 = .ok (.bipush 18, 2) := by decide +kernel
set_option maxRecDepth 20000 in
theorem dX7_winsBy_36 : decode cX7_winsBy 36 = .ok (.iload_n 2, 1) := by decide +kernel
set_option maxRecDepth 20000 in
theorem dX7_winsBy_37 : decode cX7_winsBy 37 = .ok (.imul, 1) := by decide +kernel
set_option maxRecDepth 20000 in
theorem dX7_winsBy_38 : decode cX7_winsBy 38 = .ok (.iload 4, 2) := by decide +kernel
set_option maxRecDepth 20000 in
theorem dX7_winsBy_40 : decode cX7_winsBy 40 = .ok (.iadd, 1) := by decide +kernel
set_option maxRecDepth 20000 in
theorem dX7_winsBy_41 : decode cX7_winsBy 41 = .ok (.iaload, 1) := by decide +kernel
set_option maxRecDepth 20000 in
theorem dX7_winsBy_42 : decode cX7_winsBy 42 = .ok (.iaload, 1) := by decide +kernel
set_option maxRecDepth 20000 in
theorem dX7_winsBy_43 : decode cX7_winsBy 43 = .ok (.iload_n 2, 1) := by decide +kernel
set_option maxRecDepth 20000 in
theorem dX7_winsBy_44 : decode cX7_winsBy 44 = .ok (.if_icmp .ne 7, 3) := by decide +kernel
set_option maxRecDepth 20000 in
theorem dX7_winsBy_47 : decode cX7_winsBy 47 = .ok (.iconst 1, 1) := by decide +kernel
set_option maxRecDepth 20000 in
theorem dX7_winsBy_48 : decode cX7_winsBy 48 = .ok (.goto 4, 3) := by decide +kernel
set_option maxRecDepth 20000 in
theorem dX7_winsBy_51 : decode cX7_winsBy 51 = .ok (.iconst 0, 1) := by decide +kernel
set_option maxRecDepth 20000 in
theorem dX7_winsBy_52 : decode cX7_winsBy 52 = .ok (.istore_n 3, 1) := by decide +kernel
set_option maxRecDepth 20000 in
theorem dX7_winsBy_53 : decode cX7_winsBy 53 = .ok (.iinc 4 1, 3) := by decide +kernel
set_option maxRecDepth 20000 in
theorem dX7_winsBy_56 : decode cX7_winsBy 56 = .ok (.goto (-51), 3) := by decide +kernel
set_option maxRecDepth 20000 in
theorem dX7_winsBy_59 : decode cX7_winsBy 59 = .ok (.iload_n 3, 1) := by decide +kernel
set_option maxRecDepth 20000 in
theorem dX7_winsBy_60 : decode cX7_winsBy 60 = .ok (.ireturn, 1) := by decide +kernel
set_option maxRecDepth 20000 in
theorem dX7_wins_0 : decode cX7_wins 0 = .ok (.iload_n 1, 1) := by decide +kernel
set_option maxRecDepth 20000 in
theorem dX7_wins_1 : decode cX7_wins 1 = .ok (.i2l, 1) := by decide +kernel
set_option maxRecDepth 20000 in
theorem dX7_wins_2 : decode cX7_wins 2 = .ok (.lconst 0, 1) := by decide +kernel
set_option maxRecDepth 20000 in
theorem dX7_wins_3 : decode cX7_wins 3 = .ok (.lconst 1, 1) := by decide +kernel
set_option maxRecDepth 20000 in
theorem dX7_wins_4 : decode cX7_wins 4 = .ok (.invokestatic 51, 3) := by decide +kernel
set_option maxRecDepth 20000 in
theorem dX7_wins_7 : decode cX7_wins 7 = .ok (.ifCond .eq 11, 3) := by decide +kernel
set_option maxRecDepth 20000 in
theorem dX7_wins_10 : decode cX7_wins 10 = .ok (.aload_n 0, 1) := by decide +kernel
set_option maxRecDepth 20000 in
theorem dX7_wins_11 : decode cX7_wins 11 = .ok (.iload_n 2, 1) := by decide +kernel
set_option maxRecDepth 20000 in
theorem dX7_wins_12 : decode cX7_wins 12 = .ok (.invokevirtual 60, 3) := by decide +kernel
set_option maxRecDepth 20000 in
theorem dX7_wins_15 : decode cX7_wins 15 = .ok (.ifCond .ne 6, 3) := by decide +kernel
set_option maxRecDepth 20000 in
theorem dX7_wins_18 : decode cX7_wins 18 = .ok (.bipush (-2), 2) := by decide +kernel
set_option maxRecDepth 20000 in
theorem dX7_wins_20 : decode cX7_wins 20 = .ok (.ireturn, 1) := by decide +kernel
set_option maxRecDepth 20000 in
theorem dX7_wins_21 : decode cX7_wins 21 = .ok (.iload_n 1, 1) := by decide +kernel
set_option maxRecDepth 20000 in
theorem dX7_wins_22 : decode cX7_wins 22 = .ok (.ifCond .ne 18, 3) := by decide +kernel
set_option maxRecDepth 20000 in
theorem dX7_wins_25 : decode cX7_wins 25 = .ok (.aload_n 0, 1) := by decide +kernel
set_option maxRecDepth 20000 in
theorem dX7_wins_26 : decode cX7_wins 26 = .ok (.iload_n 2, 1) := by decide +kernel
set_option maxRecDepth 20000 in
theorem dX7_wins_27 : decode cX7_wins 27 = .ok (.invokevirtual 66, 3) := by decide +kernel
set_option maxRecDepth 20000 in
theorem dX7_wins_30 : decode cX7_wins 30 = .ok (.aload_n 0, 1) := by decide +kernel
set_option maxRecDepth 20000 in
theorem dX7_wins_31 : decode cX7_wins 31 = .ok (.getfield 20, 3) := by decide +kernel
set_option maxRecDepth 20000 in
theorem dX7_wins_34 : decode cX7_wins 34 = .ok (.if_icmp .gt 22, 3) := by decide +kernel
set_option maxRecDepth 20000 in
theorem dX7_wins_37 : decode cX7_wins 37 = .ok (.goto 15, 3) := by decide +kernel
set_option maxRecDepth 20000 in
theorem dX7_wins_40 : decode cX7_wins 40 = .ok (.aload_n 0, 1) := by decide +kernel
set_option maxRecDepth 20000 in
theorem dX7_wins_41 : decode cX7_wins 41 = .ok (.aload_n 0, 1) := by decide +kernel
set_option maxRecDepth 20000 in
theorem dX7_wins_42 : decode cX7_wins 42 = .ok (.getfield 13, 3) := by decide +kernel
set_option maxRecDepth 20000 in
theorem dX7_wins_45 : decode cX7_wins 45 = .ok (.iload_n 2, 1) := by decide +kernel
set_option maxRecDepth 20000 in
theorem dX7_wins_46 : decode cX7_wins 46 = .ok (.invokevirtual 167, 3) := by decide +kernel
set_option maxRecDepth 20000 in
theorem dX7_wins_49 : decode cX7_wins 49 = .ok (.ifCond .eq 7, 3) := by decide +kernel
set_option maxRecDepth 20000 in
theorem dX7_wins_52 : decode cX7_wins 52 = .ok (.iconst 1, 1) := by decide +kernel
set_option maxRecDepth 20000 in
theorem dX7_wins_53 : decode cX7_wins 53 = .ok (.goto 4, 3) := by decide +kernel
set_option maxRecDepth 20000 in
theorem dX7_wins_56 : decode cX7_wins 56 = .ok (.iconst 0, 1) := by decide +kernel
set_option maxRecDepth 20000 in
theorem dX7_wins_57 : decode cX7_wins 57 = .ok (.ireturn, 1) := by decide +kernel
set_option maxRecDepth 20000 in
theorem dX7_layRow_0 : decode cX7_layRow 0 = .ok (.iload_n 1, 1) := by decide +kernel
set_option maxRecDepth 20000 in
theorem dX7_layRow_1 : decode cX7_layRow 1 = .ok (.istore_n 2, 1) := by decide +kernel
set_option maxRecDepth 20000 in
theorem dX7_layRow_2 : decode cX7_layRow 2 = .ok (.iconst 0, 1) := by decide +kernel
set_option maxRecDepth 20000 in
theorem dX7_layRow_3 : decode cX7_layRow 3 = .ok (.istore_n 3, 1) := by decide +kernel
set_option maxRecDepth 20000 in
theorem dX7_layRow_4 : decode cX7_layRow 4 = .ok (.iconst 0, 1) := by decide +kernel
set_option maxRecDepth 20000 in
theorem dX7_layRow_5 : decode cX7_layRow 5 = .ok (.istore 4, 2) := by decide +kernel
set_option maxRecDepth 20000 in
theorem dX7_layRow_7 : decode cX7_layRow 7 = .ok (.iload 4, 2) := by decide +kernel
set_option maxRecDepth 20000 in
theorem dX7_layRow_9 : decode cX7_layRow 9 = .ok (.aload_n 0, 1) := by decide +kernel
set_option maxRecDepth 20000 in
theorem dX7_layRow_10 : decode cX7_layRow 10 = .ok (.getfield 7, 3) := by decide +kernel
set_option maxRecDepth 20000 in
theorem dX7_layRow_13 : decode cX7_layRow 13 = .ok (.if_icmp .ge 96, 3) := by decide +kernel
set_option maxRecDepth 20000 in
theorem dX7_layRow_16 : decode cX7_layRow 16 = .ok (.aload_n 0, 1) := by decide +kernel
set_option maxRecDepth 20000 in
theorem dX7_layRow_17 : decode cX7_layRow 17 = .ok (.getfield 39, 3) := by decide +kernel
set_option maxRecDepth 20000 in
theorem dX7_layRow_20 : decode cX7_layRow 20 = .ok (.aload_n 0, 1) := by decide +kernel
set_option maxRecDepth 20000 in
theorem dX7_layRow_21 : decode cX7_layRow 21 = .ok (.getfield 7, 3) := by decide +kernel
set_option maxRecDepth 20000 in
theorem dX7_layRow_24 : decode cX7_layRow 24 = .ok (.iconst 1, 1) := by decide +kernel
set_option maxRecDepth 20000 in
theorem dX7_layRow_25 : decode cX7_layRow 25 = .ok (.isub, 1) := by decide +kernel
set_option maxRecDepth 20000 in
theorem dX7_layRow_26 : decode cX7_layRow 26 = .ok (.iload 4, 2) := by decide +kernel
set_option maxRecDepth 20000 in
theorem dX7_layRow_28 : decode cX7_layRow 28 = .ok (.isub, 1) := by decide +kernel
set_option maxRecDepth 20000 in
theorem dX7_layRow_29 : decode cX7_layRow 29 = .ok (.laload, 1) := by decide +kernel
set_option maxRecDepth 20000 in
theorem dX7_layRow_30 : decode cX7_layRow 30 = .ok (.l2i, 1) := by decide +kernel
set_option maxRecDepth 20000 in
theorem dX7_layRow_31 : decode cX7_layRow 31 = .ok (.istore 5, 2) := by decide +kernel
set_option maxRecDepth 20000 in
theorem dX7_layRow_33 : decode cX7_layRow 33 = .ok (.iload_n 2, 1) := by decide +kernel
set_option maxRecDepth 20000 in
theorem dX7_layRow_34 : decode cX7_layRow 34 = .ok (.iload 5, 2) := by decide +kernel
set_option maxRecDepth 20000 in
theorem dX7_layRow_36 : decode cX7_layRow 36 = .ok (.idiv, 1) := by decide +kernel
set_option maxRecDepth 20000 in
theorem dX7_layRow_37 : decode cX7_layRow 37 = .ok (.istore 6, 2) := by decide +kernel
set_option maxRecDepth 20000 in
theorem dX7_layRow_39 : decode cX7_layRow 39 = .ok (.iload_n 2, 1) := by decide +kernel
set_option maxRecDepth 20000 in
theorem dX7_layRow_40 : decode cX7_layRow 40 = .ok (.iload 5, 2) := by decide +kernel
set_option maxRecDepth 20000 in
theorem dX7_layRow_42 : decode cX7_layRow 42 = .ok (.irem, 1) := by decide +kernel
set_option maxRecDepth 20000 in
theorem dX7_layRow_43 : decode cX7_layRow 43 = .ok (.istore_n 2, 1) := by decide +kernel
set_option maxRecDepth 20000 in
theorem dX7_layRow_44 : decode cX7_layRow 44 = .ok (.iconst 0, 1) := by decide +kernel
set_option maxRecDepth 20000 in
theorem dX7_layRow_45 : decode cX7_layRow 45 = .ok (.istore 7, 2) := by decide +kernel
set_option maxRecDepth 20000 in
theorem dX7_layRow_47 : decode cX7_layRow 47 = .ok (.iload_n 3, 1) := by decide +kernel
set_option maxRecDepth 20000 in
theorem dX7_layRow_48 : decode cX7_layRow 48 = .ok (.iload 7, 2) := by decide +kernel
set_option maxRecDepth 20000 in
theorem dX7_layRow_50 : decode cX7_layRow 50 = .ok (.ishr, 1) := by decide +kernel
set_option maxRecDepth 20000 in
theorem dX7_layRow_51 : decode cX7_layRow 51 = .ok (.iconst 1, 1) := by decide +kernel
set_option maxRecDepth 20000 in
theorem dX7_layRow_52 : decode cX7_layRow 52 = .ok (.iand, 1) := by decide +kernel
set_option maxRecDepth 20000 in
theorem dX7_layRow_53 : decode cX7_layRow 53 = .ok (.iconst 1, 1) := by decide +kernel
set_option maxRecDepth 20000 in
theorem dX7_layRow_54 : decode cX7_layRow 54 = .ok (.if_icmp .eq 8, 3) := by decide +kernel
set_option maxRecDepth 20000 in
theorem dX7_layRow_57 : decode cX7_layRow 57 = .ok (.iload 6, 2) := by decide +kernel
set_option maxRecDepth 20000 in
theorem dX7_layRow_59 : decode cX7_layRow 59 = .ok (.ifCond .le 28, 3) := by decide +kernel
set_option maxRecDepth 20000 in
theorem dX7_layRow_62 : decode cX7_layRow 62 = .ok (.iload 6, 2) := by decide +kernel
set_option maxRecDepth 20000 in
theorem dX7_layRow_64 : decode cX7_layRow 64 = .ok (.iload_n 3, 1) := by decide +kernel
set_option maxRecDepth 20000 in
theorem dX7_layRow_65 : decode cX7_layRow 65 = .ok (.iload 7, 2) := by decide +kernel
set_option maxRecDepth 20000 in
theorem dX7_layRow_67 : decode cX7_layRow 67 = .ok (.ishr, 1) := by decide +kernel
set_option maxRecDepth 20000 in
theorem dX7_layRow_68 : decode cX7_layRow 68 = .ok (.iconst 1, 1) := by decide +kernel
set_option maxRecDepth 20000 in
theorem dX7_layRow_69 : decode cX7_layRow 69 = .ok (.iand, 1) := by decide +kernel
set_option maxRecDepth 20000 in
theorem dX7_layRow_70 : decode cX7_layRow 70 = .ok (.ifCond .ne 7, 3) := by decide +kernel
set_option maxRecDepth 20000 in
theorem dX7_layRow_73 : decode cX7_layRow 73 = .ok (.iconst 1, 1) := by decide +kernel
set_option maxRecDepth 20000 in
theorem dX7_layRow_74 : decode cX7_layRow 74 = .ok (.goto 4, 3) := by decide +kernel
set_option maxRecDepth 20000 in
theorem dX7_layRow_77 : decode cX7_layRow 77 = .ok (.iconst 0, 1) := by decide +kernel
set_option maxRecDepth 20000 in
theorem dX7_layRow_78 : decode cX7_layRow 78 = .ok (.isub, 1) := by decide +kernel
set_option maxRecDepth 20000 in
theorem dX7_layRow_79 : decode cX7_layRow 79 = .ok (.istore 6, 2) := by decide +kernel
set_option maxRecDepth 20000 in
theorem dX7_layRow_81 : decode cX7_layRow 81 = .ok (.iinc 7 1, 3) := by decide +kernel
set_option maxRecDepth 20000 in
theorem dX7_layRow_84 : decode cX7_layRow 84 = .ok (.goto (-37), 3) := by decide +kernel
set_option maxRecDepth 20000 in
theorem dX7_layRow_87 : decode cX7_layRow 87 = .ok (.iload_n 3, 1) := by decide +kernel
set_option maxRecDepth 20000 in
theorem dX7_layRow_88 : decode cX7_layRow 88 = .ok (.iconst 1, 1) := by decide +kernel
set_option maxRecDepth 20000 in
theorem dX7_layRow_89 : decode cX7_layRow 89 = .ok (.iload 7, 2) := by decide +kernel
set_option maxRecDepth 20000 in
theorem dX7_layRow_91 : decode cX7_layRow 91 = .ok (.ishl, 1) := by decide +kernel
set_option maxRecDepth 20000 in
theorem dX7_layRow_92 : decode cX7_layRow 92 = .ok (.ior, 1) := by decide +kernel
set_option maxRecDepth 20000 in
theorem dX7_layRow_93 : decode cX7_layRow 93 = .ok (.istore_n 3, 1) := by decide +kernel
set_option maxRecDepth 20000 in
theorem dX7_layRow_94 : decode cX7_layRow 94 = .ok (.aload_n 0, 1) := by decide +kernel
set_option maxRecDepth 20000 in
theorem dX7_layRow_95 : decode cX7_layRow 95 = .ok (.getfield 29, 3) := by decide +kernel
set_option maxRecDepth 20000 in
theorem dX7_layRow_98 : decode cX7_layRow 98 = .ok (.iload 4, 2) := by decide +kernel
set_option maxRecDepth 20000 in
theorem dX7_layRow_100 : decode cX7_layRow 100 = .ok (.iload 7, 2) := by decide +kernel
set_option maxRecDepth 20000 in
theorem dX7_layRow_102 : decode cX7_layRow 102 = .ok (.iastore, 1) := by decide +kernel
set_option maxRecDepth 20000 in
theorem dX7_layRow_103 : decode cX7_layRow 103 = .ok (.iinc 4 1, 3) := by decide +kernel
set_option maxRecDepth 20000 in
theorem dX7_layRow_106 : decode cX7_layRow 106 = .ok (.goto (-99), 3) := by decide +kernel
set_option maxRecDepth 20000 in
theorem dX7_layRow_109 : decode cX7_layRow 109 = .ok (.return_, 1) := by decide +kernel
set_option maxRecDepth 20000 in
theorem dX7_allWin_0 : decode cX7_allWin 0 = .ok (.iload_n 1, 1) := by decide +kernel
set_option maxRecDepth 20000 in
theorem dX7_allWin_1 : decode cX7_allWin 1 = .ok (.i2l, 1) := by decide +kernel
set_option maxRecDepth 20000 in
theorem dX7_allWin_2 : decode cX7_allWin 2 = .ok (.lconst 0, 1) := by decide +kernel
set_option maxRecDepth 20000 in
theorem dX7_allWin_3 : decode cX7_allWin 3 = .ok (.lconst 1, 1) := by decide +kernel
set_option maxRecDepth 20000 in
theorem dX7_allWin_4 : decode cX7_allWin 4 = .ok (.invokestatic 51, 3) := by decide +kernel
set_option maxRecDepth 20000 in
theorem dX7_allWin_7 : decode cX7_allWin 7 = .ok (.ifCond .ne 7, 3) := by decide +kernel
set_option maxRecDepth 20000 in
theorem dX7_allWin_10 : decode cX7_allWin 10 = .ok (.ldc2_w 122, 3) := by decide +kernel
set_option maxRecDepth 20000 in
theorem dX7_allWin_13 : decode cX7_allWin 13 = .ok (.lreturn, 1) := by decide +kernel
set_option maxRecDepth 20000 in
theorem dX7_allWin_14 : decode cX7_allWin 14 = .ok (.iload_n 1, 1) := by decide +kernel
set_option maxRecDepth 20000 in
theorem dX7_allWin_15 : decode cX7_allWin 15 = .ok (.iconst 1, 1) := by decide +kernel
set_option maxRecDepth 20000 in
theorem dX7_allWin_16 : decode cX7_allWin 16 = .ok (.if_icmp .ne 16, 3) := by decide +kernel
set_option maxRecDepth 20000 in
theorem dX7_allWin_19 : decode cX7_allWin 19 = .ok (.aload_n 0, 1) := by decide +kernel
set_option maxRecDepth 20000 in
theorem dX7_allWin_20 : decode cX7_allWin 20 = .ok (.getfield 7, 3) := by decide +kernel
set_option maxRecDepth 20000 in
theorem dX7_allWin_23 : decode cX7_allWin 23 = .ok (.bipush 7, 2) := by decide +kernel
set_option maxRecDepth 20000 in
theorem dX7_allWin_25 : decode cX7_allWin 25 = .ok (.if_icmp .le 7, 3) := by decide +kernel
set_option maxRecDepth 20000 in
theorem dX7_allWin_28 : decode cX7_allWin 28 = .ok (.ldc2_w 171, 3) := by decide +kernel
set_option maxRecDepth 20000 in
theorem dX7_allWin_31 : decode cX7_allWin 31 = .ok (.lreturn, 1) := by decide +kernel
set_option maxRecDepth 20000 in
theorem dX7_allWin_32 : decode cX7_allWin 32 = .ok (.aload_n 0, 1) := by decide +kernel
set_option maxRecDepth 20000 in
theorem dX7_allWin_33 : decode cX7_allWin 33 = .ok (.iconst 4, 1) := by decide +kernel
set_option maxRecDepth 20000 in
theorem dX7_allWin_34 : decode cX7_allWin 34 = .ok (.invokevirtual 124, 3) := by decide +kernel
set_option maxRecDepth 20000 in
theorem dX7_allWin_37 : decode cX7_allWin 37 = .ok (.lconst 0, 1) := by decide +kernel
set_option maxRecDepth 20000 in
theorem dX7_allWin_38 : decode cX7_allWin 38 = .ok (.lstore_n 2, 1) := by decide +kernel
set_option maxRecDepth 20000 in
theorem dX7_allWin_39 : decode cX7_allWin 39 = .ok (.iconst 1, 1) := by decide +kernel
set_option maxRecDepth 20000 in
theorem dX7_allWin_40 : decode cX7_allWin 40 = .ok (.istore 4, 2) := by decide +kernel
set_option maxRecDepth 20000 in
theorem dX7_allWin_42 : decode cX7_allWin 42 = .ok (.iload 4, 2) := by decide +kernel
set_option maxRecDepth 20000 in
theorem dX7_allWin_44 : decode cX7_allWin 44 = .ok (.aload_n 0, 1) := by decide +kernel
set_option maxRecDepth 20000 in
theorem dX7_allWin_45 : decode cX7_allWin 45 = .ok (.getfield 20, 3) := by decide +kernel
set_option maxRecDepth 20000 in
theorem dX7_allWin_48 : decode cX7_allWin 48 = .ok (.if_icmp .gt 23, 3) := by decide +kernel
set_option maxRecDepth 20000 in
theorem dX7_allWin_51 : decode cX7_allWin 51 = .ok (.iload_n 1, 1) := by decide +kernel
set_option maxRecDepth 20000 in
theorem dX7_allWin_52 : decode cX7_allWin 52 = .ok (.ifCond .ne 19, 3) := by decide +kernel
set_option maxRecDepth 20000 in
theorem dX7_allWin_55 : decode cX7_allWin 55 = .ok (.lload_n 2, 1) := by decide +kernel
set_option maxRecDepth 20000 in
theorem dX7_allWin_56 : decode cX7_allWin 56 = .ok (.aload_n 0, 1) := by decide +kernel
set_option maxRecDepth 20000 in
theorem dX7_allWin_57 : decode cX7_allWin 57 = .ok (.getfield 32, 3) := by decide +kernel
set_option maxRecDepth 20000 in
theorem dX7_allWin_60 : decode cX7_allWin 60 = .ok (.iload 4, 2) := by decide +kernel
set_option maxRecDepth 20000 in
theorem dX7_allWin_62 : decode cX7_allWin 62 = .ok (.laload, 1) := by decide +kernel
set_option maxRecDepth 20000 in
theorem dX7_allWin_63 : decode cX7_allWin 63 = .ok (.ladd, 1) := by decide +kernel
set_option maxRecDepth 20000 in
theorem dX7_allWin_64 : decode cX7_allWin 64 = .ok (.lstore_n 2, 1) := by decide +kernel
set_option maxRecDepth 20000 in
theorem dX7_allWin_65 : decode cX7_allWin 65 = .ok (.iinc 4 1, 3) := by decide +kernel
set_option maxRecDepth 20000 in
theorem dX7_allWin_68 : decode cX7_allWin 68 = .ok (.goto (-26), 3) := by decide +kernel
set_option maxRecDepth 20000 in
theorem dX7_allWin_71 : decode cX7_allWin 71 = .ok (.iconst 0, 1) := by decide +kernel
set_option maxRecDepth 20000 in
theorem dX7_allWin_72 : decode cX7_allWin 72 = .ok (.istore 4, 2) := by decide +kernel
set_option maxRecDepth 20000 in
theorem dX7_allWin_74 : decode cX7_allWin 74 = .ok (.iload_n 1, 1) := by decide +kernel
set_option maxRecDepth 20000 in
theorem dX7_allWin_75 : decode cX7_allWin 75 = .ok (.iconst 1, 1) := by decide +kernel
set_option maxRecDepth 20000 in
theorem dX7_allWin_76 : decode cX7_allWin 76 = .ok (.if_icmp .ne 90, 3) := by decide +kernel
set_option maxRecDepth 20000 in
theorem dX7_allWin_79 : decode cX7_allWin 79 = .ok (.iload 4, 2) := by decide +kernel
set_option maxRecDepth 20000 in
theorem dX7_allWin_81 : decode cX7_allWin 81 = .ok (.i2l, 1) := by decide +kernel
set_option maxRecDepth 20000 in
theorem dX7_allWin_82 : decode cX7_allWin 82 = .ok (.aload_n 0, 1) := by decide +kernel
set_option maxRecDepth 20000 in
theorem dX7_allWin_83 : decode cX7_allWin 83 = .ok (.getfield 39, 3) := by decide +kernel
set_option maxRecDepth 20000 in
theorem dX7_allWin_86 : decode cX7_allWin 86 = .ok (.aload_n 0, 1) := by decide +kernel
set_option maxRecDepth 20000 in
theorem dX7_allWin_87 : decode cX7_allWin 87 = .ok (.getfield 7, 3) := by decide +kernel
set_option maxRecDepth 20000 in
theorem dX7_allWin_90 : decode cX7_allWin 90 = .ok (.laload, 1) := by decide +kernel
set_option maxRecDepth 20000 in
theorem dX7_allWin_91 : decode cX7_allWin 91 = .ok (.lcmp, 1) := by decide +kernel
set_option maxRecDepth 20000 in
theorem dX7_allWin_92 : decode cX7_allWin 92 = .ok (.ifCond .ge 74, 3) := by decide +kernel
set_option maxRecDepth 20000 in
theorem dX7_allWin_95 : decode cX7_allWin 95 = .ok (.aload_n 0, 1) := by decide +kernel
set_option maxRecDepth 20000 in
theorem dX7_allWin_96 : decode cX7_allWin 96 = .ok (.iload 4, 2) := by decide +kernel
set_option maxRecDepth 20000 in
theorem dX7_allWin_98 : decode cX7_allWin 98 = .ok (.invokevirtual 173, 3) := by decide +kernel
set_option maxRecDepth 20000 in
theorem dX7_allWin_101 : decode cX7_allWin 101 = .ok (.iconst 1, 1) := by decide +kernel
set_option maxRecDepth 20000 in
theorem dX7_allWin_102 : decode cX7_allWin 102 = .ok (.istore 5, 2) := by decide +kernel
set_option maxRecDepth 20000 in
theorem dX7_allWin_104 : decode cX7_allWin 104 = .ok (.iconst 0, 1) := by decide +kernel
set_option maxRecDepth 20000 in
theorem dX7_allWin_105 : decode cX7_allWin 105 = .ok (.istore 6, 2) := by decide +kernel
set_option maxRecDepth 20000 in
theorem dX7_allWin_107 : decode cX7_allWin 107 = .ok (.iload 6, 2) := by decide +kernel
set_option maxRecDepth 20000 in
theorem dX7_allWin_109 : decode cX7_allWin 109 = .ok (.aload_n 0, 1) := by decide +kernel
set_option maxRecDepth 20000 in
theorem dX7_allWin_110 : decode cX7_allWin 110 = .ok (.getfield 7, 3) := by decide +kernel
set_option maxRecDepth 20000 in
theorem dX7_allWin_113 : decode cX7_allWin 113 = .ok (.if_icmp .ge 34, 3) := by decide +kernel
set_option maxRecDepth 20000 in
theorem dX7_allWin_116 : decode cX7_allWin 116 = .ok (.iload 5, 2) := by decide +kernel
set_option maxRecDepth 20000 in
theorem dX7_allWin_118 : decode cX7_allWin 118 = .ok (.ifCond .eq 20, 3) := by decide +kernel
set_option maxRecDepth 20000 in
theorem dX7_allWin_121 : decode cX7_allWin 121 = .ok (.aload_n 0, 1) := by decide +kernel
set_option maxRecDepth 20000 in
theorem dX7_allWin_122 : decode cX7_allWin 122 = .ok (.aload_n 0, 1) := by decide +kernel
set_option maxRecDepth 20000 in
theorem dX7_allWin_123 : decode cX7_allWin 123 = .ok (.getfield 29, 3) := by decide +kernel
set_option maxRecDepth 20000 in
theorem dX7_allWin_126 : decode cX7_allWin 126 = .ok (.iload 6, 2) := by decide +kernel
set_option maxRecDepth 20000 in
theorem dX7_allWin_128 : decode cX7_allWin 128 = .ok (.invokevirtual 167, 3) := by decide +kernel
set_option maxRecDepth 20000 in
theorem dX7_allWin_131 : decode cX7_allWin 131 = .ok (.ifCond .eq 7, 3) := by decide +kernel
set_option maxRecDepth 20000 in
theorem dX7_allWin_134 : decode cX7_allWin 134 = .ok (.iconst 1, 1) := by decide +kernel
set_option maxRecDepth 20000 in
theorem dX7_allWin_135 : decode cX7_allWin 135 = .ok (.goto 4, 3) := by decide +kernel
set_option maxRecDepth 20000 in
theorem dX7_allWin_138 : decode cX7_allWin 138 = .ok (.iconst 0, 1) := by decide +kernel
set_option maxRecDepth 20000 in
theorem dX7_allWin_139 : decode cX7_allWin 139 = .ok (.istore 5, 2) := by decide +kernel
set_option maxRecDepth 20000 in
theorem dX7_allWin_141 : decode cX7_allWin 141 = .ok (.iinc 6 1, 3) := by decide +kernel
set_option maxRecDepth 20000 in
theorem dX7_allWin_144 : decode cX7_allWin 144 = .ok (.goto (-37), 3) := by decide +kernel
set_option maxRecDepth 20000 in
theorem dX7_allWin_147 : decode cX7_allWin 147 = .ok (.lload_n 2, 1) := by decide +kernel
set_option maxRecDepth 20000 in
theorem dX7_allWin_148 : decode cX7_allWin 148 = .ok (.iload 5, 2) := by decide +kernel
set_option maxRecDepth 20000 in
theorem dX7_allWin_150 : decode cX7_allWin 150 = .ok (.ifCond .eq 7, 3) := by decide +kernel
set_option maxRecDepth 20000 in
theorem dX7_allWin_153 : decode cX7_allWin 153 = .ok (.lconst 1, 1) := by decide +kernel
set_option maxRecDepth 20000 in
theorem dX7_allWin_154 : decode cX7_allWin 154 = .ok (.goto 4, 3) := by decide +kernel
set_option maxRecDepth 20000 in
theorem dX7_allWin_157 : decode cX7_allWin 157 = .ok (.lconst 0, 1) := by decide +kernel
set_option maxRecDepth 20000 in
theorem dX7_allWin_158 : decode cX7_allWin 158 = .ok (.ladd, 1) := by decide +kernel
set_option maxRecDepth 20000 in
theorem dX7_allWin_159 : decode cX7_allWin 159 = .ok (.lstore_n 2, 1) := by decide +kernel
set_option maxRecDepth 20000 in
theorem dX7_allWin_160 : decode cX7_allWin 160 = .ok (.iinc 4 1, 3) := by decide +kernel
set_option maxRecDepth 20000 in
theorem dX7_allWin_163 : decode cX7_allWin 163 = .ok (.goto (-89), 3) := by decide +kernel
set_option maxRecDepth 20000 in
theorem dX7_allWin_166 : decode cX7_allWin 166 = .ok (.lload_n 2, 1) := by decide +kernel
set_option maxRecDepth 20000 in
theorem dX7_allWin_167 : decode cX7_allWin 167 = .ok (.lreturn, 1) := by decide +kernel
set_option maxRecDepth 20000 in
theorem dX7_count_0 : decode cX7_count 0 = .ok (.iconst 0, 1) := by decide +kernel
set_option maxRecDepth 20000 in
theorem dX7_count_1 : decode cX7_count 1 = .ok (.istore_n 2, 1) := by decide +kernel
set_option maxRecDepth 20000 in
theorem dX7_count_2 : decode cX7_count 2 = .ok (.iload_n 1, 1) := by decide +kernel
set_option maxRecDepth 20000 in
theorem dX7_count_3 : decode cX7_count 3 = .ok (.tableswitch 62 0 2 #[25, 30, 35], 25) := by decide +kernel
set_option maxRecDepth 20000 in
theorem dX7_count_28 : decode cX7_count 28 = .ok (.aload_n 0, 1) := by decide +kernel
set_option maxRecDepth 20000 in
theorem dX7_count_29 : decode cX7_count 29 = .ok (.getfield 7, 3) := by decide +kernel
set_option maxRecDepth 20000 in
theorem dX7_count_32 : decode cX7_count 32 = .ok (.ireturn, 1) := by decide +kernel
set_option maxRecDepth 20000 in
theorem dX7_count_33 : decode cX7_count 33 = .ok (.aload_n 0, 1) := by decide +kernel
set_option maxRecDepth 20000 in
theorem dX7_count_34 : decode cX7_count 34 = .ok (.getfield 20, 3) := by decide +kernel
set_option maxRecDepth 20000 in
theorem dX7_count_37 : decode cX7_count 37 = .ok (.ireturn, 1) := by decide +kernel
set_option maxRecDepth 20000 in
theorem dX7_count_38 : decode cX7_count 38 = .ok (.iconst 0, 1) := by decide +kernel
set_option maxRecDepth 20000 in
theorem dX7_count_39 : decode cX7_count 39 = .ok (.istore_n 3, 1) := by decide +kernel
set_option maxRecDepth 20000 in
theorem dX7_count_40 : decode cX7_count 40 = .ok (.iload_n 3, 1) := by decide +kernel
set_option maxRecDepth 20000 in
theorem dX7_count_41 : decode cX7_count 41 = .ok (.aload_n 0, 1) := by decide +kernel
set_option maxRecDepth 20000 in
theorem dX7_count_42 : decode cX7_count 42 = .ok (.getfield 7, 3) := by decide +kernel
set_option maxRecDepth 20000 in
theorem dX7_count_45 : decode cX7_count 45 = .ok (.if_icmp .ge 18, 3) := by decide +kernel
set_option maxRecDepth 20000 in
theorem dX7_count_48 : decode cX7_count 48 = .ok (.iload_n 2, 1) := by decide +kernel
set_option maxRecDepth 20000 in
theorem dX7_count_49 : decode cX7_count 49 = .ok (.aload_n 0, 1) := by decide +kernel
set_option maxRecDepth 20000 in
theorem dX7_count_50 : decode cX7_count 50 = .ok (.getfield 26, 3) := by decide +kernel
set_option maxRecDepth 20000 in
theorem dX7_count_53 : decode cX7_count 53 = .ok (.iload_n 3, 1) := by decide +kernel
set_option maxRecDepth 20000 in
theorem dX7_count_54 : decode cX7_count 54 = .ok (.iaload, 1) := by decide +kernel
set_option maxRecDepth 20000 in
theorem dX7_count_55 : decode cX7_count 55 = .ok (.iadd, 1) := by decide +kernel
set_option maxRecDepth 20000 in
theorem dX7_count_56 : decode cX7_count 56 = .ok (.istore_n 2, 1) := by decide +kernel
set_option maxRecDepth 20000 in
theorem dX7_count_57 : decode cX7_count 57 = .ok (.iinc 3 1, 3) := by decide +kernel
set_option maxRecDepth 20000 in
theorem dX7_count_60 : decode cX7_count 60 = .ok (.goto (-20), 3) := by decide +kernel
set_option maxRecDepth 20000 in
theorem dX7_count_63 : decode cX7_count 63 = .ok (.iload_n 2, 1) := by decide +kernel
set_option maxRecDepth 20000 in
theorem dX7_count_64 : decode cX7_count 64 = .ok (.ireturn, 1) := by decide +kernel
set_option maxRecDepth 20000 in
theorem dX7_count_65 : decode cX7_count 65 = .ok (.bipush (-2), 2) := by decide +kernel
set_option maxRecDepth 20000 in
theorem dX7_count_67 : decode cX7_count 67 = .ok (.ireturn, 1) := by decide +kernel
end
section
set_option maxRecDepth 20000 in
theorem dL_law_0 : decode cL_law 0 = .ok (.new 7, 3) := by decide +kernel
set_option maxRecDepth 20000 in
theorem dL_law_3 : decode cL_law 3 = .ok (.dup, 1) := by decide +kernel
set_option maxRecDepth 20000 in
theorem dL_law_4 : decode cL_law 4 = .ok (.invokespecial 9, 3) := by decide +kernel
set_option maxRecDepth 20000 in
theorem dL_law_7 : decode cL_law 7 = .ok (.astore_n 1, 1) := by decide +kernel
set_option maxRecDepth 20000 in
theorem dL_law_8 : decode cL_law 8 = .ok (.new 10, 3) := by decide +kernel
set_option maxRecDepth 20000 in
theorem dL_law_11 : decode cL_law 11 = .ok (.dup, 1) := by decide +kernel
set_option maxRecDepth 20000 in
theorem dL_law_12 : decode cL_law 12 = .ok (.invokespecial 12, 3) := by decide +kernel
set_option maxRecDepth 20000 in
theorem dL_law_15 : decode cL_law 15 = .ok (.astore_n 2, 1) := by decide +kernel
set_option maxRecDepth 20000 in
theorem dL_law_16 : decode cL_law 16 = .ok (.iconst 0, 1) := by decide +kernel
set_option maxRecDepth 20000 in
theorem dL_law_17 : decode cL_law 17 = .ok (.istore_n 3, 1) := by decide +kernel
set_option maxRecDepth 20000 in
theorem dL_law_18 : decode cL_law 18 = .ok (.iload_n 3, 1) := by decide +kernel
set_option maxRecDepth 20000 in
theorem dL_law_19 : decode cL_law 19 = .ok (.aload_n 0, 1) := by decide +kernel
set_option maxRecDepth 20000 in
theorem dL_law_20 : decode cL_law 20 = .ok (.arraylength, 1) := by decide +kernel
set_option maxRecDepth 20000 in
theorem dL_law_21 : decode cL_law 21 = .ok (.iconst 5, 1) := by decide +kernel
set_option maxRecDepth 20000 in
theorem dL_law_22 : decode cL_law 22 = .ok (.isub, 1) := by decide +kernel
set_option maxRecDepth 20000 in
theorem dL_law_23 : decode cL_law 23 = .ok (.if_icmp .gt 742, 3) := by decide +kernel
set_option maxRecDepth 20000 in
theorem dL_law_26 : decode cL_law 26 = .ok (.aload_n 0, 1) := by decide +kernel
set_option maxRecDepth 20000 in
theorem dL_law_27 : decode cL_law 27 = .ok (.iload_n 3, 1) := by decide +kernel
set_option maxRecDepth 20000 in
theorem dL_law_28 : decode cL_law 28 = .ok (.iaload, 1) := by decide +kernel
set_option maxRecDepth 20000 in
theorem dL_law_29 : decode cL_law 29 = .ok (.bipush 31, 2) := by decide +kernel
set_option maxRecDepth 20000 in
theorem dL_law_31 : decode cL_law 31 = .ok (.iand, 1) := by decide +kernel
set_option maxRecDepth 20000 in
theorem dL_law_32 : decode cL_law 32 = .ok (.tableswitch 727 0 20 #[100, 123, 216, 239, 272, 295, 318, 341, 354, 377, 411, 445, 518, 542, 555, 568, 591, 624, 647, 680, 704], 100) := by decide +kernel
set_option maxRecDepth 20000 in
theorem dL_law_132 : decode cL_law 132 = .ok (.aload_n 1, 1) := by decide +kernel
set_option maxRecDepth 20000 in
theorem dL_law_133 : decode cL_law 133 = .ok (.aload_n 0, 1) := by decide +kernel
set_option maxRecDepth 20000 in
theorem dL_law_134 : decode cL_law 134 = .ok (.iload_n 3, 1) := by decide +kernel
set_option maxRecDepth 20000 in
theorem dL_law_135 : decode cL_law 135 = .ok (.iconst 1, 1) := by decide +kernel
set_option maxRecDepth 20000 in
theorem dL_law_136 : decode cL_law 136 = .ok (.iadd, 1) := by decide +kernel
set_option maxRecDepth 20000 in
theorem dL_law_137 : decode cL_law 137 = .ok (.iaload, 1) := by decide +kernel
set_option maxRecDepth 20000 in
theorem dL_law_138 : decode cL_law 138 = .ok (.invokevirtual 13, 3) := by decide +kernel
set_option maxRecDepth 20000 in
theorem dL_law_141 : decode cL_law 141 = .ok (.aload_n 2, 1) := by decide +kernel
set_option maxRecDepth 20000 in
theorem dL_law_142 : decode cL_law 142 = .ok (.aload_n 0, 1) := by decide +kernel
set_option maxRecDepth 20000 in
theorem dL_law_143 : decode cL_law 143 = .ok (.iload_n 3, 1) := by decide +kernel
set_option maxRecDepth 20000 in
theorem dL_law_144 : decode cL_law 144 = .ok (.iconst 1, 1) := by decide +kernel
set_option maxRecDepth 20000 in
theorem dL_law_145 : decode cL_law 145 = .ok (.iadd, 1) := by decide +kernel
set_option maxRecDepth 20000 in
theorem dL_law_146 : decode cL_law 146 = .ok (.iaload, 1) := by decide +kernel
set_option maxRecDepth 20000 in
theorem dL_law_147 : decode cL_law 147 = .ok (.invokevirtual 17, 3) := by decide +kernel
set_option maxRecDepth 20000 in
theorem dL_law_150 : decode cL_law 150 = .ok (.if_icmp .eq 609, 3) := by decide +kernel
set_option maxRecDepth 20000 in
theorem dL_law_153 : decode cL_law 153 = .ok (.iconst 0, 1) := by decide +kernel
set_option maxRecDepth 20000 in
theorem dL_law_154 : decode cL_law 154 = .ok (.ireturn, 1) := by decide +kernel
set_option maxRecDepth 20000 in
theorem dL_law_155 : decode cL_law 155 = .ok (.aload_n 1, 1) := by decide +kernel
set_option maxRecDepth 20000 in
theorem dL_law_156 : decode cL_law 156 = .ok (.aload_n 0, 1) := by decide +kernel
set_option maxRecDepth 20000 in
theorem dL_law_157 : decode cL_law 157 = .ok (.iload_n 3, 1) := by decide +kernel
set_option maxRecDepth 20000 in
theorem dL_law_158 : decode cL_law 158 = .ok (.iconst 1, 1) := by decide +kernel
set_option maxRecDepth 20000 in
theorem dL_law_159 : decode cL_law 159 = .ok (.iadd, 1) := by decide +kernel
set_option maxRecDepth 20000 in
theorem dL_law_160 : decode cL_law 160 = .ok (.iaload, 1) := by decide +kernel
set_option maxRecDepth 20000 in
theorem dL_law_161 : decode cL_law 161 = .ok (.i2l, 1) := by decide +kernel
set_option maxRecDepth 20000 in
theorem dL_law_162 : decode cL_law 162 = .ok (.bipush 32, 2) := by decide +kernel
set_option maxRecDepth 20000 in
theorem dL_law_164 : decode cL_law 164 = .ok (.lshl, 1) := by decide +kernel
set_option maxRecDepth 20000 in
theorem dL_law_165 : decode cL_law 165 = .ok (.aload_n 0, 1) := by decide +kernel
set_option maxRecDepth 20000 in
theorem dL_law_166 : decode cL_law 166 = .ok (.iload_n 3, 1) := by decide +kernel
set_option maxRecDepth 20000 in
theorem dL_law_167 : decode cL_law 167 = .ok (.iconst 2, 1) := by decide +kernel
set_option maxRecDepth 20000 in
theorem dL_law_168 : decode cL_law 168 = .ok (.iadd, 1) := by decide +kernel
set_option maxRecDepth 20000 in
theorem dL_law_169 : decode cL_law 169 = .ok (.iaload, 1) := by decide +kernel
set_option maxRecDepth 20000 in
theorem dL_law_170 : decode cL_law 170 = .ok (.i2l, 1) := by decide +kernel
set_option maxRecDepth 20000 in
theorem dL_law_171 : decode cL_law 171 = .ok (.ldc2_w 18, 3) := by decide +kernel
set_option maxRecDepth 20000 in
theorem dL_law_174 : decode cL_law 174 = .ok (.land, 1) := by decide +kernel
set_option maxRecDepth 20000 in
theorem dL_law_175 : decode cL_law 175 = .ok (.lor, 1) := by decide +kernel
set_option maxRecDepth 20000 in
theorem dL_law_176 : decode cL_law 176 = .ok (.aload_n 0, 1) := by decide +kernel
set_option maxRecDepth 20000 in
theorem dL_law_177 : decode cL_law 177 = .ok (.iload_n 3, 1) := by decide +kernel
set_option maxRecDepth 20000 in
theorem dL_law_178 : decode cL_law 178 = .ok (.iconst 3, 1) := by decide +kernel
set_option maxRecDepth 20000 in
theorem dL_law_179 : decode cL_law 179 = .ok (.iadd, 1) := by decide +kernel
set_option maxRecDepth 20000 in
theorem dL_law_180 : decode cL_law 180 = .ok (.iaload, 1) := by decide +kernel
set_option maxRecDepth 20000 in
theorem dL_law_181 : decode cL_law 181 = .ok (.i2l, 1) := by decide +kernel
set_option maxRecDepth 20000 in
theorem dL_law_182 : decode cL_law 182 = .ok (.bipush 32, 2) := by decide +kernel
set_option maxRecDepth 20000 in
theorem dL_law_184 : decode cL_law 184 = .ok (.lshl, 1) := by decide +kernel
set_option maxRecDepth 20000 in
theorem dL_law_185 : decode cL_law 185 = .ok (.aload_n 0, 1) := by decide +kernel
set_option maxRecDepth 20000 in
theorem dL_law_186 : decode cL_law 186 = .ok (.iload_n 3, 1) := by decide +kernel
set_option maxRecDepth 20000 in
theorem dL_law_187 : decode cL_law 187 = .ok (.iconst 4, 1) := by decide +kernel
set_option maxRecDepth 20000 in
theorem dL_law_188 : decode cL_law 188 = .ok (.iadd, 1) := by decide +kernel
set_option maxRecDepth 20000 in
theorem dL_law_189 : decode cL_law 189 = .ok (.iaload, 1) := by decide +kernel
set_option maxRecDepth 20000 in
theorem dL_law_190 : decode cL_law 190 = .ok (.i2l, 1) := by decide +kernel
set_option maxRecDepth 20000 in
theorem dL_law_191 : decode cL_law 191 = .ok (.ldc2_w 18, 3) := by decide +kernel
set_option maxRecDepth 20000 in
theorem dL_law_194 : decode cL_law 194 = .ok (.land, 1) := by decide +kernel
set_option maxRecDepth 20000 in
theorem dL_law_195 : decode cL_law 195 = .ok (.lor, 1) := by decide +kernel
set_option maxRecDepth 20000 in
theorem dL_law_196 : decode cL_law 196 = .ok (.invokevirtual 20, 3) := by decide +kernel
set_option maxRecDepth 20000 in
theorem dL_law_199 : decode cL_law 199 = .ok (.aload_n 2, 1) := by decide +kernel
set_option maxRecDepth 20000 in
theorem dL_law_200 : decode cL_law 200 = .ok (.aload_n 0, 1) := by decide +kernel
set_option maxRecDepth 20000 in
theorem dL_law_201 : decode cL_law 201 = .ok (.iload_n 3, 1) := by decide +kernel
set_option maxRecDepth 20000 in
theorem dL_law_202 : decode cL_law 202 = .ok (.iconst 1, 1) := by decide +kernel
set_option maxRecDepth 20000 in
theorem dL_law_203 : decode cL_law 203 = .ok (.iadd, 1) := by decide +kernel
set_option maxRecDepth 20000 in
theorem dL_law_204 : decode cL_law 204 = .ok (.iaload, 1) := by decide +kernel
set_option maxRecDepth 20000 in
theorem dL_law_205 : decode cL_law 205 = .ok (.i2l, 1) := by decide +kernel
set_option maxRecDepth 20000 in
theorem dL_law_206 : decode cL_law 206 = .ok (.bipush 32, 2) := by decide +kernel
set_option maxRecDepth 20000 in
theorem dL_law_208 : decode cL_law 208 = .ok (.lshl, 1) := by decide +kernel
set_option maxRecDepth 20000 in
theorem dL_law_209 : decode cL_law 209 = .ok (.aload_n 0, 1) := by decide +kernel
set_option maxRecDepth 20000 in
theorem dL_law_210 : decode cL_law 210 = .ok (.iload_n 3, 1) := by decide +kernel
set_option maxRecDepth 20000 in
theorem dL_law_211 : decode cL_law 211 = .ok (.iconst 2, 1) := by decide +kernel
set_option maxRecDepth 20000 in
theorem dL_law_212 : decode cL_law 212 = .ok (.iadd, 1) := by decide +kernel
set_option maxRecDepth 20000 in
theorem dL_law_213 : decode cL_law 213 = .ok (.iaload, 1) := by decide +kernel
set_option maxRecDepth 20000 in
theorem dL_law_214 : decode cL_law 214 = .ok (.i2l, 1) := by decide +kernel
set_option maxRecDepth 20000 in
theorem dL_law_215 : decode cL_law 215 = .ok (.ldc2_w 18, 3) := by decide +kernel
set_option maxRecDepth 20000 in
theorem dL_law_218 : decode cL_law 218 = .ok (.land, 1) := by decide +kernel
set_option maxRecDepth 20000 in
theorem dL_law_219 : decode cL_law 219 = .ok (.lor, 1) := by decide +kernel
set_option maxRecDepth 20000 in
theorem dL_law_220 : decode cL_law 220 = .ok (.aload_n 0, 1) := by decide +kernel
set_option maxRecDepth 20000 in
theorem dL_law_221 : decode cL_law 221 = .ok (.iload_n 3, 1) := by decide +kernel
set_option maxRecDepth 20000 in
theorem dL_law_222 : decode cL_law 222 = .ok (.iconst 3, 1) := by decide +kernel
set_option maxRecDepth 20000 in
theorem dL_law_223 : decode cL_law 223 = .ok (.iadd, 1) := by decide +kernel
set_option maxRecDepth 20000 in
theorem dL_law_224 : decode cL_law 224 = .ok (.iaload, 1) := by decide +kernel
set_option maxRecDepth 20000 in
theorem dL_law_225 : decode cL_law 225 = .ok (.i2l, 1) := by decide +kernel
set_option maxRecDepth 20000 in
theorem dL_law_226 : decode cL_law 226 = .ok (.bipush 32, 2) := by decide +kernel
set_option maxRecDepth 20000 in
theorem dL_law_228 : decode cL_law 228 = .ok (.lshl, 1) := by decide +kernel
set_option maxRecDepth 20000 in
theorem dL_law_229 : decode cL_law 229 = .ok (.aload_n 0, 1) := by decide +kernel
set_option maxRecDepth 20000 in
theorem dL_law_230 : decode cL_law 230 = .ok (.iload_n 3, 1) := by decide +kernel
set_option maxRecDepth 20000 in
theorem dL_law_231 : decode cL_law 231 = .ok (.iconst 4, 1) := by decide +kernel
set_option maxRecDepth 20000 in
theorem dL_law_232 : decode cL_law 232 = .ok (.iadd, 1) := by decide +kernel
set_option maxRecDepth 20000 in
theorem dL_law_233 : decode cL_law 233 = .ok (.iaload, 1) := by decide +kernel
set_option maxRecDepth 20000 in
theorem dL_law_234 : decode cL_law 234 = .ok (.i2l, 1) := by decide +kernel
set_option maxRecDepth 20000 in
theorem dL_law_235 : decode cL_law 235 = .ok (.ldc2_w 18, 3) := by decide +kernel
set_option maxRecDepth 20000 in
theorem dL_law_238 : decode cL_law 238 = .ok (.land, 1) := by decide +kernel
set_option maxRecDepth 20000 in
theorem dL_law_239 : decode cL_law 239 = .ok (.lor, 1) := by decide +kernel
set_option maxRecDepth 20000 in
theorem dL_law_240 : decode cL_law 240 = .ok (.invokevirtual 24, 3) := by decide +kernel
set_option maxRecDepth 20000 in
theorem dL_law_243 : decode cL_law 243 = .ok (.if_icmp .eq 516, 3) := by decide +kernel
set_option maxRecDepth 20000 in
theorem dL_law_246 : decode cL_law 246 = .ok (.iconst 0, 1) := by decide +kernel
set_option maxRecDepth 20000 in
theorem dL_law_247 : decode cL_law 247 = .ok (.ireturn, 1) := by decide +kernel
set_option maxRecDepth 20000 in
theorem dL_law_248 : decode cL_law 248 = .ok (.aload_n 1, 1) := by decide +kernel
set_option maxRecDepth 20000 in
theorem dL_law_249 : decode cL_law 249 = .ok (.aload_n 0, 1) := by decide +kernel
set_option maxRecDepth 20000 in
theorem dL_law_250 : decode cL_law 250 = .ok (.iload_n 3, 1) := by decide +kernel
set_option maxRecDepth 20000 in
theorem dL_law_251 : decode cL_law 251 = .ok (.iconst 1, 1) := by decide +kernel
set_option maxRecDepth 20000 in
theorem dL_law_252 : decode cL_law 252 = .ok (.iadd, 1) := by decide +kernel
set_option maxRecDepth 20000 in
theorem dL_law_253 : decode cL_law 253 = .ok (.iaload, 1) := by decide +kernel
set_option maxRecDepth 20000 in
theorem dL_law_254 : decode cL_law 254 = .ok (.invokevirtual 25, 3) := by decide +kernel
set_option maxRecDepth 20000 in
theorem dL_law_257 : decode cL_law 257 = .ok (.aload_n 2, 1) := by decide +kernel
set_option maxRecDepth 20000 in
theorem dL_law_258 : decode cL_law 258 = .ok (.aload_n 0, 1) := by decide +kernel
set_option maxRecDepth 20000 in
theorem dL_law_259 : decode cL_law 259 = .ok (.iload_n 3, 1) := by decide +kernel
set_option maxRecDepth 20000 in
theorem dL_law_260 : decode cL_law 260 = .ok (.iconst 1, 1) := by decide +kernel
set_option maxRecDepth 20000 in
theorem dL_law_261 : decode cL_law 261 = .ok (.iadd, 1) := by decide +kernel
set_option maxRecDepth 20000 in
theorem dL_law_262 : decode cL_law 262 = .ok (.iaload, 1) := by decide +kernel
set_option maxRecDepth 20000 in
theorem dL_law_263 : decode cL_law 263 = .ok (.invokevirtual 28, 3) := by decide +kernel
set_option maxRecDepth 20000 in
theorem dL_law_266 : decode cL_law 266 = .ok (.if_icmp .eq 493, 3) := by decide +kernel
set_option maxRecDepth 20000 in
theorem dL_law_269 : decode cL_law 269 = .ok (.iconst 0, 1) := by decide +kernel
set_option maxRecDepth 20000 in
theorem dL_law_270 : decode cL_law 270 = .ok (.ireturn, 1) := by decide +kernel
set_option maxRecDepth 20000 in
theorem dL_law_271 : decode cL_law 271 = .ok (.aload_n 1, 1) := by decide +kernel
set_option maxRecDepth 20000 in
theorem dL_law_272 : decode cL_law 272 = .ok (.aload_n 0, 1) := by decide +kernel
set_option maxRecDepth 20000 in
theorem dL_law_273 : decode cL_law 273 = .ok (.iload_n 3, 1) := by decide +kernel
set_option maxRecDepth 20000 in
theorem dL_law_274 : decode cL_law 274 = .ok (.iconst 1, 1) := by decide +kernel
set_option maxRecDepth 20000 in
theorem dL_law_275 : decode cL_law 275 = .ok (.iadd, 1) := by decide +kernel
set_option maxRecDepth 20000 in
theorem dL_law_276 : decode cL_law 276 = .ok (.iaload, 1) := by decide +kernel
set_option maxRecDepth 20000 in
theorem dL_law_277 : decode cL_law 277 = .ok (.aload_n 0, 1) := by decide +kernel
set_option maxRecDepth 20000 in
theorem dL_law_278 : decode cL_law 278 = .ok (.iload_n 3, 1) := by decide +kernel
set_option maxRecDepth 20000 in
theorem dL_law_279 : decode cL_law 279 = .ok (.iconst 2, 1) := by decide +kernel
set_option maxRecDepth 20000 in
theorem dL_law_280 : decode cL_law 280 = .ok (.iadd, 1) := by decide +kernel
set_option maxRecDepth 20000 in
theorem dL_law_281 : decode cL_law 281 = .ok (.iaload, 1) := by decide +kernel
set_option maxRecDepth 20000 in
theorem dL_law_282 : decode cL_law 282 = .ok (.invokevirtual 29, 3) := by decide +kernel
set_option maxRecDepth 20000 in
theorem dL_law_285 : decode cL_law 285 = .ok (.aload_n 2, 1) := by decide +kernel
set_option maxRecDepth 20000 in
theorem dL_law_286 : decode cL_law 286 = .ok (.aload_n 0, 1) := by decide +kernel
set_option maxRecDepth 20000 in
theorem dL_law_287 : decode cL_law 287 = .ok (.iload_n 3, 1) := by decide +kernel
set_option maxRecDepth 20000 in
theorem dL_law_288 : decode cL_law 288 = .ok (.iconst 1, 1) := by decide +kernel
set_option maxRecDepth 20000 in
theorem dL_law_289 : decode cL_law 289 = .ok (.iadd, 1) := by decide +kernel
set_option maxRecDepth 20000 in
theorem dL_law_290 : decode cL_law 290 = .ok (.iaload, 1) := by decide +kernel
set_option maxRecDepth 20000 in
theorem dL_law_291 : decode cL_law 291 = .ok (.aload_n 0, 1) := by decide +kernel
set_option maxRecDepth 20000 in
theorem dL_law_292 : decode cL_law 292 = .ok (.iload_n 3, 1) := by decide +kernel
set_option maxRecDepth 20000 in
theorem dL_law_293 : decode cL_law 293 = .ok (.iconst 2, 1) := by decide +kernel
set_option maxRecDepth 20000 in
theorem dL_law_294 : decode cL_law 294 = .ok (.iadd, 1) := by decide +kernel
set_option maxRecDepth 20000 in
theorem dL_law_295 : decode cL_law 295 = .ok (.iaload, 1) := by decide +kernel
set_option maxRecDepth 20000 in
theorem dL_law_296 : decode cL_law 296 = .ok (.invokevirtual 33, 3) := by decide +kernel
set_option maxRecDepth 20000 in
theorem dL_law_299 : decode cL_law 299 = .ok (.if_icmp .eq 460, 3) := by decide +kernel
set_option maxRecDepth 20000 in
theorem dL_law_302 : decode cL_law 302 = .ok (.iconst 0, 1) := by decide +kernel
set_option maxRecDepth 20000 in
theorem dL_law_303 : decode cL_law 303 = .ok (.ireturn, 1) := by decide +kernel
set_option maxRecDepth 20000 in
theorem dL_law_304 : decode cL_law 304 = .ok (.aload_n 1, 1) := by decide +kernel
set_option maxRecDepth 20000 in
theorem dL_law_305 : decode cL_law 305 = .ok (.aload_n 0, 1) := by decide +kernel
set_option maxRecDepth 20000 in
theorem dL_law_306 : decode cL_law 306 = .ok (.iload_n 3, 1) := by decide +kernel
set_option maxRecDepth 20000 in
theorem dL_law_307 : decode cL_law 307 = .ok (.iconst 1, 1) := by decide +kernel
set_option maxRecDepth 20000 in
theorem dL_law_308 : decode cL_law 308 = .ok (.iadd, 1) := by decide +kernel
set_option maxRecDepth 20000 in
theorem dL_law_309 : decode cL_law 309 = .ok (.iaload, 1) := by decide +kernel
set_option maxRecDepth 20000 in
theorem dL_law_310 : decode cL_law 310 = .ok (.invokevirtual 34, 3) := by decide +kernel
set_option maxRecDepth 20000 in
theorem dL_law_313 : decode cL_law 313 = .ok (.aload_n 2, 1) := by decide +kernel
set_option maxRecDepth 20000 in
theorem dL_law_314 : decode cL_law 314 = .ok (.aload_n 0, 1) := by decide +kernel
set_option maxRecDepth 20000 in
theorem dL_law_315 : decode cL_law 315 = .ok (.iload_n 3, 1) := by decide +kernel
set_option maxRecDepth 20000 in
theorem dL_law_316 : decode cL_law 316 = .ok (.iconst 1, 1) := by decide +kernel
set_option maxRecDepth 20000 in
theorem dL_law_317 : decode cL_law 317 = .ok (.iadd, 1) := by decide +kernel
set_option maxRecDepth 20000 in
theorem dL_law_318 : decode cL_law 318 = .ok (.iaload, 1) := by decide +kernel
set_option maxRecDepth 20000 in
theorem dL_law_319 : decode cL_law 319 = .ok (.invokevirtual 37, 3) := by decide +kernel
set_option maxRecDepth 20000 in
theorem dL_law_322 : decode cL_law 322 = .ok (.if_icmp .eq 437, 3) := by decide +kernel
set_option maxRecDepth 20000 in
theorem dL_law_325 : decode cL_law 325 = .ok (.iconst 0, 1) := by decide +kernel
set_option maxRecDepth 20000 in
theorem dL_law_326 : decode cL_law 326 = .ok (.ireturn, 1) := by decide +kernel
set_option maxRecDepth 20000 in
theorem dL_law_327 : decode cL_law 327 = .ok (.aload_n 1, 1) := by decide +kernel
set_option maxRecDepth 20000 in
theorem dL_law_328 : decode cL_law 328 = .ok (.aload_n 0, 1) := by decide +kernel
set_option maxRecDepth 20000 in
theorem dL_law_329 : decode cL_law 329 = .ok (.iload_n 3, 1) := by decide +kernel
set_option maxRecDepth 20000 in
theorem dL_law_330 : decode cL_law 330 = .ok (.iconst 1, 1) := by decide +kernel
set_option maxRecDepth 20000 in
theorem dL_law_331 : decode cL_law 331 = .ok (.iadd, 1) := by decide +kernel
set_option maxRecDepth 20000 in
theorem dL_law_332 : decode cL_law 332 = .ok (.iaload, 1) := by decide +kernel
set_option maxRecDepth 20000 in
theorem dL_law_333 : decode cL_law 333 = .ok (.invokevirtual 38, 3) := by decide +kernel
set_option maxRecDepth 20000 in
theorem dL_law_336 : decode cL_law 336 = .ok (.aload_n 2, 1) := by decide +kernel
set_option maxRecDepth 20000 in
theorem dL_law_337 : decode cL_law 337 = .ok (.aload_n 0, 1) := by decide +kernel
set_option maxRecDepth 20000 in
theorem dL_law_338 : decode cL_law 338 = .ok (.iload_n 3, 1) := by decide +kernel
set_option maxRecDepth 20000 in
theorem dL_law_339 : decode cL_law 339 = .ok (.iconst 1, 1) := by decide +kernel
set_option maxRecDepth 20000 in
theorem dL_law_340 : decode cL_law 340 = .ok (.iadd, 1) := by decide +kernel
set_option maxRecDepth 20000 in
theorem dL_law_341 : decode cL_law 341 = .ok (.iaload, 1) := by decide +kernel
set_option maxRecDepth 20000 in
theorem dL_law_342 : decode cL_law 342 = .ok (.invokevirtual 41, 3) := by decide +kernel
set_option maxRecDepth 20000 in
theorem dL_law_345 : decode cL_law 345 = .ok (.if_icmp .eq 414, 3) := by decide +kernel
set_option maxRecDepth 20000 in
theorem dL_law_348 : decode cL_law 348 = .ok (.iconst 0, 1) := by decide +kernel
set_option maxRecDepth 20000 in
theorem dL_law_349 : decode cL_law 349 = .ok (.ireturn, 1) := by decide +kernel
set_option maxRecDepth 20000 in
theorem dL_law_350 : decode cL_law 350 = .ok (.aload_n 1, 1) := by decide +kernel
set_option maxRecDepth 20000 in
theorem dL_law_351 : decode cL_law 351 = .ok (.aload_n 0, 1) := by decide +kernel
set_option maxRecDepth 20000 in
theorem dL_law_352 : decode cL_law 352 = .ok (.iload_n 3, 1) := by decide +kernel
set_option maxRecDepth 20000 in
theorem dL_law_353 : decode cL_law 353 = .ok (.iconst 1, 1) := by decide +kernel
set_option maxRecDepth 20000 in
theorem dL_law_354 : decode cL_law 354 = .ok (.iadd, 1) := by decide +kernel
set_option maxRecDepth 20000 in
theorem dL_law_355 : decode cL_law 355 = .ok (.iaload, 1) := by decide +kernel
set_option maxRecDepth 20000 in
theorem dL_law_356 : decode cL_law 356 = .ok (.invokevirtual 42, 3) := by decide +kernel
set_option maxRecDepth 20000 in
theorem dL_law_359 : decode cL_law 359 = .ok (.aload_n 2, 1) := by decide +kernel
set_option maxRecDepth 20000 in
theorem dL_law_360 : decode cL_law 360 = .ok (.aload_n 0, 1) := by decide +kernel
set_option maxRecDepth 20000 in
theorem dL_law_361 : decode cL_law 361 = .ok (.iload_n 3, 1) := by decide +kernel
set_option maxRecDepth 20000 in
theorem dL_law_362 : decode cL_law 362 = .ok (.iconst 1, 1) := by decide +kernel
set_option maxRecDepth 20000 in
theorem dL_law_363 : decode cL_law 363 = .ok (.iadd, 1) := by decide +kernel
set_option maxRecDepth 20000 in
theorem dL_law_364 : decode cL_law 364 = .ok (.iaload, 1) := by decide +kernel
set_option maxRecDepth 20000 in
theorem dL_law_365 : decode cL_law 365 = .ok (.invokevirtual 45, 3) := by decide +kernel
set_option maxRecDepth 20000 in
theorem dL_law_368 : decode cL_law 368 = .ok (.if_icmp .eq 391, 3) := by decide +kernel
set_option maxRecDepth 20000 in
theorem dL_law_371 : decode cL_law 371 = .ok (.iconst 0, 1) := by decide +kernel
set_option maxRecDepth 20000 in
theorem dL_law_372 : decode cL_law 372 = .ok (.ireturn, 1) := by decide +kernel
set_option maxRecDepth 20000 in
theorem dL_law_373 : decode cL_law 373 = .ok (.aload_n 1, 1) := by decide +kernel
set_option maxRecDepth 20000 in
theorem dL_law_374 : decode cL_law 374 = .ok (.invokevirtual 46, 3) := by decide +kernel
set_option maxRecDepth 20000 in
theorem dL_law_377 : decode cL_law 377 = .ok (.aload_n 2, 1) := by decide +kernel
set_option maxRecDepth 20000 in
theorem dL_law_378 : decode cL_law 378 = .ok (.invokevirtual 50, 3) := by decide +kernel
set_option maxRecDepth 20000 in
theorem dL_law_381 : decode cL_law 381 = .ok (.if_icmp .eq 378, 3) := by decide +kernel
set_option maxRecDepth 20000 in
theorem dL_law_384 : decode cL_law 384 = .ok (.iconst 0, 1) := by decide +kernel
set_option maxRecDepth 20000 in
theorem dL_law_385 : decode cL_law 385 = .ok (.ireturn, 1) := by decide +kernel
set_option maxRecDepth 20000 in
theorem dL_law_386 : decode cL_law 386 = .ok (.aload_n 1, 1) := by decide +kernel
set_option maxRecDepth 20000 in
theorem dL_law_387 : decode cL_law 387 = .ok (.aload_n 0, 1) := by decide +kernel
set_option maxRecDepth 20000 in
theorem dL_law_388 : decode cL_law 388 = .ok (.iload_n 3, 1) := by decide +kernel
set_option maxRecDepth 20000 in
theorem dL_law_389 : decode cL_law 389 = .ok (.iconst 1, 1) := by decide +kernel
set_option maxRecDepth 20000 in
theorem dL_law_390 : decode cL_law 390 = .ok (.iadd, 1) := by decide +kernel
set_option maxRecDepth 20000 in
theorem dL_law_391 : decode cL_law 391 = .ok (.iaload, 1) := by decide +kernel
set_option maxRecDepth 20000 in
theorem dL_law_392 : decode cL_law 392 = .ok (.invokevirtual 51, 3) := by decide +kernel
set_option maxRecDepth 20000 in
theorem dL_law_395 : decode cL_law 395 = .ok (.aload_n 2, 1) := by decide +kernel
set_option maxRecDepth 20000 in
theorem dL_law_396 : decode cL_law 396 = .ok (.aload_n 0, 1) := by decide +kernel
set_option maxRecDepth 20000 in
theorem dL_law_397 : decode cL_law 397 = .ok (.iload_n 3, 1) := by decide +kernel
set_option maxRecDepth 20000 in
theorem dL_law_398 : decode cL_law 398 = .ok (.iconst 1, 1) := by decide +kernel
set_option maxRecDepth 20000 in
theorem dL_law_399 : decode cL_law 399 = .ok (.iadd, 1) := by decide +kernel
set_option maxRecDepth 20000 in
theorem dL_law_400 : decode cL_law 400 = .ok (.iaload, 1) := by decide +kernel
set_option maxRecDepth 20000 in
theorem dL_law_401 : decode cL_law 401 = .ok (.invokevirtual 54, 3) := by decide +kernel
set_option maxRecDepth 20000 in
theorem dL_law_404 : decode cL_law 404 = .ok (.if_icmp .eq 355, 3) := by decide +kernel
set_option maxRecDepth 20000 in
theorem dL_law_407 : decode cL_law 407 = .ok (.iconst 0, 1) := by decide +kernel
set_option maxRecDepth 20000 in
theorem dL_law_408 : decode cL_law 408 = .ok (.ireturn, 1) := by decide +kernel
set_option maxRecDepth 20000 in
theorem dL_law_409 : decode cL_law 409 = .ok (.aload_n 1, 1) := by decide +kernel
set_option maxRecDepth 20000 in
theorem dL_law_410 : decode cL_law 410 = .ok (.aload_n 0, 1) := by decide +kernel
set_option maxRecDepth 20000 in
theorem dL_law_411 : decode cL_law 411 = .ok (.iload_n 3, 1) := by decide +kernel
set_option maxRecDepth 20000 in
theorem dL_law_412 : decode cL_law 412 = .ok (.iconst 1, 1) := by decide +kernel
set_option maxRecDepth 20000 in
theorem dL_law_413 : decode cL_law 413 = .ok (.iadd, 1) := by decide +kernel
set_option maxRecDepth 20000 in
theorem dL_law_414 : decode cL_law 414 = .ok (.iaload, 1) := by decide +kernel
set_option maxRecDepth 20000 in
theorem dL_law_415 : decode cL_law 415 = .ok (.aload_n 0, 1) := by decide +kernel
set_option maxRecDepth 20000 in
theorem dL_law_416 : decode cL_law 416 = .ok (.iload_n 3, 1) := by decide +kernel
set_option maxRecDepth 20000 in
theorem dL_law_417 : decode cL_law 417 = .ok (.iconst 2, 1) := by decide +kernel
set_option maxRecDepth 20000 in
theorem dL_law_418 : decode cL_law 418 = .ok (.iadd, 1) := by decide +kernel
set_option maxRecDepth 20000 in
theorem dL_law_419 : decode cL_law 419 = .ok (.iaload, 1) := by decide +kernel
set_option maxRecDepth 20000 in
theorem dL_law_420 : decode cL_law 420 = .ok (.invokevirtual 55, 3) := by decide +kernel
set_option maxRecDepth 20000 in
theorem dL_law_423 : decode cL_law 423 = .ok (.aload_n 2, 1) := by decide +kernel
set_option maxRecDepth 20000 in
theorem dL_law_424 : decode cL_law 424 = .ok (.aload_n 0, 1) := by decide +kernel
set_option maxRecDepth 20000 in
theorem dL_law_425 : decode cL_law 425 = .ok (.iload_n 3, 1) := by decide +kernel
set_option maxRecDepth 20000 in
theorem dL_law_426 : decode cL_law 426 = .ok (.iconst 1, 1) := by decide +kernel
set_option maxRecDepth 20000 in
theorem dL_law_427 : decode cL_law 427 = .ok (.iadd, 1) := by decide +kernel
set_option maxRecDepth 20000 in
theorem dL_law_428 : decode cL_law 428 = .ok (.iaload, 1) := by decide +kernel
set_option maxRecDepth 20000 in
theorem dL_law_429 : decode cL_law 429 = .ok (.aload_n 0, 1) := by decide +kernel
set_option maxRecDepth 20000 in
theorem dL_law_430 : decode cL_law 430 = .ok (.iload_n 3, 1) := by decide +kernel
set_option maxRecDepth 20000 in
theorem dL_law_431 : decode cL_law 431 = .ok (.iconst 2, 1) := by decide +kernel
set_option maxRecDepth 20000 in
theorem dL_law_432 : decode cL_law 432 = .ok (.iadd, 1) := by decide +kernel
set_option maxRecDepth 20000 in
theorem dL_law_433 : decode cL_law 433 = .ok (.iaload, 1) := by decide +kernel
set_option maxRecDepth 20000 in
theorem dL_law_434 : decode cL_law 434 = .ok (.invokevirtual 59, 3) := by decide +kernel
set_option maxRecDepth 20000 in
theorem dL_law_437 : decode cL_law 437 = .ok (.lcmp, 1) := by decide +kernel
set_option maxRecDepth 20000 in
theorem dL_law_438 : decode cL_law 438 = .ok (.ifCond .eq 321, 3) := by decide +kernel
set_option maxRecDepth 20000 in
theorem dL_law_441 : decode cL_law 441 = .ok (.iconst 0, 1) := by decide +kernel
set_option maxRecDepth 20000 in
theorem dL_law_442 : decode cL_law 442 = .ok (.ireturn, 1) := by decide +kernel
set_option maxRecDepth 20000 in
theorem dL_law_443 : decode cL_law 443 = .ok (.aload_n 1, 1) := by decide +kernel
set_option maxRecDepth 20000 in
theorem dL_law_444 : decode cL_law 444 = .ok (.aload_n 0, 1) := by decide +kernel
set_option maxRecDepth 20000 in
theorem dL_law_445 : decode cL_law 445 = .ok (.iload_n 3, 1) := by decide +kernel
set_option maxRecDepth 20000 in
theorem dL_law_446 : decode cL_law 446 = .ok (.iconst 1, 1) := by decide +kernel
set_option maxRecDepth 20000 in
theorem dL_law_447 : decode cL_law 447 = .ok (.iadd, 1) := by decide +kernel
set_option maxRecDepth 20000 in
theorem dL_law_448 : decode cL_law 448 = .ok (.iaload, 1) := by decide +kernel
set_option maxRecDepth 20000 in
theorem dL_law_449 : decode cL_law 449 = .ok (.aload_n 0, 1) := by decide +kernel
set_option maxRecDepth 20000 in
theorem dL_law_450 : decode cL_law 450 = .ok (.iload_n 3, 1) := by decide +kernel
set_option maxRecDepth 20000 in
theorem dL_law_451 : decode cL_law 451 = .ok (.iconst 2, 1) := by decide +kernel
set_option maxRecDepth 20000 in
theorem dL_law_452 : decode cL_law 452 = .ok (.iadd, 1) := by decide +kernel
set_option maxRecDepth 20000 in
theorem dL_law_453 : decode cL_law 453 = .ok (.iaload, 1) := by decide +kernel
set_option maxRecDepth 20000 in
theorem dL_law_454 : decode cL_law 454 = .ok (.invokevirtual 60, 3) := by decide +kernel
set_option maxRecDepth 20000 in
theorem dL_law_457 : decode cL_law 457 = .ok (.aload_n 2, 1) := by decide +kernel
set_option maxRecDepth 20000 in
theorem dL_law_458 : decode cL_law 458 = .ok (.aload_n 0, 1) := by decide +kernel
set_option maxRecDepth 20000 in
theorem dL_law_459 : decode cL_law 459 = .ok (.iload_n 3, 1) := by decide +kernel
set_option maxRecDepth 20000 in
theorem dL_law_460 : decode cL_law 460 = .ok (.iconst 1, 1) := by decide +kernel
set_option maxRecDepth 20000 in
theorem dL_law_461 : decode cL_law 461 = .ok (.iadd, 1) := by decide +kernel
set_option maxRecDepth 20000 in
theorem dL_law_462 : decode cL_law 462 = .ok (.iaload, 1) := by decide +kernel
set_option maxRecDepth 20000 in
theorem dL_law_463 : decode cL_law 463 = .ok (.aload_n 0, 1) := by decide +kernel
set_option maxRecDepth 20000 in
theorem dL_law_464 : decode cL_law 464 = .ok (.iload_n 3, 1) := by decide +kernel
set_option maxRecDepth 20000 in
theorem dL_law_465 : decode cL_law 465 = .ok (.iconst 2, 1) := by decide +kernel
set_option maxRecDepth 20000 in
theorem dL_law_466 : decode cL_law 466 = .ok (.iadd, 1) := by decide +kernel
set_option maxRecDepth 20000 in
theorem dL_law_467 : decode cL_law 467 = .ok (.iaload, 1) := by decide +kernel
set_option maxRecDepth 20000 in
theorem dL_law_468 : decode cL_law 468 = .ok (.invokevirtual 63, 3) := by decide +kernel
set_option maxRecDepth 20000 in
theorem dL_law_471 : decode cL_law 471 = .ok (.lcmp, 1) := by decide +kernel
set_option maxRecDepth 20000 in
theorem dL_law_472 : decode cL_law 472 = .ok (.ifCond .eq 287, 3) := by decide +kernel
set_option maxRecDepth 20000 in
theorem dL_law_475 : decode cL_law 475 = .ok (.iconst 0, 1) := by decide +kernel
set_option maxRecDepth 20000 in
theorem dL_law_476 : decode cL_law 476 = .ok (.ireturn, 1) := by decide +kernel
set_option maxRecDepth 20000 in
theorem dL_law_477 : decode cL_law 477 = .ok (.aload_n 1, 1) := by decide +kernel
set_option maxRecDepth 20000 in
theorem dL_law_478 : decode cL_law 478 = .ok (.aload_n 0, 1) := by decide +kernel
set_option maxRecDepth 20000 in
theorem dL_law_479 : decode cL_law 479 = .ok (.iload_n 3, 1) := by decide +kernel
set_option maxRecDepth 20000 in
theorem dL_law_480 : decode cL_law 480 = .ok (.iconst 1, 1) := by decide +kernel
set_option maxRecDepth 20000 in
theorem dL_law_481 : decode cL_law 481 = .ok (.iadd, 1) := by decide +kernel
set_option maxRecDepth 20000 in
theorem dL_law_482 : decode cL_law 482 = .ok (.iaload, 1) := by decide +kernel
set_option maxRecDepth 20000 in
theorem dL_law_483 : decode cL_law 483 = .ok (.aload_n 0, 1) := by decide +kernel
set_option maxRecDepth 20000 in
theorem dL_law_484 : decode cL_law 484 = .ok (.iload_n 3, 1) := by decide +kernel
set_option maxRecDepth 20000 in
theorem dL_law_485 : decode cL_law 485 = .ok (.iconst 2, 1) := by decide +kernel
set_option maxRecDepth 20000 in
theorem dL_law_486 : decode cL_law 486 = .ok (.iadd, 1) := by decide +kernel
set_option maxRecDepth 20000 in
theorem dL_law_487 : decode cL_law 487 = .ok (.iaload, 1) := by decide +kernel
set_option maxRecDepth 20000 in
theorem dL_law_488 : decode cL_law 488 = .ok (.aload_n 0, 1) := by decide +kernel
set_option maxRecDepth 20000 in
theorem dL_law_489 : decode cL_law 489 = .ok (.iload_n 3, 1) := by decide +kernel
set_option maxRecDepth 20000 in
theorem dL_law_490 : decode cL_law 490 = .ok (.iconst 3, 1) := by decide +kernel
set_option maxRecDepth 20000 in
theorem dL_law_491 : decode cL_law 491 = .ok (.iadd, 1) := by decide +kernel
set_option maxRecDepth 20000 in
theorem dL_law_492 : decode cL_law 492 = .ok (.iaload, 1) := by decide +kernel
set_option maxRecDepth 20000 in
theorem dL_law_493 : decode cL_law 493 = .ok (.i2l, 1) := by decide +kernel
set_option maxRecDepth 20000 in
theorem dL_law_494 : decode cL_law 494 = .ok (.bipush 32, 2) := by decide +kernel
set_option maxRecDepth 20000 in
theorem dL_law_496 : decode cL_law 496 = .ok (.lshl, 1) := by decide +kernel
set_option maxRecDepth 20000 in
theorem dL_law_497 : decode cL_law 497 = .ok (.aload_n 0, 1) := by decide +kernel
set_option maxRecDepth 20000 in
theorem dL_law_498 : decode cL_law 498 = .ok (.iload_n 3, 1) := by decide +kernel
set_option maxRecDepth 20000 in
theorem dL_law_499 : decode cL_law 499 = .ok (.iconst 4, 1) := by decide +kernel
set_option maxRecDepth 20000 in
theorem dL_law_500 : decode cL_law 500 = .ok (.iadd, 1) := by decide +kernel
set_option maxRecDepth 20000 in
theorem dL_law_501 : decode cL_law 501 = .ok (.iaload, 1) := by decide +kernel
set_option maxRecDepth 20000 in
theorem dL_law_502 : decode cL_law 502 = .ok (.i2l, 1) := by decide +kernel
set_option maxRecDepth 20000 in
theorem dL_law_503 : decode cL_law 503 = .ok (.ldc2_w 18, 3) := by decide +kernel
set_option maxRecDepth 20000 in
theorem dL_law_506 : decode cL_law 506 = .ok (.land, 1) := by decide +kernel
set_option maxRecDepth 20000 in
theorem dL_law_507 : decode cL_law 507 = .ok (.lor, 1) := by decide +kernel
set_option maxRecDepth 20000 in
theorem dL_law_508 : decode cL_law 508 = .ok (.invokevirtual 64, 3) := by decide +kernel
set_option maxRecDepth 20000 in
theorem dL_law_511 : decode cL_law 511 = .ok (.aload_n 2, 1) := by decide +kernel
set_option maxRecDepth 20000 in
theorem dL_law_512 : decode cL_law 512 = .ok (.aload_n 0, 1) := by decide +kernel
set_option maxRecDepth 20000 in
theorem dL_law_513 : decode cL_law 513 = .ok (.iload_n 3, 1) := by decide +kernel
set_option maxRecDepth 20000 in
theorem dL_law_514 : decode cL_law 514 = .ok (.iconst 1, 1) := by decide +kernel
set_option maxRecDepth 20000 in
theorem dL_law_515 : decode cL_law 515 = .ok (.iadd, 1) := by decide +kernel
set_option maxRecDepth 20000 in
theorem dL_law_516 : decode cL_law 516 = .ok (.iaload, 1) := by decide +kernel
set_option maxRecDepth 20000 in
theorem dL_law_517 : decode cL_law 517 = .ok (.aload_n 0, 1) := by decide +kernel
set_option maxRecDepth 20000 in
theorem dL_law_518 : decode cL_law 518 = .ok (.iload_n 3, 1) := by decide +kernel
set_option maxRecDepth 20000 in
theorem dL_law_519 : decode cL_law 519 = .ok (.iconst 2, 1) := by decide +kernel
set_option maxRecDepth 20000 in
theorem dL_law_520 : decode cL_law 520 = .ok (.iadd, 1) := by decide +kernel
set_option maxRecDepth 20000 in
theorem dL_law_521 : decode cL_law 521 = .ok (.iaload, 1) := by decide +kernel
set_option maxRecDepth 20000 in
theorem dL_law_522 : decode cL_law 522 = .ok (.aload_n 0, 1) := by decide +kernel
set_option maxRecDepth 20000 in
theorem dL_law_523 : decode cL_law 523 = .ok (.iload_n 3, 1) := by decide +kernel
set_option maxRecDepth 20000 in
theorem dL_law_524 : decode cL_law 524 = .ok (.iconst 3, 1) := by decide +kernel
set_option maxRecDepth 20000 in
theorem dL_law_525 : decode cL_law 525 = .ok (.iadd, 1) := by decide +kernel
set_option maxRecDepth 20000 in
theorem dL_law_526 : decode cL_law 526 = .ok (.iaload, 1) := by decide +kernel
set_option maxRecDepth 20000 in
theorem dL_law_527 : decode cL_law 527 = .ok (.i2l, 1) := by decide +kernel
set_option maxRecDepth 20000 in
theorem dL_law_528 : decode cL_law 528 = .ok (.bipush 32, 2) := by decide +kernel
set_option maxRecDepth 20000 in
theorem dL_law_530 : decode cL_law 530 = .ok (.lshl, 1) := by decide +kernel
set_option maxRecDepth 20000 in
theorem dL_law_531 : decode cL_law 531 = .ok (.aload_n 0, 1) := by decide +kernel
set_option maxRecDepth 20000 in
theorem dL_law_532 : decode cL_law 532 = .ok (.iload_n 3, 1) := by decide +kernel
set_option maxRecDepth 20000 in
theorem dL_law_533 : decode cL_law 533 = .ok (.iconst 4, 1) := by decide +kernel
set_option maxRecDepth 20000 in
theorem dL_law_534 : decode cL_law 534 = .ok (.iadd, 1) := by decide +kernel
set_option maxRecDepth 20000 in
theorem dL_law_535 : decode cL_law 535 = .ok (.iaload, 1) := by decide +kernel
set_option maxRecDepth 20000 in
theorem dL_law_536 : decode cL_law 536 = .ok (.i2l, 1) := by decide +kernel
set_option maxRecDepth 20000 in
theorem dL_law_537 : decode cL_law 537 = .ok (.ldc2_w 18, 3) := by decide +kernel
set_option maxRecDepth 20000 in
theorem dL_law_540 : decode cL_law 540 = .ok (.land, 1) := by decide +kernel
set_option maxRecDepth 20000 in
theorem dL_law_541 : decode cL_law 541 = .ok (.lor, 1) := by decide +kernel
set_option maxRecDepth 20000 in
theorem dL_law_542 : decode cL_law 542 = .ok (.invokevirtual 68, 3) := by decide +kernel
set_option maxRecDepth 20000 in
theorem dL_law_545 : decode cL_law 545 = .ok (.if_icmp .eq 214, 3) := by decide +kernel
set_option maxRecDepth 20000 in
theorem dL_law_548 : decode cL_law 548 = .ok (.iconst 0, 1) := by decide +kernel
set_option maxRecDepth 20000 in
theorem dL_law_549 : decode cL_law 549 = .ok (.ireturn, 1) := by decide +kernel
set_option maxRecDepth 20000 in
theorem dL_law_550 : decode cL_law 550 = .ok (.aload_n 1, 1) := by decide +kernel
set_option maxRecDepth 20000 in
theorem dL_law_551 : decode cL_law 551 = .ok (.aload_n 0, 1) := by decide +kernel
set_option maxRecDepth 20000 in
theorem dL_law_552 : decode cL_law 552 = .ok (.iload_n 3, 1) := by decide +kernel
set_option maxRecDepth 20000 in
theorem dL_law_553 : decode cL_law 553 = .ok (.iconst 1, 1) := by decide +kernel
set_option maxRecDepth 20000 in
theorem dL_law_554 : decode cL_law 554 = .ok (.iadd, 1) := by decide +kernel
set_option maxRecDepth 20000 in
theorem dL_law_555 : decode cL_law 555 = .ok (.iaload, 1) := by decide +kernel
set_option maxRecDepth 20000 in
theorem dL_law_556 : decode cL_law 556 = .ok (.invokevirtual 69, 3) := by decide +kernel
set_option maxRecDepth 20000 in
theorem dL_law_559 : decode cL_law 559 = .ok (.aload_n 2, 1) := by decide +kernel
set_option maxRecDepth 20000 in
theorem dL_law_560 : decode cL_law 560 = .ok (.aload_n 0, 1) := by decide +kernel
set_option maxRecDepth 20000 in
theorem dL_law_561 : decode cL_law 561 = .ok (.iload_n 3, 1) := by decide +kernel
set_option maxRecDepth 20000 in
theorem dL_law_562 : decode cL_law 562 = .ok (.iconst 1, 1) := by decide +kernel
set_option maxRecDepth 20000 in
theorem dL_law_563 : decode cL_law 563 = .ok (.iadd, 1) := by decide +kernel
set_option maxRecDepth 20000 in
theorem dL_law_564 : decode cL_law 564 = .ok (.iaload, 1) := by decide +kernel
set_option maxRecDepth 20000 in
theorem dL_law_565 : decode cL_law 565 = .ok (.invokevirtual 73, 3) := by decide +kernel
set_option maxRecDepth 20000 in
theorem dL_law_568 : decode cL_law 568 = .ok (.lcmp, 1) := by decide +kernel
set_option maxRecDepth 20000 in
theorem dL_law_569 : decode cL_law 569 = .ok (.ifCond .eq 190, 3) := by decide +kernel
set_option maxRecDepth 20000 in
theorem dL_law_572 : decode cL_law 572 = .ok (.iconst 0, 1) := by decide +kernel
set_option maxRecDepth 20000 in
theorem dL_law_573 : decode cL_law 573 = .ok (.ireturn, 1) := by decide +kernel
set_option maxRecDepth 20000 in
theorem dL_law_574 : decode cL_law 574 = .ok (.aload_n 1, 1) := by decide +kernel
set_option maxRecDepth 20000 in
theorem dL_law_575 : decode cL_law 575 = .ok (.invokevirtual 74, 3) := by decide +kernel
set_option maxRecDepth 20000 in
theorem dL_law_578 : decode cL_law 578 = .ok (.aload_n 2, 1) := by decide +kernel
set_option maxRecDepth 20000 in
theorem dL_law_579 : decode cL_law 579 = .ok (.invokevirtual 77, 3) := by decide +kernel
set_option maxRecDepth 20000 in
theorem dL_law_582 : decode cL_law 582 = .ok (.if_icmp .eq 177, 3) := by decide +kernel
set_option maxRecDepth 20000 in
theorem dL_law_585 : decode cL_law 585 = .ok (.iconst 0, 1) := by decide +kernel
set_option maxRecDepth 20000 in
theorem dL_law_586 : decode cL_law 586 = .ok (.ireturn, 1) := by decide +kernel
set_option maxRecDepth 20000 in
theorem dL_law_587 : decode cL_law 587 = .ok (.aload_n 1, 1) := by decide +kernel
set_option maxRecDepth 20000 in
theorem dL_law_588 : decode cL_law 588 = .ok (.invokevirtual 78, 3) := by decide +kernel
set_option maxRecDepth 20000 in
theorem dL_law_591 : decode cL_law 591 = .ok (.aload_n 2, 1) := by decide +kernel
set_option maxRecDepth 20000 in
theorem dL_law_592 : decode cL_law 592 = .ok (.invokevirtual 81, 3) := by decide +kernel
set_option maxRecDepth 20000 in
theorem dL_law_595 : decode cL_law 595 = .ok (.if_icmp .eq 164, 3) := by decide +kernel
set_option maxRecDepth 20000 in
theorem dL_law_598 : decode cL_law 598 = .ok (.iconst 0, 1) := by decide +kernel
set_option maxRecDepth 20000 in
theorem dL_law_599 : decode cL_law 599 = .ok (.ireturn, 1) := by decide +kernel
set_option maxRecDepth 20000 in
theorem dL_law_600 : decode cL_law 600 = .ok (.aload_n 1, 1) := by decide +kernel
set_option maxRecDepth 20000 in
theorem dL_law_601 : decode cL_law 601 = .ok (.aload_n 0, 1) := by decide +kernel
set_option maxRecDepth 20000 in
theorem dL_law_602 : decode cL_law 602 = .ok (.iload_n 3, 1) := by decide +kernel
set_option maxRecDepth 20000 in
theorem dL_law_603 : decode cL_law 603 = .ok (.iconst 1, 1) := by decide +kernel
set_option maxRecDepth 20000 in
theorem dL_law_604 : decode cL_law 604 = .ok (.iadd, 1) := by decide +kernel
set_option maxRecDepth 20000 in
theorem dL_law_605 : decode cL_law 605 = .ok (.iaload, 1) := by decide +kernel
set_option maxRecDepth 20000 in
theorem dL_law_606 : decode cL_law 606 = .ok (.invokevirtual 82, 3) := by decide +kernel
set_option maxRecDepth 20000 in
theorem dL_law_609 : decode cL_law 609 = .ok (.aload_n 2, 1) := by decide +kernel
set_option maxRecDepth 20000 in
theorem dL_law_610 : decode cL_law 610 = .ok (.aload_n 0, 1) := by decide +kernel
set_option maxRecDepth 20000 in
theorem dL_law_611 : decode cL_law 611 = .ok (.iload_n 3, 1) := by decide +kernel
set_option maxRecDepth 20000 in
theorem dL_law_612 : decode cL_law 612 = .ok (.iconst 1, 1) := by decide +kernel
set_option maxRecDepth 20000 in
theorem dL_law_613 : decode cL_law 613 = .ok (.iadd, 1) := by decide +kernel
set_option maxRecDepth 20000 in
theorem dL_law_614 : decode cL_law 614 = .ok (.iaload, 1) := by decide +kernel
set_option maxRecDepth 20000 in
theorem dL_law_615 : decode cL_law 615 = .ok (.invokevirtual 85, 3) := by decide +kernel
set_option maxRecDepth 20000 in
theorem dL_law_618 : decode cL_law 618 = .ok (.if_icmp .eq 141, 3) := by decide +kernel
set_option maxRecDepth 20000 in
theorem dL_law_621 : decode cL_law 621 = .ok (.iconst 0, 1) := by decide +kernel
set_option maxRecDepth 20000 in
theorem dL_law_622 : decode cL_law 622 = .ok (.ireturn, 1) := by decide +kernel
set_option maxRecDepth 20000 in
theorem dL_law_623 : decode cL_law 623 = .ok (.aload_n 1, 1) := by decide +kernel
set_option maxRecDepth 20000 in
theorem dL_law_624 : decode cL_law 624 = .ok (.aload_n 0, 1) := by decide +kernel
set_option maxRecDepth 20000 in
theorem dL_law_625 : decode cL_law 625 = .ok (.iload_n 3, 1) := by decide +kernel
set_option maxRecDepth 20000 in
theorem dL_law_626 : decode cL_law 626 = .ok (.iconst 1, 1) := by decide +kernel
set_option maxRecDepth 20000 in
theorem dL_law_627 : decode cL_law 627 = .ok (.iadd, 1) := by decide +kernel
set_option maxRecDepth 20000 in
theorem dL_law_628 : decode cL_law 628 = .ok (.iaload, 1) := by decide +kernel
set_option maxRecDepth 20000 in
theorem dL_law_629 : decode cL_law 629 = .ok (.aload_n 0, 1) := by decide +kernel
set_option maxRecDepth 20000 in
theorem dL_law_630 : decode cL_law 630 = .ok (.iload_n 3, 1) := by decide +kernel
set_option maxRecDepth 20000 in
theorem dL_law_631 : decode cL_law 631 = .ok (.iconst 2, 1) := by decide +kernel
set_option maxRecDepth 20000 in
theorem dL_law_632 : decode cL_law 632 = .ok (.iadd, 1) := by decide +kernel
set_option maxRecDepth 20000 in
theorem dL_law_633 : decode cL_law 633 = .ok (.iaload, 1) := by decide +kernel
set_option maxRecDepth 20000 in
theorem dL_law_634 : decode cL_law 634 = .ok (.invokevirtual 86, 3) := by decide +kernel
set_option maxRecDepth 20000 in
theorem dL_law_637 : decode cL_law 637 = .ok (.aload_n 2, 1) := by decide +kernel
set_option maxRecDepth 20000 in
theorem dL_law_638 : decode cL_law 638 = .ok (.aload_n 0, 1) := by decide +kernel
set_option maxRecDepth 20000 in
theorem dL_law_639 : decode cL_law 639 = .ok (.iload_n 3, 1) := by decide +kernel
set_option maxRecDepth 20000 in
theorem dL_law_640 : decode cL_law 640 = .ok (.iconst 1, 1) := by decide +kernel
set_option maxRecDepth 20000 in
theorem dL_law_641 : decode cL_law 641 = .ok (.iadd, 1) := by decide +kernel
set_option maxRecDepth 20000 in
theorem dL_law_642 : decode cL_law 642 = .ok (.iaload, 1) := by decide +kernel
set_option maxRecDepth 20000 in
theorem dL_law_643 : decode cL_law 643 = .ok (.aload_n 0, 1) := by decide +kernel
set_option maxRecDepth 20000 in
theorem dL_law_644 : decode cL_law 644 = .ok (.iload_n 3, 1) := by decide +kernel
set_option maxRecDepth 20000 in
theorem dL_law_645 : decode cL_law 645 = .ok (.iconst 2, 1) := by decide +kernel
set_option maxRecDepth 20000 in
theorem dL_law_646 : decode cL_law 646 = .ok (.iadd, 1) := by decide +kernel
set_option maxRecDepth 20000 in
theorem dL_law_647 : decode cL_law 647 = .ok (.iaload, 1) := by decide +kernel
set_option maxRecDepth 20000 in
theorem dL_law_648 : decode cL_law 648 = .ok (.invokevirtual 89, 3) := by decide +kernel
set_option maxRecDepth 20000 in
theorem dL_law_651 : decode cL_law 651 = .ok (.if_icmp .eq 108, 3) := by decide +kernel
set_option maxRecDepth 20000 in
theorem dL_law_654 : decode cL_law 654 = .ok (.iconst 0, 1) := by decide +kernel
set_option maxRecDepth 20000 in
theorem dL_law_655 : decode cL_law 655 = .ok (.ireturn, 1) := by decide +kernel
set_option maxRecDepth 20000 in
theorem dL_law_656 : decode cL_law 656 = .ok (.aload_n 1, 1) := by decide +kernel
set_option maxRecDepth 20000 in
theorem dL_law_657 : decode cL_law 657 = .ok (.aload_n 0, 1) := by decide +kernel
set_option maxRecDepth 20000 in
theorem dL_law_658 : decode cL_law 658 = .ok (.iload_n 3, 1) := by decide +kernel
set_option maxRecDepth 20000 in
theorem dL_law_659 : decode cL_law 659 = .ok (.iconst 1, 1) := by decide +kernel
set_option maxRecDepth 20000 in
theorem dL_law_660 : decode cL_law 660 = .ok (.iadd, 1) := by decide +kernel
set_option maxRecDepth 20000 in
theorem dL_law_661 : decode cL_law 661 = .ok (.iaload, 1) := by decide +kernel
set_option maxRecDepth 20000 in
theorem dL_law_662 : decode cL_law 662 = .ok (.invokevirtual 90, 3) := by decide +kernel
set_option maxRecDepth 20000 in
theorem dL_law_665 : decode cL_law 665 = .ok (.aload_n 2, 1) := by decide +kernel
set_option maxRecDepth 20000 in
theorem dL_law_666 : decode cL_law 666 = .ok (.aload_n 0, 1) := by decide +kernel
set_option maxRecDepth 20000 in
theorem dL_law_667 : decode cL_law 667 = .ok (.iload_n 3, 1) := by decide +kernel
set_option maxRecDepth 20000 in
theorem dL_law_668 : decode cL_law 668 = .ok (.iconst 1, 1) := by decide +kernel
set_option maxRecDepth 20000 in
theorem dL_law_669 : decode cL_law 669 = .ok (.iadd, 1) := by decide +kernel
set_option maxRecDepth 20000 in
theorem dL_law_670 : decode cL_law 670 = .ok (.iaload, 1) := by decide +kernel
set_option maxRecDepth 20000 in
theorem dL_law_671 : decode cL_law 671 = .ok (.invokevirtual 93, 3) := by decide +kernel
set_option maxRecDepth 20000 in
theorem dL_law_674 : decode cL_law 674 = .ok (.if_icmp .eq 85, 3) := by decide +kernel
set_option maxRecDepth 20000 in
theorem dL_law_677 : decode cL_law 677 = .ok (.iconst 0, 1) := by decide +kernel
set_option maxRecDepth 20000 in
theorem dL_law_678 : decode cL_law 678 = .ok (.ireturn, 1) := by decide +kernel
set_option maxRecDepth 20000 in
theorem dL_law_679 : decode cL_law 679 = .ok (.aload_n 1, 1) := by decide +kernel
set_option maxRecDepth 20000 in
theorem dL_law_680 : decode cL_law 680 = .ok (.aload_n 0, 1) := by decide +kernel
set_option maxRecDepth 20000 in
theorem dL_law_681 : decode cL_law 681 = .ok (.iload_n 3, 1) := by decide +kernel
set_option maxRecDepth 20000 in
theorem dL_law_682 : decode cL_law 682 = .ok (.iconst 1, 1) := by decide +kernel
set_option maxRecDepth 20000 in
theorem dL_law_683 : decode cL_law 683 = .ok (.iadd, 1) := by decide +kernel
set_option maxRecDepth 20000 in
theorem dL_law_684 : decode cL_law 684 = .ok (.iaload, 1) := by decide +kernel
set_option maxRecDepth 20000 in
theorem dL_law_685 : decode cL_law 685 = .ok (.aload_n 0, 1) := by decide +kernel
set_option maxRecDepth 20000 in
theorem dL_law_686 : decode cL_law 686 = .ok (.iload_n 3, 1) := by decide +kernel
set_option maxRecDepth 20000 in
theorem dL_law_687 : decode cL_law 687 = .ok (.iconst 2, 1) := by decide +kernel
set_option maxRecDepth 20000 in
theorem dL_law_688 : decode cL_law 688 = .ok (.iadd, 1) := by decide +kernel
set_option maxRecDepth 20000 in
theorem dL_law_689 : decode cL_law 689 = .ok (.iaload, 1) := by decide +kernel
set_option maxRecDepth 20000 in
theorem dL_law_690 : decode cL_law 690 = .ok (.invokevirtual 94, 3) := by decide +kernel
set_option maxRecDepth 20000 in
theorem dL_law_693 : decode cL_law 693 = .ok (.aload_n 2, 1) := by decide +kernel
set_option maxRecDepth 20000 in
theorem dL_law_694 : decode cL_law 694 = .ok (.aload_n 0, 1) := by decide +kernel
set_option maxRecDepth 20000 in
theorem dL_law_695 : decode cL_law 695 = .ok (.iload_n 3, 1) := by decide +kernel
set_option maxRecDepth 20000 in
theorem dL_law_696 : decode cL_law 696 = .ok (.iconst 1, 1) := by decide +kernel
set_option maxRecDepth 20000 in
theorem dL_law_697 : decode cL_law 697 = .ok (.iadd, 1) := by decide +kernel
set_option maxRecDepth 20000 in
theorem dL_law_698 : decode cL_law 698 = .ok (.iaload, 1) := by decide +kernel
set_option maxRecDepth 20000 in
theorem dL_law_699 : decode cL_law 699 = .ok (.aload_n 0, 1) := by decide +kernel
set_option maxRecDepth 20000 in
theorem dL_law_700 : decode cL_law 700 = .ok (.iload_n 3, 1) := by decide +kernel
set_option maxRecDepth 20000 in
theorem dL_law_701 : decode cL_law 701 = .ok (.iconst 2, 1) := by decide +kernel
set_option maxRecDepth 20000 in
theorem dL_law_702 : decode cL_law 702 = .ok (.iadd, 1) := by decide +kernel
set_option maxRecDepth 20000 in
theorem dL_law_703 : decode cL_law 703 = .ok (.iaload, 1) := by decide +kernel
set_option maxRecDepth 20000 in
theorem dL_law_704 : decode cL_law 704 = .ok (.invokevirtual 97, 3) := by decide +kernel
set_option maxRecDepth 20000 in
theorem dL_law_707 : decode cL_law 707 = .ok (.if_icmp .eq 52, 3) := by decide +kernel
set_option maxRecDepth 20000 in
theorem dL_law_710 : decode cL_law 710 = .ok (.iconst 0, 1) := by decide +kernel
set_option maxRecDepth 20000 in
theorem dL_law_711 : decode cL_law 711 = .ok (.ireturn, 1) := by decide +kernel
set_option maxRecDepth 20000 in
theorem dL_law_712 : decode cL_law 712 = .ok (.aload_n 1, 1) := by decide +kernel
set_option maxRecDepth 20000 in
theorem dL_law_713 : decode cL_law 713 = .ok (.aload_n 0, 1) := by decide +kernel
set_option maxRecDepth 20000 in
theorem dL_law_714 : decode cL_law 714 = .ok (.iload_n 3, 1) := by decide +kernel
set_option maxRecDepth 20000 in
theorem dL_law_715 : decode cL_law 715 = .ok (.iconst 1, 1) := by decide +kernel
set_option maxRecDepth 20000 in
theorem dL_law_716 : decode cL_law 716 = .ok (.iadd, 1) := by decide +kernel
set_option maxRecDepth 20000 in
theorem dL_law_717 : decode cL_law 717 = .ok (.iaload, 1) := by decide +kernel
set_option maxRecDepth 20000 in
theorem dL_law_718 : decode cL_law 718 = .ok (.invokevirtual 98, 3) := by decide +kernel
set_option maxRecDepth 20000 in
theorem dL_law_721 : decode cL_law 721 = .ok (.aload_n 2, 1) := by decide +kernel
set_option maxRecDepth 20000 in
theorem dL_law_722 : decode cL_law 722 = .ok (.aload_n 0, 1) := by decide +kernel
set_option maxRecDepth 20000 in
theorem dL_law_723 : decode cL_law 723 = .ok (.iload_n 3, 1) := by decide +kernel
set_option maxRecDepth 20000 in
theorem dL_law_724 : decode cL_law 724 = .ok (.iconst 1, 1) := by decide +kernel
set_option maxRecDepth 20000 in
theorem dL_law_725 : decode cL_law 725 = .ok (.iadd, 1) := by decide +kernel
set_option maxRecDepth 20000 in
theorem dL_law_726 : decode cL_law 726 = .ok (.iaload, 1) := by decide +kernel
set_option maxRecDepth 20000 in
theorem dL_law_727 : decode cL_law 727 = .ok (.invokevirtual 101, 3) := by decide +kernel
set_option maxRecDepth 20000 in
theorem dL_law_730 : decode cL_law 730 = .ok (.lcmp, 1) := by decide +kernel
set_option maxRecDepth 20000 in
theorem dL_law_731 : decode cL_law 731 = .ok (.ifCond .eq 28, 3) := by decide +kernel
set_option maxRecDepth 20000 in
theorem dL_law_734 : decode cL_law 734 = .ok (.iconst 0, 1) := by decide +kernel
set_option maxRecDepth 20000 in
theorem dL_law_735 : decode cL_law 735 = .ok (.ireturn, 1) := by decide +kernel
set_option maxRecDepth 20000 in
theorem dL_law_736 : decode cL_law 736 = .ok (.aload_n 1, 1) := by decide +kernel
set_option maxRecDepth 20000 in
theorem dL_law_737 : decode cL_law 737 = .ok (.aload_n 0, 1) := by decide +kernel
set_option maxRecDepth 20000 in
theorem dL_law_738 : decode cL_law 738 = .ok (.iload_n 3, 1) := by decide +kernel
set_option maxRecDepth 20000 in
theorem dL_law_739 : decode cL_law 739 = .ok (.iconst 1, 1) := by decide +kernel
set_option maxRecDepth 20000 in
theorem dL_law_740 : decode cL_law 740 = .ok (.iadd, 1) := by decide +kernel
set_option maxRecDepth 20000 in
theorem dL_law_741 : decode cL_law 741 = .ok (.iaload, 1) := by decide +kernel
set_option maxRecDepth 20000 in
theorem dL_law_742 : decode cL_law 742 = .ok (.invokevirtual 102, 3) := by decide +kernel
set_option maxRecDepth 20000 in
theorem dL_law_745 : decode cL_law 745 = .ok (.aload_n 2, 1) := by decide +kernel
set_option maxRecDepth 20000 in
theorem dL_law_746 : decode cL_law 746 = .ok (.aload_n 0, 1) := by decide +kernel
set_option maxRecDepth 20000 in
theorem dL_law_747 : decode cL_law 747 = .ok (.iload_n 3, 1) := by decide +kernel
set_option maxRecDepth 20000 in
theorem dL_law_748 : decode cL_law 748 = .ok (.iconst 1, 1) := by decide +kernel
set_option maxRecDepth 20000 in
theorem dL_law_749 : decode cL_law 749 = .ok (.iadd, 1) := by decide +kernel
set_option maxRecDepth 20000 in
theorem dL_law_750 : decode cL_law 750 = .ok (.iaload, 1) := by decide +kernel
set_option maxRecDepth 20000 in
theorem dL_law_751 : decode cL_law 751 = .ok (.invokevirtual 105, 3) := by decide +kernel
set_option maxRecDepth 20000 in
theorem dL_law_754 : decode cL_law 754 = .ok (.if_icmp .eq 5, 3) := by decide +kernel
set_option maxRecDepth 20000 in
theorem dL_law_757 : decode cL_law 757 = .ok (.iconst 0, 1) := by decide +kernel
set_option maxRecDepth 20000 in
theorem dL_law_758 : decode cL_law 758 = .ok (.ireturn, 1) := by decide +kernel
set_option maxRecDepth 20000 in
theorem dL_law_759 : decode cL_law 759 = .ok (.iinc 3 5, 3) := by decide +kernel
set_option maxRecDepth 20000 in
theorem dL_law_762 : decode cL_law 762 = .ok (.goto (-744), 3) := by decide +kernel
set_option maxRecDepth 20000 in
theorem dL_law_765 : decode cL_law 765 = .ok (.iconst 1, 1) := by decide +kernel
set_option maxRecDepth 20000 in
theorem dL_law_766 : decode cL_law 766 = .ok (.ireturn, 1) := by decide +kernel
end
section
/-! words: one list for all methods -/
def gt : List Cond := lw_tbl.filter goodWord
theorem gt_mem {w : Cond} (h : w ∈ lw_tbl) (g : goodWord w = true) : w ∈ gt := List.mem_filter.mpr ⟨h, g⟩
theorem gt_tb {w : Cond} (i : Nat) (h : tables_1[i]? = some w) (g : goodWord w = true) : w ∈ gt := gt_mem (List.mem_append_right _ (List.mem_of_getElem? h)) g
theorem gt_pv {w : Cond} (i : Nat) (h : (k2_sels lw_privs)[i]? = some w) (g : goodWord w = true) : w ∈ gt := gt_mem (List.mem_append_left _ (List.mem_of_getElem? h)) g
theorem gt_good {w : Cond} (h : w ∈ gt) : w ∈ gt ∧ ((w.onTables && w.keeps) = true ∨ ∃ ty, w = .arrayClass ty) := ⟨h, good_of_word (List.mem_filter.mp h).2⟩
/-- the words of nest mates and of arrays of arrays, which a contract's start carries -/
def nestL : List (String × Nat × MethodName × String) := [("HundredBoxes", 9, ⟨"HundredBoxes$Order", "<init>", "()V"⟩, "HundredBoxes"), ("HundredBoxes", 22, ⟨"HundredBoxes$Lists", "<init>", "()V"⟩, "HundredBoxes"), ("HundredBoxes$Tables", 60, ⟨"HundredBoxes", "entry", "([JI)J"⟩, "HundredBoxes"), ("HundredBoxes$Order", 79, ⟨"HundredBoxes", "commonMultiple", "(II)I"⟩, "HundredBoxes"), ("HundredBoxes$Tally", 73, ⟨"HundredBoxes", "quotient", "(JJ)J"⟩, "HundredBoxes"), ("HundredBoxes$Partition", 25, ⟨"HundredBoxes", "commonMultiple", "(II)I"⟩, "HundredBoxes"), ("HundredBoxes$Tally", 95, ⟨"HundredBoxes", "entry", "([JI)J"⟩, "HundredBoxes")]
def NW (U : State) : Prop := (∀ q ∈ nestL, va_Nw (.methodLinkNest q.1 q.2.1 q.2.2.1 q.2.2.2) U) ∧ va_AO "HundredBoxes$Order" U ∧ va_AO "HundredBoxes$Tally" U
theorem NW_same {u U : State} (h : u.vm = U.vm) (hN : NW u) : NW U := ⟨fun q hq => va_Nw.same rfl h (hN.1 q hq), va_AO.moved (by rw [h]; exact Vm.Alike.refl _) hN.2.1, va_AO.moved (by rw [h]; exact Vm.Alike.refl _) hN.2.2⟩
theorem NW_warm {s U : State} (hW : s.WarmedH U.vm) (hN : NW s) : NW U := ⟨fun q hq => va_Nw.warmM hW (hN.1 q hq), va_AO.moved hW.alike hN.2.1, va_AO.moved hW.alike hN.2.2⟩
def Pw (D : va_G) (K : List (ClassId × FieldType)) (ws : va_W) (sz : Nat) (U : State) : Prop := U.heap.size = sz ∧ va_P D vwCl ws U.heap ∧ va_K D vwCl K U ∧ va_D (fun _ => True) ws ∧ NW U
def Pr (D : va_G) (K : List (ClassId × FieldType)) (ws : va_W) (U : State) : Prop := va_P D vwCl ws U.heap ∧ va_K D vwCl K U ∧ NW U
def Bw {S : Type} (D : va_G) (K : List (ClassId × FieldType)) (A : Nat → Prop) (w : S → va_W) (u : S) (t : State) : Prop := va_P D vwCl (w u) t.heap ∧ va_K D vwCl K t ∧ va_D A (w u)
theorem Bw_mk {S : Type} {D : va_G} {K : List (ClassId × FieldType)} {A : Nat → Prop} {w : S → va_W} {u : S} {t : State} (h1 : va_P D vwCl (w u) t.heap) (h2 : va_K D vwCl K t) (h3 : va_D A (w u)) : Bw D K A w u t := ⟨h1, h2, h3⟩
/-- a contract's start, as a caller gives it -/
def Pg (s : State) (H : Heap) (av : List Value) (Pc : Array Value → State → Prop) : Prop := FrameBlind Pc ∧ ∀ U : State, U.heap = H → s.WarmedH U.vm → Pc av.toArray U
theorem preW {s : State} {H : Heap} {av : List Value} {D : va_G} {K : List (ClassId × FieldType)} {ws : va_W} {A : Nat → Prop} (hP : va_P D vwCl ws H) (hK : va_K D vwCl K s) (hN : NW s) (hD : va_D A ws) : Pg s H av (va_Pc av (Pw D K ws H.size)) := ⟨fun a U g mk q => by
  obtain ⟨q0, q1, qP, qK, qD, qN⟩ := q
  exact ⟨q0, q1, qP, va_K.moved (u := U) (U := U.calling g mk a) (Vm.Alike.refl U.vm) qK, qD, NW_same (u := U) (U := U.calling g mk a) rfl qN⟩, fun U hU hW =>
  ⟨rfl, by rw [hU], by rw [hU]; exact hP, va_K.moved hW.alike hK, hD.weaken (fun _ _ _ _ => trivial), NW_warm hW hN⟩⟩
theorem preR {s : State} {H : Heap} {av : List Value} {D : va_G} {K : List (ClassId × FieldType)} {ws : va_W} (hP : va_P D vwCl ws H) (hK : va_K D vwCl K s) (hN : NW s) : Pg s H av (va_Pc av (Pr D K ws)) := ⟨fun a U g mk q => by
  obtain ⟨q0, qP, qK, qN⟩ := q
  exact ⟨q0, qP, va_K.moved (u := U) (U := U.calling g mk a) (Vm.Alike.refl U.vm) qK, NW_same (u := U) (U := U.calling g mk a) rfl qN⟩, fun U hU hW =>
  ⟨rfl, by rw [hU]; exact hP, va_K.moved hW.alike hK, NW_warm hW hN⟩⟩
theorem va_P_nil {D : va_G} {H : Heap} : va_P D vwCl [] H := fun k q h => by simp at h
/-- what the tables say of a method -/
def WF (C : String) (y : MethodName) (cc : ByteArray) (n : Nat) (ret : Option FieldType) (k : Nat) : Prop := (Cond.instanceMethod y ∈ gt ∧ Cond.selects C y y ∈ gt) ∧ Cond.initialized C ∈ gt ∧ Cond.code y cc n ret ∈ gt ∧ y.cls = C ∧ y.cls ≠ "java/lang/invoke/MethodHandle" ∧ y.cls ≠ "java/lang/invoke/VarHandle" ∧ (parseMethodDescriptor y.desc).map (fun d => d.parameters.length) = some k
def WS (C : String) (y : MethodName) (cc : ByteArray) (n : Nat) (ret : Option FieldType) (k : Nat) : Prop := Cond.static y ∈ gt ∧ Cond.initialized C ∈ gt ∧ Cond.code y cc n ret ∈ gt ∧ y.cls = C ∧ y.cls ≠ "java/lang/invoke/MethodHandle" ∧ y.cls ≠ "java/lang/invoke/VarHandle" ∧ (parseMethodDescriptor y.desc).map (fun d => d.parameters.length) = some k
def WI (C : String) (y : MethodName) (cc : ByteArray) (n : Nat) (k : Nat) : Prop := Cond.instanceMethod y ∈ gt ∧ Cond.initialized y.cls ∈ gt ∧ Cond.code y cc n none ∈ gt ∧ y.name = "<init>" ∧ y.cls ≠ "java/lang/invoke/MethodHandle" ∧ y.cls ≠ "java/lang/invoke/VarHandle" ∧ (parseMethodDescriptor y.desc).map (fun d => d.parameters.length) = some k ∧ y.cls = C
theorem gV {own C : String} {idx n : Nat} {y : MethodName} {cc : ByteArray} {ret : Option FieldType} (h1 : Cond.methodLink own idx y ∈ gt) (h2 : Cond.instanceMethod y ∈ gt) (h3 : Cond.selects C y y ∈ gt) (h4 : Cond.initialized C ∈ gt) (h5 : Cond.code y cc n ret ∈ gt) : GoodIn gt (wsV own idx C y (.code y cc n ret :: gt)) := by
  intro w hw
  rcases List.mem_append.mp hw with hw | hw
  · rcases List.mem_cons.mp hw with rfl | hw
    · exact gt_good h1
    rcases List.mem_cons.mp hw with rfl | hw
    · exact gt_good h2
    rcases List.mem_cons.mp hw with rfl | hw
    · exact gt_good h3
    rcases List.mem_cons.mp hw with rfl | hw
    · exact gt_good h4
    exact absurd hw List.not_mem_nil
  · rcases List.mem_cons.mp hw with rfl | hw
    · exact gt_good h5
    · exact gt_good hw
theorem gC {n : Nat} {y : MethodName} {cc : ByteArray} {ret : Option FieldType} (h5 : Cond.code y cc n ret ∈ gt) : GoodIn gt (.code y cc n ret :: gt) := by
  intro w hw
  rcases List.mem_cons.mp hw with rfl | hw
  · exact gt_good h5
  · exact gt_good hw
theorem gS {own : String} {idx n : Nat} {y : MethodName} {cc : ByteArray} {ret : Option FieldType} (h1 : Cond.methodLink own idx y ∈ gt) (h2 : Cond.static y ∈ gt) (h4 : Cond.initialized own ∈ gt) (h5 : Cond.code y cc n ret ∈ gt) : GoodIn gt (wsS own idx y (.code y cc n ret :: gt)) := by
  intro w hw
  rcases List.mem_append.mp hw with hw | hw
  · rcases List.mem_cons.mp hw with rfl | hw
    · exact gt_good h1
    rcases List.mem_cons.mp hw with rfl | hw
    · exact gt_good h2
    rcases List.mem_cons.mp hw with rfl | hw
    · exact gt_good h4
    exact absurd hw List.not_mem_nil
  · exact gC h5 w hw
section HB1
variable {p : Program} {l : Launch} {e : Env} {R : Room} {s : State} {m : MethodId} {args : Array Value} {below : List Frame} {meth : Method} {c : Code} {H : Heap} {locs : List Loc} {cells slots : Nat} {Q : State → Prop}
variable {cc cc' : ByteArray} {pc nL nL' n idx : Nat} {ls : Array Slot} {rest st0 As : List Value} {D : va_G} {A : Nat → Prop} {b : Nat} {K : List (ClassId × FieldType)} {wc : va_W} {H0 : Heap} {own C : String} {y : MethodName} {ret : Option FieldType} {rm : Room} {mc ms : Nat}
theorem runV {Pc : Array Value → State → Prop} {Qc : Array Value → State → Outcome → State → Prop} {free : Addr → Prop} {ci N : Nat} {fs : List Value} {T : u_T} (S : CallFix p m c cc nL s args gt own) (F : WF C y cc' nL' ret n) (hl : Cond.methodLink own idx y ∈ gt)
    (hM : Met l y (.code y cc' nL' ret :: gt) rm Pc Qc mc ms free)
    (hrm : (rm.cells = mc ∧ rm.slots = ms) ∧ rm.frames + 1 ≤ R.frames ∧ 8 + (nL' + 11) + rm.locals ≤ R.locals) (hp : Pg s H (.ref b :: As) Pc) (hK : va_K D vwCl K s) (hP : va_P D vwCl wc H) (hc : vwCl[ci]? = some (C, T, N)) (q0 : Nat) (he : wc[q0]? = some (b, .inr (ci, fs)))
    (hn : As.length = n) (hsz : ls.size = nL) (hst : st0 = As.reverse ++ .ref b :: rest) (hcat : (rest.map fun v => v.category).sum ≤ 8) (hdg : decode cc pc = .ok (.invokevirtual idx, 3)) (hcs : cells + mc ≤ R.cells ∧ slots + ms ≤ R.slots) :
    va_Run p l e R s m args below meth c H locs cells slots mc ms (F0 m pc ls st0) rest (Qc (Value.ref b :: As).toArray) free := by
  obtain ⟨⟨f1, f2⟩, f3, f4, f5, f6, f7, f8⟩ := F
  exact va_runV S hM (cwV n S.2.2.2.2 (gV hl f1 f2 f3 f4) rfl hrm.1.1 hrm.1.2 ⟨f5, f6, f7, f8⟩ hrm.2) ⟨hp.1, va_recv hK hP hc he, hp.2⟩ rfl hn hsz hst (lv_room hcat) hdg hcs
theorem runS {Pc : Array Value → State → Prop} {Qc : Array Value → State → Outcome → State → Prop} {free : Addr → Prop} (S : CallFix p m c cc nL s args gt own) (F : WS own y cc' nL' ret n) (hl : Cond.methodLink own idx y ∈ gt)
    (hM : Met l y (.code y cc' nL' ret :: gt) rm Pc Qc mc ms free)
    (hrm : (rm.cells = mc ∧ rm.slots = ms) ∧ rm.frames + 1 ≤ R.frames ∧ 8 + (nL' + 11) + rm.locals ≤ R.locals) (hp : Pg s H As Pc) (hN : NW s)
    (hn : As.length = n) (hsz : ls.size = nL) (hst : st0 = As.reverse ++ rest) (hcat : (rest.map fun v => v.category).sum ≤ 8) (hdg : decode cc pc = .ok (.invokestatic idx, 3)) (hcs : cells + mc ≤ R.cells ∧ slots + ms ≤ R.slots) :
    va_Run p l e R s m args below meth c H locs cells slots mc ms (F0 m pc ls st0) rest (Qc As.toArray) free := by
  obtain ⟨f1, f3, f4, f5, f6, f7, f8⟩ := F
  exact va_runS S hM (cwS n S.2.2.2.2 (gS hl f1 f3 f4) rfl hrm.1.1 hrm.1.2 ⟨f5, f6, f7, f8⟩ hrm.2) hp rfl hn hsz hst (lv_room hcat) hdg hcs
theorem runSO {Pc : Array Value → State → Prop} {Qc : Array Value → State → Outcome → State → Prop} {free : Addr → Prop} (S : CallFix p m c cc nL s args gt own) (F : WS C y cc' nL' ret n) (hl : Cond.methodLink own idx y ∈ gt)
    (hM : Met l y (.code y cc' nL' ret :: gt) rm Pc Qc mc ms free)
    (hrm : (rm.cells = mc ∧ rm.slots = ms) ∧ rm.frames + 1 ≤ R.frames ∧ 8 + (nL' + 11) + rm.locals ≤ R.locals) (hp : Pg s H As Pc)
    (hn : As.length = n) (hsz : ls.size = nL) (hst : st0 = As.reverse ++ rest) (hcat : (rest.map fun v => v.category).sum ≤ 8) (hdg : decode cc pc = .ok (.invokestatic idx, 3)) (hcs : cells + mc ≤ R.cells ∧ slots + ms ≤ R.slots) :
    va_Run p l e R s m args below meth c H locs cells slots mc ms (F0 m pc ls st0) rest (Qc As.toArray) free := by
  obtain ⟨f1, f3, f4, f5, f6, f7, f8⟩ := F
  exact va_runS S hM ⟨callB_of n S.2.2.2.2 (gC f4) rfl hrm.1.1 hrm.1.2 (by rw [f5]; exact S.2.2.2.2 _ f3) (S.2.2.2.2 _ hl) ⟨f6, f7, f8⟩ hrm.2, S.2.2.2.2 _ f1⟩ hp rfl hn hsz hst (lv_room hcat) hdg hcs
theorem runSN {Pc : Array Value → State → Prop} {Qc : Array Value → State → Outcome → State → Prop} {free : Addr → Prop} (S : CallFix p m c cc nL s args gt own) (F : WS C y cc' nL' ret n) (hl : (own, idx, y, "HundredBoxes") ∈ nestL)
    (hM : Met l y (.code y cc' nL' ret :: gt) rm Pc Qc mc ms free)
    (hrm : (rm.cells = mc ∧ rm.slots = ms) ∧ rm.frames + 1 ≤ R.frames ∧ 8 + (nL' + 11) + rm.locals ≤ R.locals) (hp : Pg s H As Pc) (hN : NW s)
    (hn : As.length = n) (hsz : ls.size = nL) (hst : st0 = As.reverse ++ rest) (hcat : (rest.map fun v => v.category).sum ≤ 8) (hdg : decode cc pc = .ok (.invokestatic idx, 3)) (hcs : cells + mc ≤ R.cells ∧ slots + ms ≤ R.slots) :
    va_Run p l e R s m args below meth c H locs cells slots mc ms (F0 m pc ls st0) rest (Qc As.toArray) free := by
  obtain ⟨f1, f3, f4, f5, f6, f7, f8⟩ := F
  exact va_runSN S hM ⟨va_cnB n S.2.2.2.2 (gC f4) rfl hrm.1.1 hrm.1.2 (hN.1 _ hl) (by rw [f5]; exact S.2.2.2.2 _ f3) ⟨f6, f7, f8⟩ hrm.2, S.2.2.2.2 _ f1, trivial⟩ hp rfl hn hsz hst (lv_room hcat) hdg hcs
theorem runI {Pc : Array Value → State → Prop} {Qc : Array Value → State → Outcome → State → Prop} {free : Addr → Prop} (S : CallFix p m c cc nL s args gt own) (F : WI C y cc' nL' n) (hl : Cond.methodLink own idx y ∈ gt)
    (hM : Met l y (.code y cc' nL' none :: gt) rm Pc Qc mc ms free)
    (hrm : (rm.cells = mc ∧ rm.slots = ms) ∧ rm.frames + 1 ≤ R.frames ∧ 8 + (nL' + 11) + rm.locals ≤ R.locals) (hp : Pg s H (.ref b :: As) Pc) (hN : NW s)
    (hn : As.length = n) (hsz : ls.size = nL) (hst : st0 = As.reverse ++ .ref b :: rest) (hcat : (rest.map fun v => v.category).sum ≤ 8) (hdg : decode cc pc = .ok (.invokespecial idx, 3)) (hcs : cells + mc ≤ R.cells ∧ slots + ms ≤ R.slots) :
    va_Run p l e R s m args below meth c H locs cells slots mc ms (F0 m pc ls st0) rest (Qc (Value.ref b :: As).toArray) free := by
  obtain ⟨f1, f3, f4, f5, f6, f7, f8, f9⟩ := F
  exact va_runI S hM (cwI n S.2.2.2.2 (gC f4) rfl hrm.1.1 hrm.1.2 (S.2.2.2.2 _ f3) (S.2.2.2.2 _ hl) (S.2.2.2.2 _ f1) f5 ⟨f6, f7, f8⟩ hrm.2) hp rfl hn hsz hst (lv_room hcat) hdg hcs
theorem runIN {Pc : Array Value → State → Prop} {Qc : Array Value → State → Outcome → State → Prop} {free : Addr → Prop} (S : CallFix p m c cc nL s args gt own) (F : WI C y cc' nL' n) (hl : (own, idx, y, "HundredBoxes") ∈ nestL)
    (hM : Met l y (.code y cc' nL' none :: gt) rm Pc Qc mc ms free)
    (hrm : (rm.cells = mc ∧ rm.slots = ms) ∧ rm.frames + 1 ≤ R.frames ∧ 8 + (nL' + 11) + rm.locals ≤ R.locals) (hp : Pg s H (.ref b :: As) Pc) (hN : NW s)
    (hn : As.length = n) (hsz : ls.size = nL) (hst : st0 = As.reverse ++ .ref b :: rest) (hcat : (rest.map fun v => v.category).sum ≤ 8) (hdg : decode cc pc = .ok (.invokespecial idx, 3)) (hcs : cells + mc ≤ R.cells ∧ slots + ms ≤ R.slots) :
    va_Run p l e R s m args below meth c H locs cells slots mc ms (F0 m pc ls st0) rest (Qc (Value.ref b :: As).toArray) free := by
  obtain ⟨f1, f3, f4, f5, f6, f7, f8, f9⟩ := F
  exact va_runIN S hM ⟨va_cnB n S.2.2.2.2 (gC f4) rfl hrm.1.1 hrm.1.2 (hN.1 _ hl) (S.2.2.2.2 _ f3) ⟨f6, f7, f8⟩ hrm.2, f5, S.2.2.2.2 _ f1⟩ hp rfl hn hsz hst (lv_room hcat) hdg hcs
theorem roi {post : Int32 → Prop} {a : Array Value} (hr : va_Run p l e R s m args below meth c H locs cells slots 0 0 (F0 m pc ls st0) rest (vp_Si post a) (fun _ => False)) (kk : ∀ r : Int32, post r → W p l e R s m args below meth c H locs cells slots Q (F0 m (pc + 3) ls (.int r :: rest))) : W p l e R s m args below meth c H locs cells slots Q (F0 m pc ls st0) := vp_callSi hr.run kk
theorem rol {post : Int64 → Prop} {a : Array Value} (hr : va_Run p l e R s m args below meth c H locs cells slots 0 0 (F0 m pc ls st0) rest (vp_Sl post a) (fun _ => False)) (kk : ∀ r : Int64, post r → W p l e R s m args below meth c H locs cells slots Q (F0 m (pc + 3) ls (.long r :: rest))) : W p l e R s m args below meth c H locs cells slots Q (F0 m pc ls st0) := vp_callSl hr.run kk
/-- a call that writes, over the whole world of the caller -/
theorem swi {S : Type} {post : Int32 → S → Prop} {w1 : S → va_W} {a : Array Value} (hr : va_Run p l e R s m args below meth c H locs cells slots mc ms (F0 m pc ls st0) rest (va_Qi post (Bw D K (va_A wc H.size) w1) (va_A wc H.size) a) (va_A wc H.size)) (hD : va_D A wc) (hS : va_S A H0 H locs) (hA : ∀ q, H0.size ≤ q → A q)
    (kk : ∀ (r : Int32) (u : S) (H1 : Heap) (locs1 : List Loc), post r u → va_P D vwCl (w1 u) H1 → va_D A (w1 u) → va_S A H0 H1 locs1 → W p l e R s m args below meth c H1 locs1 (cells + mc) (slots + ms) Q (F0 m (pc + 3) ls (.int r :: rest))) : W p l e R s m args below meth c H locs cells slots Q (F0 m pc ls st0) := by
  have hF : ∀ q, va_A wc H.size q → A q := fun q h => h.elim (fun ⟨k, e, hk⟩ => hD.2 k _ hk) (fun h => hA q (Nat.le_trans hS.1 h))
  refine va_calli hr hS (fun q _ h => hF q h) hF (fun r u t H1 locs1 ht hvm hw hB hz1 hk1 hS1 => ?_)
  obtain ⟨b1, b2, b3⟩ := hB
  rw [ht] at b1
  exact kk r u H1 locs1 hw b1 (b3.weaken (fun _ _ _ h => hF _ h)) hS1
theorem swl {S : Type} {post : Int64 → S → Prop} {w1 : S → va_W} {a : Array Value} (hr : va_Run p l e R s m args below meth c H locs cells slots mc ms (F0 m pc ls st0) rest (va_Ql post (Bw D K (va_A wc H.size) w1) (va_A wc H.size) a) (va_A wc H.size)) (hD : va_D A wc) (hS : va_S A H0 H locs) (hA : ∀ q, H0.size ≤ q → A q)
    (kk : ∀ (r : Int64) (u : S) (H1 : Heap) (locs1 : List Loc), post r u → va_P D vwCl (w1 u) H1 → va_D A (w1 u) → va_S A H0 H1 locs1 → W p l e R s m args below meth c H1 locs1 (cells + mc) (slots + ms) Q (F0 m (pc + 3) ls (.long r :: rest))) : W p l e R s m args below meth c H locs cells slots Q (F0 m pc ls st0) := by
  have hF : ∀ q, va_A wc H.size q → A q := fun q h => h.elim (fun ⟨k, e, hk⟩ => hD.2 k _ hk) (fun h => hA q (Nat.le_trans hS.1 h))
  refine va_calll hr hS (fun q _ h => hF q h) hF (fun r u t H1 locs1 ht hvm hw hB hz1 hk1 hS1 => ?_)
  obtain ⟨b1, b2, b3⟩ := hB
  rw [ht] at b1
  exact kk r u H1 locs1 hw b1 (b3.weaken (fun _ _ _ h => hF _ h)) hS1
theorem swv {S : Type} {post : S → Prop} {w1 : S → va_W} {a : Array Value} (hr : va_Run p l e R s m args below meth c H locs cells slots mc ms (F0 m pc ls st0) rest (va_Qv post (Bw D K (va_A wc H.size) w1) (va_A wc H.size) a) (va_A wc H.size)) (hD : va_D A wc) (hS : va_S A H0 H locs) (hA : ∀ q, H0.size ≤ q → A q)
    (kk : ∀ (u : S) (H1 : Heap) (locs1 : List Loc), post u → va_P D vwCl (w1 u) H1 → va_D A (w1 u) → va_S A H0 H1 locs1 → W p l e R s m args below meth c H1 locs1 (cells + mc) (slots + ms) Q (F0 m (pc + 3) ls rest)) : W p l e R s m args below meth c H locs cells slots Q (F0 m pc ls st0) := by
  have hF : ∀ q, va_A wc H.size q → A q := fun q h => h.elim (fun ⟨k, e, hk⟩ => hD.2 k _ hk) (fun h => hA q (Nat.le_trans hS.1 h))
  refine va_callv hr hS (fun q _ h => hF q h) hF (fun u t H1 locs1 ht hvm hw hB hz1 hk1 hS1 => ?_)
  obtain ⟨b1, b2, b3⟩ := hB
  rw [ht] at b1
  exact kk u H1 locs1 hw b1 (b3.weaken (fun _ _ _ h => hF _ h)) hS1
end HB1
section HB2
variable {p : Program} {l : Launch} {e : Env} {R : Room} {s : State} {m : MethodId} {args : Array Value} {below : List Frame} {meth : Method} {c : Code} {H : Heap} {locs : List Loc} {cells slots : Nat} {Q : State → Prop} {cc : ByteArray} {pc : Nat} {ls : Array Slot} {rest : List Value} {x y : Int64} {off : Int} {tgt : Nat}
theorem lgc_lt (x y : Int64) : lg_cmp x y < 0 ↔ x < y := by
  unfold lg_cmp
  simp only [gt_iff_lt, Int64.lt_iff_toInt_lt, ← Int64.toInt_inj]
  split
  · simp; omega
  · split
    · simp; omega
    · simp; omega
theorem lgc_eq (x y : Int64) : lg_cmp x y = 0 ↔ x = y := by
  unfold lg_cmp
  simp only [gt_iff_lt, Int64.lt_iff_toInt_lt, ← Int64.toInt_inj]
  split
  · simp; omega
  · split
    · simp; omega
    · simp; omega
theorem lgc_gt (x y : Int64) : 0 < lg_cmp x y ↔ y < x := by
  unfold lg_cmp
  simp only [gt_iff_lt, Int64.lt_iff_toInt_lt, ← Int64.toInt_inj]
  split
  · simp; omega
  · split
    · simp; omega
    · simp; omega
theorem lgc_le (x y : Int64) : lg_cmp x y ≤ 0 ↔ x ≤ y := by
  unfold lg_cmp
  simp only [gt_iff_lt, Int64.lt_iff_toInt_lt, Int64.le_iff_toInt_le, ← Int64.toInt_inj]
  split
  · simp; omega
  · split
    · simp; omega
    · simp; omega
theorem lc_lt (hx : p.tables.exec = Jvm.exec) (hb : c.code = cc) (d1 : decode cc pc = .ok (.lcmp, 1)) (d2 : decode cc (pc + 1) = .ok (.ifCond .lt off, 3)) (ht : ((pc + 1 : Nat) : Int) + off = (tgt : Int)) (kt : x < y → W p l e R s m args below meth c H locs cells slots Q (F0 m tgt ls rest)) (kf : ¬ x < y → W p l e R s m args below meth c H locs cells slots Q (F0 m (pc + 1 + 3) ls rest)) : W p l e R s m args below meth c H locs cells slots Q (F0 m pc ls (.long y :: .long x :: rest)) :=
  W.lcmp hx hb d1 (lv_if_lt hx hb d2 ht (fun h => kt ((lgc_lt x y).mp h)) (fun h => kf (fun h2 => h ((lgc_lt x y).mpr h2))))
theorem lc_ge (hx : p.tables.exec = Jvm.exec) (hb : c.code = cc) (d1 : decode cc pc = .ok (.lcmp, 1)) (d2 : decode cc (pc + 1) = .ok (.ifCond .ge off, 3)) (ht : ((pc + 1 : Nat) : Int) + off = (tgt : Int)) (kt : y ≤ x → W p l e R s m args below meth c H locs cells slots Q (F0 m tgt ls rest)) (kf : ¬ y ≤ x → W p l e R s m args below meth c H locs cells slots Q (F0 m (pc + 1 + 3) ls rest)) : W p l e R s m args below meth c H locs cells slots Q (F0 m pc ls (.long y :: .long x :: rest)) :=
  W.lcmp hx hb d1 (lv_if_ge hx hb d2 ht (fun h => kt ((lg_cmp_ge x y).mp h)) (fun h => kf (fun h2 => h ((lg_cmp_ge x y).mpr h2))))
theorem lc_gt (hx : p.tables.exec = Jvm.exec) (hb : c.code = cc) (d1 : decode cc pc = .ok (.lcmp, 1)) (d2 : decode cc (pc + 1) = .ok (.ifCond .gt off, 3)) (ht : ((pc + 1 : Nat) : Int) + off = (tgt : Int)) (kt : y < x → W p l e R s m args below meth c H locs cells slots Q (F0 m tgt ls rest)) (kf : ¬ y < x → W p l e R s m args below meth c H locs cells slots Q (F0 m (pc + 1 + 3) ls rest)) : W p l e R s m args below meth c H locs cells slots Q (F0 m pc ls (.long y :: .long x :: rest)) :=
  W.lcmp hx hb d1 (lv_if_gt hx hb d2 ht (fun h => kt ((lgc_gt x y).mp h)) (fun h => kf (fun h2 => h ((lgc_gt x y).mpr h2))))
theorem lc_le (hx : p.tables.exec = Jvm.exec) (hb : c.code = cc) (d1 : decode cc pc = .ok (.lcmp, 1)) (d2 : decode cc (pc + 1) = .ok (.ifCond .le off, 3)) (ht : ((pc + 1 : Nat) : Int) + off = (tgt : Int)) (kt : x ≤ y → W p l e R s m args below meth c H locs cells slots Q (F0 m tgt ls rest)) (kf : ¬ x ≤ y → W p l e R s m args below meth c H locs cells slots Q (F0 m (pc + 1 + 3) ls rest)) : W p l e R s m args below meth c H locs cells slots Q (F0 m pc ls (.long y :: .long x :: rest)) :=
  W.lcmp hx hb d1 (lv_if_le hx hb d2 ht (fun h => kt ((lgc_le x y).mp h)) (fun h => kf (fun h2 => h ((lgc_le x y).mpr h2))))
theorem lc_eq (hx : p.tables.exec = Jvm.exec) (hb : c.code = cc) (d1 : decode cc pc = .ok (.lcmp, 1)) (d2 : decode cc (pc + 1) = .ok (.ifCond .eq off, 3)) (ht : ((pc + 1 : Nat) : Int) + off = (tgt : Int)) (kt : x = y → W p l e R s m args below meth c H locs cells slots Q (F0 m tgt ls rest)) (kf : ¬ x = y → W p l e R s m args below meth c H locs cells slots Q (F0 m (pc + 1 + 3) ls rest)) : W p l e R s m args below meth c H locs cells slots Q (F0 m pc ls (.long y :: .long x :: rest)) :=
  W.lcmp hx hb d1 (lv_if_eq hx hb d2 ht (fun h => kt ((lgc_eq x y).mp h)) (fun h => kf (fun h2 => h ((lgc_eq x y).mpr h2))))
theorem lc_ne (hx : p.tables.exec = Jvm.exec) (hb : c.code = cc) (d1 : decode cc pc = .ok (.lcmp, 1)) (d2 : decode cc (pc + 1) = .ok (.ifCond .ne off, 3)) (ht : ((pc + 1 : Nat) : Int) + off = (tgt : Int)) (kt : ¬ x = y → W p l e R s m args below meth c H locs cells slots Q (F0 m tgt ls rest)) (kf : x = y → W p l e R s m args below meth c H locs cells slots Q (F0 m (pc + 1 + 3) ls rest)) : W p l e R s m args below meth c H locs cells slots Q (F0 m pc ls (.long y :: .long x :: rest)) :=
  W.lcmp hx hb d1 (lv_if_ne hx hb d2 ht (fun h => kt (fun h2 => h ((lgc_eq x y).mpr h2))) (fun h => kf ((lgc_eq x y).mp h)))
end HB2
end
section
set_option maxRecDepth 20000 in
theorem fl_X1_9 : Cond.fieldLink RX1 9 "HundredBoxes$Order" "row" "[I" ∈ gt := gt_tb 25 (by decide +kernel) rfl
set_option maxRecDepth 20000 in
theorem fl_X1_15 : Cond.fieldLink RX1 15 "HundredBoxes$Order" "made" "[I" ∈ gt := gt_tb 26 (by decide +kernel) rfl
set_option maxRecDepth 20000 in
theorem fl_X1_24 : Cond.fieldLink RX1 24 "HundredBoxes$Order" "size" "I" ∈ gt := gt_tb 27 (by decide +kernel) rfl
set_option maxRecDepth 20000 in
theorem fl_X0_11 : Cond.fieldLink RX0 11 "HundredBoxes$Lists" "boxes" "[[I" ∈ gt := gt_tb 45 (by decide +kernel) rfl
set_option maxRecDepth 20000 in
theorem fl_X0_16 : Cond.fieldLink RX0 16 "HundredBoxes$Lists" "lengths" "[I" ∈ gt := gt_tb 46 (by decide +kernel) rfl
set_option maxRecDepth 20000 in
theorem fl_X0_20 : Cond.fieldLink RX0 20 "HundredBoxes$Lists" "ways" "[J" ∈ gt := gt_tb 47 (by decide +kernel) rfl
set_option maxRecDepth 20000 in
theorem fl_X3_9 : Cond.fieldLink RX3 9 "HundredBoxes$Tables" "factorials" "[J" ∈ gt := gt_tb 102 (by decide +kernel) rfl
set_option maxRecDepth 20000 in
theorem fl_X3_15 : Cond.fieldLink RX3 15 "HundredBoxes$Tables" "deranged" "[J" ∈ gt := gt_tb 103 (by decide +kernel) rfl
set_option maxRecDepth 20000 in
theorem fl_X3_20 : Cond.fieldLink RX3 20 "HundredBoxes$Tables" "records" "[[J" ∈ gt := gt_tb 104 (by decide +kernel) rfl
set_option maxRecDepth 20000 in
theorem fl_X3_23 : Cond.fieldLink RX3 23 "HundredBoxes$Tables" "roundsUpTo" "[[J" ∈ gt := gt_tb 105 (by decide +kernel) rfl
set_option maxRecDepth 20000 in
theorem fl_X3_30 : Cond.fieldLink RX3 30 "HundredBoxes$Tables" "rises" "[J" ∈ gt := gt_tb 106 (by decide +kernel) rfl
set_option maxRecDepth 20000 in
theorem fl_X5_15 : Cond.fieldLink RX5 15 "HundredBoxes$Walk" "tables" "LHundredBoxes$Tables;" ∈ gt := gt_tb 124 (by decide +kernel) rfl
set_option maxRecDepth 20000 in
theorem fl_X5_9 : Cond.fieldLink RX5 9 "HundredBoxes$Walk" "used" "[Z" ∈ gt := gt_tb 125 (by decide +kernel) rfl
set_option maxRecDepth 20000 in
theorem fl_X5_19 : Cond.fieldLink RX5 19 "HundredBoxes$Walk" "kind" "I" ∈ gt := gt_tb 126 (by decide +kernel) rfl
set_option maxRecDepth 20000 in
theorem fl_X5_29 : Cond.fieldLink RX5 29 "HundredBoxes$Walk" "size" "I" ∈ gt := gt_tb 127 (by decide +kernel) rfl
set_option maxRecDepth 20000 in
theorem fl_X5_35 : Cond.fieldLink RX5 35 "HundredBoxes$Walk" "left" "I" ∈ gt := gt_tb 128 (by decide +kernel) rfl
set_option maxRecDepth 20000 in
theorem fl_X5_38 : Cond.fieldLink RX5 38 "HundredBoxes$Walk" "last" "I" ∈ gt := gt_tb 129 (by decide +kernel) rfl
set_option maxRecDepth 20000 in
theorem fl_X5_41 : Cond.fieldLink RX5 41 "HundredBoxes$Walk" "top" "I" ∈ gt := gt_tb 130 (by decide +kernel) rfl
set_option maxRecDepth 20000 in
theorem fl_X5_32 : Cond.fieldLink RX5 32 "HundredBoxes$Walk" "wanted" "I" ∈ gt := gt_tb 131 (by decide +kernel) rfl
set_option maxRecDepth 20000 in
theorem fl_X6_10 : Cond.fieldLink RX6 10 "HundredBoxes" "current" "LHundredBoxes$Order;" ∈ gt := gt_tb 168 (by decide +kernel) rfl
set_option maxRecDepth 20000 in
theorem fl_X6_16 : Cond.fieldLink RX6 16 "HundredBoxes" "shelf" "[LHundredBoxes$Order;" ∈ gt := gt_tb 169 (by decide +kernel) rfl
set_option maxRecDepth 20000 in
theorem fl_X6_23 : Cond.fieldLink RX6 23 "HundredBoxes" "lists" "LHundredBoxes$Lists;" ∈ gt := gt_tb 170 (by decide +kernel) rfl
set_option maxRecDepth 20000 in
theorem fl_X6_30 : Cond.fieldLink RX6 30 "HundredBoxes" "tables" "LHundredBoxes$Tables;" ∈ gt := gt_tb 171 (by decide +kernel) rfl
set_option maxRecDepth 20000 in
theorem fl_X6_39 : Cond.fieldLink RX6 39 "HundredBoxes" "walk" "LHundredBoxes$Walk;" ∈ gt := gt_tb 172 (by decide +kernel) rfl
set_option maxRecDepth 20000 in
theorem fl_X6_45 : Cond.fieldLink RX6 45 "HundredBoxes" "tallies" "[LHundredBoxes$Tally;" ∈ gt := gt_tb 173 (by decide +kernel) rfl
set_option maxRecDepth 20000 in
theorem fl_X6_102 : Cond.fieldLink RX6 102 "HundredBoxes" "size" "I" ∈ gt := gt_tb 174 (by decide +kernel) rfl
set_option maxRecDepth 20000 in
theorem fl_X6_140 : Cond.fieldLink RX6 140 "HundredBoxes" "opened" "I" ∈ gt := gt_tb 175 (by decide +kernel) rfl
set_option maxRecDepth 20000 in
theorem fl_X2_9 : Cond.fieldLink RX2 9 "HundredBoxes$Partition" "parts" "[I" ∈ gt := gt_tb 364 (by decide +kernel) rfl
set_option maxRecDepth 20000 in
theorem fl_X2_15 : Cond.fieldLink RX2 15 "HundredBoxes$Partition" "length" "I" ∈ gt := gt_tb 365 (by decide +kernel) rfl
set_option maxRecDepth 20000 in
theorem fl_X4_9 : Cond.fieldLink RX4 9 "HundredBoxes$Tally" "size" "I" ∈ gt := gt_tb 423 (by decide +kernel) rfl
set_option maxRecDepth 20000 in
theorem fl_X4_15 : Cond.fieldLink RX4 15 "HundredBoxes$Tally" "tables" "LHundredBoxes$Tables;" ∈ gt := gt_tb 424 (by decide +kernel) rfl
set_option maxRecDepth 20000 in
theorem fl_X4_23 : Cond.fieldLink RX4 23 "HundredBoxes$Tally" "orders" "[J" ∈ gt := gt_tb 425 (by decide +kernel) rfl
set_option maxRecDepth 20000 in
theorem fl_X7_7 : Cond.fieldLink RX7 7 "HundredBoxesModel" "n" "I" ∈ gt := gt_tb 600 (by decide +kernel) rfl
set_option maxRecDepth 20000 in
theorem fl_X7_13 : Cond.fieldLink RX7 13 "HundredBoxesModel" "order" "[I" ∈ gt := gt_tb 601 (by decide +kernel) rfl
set_option maxRecDepth 20000 in
theorem fl_X7_17 : Cond.fieldLink RX7 17 "HundredBoxesModel" "shelf" "[I" ∈ gt := gt_tb 602 (by decide +kernel) rfl
set_option maxRecDepth 20000 in
theorem fl_X7_20 : Cond.fieldLink RX7 20 "HundredBoxesModel" "opens" "I" ∈ gt := gt_tb 603 (by decide +kernel) rfl
set_option maxRecDepth 20000 in
theorem fl_X7_23 : Cond.fieldLink RX7 23 "HundredBoxesModel" "lists" "[I" ∈ gt := gt_tb 604 (by decide +kernel) rfl
set_option maxRecDepth 20000 in
theorem fl_X7_26 : Cond.fieldLink RX7 26 "HundredBoxesModel" "listed" "[I" ∈ gt := gt_tb 605 (by decide +kernel) rfl
set_option maxRecDepth 20000 in
theorem fl_X7_29 : Cond.fieldLink RX7 29 "HundredBoxesModel" "work" "[I" ∈ gt := gt_tb 606 (by decide +kernel) rfl
set_option maxRecDepth 20000 in
theorem fl_X7_32 : Cond.fieldLink RX7 32 "HundredBoxesModel" "counts" "[J" ∈ gt := gt_tb 607 (by decide +kernel) rfl
set_option maxRecDepth 20000 in
theorem fl_X7_36 : Cond.fieldLink RX7 36 "HundredBoxesModel" "older" "[J" ∈ gt := gt_tb 608 (by decide +kernel) rfl
set_option maxRecDepth 20000 in
theorem fl_X7_39 : Cond.fieldLink RX7 39 "HundredBoxesModel" "products" "[J" ∈ gt := gt_tb 609 (by decide +kernel) rfl
set_option maxRecDepth 20000 in
theorem fl_X7_42 : Cond.fieldLink RX7 42 "HundredBoxesModel" "part" "[I" ∈ gt := gt_tb 610 (by decide +kernel) rfl
set_option maxRecDepth 20000 in
theorem fl_X7_95 : Cond.fieldLink RX7 95 "HundredBoxesModel" "parts" "I" ∈ gt := gt_tb 611 (by decide +kernel) rfl
set_option maxRecDepth 20000 in
theorem fl_X7_45 : Cond.fieldLink RX7 45 "HundredBoxesModel" "ways" "[J" ∈ gt := gt_tb 612 (by decide +kernel) rfl
set_option maxRecDepth 20000 in
theorem fl_X7_143 : Cond.fieldLink RX7 143 "HundredBoxesModel" "used" "I" ∈ gt := gt_tb 613 (by decide +kernel) rfl
set_option maxRecDepth 20000 in
theorem fl_X7_140 : Cond.fieldLink RX7 140 "HundredBoxesModel" "greaterNow" "I" ∈ gt := gt_tb 614 (by decide +kernel) rfl
set_option maxRecDepth 20000 in
theorem fl_X7_137 : Cond.fieldLink RX7 137 "HundredBoxesModel" "countNow" "I" ∈ gt := gt_tb 615 (by decide +kernel) rfl
set_option maxRecDepth 20000 in
theorem ml_L_9 : Cond.methodLink RL 9 yX6_init ∈ gt := gt_tb 13 (by decide +kernel) rfl
set_option maxRecDepth 20000 in
theorem ml_X6_1 : Cond.methodLink RX6 1 objectInit ∈ gt := gt_tb 16 (by decide +kernel) rfl
set_option maxRecDepth 20000 in
theorem ml_X1_3 : Cond.methodLink RX1 3 objectInit ∈ gt := gt_tb 24 (by decide +kernel) rfl
set_option maxRecDepth 20000 in
theorem ml_X0_3 : Cond.methodLink RX0 3 objectInit ∈ gt := gt_tb 42 (by decide +kernel) rfl
set_option maxRecDepth 20000 in
theorem ml_X6_29 : Cond.methodLink RX6 29 yX3_init ∈ gt := gt_tb 58 (by decide +kernel) rfl
set_option maxRecDepth 20000 in
theorem ml_X3_3 : Cond.methodLink RX3 3 objectInit ∈ gt := gt_tb 61 (by decide +kernel) rfl
set_option maxRecDepth 20000 in
theorem ml_X3_26 : Cond.methodLink RX3 26 yX3_riseSlot ∈ gt := gt_tb 64 (by decide +kernel) rfl
set_option maxRecDepth 20000 in
theorem ml_X3_33 : Cond.methodLink RX3 33 yX3_fillFactorials ∈ gt := gt_tb 67 (by decide +kernel) rfl
set_option maxRecDepth 20000 in
theorem ml_X3_36 : Cond.methodLink RX3 36 yX3_fillDeranged ∈ gt := gt_tb 71 (by decide +kernel) rfl
set_option maxRecDepth 20000 in
theorem ml_X3_39 : Cond.methodLink RX3 39 yX3_fillRecords ∈ gt := gt_tb 75 (by decide +kernel) rfl
set_option maxRecDepth 20000 in
theorem ml_X3_42 : Cond.methodLink RX3 42 yX3_fillRoundsUpTo ∈ gt := gt_tb 79 (by decide +kernel) rfl
set_option maxRecDepth 20000 in
theorem ml_X3_48 : Cond.methodLink RX3 48 yX3_sumByRoundOfLast ∈ gt := gt_tb 83 (by decide +kernel) rfl
set_option maxRecDepth 20000 in
theorem ml_X3_45 : Cond.methodLink RX3 45 yX3_fillRises ∈ gt := gt_tb 87 (by decide +kernel) rfl
set_option maxRecDepth 20000 in
theorem ml_X3_52 : Cond.methodLink RX3 52 yX3_fillRisesByBelow ∈ gt := gt_tb 91 (by decide +kernel) rfl
set_option maxRecDepth 20000 in
theorem ml_X3_56 : Cond.methodLink RX3 56 yX3_withRises ∈ gt := gt_tb 95 (by decide +kernel) rfl
set_option maxRecDepth 20000 in
theorem ml_X6_36 : Cond.methodLink RX6 36 yX5_init ∈ gt := gt_tb 120 (by decide +kernel) rfl
set_option maxRecDepth 20000 in
theorem ml_X5_3 : Cond.methodLink RX5 3 objectInit ∈ gt := gt_tb 123 (by decide +kernel) rfl
set_option maxRecDepth 20000 in
theorem ml_X6_49 : Cond.methodLink RX6 49 yX6_startWith ∈ gt := gt_tb 152 (by decide +kernel) rfl
set_option maxRecDepth 20000 in
theorem ml_X6_177 : Cond.methodLink RX6 177 Lib.Math.min.name ∈ gt := gt_tb 156 (by decide +kernel) rfl
set_option maxRecDepth 20000 in
theorem ml_X6_182 : Cond.methodLink RX6 182 yX1_startWith ∈ gt := gt_tb 159 (by decide +kernel) rfl
set_option maxRecDepth 20000 in
theorem ml_X1_18 : Cond.methodLink RX1 18 Lib.Math.min.name ∈ gt := gt_tb 163 (by decide +kernel) rfl
set_option maxRecDepth 20000 in
theorem ml_X6_183 : Cond.methodLink RX6 183 yX0_emptyAll ∈ gt := gt_tb 164 (by decide +kernel) rfl
set_option maxRecDepth 20000 in
theorem ml_L_13 : Cond.methodLink RL 13 yX6_things ∈ gt := gt_tb 193 (by decide +kernel) rfl
set_option maxRecDepth 20000 in
theorem ml_L_20 : Cond.methodLink RL 20 yX6_order ∈ gt := gt_tb 197 (by decide +kernel) rfl
set_option maxRecDepth 20000 in
theorem ml_X6_53 : Cond.methodLink RX6 53 yX1_readFigures ∈ gt := gt_tb 201 (by decide +kernel) rfl
set_option maxRecDepth 20000 in
theorem ml_X1_28 : Cond.methodLink RX1 28 yX1_holds ∈ gt := gt_tb 206 (by decide +kernel) rfl
set_option maxRecDepth 20000 in
theorem ml_X1_34 : Cond.methodLink RX1 34 yX1_keepMade ∈ gt := gt_tb 210 (by decide +kernel) rfl
set_option maxRecDepth 20000 in
theorem ml_L_25 : Cond.methodLink RL 25 yX6_at ∈ gt := gt_tb 214 (by decide +kernel) rfl
set_option maxRecDepth 20000 in
theorem ml_X6_57 : Cond.methodLink RX6 57 yX6_isThing ∈ gt := gt_tb 218 (by decide +kernel) rfl
set_option maxRecDepth 20000 in
theorem ml_X6_61 : Cond.methodLink RX6 61 yX1_follow ∈ gt := gt_tb 222 (by decide +kernel) rfl
set_option maxRecDepth 20000 in
theorem ml_L_29 : Cond.methodLink RL 29 yX6_swap ∈ gt := gt_tb 226 (by decide +kernel) rfl
set_option maxRecDepth 20000 in
theorem ml_X6_65 : Cond.methodLink RX6 65 yX1_exchange ∈ gt := gt_tb 230 (by decide +kernel) rfl
set_option maxRecDepth 20000 in
theorem ml_L_34 : Cond.methodLink RL 34 yX6_lay ∈ gt := gt_tb 234 (by decide +kernel) rfl
set_option maxRecDepth 20000 in
theorem ml_X6_69 : Cond.methodLink RX6 69 yX6_isPlace ∈ gt := gt_tb 238 (by decide +kernel) rfl
set_option maxRecDepth 20000 in
theorem ml_X6_72 : Cond.methodLink RX6 72 yX1_copyFrom ∈ gt := gt_tb 241 (by decide +kernel) rfl
set_option maxRecDepth 20000 in
theorem ml_L_38 : Cond.methodLink RL 38 yX6_take ∈ gt := gt_tb 245 (by decide +kernel) rfl
set_option maxRecDepth 20000 in
theorem ml_L_42 : Cond.methodLink RL 42 yX6_then ∈ gt := gt_tb 249 (by decide +kernel) rfl
set_option maxRecDepth 20000 in
theorem ml_X6_76 : Cond.methodLink RX6 76 yX1_goOnBy ∈ gt := gt_tb 253 (by decide +kernel) rfl
set_option maxRecDepth 20000 in
theorem ml_X1_37 : Cond.methodLink RX1 37 yX1_follow ∈ gt := gt_tb 257 (by decide +kernel) rfl
set_option maxRecDepth 20000 in
theorem ml_L_46 : Cond.methodLink RL 46 yX6_back ∈ gt := gt_tb 258 (by decide +kernel) rfl
set_option maxRecDepth 20000 in
theorem ml_X6_79 : Cond.methodLink RX6 79 yX1_turnBack ∈ gt := gt_tb 262 (by decide +kernel) rfl
set_option maxRecDepth 20000 in
theorem ml_X1_41 : Cond.methodLink RX1 41 yX1_makeAt ∈ gt := gt_tb 266 (by decide +kernel) rfl
set_option maxRecDepth 20000 in
theorem ml_L_51 : Cond.methodLink RL 51 yX6_number ∈ gt := gt_tb 270 (by decide +kernel) rfl
set_option maxRecDepth 20000 in
theorem ml_X6_82 : Cond.methodLink RX6 82 yX6_isKind ∈ gt := gt_tb 274 (by decide +kernel) rfl
set_option maxRecDepth 20000 in
theorem ml_X6_85 : Cond.methodLink RX6 85 yX1_numberOf ∈ gt := gt_tb 277 (by decide +kernel) rfl
set_option maxRecDepth 20000 in
theorem ml_X1_54 : Cond.methodLink RX1 54 yX1_rounds ∈ gt := gt_tb 281 (by decide +kernel) rfl
set_option maxRecDepth 20000 in
theorem ml_X1_48 : Cond.methodLink RX1 48 yX1_leadsRound ∈ gt := gt_tb 285 (by decide +kernel) rfl
set_option maxRecDepth 20000 in
theorem ml_X1_58 : Cond.methodLink RX1 58 yX1_records ∈ gt := gt_tb 289 (by decide +kernel) rfl
set_option maxRecDepth 20000 in
theorem ml_X1_61 : Cond.methodLink RX1 61 yX1_rises ∈ gt := gt_tb 293 (by decide +kernel) rfl
set_option maxRecDepth 20000 in
theorem ml_X1_64 : Cond.methodLink RX1 64 yX1_still ∈ gt := gt_tb 297 (by decide +kernel) rfl
set_option maxRecDepth 20000 in
theorem ml_X1_67 : Cond.methodLink RX1 67 yX1_longestRound ∈ gt := gt_tb 301 (by decide +kernel) rfl
set_option maxRecDepth 20000 in
theorem ml_X1_51 : Cond.methodLink RX1 51 yX1_roundLength ∈ gt := gt_tb 305 (by decide +kernel) rfl
set_option maxRecDepth 20000 in
theorem ml_X1_45 : Cond.methodLink RX1 45 Lib.Math.max.name ∈ gt := gt_tb 309 (by decide +kernel) rfl
set_option maxRecDepth 20000 in
theorem ml_X1_70 : Cond.methodLink RX1 70 yX1_pairsOut ∈ gt := gt_tb 312 (by decide +kernel) rfl
set_option maxRecDepth 20000 in
theorem ml_X1_73 : Cond.methodLink RX1 73 yX1_longestRise ∈ gt := gt_tb 316 (by decide +kernel) rfl
set_option maxRecDepth 20000 in
theorem ml_X1_76 : Cond.methodLink RX1 76 yX1_turns ∈ gt := gt_tb 320 (by decide +kernel) rfl
set_option maxRecDepth 20000 in
theorem ml_X6_109 : Cond.methodLink RX6 109 yX6_commonDivisor ∈ gt := gt_tb 327 (by decide +kernel) rfl
set_option maxRecDepth 20000 in
theorem ml_X6_113 : Cond.methodLink RX6 113 yX6_quotient ∈ gt := gt_tb 330 (by decide +kernel) rfl
set_option maxRecDepth 20000 in
theorem ml_L_55 : Cond.methodLink RL 55 yX6_many ∈ gt := gt_tb 333 (by decide +kernel) rfl
set_option maxRecDepth 20000 in
theorem ml_X6_88 : Cond.methodLink RX6 88 yX6_tallyOf ∈ gt := gt_tb 337 (by decide +kernel) rfl
set_option maxRecDepth 20000 in
theorem ml_X6_186 : Cond.methodLink RX6 186 yX4_init ∈ gt := gt_tb 342 (by decide +kernel) rfl
set_option maxRecDepth 20000 in
theorem ml_X4_3 : Cond.methodLink RX4 3 objectInit ∈ gt := gt_tb 345 (by decide +kernel) rfl
set_option maxRecDepth 20000 in
theorem ml_X4_19 : Cond.methodLink RX4 19 yX4_greatest ∈ gt := gt_tb 346 (by decide +kernel) rfl
set_option maxRecDepth 20000 in
theorem ml_X4_37 : Cond.methodLink RX4 37 Lib.Math.max.name ∈ gt := gt_tb 349 (by decide +kernel) rfl
set_option maxRecDepth 20000 in
theorem ml_X4_27 : Cond.methodLink RX4 27 yX4_fillPairsOut ∈ gt := gt_tb 350 (by decide +kernel) rfl
set_option maxRecDepth 20000 in
theorem ml_X4_30 : Cond.methodLink RX4 30 yX4_fillByPartitions ∈ gt := gt_tb 354 (by decide +kernel) rfl
set_option maxRecDepth 20000 in
theorem ml_X4_63 : Cond.methodLink RX4 63 yX2_init ∈ gt := gt_tb 360 (by decide +kernel) rfl
set_option maxRecDepth 20000 in
theorem ml_X2_3 : Cond.methodLink RX2 3 objectInit ∈ gt := gt_tb 363 (by decide +kernel) rfl
set_option maxRecDepth 20000 in
theorem ml_X4_65 : Cond.methodLink RX4 65 yX3_ordersOf ∈ gt := gt_tb 371 (by decide +kernel) rfl
set_option maxRecDepth 20000 in
theorem ml_X4_69 : Cond.methodLink RX4 69 yX2_hookProduct ∈ gt := gt_tb 375 (by decide +kernel) rfl
set_option maxRecDepth 20000 in
theorem ml_X4_77 : Cond.methodLink RX4 77 yX2_firstPart ∈ gt := gt_tb 380 (by decide +kernel) rfl
set_option maxRecDepth 20000 in
theorem ml_X4_81 : Cond.methodLink RX4 81 yX4_addOrders ∈ gt := gt_tb 384 (by decide +kernel) rfl
set_option maxRecDepth 20000 in
theorem ml_X4_85 : Cond.methodLink RX4 85 yX2_turns ∈ gt := gt_tb 388 (by decide +kernel) rfl
set_option maxRecDepth 20000 in
theorem ml_X4_88 : Cond.methodLink RX4 88 yX2_sameRounds ∈ gt := gt_tb 393 (by decide +kernel) rfl
set_option maxRecDepth 20000 in
theorem ml_X4_91 : Cond.methodLink RX4 91 yX2_goOn ∈ gt := gt_tb 397 (by decide +kernel) rfl
set_option maxRecDepth 20000 in
theorem ml_X2_19 : Cond.methodLink RX2 19 Lib.Math.min.name ∈ gt := gt_tb 401 (by decide +kernel) rfl
set_option maxRecDepth 20000 in
theorem ml_X4_34 : Cond.methodLink RX4 34 yX4_fillByTables ∈ gt := gt_tb 402 (by decide +kernel) rfl
set_option maxRecDepth 20000 in
theorem ml_X4_42 : Cond.methodLink RX4 42 yX4_fromTables ∈ gt := gt_tb 406 (by decide +kernel) rfl
set_option maxRecDepth 20000 in
theorem ml_X4_46 : Cond.methodLink RX4 46 yX3_withRecords ∈ gt := gt_tb 410 (by decide +kernel) rfl
set_option maxRecDepth 20000 in
theorem ml_X4_52 : Cond.methodLink RX4 52 yX3_withRises ∈ gt := gt_tb 414 (by decide +kernel) rfl
set_option maxRecDepth 20000 in
theorem ml_X4_55 : Cond.methodLink RX4 55 yX3_withStill ∈ gt := gt_tb 415 (by decide +kernel) rfl
set_option maxRecDepth 20000 in
theorem ml_X4_58 : Cond.methodLink RX4 58 yX3_withRoundsUpTo ∈ gt := gt_tb 419 (by decide +kernel) rfl
set_option maxRecDepth 20000 in
theorem ml_X6_92 : Cond.methodLink RX6 92 yX4_ordersWith ∈ gt := gt_tb 433 (by decide +kernel) rfl
set_option maxRecDepth 20000 in
theorem ml_L_60 : Cond.methodLink RL 60 yX6_mean ∈ gt := gt_tb 439 (by decide +kernel) rfl
set_option maxRecDepth 20000 in
theorem ml_X6_98 : Cond.methodLink RX6 98 yX4_sumOfNumbers ∈ gt := gt_tb 443 (by decide +kernel) rfl
set_option maxRecDepth 20000 in
theorem ml_X6_106 : Cond.methodLink RX6 106 yX3_ordersOf ∈ gt := gt_tb 447 (by decide +kernel) rfl
set_option maxRecDepth 20000 in
theorem ml_L_64 : Cond.methodLink RL 64 yX6_row ∈ gt := gt_tb 448 (by decide +kernel) rfl
set_option maxRecDepth 20000 in
theorem ml_X6_116 : Cond.methodLink RX6 116 yX6_isRowKind ∈ gt := gt_tb 452 (by decide +kernel) rfl
set_option maxRecDepth 20000 in
theorem ml_X6_119 : Cond.methodLink RX6 119 yX5_start ∈ gt := gt_tb 455 (by decide +kernel) rfl
set_option maxRecDepth 20000 in
theorem ml_X5_23 : Cond.methodLink RX5 23 Lib.Math.min.name ∈ gt := gt_tb 459 (by decide +kernel) rfl
set_option maxRecDepth 20000 in
theorem ml_X6_123 : Cond.methodLink RX6 123 yX5_waysAtStart ∈ gt := gt_tb 460 (by decide +kernel) rfl
set_option maxRecDepth 20000 in
theorem ml_X5_44 : Cond.methodLink RX5 44 yX5_ways ∈ gt := gt_tb 464 (by decide +kernel) rfl
set_option maxRecDepth 20000 in
theorem ml_X5_75 : Cond.methodLink RX5 75 yX3_withRecords ∈ gt := gt_tb 468 (by decide +kernel) rfl
set_option maxRecDepth 20000 in
theorem ml_X5_81 : Cond.methodLink RX5 81 yX3_withRises ∈ gt := gt_tb 469 (by decide +kernel) rfl
set_option maxRecDepth 20000 in
theorem ml_X5_84 : Cond.methodLink RX5 84 yX3_ordersOf ∈ gt := gt_tb 470 (by decide +kernel) rfl
set_option maxRecDepth 20000 in
theorem ml_X6_126 : Cond.methodLink RX6 126 yX5_writeRow ∈ gt := gt_tb 471 (by decide +kernel) rfl
set_option maxRecDepth 20000 in
theorem ml_X5_48 : Cond.methodLink RX5 48 yX5_waysWith ∈ gt := gt_tb 475 (by decide +kernel) rfl
set_option maxRecDepth 20000 in
theorem ml_X5_69 : Cond.methodLink RX5 69 Lib.Math.max.name ∈ gt := gt_tb 479 (by decide +kernel) rfl
set_option maxRecDepth 20000 in
theorem ml_X5_72 : Cond.methodLink RX5 72 yX5_wantedAfter ∈ gt := gt_tb 480 (by decide +kernel) rfl
set_option maxRecDepth 20000 in
theorem ml_X5_52 : Cond.methodLink RX5 52 yX1_makeAt ∈ gt := gt_tb 484 (by decide +kernel) rfl
set_option maxRecDepth 20000 in
theorem ml_X5_58 : Cond.methodLink RX5 58 yX5_step ∈ gt := gt_tb 485 (by decide +kernel) rfl
set_option maxRecDepth 20000 in
theorem ml_X5_62 : Cond.methodLink RX5 62 yX1_keepMade ∈ gt := gt_tb 489 (by decide +kernel) rfl
set_option maxRecDepth 20000 in
theorem ml_L_69 : Cond.methodLink RL 69 yX6_place ∈ gt := gt_tb 490 (by decide +kernel) rfl
set_option maxRecDepth 20000 in
theorem ml_X6_130 : Cond.methodLink RX6 130 yX5_rowsAheadOf ∈ gt := gt_tb 494 (by decide +kernel) rfl
set_option maxRecDepth 20000 in
theorem ml_X5_65 : Cond.methodLink RX5 65 yX1_follow ∈ gt := gt_tb 498 (by decide +kernel) rfl
set_option maxRecDepth 20000 in
theorem ml_L_74 : Cond.methodLink RL 74 yX6_toRounds ∈ gt := gt_tb 499 (by decide +kernel) rfl
set_option maxRecDepth 20000 in
theorem ml_X6_134 : Cond.methodLink RX6 134 yX1_makeRounds ∈ gt := gt_tb 503 (by decide +kernel) rfl
set_option maxRecDepth 20000 in
theorem ml_L_78 : Cond.methodLink RL 78 yX6_toRecords ∈ gt := gt_tb 507 (by decide +kernel) rfl
set_option maxRecDepth 20000 in
theorem ml_X6_137 : Cond.methodLink RX6 137 yX1_makeRecords ∈ gt := gt_tb 511 (by decide +kernel) rfl
set_option maxRecDepth 20000 in
theorem ml_L_82 : Cond.methodLink RL 82 yX6_opens ∈ gt := gt_tb 515 (by decide +kernel) rfl
set_option maxRecDepth 20000 in
theorem ml_L_86 : Cond.methodLink RL 86 yX6_list ∈ gt := gt_tb 519 (by decide +kernel) rfl
set_option maxRecDepth 20000 in
theorem ml_X6_143 : Cond.methodLink RX6 143 yX0_hasBox ∈ gt := gt_tb 523 (by decide +kernel) rfl
set_option maxRecDepth 20000 in
theorem ml_X0_28 : Cond.methodLink RX0 28 yX0_firstOf ∈ gt := gt_tb 527 (by decide +kernel) rfl
set_option maxRecDepth 20000 in
theorem ml_X0_24 : Cond.methodLink RX0 24 yX0_holds ∈ gt := gt_tb 531 (by decide +kernel) rfl
set_option maxRecDepth 20000 in
theorem ml_X0_32 : Cond.methodLink RX0 32 Lib.Math.min.name ∈ gt := gt_tb 535 (by decide +kernel) rfl
set_option maxRecDepth 20000 in
theorem ml_X6_147 : Cond.methodLink RX6 147 yX0_addBox ∈ gt := gt_tb 536 (by decide +kernel) rfl
set_option maxRecDepth 20000 in
theorem ml_L_90 : Cond.methodLink RL 90 yX6_forget ∈ gt := gt_tb 540 (by decide +kernel) rfl
set_option maxRecDepth 20000 in
theorem ml_X6_151 : Cond.methodLink RX6 151 yX0_emptyOne ∈ gt := gt_tb 544 (by decide +kernel) rfl
set_option maxRecDepth 20000 in
theorem ml_L_94 : Cond.methodLink RL 94 yX6_wins ∈ gt := gt_tb 548 (by decide +kernel) rfl
set_option maxRecDepth 20000 in
theorem ml_X6_154 : Cond.methodLink RX6 154 yX6_isWay ∈ gt := gt_tb 552 (by decide +kernel) rfl
set_option maxRecDepth 20000 in
theorem ml_X6_157 : Cond.methodLink RX6 157 yX1_roundLength ∈ gt := gt_tb 555 (by decide +kernel) rfl
set_option maxRecDepth 20000 in
theorem ml_X6_160 : Cond.methodLink RX6 160 yX0_findsOwnThing ∈ gt := gt_tb 556 (by decide +kernel) rfl
set_option maxRecDepth 20000 in
theorem ml_X0_37 : Cond.methodLink RX0 37 yX1_follow ∈ gt := gt_tb 560 (by decide +kernel) rfl
set_option maxRecDepth 20000 in
theorem ml_L_98 : Cond.methodLink RL 98 yX6_allWin ∈ gt := gt_tb 561 (by decide +kernel) rfl
set_option maxRecDepth 20000 in
theorem ml_X6_164 : Cond.methodLink RX6 164 yX3_withRoundsUpTo ∈ gt := gt_tb 565 (by decide +kernel) rfl
set_option maxRecDepth 20000 in
theorem ml_X6_170 : Cond.methodLink RX6 170 yX0_ordersWonByAll ∈ gt := gt_tb 567 (by decide +kernel) rfl
set_option maxRecDepth 20000 in
theorem ml_X0_45 : Cond.methodLink RX0 45 yX0_placeNextThing ∈ gt := gt_tb 572 (by decide +kernel) rfl
set_option maxRecDepth 20000 in
theorem ml_X0_49 : Cond.methodLink RX0 49 yJ6_bitCount_0f7a4 ∈ gt := gt_tb 576 (by decide +kernel) rfl
set_option maxRecDepth 20000 in
theorem ml_L_102 : Cond.methodLink RL 102 yX6_count ∈ gt := gt_tb 582 (by decide +kernel) rfl
set_option maxRecDepth 20000 in
theorem ml_X6_173 : Cond.methodLink RX6 173 yX0_boxesInAll ∈ gt := gt_tb 586 (by decide +kernel) rfl
set_option maxRecDepth 20000 in
theorem ml_L_12 : Cond.methodLink RL 12 yX7_init ∈ gt := gt_tb 592 (by decide +kernel) rfl
set_option maxRecDepth 20000 in
theorem ml_X7_1 : Cond.methodLink RX7 1 objectInit ∈ gt := gt_tb 595 (by decide +kernel) rfl
set_option maxRecDepth 20000 in
theorem ml_X7_48 : Cond.methodLink RX7 48 yX7_begin ∈ gt := gt_tb 596 (by decide +kernel) rfl
set_option maxRecDepth 20000 in
theorem ml_L_17 : Cond.methodLink RL 17 yX7_things ∈ gt := gt_tb 649 (by decide +kernel) rfl
set_option maxRecDepth 20000 in
theorem ml_X7_51 : Cond.methodLink RX7 51 yX7_in ∈ gt := gt_tb 654 (by decide +kernel) rfl
set_option maxRecDepth 20000 in
theorem ml_L_24 : Cond.methodLink RL 24 yX7_order ∈ gt := gt_tb 657 (by decide +kernel) rfl
set_option maxRecDepth 20000 in
theorem ml_X7_57 : Cond.methodLink RX7 57 yX7_become ∈ gt := gt_tb 661 (by decide +kernel) rfl
set_option maxRecDepth 20000 in
theorem ml_L_28 : Cond.methodLink RL 28 yX7_at ∈ gt := gt_tb 665 (by decide +kernel) rfl
set_option maxRecDepth 20000 in
theorem ml_X7_60 : Cond.methodLink RX7 60 yX7_isThing ∈ gt := gt_tb 669 (by decide +kernel) rfl
set_option maxRecDepth 20000 in
theorem ml_L_33 : Cond.methodLink RL 33 yX7_swap ∈ gt := gt_tb 673 (by decide +kernel) rfl
set_option maxRecDepth 20000 in
theorem ml_L_37 : Cond.methodLink RL 37 yX7_lay ∈ gt := gt_tb 677 (by decide +kernel) rfl
set_option maxRecDepth 20000 in
theorem ml_L_41 : Cond.methodLink RL 41 yX7_take ∈ gt := gt_tb 682 (by decide +kernel) rfl
set_option maxRecDepth 20000 in
theorem ml_L_45 : Cond.methodLink RL 45 yX7_then ∈ gt := gt_tb 686 (by decide +kernel) rfl
set_option maxRecDepth 20000 in
theorem ml_L_50 : Cond.methodLink RL 50 yX7_back ∈ gt := gt_tb 690 (by decide +kernel) rfl
set_option maxRecDepth 20000 in
theorem ml_L_54 : Cond.methodLink RL 54 yX7_number ∈ gt := gt_tb 694 (by decide +kernel) rfl
set_option maxRecDepth 20000 in
theorem ml_X7_89 : Cond.methodLink RX7 89 yX7_numberOf ∈ gt := gt_tb 699 (by decide +kernel) rfl
set_option maxRecDepth 20000 in
theorem ml_X7_66 : Cond.methodLink RX7 66 yX7_roundOf ∈ gt := gt_tb 703 (by decide +kernel) rfl
set_option maxRecDepth 20000 in
theorem ml_X7_70 : Cond.methodLink RX7 70 yX7_common ∈ gt := gt_tb 707 (by decide +kernel) rfl
set_option maxRecDepth 20000 in
theorem ml_X7_74 : Cond.methodLink RX7 74 yX7_isFirst ∈ gt := gt_tb 710 (by decide +kernel) rfl
set_option maxRecDepth 20000 in
theorem ml_X7_77 : Cond.methodLink RX7 77 yX7_isRecord ∈ gt := gt_tb 714 (by decide +kernel) rfl
set_option maxRecDepth 20000 in
theorem ml_X7_80 : Cond.methodLink RX7 80 yX7_out ∈ gt := gt_tb 718 (by decide +kernel) rfl
set_option maxRecDepth 20000 in
theorem ml_X7_84 : Cond.methodLink RX7 84 yX7_longestRise ∈ gt := gt_tb 722 (by decide +kernel) rfl
set_option maxRecDepth 20000 in
theorem ml_L_59 : Cond.methodLink RL 59 yX7_many ∈ gt := gt_tb 726 (by decide +kernel) rfl
set_option maxRecDepth 20000 in
theorem ml_X7_124 : Cond.methodLink RX7 124 yX7_findCounts ∈ gt := gt_tb 731 (by decide +kernel) rfl
set_option maxRecDepth 20000 in
theorem ml_X7_112 : Cond.methodLink RX7 112 yX7_layProducts ∈ gt := gt_tb 735 (by decide +kernel) rfl
set_option maxRecDepth 20000 in
theorem ml_X7_115 : Cond.methodLink RX7 115 yX7_countByThings ∈ gt := gt_tb 739 (by decide +kernel) rfl
set_option maxRecDepth 20000 in
theorem ml_X7_92 : Cond.methodLink RX7 92 yX7_step ∈ gt := gt_tb 743 (by decide +kernel) rfl
set_option maxRecDepth 20000 in
theorem ml_X7_119 : Cond.methodLink RX7 119 yX7_countByShapes ∈ gt := gt_tb 747 (by decide +kernel) rfl
set_option maxRecDepth 20000 in
theorem ml_X7_98 : Cond.methodLink RX7 98 yX7_shapeNumber ∈ gt := gt_tb 751 (by decide +kernel) rfl
set_option maxRecDepth 20000 in
theorem ml_X7_101 : Cond.methodLink RX7 101 yX7_byFillings ∈ gt := gt_tb 755 (by decide +kernel) rfl
set_option maxRecDepth 20000 in
theorem ml_X7_105 : Cond.methodLink RX7 105 yX7_byRounds ∈ gt := gt_tb 759 (by decide +kernel) rfl
set_option maxRecDepth 20000 in
theorem ml_X7_108 : Cond.methodLink RX7 108 yX7_nextShape ∈ gt := gt_tb 763 (by decide +kernel) rfl
set_option maxRecDepth 20000 in
theorem ml_L_63 : Cond.methodLink RL 63 yX7_mean ∈ gt := gt_tb 768 (by decide +kernel) rfl
set_option maxRecDepth 20000 in
theorem ml_L_68 : Cond.methodLink RL 68 yX7_row ∈ gt := gt_tb 772 (by decide +kernel) rfl
set_option maxRecDepth 20000 in
theorem ml_X7_149 : Cond.methodLink RX7 149 yX7_isKind ∈ gt := gt_tb 776 (by decide +kernel) rfl
set_option maxRecDepth 20000 in
theorem ml_X7_152 : Cond.methodLink RX7 152 yX7_beginRow ∈ gt := gt_tb 779 (by decide +kernel) rfl
set_option maxRecDepth 20000 in
theorem ml_X7_146 : Cond.methodLink RX7 146 yX7_layWays ∈ gt := gt_tb 783 (by decide +kernel) rfl
set_option maxRecDepth 20000 in
theorem ml_X7_129 : Cond.methodLink RX7 129 yX7_waysBy ∈ gt := gt_tb 787 (by decide +kernel) rfl
set_option maxRecDepth 20000 in
theorem ml_X7_133 : Cond.methodLink RX7 133 yX7_wayAt ∈ gt := gt_tb 791 (by decide +kernel) rfl
set_option maxRecDepth 20000 in
theorem ml_X7_156 : Cond.methodLink RX7 156 yX7_waysAt ∈ gt := gt_tb 794 (by decide +kernel) rfl
set_option maxRecDepth 20000 in
theorem ml_X7_160 : Cond.methodLink RX7 160 yX7_put ∈ gt := gt_tb 798 (by decide +kernel) rfl
set_option maxRecDepth 20000 in
theorem ml_L_73 : Cond.methodLink RL 73 yX7_place ∈ gt := gt_tb 802 (by decide +kernel) rfl
set_option maxRecDepth 20000 in
theorem ml_L_77 : Cond.methodLink RL 77 yX7_toRounds ∈ gt := gt_tb 806 (by decide +kernel) rfl
set_option maxRecDepth 20000 in
theorem ml_L_81 : Cond.methodLink RL 81 yX7_toRecords ∈ gt := gt_tb 810 (by decide +kernel) rfl
set_option maxRecDepth 20000 in
theorem ml_X7_164 : Cond.methodLink RX7 164 yX7_isGreatest ∈ gt := gt_tb 814 (by decide +kernel) rfl
set_option maxRecDepth 20000 in
theorem ml_L_85 : Cond.methodLink RL 85 yX7_opens ∈ gt := gt_tb 818 (by decide +kernel) rfl
set_option maxRecDepth 20000 in
theorem ml_L_89 : Cond.methodLink RL 89 yX7_list ∈ gt := gt_tb 822 (by decide +kernel) rfl
set_option maxRecDepth 20000 in
theorem ml_L_93 : Cond.methodLink RL 93 yX7_forget ∈ gt := gt_tb 826 (by decide +kernel) rfl
set_option maxRecDepth 20000 in
theorem ml_L_97 : Cond.methodLink RL 97 yX7_wins ∈ gt := gt_tb 830 (by decide +kernel) rfl
set_option maxRecDepth 20000 in
theorem ml_X7_167 : Cond.methodLink RX7 167 yX7_winsBy ∈ gt := gt_tb 834 (by decide +kernel) rfl
set_option maxRecDepth 20000 in
theorem ml_L_101 : Cond.methodLink RL 101 yX7_allWin ∈ gt := gt_tb 838 (by decide +kernel) rfl
set_option maxRecDepth 20000 in
theorem ml_X7_173 : Cond.methodLink RX7 173 yX7_layRow ∈ gt := gt_tb 843 (by decide +kernel) rfl
set_option maxRecDepth 20000 in
theorem ml_L_105 : Cond.methodLink RL 105 yX7_count ∈ gt := gt_tb 847 (by decide +kernel) rfl
set_option maxRecDepth 20000 in
theorem kl_X1_32 : Cond.constantLong RX1 32 (18) ∈ gt := gt_tb 205 (by decide +kernel) rfl
set_option maxRecDepth 20000 in
theorem kl_X6_96 : Cond.constantLong RX6 96 (-2) ∈ gt := gt_tb 438 (by decide +kernel) rfl
set_option maxRecDepth 20000 in
theorem kl_X6_168 : Cond.constantLong RX6 168 (-3) ∈ gt := gt_tb 566 (by decide +kernel) rfl
set_option maxRecDepth 20000 in
theorem kl_X0_43 : Cond.constantLong RX0 43 (-3) ∈ gt := gt_tb 571 (by decide +kernel) rfl
set_option maxRecDepth 20000 in
theorem kl_X7_55 : Cond.constantLong RX7 55 (18) ∈ gt := gt_tb 653 (by decide +kernel) rfl
set_option maxRecDepth 20000 in
theorem kl_X7_64 : Cond.constantLong RX7 64 (3) ∈ gt := gt_tb 681 (by decide +kernel) rfl
set_option maxRecDepth 20000 in
theorem kl_X7_87 : Cond.constantLong RX7 87 (7) ∈ gt := gt_tb 698 (by decide +kernel) rfl
set_option maxRecDepth 20000 in
theorem kl_X7_122 : Cond.constantLong RX7 122 (-2) ∈ gt := gt_tb 730 (by decide +kernel) rfl
set_option maxRecDepth 20000 in
theorem kl_X7_127 : Cond.constantLong RX7 127 (210) ∈ gt := gt_tb 767 (by decide +kernel) rfl
set_option maxRecDepth 20000 in
theorem kl_X7_171 : Cond.constantLong RX7 171 (-3) ∈ gt := gt_tb 842 (by decide +kernel) rfl
set_option maxRecDepth 20000 in
theorem kl_L_18 : Cond.constantLong RL 18 (4294967295) ∈ gt := gt_tb 851 (by decide +kernel) rfl
set_option maxRecDepth 20000 in
theorem ki_J6_265 : Cond.constant RJ6 265 (1431655765) ∈ gt := gt_tb 579 (by decide +kernel) rfl
set_option maxRecDepth 20000 in
theorem ki_J6_266 : Cond.constant RJ6 266 (858993459) ∈ gt := gt_tb 580 (by decide +kernel) rfl
set_option maxRecDepth 20000 in
theorem ki_J6_267 : Cond.constant RJ6 267 (252645135) ∈ gt := gt_tb 581 (by decide +kernel) rfl
set_option maxRecDepth 20000 in
theorem in_L : Cond.initialized RL ∈ gt := gt_tb 0 (by decide +kernel) rfl
set_option maxRecDepth 20000 in
theorem in_X6 : Cond.initialized RX6 ∈ gt := gt_tb 1 (by decide +kernel) rfl
set_option maxRecDepth 20000 in
theorem in_X1 : Cond.initialized RX1 ∈ gt := gt_tb 2 (by decide +kernel) rfl
set_option maxRecDepth 20000 in
theorem in_X0 : Cond.initialized RX0 ∈ gt := gt_tb 3 (by decide +kernel) rfl
set_option maxRecDepth 20000 in
theorem in_X3 : Cond.initialized RX3 ∈ gt := gt_tb 4 (by decide +kernel) rfl
set_option maxRecDepth 20000 in
theorem in_X5 : Cond.initialized RX5 ∈ gt := gt_tb 5 (by decide +kernel) rfl
set_option maxRecDepth 20000 in
theorem in_J9 : Cond.initialized RJ9 ∈ gt := gt_tb 6 (by decide +kernel) rfl
set_option maxRecDepth 20000 in
theorem in_X7 : Cond.initialized RX7 ∈ gt := gt_tb 7 (by decide +kernel) rfl
set_option maxRecDepth 20000 in
theorem in_X4 : Cond.initialized RX4 ∈ gt := gt_tb 8 (by decide +kernel) rfl
set_option maxRecDepth 20000 in
theorem in_X2 : Cond.initialized RX2 ∈ gt := gt_tb 9 (by decide +kernel) rfl
set_option maxRecDepth 20000 in
theorem in_J6 : Cond.initialized RJ6 ∈ gt := gt_tb 10 (by decide +kernel) rfl
set_option maxRecDepth 20000 in
theorem cl_L_7 : Cond.classLink RL 7 RX6 ∈ gt := gt_tb 11 (by decide +kernel) rfl
set_option maxRecDepth 20000 in
theorem cl_X6_7 : Cond.classLink RX6 7 RX1 ∈ gt := gt_tb 19 (by decide +kernel) rfl
set_option maxRecDepth 20000 in
theorem cl_X6_20 : Cond.classLink RX6 20 RX0 ∈ gt := gt_tb 37 (by decide +kernel) rfl
set_option maxRecDepth 20000 in
theorem cl_X0_9 : Cond.classLink RX0 9 "[[I" ∈ gt := gt_tb 43 (by decide +kernel) rfl
set_option maxRecDepth 20000 in
theorem cl_X6_27 : Cond.classLink RX6 27 RX3 ∈ gt := gt_tb 56 (by decide +kernel) rfl
set_option maxRecDepth 20000 in
theorem cl_X3_18 : Cond.classLink RX3 18 "[[J" ∈ gt := gt_tb 62 (by decide +kernel) rfl
set_option maxRecDepth 20000 in
theorem cl_X6_34 : Cond.classLink RX6 34 RX5 ∈ gt := gt_tb 118 (by decide +kernel) rfl
set_option maxRecDepth 20000 in
theorem cl_X6_43 : Cond.classLink RX6 43 RX4 ∈ gt := gt_tb 150 (by decide +kernel) rfl
set_option maxRecDepth 20000 in
theorem cl_X4_61 : Cond.classLink RX4 61 RX2 ∈ gt := gt_tb 358 (by decide +kernel) rfl
set_option maxRecDepth 20000 in
theorem cl_L_10 : Cond.classLink RL 10 RX7 ∈ gt := gt_tb 590 (by decide +kernel) rfl
set_option maxRecDepth 20000 in
theorem ib_X6 : Cond.instantiable RX6 8 ∈ gt := gt_tb 12 (by decide +kernel) rfl
set_option maxRecDepth 20000 in
theorem ib_X1 : Cond.instantiable RX1 3 ∈ gt := gt_tb 20 (by decide +kernel) rfl
set_option maxRecDepth 20000 in
theorem ib_X0 : Cond.instantiable RX0 3 ∈ gt := gt_tb 38 (by decide +kernel) rfl
set_option maxRecDepth 20000 in
theorem ib_X3 : Cond.instantiable RX3 5 ∈ gt := gt_tb 57 (by decide +kernel) rfl
set_option maxRecDepth 20000 in
theorem ib_X5 : Cond.instantiable RX5 8 ∈ gt := gt_tb 119 (by decide +kernel) rfl
set_option maxRecDepth 20000 in
theorem ib_X4 : Cond.instantiable RX4 3 ∈ gt := gt_tb 341 (by decide +kernel) rfl
set_option maxRecDepth 20000 in
theorem ib_X2 : Cond.instantiable RX2 2 ∈ gt := gt_tb 359 (by decide +kernel) rfl
set_option maxRecDepth 20000 in
theorem ib_X7 : Cond.instantiable RX7 16 ∈ gt := gt_tb 591 (by decide +kernel) rfl
set_option maxRecDepth 20000 in
theorem ac_int : Cond.arrayClass .int ∈ gt := gt_tb 35 (by decide +kernel) rfl
set_option maxRecDepth 20000 in
theorem ac_long : Cond.arrayClass .long ∈ gt := gt_tb 55 (by decide +kernel) rfl
set_option maxRecDepth 20000 in
theorem ac_boolean : Cond.arrayClass .boolean ∈ gt := gt_tb 149 (by decide +kernel) rfl
set_option maxRecDepth 20000 in
theorem im_X6_init : Cond.instanceMethod yX6_init ∈ gt := gt_tb 14 (by decide +kernel) rfl
set_option maxRecDepth 20000 in
theorem im_obj : Cond.instanceMethod objectInit ∈ gt := gt_tb 17 (by decide +kernel) rfl
set_option maxRecDepth 20000 in
theorem im_X1_init : Cond.instanceMethod yX1_init ∈ gt := gt_tb 22 (by decide +kernel) rfl
set_option maxRecDepth 20000 in
theorem im_X0_init : Cond.instanceMethod yX0_init ∈ gt := gt_tb 40 (by decide +kernel) rfl
set_option maxRecDepth 20000 in
theorem im_X3_init : Cond.instanceMethod yX3_init ∈ gt := gt_tb 59 (by decide +kernel) rfl
set_option maxRecDepth 20000 in
theorem im_X3_fillFactorials : Cond.instanceMethod yX3_fillFactorials ∈ gt := gt_tb 69 (by decide +kernel) rfl
set_option maxRecDepth 20000 in
theorem im_X3_fillDeranged : Cond.instanceMethod yX3_fillDeranged ∈ gt := gt_tb 73 (by decide +kernel) rfl
set_option maxRecDepth 20000 in
theorem im_X3_fillRecords : Cond.instanceMethod yX3_fillRecords ∈ gt := gt_tb 77 (by decide +kernel) rfl
set_option maxRecDepth 20000 in
theorem im_X3_fillRoundsUpTo : Cond.instanceMethod yX3_fillRoundsUpTo ∈ gt := gt_tb 81 (by decide +kernel) rfl
set_option maxRecDepth 20000 in
theorem im_X3_sumByRoundOfLast : Cond.instanceMethod yX3_sumByRoundOfLast ∈ gt := gt_tb 85 (by decide +kernel) rfl
set_option maxRecDepth 20000 in
theorem im_X3_fillRises : Cond.instanceMethod yX3_fillRises ∈ gt := gt_tb 89 (by decide +kernel) rfl
set_option maxRecDepth 20000 in
theorem im_X3_fillRisesByBelow : Cond.instanceMethod yX3_fillRisesByBelow ∈ gt := gt_tb 93 (by decide +kernel) rfl
set_option maxRecDepth 20000 in
theorem im_X3_withRises : Cond.instanceMethod yX3_withRises ∈ gt := gt_tb 96 (by decide +kernel) rfl
set_option maxRecDepth 20000 in
theorem im_X5_init : Cond.instanceMethod yX5_init ∈ gt := gt_tb 121 (by decide +kernel) rfl
set_option maxRecDepth 20000 in
theorem im_X6_startWith : Cond.instanceMethod yX6_startWith ∈ gt := gt_tb 154 (by decide +kernel) rfl
set_option maxRecDepth 20000 in
theorem im_X1_startWith : Cond.instanceMethod yX1_startWith ∈ gt := gt_tb 160 (by decide +kernel) rfl
set_option maxRecDepth 20000 in
theorem im_X0_emptyAll : Cond.instanceMethod yX0_emptyAll ∈ gt := gt_tb 165 (by decide +kernel) rfl
set_option maxRecDepth 20000 in
theorem im_X6_things : Cond.instanceMethod yX6_things ∈ gt := gt_tb 194 (by decide +kernel) rfl
set_option maxRecDepth 20000 in
theorem im_X6_order : Cond.instanceMethod yX6_order ∈ gt := gt_tb 198 (by decide +kernel) rfl
set_option maxRecDepth 20000 in
theorem im_X1_readFigures : Cond.instanceMethod yX1_readFigures ∈ gt := gt_tb 202 (by decide +kernel) rfl
set_option maxRecDepth 20000 in
theorem im_X1_holds : Cond.instanceMethod yX1_holds ∈ gt := gt_tb 207 (by decide +kernel) rfl
set_option maxRecDepth 20000 in
theorem im_X1_keepMade : Cond.instanceMethod yX1_keepMade ∈ gt := gt_tb 211 (by decide +kernel) rfl
set_option maxRecDepth 20000 in
theorem im_X6_at : Cond.instanceMethod yX6_at ∈ gt := gt_tb 215 (by decide +kernel) rfl
set_option maxRecDepth 20000 in
theorem im_X6_isThing : Cond.instanceMethod yX6_isThing ∈ gt := gt_tb 220 (by decide +kernel) rfl
set_option maxRecDepth 20000 in
theorem im_X1_follow : Cond.instanceMethod yX1_follow ∈ gt := gt_tb 223 (by decide +kernel) rfl
set_option maxRecDepth 20000 in
theorem im_X6_swap : Cond.instanceMethod yX6_swap ∈ gt := gt_tb 227 (by decide +kernel) rfl
set_option maxRecDepth 20000 in
theorem im_X1_exchange : Cond.instanceMethod yX1_exchange ∈ gt := gt_tb 231 (by decide +kernel) rfl
set_option maxRecDepth 20000 in
theorem im_X6_lay : Cond.instanceMethod yX6_lay ∈ gt := gt_tb 235 (by decide +kernel) rfl
set_option maxRecDepth 20000 in
theorem im_X1_copyFrom : Cond.instanceMethod yX1_copyFrom ∈ gt := gt_tb 242 (by decide +kernel) rfl
set_option maxRecDepth 20000 in
theorem im_X6_take : Cond.instanceMethod yX6_take ∈ gt := gt_tb 246 (by decide +kernel) rfl
set_option maxRecDepth 20000 in
theorem im_X6_then : Cond.instanceMethod yX6_then ∈ gt := gt_tb 250 (by decide +kernel) rfl
set_option maxRecDepth 20000 in
theorem im_X1_goOnBy : Cond.instanceMethod yX1_goOnBy ∈ gt := gt_tb 254 (by decide +kernel) rfl
set_option maxRecDepth 20000 in
theorem im_X6_back : Cond.instanceMethod yX6_back ∈ gt := gt_tb 259 (by decide +kernel) rfl
set_option maxRecDepth 20000 in
theorem im_X1_turnBack : Cond.instanceMethod yX1_turnBack ∈ gt := gt_tb 263 (by decide +kernel) rfl
set_option maxRecDepth 20000 in
theorem im_X1_makeAt : Cond.instanceMethod yX1_makeAt ∈ gt := gt_tb 267 (by decide +kernel) rfl
set_option maxRecDepth 20000 in
theorem im_X6_number : Cond.instanceMethod yX6_number ∈ gt := gt_tb 271 (by decide +kernel) rfl
set_option maxRecDepth 20000 in
theorem im_X1_numberOf : Cond.instanceMethod yX1_numberOf ∈ gt := gt_tb 278 (by decide +kernel) rfl
set_option maxRecDepth 20000 in
theorem im_X1_rounds : Cond.instanceMethod yX1_rounds ∈ gt := gt_tb 282 (by decide +kernel) rfl
set_option maxRecDepth 20000 in
theorem im_X1_leadsRound : Cond.instanceMethod yX1_leadsRound ∈ gt := gt_tb 286 (by decide +kernel) rfl
set_option maxRecDepth 20000 in
theorem im_X1_records : Cond.instanceMethod yX1_records ∈ gt := gt_tb 290 (by decide +kernel) rfl
set_option maxRecDepth 20000 in
theorem im_X1_rises : Cond.instanceMethod yX1_rises ∈ gt := gt_tb 294 (by decide +kernel) rfl
set_option maxRecDepth 20000 in
theorem im_X1_still : Cond.instanceMethod yX1_still ∈ gt := gt_tb 298 (by decide +kernel) rfl
set_option maxRecDepth 20000 in
theorem im_X1_longestRound : Cond.instanceMethod yX1_longestRound ∈ gt := gt_tb 302 (by decide +kernel) rfl
set_option maxRecDepth 20000 in
theorem im_X1_roundLength : Cond.instanceMethod yX1_roundLength ∈ gt := gt_tb 306 (by decide +kernel) rfl
set_option maxRecDepth 20000 in
theorem im_X1_pairsOut : Cond.instanceMethod yX1_pairsOut ∈ gt := gt_tb 313 (by decide +kernel) rfl
set_option maxRecDepth 20000 in
theorem im_X1_longestRise : Cond.instanceMethod yX1_longestRise ∈ gt := gt_tb 317 (by decide +kernel) rfl
set_option maxRecDepth 20000 in
theorem im_X1_turns : Cond.instanceMethod yX1_turns ∈ gt := gt_tb 321 (by decide +kernel) rfl
set_option maxRecDepth 20000 in
theorem im_X6_many : Cond.instanceMethod yX6_many ∈ gt := gt_tb 334 (by decide +kernel) rfl
set_option maxRecDepth 20000 in
theorem im_X6_tallyOf : Cond.instanceMethod yX6_tallyOf ∈ gt := gt_tb 339 (by decide +kernel) rfl
set_option maxRecDepth 20000 in
theorem im_X4_init : Cond.instanceMethod yX4_init ∈ gt := gt_tb 343 (by decide +kernel) rfl
set_option maxRecDepth 20000 in
theorem im_X4_fillPairsOut : Cond.instanceMethod yX4_fillPairsOut ∈ gt := gt_tb 352 (by decide +kernel) rfl
set_option maxRecDepth 20000 in
theorem im_X4_fillByPartitions : Cond.instanceMethod yX4_fillByPartitions ∈ gt := gt_tb 356 (by decide +kernel) rfl
set_option maxRecDepth 20000 in
theorem im_X2_init : Cond.instanceMethod yX2_init ∈ gt := gt_tb 361 (by decide +kernel) rfl
set_option maxRecDepth 20000 in
theorem im_X3_ordersOf : Cond.instanceMethod yX3_ordersOf ∈ gt := gt_tb 372 (by decide +kernel) rfl
set_option maxRecDepth 20000 in
theorem im_X2_hookProduct : Cond.instanceMethod yX2_hookProduct ∈ gt := gt_tb 376 (by decide +kernel) rfl
set_option maxRecDepth 20000 in
theorem im_X2_firstPart : Cond.instanceMethod yX2_firstPart ∈ gt := gt_tb 381 (by decide +kernel) rfl
set_option maxRecDepth 20000 in
theorem im_X4_addOrders : Cond.instanceMethod yX4_addOrders ∈ gt := gt_tb 386 (by decide +kernel) rfl
set_option maxRecDepth 20000 in
theorem im_X2_turns : Cond.instanceMethod yX2_turns ∈ gt := gt_tb 389 (by decide +kernel) rfl
set_option maxRecDepth 20000 in
theorem im_X2_sameRounds : Cond.instanceMethod yX2_sameRounds ∈ gt := gt_tb 394 (by decide +kernel) rfl
set_option maxRecDepth 20000 in
theorem im_X2_goOn : Cond.instanceMethod yX2_goOn ∈ gt := gt_tb 398 (by decide +kernel) rfl
set_option maxRecDepth 20000 in
theorem im_X4_fillByTables : Cond.instanceMethod yX4_fillByTables ∈ gt := gt_tb 404 (by decide +kernel) rfl
set_option maxRecDepth 20000 in
theorem im_X4_fromTables : Cond.instanceMethod yX4_fromTables ∈ gt := gt_tb 408 (by decide +kernel) rfl
set_option maxRecDepth 20000 in
theorem im_X3_withRecords : Cond.instanceMethod yX3_withRecords ∈ gt := gt_tb 411 (by decide +kernel) rfl
set_option maxRecDepth 20000 in
theorem im_X3_withStill : Cond.instanceMethod yX3_withStill ∈ gt := gt_tb 416 (by decide +kernel) rfl
set_option maxRecDepth 20000 in
theorem im_X3_withRoundsUpTo : Cond.instanceMethod yX3_withRoundsUpTo ∈ gt := gt_tb 420 (by decide +kernel) rfl
set_option maxRecDepth 20000 in
theorem im_X4_ordersWith : Cond.instanceMethod yX4_ordersWith ∈ gt := gt_tb 434 (by decide +kernel) rfl
set_option maxRecDepth 20000 in
theorem im_X6_mean : Cond.instanceMethod yX6_mean ∈ gt := gt_tb 440 (by decide +kernel) rfl
set_option maxRecDepth 20000 in
theorem im_X4_sumOfNumbers : Cond.instanceMethod yX4_sumOfNumbers ∈ gt := gt_tb 444 (by decide +kernel) rfl
set_option maxRecDepth 20000 in
theorem im_X6_row : Cond.instanceMethod yX6_row ∈ gt := gt_tb 449 (by decide +kernel) rfl
set_option maxRecDepth 20000 in
theorem im_X5_start : Cond.instanceMethod yX5_start ∈ gt := gt_tb 456 (by decide +kernel) rfl
set_option maxRecDepth 20000 in
theorem im_X5_waysAtStart : Cond.instanceMethod yX5_waysAtStart ∈ gt := gt_tb 461 (by decide +kernel) rfl
set_option maxRecDepth 20000 in
theorem im_X5_ways : Cond.instanceMethod yX5_ways ∈ gt := gt_tb 466 (by decide +kernel) rfl
set_option maxRecDepth 20000 in
theorem im_X5_writeRow : Cond.instanceMethod yX5_writeRow ∈ gt := gt_tb 472 (by decide +kernel) rfl
set_option maxRecDepth 20000 in
theorem im_X5_waysWith : Cond.instanceMethod yX5_waysWith ∈ gt := gt_tb 477 (by decide +kernel) rfl
set_option maxRecDepth 20000 in
theorem im_X5_wantedAfter : Cond.instanceMethod yX5_wantedAfter ∈ gt := gt_tb 482 (by decide +kernel) rfl
set_option maxRecDepth 20000 in
theorem im_X5_step : Cond.instanceMethod yX5_step ∈ gt := gt_tb 487 (by decide +kernel) rfl
set_option maxRecDepth 20000 in
theorem im_X6_place : Cond.instanceMethod yX6_place ∈ gt := gt_tb 491 (by decide +kernel) rfl
set_option maxRecDepth 20000 in
theorem im_X5_rowsAheadOf : Cond.instanceMethod yX5_rowsAheadOf ∈ gt := gt_tb 495 (by decide +kernel) rfl
set_option maxRecDepth 20000 in
theorem im_X6_toRounds : Cond.instanceMethod yX6_toRounds ∈ gt := gt_tb 500 (by decide +kernel) rfl
set_option maxRecDepth 20000 in
theorem im_X1_makeRounds : Cond.instanceMethod yX1_makeRounds ∈ gt := gt_tb 504 (by decide +kernel) rfl
set_option maxRecDepth 20000 in
theorem im_X6_toRecords : Cond.instanceMethod yX6_toRecords ∈ gt := gt_tb 508 (by decide +kernel) rfl
set_option maxRecDepth 20000 in
theorem im_X1_makeRecords : Cond.instanceMethod yX1_makeRecords ∈ gt := gt_tb 512 (by decide +kernel) rfl
set_option maxRecDepth 20000 in
theorem im_X6_opens : Cond.instanceMethod yX6_opens ∈ gt := gt_tb 516 (by decide +kernel) rfl
set_option maxRecDepth 20000 in
theorem im_X6_list : Cond.instanceMethod yX6_list ∈ gt := gt_tb 520 (by decide +kernel) rfl
set_option maxRecDepth 20000 in
theorem im_X0_hasBox : Cond.instanceMethod yX0_hasBox ∈ gt := gt_tb 524 (by decide +kernel) rfl
set_option maxRecDepth 20000 in
theorem im_X0_firstOf : Cond.instanceMethod yX0_firstOf ∈ gt := gt_tb 528 (by decide +kernel) rfl
set_option maxRecDepth 20000 in
theorem im_X0_holds : Cond.instanceMethod yX0_holds ∈ gt := gt_tb 532 (by decide +kernel) rfl
set_option maxRecDepth 20000 in
theorem im_X0_addBox : Cond.instanceMethod yX0_addBox ∈ gt := gt_tb 537 (by decide +kernel) rfl
set_option maxRecDepth 20000 in
theorem im_X6_forget : Cond.instanceMethod yX6_forget ∈ gt := gt_tb 541 (by decide +kernel) rfl
set_option maxRecDepth 20000 in
theorem im_X0_emptyOne : Cond.instanceMethod yX0_emptyOne ∈ gt := gt_tb 545 (by decide +kernel) rfl
set_option maxRecDepth 20000 in
theorem im_X6_wins : Cond.instanceMethod yX6_wins ∈ gt := gt_tb 549 (by decide +kernel) rfl
set_option maxRecDepth 20000 in
theorem im_X0_findsOwnThing : Cond.instanceMethod yX0_findsOwnThing ∈ gt := gt_tb 557 (by decide +kernel) rfl
set_option maxRecDepth 20000 in
theorem im_X6_allWin : Cond.instanceMethod yX6_allWin ∈ gt := gt_tb 562 (by decide +kernel) rfl
set_option maxRecDepth 20000 in
theorem im_X0_ordersWonByAll : Cond.instanceMethod yX0_ordersWonByAll ∈ gt := gt_tb 568 (by decide +kernel) rfl
set_option maxRecDepth 20000 in
theorem im_X0_placeNextThing : Cond.instanceMethod yX0_placeNextThing ∈ gt := gt_tb 573 (by decide +kernel) rfl
set_option maxRecDepth 20000 in
theorem im_X6_count : Cond.instanceMethod yX6_count ∈ gt := gt_tb 583 (by decide +kernel) rfl
set_option maxRecDepth 20000 in
theorem im_X0_boxesInAll : Cond.instanceMethod yX0_boxesInAll ∈ gt := gt_tb 587 (by decide +kernel) rfl
set_option maxRecDepth 20000 in
theorem im_X7_init : Cond.instanceMethod yX7_init ∈ gt := gt_tb 593 (by decide +kernel) rfl
set_option maxRecDepth 20000 in
theorem im_X7_begin : Cond.instanceMethod yX7_begin ∈ gt := gt_tb 598 (by decide +kernel) rfl
set_option maxRecDepth 20000 in
theorem im_X7_things : Cond.instanceMethod yX7_things ∈ gt := gt_tb 650 (by decide +kernel) rfl
set_option maxRecDepth 20000 in
theorem im_X7_order : Cond.instanceMethod yX7_order ∈ gt := gt_tb 658 (by decide +kernel) rfl
set_option maxRecDepth 20000 in
theorem im_X7_become : Cond.instanceMethod yX7_become ∈ gt := gt_tb 663 (by decide +kernel) rfl
set_option maxRecDepth 20000 in
theorem im_X7_at : Cond.instanceMethod yX7_at ∈ gt := gt_tb 666 (by decide +kernel) rfl
set_option maxRecDepth 20000 in
theorem im_X7_isThing : Cond.instanceMethod yX7_isThing ∈ gt := gt_tb 671 (by decide +kernel) rfl
set_option maxRecDepth 20000 in
theorem im_X7_swap : Cond.instanceMethod yX7_swap ∈ gt := gt_tb 674 (by decide +kernel) rfl
set_option maxRecDepth 20000 in
theorem im_X7_lay : Cond.instanceMethod yX7_lay ∈ gt := gt_tb 678 (by decide +kernel) rfl
set_option maxRecDepth 20000 in
theorem im_X7_take : Cond.instanceMethod yX7_take ∈ gt := gt_tb 683 (by decide +kernel) rfl
set_option maxRecDepth 20000 in
theorem im_X7_then : Cond.instanceMethod yX7_then ∈ gt := gt_tb 687 (by decide +kernel) rfl
set_option maxRecDepth 20000 in
theorem im_X7_back : Cond.instanceMethod yX7_back ∈ gt := gt_tb 691 (by decide +kernel) rfl
set_option maxRecDepth 20000 in
theorem im_X7_number : Cond.instanceMethod yX7_number ∈ gt := gt_tb 695 (by decide +kernel) rfl
set_option maxRecDepth 20000 in
theorem im_X7_numberOf : Cond.instanceMethod yX7_numberOf ∈ gt := gt_tb 701 (by decide +kernel) rfl
set_option maxRecDepth 20000 in
theorem im_X7_roundOf : Cond.instanceMethod yX7_roundOf ∈ gt := gt_tb 705 (by decide +kernel) rfl
set_option maxRecDepth 20000 in
theorem im_X7_isFirst : Cond.instanceMethod yX7_isFirst ∈ gt := gt_tb 712 (by decide +kernel) rfl
set_option maxRecDepth 20000 in
theorem im_X7_isRecord : Cond.instanceMethod yX7_isRecord ∈ gt := gt_tb 716 (by decide +kernel) rfl
set_option maxRecDepth 20000 in
theorem im_X7_out : Cond.instanceMethod yX7_out ∈ gt := gt_tb 720 (by decide +kernel) rfl
set_option maxRecDepth 20000 in
theorem im_X7_longestRise : Cond.instanceMethod yX7_longestRise ∈ gt := gt_tb 724 (by decide +kernel) rfl
set_option maxRecDepth 20000 in
theorem im_X7_many : Cond.instanceMethod yX7_many ∈ gt := gt_tb 727 (by decide +kernel) rfl
set_option maxRecDepth 20000 in
theorem im_X7_findCounts : Cond.instanceMethod yX7_findCounts ∈ gt := gt_tb 733 (by decide +kernel) rfl
set_option maxRecDepth 20000 in
theorem im_X7_layProducts : Cond.instanceMethod yX7_layProducts ∈ gt := gt_tb 737 (by decide +kernel) rfl
set_option maxRecDepth 20000 in
theorem im_X7_countByThings : Cond.instanceMethod yX7_countByThings ∈ gt := gt_tb 741 (by decide +kernel) rfl
set_option maxRecDepth 20000 in
theorem im_X7_step : Cond.instanceMethod yX7_step ∈ gt := gt_tb 745 (by decide +kernel) rfl
set_option maxRecDepth 20000 in
theorem im_X7_countByShapes : Cond.instanceMethod yX7_countByShapes ∈ gt := gt_tb 749 (by decide +kernel) rfl
set_option maxRecDepth 20000 in
theorem im_X7_shapeNumber : Cond.instanceMethod yX7_shapeNumber ∈ gt := gt_tb 753 (by decide +kernel) rfl
set_option maxRecDepth 20000 in
theorem im_X7_byFillings : Cond.instanceMethod yX7_byFillings ∈ gt := gt_tb 757 (by decide +kernel) rfl
set_option maxRecDepth 20000 in
theorem im_X7_byRounds : Cond.instanceMethod yX7_byRounds ∈ gt := gt_tb 761 (by decide +kernel) rfl
set_option maxRecDepth 20000 in
theorem im_X7_nextShape : Cond.instanceMethod yX7_nextShape ∈ gt := gt_tb 765 (by decide +kernel) rfl
set_option maxRecDepth 20000 in
theorem im_X7_mean : Cond.instanceMethod yX7_mean ∈ gt := gt_tb 769 (by decide +kernel) rfl
set_option maxRecDepth 20000 in
theorem im_X7_row : Cond.instanceMethod yX7_row ∈ gt := gt_tb 773 (by decide +kernel) rfl
set_option maxRecDepth 20000 in
theorem im_X7_beginRow : Cond.instanceMethod yX7_beginRow ∈ gt := gt_tb 781 (by decide +kernel) rfl
set_option maxRecDepth 20000 in
theorem im_X7_layWays : Cond.instanceMethod yX7_layWays ∈ gt := gt_tb 785 (by decide +kernel) rfl
set_option maxRecDepth 20000 in
theorem im_X7_waysBy : Cond.instanceMethod yX7_waysBy ∈ gt := gt_tb 789 (by decide +kernel) rfl
set_option maxRecDepth 20000 in
theorem im_X7_waysAt : Cond.instanceMethod yX7_waysAt ∈ gt := gt_tb 796 (by decide +kernel) rfl
set_option maxRecDepth 20000 in
theorem im_X7_put : Cond.instanceMethod yX7_put ∈ gt := gt_tb 800 (by decide +kernel) rfl
set_option maxRecDepth 20000 in
theorem im_X7_place : Cond.instanceMethod yX7_place ∈ gt := gt_tb 803 (by decide +kernel) rfl
set_option maxRecDepth 20000 in
theorem im_X7_toRounds : Cond.instanceMethod yX7_toRounds ∈ gt := gt_tb 807 (by decide +kernel) rfl
set_option maxRecDepth 20000 in
theorem im_X7_toRecords : Cond.instanceMethod yX7_toRecords ∈ gt := gt_tb 811 (by decide +kernel) rfl
set_option maxRecDepth 20000 in
theorem im_X7_isGreatest : Cond.instanceMethod yX7_isGreatest ∈ gt := gt_tb 816 (by decide +kernel) rfl
set_option maxRecDepth 20000 in
theorem im_X7_opens : Cond.instanceMethod yX7_opens ∈ gt := gt_tb 819 (by decide +kernel) rfl
set_option maxRecDepth 20000 in
theorem im_X7_list : Cond.instanceMethod yX7_list ∈ gt := gt_tb 823 (by decide +kernel) rfl
set_option maxRecDepth 20000 in
theorem im_X7_forget : Cond.instanceMethod yX7_forget ∈ gt := gt_tb 827 (by decide +kernel) rfl
set_option maxRecDepth 20000 in
theorem im_X7_wins : Cond.instanceMethod yX7_wins ∈ gt := gt_tb 831 (by decide +kernel) rfl
set_option maxRecDepth 20000 in
theorem im_X7_winsBy : Cond.instanceMethod yX7_winsBy ∈ gt := gt_tb 836 (by decide +kernel) rfl
set_option maxRecDepth 20000 in
theorem im_X7_allWin : Cond.instanceMethod yX7_allWin ∈ gt := gt_tb 839 (by decide +kernel) rfl
set_option maxRecDepth 20000 in
theorem im_X7_layRow : Cond.instanceMethod yX7_layRow ∈ gt := gt_tb 845 (by decide +kernel) rfl
set_option maxRecDepth 20000 in
theorem im_X7_count : Cond.instanceMethod yX7_count ∈ gt := gt_tb 848 (by decide +kernel) rfl
set_option maxRecDepth 20000 in
theorem sm_X3_riseSlot : Cond.static yX3_riseSlot ∈ gt := gt_tb 65 (by decide +kernel) rfl
set_option maxRecDepth 20000 in
theorem sm_X6_entry : Cond.static yX6_entry ∈ gt := gt_tb 100 (by decide +kernel) rfl
set_option maxRecDepth 20000 in
theorem sm_J9_min : Cond.static Lib.Math.min.name ∈ gt := gt_tb 157 (by decide +kernel) rfl
set_option maxRecDepth 20000 in
theorem sm_X6_isPlace : Cond.static yX6_isPlace ∈ gt := gt_tb 239 (by decide +kernel) rfl
set_option maxRecDepth 20000 in
theorem sm_X6_isKind : Cond.static yX6_isKind ∈ gt := gt_tb 275 (by decide +kernel) rfl
set_option maxRecDepth 20000 in
theorem sm_J9_max : Cond.static Lib.Math.max.name ∈ gt := gt_tb 310 (by decide +kernel) rfl
set_option maxRecDepth 20000 in
theorem sm_X6_commonMultiple : Cond.static yX6_commonMultiple ∈ gt := gt_tb 325 (by decide +kernel) rfl
set_option maxRecDepth 20000 in
theorem sm_X6_commonDivisor : Cond.static yX6_commonDivisor ∈ gt := gt_tb 328 (by decide +kernel) rfl
set_option maxRecDepth 20000 in
theorem sm_X6_quotient : Cond.static yX6_quotient ∈ gt := gt_tb 331 (by decide +kernel) rfl
set_option maxRecDepth 20000 in
theorem sm_X4_greatest : Cond.static yX4_greatest ∈ gt := gt_tb 347 (by decide +kernel) rfl
set_option maxRecDepth 20000 in
theorem sm_X6_isRowKind : Cond.static yX6_isRowKind ∈ gt := gt_tb 453 (by decide +kernel) rfl
set_option maxRecDepth 20000 in
theorem sm_X6_isWay : Cond.static yX6_isWay ∈ gt := gt_tb 553 (by decide +kernel) rfl
set_option maxRecDepth 20000 in
theorem sm_J6_bitCount_0f7a4 : Cond.static yJ6_bitCount_0f7a4 ∈ gt := gt_tb 577 (by decide +kernel) rfl
set_option maxRecDepth 20000 in
theorem sm_X7_in : Cond.static yX7_in ∈ gt := gt_tb 655 (by decide +kernel) rfl
set_option maxRecDepth 20000 in
theorem sm_X7_common : Cond.static yX7_common ∈ gt := gt_tb 708 (by decide +kernel) rfl
set_option maxRecDepth 20000 in
theorem sm_X7_isKind : Cond.static yX7_isKind ∈ gt := gt_tb 777 (by decide +kernel) rfl
set_option maxRecDepth 20000 in
theorem sm_X7_wayAt : Cond.static yX7_wayAt ∈ gt := gt_tb 792 (by decide +kernel) rfl
set_option maxRecDepth 20000 in
theorem cw_X6_init : Cond.code yX6_init cX6_init 2 none ∈ gt := gt_tb 15 (by decide +kernel) rfl
set_option maxRecDepth 20000 in
theorem cw_obj : Cond.code objectInit ⟨#[0xb1]⟩ 1 none ∈ gt := gt_tb 18 (by decide +kernel) rfl
set_option maxRecDepth 20000 in
theorem cw_X1_init : Cond.code yX1_init cX1_init 1 none ∈ gt := gt_tb 23 (by decide +kernel) rfl
set_option maxRecDepth 20000 in
theorem cw_X0_init : Cond.code yX0_init cX0_init 1 none ∈ gt := gt_tb 41 (by decide +kernel) rfl
set_option maxRecDepth 20000 in
theorem cw_X3_init : Cond.code yX3_init cX3_init 1 none ∈ gt := gt_tb 60 (by decide +kernel) rfl
set_option maxRecDepth 20000 in
theorem cw_X3_riseSlot : Cond.code yX3_riseSlot cX3_riseSlot 3 (some .int) ∈ gt := gt_tb 66 (by decide +kernel) rfl
set_option maxRecDepth 20000 in
theorem cw_X3_fillFactorials : Cond.code yX3_fillFactorials cX3_fillFactorials 2 none ∈ gt := gt_tb 70 (by decide +kernel) rfl
set_option maxRecDepth 20000 in
theorem cw_X3_fillDeranged : Cond.code yX3_fillDeranged cX3_fillDeranged 2 none ∈ gt := gt_tb 74 (by decide +kernel) rfl
set_option maxRecDepth 20000 in
theorem cw_X3_fillRecords : Cond.code yX3_fillRecords cX3_fillRecords 3 none ∈ gt := gt_tb 78 (by decide +kernel) rfl
set_option maxRecDepth 20000 in
theorem cw_X3_fillRoundsUpTo : Cond.code yX3_fillRoundsUpTo cX3_fillRoundsUpTo 3 none ∈ gt := gt_tb 82 (by decide +kernel) rfl
set_option maxRecDepth 20000 in
theorem cw_X3_sumByRoundOfLast : Cond.code yX3_sumByRoundOfLast cX3_sumByRoundOfLast 8 (some .long) ∈ gt := gt_tb 86 (by decide +kernel) rfl
set_option maxRecDepth 20000 in
theorem cw_X3_fillRises : Cond.code yX3_fillRises cX3_fillRises 3 none ∈ gt := gt_tb 90 (by decide +kernel) rfl
set_option maxRecDepth 20000 in
theorem cw_X3_fillRisesByBelow : Cond.code yX3_fillRisesByBelow cX3_fillRisesByBelow 6 none ∈ gt := gt_tb 94 (by decide +kernel) rfl
set_option maxRecDepth 20000 in
theorem cw_X3_withRises : Cond.code yX3_withRises cX3_withRises 4 (some .long) ∈ gt := gt_tb 98 (by decide +kernel) rfl
set_option maxRecDepth 20000 in
theorem cw_X6_entry : Cond.code yX6_entry cX6_entry 2 (some .long) ∈ gt := gt_tb 101 (by decide +kernel) rfl
set_option maxRecDepth 20000 in
theorem cw_X5_init : Cond.code yX5_init cX5_init 2 none ∈ gt := gt_tb 122 (by decide +kernel) rfl
set_option maxRecDepth 20000 in
theorem cw_X6_startWith : Cond.code yX6_startWith cX6_startWith 3 none ∈ gt := gt_tb 155 (by decide +kernel) rfl
set_option maxRecDepth 20000 in
theorem cw_J9_min : Cond.code Lib.Math.min.name Lib.Math.min.code 2 (some .int) ∈ gt := gt_tb 158 (by decide +kernel) rfl
set_option maxRecDepth 20000 in
theorem cw_X1_startWith : Cond.code yX1_startWith cX1_startWith 3 none ∈ gt := gt_tb 162 (by decide +kernel) rfl
set_option maxRecDepth 20000 in
theorem cw_X0_emptyAll : Cond.code yX0_emptyAll cX0_emptyAll 2 none ∈ gt := gt_tb 167 (by decide +kernel) rfl
set_option maxRecDepth 20000 in
theorem cw_X6_things : Cond.code yX6_things cX6_things 2 (some .int) ∈ gt := gt_tb 196 (by decide +kernel) rfl
set_option maxRecDepth 20000 in
theorem cw_X6_order : Cond.code yX6_order cX6_order 5 (some .int) ∈ gt := gt_tb 200 (by decide +kernel) rfl
set_option maxRecDepth 20000 in
theorem cw_X1_readFigures : Cond.code yX1_readFigures cX1_readFigures 13 (some .boolean) ∈ gt := gt_tb 204 (by decide +kernel) rfl
set_option maxRecDepth 20000 in
theorem cw_X1_holds : Cond.code yX1_holds cX1_holds 2 (some .boolean) ∈ gt := gt_tb 209 (by decide +kernel) rfl
set_option maxRecDepth 20000 in
theorem cw_X1_keepMade : Cond.code yX1_keepMade cX1_keepMade 2 none ∈ gt := gt_tb 213 (by decide +kernel) rfl
set_option maxRecDepth 20000 in
theorem cw_X6_at : Cond.code yX6_at cX6_at 2 (some .int) ∈ gt := gt_tb 217 (by decide +kernel) rfl
set_option maxRecDepth 20000 in
theorem cw_X6_isThing : Cond.code yX6_isThing cX6_isThing 2 (some .boolean) ∈ gt := gt_tb 221 (by decide +kernel) rfl
set_option maxRecDepth 20000 in
theorem cw_X1_follow : Cond.code yX1_follow cX1_follow 2 (some .int) ∈ gt := gt_tb 225 (by decide +kernel) rfl
set_option maxRecDepth 20000 in
theorem cw_X6_swap : Cond.code yX6_swap cX6_swap 3 (some .int) ∈ gt := gt_tb 229 (by decide +kernel) rfl
set_option maxRecDepth 20000 in
theorem cw_X1_exchange : Cond.code yX1_exchange cX1_exchange 4 none ∈ gt := gt_tb 233 (by decide +kernel) rfl
set_option maxRecDepth 20000 in
theorem cw_X6_lay : Cond.code yX6_lay cX6_lay 2 (some .int) ∈ gt := gt_tb 237 (by decide +kernel) rfl
set_option maxRecDepth 20000 in
theorem cw_X6_isPlace : Cond.code yX6_isPlace cX6_isPlace 1 (some .boolean) ∈ gt := gt_tb 240 (by decide +kernel) rfl
set_option maxRecDepth 20000 in
theorem cw_X1_copyFrom : Cond.code yX1_copyFrom cX1_copyFrom 3 none ∈ gt := gt_tb 244 (by decide +kernel) rfl
set_option maxRecDepth 20000 in
theorem cw_X6_take : Cond.code yX6_take cX6_take 2 (some .int) ∈ gt := gt_tb 248 (by decide +kernel) rfl
set_option maxRecDepth 20000 in
theorem cw_X6_then : Cond.code yX6_then cX6_then 2 (some .int) ∈ gt := gt_tb 252 (by decide +kernel) rfl
set_option maxRecDepth 20000 in
theorem cw_X1_goOnBy : Cond.code yX1_goOnBy cX1_goOnBy 3 none ∈ gt := gt_tb 256 (by decide +kernel) rfl
set_option maxRecDepth 20000 in
theorem cw_X6_back : Cond.code yX6_back cX6_back 1 (some .int) ∈ gt := gt_tb 261 (by decide +kernel) rfl
set_option maxRecDepth 20000 in
theorem cw_X1_turnBack : Cond.code yX1_turnBack cX1_turnBack 2 none ∈ gt := gt_tb 265 (by decide +kernel) rfl
set_option maxRecDepth 20000 in
theorem cw_X1_makeAt : Cond.code yX1_makeAt cX1_makeAt 3 none ∈ gt := gt_tb 269 (by decide +kernel) rfl
set_option maxRecDepth 20000 in
theorem cw_X6_number : Cond.code yX6_number cX6_number 2 (some .int) ∈ gt := gt_tb 273 (by decide +kernel) rfl
set_option maxRecDepth 20000 in
theorem cw_X6_isKind : Cond.code yX6_isKind cX6_isKind 1 (some .boolean) ∈ gt := gt_tb 276 (by decide +kernel) rfl
set_option maxRecDepth 20000 in
theorem cw_X1_numberOf : Cond.code yX1_numberOf cX1_numberOf 2 (some .int) ∈ gt := gt_tb 280 (by decide +kernel) rfl
set_option maxRecDepth 20000 in
theorem cw_X1_rounds : Cond.code yX1_rounds cX1_rounds 3 (some .int) ∈ gt := gt_tb 284 (by decide +kernel) rfl
set_option maxRecDepth 20000 in
theorem cw_X1_leadsRound : Cond.code yX1_leadsRound cX1_leadsRound 4 (some .boolean) ∈ gt := gt_tb 288 (by decide +kernel) rfl
set_option maxRecDepth 20000 in
theorem cw_X1_records : Cond.code yX1_records cX1_records 4 (some .int) ∈ gt := gt_tb 292 (by decide +kernel) rfl
set_option maxRecDepth 20000 in
theorem cw_X1_rises : Cond.code yX1_rises cX1_rises 3 (some .int) ∈ gt := gt_tb 296 (by decide +kernel) rfl
set_option maxRecDepth 20000 in
theorem cw_X1_still : Cond.code yX1_still cX1_still 3 (some .int) ∈ gt := gt_tb 300 (by decide +kernel) rfl
set_option maxRecDepth 20000 in
theorem cw_X1_longestRound : Cond.code yX1_longestRound cX1_longestRound 3 (some .int) ∈ gt := gt_tb 304 (by decide +kernel) rfl
set_option maxRecDepth 20000 in
theorem cw_X1_roundLength : Cond.code yX1_roundLength cX1_roundLength 4 (some .int) ∈ gt := gt_tb 308 (by decide +kernel) rfl
set_option maxRecDepth 20000 in
theorem cw_J9_max : Cond.code Lib.Math.max.name Lib.Math.max.code 2 (some .int) ∈ gt := gt_tb 311 (by decide +kernel) rfl
set_option maxRecDepth 20000 in
theorem cw_X1_pairsOut : Cond.code yX1_pairsOut cX1_pairsOut 4 (some .int) ∈ gt := gt_tb 315 (by decide +kernel) rfl
set_option maxRecDepth 20000 in
theorem cw_X1_longestRise : Cond.code yX1_longestRise cX1_longestRise 5 (some .int) ∈ gt := gt_tb 319 (by decide +kernel) rfl
set_option maxRecDepth 20000 in
theorem cw_X1_turns : Cond.code yX1_turns cX1_turns 3 (some .int) ∈ gt := gt_tb 323 (by decide +kernel) rfl
set_option maxRecDepth 20000 in
theorem cw_X6_commonMultiple : Cond.code yX6_commonMultiple cX6_commonMultiple 2 (some .int) ∈ gt := gt_tb 326 (by decide +kernel) rfl
set_option maxRecDepth 20000 in
theorem cw_X6_commonDivisor : Cond.code yX6_commonDivisor cX6_commonDivisor 11 (some .long) ∈ gt := gt_tb 329 (by decide +kernel) rfl
set_option maxRecDepth 20000 in
theorem cw_X6_quotient : Cond.code yX6_quotient cX6_quotient 4 (some .long) ∈ gt := gt_tb 332 (by decide +kernel) rfl
set_option maxRecDepth 20000 in
theorem cw_X6_many : Cond.code yX6_many cX6_many 3 (some .long) ∈ gt := gt_tb 336 (by decide +kernel) rfl
set_option maxRecDepth 20000 in
theorem cw_X6_tallyOf : Cond.code yX6_tallyOf cX6_tallyOf 3 (some (.object "HundredBoxes$Tally")) ∈ gt := gt_tb 340 (by decide +kernel) rfl
set_option maxRecDepth 20000 in
theorem cw_X4_init : Cond.code yX4_init cX4_init 4 none ∈ gt := gt_tb 344 (by decide +kernel) rfl
set_option maxRecDepth 20000 in
theorem cw_X4_greatest : Cond.code yX4_greatest cX4_greatest 2 (some .int) ∈ gt := gt_tb 348 (by decide +kernel) rfl
set_option maxRecDepth 20000 in
theorem cw_X4_fillPairsOut : Cond.code yX4_fillPairsOut cX4_fillPairsOut 4 none ∈ gt := gt_tb 353 (by decide +kernel) rfl
set_option maxRecDepth 20000 in
theorem cw_X4_fillByPartitions : Cond.code yX4_fillByPartitions cX4_fillByPartitions 7 none ∈ gt := gt_tb 357 (by decide +kernel) rfl
set_option maxRecDepth 20000 in
theorem cw_X2_init : Cond.code yX2_init cX2_init 2 none ∈ gt := gt_tb 362 (by decide +kernel) rfl
set_option maxRecDepth 20000 in
theorem cw_X3_ordersOf : Cond.code yX3_ordersOf cX3_ordersOf 2 (some .long) ∈ gt := gt_tb 374 (by decide +kernel) rfl
set_option maxRecDepth 20000 in
theorem cw_X2_hookProduct : Cond.code yX2_hookProduct cX2_hookProduct 6 (some .long) ∈ gt := gt_tb 378 (by decide +kernel) rfl
set_option maxRecDepth 20000 in
theorem cw_X2_firstPart : Cond.code yX2_firstPart cX2_firstPart 1 (some .int) ∈ gt := gt_tb 383 (by decide +kernel) rfl
set_option maxRecDepth 20000 in
theorem cw_X4_addOrders : Cond.code yX4_addOrders cX4_addOrders 4 none ∈ gt := gt_tb 387 (by decide +kernel) rfl
set_option maxRecDepth 20000 in
theorem cw_X2_turns : Cond.code yX2_turns cX2_turns 3 (some .int) ∈ gt := gt_tb 391 (by decide +kernel) rfl
set_option maxRecDepth 20000 in
theorem cw_X2_sameRounds : Cond.code yX2_sameRounds cX2_sameRounds 5 (some .long) ∈ gt := gt_tb 396 (by decide +kernel) rfl
set_option maxRecDepth 20000 in
theorem cw_X2_goOn : Cond.code yX2_goOn cX2_goOn 4 (some .boolean) ∈ gt := gt_tb 400 (by decide +kernel) rfl
set_option maxRecDepth 20000 in
theorem cw_X4_fillByTables : Cond.code yX4_fillByTables cX4_fillByTables 3 none ∈ gt := gt_tb 405 (by decide +kernel) rfl
set_option maxRecDepth 20000 in
theorem cw_X4_fromTables : Cond.code yX4_fromTables cX4_fromTables 3 (some .long) ∈ gt := gt_tb 409 (by decide +kernel) rfl
set_option maxRecDepth 20000 in
theorem cw_X3_withRecords : Cond.code yX3_withRecords cX3_withRecords 7 (some .long) ∈ gt := gt_tb 413 (by decide +kernel) rfl
set_option maxRecDepth 20000 in
theorem cw_X3_withStill : Cond.code yX3_withStill cX3_withStill 6 (some .long) ∈ gt := gt_tb 418 (by decide +kernel) rfl
set_option maxRecDepth 20000 in
theorem cw_X3_withRoundsUpTo : Cond.code yX3_withRoundsUpTo cX3_withRoundsUpTo 3 (some .long) ∈ gt := gt_tb 422 (by decide +kernel) rfl
set_option maxRecDepth 20000 in
theorem cw_X4_ordersWith : Cond.code yX4_ordersWith cX4_ordersWith 2 (some .long) ∈ gt := gt_tb 436 (by decide +kernel) rfl
set_option maxRecDepth 20000 in
theorem cw_X6_mean : Cond.code yX6_mean cX6_mean 7 (some .long) ∈ gt := gt_tb 442 (by decide +kernel) rfl
set_option maxRecDepth 20000 in
theorem cw_X4_sumOfNumbers : Cond.code yX4_sumOfNumbers cX4_sumOfNumbers 4 (some .long) ∈ gt := gt_tb 446 (by decide +kernel) rfl
set_option maxRecDepth 20000 in
theorem cw_X6_row : Cond.code yX6_row cX6_row 5 (some .int) ∈ gt := gt_tb 451 (by decide +kernel) rfl
set_option maxRecDepth 20000 in
theorem cw_X6_isRowKind : Cond.code yX6_isRowKind cX6_isRowKind 1 (some .boolean) ∈ gt := gt_tb 454 (by decide +kernel) rfl
set_option maxRecDepth 20000 in
theorem cw_X5_start : Cond.code yX5_start cX5_start 5 none ∈ gt := gt_tb 458 (by decide +kernel) rfl
set_option maxRecDepth 20000 in
theorem cw_X5_waysAtStart : Cond.code yX5_waysAtStart cX5_waysAtStart 1 (some .long) ∈ gt := gt_tb 463 (by decide +kernel) rfl
set_option maxRecDepth 20000 in
theorem cw_X5_ways : Cond.code yX5_ways cX5_ways 5 (some .long) ∈ gt := gt_tb 467 (by decide +kernel) rfl
set_option maxRecDepth 20000 in
theorem cw_X5_writeRow : Cond.code yX5_writeRow cX5_writeRow 11 none ∈ gt := gt_tb 474 (by decide +kernel) rfl
set_option maxRecDepth 20000 in
theorem cw_X5_waysWith : Cond.code yX5_waysWith cX5_waysWith 3 (some .long) ∈ gt := gt_tb 478 (by decide +kernel) rfl
set_option maxRecDepth 20000 in
theorem cw_X5_wantedAfter : Cond.code yX5_wantedAfter cX5_wantedAfter 3 (some .int) ∈ gt := gt_tb 483 (by decide +kernel) rfl
set_option maxRecDepth 20000 in
theorem cw_X5_step : Cond.code yX5_step cX5_step 2 none ∈ gt := gt_tb 488 (by decide +kernel) rfl
set_option maxRecDepth 20000 in
theorem cw_X6_place : Cond.code yX6_place cX6_place 2 (some .long) ∈ gt := gt_tb 493 (by decide +kernel) rfl
set_option maxRecDepth 20000 in
theorem cw_X5_rowsAheadOf : Cond.code yX5_rowsAheadOf cX5_rowsAheadOf 8 (some .long) ∈ gt := gt_tb 497 (by decide +kernel) rfl
set_option maxRecDepth 20000 in
theorem cw_X6_toRounds : Cond.code yX6_toRounds cX6_toRounds 1 (some .int) ∈ gt := gt_tb 502 (by decide +kernel) rfl
set_option maxRecDepth 20000 in
theorem cw_X1_makeRounds : Cond.code yX1_makeRounds cX1_makeRounds 4 none ∈ gt := gt_tb 506 (by decide +kernel) rfl
set_option maxRecDepth 20000 in
theorem cw_X6_toRecords : Cond.code yX6_toRecords cX6_toRecords 1 (some .int) ∈ gt := gt_tb 510 (by decide +kernel) rfl
set_option maxRecDepth 20000 in
theorem cw_X1_makeRecords : Cond.code yX1_makeRecords cX1_makeRecords 5 none ∈ gt := gt_tb 514 (by decide +kernel) rfl
set_option maxRecDepth 20000 in
theorem cw_X6_opens : Cond.code yX6_opens cX6_opens 3 (some .int) ∈ gt := gt_tb 518 (by decide +kernel) rfl
set_option maxRecDepth 20000 in
theorem cw_X6_list : Cond.code yX6_list cX6_list 3 (some .int) ∈ gt := gt_tb 522 (by decide +kernel) rfl
set_option maxRecDepth 20000 in
theorem cw_X0_hasBox : Cond.code yX0_hasBox cX0_hasBox 5 (some .boolean) ∈ gt := gt_tb 526 (by decide +kernel) rfl
set_option maxRecDepth 20000 in
theorem cw_X0_firstOf : Cond.code yX0_firstOf cX0_firstOf 3 (some .int) ∈ gt := gt_tb 530 (by decide +kernel) rfl
set_option maxRecDepth 20000 in
theorem cw_X0_holds : Cond.code yX0_holds cX0_holds 2 (some .boolean) ∈ gt := gt_tb 534 (by decide +kernel) rfl
set_option maxRecDepth 20000 in
theorem cw_X0_addBox : Cond.code yX0_addBox cX0_addBox 3 (some .int) ∈ gt := gt_tb 539 (by decide +kernel) rfl
set_option maxRecDepth 20000 in
theorem cw_X6_forget : Cond.code yX6_forget cX6_forget 2 (some .int) ∈ gt := gt_tb 543 (by decide +kernel) rfl
set_option maxRecDepth 20000 in
theorem cw_X0_emptyOne : Cond.code yX0_emptyOne cX0_emptyOne 3 (some .int) ∈ gt := gt_tb 547 (by decide +kernel) rfl
set_option maxRecDepth 20000 in
theorem cw_X6_wins : Cond.code yX6_wins cX6_wins 4 (some .int) ∈ gt := gt_tb 551 (by decide +kernel) rfl
set_option maxRecDepth 20000 in
theorem cw_X6_isWay : Cond.code yX6_isWay cX6_isWay 1 (some .boolean) ∈ gt := gt_tb 554 (by decide +kernel) rfl
set_option maxRecDepth 20000 in
theorem cw_X0_findsOwnThing : Cond.code yX0_findsOwnThing cX0_findsOwnThing 6 (some .boolean) ∈ gt := gt_tb 559 (by decide +kernel) rfl
set_option maxRecDepth 20000 in
theorem cw_X6_allWin : Cond.code yX6_allWin cX6_allWin 2 (some .long) ∈ gt := gt_tb 564 (by decide +kernel) rfl
set_option maxRecDepth 20000 in
theorem cw_X0_ordersWonByAll : Cond.code yX0_ordersWonByAll cX0_ordersWonByAll 5 (some .long) ∈ gt := gt_tb 570 (by decide +kernel) rfl
set_option maxRecDepth 20000 in
theorem cw_X0_placeNextThing : Cond.code yX0_placeNextThing cX0_placeNextThing 8 none ∈ gt := gt_tb 575 (by decide +kernel) rfl
set_option maxRecDepth 20000 in
theorem cw_J6_bitCount_0f7a4 : Cond.code yJ6_bitCount_0f7a4 cJ6_bitCount_0f7a4 1 (some .int) ∈ gt := gt_tb 578 (by decide +kernel) rfl
set_option maxRecDepth 20000 in
theorem cw_X6_count : Cond.code yX6_count cX6_count 2 (some .int) ∈ gt := gt_tb 585 (by decide +kernel) rfl
set_option maxRecDepth 20000 in
theorem cw_X0_boxesInAll : Cond.code yX0_boxesInAll cX0_boxesInAll 3 (some .int) ∈ gt := gt_tb 589 (by decide +kernel) rfl
set_option maxRecDepth 20000 in
theorem cw_X7_init : Cond.code yX7_init cX7_init 1 none ∈ gt := gt_tb 594 (by decide +kernel) rfl
set_option maxRecDepth 20000 in
theorem cw_X7_begin : Cond.code yX7_begin cX7_begin 3 none ∈ gt := gt_tb 599 (by decide +kernel) rfl
set_option maxRecDepth 20000 in
theorem cw_X7_things : Cond.code yX7_things cX7_things 2 (some .int) ∈ gt := gt_tb 652 (by decide +kernel) rfl
set_option maxRecDepth 20000 in
theorem cw_X7_in : Cond.code yX7_in cX7_in 6 (some .boolean) ∈ gt := gt_tb 656 (by decide +kernel) rfl
set_option maxRecDepth 20000 in
theorem cw_X7_order : Cond.code yX7_order cX7_order 11 (some .int) ∈ gt := gt_tb 660 (by decide +kernel) rfl
set_option maxRecDepth 20000 in
theorem cw_X7_become : Cond.code yX7_become cX7_become 2 none ∈ gt := gt_tb 664 (by decide +kernel) rfl
set_option maxRecDepth 20000 in
theorem cw_X7_at : Cond.code yX7_at cX7_at 2 (some .int) ∈ gt := gt_tb 668 (by decide +kernel) rfl
set_option maxRecDepth 20000 in
theorem cw_X7_isThing : Cond.code yX7_isThing cX7_isThing 2 (some .boolean) ∈ gt := gt_tb 672 (by decide +kernel) rfl
set_option maxRecDepth 20000 in
theorem cw_X7_swap : Cond.code yX7_swap cX7_swap 4 (some .int) ∈ gt := gt_tb 676 (by decide +kernel) rfl
set_option maxRecDepth 20000 in
theorem cw_X7_lay : Cond.code yX7_lay cX7_lay 3 (some .int) ∈ gt := gt_tb 680 (by decide +kernel) rfl
set_option maxRecDepth 20000 in
theorem cw_X7_take : Cond.code yX7_take cX7_take 3 (some .int) ∈ gt := gt_tb 685 (by decide +kernel) rfl
set_option maxRecDepth 20000 in
theorem cw_X7_then : Cond.code yX7_then cX7_then 3 (some .int) ∈ gt := gt_tb 689 (by decide +kernel) rfl
set_option maxRecDepth 20000 in
theorem cw_X7_back : Cond.code yX7_back cX7_back 2 (some .int) ∈ gt := gt_tb 693 (by decide +kernel) rfl
set_option maxRecDepth 20000 in
theorem cw_X7_number : Cond.code yX7_number cX7_number 2 (some .int) ∈ gt := gt_tb 697 (by decide +kernel) rfl
set_option maxRecDepth 20000 in
theorem cw_X7_numberOf : Cond.code yX7_numberOf cX7_numberOf 9 (some .int) ∈ gt := gt_tb 702 (by decide +kernel) rfl
set_option maxRecDepth 20000 in
theorem cw_X7_roundOf : Cond.code yX7_roundOf cX7_roundOf 4 (some .int) ∈ gt := gt_tb 706 (by decide +kernel) rfl
set_option maxRecDepth 20000 in
theorem cw_X7_common : Cond.code yX7_common cX7_common 10 (some .long) ∈ gt := gt_tb 709 (by decide +kernel) rfl
set_option maxRecDepth 20000 in
theorem cw_X7_isFirst : Cond.code yX7_isFirst cX7_isFirst 4 (some .boolean) ∈ gt := gt_tb 713 (by decide +kernel) rfl
set_option maxRecDepth 20000 in
theorem cw_X7_isRecord : Cond.code yX7_isRecord cX7_isRecord 4 (some .boolean) ∈ gt := gt_tb 717 (by decide +kernel) rfl
set_option maxRecDepth 20000 in
theorem cw_X7_out : Cond.code yX7_out cX7_out 4 (some .int) ∈ gt := gt_tb 721 (by decide +kernel) rfl
set_option maxRecDepth 20000 in
theorem cw_X7_longestRise : Cond.code yX7_longestRise cX7_longestRise 4 (some .int) ∈ gt := gt_tb 725 (by decide +kernel) rfl
set_option maxRecDepth 20000 in
theorem cw_X7_many : Cond.code yX7_many cX7_many 3 (some .long) ∈ gt := gt_tb 729 (by decide +kernel) rfl
set_option maxRecDepth 20000 in
theorem cw_X7_findCounts : Cond.code yX7_findCounts cX7_findCounts 2 none ∈ gt := gt_tb 734 (by decide +kernel) rfl
set_option maxRecDepth 20000 in
theorem cw_X7_layProducts : Cond.code yX7_layProducts cX7_layProducts 2 none ∈ gt := gt_tb 738 (by decide +kernel) rfl
set_option maxRecDepth 20000 in
theorem cw_X7_countByThings : Cond.code yX7_countByThings cX7_countByThings 7 none ∈ gt := gt_tb 742 (by decide +kernel) rfl
set_option maxRecDepth 20000 in
theorem cw_X7_step : Cond.code yX7_step cX7_step 2 none ∈ gt := gt_tb 746 (by decide +kernel) rfl
set_option maxRecDepth 20000 in
theorem cw_X7_countByShapes : Cond.code yX7_countByShapes cX7_countByShapes 3 none ∈ gt := gt_tb 750 (by decide +kernel) rfl
set_option maxRecDepth 20000 in
theorem cw_X7_shapeNumber : Cond.code yX7_shapeNumber cX7_shapeNumber 6 (some .int) ∈ gt := gt_tb 754 (by decide +kernel) rfl
set_option maxRecDepth 20000 in
theorem cw_X7_byFillings : Cond.code yX7_byFillings cX7_byFillings 7 (some .long) ∈ gt := gt_tb 758 (by decide +kernel) rfl
set_option maxRecDepth 20000 in
theorem cw_X7_byRounds : Cond.code yX7_byRounds cX7_byRounds 5 (some .long) ∈ gt := gt_tb 762 (by decide +kernel) rfl
set_option maxRecDepth 20000 in
theorem cw_X7_nextShape : Cond.code yX7_nextShape cX7_nextShape 4 (some .boolean) ∈ gt := gt_tb 766 (by decide +kernel) rfl
set_option maxRecDepth 20000 in
theorem cw_X7_mean : Cond.code yX7_mean cX7_mean 7 (some .long) ∈ gt := gt_tb 771 (by decide +kernel) rfl
set_option maxRecDepth 20000 in
theorem cw_X7_row : Cond.code yX7_row cX7_row 9 (some .int) ∈ gt := gt_tb 775 (by decide +kernel) rfl
set_option maxRecDepth 20000 in
theorem cw_X7_isKind : Cond.code yX7_isKind cX7_isKind 1 (some .boolean) ∈ gt := gt_tb 778 (by decide +kernel) rfl
set_option maxRecDepth 20000 in
theorem cw_X7_beginRow : Cond.code yX7_beginRow cX7_beginRow 3 none ∈ gt := gt_tb 782 (by decide +kernel) rfl
set_option maxRecDepth 20000 in
theorem cw_X7_layWays : Cond.code yX7_layWays cX7_layWays 8 none ∈ gt := gt_tb 786 (by decide +kernel) rfl
set_option maxRecDepth 20000 in
theorem cw_X7_waysBy : Cond.code yX7_waysBy cX7_waysBy 9 (some .long) ∈ gt := gt_tb 790 (by decide +kernel) rfl
set_option maxRecDepth 20000 in
theorem cw_X7_wayAt : Cond.code yX7_wayAt cX7_wayAt 3 (some .int) ∈ gt := gt_tb 793 (by decide +kernel) rfl
set_option maxRecDepth 20000 in
theorem cw_X7_waysAt : Cond.code yX7_waysAt cX7_waysAt 6 (some .long) ∈ gt := gt_tb 797 (by decide +kernel) rfl
set_option maxRecDepth 20000 in
theorem cw_X7_put : Cond.code yX7_put cX7_put 8 none ∈ gt := gt_tb 801 (by decide +kernel) rfl
set_option maxRecDepth 20000 in
theorem cw_X7_place : Cond.code yX7_place cX7_place 7 (some .long) ∈ gt := gt_tb 805 (by decide +kernel) rfl
set_option maxRecDepth 20000 in
theorem cw_X7_toRounds : Cond.code yX7_toRounds cX7_toRounds 4 (some .int) ∈ gt := gt_tb 809 (by decide +kernel) rfl
set_option maxRecDepth 20000 in
theorem cw_X7_toRecords : Cond.code yX7_toRecords cX7_toRecords 6 (some .int) ∈ gt := gt_tb 813 (by decide +kernel) rfl
set_option maxRecDepth 20000 in
theorem cw_X7_isGreatest : Cond.code yX7_isGreatest cX7_isGreatest 4 (some .boolean) ∈ gt := gt_tb 817 (by decide +kernel) rfl
set_option maxRecDepth 20000 in
theorem cw_X7_opens : Cond.code yX7_opens cX7_opens 3 (some .int) ∈ gt := gt_tb 821 (by decide +kernel) rfl
set_option maxRecDepth 20000 in
theorem cw_X7_list : Cond.code yX7_list cX7_list 4 (some .int) ∈ gt := gt_tb 825 (by decide +kernel) rfl
set_option maxRecDepth 20000 in
theorem cw_X7_forget : Cond.code yX7_forget cX7_forget 3 (some .int) ∈ gt := gt_tb 829 (by decide +kernel) rfl
set_option maxRecDepth 20000 in
theorem cw_X7_wins : Cond.code yX7_wins cX7_wins 3 (some .int) ∈ gt := gt_tb 833 (by decide +kernel) rfl
set_option maxRecDepth 20000 in
theorem cw_X7_winsBy : Cond.code yX7_winsBy cX7_winsBy 5 (some .boolean) ∈ gt := gt_tb 837 (by decide +kernel) rfl
set_option maxRecDepth 20000 in
theorem cw_X7_allWin : Cond.code yX7_allWin cX7_allWin 7 (some .long) ∈ gt := gt_tb 841 (by decide +kernel) rfl
set_option maxRecDepth 20000 in
theorem cw_X7_layRow : Cond.code yX7_layRow cX7_layRow 8 none ∈ gt := gt_tb 846 (by decide +kernel) rfl
set_option maxRecDepth 20000 in
theorem cw_X7_count : Cond.code yX7_count cX7_count 4 (some .int) ∈ gt := gt_tb 850 (by decide +kernel) rfl
set_option maxRecDepth 20000 in
theorem se_X3_withRises : Cond.selects RX3 yX3_withRises yX3_withRises ∈ gt := gt_tb 97 (by decide +kernel) rfl
set_option maxRecDepth 20000 in
theorem se_X1_startWith : Cond.selects RX1 yX1_startWith yX1_startWith ∈ gt := gt_tb 161 (by decide +kernel) rfl
set_option maxRecDepth 20000 in
theorem se_X0_emptyAll : Cond.selects RX0 yX0_emptyAll yX0_emptyAll ∈ gt := gt_tb 166 (by decide +kernel) rfl
set_option maxRecDepth 20000 in
theorem se_X6_things : Cond.selects RX6 yX6_things yX6_things ∈ gt := gt_tb 195 (by decide +kernel) rfl
set_option maxRecDepth 20000 in
theorem se_X6_order : Cond.selects RX6 yX6_order yX6_order ∈ gt := gt_tb 199 (by decide +kernel) rfl
set_option maxRecDepth 20000 in
theorem se_X1_readFigures : Cond.selects RX1 yX1_readFigures yX1_readFigures ∈ gt := gt_tb 203 (by decide +kernel) rfl
set_option maxRecDepth 20000 in
theorem se_X1_holds : Cond.selects RX1 yX1_holds yX1_holds ∈ gt := gt_tb 208 (by decide +kernel) rfl
set_option maxRecDepth 20000 in
theorem se_X1_keepMade : Cond.selects RX1 yX1_keepMade yX1_keepMade ∈ gt := gt_tb 212 (by decide +kernel) rfl
set_option maxRecDepth 20000 in
theorem se_X6_at : Cond.selects RX6 yX6_at yX6_at ∈ gt := gt_tb 216 (by decide +kernel) rfl
set_option maxRecDepth 20000 in
theorem se_X1_follow : Cond.selects RX1 yX1_follow yX1_follow ∈ gt := gt_tb 224 (by decide +kernel) rfl
set_option maxRecDepth 20000 in
theorem se_X6_swap : Cond.selects RX6 yX6_swap yX6_swap ∈ gt := gt_tb 228 (by decide +kernel) rfl
set_option maxRecDepth 20000 in
theorem se_X1_exchange : Cond.selects RX1 yX1_exchange yX1_exchange ∈ gt := gt_tb 232 (by decide +kernel) rfl
set_option maxRecDepth 20000 in
theorem se_X6_lay : Cond.selects RX6 yX6_lay yX6_lay ∈ gt := gt_tb 236 (by decide +kernel) rfl
set_option maxRecDepth 20000 in
theorem se_X1_copyFrom : Cond.selects RX1 yX1_copyFrom yX1_copyFrom ∈ gt := gt_tb 243 (by decide +kernel) rfl
set_option maxRecDepth 20000 in
theorem se_X6_take : Cond.selects RX6 yX6_take yX6_take ∈ gt := gt_tb 247 (by decide +kernel) rfl
set_option maxRecDepth 20000 in
theorem se_X6_then : Cond.selects RX6 yX6_then yX6_then ∈ gt := gt_tb 251 (by decide +kernel) rfl
set_option maxRecDepth 20000 in
theorem se_X1_goOnBy : Cond.selects RX1 yX1_goOnBy yX1_goOnBy ∈ gt := gt_tb 255 (by decide +kernel) rfl
set_option maxRecDepth 20000 in
theorem se_X6_back : Cond.selects RX6 yX6_back yX6_back ∈ gt := gt_tb 260 (by decide +kernel) rfl
set_option maxRecDepth 20000 in
theorem se_X1_turnBack : Cond.selects RX1 yX1_turnBack yX1_turnBack ∈ gt := gt_tb 264 (by decide +kernel) rfl
set_option maxRecDepth 20000 in
theorem se_X1_makeAt : Cond.selects RX1 yX1_makeAt yX1_makeAt ∈ gt := gt_tb 268 (by decide +kernel) rfl
set_option maxRecDepth 20000 in
theorem se_X6_number : Cond.selects RX6 yX6_number yX6_number ∈ gt := gt_tb 272 (by decide +kernel) rfl
set_option maxRecDepth 20000 in
theorem se_X1_numberOf : Cond.selects RX1 yX1_numberOf yX1_numberOf ∈ gt := gt_tb 279 (by decide +kernel) rfl
set_option maxRecDepth 20000 in
theorem se_X1_rounds : Cond.selects RX1 yX1_rounds yX1_rounds ∈ gt := gt_tb 283 (by decide +kernel) rfl
set_option maxRecDepth 20000 in
theorem se_X1_leadsRound : Cond.selects RX1 yX1_leadsRound yX1_leadsRound ∈ gt := gt_tb 287 (by decide +kernel) rfl
set_option maxRecDepth 20000 in
theorem se_X1_records : Cond.selects RX1 yX1_records yX1_records ∈ gt := gt_tb 291 (by decide +kernel) rfl
set_option maxRecDepth 20000 in
theorem se_X1_rises : Cond.selects RX1 yX1_rises yX1_rises ∈ gt := gt_tb 295 (by decide +kernel) rfl
set_option maxRecDepth 20000 in
theorem se_X1_still : Cond.selects RX1 yX1_still yX1_still ∈ gt := gt_tb 299 (by decide +kernel) rfl
set_option maxRecDepth 20000 in
theorem se_X1_longestRound : Cond.selects RX1 yX1_longestRound yX1_longestRound ∈ gt := gt_tb 303 (by decide +kernel) rfl
set_option maxRecDepth 20000 in
theorem se_X1_roundLength : Cond.selects RX1 yX1_roundLength yX1_roundLength ∈ gt := gt_tb 307 (by decide +kernel) rfl
set_option maxRecDepth 20000 in
theorem se_X1_pairsOut : Cond.selects RX1 yX1_pairsOut yX1_pairsOut ∈ gt := gt_tb 314 (by decide +kernel) rfl
set_option maxRecDepth 20000 in
theorem se_X1_longestRise : Cond.selects RX1 yX1_longestRise yX1_longestRise ∈ gt := gt_tb 318 (by decide +kernel) rfl
set_option maxRecDepth 20000 in
theorem se_X1_turns : Cond.selects RX1 yX1_turns yX1_turns ∈ gt := gt_tb 322 (by decide +kernel) rfl
set_option maxRecDepth 20000 in
theorem se_X6_many : Cond.selects RX6 yX6_many yX6_many ∈ gt := gt_tb 335 (by decide +kernel) rfl
set_option maxRecDepth 20000 in
theorem se_X3_ordersOf : Cond.selects RX3 yX3_ordersOf yX3_ordersOf ∈ gt := gt_tb 373 (by decide +kernel) rfl
set_option maxRecDepth 20000 in
theorem se_X2_hookProduct : Cond.selects RX2 yX2_hookProduct yX2_hookProduct ∈ gt := gt_tb 377 (by decide +kernel) rfl
set_option maxRecDepth 20000 in
theorem se_X2_firstPart : Cond.selects RX2 yX2_firstPart yX2_firstPart ∈ gt := gt_tb 382 (by decide +kernel) rfl
set_option maxRecDepth 20000 in
theorem se_X2_turns : Cond.selects RX2 yX2_turns yX2_turns ∈ gt := gt_tb 390 (by decide +kernel) rfl
set_option maxRecDepth 20000 in
theorem se_X2_sameRounds : Cond.selects RX2 yX2_sameRounds yX2_sameRounds ∈ gt := gt_tb 395 (by decide +kernel) rfl
set_option maxRecDepth 20000 in
theorem se_X2_goOn : Cond.selects RX2 yX2_goOn yX2_goOn ∈ gt := gt_tb 399 (by decide +kernel) rfl
set_option maxRecDepth 20000 in
theorem se_X3_withRecords : Cond.selects RX3 yX3_withRecords yX3_withRecords ∈ gt := gt_tb 412 (by decide +kernel) rfl
set_option maxRecDepth 20000 in
theorem se_X3_withStill : Cond.selects RX3 yX3_withStill yX3_withStill ∈ gt := gt_tb 417 (by decide +kernel) rfl
set_option maxRecDepth 20000 in
theorem se_X3_withRoundsUpTo : Cond.selects RX3 yX3_withRoundsUpTo yX3_withRoundsUpTo ∈ gt := gt_tb 421 (by decide +kernel) rfl
set_option maxRecDepth 20000 in
theorem se_X4_ordersWith : Cond.selects RX4 yX4_ordersWith yX4_ordersWith ∈ gt := gt_tb 435 (by decide +kernel) rfl
set_option maxRecDepth 20000 in
theorem se_X6_mean : Cond.selects RX6 yX6_mean yX6_mean ∈ gt := gt_tb 441 (by decide +kernel) rfl
set_option maxRecDepth 20000 in
theorem se_X4_sumOfNumbers : Cond.selects RX4 yX4_sumOfNumbers yX4_sumOfNumbers ∈ gt := gt_tb 445 (by decide +kernel) rfl
set_option maxRecDepth 20000 in
theorem se_X6_row : Cond.selects RX6 yX6_row yX6_row ∈ gt := gt_tb 450 (by decide +kernel) rfl
set_option maxRecDepth 20000 in
theorem se_X5_start : Cond.selects RX5 yX5_start yX5_start ∈ gt := gt_tb 457 (by decide +kernel) rfl
set_option maxRecDepth 20000 in
theorem se_X5_waysAtStart : Cond.selects RX5 yX5_waysAtStart yX5_waysAtStart ∈ gt := gt_tb 462 (by decide +kernel) rfl
set_option maxRecDepth 20000 in
theorem se_X5_writeRow : Cond.selects RX5 yX5_writeRow yX5_writeRow ∈ gt := gt_tb 473 (by decide +kernel) rfl
set_option maxRecDepth 20000 in
theorem se_X6_place : Cond.selects RX6 yX6_place yX6_place ∈ gt := gt_tb 492 (by decide +kernel) rfl
set_option maxRecDepth 20000 in
theorem se_X5_rowsAheadOf : Cond.selects RX5 yX5_rowsAheadOf yX5_rowsAheadOf ∈ gt := gt_tb 496 (by decide +kernel) rfl
set_option maxRecDepth 20000 in
theorem se_X6_toRounds : Cond.selects RX6 yX6_toRounds yX6_toRounds ∈ gt := gt_tb 501 (by decide +kernel) rfl
set_option maxRecDepth 20000 in
theorem se_X1_makeRounds : Cond.selects RX1 yX1_makeRounds yX1_makeRounds ∈ gt := gt_tb 505 (by decide +kernel) rfl
set_option maxRecDepth 20000 in
theorem se_X6_toRecords : Cond.selects RX6 yX6_toRecords yX6_toRecords ∈ gt := gt_tb 509 (by decide +kernel) rfl
set_option maxRecDepth 20000 in
theorem se_X1_makeRecords : Cond.selects RX1 yX1_makeRecords yX1_makeRecords ∈ gt := gt_tb 513 (by decide +kernel) rfl
set_option maxRecDepth 20000 in
theorem se_X6_opens : Cond.selects RX6 yX6_opens yX6_opens ∈ gt := gt_tb 517 (by decide +kernel) rfl
set_option maxRecDepth 20000 in
theorem se_X6_list : Cond.selects RX6 yX6_list yX6_list ∈ gt := gt_tb 521 (by decide +kernel) rfl
set_option maxRecDepth 20000 in
theorem se_X0_hasBox : Cond.selects RX0 yX0_hasBox yX0_hasBox ∈ gt := gt_tb 525 (by decide +kernel) rfl
set_option maxRecDepth 20000 in
theorem se_X0_firstOf : Cond.selects RX0 yX0_firstOf yX0_firstOf ∈ gt := gt_tb 529 (by decide +kernel) rfl
set_option maxRecDepth 20000 in
theorem se_X0_holds : Cond.selects RX0 yX0_holds yX0_holds ∈ gt := gt_tb 533 (by decide +kernel) rfl
set_option maxRecDepth 20000 in
theorem se_X0_addBox : Cond.selects RX0 yX0_addBox yX0_addBox ∈ gt := gt_tb 538 (by decide +kernel) rfl
set_option maxRecDepth 20000 in
theorem se_X6_forget : Cond.selects RX6 yX6_forget yX6_forget ∈ gt := gt_tb 542 (by decide +kernel) rfl
set_option maxRecDepth 20000 in
theorem se_X0_emptyOne : Cond.selects RX0 yX0_emptyOne yX0_emptyOne ∈ gt := gt_tb 546 (by decide +kernel) rfl
set_option maxRecDepth 20000 in
theorem se_X6_wins : Cond.selects RX6 yX6_wins yX6_wins ∈ gt := gt_tb 550 (by decide +kernel) rfl
set_option maxRecDepth 20000 in
theorem se_X0_findsOwnThing : Cond.selects RX0 yX0_findsOwnThing yX0_findsOwnThing ∈ gt := gt_tb 558 (by decide +kernel) rfl
set_option maxRecDepth 20000 in
theorem se_X6_allWin : Cond.selects RX6 yX6_allWin yX6_allWin ∈ gt := gt_tb 563 (by decide +kernel) rfl
set_option maxRecDepth 20000 in
theorem se_X0_ordersWonByAll : Cond.selects RX0 yX0_ordersWonByAll yX0_ordersWonByAll ∈ gt := gt_tb 569 (by decide +kernel) rfl
set_option maxRecDepth 20000 in
theorem se_X0_placeNextThing : Cond.selects RX0 yX0_placeNextThing yX0_placeNextThing ∈ gt := gt_tb 574 (by decide +kernel) rfl
set_option maxRecDepth 20000 in
theorem se_X6_count : Cond.selects RX6 yX6_count yX6_count ∈ gt := gt_tb 584 (by decide +kernel) rfl
set_option maxRecDepth 20000 in
theorem se_X0_boxesInAll : Cond.selects RX0 yX0_boxesInAll yX0_boxesInAll ∈ gt := gt_tb 588 (by decide +kernel) rfl
set_option maxRecDepth 20000 in
theorem se_X7_things : Cond.selects RX7 yX7_things yX7_things ∈ gt := gt_tb 651 (by decide +kernel) rfl
set_option maxRecDepth 20000 in
theorem se_X7_order : Cond.selects RX7 yX7_order yX7_order ∈ gt := gt_tb 659 (by decide +kernel) rfl
set_option maxRecDepth 20000 in
theorem se_X7_at : Cond.selects RX7 yX7_at yX7_at ∈ gt := gt_tb 667 (by decide +kernel) rfl
set_option maxRecDepth 20000 in
theorem se_X7_swap : Cond.selects RX7 yX7_swap yX7_swap ∈ gt := gt_tb 675 (by decide +kernel) rfl
set_option maxRecDepth 20000 in
theorem se_X7_lay : Cond.selects RX7 yX7_lay yX7_lay ∈ gt := gt_tb 679 (by decide +kernel) rfl
set_option maxRecDepth 20000 in
theorem se_X7_take : Cond.selects RX7 yX7_take yX7_take ∈ gt := gt_tb 684 (by decide +kernel) rfl
set_option maxRecDepth 20000 in
theorem se_X7_then : Cond.selects RX7 yX7_then yX7_then ∈ gt := gt_tb 688 (by decide +kernel) rfl
set_option maxRecDepth 20000 in
theorem se_X7_back : Cond.selects RX7 yX7_back yX7_back ∈ gt := gt_tb 692 (by decide +kernel) rfl
set_option maxRecDepth 20000 in
theorem se_X7_number : Cond.selects RX7 yX7_number yX7_number ∈ gt := gt_tb 696 (by decide +kernel) rfl
set_option maxRecDepth 20000 in
theorem se_X7_many : Cond.selects RX7 yX7_many yX7_many ∈ gt := gt_tb 728 (by decide +kernel) rfl
set_option maxRecDepth 20000 in
theorem se_X7_mean : Cond.selects RX7 yX7_mean yX7_mean ∈ gt := gt_tb 770 (by decide +kernel) rfl
set_option maxRecDepth 20000 in
theorem se_X7_row : Cond.selects RX7 yX7_row yX7_row ∈ gt := gt_tb 774 (by decide +kernel) rfl
set_option maxRecDepth 20000 in
theorem se_X7_place : Cond.selects RX7 yX7_place yX7_place ∈ gt := gt_tb 804 (by decide +kernel) rfl
set_option maxRecDepth 20000 in
theorem se_X7_toRounds : Cond.selects RX7 yX7_toRounds yX7_toRounds ∈ gt := gt_tb 808 (by decide +kernel) rfl
set_option maxRecDepth 20000 in
theorem se_X7_toRecords : Cond.selects RX7 yX7_toRecords yX7_toRecords ∈ gt := gt_tb 812 (by decide +kernel) rfl
set_option maxRecDepth 20000 in
theorem se_X7_opens : Cond.selects RX7 yX7_opens yX7_opens ∈ gt := gt_tb 820 (by decide +kernel) rfl
set_option maxRecDepth 20000 in
theorem se_X7_list : Cond.selects RX7 yX7_list yX7_list ∈ gt := gt_tb 824 (by decide +kernel) rfl
set_option maxRecDepth 20000 in
theorem se_X7_forget : Cond.selects RX7 yX7_forget yX7_forget ∈ gt := gt_tb 828 (by decide +kernel) rfl
set_option maxRecDepth 20000 in
theorem se_X7_wins : Cond.selects RX7 yX7_wins yX7_wins ∈ gt := gt_tb 832 (by decide +kernel) rfl
set_option maxRecDepth 20000 in
theorem se_X7_allWin : Cond.selects RX7 yX7_allWin yX7_allWin ∈ gt := gt_tb 840 (by decide +kernel) rfl
set_option maxRecDepth 20000 in
theorem se_X7_count : Cond.selects RX7 yX7_count yX7_count ∈ gt := gt_tb 849 (by decide +kernel) rfl
set_option maxRecDepth 20000 in
theorem se_X3_fillFactorials : Cond.selects RX3 yX3_fillFactorials yX3_fillFactorials ∈ gt := gt_pv 0 (by decide +kernel) rfl
set_option maxRecDepth 20000 in
theorem se_X3_fillDeranged : Cond.selects RX3 yX3_fillDeranged yX3_fillDeranged ∈ gt := gt_pv 1 (by decide +kernel) rfl
set_option maxRecDepth 20000 in
theorem se_X3_fillRecords : Cond.selects RX3 yX3_fillRecords yX3_fillRecords ∈ gt := gt_pv 2 (by decide +kernel) rfl
set_option maxRecDepth 20000 in
theorem se_X3_fillRoundsUpTo : Cond.selects RX3 yX3_fillRoundsUpTo yX3_fillRoundsUpTo ∈ gt := gt_pv 3 (by decide +kernel) rfl
set_option maxRecDepth 20000 in
theorem se_X3_sumByRoundOfLast : Cond.selects RX3 yX3_sumByRoundOfLast yX3_sumByRoundOfLast ∈ gt := gt_pv 4 (by decide +kernel) rfl
set_option maxRecDepth 20000 in
theorem se_X3_fillRises : Cond.selects RX3 yX3_fillRises yX3_fillRises ∈ gt := gt_pv 5 (by decide +kernel) rfl
set_option maxRecDepth 20000 in
theorem se_X3_fillRisesByBelow : Cond.selects RX3 yX3_fillRisesByBelow yX3_fillRisesByBelow ∈ gt := gt_pv 6 (by decide +kernel) rfl
set_option maxRecDepth 20000 in
theorem se_X6_startWith : Cond.selects RX6 yX6_startWith yX6_startWith ∈ gt := gt_pv 7 (by decide +kernel) rfl
set_option maxRecDepth 20000 in
theorem se_X6_isThing : Cond.selects RX6 yX6_isThing yX6_isThing ∈ gt := gt_pv 8 (by decide +kernel) rfl
set_option maxRecDepth 20000 in
theorem se_X6_tallyOf : Cond.selects RX6 yX6_tallyOf yX6_tallyOf ∈ gt := gt_pv 9 (by decide +kernel) rfl
set_option maxRecDepth 20000 in
theorem se_X4_fillPairsOut : Cond.selects RX4 yX4_fillPairsOut yX4_fillPairsOut ∈ gt := gt_pv 10 (by decide +kernel) rfl
set_option maxRecDepth 20000 in
theorem se_X4_fillByPartitions : Cond.selects RX4 yX4_fillByPartitions yX4_fillByPartitions ∈ gt := gt_pv 11 (by decide +kernel) rfl
set_option maxRecDepth 20000 in
theorem se_X4_addOrders : Cond.selects RX4 yX4_addOrders yX4_addOrders ∈ gt := gt_pv 12 (by decide +kernel) rfl
set_option maxRecDepth 20000 in
theorem se_X4_fillByTables : Cond.selects RX4 yX4_fillByTables yX4_fillByTables ∈ gt := gt_pv 13 (by decide +kernel) rfl
set_option maxRecDepth 20000 in
theorem se_X4_fromTables : Cond.selects RX4 yX4_fromTables yX4_fromTables ∈ gt := gt_pv 14 (by decide +kernel) rfl
set_option maxRecDepth 20000 in
theorem se_X5_ways : Cond.selects RX5 yX5_ways yX5_ways ∈ gt := gt_pv 15 (by decide +kernel) rfl
set_option maxRecDepth 20000 in
theorem se_X5_waysWith : Cond.selects RX5 yX5_waysWith yX5_waysWith ∈ gt := gt_pv 16 (by decide +kernel) rfl
set_option maxRecDepth 20000 in
theorem se_X5_wantedAfter : Cond.selects RX5 yX5_wantedAfter yX5_wantedAfter ∈ gt := gt_pv 17 (by decide +kernel) rfl
set_option maxRecDepth 20000 in
theorem se_X5_step : Cond.selects RX5 yX5_step yX5_step ∈ gt := gt_pv 18 (by decide +kernel) rfl
set_option maxRecDepth 20000 in
theorem se_X7_begin : Cond.selects RX7 yX7_begin yX7_begin ∈ gt := gt_pv 19 (by decide +kernel) rfl
set_option maxRecDepth 20000 in
theorem se_X7_become : Cond.selects RX7 yX7_become yX7_become ∈ gt := gt_pv 20 (by decide +kernel) rfl
set_option maxRecDepth 20000 in
theorem se_X7_isThing : Cond.selects RX7 yX7_isThing yX7_isThing ∈ gt := gt_pv 21 (by decide +kernel) rfl
set_option maxRecDepth 20000 in
theorem se_X7_numberOf : Cond.selects RX7 yX7_numberOf yX7_numberOf ∈ gt := gt_pv 22 (by decide +kernel) rfl
set_option maxRecDepth 20000 in
theorem se_X7_roundOf : Cond.selects RX7 yX7_roundOf yX7_roundOf ∈ gt := gt_pv 23 (by decide +kernel) rfl
set_option maxRecDepth 20000 in
theorem se_X7_isFirst : Cond.selects RX7 yX7_isFirst yX7_isFirst ∈ gt := gt_pv 24 (by decide +kernel) rfl
set_option maxRecDepth 20000 in
theorem se_X7_isRecord : Cond.selects RX7 yX7_isRecord yX7_isRecord ∈ gt := gt_pv 25 (by decide +kernel) rfl
set_option maxRecDepth 20000 in
theorem se_X7_out : Cond.selects RX7 yX7_out yX7_out ∈ gt := gt_pv 26 (by decide +kernel) rfl
set_option maxRecDepth 20000 in
theorem se_X7_longestRise : Cond.selects RX7 yX7_longestRise yX7_longestRise ∈ gt := gt_pv 27 (by decide +kernel) rfl
set_option maxRecDepth 20000 in
theorem se_X7_findCounts : Cond.selects RX7 yX7_findCounts yX7_findCounts ∈ gt := gt_pv 28 (by decide +kernel) rfl
set_option maxRecDepth 20000 in
theorem se_X7_layProducts : Cond.selects RX7 yX7_layProducts yX7_layProducts ∈ gt := gt_pv 29 (by decide +kernel) rfl
set_option maxRecDepth 20000 in
theorem se_X7_countByThings : Cond.selects RX7 yX7_countByThings yX7_countByThings ∈ gt := gt_pv 30 (by decide +kernel) rfl
set_option maxRecDepth 20000 in
theorem se_X7_step : Cond.selects RX7 yX7_step yX7_step ∈ gt := gt_pv 31 (by decide +kernel) rfl
set_option maxRecDepth 20000 in
theorem se_X7_countByShapes : Cond.selects RX7 yX7_countByShapes yX7_countByShapes ∈ gt := gt_pv 32 (by decide +kernel) rfl
set_option maxRecDepth 20000 in
theorem se_X7_shapeNumber : Cond.selects RX7 yX7_shapeNumber yX7_shapeNumber ∈ gt := gt_pv 33 (by decide +kernel) rfl
set_option maxRecDepth 20000 in
theorem se_X7_byFillings : Cond.selects RX7 yX7_byFillings yX7_byFillings ∈ gt := gt_pv 34 (by decide +kernel) rfl
set_option maxRecDepth 20000 in
theorem se_X7_byRounds : Cond.selects RX7 yX7_byRounds yX7_byRounds ∈ gt := gt_pv 35 (by decide +kernel) rfl
set_option maxRecDepth 20000 in
theorem se_X7_nextShape : Cond.selects RX7 yX7_nextShape yX7_nextShape ∈ gt := gt_pv 36 (by decide +kernel) rfl
set_option maxRecDepth 20000 in
theorem se_X7_beginRow : Cond.selects RX7 yX7_beginRow yX7_beginRow ∈ gt := gt_pv 37 (by decide +kernel) rfl
set_option maxRecDepth 20000 in
theorem se_X7_layWays : Cond.selects RX7 yX7_layWays yX7_layWays ∈ gt := gt_pv 38 (by decide +kernel) rfl
set_option maxRecDepth 20000 in
theorem se_X7_waysBy : Cond.selects RX7 yX7_waysBy yX7_waysBy ∈ gt := gt_pv 39 (by decide +kernel) rfl
set_option maxRecDepth 20000 in
theorem se_X7_waysAt : Cond.selects RX7 yX7_waysAt yX7_waysAt ∈ gt := gt_pv 40 (by decide +kernel) rfl
set_option maxRecDepth 20000 in
theorem se_X7_put : Cond.selects RX7 yX7_put yX7_put ∈ gt := gt_pv 41 (by decide +kernel) rfl
set_option maxRecDepth 20000 in
theorem se_X7_isGreatest : Cond.selects RX7 yX7_isGreatest yX7_isGreatest ∈ gt := gt_pv 42 (by decide +kernel) rfl
set_option maxRecDepth 20000 in
theorem se_X7_winsBy : Cond.selects RX7 yX7_winsBy yX7_winsBy ∈ gt := gt_pv 43 (by decide +kernel) rfl
set_option maxRecDepth 20000 in
theorem se_X7_layRow : Cond.selects RX7 yX7_layRow yX7_layRow ∈ gt := gt_pv 44 (by decide +kernel) rfl
set_option maxRecDepth 20000 in
theorem wi_X6_init : WI RX6 yX6_init cX6_init 2 0 := ⟨im_X6_init, in_X6, cw_X6_init, rfl, by decide +kernel, by decide +kernel, by decide +kernel, rfl⟩
set_option maxRecDepth 20000 in
theorem wi_X1_init : WI RX1 yX1_init cX1_init 1 0 := ⟨im_X1_init, in_X1, cw_X1_init, rfl, by decide +kernel, by decide +kernel, by decide +kernel, rfl⟩
set_option maxRecDepth 20000 in
theorem wi_X0_init : WI RX0 yX0_init cX0_init 1 0 := ⟨im_X0_init, in_X0, cw_X0_init, rfl, by decide +kernel, by decide +kernel, by decide +kernel, rfl⟩
set_option maxRecDepth 20000 in
theorem wi_X3_init : WI RX3 yX3_init cX3_init 1 0 := ⟨im_X3_init, in_X3, cw_X3_init, rfl, by decide +kernel, by decide +kernel, by decide +kernel, rfl⟩
set_option maxRecDepth 20000 in
theorem ws_X3_riseSlot : WS RX3 yX3_riseSlot cX3_riseSlot 3 (some .int) 3 := ⟨sm_X3_riseSlot, in_X3, cw_X3_riseSlot, rfl, by decide +kernel, by decide +kernel, by decide +kernel⟩
set_option maxRecDepth 20000 in
theorem wf_X3_fillFactorials : WF RX3 yX3_fillFactorials cX3_fillFactorials 2 none 0 := ⟨⟨im_X3_fillFactorials, se_X3_fillFactorials⟩, in_X3, cw_X3_fillFactorials, rfl, by decide +kernel, by decide +kernel, by decide +kernel⟩
set_option maxRecDepth 20000 in
theorem wf_X3_fillDeranged : WF RX3 yX3_fillDeranged cX3_fillDeranged 2 none 0 := ⟨⟨im_X3_fillDeranged, se_X3_fillDeranged⟩, in_X3, cw_X3_fillDeranged, rfl, by decide +kernel, by decide +kernel, by decide +kernel⟩
set_option maxRecDepth 20000 in
theorem wf_X3_fillRecords : WF RX3 yX3_fillRecords cX3_fillRecords 3 none 0 := ⟨⟨im_X3_fillRecords, se_X3_fillRecords⟩, in_X3, cw_X3_fillRecords, rfl, by decide +kernel, by decide +kernel, by decide +kernel⟩
set_option maxRecDepth 20000 in
theorem wf_X3_fillRoundsUpTo : WF RX3 yX3_fillRoundsUpTo cX3_fillRoundsUpTo 3 none 0 := ⟨⟨im_X3_fillRoundsUpTo, se_X3_fillRoundsUpTo⟩, in_X3, cw_X3_fillRoundsUpTo, rfl, by decide +kernel, by decide +kernel, by decide +kernel⟩
set_option maxRecDepth 20000 in
theorem wf_X3_sumByRoundOfLast : WF RX3 yX3_sumByRoundOfLast cX3_sumByRoundOfLast 8 (some .long) 2 := ⟨⟨im_X3_sumByRoundOfLast, se_X3_sumByRoundOfLast⟩, in_X3, cw_X3_sumByRoundOfLast, rfl, by decide +kernel, by decide +kernel, by decide +kernel⟩
set_option maxRecDepth 20000 in
theorem wf_X3_fillRises : WF RX3 yX3_fillRises cX3_fillRises 3 none 0 := ⟨⟨im_X3_fillRises, se_X3_fillRises⟩, in_X3, cw_X3_fillRises, rfl, by decide +kernel, by decide +kernel, by decide +kernel⟩
set_option maxRecDepth 20000 in
theorem wf_X3_fillRisesByBelow : WF RX3 yX3_fillRisesByBelow cX3_fillRisesByBelow 6 none 2 := ⟨⟨im_X3_fillRisesByBelow, se_X3_fillRisesByBelow⟩, in_X3, cw_X3_fillRisesByBelow, rfl, by decide +kernel, by decide +kernel, by decide +kernel⟩
set_option maxRecDepth 20000 in
theorem wf_X3_withRises : WF RX3 yX3_withRises cX3_withRises 4 (some .long) 3 := ⟨⟨im_X3_withRises, se_X3_withRises⟩, in_X3, cw_X3_withRises, rfl, by decide +kernel, by decide +kernel, by decide +kernel⟩
set_option maxRecDepth 20000 in
theorem ws_X6_entry : WS RX6 yX6_entry cX6_entry 2 (some .long) 2 := ⟨sm_X6_entry, in_X6, cw_X6_entry, rfl, by decide +kernel, by decide +kernel, by decide +kernel⟩
set_option maxRecDepth 20000 in
theorem wi_X5_init : WI RX5 yX5_init cX5_init 2 1 := ⟨im_X5_init, in_X5, cw_X5_init, rfl, by decide +kernel, by decide +kernel, by decide +kernel, rfl⟩
set_option maxRecDepth 20000 in
theorem wf_X6_startWith : WF RX6 yX6_startWith cX6_startWith 3 none 1 := ⟨⟨im_X6_startWith, se_X6_startWith⟩, in_X6, cw_X6_startWith, rfl, by decide +kernel, by decide +kernel, by decide +kernel⟩
set_option maxRecDepth 20000 in
theorem wf_X1_startWith : WF RX1 yX1_startWith cX1_startWith 3 none 1 := ⟨⟨im_X1_startWith, se_X1_startWith⟩, in_X1, cw_X1_startWith, rfl, by decide +kernel, by decide +kernel, by decide +kernel⟩
set_option maxRecDepth 20000 in
theorem wf_X0_emptyAll : WF RX0 yX0_emptyAll cX0_emptyAll 2 none 0 := ⟨⟨im_X0_emptyAll, se_X0_emptyAll⟩, in_X0, cw_X0_emptyAll, rfl, by decide +kernel, by decide +kernel, by decide +kernel⟩
set_option maxRecDepth 20000 in
theorem wf_X6_things : WF RX6 yX6_things cX6_things 2 (some .int) 1 := ⟨⟨im_X6_things, se_X6_things⟩, in_X6, cw_X6_things, rfl, by decide +kernel, by decide +kernel, by decide +kernel⟩
set_option maxRecDepth 20000 in
theorem wf_X6_order : WF RX6 yX6_order cX6_order 5 (some .int) 2 := ⟨⟨im_X6_order, se_X6_order⟩, in_X6, cw_X6_order, rfl, by decide +kernel, by decide +kernel, by decide +kernel⟩
set_option maxRecDepth 20000 in
theorem wf_X1_readFigures : WF RX1 yX1_readFigures cX1_readFigures 13 (some .boolean) 2 := ⟨⟨im_X1_readFigures, se_X1_readFigures⟩, in_X1, cw_X1_readFigures, rfl, by decide +kernel, by decide +kernel, by decide +kernel⟩
set_option maxRecDepth 20000 in
theorem wf_X1_holds : WF RX1 yX1_holds cX1_holds 2 (some .boolean) 1 := ⟨⟨im_X1_holds, se_X1_holds⟩, in_X1, cw_X1_holds, rfl, by decide +kernel, by decide +kernel, by decide +kernel⟩
set_option maxRecDepth 20000 in
theorem wf_X1_keepMade : WF RX1 yX1_keepMade cX1_keepMade 2 none 0 := ⟨⟨im_X1_keepMade, se_X1_keepMade⟩, in_X1, cw_X1_keepMade, rfl, by decide +kernel, by decide +kernel, by decide +kernel⟩
set_option maxRecDepth 20000 in
theorem wf_X6_at : WF RX6 yX6_at cX6_at 2 (some .int) 1 := ⟨⟨im_X6_at, se_X6_at⟩, in_X6, cw_X6_at, rfl, by decide +kernel, by decide +kernel, by decide +kernel⟩
set_option maxRecDepth 20000 in
theorem wf_X6_isThing : WF RX6 yX6_isThing cX6_isThing 2 (some .boolean) 1 := ⟨⟨im_X6_isThing, se_X6_isThing⟩, in_X6, cw_X6_isThing, rfl, by decide +kernel, by decide +kernel, by decide +kernel⟩
set_option maxRecDepth 20000 in
theorem wf_X1_follow : WF RX1 yX1_follow cX1_follow 2 (some .int) 1 := ⟨⟨im_X1_follow, se_X1_follow⟩, in_X1, cw_X1_follow, rfl, by decide +kernel, by decide +kernel, by decide +kernel⟩
set_option maxRecDepth 20000 in
theorem wf_X6_swap : WF RX6 yX6_swap cX6_swap 3 (some .int) 2 := ⟨⟨im_X6_swap, se_X6_swap⟩, in_X6, cw_X6_swap, rfl, by decide +kernel, by decide +kernel, by decide +kernel⟩
set_option maxRecDepth 20000 in
theorem wf_X1_exchange : WF RX1 yX1_exchange cX1_exchange 4 none 2 := ⟨⟨im_X1_exchange, se_X1_exchange⟩, in_X1, cw_X1_exchange, rfl, by decide +kernel, by decide +kernel, by decide +kernel⟩
set_option maxRecDepth 20000 in
theorem wf_X6_lay : WF RX6 yX6_lay cX6_lay 2 (some .int) 1 := ⟨⟨im_X6_lay, se_X6_lay⟩, in_X6, cw_X6_lay, rfl, by decide +kernel, by decide +kernel, by decide +kernel⟩
set_option maxRecDepth 20000 in
theorem ws_X6_isPlace : WS RX6 yX6_isPlace cX6_isPlace 1 (some .boolean) 1 := ⟨sm_X6_isPlace, in_X6, cw_X6_isPlace, rfl, by decide +kernel, by decide +kernel, by decide +kernel⟩
set_option maxRecDepth 20000 in
theorem wf_X1_copyFrom : WF RX1 yX1_copyFrom cX1_copyFrom 3 none 1 := ⟨⟨im_X1_copyFrom, se_X1_copyFrom⟩, in_X1, cw_X1_copyFrom, rfl, by decide +kernel, by decide +kernel, by decide +kernel⟩
set_option maxRecDepth 20000 in
theorem wf_X6_take : WF RX6 yX6_take cX6_take 2 (some .int) 1 := ⟨⟨im_X6_take, se_X6_take⟩, in_X6, cw_X6_take, rfl, by decide +kernel, by decide +kernel, by decide +kernel⟩
set_option maxRecDepth 20000 in
theorem wf_X6_then : WF RX6 yX6_then cX6_then 2 (some .int) 1 := ⟨⟨im_X6_then, se_X6_then⟩, in_X6, cw_X6_then, rfl, by decide +kernel, by decide +kernel, by decide +kernel⟩
set_option maxRecDepth 20000 in
theorem wf_X1_goOnBy : WF RX1 yX1_goOnBy cX1_goOnBy 3 none 1 := ⟨⟨im_X1_goOnBy, se_X1_goOnBy⟩, in_X1, cw_X1_goOnBy, rfl, by decide +kernel, by decide +kernel, by decide +kernel⟩
set_option maxRecDepth 20000 in
theorem wf_X6_back : WF RX6 yX6_back cX6_back 1 (some .int) 0 := ⟨⟨im_X6_back, se_X6_back⟩, in_X6, cw_X6_back, rfl, by decide +kernel, by decide +kernel, by decide +kernel⟩
set_option maxRecDepth 20000 in
theorem wf_X1_turnBack : WF RX1 yX1_turnBack cX1_turnBack 2 none 0 := ⟨⟨im_X1_turnBack, se_X1_turnBack⟩, in_X1, cw_X1_turnBack, rfl, by decide +kernel, by decide +kernel, by decide +kernel⟩
set_option maxRecDepth 20000 in
theorem wf_X1_makeAt : WF RX1 yX1_makeAt cX1_makeAt 3 none 2 := ⟨⟨im_X1_makeAt, se_X1_makeAt⟩, in_X1, cw_X1_makeAt, rfl, by decide +kernel, by decide +kernel, by decide +kernel⟩
set_option maxRecDepth 20000 in
theorem wf_X6_number : WF RX6 yX6_number cX6_number 2 (some .int) 1 := ⟨⟨im_X6_number, se_X6_number⟩, in_X6, cw_X6_number, rfl, by decide +kernel, by decide +kernel, by decide +kernel⟩
set_option maxRecDepth 20000 in
theorem ws_X6_isKind : WS RX6 yX6_isKind cX6_isKind 1 (some .boolean) 1 := ⟨sm_X6_isKind, in_X6, cw_X6_isKind, rfl, by decide +kernel, by decide +kernel, by decide +kernel⟩
set_option maxRecDepth 20000 in
theorem wf_X1_numberOf : WF RX1 yX1_numberOf cX1_numberOf 2 (some .int) 1 := ⟨⟨im_X1_numberOf, se_X1_numberOf⟩, in_X1, cw_X1_numberOf, rfl, by decide +kernel, by decide +kernel, by decide +kernel⟩
set_option maxRecDepth 20000 in
theorem wf_X1_rounds : WF RX1 yX1_rounds cX1_rounds 3 (some .int) 0 := ⟨⟨im_X1_rounds, se_X1_rounds⟩, in_X1, cw_X1_rounds, rfl, by decide +kernel, by decide +kernel, by decide +kernel⟩
set_option maxRecDepth 20000 in
theorem wf_X1_leadsRound : WF RX1 yX1_leadsRound cX1_leadsRound 4 (some .boolean) 1 := ⟨⟨im_X1_leadsRound, se_X1_leadsRound⟩, in_X1, cw_X1_leadsRound, rfl, by decide +kernel, by decide +kernel, by decide +kernel⟩
set_option maxRecDepth 20000 in
theorem wf_X1_records : WF RX1 yX1_records cX1_records 4 (some .int) 0 := ⟨⟨im_X1_records, se_X1_records⟩, in_X1, cw_X1_records, rfl, by decide +kernel, by decide +kernel, by decide +kernel⟩
set_option maxRecDepth 20000 in
theorem wf_X1_rises : WF RX1 yX1_rises cX1_rises 3 (some .int) 0 := ⟨⟨im_X1_rises, se_X1_rises⟩, in_X1, cw_X1_rises, rfl, by decide +kernel, by decide +kernel, by decide +kernel⟩
set_option maxRecDepth 20000 in
theorem wf_X1_still : WF RX1 yX1_still cX1_still 3 (some .int) 0 := ⟨⟨im_X1_still, se_X1_still⟩, in_X1, cw_X1_still, rfl, by decide +kernel, by decide +kernel, by decide +kernel⟩
set_option maxRecDepth 20000 in
theorem wf_X1_longestRound : WF RX1 yX1_longestRound cX1_longestRound 3 (some .int) 0 := ⟨⟨im_X1_longestRound, se_X1_longestRound⟩, in_X1, cw_X1_longestRound, rfl, by decide +kernel, by decide +kernel, by decide +kernel⟩
set_option maxRecDepth 20000 in
theorem wf_X1_roundLength : WF RX1 yX1_roundLength cX1_roundLength 4 (some .int) 1 := ⟨⟨im_X1_roundLength, se_X1_roundLength⟩, in_X1, cw_X1_roundLength, rfl, by decide +kernel, by decide +kernel, by decide +kernel⟩
set_option maxRecDepth 20000 in
theorem wf_X1_pairsOut : WF RX1 yX1_pairsOut cX1_pairsOut 4 (some .int) 0 := ⟨⟨im_X1_pairsOut, se_X1_pairsOut⟩, in_X1, cw_X1_pairsOut, rfl, by decide +kernel, by decide +kernel, by decide +kernel⟩
set_option maxRecDepth 20000 in
theorem wf_X1_longestRise : WF RX1 yX1_longestRise cX1_longestRise 5 (some .int) 0 := ⟨⟨im_X1_longestRise, se_X1_longestRise⟩, in_X1, cw_X1_longestRise, rfl, by decide +kernel, by decide +kernel, by decide +kernel⟩
set_option maxRecDepth 20000 in
theorem wf_X1_turns : WF RX1 yX1_turns cX1_turns 3 (some .int) 0 := ⟨⟨im_X1_turns, se_X1_turns⟩, in_X1, cw_X1_turns, rfl, by decide +kernel, by decide +kernel, by decide +kernel⟩
set_option maxRecDepth 20000 in
theorem ws_X6_commonMultiple : WS RX6 yX6_commonMultiple cX6_commonMultiple 2 (some .int) 2 := ⟨sm_X6_commonMultiple, in_X6, cw_X6_commonMultiple, rfl, by decide +kernel, by decide +kernel, by decide +kernel⟩
set_option maxRecDepth 20000 in
theorem ws_X6_commonDivisor : WS RX6 yX6_commonDivisor cX6_commonDivisor 11 (some .long) 2 := ⟨sm_X6_commonDivisor, in_X6, cw_X6_commonDivisor, rfl, by decide +kernel, by decide +kernel, by decide +kernel⟩
set_option maxRecDepth 20000 in
theorem ws_X6_quotient : WS RX6 yX6_quotient cX6_quotient 4 (some .long) 2 := ⟨sm_X6_quotient, in_X6, cw_X6_quotient, rfl, by decide +kernel, by decide +kernel, by decide +kernel⟩
set_option maxRecDepth 20000 in
theorem wf_X6_many : WF RX6 yX6_many cX6_many 3 (some .long) 2 := ⟨⟨im_X6_many, se_X6_many⟩, in_X6, cw_X6_many, rfl, by decide +kernel, by decide +kernel, by decide +kernel⟩
set_option maxRecDepth 20000 in
theorem wf_X6_tallyOf : WF RX6 yX6_tallyOf cX6_tallyOf 3 (some (.object "HundredBoxes$Tally")) 1 := ⟨⟨im_X6_tallyOf, se_X6_tallyOf⟩, in_X6, cw_X6_tallyOf, rfl, by decide +kernel, by decide +kernel, by decide +kernel⟩
set_option maxRecDepth 20000 in
theorem wi_X4_init : WI RX4 yX4_init cX4_init 4 3 := ⟨im_X4_init, in_X4, cw_X4_init, rfl, by decide +kernel, by decide +kernel, by decide +kernel, rfl⟩
set_option maxRecDepth 20000 in
theorem ws_X4_greatest : WS RX4 yX4_greatest cX4_greatest 2 (some .int) 2 := ⟨sm_X4_greatest, in_X4, cw_X4_greatest, rfl, by decide +kernel, by decide +kernel, by decide +kernel⟩
set_option maxRecDepth 20000 in
theorem wf_X4_fillPairsOut : WF RX4 yX4_fillPairsOut cX4_fillPairsOut 4 none 0 := ⟨⟨im_X4_fillPairsOut, se_X4_fillPairsOut⟩, in_X4, cw_X4_fillPairsOut, rfl, by decide +kernel, by decide +kernel, by decide +kernel⟩
set_option maxRecDepth 20000 in
theorem wf_X4_fillByPartitions : WF RX4 yX4_fillByPartitions cX4_fillByPartitions 7 none 1 := ⟨⟨im_X4_fillByPartitions, se_X4_fillByPartitions⟩, in_X4, cw_X4_fillByPartitions, rfl, by decide +kernel, by decide +kernel, by decide +kernel⟩
set_option maxRecDepth 20000 in
theorem wi_X2_init : WI RX2 yX2_init cX2_init 2 1 := ⟨im_X2_init, in_X2, cw_X2_init, rfl, by decide +kernel, by decide +kernel, by decide +kernel, rfl⟩
set_option maxRecDepth 20000 in
theorem wf_X3_ordersOf : WF RX3 yX3_ordersOf cX3_ordersOf 2 (some .long) 1 := ⟨⟨im_X3_ordersOf, se_X3_ordersOf⟩, in_X3, cw_X3_ordersOf, rfl, by decide +kernel, by decide +kernel, by decide +kernel⟩
set_option maxRecDepth 20000 in
theorem wf_X2_hookProduct : WF RX2 yX2_hookProduct cX2_hookProduct 6 (some .long) 0 := ⟨⟨im_X2_hookProduct, se_X2_hookProduct⟩, in_X2, cw_X2_hookProduct, rfl, by decide +kernel, by decide +kernel, by decide +kernel⟩
set_option maxRecDepth 20000 in
theorem wf_X2_firstPart : WF RX2 yX2_firstPart cX2_firstPart 1 (some .int) 0 := ⟨⟨im_X2_firstPart, se_X2_firstPart⟩, in_X2, cw_X2_firstPart, rfl, by decide +kernel, by decide +kernel, by decide +kernel⟩
set_option maxRecDepth 20000 in
theorem wf_X4_addOrders : WF RX4 yX4_addOrders cX4_addOrders 4 none 2 := ⟨⟨im_X4_addOrders, se_X4_addOrders⟩, in_X4, cw_X4_addOrders, rfl, by decide +kernel, by decide +kernel, by decide +kernel⟩
set_option maxRecDepth 20000 in
theorem wf_X2_turns : WF RX2 yX2_turns cX2_turns 3 (some .int) 0 := ⟨⟨im_X2_turns, se_X2_turns⟩, in_X2, cw_X2_turns, rfl, by decide +kernel, by decide +kernel, by decide +kernel⟩
set_option maxRecDepth 20000 in
theorem wf_X2_sameRounds : WF RX2 yX2_sameRounds cX2_sameRounds 5 (some .long) 0 := ⟨⟨im_X2_sameRounds, se_X2_sameRounds⟩, in_X2, cw_X2_sameRounds, rfl, by decide +kernel, by decide +kernel, by decide +kernel⟩
set_option maxRecDepth 20000 in
theorem wf_X2_goOn : WF RX2 yX2_goOn cX2_goOn 4 (some .boolean) 0 := ⟨⟨im_X2_goOn, se_X2_goOn⟩, in_X2, cw_X2_goOn, rfl, by decide +kernel, by decide +kernel, by decide +kernel⟩
set_option maxRecDepth 20000 in
theorem wf_X4_fillByTables : WF RX4 yX4_fillByTables cX4_fillByTables 3 none 1 := ⟨⟨im_X4_fillByTables, se_X4_fillByTables⟩, in_X4, cw_X4_fillByTables, rfl, by decide +kernel, by decide +kernel, by decide +kernel⟩
set_option maxRecDepth 20000 in
theorem wf_X4_fromTables : WF RX4 yX4_fromTables cX4_fromTables 3 (some .long) 2 := ⟨⟨im_X4_fromTables, se_X4_fromTables⟩, in_X4, cw_X4_fromTables, rfl, by decide +kernel, by decide +kernel, by decide +kernel⟩
set_option maxRecDepth 20000 in
theorem wf_X3_withRecords : WF RX3 yX3_withRecords cX3_withRecords 7 (some .long) 3 := ⟨⟨im_X3_withRecords, se_X3_withRecords⟩, in_X3, cw_X3_withRecords, rfl, by decide +kernel, by decide +kernel, by decide +kernel⟩
set_option maxRecDepth 20000 in
theorem wf_X3_withStill : WF RX3 yX3_withStill cX3_withStill 6 (some .long) 2 := ⟨⟨im_X3_withStill, se_X3_withStill⟩, in_X3, cw_X3_withStill, rfl, by decide +kernel, by decide +kernel, by decide +kernel⟩
set_option maxRecDepth 20000 in
theorem wf_X3_withRoundsUpTo : WF RX3 yX3_withRoundsUpTo cX3_withRoundsUpTo 3 (some .long) 2 := ⟨⟨im_X3_withRoundsUpTo, se_X3_withRoundsUpTo⟩, in_X3, cw_X3_withRoundsUpTo, rfl, by decide +kernel, by decide +kernel, by decide +kernel⟩
set_option maxRecDepth 20000 in
theorem wf_X4_ordersWith : WF RX4 yX4_ordersWith cX4_ordersWith 2 (some .long) 1 := ⟨⟨im_X4_ordersWith, se_X4_ordersWith⟩, in_X4, cw_X4_ordersWith, rfl, by decide +kernel, by decide +kernel, by decide +kernel⟩
set_option maxRecDepth 20000 in
theorem wf_X6_mean : WF RX6 yX6_mean cX6_mean 7 (some .long) 2 := ⟨⟨im_X6_mean, se_X6_mean⟩, in_X6, cw_X6_mean, rfl, by decide +kernel, by decide +kernel, by decide +kernel⟩
set_option maxRecDepth 20000 in
theorem wf_X4_sumOfNumbers : WF RX4 yX4_sumOfNumbers cX4_sumOfNumbers 4 (some .long) 0 := ⟨⟨im_X4_sumOfNumbers, se_X4_sumOfNumbers⟩, in_X4, cw_X4_sumOfNumbers, rfl, by decide +kernel, by decide +kernel, by decide +kernel⟩
set_option maxRecDepth 20000 in
theorem wf_X6_row : WF RX6 yX6_row cX6_row 5 (some .int) 3 := ⟨⟨im_X6_row, se_X6_row⟩, in_X6, cw_X6_row, rfl, by decide +kernel, by decide +kernel, by decide +kernel⟩
set_option maxRecDepth 20000 in
theorem ws_X6_isRowKind : WS RX6 yX6_isRowKind cX6_isRowKind 1 (some .boolean) 1 := ⟨sm_X6_isRowKind, in_X6, cw_X6_isRowKind, rfl, by decide +kernel, by decide +kernel, by decide +kernel⟩
set_option maxRecDepth 20000 in
theorem wf_X5_start : WF RX5 yX5_start cX5_start 5 none 3 := ⟨⟨im_X5_start, se_X5_start⟩, in_X5, cw_X5_start, rfl, by decide +kernel, by decide +kernel, by decide +kernel⟩
set_option maxRecDepth 20000 in
theorem wf_X5_waysAtStart : WF RX5 yX5_waysAtStart cX5_waysAtStart 1 (some .long) 0 := ⟨⟨im_X5_waysAtStart, se_X5_waysAtStart⟩, in_X5, cw_X5_waysAtStart, rfl, by decide +kernel, by decide +kernel, by decide +kernel⟩
set_option maxRecDepth 20000 in
theorem wf_X5_ways : WF RX5 yX5_ways cX5_ways 5 (some .long) 4 := ⟨⟨im_X5_ways, se_X5_ways⟩, in_X5, cw_X5_ways, rfl, by decide +kernel, by decide +kernel, by decide +kernel⟩
set_option maxRecDepth 20000 in
theorem wf_X5_writeRow : WF RX5 yX5_writeRow cX5_writeRow 11 none 2 := ⟨⟨im_X5_writeRow, se_X5_writeRow⟩, in_X5, cw_X5_writeRow, rfl, by decide +kernel, by decide +kernel, by decide +kernel⟩
set_option maxRecDepth 20000 in
theorem wf_X5_waysWith : WF RX5 yX5_waysWith cX5_waysWith 3 (some .long) 2 := ⟨⟨im_X5_waysWith, se_X5_waysWith⟩, in_X5, cw_X5_waysWith, rfl, by decide +kernel, by decide +kernel, by decide +kernel⟩
set_option maxRecDepth 20000 in
theorem wf_X5_wantedAfter : WF RX5 yX5_wantedAfter cX5_wantedAfter 3 (some .int) 1 := ⟨⟨im_X5_wantedAfter, se_X5_wantedAfter⟩, in_X5, cw_X5_wantedAfter, rfl, by decide +kernel, by decide +kernel, by decide +kernel⟩
set_option maxRecDepth 20000 in
theorem wf_X5_step : WF RX5 yX5_step cX5_step 2 none 1 := ⟨⟨im_X5_step, se_X5_step⟩, in_X5, cw_X5_step, rfl, by decide +kernel, by decide +kernel, by decide +kernel⟩
set_option maxRecDepth 20000 in
theorem wf_X6_place : WF RX6 yX6_place cX6_place 2 (some .long) 1 := ⟨⟨im_X6_place, se_X6_place⟩, in_X6, cw_X6_place, rfl, by decide +kernel, by decide +kernel, by decide +kernel⟩
set_option maxRecDepth 20000 in
theorem wf_X5_rowsAheadOf : WF RX5 yX5_rowsAheadOf cX5_rowsAheadOf 8 (some .long) 1 := ⟨⟨im_X5_rowsAheadOf, se_X5_rowsAheadOf⟩, in_X5, cw_X5_rowsAheadOf, rfl, by decide +kernel, by decide +kernel, by decide +kernel⟩
set_option maxRecDepth 20000 in
theorem wf_X6_toRounds : WF RX6 yX6_toRounds cX6_toRounds 1 (some .int) 0 := ⟨⟨im_X6_toRounds, se_X6_toRounds⟩, in_X6, cw_X6_toRounds, rfl, by decide +kernel, by decide +kernel, by decide +kernel⟩
set_option maxRecDepth 20000 in
theorem wf_X1_makeRounds : WF RX1 yX1_makeRounds cX1_makeRounds 4 none 0 := ⟨⟨im_X1_makeRounds, se_X1_makeRounds⟩, in_X1, cw_X1_makeRounds, rfl, by decide +kernel, by decide +kernel, by decide +kernel⟩
set_option maxRecDepth 20000 in
theorem wf_X6_toRecords : WF RX6 yX6_toRecords cX6_toRecords 1 (some .int) 0 := ⟨⟨im_X6_toRecords, se_X6_toRecords⟩, in_X6, cw_X6_toRecords, rfl, by decide +kernel, by decide +kernel, by decide +kernel⟩
set_option maxRecDepth 20000 in
theorem wf_X1_makeRecords : WF RX1 yX1_makeRecords cX1_makeRecords 5 none 0 := ⟨⟨im_X1_makeRecords, se_X1_makeRecords⟩, in_X1, cw_X1_makeRecords, rfl, by decide +kernel, by decide +kernel, by decide +kernel⟩
set_option maxRecDepth 20000 in
theorem wf_X6_opens : WF RX6 yX6_opens cX6_opens 3 (some .int) 1 := ⟨⟨im_X6_opens, se_X6_opens⟩, in_X6, cw_X6_opens, rfl, by decide +kernel, by decide +kernel, by decide +kernel⟩
set_option maxRecDepth 20000 in
theorem wf_X6_list : WF RX6 yX6_list cX6_list 3 (some .int) 2 := ⟨⟨im_X6_list, se_X6_list⟩, in_X6, cw_X6_list, rfl, by decide +kernel, by decide +kernel, by decide +kernel⟩
set_option maxRecDepth 20000 in
theorem wf_X0_hasBox : WF RX0 yX0_hasBox cX0_hasBox 5 (some .boolean) 2 := ⟨⟨im_X0_hasBox, se_X0_hasBox⟩, in_X0, cw_X0_hasBox, rfl, by decide +kernel, by decide +kernel, by decide +kernel⟩
set_option maxRecDepth 20000 in
theorem wf_X0_firstOf : WF RX0 yX0_firstOf cX0_firstOf 3 (some .int) 2 := ⟨⟨im_X0_firstOf, se_X0_firstOf⟩, in_X0, cw_X0_firstOf, rfl, by decide +kernel, by decide +kernel, by decide +kernel⟩
set_option maxRecDepth 20000 in
theorem wf_X0_holds : WF RX0 yX0_holds cX0_holds 2 (some .boolean) 1 := ⟨⟨im_X0_holds, se_X0_holds⟩, in_X0, cw_X0_holds, rfl, by decide +kernel, by decide +kernel, by decide +kernel⟩
set_option maxRecDepth 20000 in
theorem wf_X0_addBox : WF RX0 yX0_addBox cX0_addBox 3 (some .int) 2 := ⟨⟨im_X0_addBox, se_X0_addBox⟩, in_X0, cw_X0_addBox, rfl, by decide +kernel, by decide +kernel, by decide +kernel⟩
set_option maxRecDepth 20000 in
theorem wf_X6_forget : WF RX6 yX6_forget cX6_forget 2 (some .int) 1 := ⟨⟨im_X6_forget, se_X6_forget⟩, in_X6, cw_X6_forget, rfl, by decide +kernel, by decide +kernel, by decide +kernel⟩
set_option maxRecDepth 20000 in
theorem wf_X0_emptyOne : WF RX0 yX0_emptyOne cX0_emptyOne 3 (some .int) 1 := ⟨⟨im_X0_emptyOne, se_X0_emptyOne⟩, in_X0, cw_X0_emptyOne, rfl, by decide +kernel, by decide +kernel, by decide +kernel⟩
set_option maxRecDepth 20000 in
theorem wf_X6_wins : WF RX6 yX6_wins cX6_wins 4 (some .int) 2 := ⟨⟨im_X6_wins, se_X6_wins⟩, in_X6, cw_X6_wins, rfl, by decide +kernel, by decide +kernel, by decide +kernel⟩
set_option maxRecDepth 20000 in
theorem ws_X6_isWay : WS RX6 yX6_isWay cX6_isWay 1 (some .boolean) 1 := ⟨sm_X6_isWay, in_X6, cw_X6_isWay, rfl, by decide +kernel, by decide +kernel, by decide +kernel⟩
set_option maxRecDepth 20000 in
theorem wf_X0_findsOwnThing : WF RX0 yX0_findsOwnThing cX0_findsOwnThing 6 (some .boolean) 3 := ⟨⟨im_X0_findsOwnThing, se_X0_findsOwnThing⟩, in_X0, cw_X0_findsOwnThing, rfl, by decide +kernel, by decide +kernel, by decide +kernel⟩
set_option maxRecDepth 20000 in
theorem wf_X6_allWin : WF RX6 yX6_allWin cX6_allWin 2 (some .long) 1 := ⟨⟨im_X6_allWin, se_X6_allWin⟩, in_X6, cw_X6_allWin, rfl, by decide +kernel, by decide +kernel, by decide +kernel⟩
set_option maxRecDepth 20000 in
theorem wf_X0_ordersWonByAll : WF RX0 yX0_ordersWonByAll cX0_ordersWonByAll 5 (some .long) 2 := ⟨⟨im_X0_ordersWonByAll, se_X0_ordersWonByAll⟩, in_X0, cw_X0_ordersWonByAll, rfl, by decide +kernel, by decide +kernel, by decide +kernel⟩
set_option maxRecDepth 20000 in
theorem wf_X0_placeNextThing : WF RX0 yX0_placeNextThing cX0_placeNextThing 8 none 3 := ⟨⟨im_X0_placeNextThing, se_X0_placeNextThing⟩, in_X0, cw_X0_placeNextThing, rfl, by decide +kernel, by decide +kernel, by decide +kernel⟩
set_option maxRecDepth 20000 in
theorem ws_J6_bitCount_0f7a4 : WS RJ6 yJ6_bitCount_0f7a4 cJ6_bitCount_0f7a4 1 (some .int) 1 := ⟨sm_J6_bitCount_0f7a4, in_J6, cw_J6_bitCount_0f7a4, rfl, by decide +kernel, by decide +kernel, by decide +kernel⟩
set_option maxRecDepth 20000 in
theorem wf_X6_count : WF RX6 yX6_count cX6_count 2 (some .int) 1 := ⟨⟨im_X6_count, se_X6_count⟩, in_X6, cw_X6_count, rfl, by decide +kernel, by decide +kernel, by decide +kernel⟩
set_option maxRecDepth 20000 in
theorem wf_X0_boxesInAll : WF RX0 yX0_boxesInAll cX0_boxesInAll 3 (some .int) 0 := ⟨⟨im_X0_boxesInAll, se_X0_boxesInAll⟩, in_X0, cw_X0_boxesInAll, rfl, by decide +kernel, by decide +kernel, by decide +kernel⟩
set_option maxRecDepth 20000 in
theorem wi_X7_init : WI RX7 yX7_init cX7_init 1 0 := ⟨im_X7_init, in_X7, cw_X7_init, rfl, by decide +kernel, by decide +kernel, by decide +kernel, rfl⟩
set_option maxRecDepth 20000 in
theorem wf_X7_begin : WF RX7 yX7_begin cX7_begin 3 none 0 := ⟨⟨im_X7_begin, se_X7_begin⟩, in_X7, cw_X7_begin, rfl, by decide +kernel, by decide +kernel, by decide +kernel⟩
set_option maxRecDepth 20000 in
theorem wf_X7_things : WF RX7 yX7_things cX7_things 2 (some .int) 1 := ⟨⟨im_X7_things, se_X7_things⟩, in_X7, cw_X7_things, rfl, by decide +kernel, by decide +kernel, by decide +kernel⟩
set_option maxRecDepth 20000 in
theorem ws_X7_in : WS RX7 yX7_in cX7_in 6 (some .boolean) 3 := ⟨sm_X7_in, in_X7, cw_X7_in, rfl, by decide +kernel, by decide +kernel, by decide +kernel⟩
set_option maxRecDepth 20000 in
theorem wf_X7_order : WF RX7 yX7_order cX7_order 11 (some .int) 2 := ⟨⟨im_X7_order, se_X7_order⟩, in_X7, cw_X7_order, rfl, by decide +kernel, by decide +kernel, by decide +kernel⟩
set_option maxRecDepth 20000 in
theorem wf_X7_become : WF RX7 yX7_become cX7_become 2 none 0 := ⟨⟨im_X7_become, se_X7_become⟩, in_X7, cw_X7_become, rfl, by decide +kernel, by decide +kernel, by decide +kernel⟩
set_option maxRecDepth 20000 in
theorem wf_X7_at : WF RX7 yX7_at cX7_at 2 (some .int) 1 := ⟨⟨im_X7_at, se_X7_at⟩, in_X7, cw_X7_at, rfl, by decide +kernel, by decide +kernel, by decide +kernel⟩
set_option maxRecDepth 20000 in
theorem wf_X7_isThing : WF RX7 yX7_isThing cX7_isThing 2 (some .boolean) 1 := ⟨⟨im_X7_isThing, se_X7_isThing⟩, in_X7, cw_X7_isThing, rfl, by decide +kernel, by decide +kernel, by decide +kernel⟩
set_option maxRecDepth 20000 in
theorem wf_X7_swap : WF RX7 yX7_swap cX7_swap 4 (some .int) 2 := ⟨⟨im_X7_swap, se_X7_swap⟩, in_X7, cw_X7_swap, rfl, by decide +kernel, by decide +kernel, by decide +kernel⟩
set_option maxRecDepth 20000 in
theorem wf_X7_lay : WF RX7 yX7_lay cX7_lay 3 (some .int) 1 := ⟨⟨im_X7_lay, se_X7_lay⟩, in_X7, cw_X7_lay, rfl, by decide +kernel, by decide +kernel, by decide +kernel⟩
set_option maxRecDepth 20000 in
theorem wf_X7_take : WF RX7 yX7_take cX7_take 3 (some .int) 1 := ⟨⟨im_X7_take, se_X7_take⟩, in_X7, cw_X7_take, rfl, by decide +kernel, by decide +kernel, by decide +kernel⟩
set_option maxRecDepth 20000 in
theorem wf_X7_then : WF RX7 yX7_then cX7_then 3 (some .int) 1 := ⟨⟨im_X7_then, se_X7_then⟩, in_X7, cw_X7_then, rfl, by decide +kernel, by decide +kernel, by decide +kernel⟩
set_option maxRecDepth 20000 in
theorem wf_X7_back : WF RX7 yX7_back cX7_back 2 (some .int) 0 := ⟨⟨im_X7_back, se_X7_back⟩, in_X7, cw_X7_back, rfl, by decide +kernel, by decide +kernel, by decide +kernel⟩
set_option maxRecDepth 20000 in
theorem wf_X7_number : WF RX7 yX7_number cX7_number 2 (some .int) 1 := ⟨⟨im_X7_number, se_X7_number⟩, in_X7, cw_X7_number, rfl, by decide +kernel, by decide +kernel, by decide +kernel⟩
set_option maxRecDepth 20000 in
theorem wf_X7_numberOf : WF RX7 yX7_numberOf cX7_numberOf 9 (some .int) 1 := ⟨⟨im_X7_numberOf, se_X7_numberOf⟩, in_X7, cw_X7_numberOf, rfl, by decide +kernel, by decide +kernel, by decide +kernel⟩
set_option maxRecDepth 20000 in
theorem wf_X7_roundOf : WF RX7 yX7_roundOf cX7_roundOf 4 (some .int) 1 := ⟨⟨im_X7_roundOf, se_X7_roundOf⟩, in_X7, cw_X7_roundOf, rfl, by decide +kernel, by decide +kernel, by decide +kernel⟩
set_option maxRecDepth 20000 in
theorem ws_X7_common : WS RX7 yX7_common cX7_common 10 (some .long) 2 := ⟨sm_X7_common, in_X7, cw_X7_common, rfl, by decide +kernel, by decide +kernel, by decide +kernel⟩
set_option maxRecDepth 20000 in
theorem wf_X7_isFirst : WF RX7 yX7_isFirst cX7_isFirst 4 (some .boolean) 1 := ⟨⟨im_X7_isFirst, se_X7_isFirst⟩, in_X7, cw_X7_isFirst, rfl, by decide +kernel, by decide +kernel, by decide +kernel⟩
set_option maxRecDepth 20000 in
theorem wf_X7_isRecord : WF RX7 yX7_isRecord cX7_isRecord 4 (some .boolean) 1 := ⟨⟨im_X7_isRecord, se_X7_isRecord⟩, in_X7, cw_X7_isRecord, rfl, by decide +kernel, by decide +kernel, by decide +kernel⟩
set_option maxRecDepth 20000 in
theorem wf_X7_out : WF RX7 yX7_out cX7_out 4 (some .int) 0 := ⟨⟨im_X7_out, se_X7_out⟩, in_X7, cw_X7_out, rfl, by decide +kernel, by decide +kernel, by decide +kernel⟩
set_option maxRecDepth 20000 in
theorem wf_X7_longestRise : WF RX7 yX7_longestRise cX7_longestRise 4 (some .int) 0 := ⟨⟨im_X7_longestRise, se_X7_longestRise⟩, in_X7, cw_X7_longestRise, rfl, by decide +kernel, by decide +kernel, by decide +kernel⟩
set_option maxRecDepth 20000 in
theorem wf_X7_many : WF RX7 yX7_many cX7_many 3 (some .long) 2 := ⟨⟨im_X7_many, se_X7_many⟩, in_X7, cw_X7_many, rfl, by decide +kernel, by decide +kernel, by decide +kernel⟩
set_option maxRecDepth 20000 in
theorem wf_X7_findCounts : WF RX7 yX7_findCounts cX7_findCounts 2 none 1 := ⟨⟨im_X7_findCounts, se_X7_findCounts⟩, in_X7, cw_X7_findCounts, rfl, by decide +kernel, by decide +kernel, by decide +kernel⟩
set_option maxRecDepth 20000 in
theorem wf_X7_layProducts : WF RX7 yX7_layProducts cX7_layProducts 2 none 0 := ⟨⟨im_X7_layProducts, se_X7_layProducts⟩, in_X7, cw_X7_layProducts, rfl, by decide +kernel, by decide +kernel, by decide +kernel⟩
set_option maxRecDepth 20000 in
theorem wf_X7_countByThings : WF RX7 yX7_countByThings cX7_countByThings 7 none 1 := ⟨⟨im_X7_countByThings, se_X7_countByThings⟩, in_X7, cw_X7_countByThings, rfl, by decide +kernel, by decide +kernel, by decide +kernel⟩
set_option maxRecDepth 20000 in
theorem wf_X7_step : WF RX7 yX7_step cX7_step 2 none 0 := ⟨⟨im_X7_step, se_X7_step⟩, in_X7, cw_X7_step, rfl, by decide +kernel, by decide +kernel, by decide +kernel⟩
set_option maxRecDepth 20000 in
theorem wf_X7_countByShapes : WF RX7 yX7_countByShapes cX7_countByShapes 3 none 1 := ⟨⟨im_X7_countByShapes, se_X7_countByShapes⟩, in_X7, cw_X7_countByShapes, rfl, by decide +kernel, by decide +kernel, by decide +kernel⟩
set_option maxRecDepth 20000 in
theorem wf_X7_shapeNumber : WF RX7 yX7_shapeNumber cX7_shapeNumber 6 (some .int) 1 := ⟨⟨im_X7_shapeNumber, se_X7_shapeNumber⟩, in_X7, cw_X7_shapeNumber, rfl, by decide +kernel, by decide +kernel, by decide +kernel⟩
set_option maxRecDepth 20000 in
theorem wf_X7_byFillings : WF RX7 yX7_byFillings cX7_byFillings 7 (some .long) 0 := ⟨⟨im_X7_byFillings, se_X7_byFillings⟩, in_X7, cw_X7_byFillings, rfl, by decide +kernel, by decide +kernel, by decide +kernel⟩
set_option maxRecDepth 20000 in
theorem wf_X7_byRounds : WF RX7 yX7_byRounds cX7_byRounds 5 (some .long) 0 := ⟨⟨im_X7_byRounds, se_X7_byRounds⟩, in_X7, cw_X7_byRounds, rfl, by decide +kernel, by decide +kernel, by decide +kernel⟩
set_option maxRecDepth 20000 in
theorem wf_X7_nextShape : WF RX7 yX7_nextShape cX7_nextShape 4 (some .boolean) 0 := ⟨⟨im_X7_nextShape, se_X7_nextShape⟩, in_X7, cw_X7_nextShape, rfl, by decide +kernel, by decide +kernel, by decide +kernel⟩
set_option maxRecDepth 20000 in
theorem wf_X7_mean : WF RX7 yX7_mean cX7_mean 7 (some .long) 2 := ⟨⟨im_X7_mean, se_X7_mean⟩, in_X7, cw_X7_mean, rfl, by decide +kernel, by decide +kernel, by decide +kernel⟩
set_option maxRecDepth 20000 in
theorem wf_X7_row : WF RX7 yX7_row cX7_row 9 (some .int) 3 := ⟨⟨im_X7_row, se_X7_row⟩, in_X7, cw_X7_row, rfl, by decide +kernel, by decide +kernel, by decide +kernel⟩
set_option maxRecDepth 20000 in
theorem ws_X7_isKind : WS RX7 yX7_isKind cX7_isKind 1 (some .boolean) 1 := ⟨sm_X7_isKind, in_X7, cw_X7_isKind, rfl, by decide +kernel, by decide +kernel, by decide +kernel⟩
set_option maxRecDepth 20000 in
theorem wf_X7_beginRow : WF RX7 yX7_beginRow cX7_beginRow 3 none 2 := ⟨⟨im_X7_beginRow, se_X7_beginRow⟩, in_X7, cw_X7_beginRow, rfl, by decide +kernel, by decide +kernel, by decide +kernel⟩
set_option maxRecDepth 20000 in
theorem wf_X7_layWays : WF RX7 yX7_layWays cX7_layWays 8 none 1 := ⟨⟨im_X7_layWays, se_X7_layWays⟩, in_X7, cw_X7_layWays, rfl, by decide +kernel, by decide +kernel, by decide +kernel⟩
set_option maxRecDepth 20000 in
theorem wf_X7_waysBy : WF RX7 yX7_waysBy cX7_waysBy 9 (some .long) 5 := ⟨⟨im_X7_waysBy, se_X7_waysBy⟩, in_X7, cw_X7_waysBy, rfl, by decide +kernel, by decide +kernel, by decide +kernel⟩
set_option maxRecDepth 20000 in
theorem ws_X7_wayAt : WS RX7 yX7_wayAt cX7_wayAt 3 (some .int) 3 := ⟨sm_X7_wayAt, in_X7, cw_X7_wayAt, rfl, by decide +kernel, by decide +kernel, by decide +kernel⟩
set_option maxRecDepth 20000 in
theorem wf_X7_waysAt : WF RX7 yX7_waysAt cX7_waysAt 6 (some .long) 3 := ⟨⟨im_X7_waysAt, se_X7_waysAt⟩, in_X7, cw_X7_waysAt, rfl, by decide +kernel, by decide +kernel, by decide +kernel⟩
set_option maxRecDepth 20000 in
theorem wf_X7_put : WF RX7 yX7_put cX7_put 8 none 3 := ⟨⟨im_X7_put, se_X7_put⟩, in_X7, cw_X7_put, rfl, by decide +kernel, by decide +kernel, by decide +kernel⟩
set_option maxRecDepth 20000 in
theorem wf_X7_place : WF RX7 yX7_place cX7_place 7 (some .long) 1 := ⟨⟨im_X7_place, se_X7_place⟩, in_X7, cw_X7_place, rfl, by decide +kernel, by decide +kernel, by decide +kernel⟩
set_option maxRecDepth 20000 in
theorem wf_X7_toRounds : WF RX7 yX7_toRounds cX7_toRounds 4 (some .int) 0 := ⟨⟨im_X7_toRounds, se_X7_toRounds⟩, in_X7, cw_X7_toRounds, rfl, by decide +kernel, by decide +kernel, by decide +kernel⟩
set_option maxRecDepth 20000 in
theorem wf_X7_toRecords : WF RX7 yX7_toRecords cX7_toRecords 6 (some .int) 0 := ⟨⟨im_X7_toRecords, se_X7_toRecords⟩, in_X7, cw_X7_toRecords, rfl, by decide +kernel, by decide +kernel, by decide +kernel⟩
set_option maxRecDepth 20000 in
theorem wf_X7_isGreatest : WF RX7 yX7_isGreatest cX7_isGreatest 4 (some .boolean) 1 := ⟨⟨im_X7_isGreatest, se_X7_isGreatest⟩, in_X7, cw_X7_isGreatest, rfl, by decide +kernel, by decide +kernel, by decide +kernel⟩
set_option maxRecDepth 20000 in
theorem wf_X7_opens : WF RX7 yX7_opens cX7_opens 3 (some .int) 1 := ⟨⟨im_X7_opens, se_X7_opens⟩, in_X7, cw_X7_opens, rfl, by decide +kernel, by decide +kernel, by decide +kernel⟩
set_option maxRecDepth 20000 in
theorem wf_X7_list : WF RX7 yX7_list cX7_list 4 (some .int) 2 := ⟨⟨im_X7_list, se_X7_list⟩, in_X7, cw_X7_list, rfl, by decide +kernel, by decide +kernel, by decide +kernel⟩
set_option maxRecDepth 20000 in
theorem wf_X7_forget : WF RX7 yX7_forget cX7_forget 3 (some .int) 1 := ⟨⟨im_X7_forget, se_X7_forget⟩, in_X7, cw_X7_forget, rfl, by decide +kernel, by decide +kernel, by decide +kernel⟩
set_option maxRecDepth 20000 in
theorem wf_X7_wins : WF RX7 yX7_wins cX7_wins 3 (some .int) 2 := ⟨⟨im_X7_wins, se_X7_wins⟩, in_X7, cw_X7_wins, rfl, by decide +kernel, by decide +kernel, by decide +kernel⟩
set_option maxRecDepth 20000 in
theorem wf_X7_winsBy : WF RX7 yX7_winsBy cX7_winsBy 5 (some .boolean) 2 := ⟨⟨im_X7_winsBy, se_X7_winsBy⟩, in_X7, cw_X7_winsBy, rfl, by decide +kernel, by decide +kernel, by decide +kernel⟩
set_option maxRecDepth 20000 in
theorem wf_X7_allWin : WF RX7 yX7_allWin cX7_allWin 7 (some .long) 1 := ⟨⟨im_X7_allWin, se_X7_allWin⟩, in_X7, cw_X7_allWin, rfl, by decide +kernel, by decide +kernel, by decide +kernel⟩
set_option maxRecDepth 20000 in
theorem wf_X7_layRow : WF RX7 yX7_layRow cX7_layRow 8 none 1 := ⟨⟨im_X7_layRow, se_X7_layRow⟩, in_X7, cw_X7_layRow, rfl, by decide +kernel, by decide +kernel, by decide +kernel⟩
set_option maxRecDepth 20000 in
theorem wf_X7_count : WF RX7 yX7_count cX7_count 4 (some .int) 1 := ⟨⟨im_X7_count, se_X7_count⟩, in_X7, cw_X7_count, rfl, by decide +kernel, by decide +kernel, by decide +kernel⟩
set_option maxRecDepth 20000 in
theorem la_X0_0 : u_lay RX0 TX0 0 ∈ gt := gt_tb 48 (by decide +kernel) rfl
set_option maxRecDepth 20000 in
theorem la_X0_1 : u_lay RX0 TX0 1 ∈ gt := gt_tb 50 (by decide +kernel) rfl
set_option maxRecDepth 20000 in
theorem la_X0_2 : u_lay RX0 TX0 2 ∈ gt := gt_tb 52 (by decide +kernel) rfl
set_option maxRecDepth 20000 in
theorem uwX0 : ∀ w ∈ u_ws RX0 TX0 3, w ∈ gt := by
  intro w hw
  obtain ⟨k, hk, rfl⟩ := List.mem_map.mp hw
  have hk := List.mem_range.mp hk
  rcases Nat.lt_or_ge k 1 with h | h
  · exact (show k = 0 by omega) ▸ la_X0_0
  rcases Nat.lt_or_ge k 2 with h | h
  · exact (show k = 1 by omega) ▸ la_X0_1
  rcases Nat.lt_or_ge k 3 with h | h
  · exact (show k = 2 by omega) ▸ la_X0_2
  omega
set_option maxRecDepth 20000 in
theorem la_X1_0 : u_lay RX1 TX1 0 ∈ gt := gt_tb 28 (by decide +kernel) rfl
set_option maxRecDepth 20000 in
theorem la_X1_1 : u_lay RX1 TX1 1 ∈ gt := gt_tb 30 (by decide +kernel) rfl
set_option maxRecDepth 20000 in
theorem la_X1_2 : u_lay RX1 TX1 2 ∈ gt := gt_tb 32 (by decide +kernel) rfl
set_option maxRecDepth 20000 in
theorem uwX1 : ∀ w ∈ u_ws RX1 TX1 3, w ∈ gt := by
  intro w hw
  obtain ⟨k, hk, rfl⟩ := List.mem_map.mp hw
  have hk := List.mem_range.mp hk
  rcases Nat.lt_or_ge k 1 with h | h
  · exact (show k = 0 by omega) ▸ la_X1_0
  rcases Nat.lt_or_ge k 2 with h | h
  · exact (show k = 1 by omega) ▸ la_X1_1
  rcases Nat.lt_or_ge k 3 with h | h
  · exact (show k = 2 by omega) ▸ la_X1_2
  omega
set_option maxRecDepth 20000 in
theorem la_X2_0 : u_lay RX2 TX2 0 ∈ gt := gt_tb 366 (by decide +kernel) rfl
set_option maxRecDepth 20000 in
theorem la_X2_1 : u_lay RX2 TX2 1 ∈ gt := gt_tb 368 (by decide +kernel) rfl
set_option maxRecDepth 20000 in
theorem uwX2 : ∀ w ∈ u_ws RX2 TX2 2, w ∈ gt := by
  intro w hw
  obtain ⟨k, hk, rfl⟩ := List.mem_map.mp hw
  have hk := List.mem_range.mp hk
  rcases Nat.lt_or_ge k 1 with h | h
  · exact (show k = 0 by omega) ▸ la_X2_0
  rcases Nat.lt_or_ge k 2 with h | h
  · exact (show k = 1 by omega) ▸ la_X2_1
  omega
set_option maxRecDepth 20000 in
theorem la_X3_0 : u_lay RX3 TX3 0 ∈ gt := gt_tb 107 (by decide +kernel) rfl
set_option maxRecDepth 20000 in
theorem la_X3_1 : u_lay RX3 TX3 1 ∈ gt := gt_tb 109 (by decide +kernel) rfl
set_option maxRecDepth 20000 in
theorem la_X3_2 : u_lay RX3 TX3 2 ∈ gt := gt_tb 111 (by decide +kernel) rfl
set_option maxRecDepth 20000 in
theorem la_X3_3 : u_lay RX3 TX3 3 ∈ gt := gt_tb 113 (by decide +kernel) rfl
set_option maxRecDepth 20000 in
theorem la_X3_4 : u_lay RX3 TX3 4 ∈ gt := gt_tb 115 (by decide +kernel) rfl
set_option maxRecDepth 20000 in
theorem uwX3 : ∀ w ∈ u_ws RX3 TX3 5, w ∈ gt := by
  intro w hw
  obtain ⟨k, hk, rfl⟩ := List.mem_map.mp hw
  have hk := List.mem_range.mp hk
  rcases Nat.lt_or_ge k 1 with h | h
  · exact (show k = 0 by omega) ▸ la_X3_0
  rcases Nat.lt_or_ge k 2 with h | h
  · exact (show k = 1 by omega) ▸ la_X3_1
  rcases Nat.lt_or_ge k 3 with h | h
  · exact (show k = 2 by omega) ▸ la_X3_2
  rcases Nat.lt_or_ge k 4 with h | h
  · exact (show k = 3 by omega) ▸ la_X3_3
  rcases Nat.lt_or_ge k 5 with h | h
  · exact (show k = 4 by omega) ▸ la_X3_4
  omega
set_option maxRecDepth 20000 in
theorem la_X4_0 : u_lay RX4 TX4 0 ∈ gt := gt_tb 426 (by decide +kernel) rfl
set_option maxRecDepth 20000 in
theorem la_X4_1 : u_lay RX4 TX4 1 ∈ gt := gt_tb 428 (by decide +kernel) rfl
set_option maxRecDepth 20000 in
theorem la_X4_2 : u_lay RX4 TX4 2 ∈ gt := gt_tb 430 (by decide +kernel) rfl
set_option maxRecDepth 20000 in
theorem uwX4 : ∀ w ∈ u_ws RX4 TX4 3, w ∈ gt := by
  intro w hw
  obtain ⟨k, hk, rfl⟩ := List.mem_map.mp hw
  have hk := List.mem_range.mp hk
  rcases Nat.lt_or_ge k 1 with h | h
  · exact (show k = 0 by omega) ▸ la_X4_0
  rcases Nat.lt_or_ge k 2 with h | h
  · exact (show k = 1 by omega) ▸ la_X4_1
  rcases Nat.lt_or_ge k 3 with h | h
  · exact (show k = 2 by omega) ▸ la_X4_2
  omega
set_option maxRecDepth 20000 in
theorem la_X5_0 : u_lay RX5 TX5 0 ∈ gt := gt_tb 132 (by decide +kernel) rfl
set_option maxRecDepth 20000 in
theorem la_X5_1 : u_lay RX5 TX5 1 ∈ gt := gt_tb 134 (by decide +kernel) rfl
set_option maxRecDepth 20000 in
theorem la_X5_2 : u_lay RX5 TX5 2 ∈ gt := gt_tb 136 (by decide +kernel) rfl
set_option maxRecDepth 20000 in
theorem la_X5_3 : u_lay RX5 TX5 3 ∈ gt := gt_tb 138 (by decide +kernel) rfl
set_option maxRecDepth 20000 in
theorem la_X5_4 : u_lay RX5 TX5 4 ∈ gt := gt_tb 140 (by decide +kernel) rfl
set_option maxRecDepth 20000 in
theorem la_X5_5 : u_lay RX5 TX5 5 ∈ gt := gt_tb 142 (by decide +kernel) rfl
set_option maxRecDepth 20000 in
theorem la_X5_6 : u_lay RX5 TX5 6 ∈ gt := gt_tb 144 (by decide +kernel) rfl
set_option maxRecDepth 20000 in
theorem la_X5_7 : u_lay RX5 TX5 7 ∈ gt := gt_tb 146 (by decide +kernel) rfl
set_option maxRecDepth 20000 in
theorem uwX5 : ∀ w ∈ u_ws RX5 TX5 8, w ∈ gt := by
  intro w hw
  obtain ⟨k, hk, rfl⟩ := List.mem_map.mp hw
  have hk := List.mem_range.mp hk
  rcases Nat.lt_or_ge k 1 with h | h
  · exact (show k = 0 by omega) ▸ la_X5_0
  rcases Nat.lt_or_ge k 2 with h | h
  · exact (show k = 1 by omega) ▸ la_X5_1
  rcases Nat.lt_or_ge k 3 with h | h
  · exact (show k = 2 by omega) ▸ la_X5_2
  rcases Nat.lt_or_ge k 4 with h | h
  · exact (show k = 3 by omega) ▸ la_X5_3
  rcases Nat.lt_or_ge k 5 with h | h
  · exact (show k = 4 by omega) ▸ la_X5_4
  rcases Nat.lt_or_ge k 6 with h | h
  · exact (show k = 5 by omega) ▸ la_X5_5
  rcases Nat.lt_or_ge k 7 with h | h
  · exact (show k = 6 by omega) ▸ la_X5_6
  rcases Nat.lt_or_ge k 8 with h | h
  · exact (show k = 7 by omega) ▸ la_X5_7
  omega
set_option maxRecDepth 20000 in
theorem la_X6_0 : u_lay RX6 TX6 0 ∈ gt := gt_tb 176 (by decide +kernel) rfl
set_option maxRecDepth 20000 in
theorem la_X6_1 : u_lay RX6 TX6 1 ∈ gt := gt_tb 178 (by decide +kernel) rfl
set_option maxRecDepth 20000 in
theorem la_X6_2 : u_lay RX6 TX6 2 ∈ gt := gt_tb 180 (by decide +kernel) rfl
set_option maxRecDepth 20000 in
theorem la_X6_3 : u_lay RX6 TX6 3 ∈ gt := gt_tb 182 (by decide +kernel) rfl
set_option maxRecDepth 20000 in
theorem la_X6_4 : u_lay RX6 TX6 4 ∈ gt := gt_tb 184 (by decide +kernel) rfl
set_option maxRecDepth 20000 in
theorem la_X6_5 : u_lay RX6 TX6 5 ∈ gt := gt_tb 186 (by decide +kernel) rfl
set_option maxRecDepth 20000 in
theorem la_X6_6 : u_lay RX6 TX6 6 ∈ gt := gt_tb 188 (by decide +kernel) rfl
set_option maxRecDepth 20000 in
theorem la_X6_7 : u_lay RX6 TX6 7 ∈ gt := gt_tb 190 (by decide +kernel) rfl
set_option maxRecDepth 20000 in
theorem uwX6 : ∀ w ∈ u_ws RX6 TX6 8, w ∈ gt := by
  intro w hw
  obtain ⟨k, hk, rfl⟩ := List.mem_map.mp hw
  have hk := List.mem_range.mp hk
  rcases Nat.lt_or_ge k 1 with h | h
  · exact (show k = 0 by omega) ▸ la_X6_0
  rcases Nat.lt_or_ge k 2 with h | h
  · exact (show k = 1 by omega) ▸ la_X6_1
  rcases Nat.lt_or_ge k 3 with h | h
  · exact (show k = 2 by omega) ▸ la_X6_2
  rcases Nat.lt_or_ge k 4 with h | h
  · exact (show k = 3 by omega) ▸ la_X6_3
  rcases Nat.lt_or_ge k 5 with h | h
  · exact (show k = 4 by omega) ▸ la_X6_4
  rcases Nat.lt_or_ge k 6 with h | h
  · exact (show k = 5 by omega) ▸ la_X6_5
  rcases Nat.lt_or_ge k 7 with h | h
  · exact (show k = 6 by omega) ▸ la_X6_6
  rcases Nat.lt_or_ge k 8 with h | h
  · exact (show k = 7 by omega) ▸ la_X6_7
  omega
set_option maxRecDepth 20000 in
theorem la_X7_0 : u_lay RX7 TX7 0 ∈ gt := gt_tb 616 (by decide +kernel) rfl
set_option maxRecDepth 20000 in
theorem la_X7_1 : u_lay RX7 TX7 1 ∈ gt := gt_tb 618 (by decide +kernel) rfl
set_option maxRecDepth 20000 in
theorem la_X7_2 : u_lay RX7 TX7 2 ∈ gt := gt_tb 620 (by decide +kernel) rfl
set_option maxRecDepth 20000 in
theorem la_X7_3 : u_lay RX7 TX7 3 ∈ gt := gt_tb 622 (by decide +kernel) rfl
set_option maxRecDepth 20000 in
theorem la_X7_4 : u_lay RX7 TX7 4 ∈ gt := gt_tb 624 (by decide +kernel) rfl
set_option maxRecDepth 20000 in
theorem la_X7_5 : u_lay RX7 TX7 5 ∈ gt := gt_tb 626 (by decide +kernel) rfl
set_option maxRecDepth 20000 in
theorem la_X7_6 : u_lay RX7 TX7 6 ∈ gt := gt_tb 628 (by decide +kernel) rfl
set_option maxRecDepth 20000 in
theorem la_X7_7 : u_lay RX7 TX7 7 ∈ gt := gt_tb 630 (by decide +kernel) rfl
set_option maxRecDepth 20000 in
theorem la_X7_8 : u_lay RX7 TX7 8 ∈ gt := gt_tb 632 (by decide +kernel) rfl
set_option maxRecDepth 20000 in
theorem la_X7_9 : u_lay RX7 TX7 9 ∈ gt := gt_tb 634 (by decide +kernel) rfl
set_option maxRecDepth 20000 in
theorem la_X7_10 : u_lay RX7 TX7 10 ∈ gt := gt_tb 636 (by decide +kernel) rfl
set_option maxRecDepth 20000 in
theorem la_X7_11 : u_lay RX7 TX7 11 ∈ gt := gt_tb 638 (by decide +kernel) rfl
set_option maxRecDepth 20000 in
theorem la_X7_12 : u_lay RX7 TX7 12 ∈ gt := gt_tb 640 (by decide +kernel) rfl
set_option maxRecDepth 20000 in
theorem la_X7_13 : u_lay RX7 TX7 13 ∈ gt := gt_tb 642 (by decide +kernel) rfl
set_option maxRecDepth 20000 in
theorem la_X7_14 : u_lay RX7 TX7 14 ∈ gt := gt_tb 644 (by decide +kernel) rfl
set_option maxRecDepth 20000 in
theorem la_X7_15 : u_lay RX7 TX7 15 ∈ gt := gt_tb 646 (by decide +kernel) rfl
set_option maxRecDepth 20000 in
theorem uwX7 : ∀ w ∈ u_ws RX7 TX7 16, w ∈ gt := by
  intro w hw
  obtain ⟨k, hk, rfl⟩ := List.mem_map.mp hw
  have hk := List.mem_range.mp hk
  rcases Nat.lt_or_ge k 1 with h | h
  · exact (show k = 0 by omega) ▸ la_X7_0
  rcases Nat.lt_or_ge k 2 with h | h
  · exact (show k = 1 by omega) ▸ la_X7_1
  rcases Nat.lt_or_ge k 3 with h | h
  · exact (show k = 2 by omega) ▸ la_X7_2
  rcases Nat.lt_or_ge k 4 with h | h
  · exact (show k = 3 by omega) ▸ la_X7_3
  rcases Nat.lt_or_ge k 5 with h | h
  · exact (show k = 4 by omega) ▸ la_X7_4
  rcases Nat.lt_or_ge k 6 with h | h
  · exact (show k = 5 by omega) ▸ la_X7_5
  rcases Nat.lt_or_ge k 7 with h | h
  · exact (show k = 6 by omega) ▸ la_X7_6
  rcases Nat.lt_or_ge k 8 with h | h
  · exact (show k = 7 by omega) ▸ la_X7_7
  rcases Nat.lt_or_ge k 9 with h | h
  · exact (show k = 8 by omega) ▸ la_X7_8
  rcases Nat.lt_or_ge k 10 with h | h
  · exact (show k = 9 by omega) ▸ la_X7_9
  rcases Nat.lt_or_ge k 11 with h | h
  · exact (show k = 10 by omega) ▸ la_X7_10
  rcases Nat.lt_or_ge k 12 with h | h
  · exact (show k = 11 by omega) ▸ la_X7_11
  rcases Nat.lt_or_ge k 13 with h | h
  · exact (show k = 12 by omega) ▸ la_X7_12
  rcases Nat.lt_or_ge k 14 with h | h
  · exact (show k = 13 by omega) ▸ la_X7_13
  rcases Nat.lt_or_ge k 15 with h | h
  · exact (show k = 14 by omega) ▸ la_X7_14
  rcases Nat.lt_or_ge k 16 with h | h
  · exact (show k = 15 by omega) ▸ la_X7_15
  omega
end
section
abbrev KA (cs : Nat → ClassId) : List (ClassId × FieldType) := [(cs 0, .int), (cs 1, .long), (cs 2, .boolean), (cs 3, .object "HundredBoxes$Order"), (cs 4, .object "HundredBoxes$Tally"), (cs 5, .array .int), (cs 6, .array .long)]
abbrev wX7 (cs : Nat → ClassId) (ad : Nat → Nat) (m_n : Int32) (m_order : Nat → Int32) (m_shelf : Nat → Int32) (m_opens : Int32) (m_lists : Nat → Int32) (m_listed : Nat → Int32) (m_work : Nat → Int32) (m_counts : Nat → Int64) (m_older : Nat → Int64) (m_products : Nat → Int64) (m_part : Nat → Int32) (m_parts : Int32) (m_ways : Nat → Int64) (m_used : Int32) (m_greaterNow : Int32) (m_countNow : Int32) : va_W := [((ad 0), .inr (7, [.int m_n, .ref (ad 1), .ref (ad 2), .int m_opens, .ref (ad 3), .ref (ad 4), .ref (ad 5), .ref (ad 6), .ref (ad 7), .ref (ad 8), .ref (ad 9), .int m_parts, .ref (ad 10), .int m_used, .int m_greaterNow, .int m_countNow])), ((ad 1), .inl ((cs 0), 18, .inl m_order)), ((ad 2), .inl ((cs 0), 72, .inl m_shelf)), ((ad 3), .inl ((cs 0), 324, .inl m_lists)), ((ad 4), .inl ((cs 0), 18, .inl m_listed)), ((ad 5), .inl ((cs 0), 18, .inl m_work)), ((ad 6), .inl ((cs 1), 211, .inr (.inl m_counts))), ((ad 7), .inl ((cs 1), 211, .inr (.inl m_older))), ((ad 8), .inl ((cs 1), 19, .inr (.inl m_products))), ((ad 9), .inl ((cs 0), 18, .inl m_part)), ((ad 10), .inl ((cs 1), 6859, .inr (.inl m_ways)))]
end
section
def q7_in (a0 : Int64) (a2 : Int64) (a4 : Int64) (Q : Int32 → Prop) : Prop := (a0 < a2 → Q (0 : Int32)) ∧ (¬ a0 < a2 → (a4 < a0 → Q (0 : Int32)) ∧ (¬ a4 < a0 → Q (1 : Int32)))
set_option maxHeartbeats 4000000 in
set_option maxRecDepth 100000 in
theorem c7_in (l : Launch) (dC : Nat → ClassId) (dI : Nat → Nat → Nat) (cs : Nat → ClassId) (a0 : Int64) (a2 : Int64) (a4 : Int64) {Q : Int32 → Prop} (hq : q7_in a0 a2 a4 Q) : Met l yX7_in (.code yX7_in cX7_in 6 (some .boolean) :: gt) ({ frames := 0, cells := 0, slots := 0, locals := 0 } : Room) (va_Pc [.long a0, .long a2, .long a4] (Pr (dC, dI) (KA cs) ([] : va_W))) (vp_Si Q) 0 0 (fun _ => False) := by
  refine Met.ofW (cc := cX7_in) (maxL := 6) (ret := (some .boolean)) (by decide) rfl ?_
  intro p e s m args below meth c s₁ B hml hv
  obtain ⟨rfl, hP, hK, hN⟩ := hv
  have hx := B.exec
  have hb := B.bytes
  have hr := B.returns
  have hts0 := atoms_spec (ws := (.code yX7_in cX7_in 6 (some .boolean) :: gt)) B.pre
  have hts : ∀ w ∈ gt, w.before _ s = true := fun w h => hts0 w (List.mem_cons_of_mem _ h)
  have hown : s.vm.findClass RX7 = some m.cls := findClass_of_methodNamed B.named
  have hlocks := B.notSynchronized
  have hl := lv_entry ([.long a0, .long a2, .long a4]) (n := 6) (Nat.le_of_ble_eq_true rfl)
  rw [lg_entry_eq]
  generalize (lg_sl ([.long a0, .long a2, .long a4]) ++ List.replicate (6 - (lg_sl ([.long a0, .long a2, .long a4])).length) Slot.unset).toArray = ls at hl ⊢
  have hl : lv_has ls 6 [(0, .long a0), (2, .long a2), (4, .long a4)] := hl
  unfold q7_in at hq
  refine lv_lload_n hx hb dX7_in_0 rfl (lv_at hl 0 rfl) ?_
  refine lv_lload_n hx hb dX7_in_1 rfl (lv_at hl 1 rfl) ?_
  refine lc_lt (tgt := 17) hx hb dX7_in_2 dX7_in_3 (by decide) (fun c3 => ?_) (fun c3 => ?_)
  · have hq := hq.1 c3
    refine lv_iconst (v := (0 : Int32)) hx hb dX7_in_17 (by decide) ?_
    exact W.zret (ty := .boolean) (v := (0 : Int32)) hx hb hr rfl (fun t ht hW => ⟨(0 : Int32), rfl, hq, ht⟩) (fun q h => absurd h List.not_mem_nil) dX7_in_18
  · have hq := hq.2 c3
    refine lv_lload_n hx hb dX7_in_6 rfl (lv_at hl 0 rfl) ?_
    refine lv_lload hx hb dX7_in_7 (lv_at hl 2 rfl) ?_
    refine lc_gt (tgt := 17) hx hb dX7_in_9 dX7_in_10 (by decide) (fun c4 => ?_) (fun c4 => ?_)
    · have hq := hq.1 c4
      refine lv_iconst (v := (0 : Int32)) hx hb dX7_in_17 (by decide) ?_
      exact W.zret (ty := .boolean) (v := (0 : Int32)) hx hb hr rfl (fun t ht hW => ⟨(0 : Int32), rfl, hq, ht⟩) (fun q h => absurd h List.not_mem_nil) dX7_in_18
    · have hq := hq.2 c4
      refine lv_iconst (v := (1 : Int32)) hx hb dX7_in_13 (by decide) ?_
      refine lv_goto (tgt := 18) hx hb dX7_in_14 (by decide) ?_
      exact W.zret (ty := .boolean) (v := (1 : Int32)) hx hb hr rfl (fun t ht hW => ⟨(1 : Int32), rfl, hq, ht⟩) (fun q h => absurd h List.not_mem_nil) dX7_in_18
def q7_isThing (m_n : Int32) (a1 : Int32) (Q : Int32 → Prop) : Prop := q7_in a1.toInt64 (0 : Int64) ((m_n - (1 : Int32)).toInt64) (fun r1 => (r1 = 0 ∨ r1 = 1) ∧ Q r1)
set_option maxHeartbeats 4000000 in
set_option maxRecDepth 100000 in
theorem c7_isThing (l : Launch) (dC : Nat → ClassId) (dI : Nat → Nat → Nat) (cs : Nat → ClassId) (ad : Nat → Nat) (m_n : Int32) (m_order : Nat → Int32) (m_shelf : Nat → Int32) (m_opens : Int32) (m_lists : Nat → Int32) (m_listed : Nat → Int32) (m_work : Nat → Int32) (m_counts : Nat → Int64) (m_older : Nat → Int64) (m_products : Nat → Int64) (m_part : Nat → Int32) (m_parts : Int32) (m_ways : Nat → Int64) (m_used : Int32) (m_greaterNow : Int32) (m_countNow : Int32) (a1 : Int32) {Q : Int32 → Prop} (hq : q7_isThing m_n a1 Q) : Met l yX7_isThing (.code yX7_isThing cX7_isThing 2 (some .boolean) :: gt) ({ frames := 1, cells := 0, slots := 0, locals := 25 } : Room) (va_Pc [.ref (ad 0), .int a1] (Pr (dC, dI) (KA cs) (wX7 cs ad m_n m_order m_shelf m_opens m_lists m_listed m_work m_counts m_older m_products m_part m_parts m_ways m_used m_greaterNow m_countNow))) (vp_Si Q) 0 0 (fun _ => False) := by
  refine Met.ofW (cc := cX7_isThing) (maxL := 2) (ret := (some .boolean)) (by decide) rfl ?_
  intro p e s m args below meth c s₁ B hml hv
  obtain ⟨rfl, hP, hK, hN⟩ := hv
  have hx := B.exec
  have hb := B.bytes
  have hr := B.returns
  have hts0 := atoms_spec (ws := (.code yX7_isThing cX7_isThing 2 (some .boolean) :: gt)) B.pre
  have hts : ∀ w ∈ gt, w.before _ s = true := fun w h => hts0 w (List.mem_cons_of_mem _ h)
  have hown : s.vm.findClass RX7 = some m.cls := findClass_of_methodNamed B.named
  have hlocks := B.notSynchronized
  have hl := lv_entry ([.ref (ad 0), .int a1]) (n := 2) (Nat.le_of_ble_eq_true rfl)
  rw [lg_entry_eq]
  generalize (lg_sl ([.ref (ad 0), .int a1]) ++ List.replicate (2 - (lg_sl ([.ref (ad 0), .int a1])).length) Slot.unset).toArray = ls at hl ⊢
  have hl : lv_has ls 2 [(0, .ref (ad 0)), (1, .int a1)] := hl
  unfold q7_isThing at hq
  refine lv_iload_n hx hb dX7_isThing_0 rfl (lv_at hl 1 rfl) ?_
  refine lv_i2l (v := a1.toInt64) hx hb dX7_isThing_1 rfl ?_
  refine lv_lconst (v := (0 : Int64)) hx hb dX7_isThing_2 (by decide) ?_
  refine lv_aload_n hx hb dX7_isThing_3 rfl (lv_at hl 0 rfl) ?_
  refine va_get (D := (dC, dI)) (ci := 7) (v := .int m_n) (C := RX7) (T := TX7) (N := 16) hx hb hts uwX7 hown hK hP 0 rfl rfl 0 (by decide) (hts _ fl_X7_7) (fun _ h9 => h9) rfl dX7_isThing_4 ?_
  refine lv_iconst (v := (1 : Int32)) hx hb dX7_isThing_7 (by decide) ?_
  refine lv_isub hx hb dX7_isThing_8 ?_
  refine lv_i2l (v := (m_n - (1 : Int32)).toInt64) hx hb dX7_isThing_9 rfl ?_
  refine roi (runS ⟨hx, hb, hml, hown, hts⟩ ws_X7_in ml_X7_51 (c7_in l dC dI cs   a1.toInt64 (0 : Int64) ((m_n - (1 : Int32)).toInt64) hq) ⟨⟨rfl, rfl⟩, by decide, by decide⟩ (preR va_P_nil hK hN) hN rfl hl.1 rfl (Nat.le_of_ble_eq_true rfl) dX7_isThing_10 ⟨(Nat.le_of_ble_eq_true rfl), (Nat.le_of_ble_eq_true rfl)⟩) (fun r2 hq => ?_)
  obtain ⟨zb, hq⟩ := hq
  exact W.zret (ty := .boolean) (v := r2) hx hb hr (by rcases zb with h9 | h9 <;> rw [h9] <;> rfl) (fun t ht hW => ⟨r2, rfl, hq, ht⟩) (fun q h => absurd h List.not_mem_nil) dX7_isThing_13
def q7_roundOf_9 (m_order : Nat → Int32)  (Q : Int32 → Prop) : Nat → Int32 → Int32 → Int32 → Prop
  | 0, _, _, _ => False
  | k9 + 1, x1, x2, x3 => (x3 = x1 → Q x2) ∧ (¬ x3 = x1 → vp_in x3 18 ∧ (q7_roundOf_9 m_order  Q k9 x1 (x2 + (1 : Int32)) (m_order x3.toNatClampNeg)))
def q7_roundOf (m_order : Nat → Int32) (a1 : Int32) (Q : Int32 → Prop) : Prop := vp_in a1 18 ∧ (∃ k, q7_roundOf_9 m_order Q k a1 (1 : Int32) (m_order a1.toNatClampNeg))
set_option maxHeartbeats 4000000 in
set_option maxRecDepth 100000 in
theorem c7_roundOf (l : Launch) (dC : Nat → ClassId) (dI : Nat → Nat → Nat) (cs : Nat → ClassId) (ad : Nat → Nat) (m_n : Int32) (m_order : Nat → Int32) (m_shelf : Nat → Int32) (m_opens : Int32) (m_lists : Nat → Int32) (m_listed : Nat → Int32) (m_work : Nat → Int32) (m_counts : Nat → Int64) (m_older : Nat → Int64) (m_products : Nat → Int64) (m_part : Nat → Int32) (m_parts : Int32) (m_ways : Nat → Int64) (m_used : Int32) (m_greaterNow : Int32) (m_countNow : Int32) (a1 : Int32) {Q : Int32 → Prop} (hq : q7_roundOf m_order a1 Q) : Met l yX7_roundOf (.code yX7_roundOf cX7_roundOf 4 (some .int) :: gt) ({ frames := 0, cells := 0, slots := 0, locals := 0 } : Room) (va_Pc [.ref (ad 0), .int a1] (Pr (dC, dI) (KA cs) (wX7 cs ad m_n m_order m_shelf m_opens m_lists m_listed m_work m_counts m_older m_products m_part m_parts m_ways m_used m_greaterNow m_countNow))) (vp_Si Q) 0 0 (fun _ => False) := by
  refine Met.ofW (cc := cX7_roundOf) (maxL := 4) (ret := (some .int)) (by decide) rfl ?_
  intro p e s m args below meth c s₁ B hml hv
  obtain ⟨rfl, hP, hK, hN⟩ := hv
  have hx := B.exec
  have hb := B.bytes
  have hr := B.returns
  have hts0 := atoms_spec (ws := (.code yX7_roundOf cX7_roundOf 4 (some .int) :: gt)) B.pre
  have hts : ∀ w ∈ gt, w.before _ s = true := fun w h => hts0 w (List.mem_cons_of_mem _ h)
  have hown : s.vm.findClass RX7 = some m.cls := findClass_of_methodNamed B.named
  have hlocks := B.notSynchronized
  have hl := lv_entry ([.ref (ad 0), .int a1]) (n := 4) (Nat.le_of_ble_eq_true rfl)
  rw [lg_entry_eq]
  generalize (lg_sl ([.ref (ad 0), .int a1]) ++ List.replicate (4 - (lg_sl ([.ref (ad 0), .int a1])).length) Slot.unset).toArray = ls at hl ⊢
  have hl : lv_has ls 4 [(0, .ref (ad 0)), (1, .int a1)] := hl
  have B9 : ∀ (k9 : Nat) (x1 : Int32) (x2 : Int32) (x3 : Int32) (ls : Array Slot), q7_roundOf_9 m_order Q k9 x1 x2 x3 → lv_has ls 4 [(0, .ref (ad 0)), (1, .int x1), (2, .int x2), (3, .int x3)] → W p l e ({ frames := 0, cells := 0, slots := 0, locals := 0 } : Room) s m ([.ref (ad 0), .int a1] : List Value).toArray below meth c s.heap [] 0 0 (MQ below (vp_Si Q) ([.ref (ad 0), .int a1] : List Value).toArray s 0 0 (fun _ => False)) (F0 m 9 ls []) := by
    intro k9
    induction k9 with
    | zero => intro x1 x2 x3 ls hq; exact False.elim hq
    | succ k9 ih9 =>
      intro x1 x2 x3 ls hq hl
      unfold q7_roundOf_9 at hq
      refine lv_iload_n hx hb dX7_roundOf_9 rfl (lv_at hl 3 rfl) ?_
      refine lv_iload_n hx hb dX7_roundOf_10 rfl (lv_at hl 1 rfl) ?_
      refine lv_icmp_eq (tgt := 27) hx hb dX7_roundOf_11 (by decide) (fun c4 => ?_) (fun c4 => ?_)
      · have hq := hq.1 c4
        refine lv_iload_n hx hb dX7_roundOf_27 rfl (lv_at hl 2 rfl) ?_
        exact W.iret (v := x2) hx hb hr (fun t ht hW => ⟨x2, rfl, hq, ht⟩) (fun q h => absurd h List.not_mem_nil) dX7_roundOf_28
      · have hq := hq.2 c4
        refine lv_iinc (v := (x2 + (1 : Int32))) (lv' := [(2, .int (x2 + (1 : Int32))), (0, .ref (ad 0)), (1, .int x1), (3, .int x3)]) hx hb dX7_roundOf_14 hl (k := 2) rfl (by rfl) (by decide) rfl (fun ls hl => ?_)
        refine lv_aload_n hx hb dX7_roundOf_17 rfl (lv_at hl 1 rfl) ?_
        refine va_get (D := (dC, dI)) (ci := 7) (v := .ref (ad 1)) (C := RX7) (T := TX7) (N := 16) hx hb hts uwX7 hown hK hP 0 rfl rfl 1 (by decide) (hts _ fl_X7_13) (fun _ h9 => h9) rfl dX7_roundOf_18 ?_
        refine lv_iload_n hx hb dX7_roundOf_21 rfl (lv_at hl 3 rfl) ?_
        obtain ⟨i5, hq⟩ := hq
        refine va_iald hx hb hK hP 1 0 rfl rfl i5 dX7_roundOf_22 ?_
        refine lv_istore_n (lv' := [(3, .int (m_order x3.toNatClampNeg)), (2, .int (x2 + (1 : Int32))), (0, .ref (ad 0)), (1, .int x1)]) hx hb dX7_roundOf_23 rfl hl (by decide) rfl (fun ls hl => ?_)
        refine lv_goto (tgt := 9) hx hb dX7_roundOf_24 (by decide) ?_
        exact ih9 x1 (x2 + (1 : Int32)) (m_order x3.toNatClampNeg) _ hq (lv_sub hl [2, 3, 1, 0] rfl)
  unfold q7_roundOf at hq
  refine lv_iconst (v := (1 : Int32)) hx hb dX7_roundOf_0 (by decide) ?_
  refine lv_istore_n (lv' := [(2, .int (1 : Int32)), (0, .ref (ad 0)), (1, .int a1)]) hx hb dX7_roundOf_1 rfl hl (by decide) rfl (fun ls hl => ?_)
  refine lv_aload_n hx hb dX7_roundOf_2 rfl (lv_at hl 1 rfl) ?_
  refine va_get (D := (dC, dI)) (ci := 7) (v := .ref (ad 1)) (C := RX7) (T := TX7) (N := 16) hx hb hts uwX7 hown hK hP 0 rfl rfl 1 (by decide) (hts _ fl_X7_13) (fun _ h9 => h9) rfl dX7_roundOf_3 ?_
  refine lv_iload_n hx hb dX7_roundOf_6 rfl (lv_at hl 2 rfl) ?_
  obtain ⟨i6, hq⟩ := hq
  refine va_iald hx hb hK hP 1 0 rfl rfl i6 dX7_roundOf_7 ?_
  refine lv_istore_n (lv' := [(3, .int (m_order a1.toNatClampNeg)), (2, .int (1 : Int32)), (0, .ref (ad 0)), (1, .int a1)]) hx hb dX7_roundOf_8 rfl hl (by decide) rfl (fun ls hl => ?_)
  obtain ⟨kf, hq⟩ := hq
  exact B9 kf a1 (1 : Int32) (m_order a1.toNatClampNeg) _ hq (lv_sub hl [2, 3, 1, 0] rfl)
def q7_isRecord_33 (m_order : Nat → Int32) (K4 : Int32 → Int32 → Int32 → Prop) (Q : Int32 → Prop) (s0 : Int32) (x1 : Int32) (x3 : Int32) : Prop := K4 x1 s0 (x3 + (1 : Int32))
def q7_isRecord_4 (m_order : Nat → Int32)  (Q : Int32 → Prop) : Nat → Int32 → Int32 → Int32 → Prop
  | 0, _, _, _ => False
  | k4 + 1, x1, x2, x3 => (x1 ≤ x3 → (x2 = 0 ∨ x2 = 1) ∧ Q x2) ∧ (¬ x1 ≤ x3 → (x2 = (0 : Int32) → q7_isRecord_33 m_order (fun v0 v1 v2 => q7_isRecord_4 m_order  Q k4 v0 v1 v2) Q (0 : Int32) x1 x3) ∧ (¬ x2 = (0 : Int32) → vp_in x3 18 ∧ (vp_in x1 18 ∧ (((m_order x1.toNatClampNeg) ≤ (m_order x3.toNatClampNeg) → q7_isRecord_33 m_order (fun v0 v1 v2 => q7_isRecord_4 m_order  Q k4 v0 v1 v2) Q (0 : Int32) x1 x3) ∧ (¬ (m_order x1.toNatClampNeg) ≤ (m_order x3.toNatClampNeg) → q7_isRecord_33 m_order (fun v0 v1 v2 => q7_isRecord_4 m_order  Q k4 v0 v1 v2) Q (1 : Int32) x1 x3)))))
def q7_isRecord (m_order : Nat → Int32) (a1 : Int32) (Q : Int32 → Prop) : Prop := ∃ k, q7_isRecord_4 m_order Q k a1 (1 : Int32) (0 : Int32)
set_option maxHeartbeats 4000000 in
set_option maxRecDepth 100000 in
theorem c7_isRecord (l : Launch) (dC : Nat → ClassId) (dI : Nat → Nat → Nat) (cs : Nat → ClassId) (ad : Nat → Nat) (m_n : Int32) (m_order : Nat → Int32) (m_shelf : Nat → Int32) (m_opens : Int32) (m_lists : Nat → Int32) (m_listed : Nat → Int32) (m_work : Nat → Int32) (m_counts : Nat → Int64) (m_older : Nat → Int64) (m_products : Nat → Int64) (m_part : Nat → Int32) (m_parts : Int32) (m_ways : Nat → Int64) (m_used : Int32) (m_greaterNow : Int32) (m_countNow : Int32) (a1 : Int32) {Q : Int32 → Prop} (hq : q7_isRecord m_order a1 Q) : Met l yX7_isRecord (.code yX7_isRecord cX7_isRecord 4 (some .boolean) :: gt) ({ frames := 0, cells := 0, slots := 0, locals := 0 } : Room) (va_Pc [.ref (ad 0), .int a1] (Pr (dC, dI) (KA cs) (wX7 cs ad m_n m_order m_shelf m_opens m_lists m_listed m_work m_counts m_older m_products m_part m_parts m_ways m_used m_greaterNow m_countNow))) (vp_Si Q) 0 0 (fun _ => False) := by
  refine Met.ofW (cc := cX7_isRecord) (maxL := 4) (ret := (some .boolean)) (by decide) rfl ?_
  intro p e s m args below meth c s₁ B hml hv
  obtain ⟨rfl, hP, hK, hN⟩ := hv
  have hx := B.exec
  have hb := B.bytes
  have hr := B.returns
  have hts0 := atoms_spec (ws := (.code yX7_isRecord cX7_isRecord 4 (some .boolean) :: gt)) B.pre
  have hts : ∀ w ∈ gt, w.before _ s = true := fun w h => hts0 w (List.mem_cons_of_mem _ h)
  have hown : s.vm.findClass RX7 = some m.cls := findClass_of_methodNamed B.named
  have hlocks := B.notSynchronized
  have hl := lv_entry ([.ref (ad 0), .int a1]) (n := 4) (Nat.le_of_ble_eq_true rfl)
  rw [lg_entry_eq]
  generalize (lg_sl ([.ref (ad 0), .int a1]) ++ List.replicate (4 - (lg_sl ([.ref (ad 0), .int a1])).length) Slot.unset).toArray = ls at hl ⊢
  have hl : lv_has ls 4 [(0, .ref (ad 0)), (1, .int a1)] := hl
  have B4 : ∀ (k4 : Nat) (x1 : Int32) (x2 : Int32) (x3 : Int32) (ls : Array Slot), q7_isRecord_4 m_order Q k4 x1 x2 x3 → lv_has ls 4 [(0, .ref (ad 0)), (1, .int x1), (2, .int x2), (3, .int x3)] → W p l e ({ frames := 0, cells := 0, slots := 0, locals := 0 } : Room) s m ([.ref (ad 0), .int a1] : List Value).toArray below meth c s.heap [] 0 0 (MQ below (vp_Si Q) ([.ref (ad 0), .int a1] : List Value).toArray s 0 0 (fun _ => False)) (F0 m 4 ls []) := by
    intro k4
    induction k4 with
    | zero => intro x1 x2 x3 ls hq; exact False.elim hq
    | succ k4 ih4 =>
      intro x1 x2 x3 ls hq hl
      have B33 : ∀ (s0 : Int32) (x1 : Int32) (x3 : Int32) (ls : Array Slot), q7_isRecord_33 m_order (fun v0 v1 v2 => q7_isRecord_4 m_order Q k4 v0 v1 v2) Q s0 x1 x3 → lv_has ls 4 [(0, .ref (ad 0)), (1, .int x1), (3, .int x3)] → W p l e ({ frames := 0, cells := 0, slots := 0, locals := 0 } : Room) s m ([.ref (ad 0), .int a1] : List Value).toArray below meth c s.heap [] 0 0 (MQ below (vp_Si Q) ([.ref (ad 0), .int a1] : List Value).toArray s 0 0 (fun _ => False)) (F0 m 33 ls [.int s0]) := by
        intro s0 x1 x3 ls hq hl
        unfold q7_isRecord_33 at hq
        refine lv_istore_n (lv' := [(2, .int s0), (0, .ref (ad 0)), (1, .int x1), (3, .int x3)]) hx hb dX7_isRecord_33 rfl hl (by decide) rfl (fun ls hl => ?_)
        refine lv_iinc (v := (x3 + (1 : Int32))) (lv' := [(3, .int (x3 + (1 : Int32))), (2, .int s0), (0, .ref (ad 0)), (1, .int x1)]) hx hb dX7_isRecord_34 hl (k := 3) rfl (by rfl) (by decide) rfl (fun ls hl => ?_)
        refine lv_goto (tgt := 4) hx hb dX7_isRecord_37 (by decide) ?_
        exact ih4 x1 s0 (x3 + (1 : Int32)) _ hq (lv_sub hl [2, 3, 1, 0] rfl)
      unfold q7_isRecord_4 at hq
      refine lv_iload_n hx hb dX7_isRecord_4 rfl (lv_at hl 3 rfl) ?_
      refine lv_iload_n hx hb dX7_isRecord_5 rfl (lv_at hl 1 rfl) ?_
      refine lv_icmp_ge (tgt := 40) hx hb dX7_isRecord_6 (by decide) (fun c6 => ?_) (fun c6 => ?_)
      · have hq := hq.1 c6
        refine lv_iload_n hx hb dX7_isRecord_40 rfl (lv_at hl 2 rfl) ?_
        obtain ⟨zb, hq⟩ := hq
        exact W.zret (ty := .boolean) (v := x2) hx hb hr (by rcases zb with h9 | h9 <;> rw [h9] <;> rfl) (fun t ht hW => ⟨x2, rfl, hq, ht⟩) (fun q h => absurd h List.not_mem_nil) dX7_isRecord_41
      · have hq := hq.2 c6
        refine lv_iload_n hx hb dX7_isRecord_9 rfl (lv_at hl 2 rfl) ?_
        refine lv_if_eq (tgt := 32) hx hb dX7_isRecord_10 (by decide) (fun c7 => ?_) (fun c7 => ?_)
        · have hq := hq.1 c7
          refine lv_iconst (v := (0 : Int32)) hx hb dX7_isRecord_32 (by decide) ?_
          exact B33 (0 : Int32) x1 x3 _ hq (lv_sub hl [0, 1, 3] rfl)
        · have hq := hq.2 c7
          refine lv_aload_n hx hb dX7_isRecord_13 rfl (lv_at hl 0 rfl) ?_
          refine va_get (D := (dC, dI)) (ci := 7) (v := .ref (ad 1)) (C := RX7) (T := TX7) (N := 16) hx hb hts uwX7 hown hK hP 0 rfl rfl 1 (by decide) (hts _ fl_X7_13) (fun _ h9 => h9) rfl dX7_isRecord_14 ?_
          refine lv_iload_n hx hb dX7_isRecord_17 rfl (lv_at hl 3 rfl) ?_
          obtain ⟨i8, hq⟩ := hq
          refine va_iald hx hb hK hP 1 0 rfl rfl i8 dX7_isRecord_18 ?_
          refine lv_aload_n hx hb dX7_isRecord_19 rfl (lv_at hl 0 rfl) ?_
          refine va_get (D := (dC, dI)) (ci := 7) (v := .ref (ad 1)) (C := RX7) (T := TX7) (N := 16) hx hb hts uwX7 hown hK hP 0 rfl rfl 1 (by decide) (hts _ fl_X7_13) (fun _ h9 => h9) rfl dX7_isRecord_20 ?_
          refine lv_iload_n hx hb dX7_isRecord_23 rfl (lv_at hl 1 rfl) ?_
          obtain ⟨i9, hq⟩ := hq
          refine va_iald hx hb hK hP 1 0 rfl rfl i9 dX7_isRecord_24 ?_
          refine lv_icmp_ge (tgt := 32) hx hb dX7_isRecord_25 (by decide) (fun c10 => ?_) (fun c10 => ?_)
          · have hq := hq.1 c10
            refine lv_iconst (v := (0 : Int32)) hx hb dX7_isRecord_32 (by decide) ?_
            exact B33 (0 : Int32) x1 x3 _ hq (lv_sub hl [0, 1, 3] rfl)
          · have hq := hq.2 c10
            refine lv_iconst (v := (1 : Int32)) hx hb dX7_isRecord_28 (by decide) ?_
            refine lv_goto (tgt := 33) hx hb dX7_isRecord_29 (by decide) ?_
            exact B33 (1 : Int32) x1 x3 _ hq (lv_sub hl [0, 1, 3] rfl)
  unfold q7_isRecord at hq
  refine lv_iconst (v := (1 : Int32)) hx hb dX7_isRecord_0 (by decide) ?_
  refine lv_istore_n (lv' := [(2, .int (1 : Int32)), (0, .ref (ad 0)), (1, .int a1)]) hx hb dX7_isRecord_1 rfl hl (by decide) rfl (fun ls hl => ?_)
  refine lv_iconst (v := (0 : Int32)) hx hb dX7_isRecord_2 (by decide) ?_
  refine lv_istore_n (lv' := [(3, .int (0 : Int32)), (2, .int (1 : Int32)), (0, .ref (ad 0)), (1, .int a1)]) hx hb dX7_isRecord_3 rfl hl (by decide) rfl (fun ls hl => ?_)
  obtain ⟨kf, hq⟩ := hq
  exact B4 kf a1 (1 : Int32) (0 : Int32) _ hq (lv_sub hl [2, 3, 1, 0] rfl)
def q7_become_2 (m_n : Int32) (m_work : Nat → Int32)  (Q : (Nat → Int32) → Prop) : Nat → Int32 → (Nat → Int32) → Prop
  | 0, _, _ => False
  | k2 + 1, x1, m_order => (m_n ≤ x1 → Q m_order) ∧ (¬ m_n ≤ x1 → vp_in x1 18 ∧ (vp_in x1 18 ∧ (q7_become_2 m_n m_work  Q k2 (x1 + (1 : Int32)) (upd m_order x1.toNatClampNeg (m_work x1.toNatClampNeg)))))
def q7_become (m_n : Int32) (m_work : Nat → Int32) (m_order : Nat → Int32) (Q : (Nat → Int32) → Prop) : Prop := ∃ k, q7_become_2 m_n m_work Q k (0 : Int32) m_order
set_option maxHeartbeats 4000000 in
set_option maxRecDepth 100000 in
theorem c7_become (l : Launch) (dC : Nat → ClassId) (dI : Nat → Nat → Nat) (cs : Nat → ClassId) (ad : Nat → Nat) (sz : Nat) (m_n : Int32) (m_order : Nat → Int32) (m_shelf : Nat → Int32) (m_opens : Int32) (m_lists : Nat → Int32) (m_listed : Nat → Int32) (m_work : Nat → Int32) (m_counts : Nat → Int64) (m_older : Nat → Int64) (m_products : Nat → Int64) (m_part : Nat → Int32) (m_parts : Int32) (m_ways : Nat → Int64) (m_used : Int32) (m_greaterNow : Int32) (m_countNow : Int32) {Q : (Nat → Int32) → Prop} (hq : q7_become m_n m_work m_order Q) : Met l yX7_become (.code yX7_become cX7_become 2 none :: gt) ({ frames := 0, cells := 0, slots := 0, locals := 0 } : Room) (va_Pc [.ref (ad 0)] (Pw (dC, dI) (KA cs) (wX7 cs ad m_n m_order m_shelf m_opens m_lists m_listed m_work m_counts m_older m_products m_part m_parts m_ways m_used m_greaterNow m_countNow) sz)) (va_Qv (fun (u : (Nat → Int32)) => Q u) (Bw (dC, dI) (KA cs) (va_A (wX7 cs ad m_n m_order m_shelf m_opens m_lists m_listed m_work m_counts m_older m_products m_part m_parts m_ways m_used m_greaterNow m_countNow) sz) (fun u : (Nat → Int32) => (wX7 cs ad m_n u m_shelf m_opens m_lists m_listed m_work m_counts m_older m_products m_part m_parts m_ways m_used m_greaterNow m_countNow))) (va_A (wX7 cs ad m_n m_order m_shelf m_opens m_lists m_listed m_work m_counts m_older m_products m_part m_parts m_ways m_used m_greaterNow m_countNow) sz)) 0 0 (va_A (wX7 cs ad m_n m_order m_shelf m_opens m_lists m_listed m_work m_counts m_older m_products m_part m_parts m_ways m_used m_greaterNow m_countNow) sz) := by
  refine Met.ofW (cc := cX7_become) (maxL := 2) (ret := none) (by decide) rfl ?_
  intro p e s m args below meth c s₁ B hml hv
  obtain ⟨rfl, hsz, hP, hK, hD0, hN⟩ := hv
  have hx := B.exec
  have hb := B.bytes
  have hr := B.returns
  have hts0 := atoms_spec (ws := (.code yX7_become cX7_become 2 none :: gt)) B.pre
  have hts : ∀ w ∈ gt, w.before _ s = true := fun w h => hts0 w (List.mem_cons_of_mem _ h)
  have hown : s.vm.findClass RX7 = some m.cls := findClass_of_methodNamed B.named
  have hlocks := B.notSynchronized
  subst hsz
  have hD := hD0.self (sz := s.heap.size)
  generalize hAe : va_A (wX7 cs ad m_n m_order m_shelf m_opens m_lists m_listed m_work m_counts m_older m_products m_part m_parts m_ways m_used m_greaterNow m_countNow) s.heap.size = A at hD ⊢
  have hA : ∀ q : Nat, s.heap.size ≤ q → A q := fun q h => by rw [← hAe]; exact Or.inr h
  have hS : va_S A s.heap s.heap [] := va_S.rf
  have hl := lv_entry ([.ref (ad 0)]) (n := 2) (Nat.le_of_ble_eq_true rfl)
  rw [lg_entry_eq]
  generalize (lg_sl ([.ref (ad 0)]) ++ List.replicate (2 - (lg_sl ([.ref (ad 0)])).length) Slot.unset).toArray = ls at hl ⊢
  have hl : lv_has ls 2 [(0, .ref (ad 0))] := hl
  have B2 : ∀ (k2 : Nat) (x1 : Int32) (m_order : Nat → Int32) (H : Heap) (locs : List Loc) (ls : Array Slot), q7_become_2 m_n m_work Q k2 x1 m_order → va_P (dC, dI) vwCl (wX7 cs ad m_n m_order m_shelf m_opens m_lists m_listed m_work m_counts m_older m_products m_part m_parts m_ways m_used m_greaterNow m_countNow) H → va_D A (wX7 cs ad m_n m_order m_shelf m_opens m_lists m_listed m_work m_counts m_older m_products m_part m_parts m_ways m_used m_greaterNow m_countNow) → va_S A s.heap H locs → lv_has ls 2 [(0, .ref (ad 0)), (1, .int x1)] → W p l e ({ frames := 0, cells := 0, slots := 0, locals := 0 } : Room) s m ([.ref (ad 0)] : List Value).toArray below meth c H locs 0 0 (MQ below (va_Qv (fun (u : (Nat → Int32)) => Q u) (Bw (dC, dI) (KA cs) A (fun u : (Nat → Int32) => (wX7 cs ad m_n u m_shelf m_opens m_lists m_listed m_work m_counts m_older m_products m_part m_parts m_ways m_used m_greaterNow m_countNow))) A) ([.ref (ad 0)] : List Value).toArray s 0 0 A) (F0 m 2 ls []) := by
    intro k2
    induction k2 with
    | zero => intro x1 m_order H locs ls hq; exact False.elim hq
    | succ k2 ih2 =>
      intro x1 m_order H locs ls hq hP hD hS hl
      unfold q7_become_2 at hq
      refine lv_iload_n hx hb dX7_become_2 rfl (lv_at hl 1 rfl) ?_
      refine lv_aload_n hx hb dX7_become_3 rfl (lv_at hl 0 rfl) ?_
      refine va_get (D := (dC, dI)) (ci := 7) (v := .int m_n) (C := RX7) (T := TX7) (N := 16) hx hb hts uwX7 hown hK hP 0 rfl rfl 0 (by decide) (hts _ fl_X7_7) (fun _ h9 => h9) rfl dX7_become_4 ?_
      refine lv_icmp_ge (tgt := 28) hx hb dX7_become_7 (by decide) (fun c4 => ?_) (fun c4 => ?_)
      · have hq := hq.1 c4
        exact W.vret hx hb hr (fun t ht hW => ⟨⟨m_order, rfl, hq, Bw_mk (by rw [ht]; exact hP) (va_K.moved hW.alike hK) hD⟩, hS.F ht⟩) hS.2.2 dX7_become_28
      · have hq := hq.2 c4
        refine lv_aload_n hx hb dX7_become_10 rfl (lv_at hl 0 rfl) ?_
        refine va_get (D := (dC, dI)) (ci := 7) (v := .ref (ad 1)) (C := RX7) (T := TX7) (N := 16) hx hb hts uwX7 hown hK hP 0 rfl rfl 1 (by decide) (hts _ fl_X7_13) (fun _ h9 => h9) rfl dX7_become_11 ?_
        refine lv_iload_n hx hb dX7_become_14 rfl (lv_at hl 1 rfl) ?_
        refine lv_aload_n hx hb dX7_become_15 rfl (lv_at hl 0 rfl) ?_
        refine va_get (D := (dC, dI)) (ci := 7) (v := .ref (ad 5)) (C := RX7) (T := TX7) (N := 16) hx hb hts uwX7 hown hK hP 0 rfl rfl 6 (by decide) (hts _ fl_X7_29) (fun _ h9 => h9) rfl dX7_become_16 ?_
        refine lv_iload_n hx hb dX7_become_19 rfl (lv_at hl 1 rfl) ?_
        obtain ⟨i5, hq⟩ := hq
        refine va_iald hx hb hK hP 5 0 rfl rfl i5 dX7_become_20 ?_
        obtain ⟨i6, hq⟩ := hq
        refine va_iast hx hb hK hP hD hS 1 0 rfl rfl i6 dX7_become_21 (fun H locs hP hD hS => ?_)
        have hP : va_P (dC, dI) vwCl (wX7 cs ad m_n (upd m_order x1.toNatClampNeg (m_work x1.toNatClampNeg)) m_shelf m_opens m_lists m_listed m_work m_counts m_older m_products m_part m_parts m_ways m_used m_greaterNow m_countNow) H := hP
        have hD : va_D A (wX7 cs ad m_n (upd m_order x1.toNatClampNeg (m_work x1.toNatClampNeg)) m_shelf m_opens m_lists m_listed m_work m_counts m_older m_products m_part m_parts m_ways m_used m_greaterNow m_countNow) := hD
        refine lv_iinc (v := (x1 + (1 : Int32))) (lv' := [(1, .int (x1 + (1 : Int32))), (0, .ref (ad 0))]) hx hb dX7_become_22 hl (k := 1) rfl (by rfl) (by decide) rfl (fun ls hl => ?_)
        refine lv_goto (tgt := 2) hx hb dX7_become_25 (by decide) ?_
        exact ih2 (x1 + (1 : Int32)) (upd m_order x1.toNatClampNeg (m_work x1.toNatClampNeg)) _ _ _ hq hP hD hS (lv_sub hl [1, 0] rfl)
  unfold q7_become at hq
  refine lv_iconst (v := (0 : Int32)) hx hb dX7_become_0 (by decide) ?_
  refine lv_istore_n (lv' := [(1, .int (0 : Int32)), (0, .ref (ad 0))]) hx hb dX7_become_1 rfl hl (by decide) rfl (fun ls hl => ?_)
  obtain ⟨kf, hq⟩ := hq
  exact B2 kf (0 : Int32) m_order _ _ _ hq hP hD hS (lv_sub hl [1, 0] rfl)
def q7_opens (m_n : Int32) (m_opens : Int32) (a1 : Int32) (Q : Int32 → Int32 → Prop) : Prop := q7_in a1.toInt64 (1 : Int64) m_n.toInt64 (fun r1 => (¬ r1 = (0 : Int32) → Q m_opens a1) ∧ (r1 = (0 : Int32) → Q (-2 : Int32) m_opens))
set_option maxHeartbeats 4000000 in
set_option maxRecDepth 100000 in
theorem c7_opens (l : Launch) (dC : Nat → ClassId) (dI : Nat → Nat → Nat) (cs : Nat → ClassId) (ad : Nat → Nat) (sz : Nat) (m_n : Int32) (m_order : Nat → Int32) (m_shelf : Nat → Int32) (m_opens : Int32) (m_lists : Nat → Int32) (m_listed : Nat → Int32) (m_work : Nat → Int32) (m_counts : Nat → Int64) (m_older : Nat → Int64) (m_products : Nat → Int64) (m_part : Nat → Int32) (m_parts : Int32) (m_ways : Nat → Int64) (m_used : Int32) (m_greaterNow : Int32) (m_countNow : Int32) (a1 : Int32) {Q : Int32 → Int32 → Prop} (hq : q7_opens m_n m_opens a1 Q) : Met l yX7_opens (.code yX7_opens cX7_opens 3 (some .int) :: gt) ({ frames := 1, cells := 0, slots := 0, locals := 25 } : Room) (va_Pc [.ref (ad 0), .int a1] (Pw (dC, dI) (KA cs) (wX7 cs ad m_n m_order m_shelf m_opens m_lists m_listed m_work m_counts m_older m_products m_part m_parts m_ways m_used m_greaterNow m_countNow) sz)) (va_Qi (fun (r : Int32) (u : Int32) => Q r u) (Bw (dC, dI) (KA cs) (va_A (wX7 cs ad m_n m_order m_shelf m_opens m_lists m_listed m_work m_counts m_older m_products m_part m_parts m_ways m_used m_greaterNow m_countNow) sz) (fun u : Int32 => (wX7 cs ad m_n m_order m_shelf u m_lists m_listed m_work m_counts m_older m_products m_part m_parts m_ways m_used m_greaterNow m_countNow))) (va_A (wX7 cs ad m_n m_order m_shelf m_opens m_lists m_listed m_work m_counts m_older m_products m_part m_parts m_ways m_used m_greaterNow m_countNow) sz)) 0 0 (va_A (wX7 cs ad m_n m_order m_shelf m_opens m_lists m_listed m_work m_counts m_older m_products m_part m_parts m_ways m_used m_greaterNow m_countNow) sz) := by
  refine Met.ofW (cc := cX7_opens) (maxL := 3) (ret := (some .int)) (by decide) rfl ?_
  intro p e s m args below meth c s₁ B hml hv
  obtain ⟨rfl, hsz, hP, hK, hD0, hN⟩ := hv
  have hx := B.exec
  have hb := B.bytes
  have hr := B.returns
  have hts0 := atoms_spec (ws := (.code yX7_opens cX7_opens 3 (some .int) :: gt)) B.pre
  have hts : ∀ w ∈ gt, w.before _ s = true := fun w h => hts0 w (List.mem_cons_of_mem _ h)
  have hown : s.vm.findClass RX7 = some m.cls := findClass_of_methodNamed B.named
  have hlocks := B.notSynchronized
  subst hsz
  have hD := hD0.self (sz := s.heap.size)
  generalize hAe : va_A (wX7 cs ad m_n m_order m_shelf m_opens m_lists m_listed m_work m_counts m_older m_products m_part m_parts m_ways m_used m_greaterNow m_countNow) s.heap.size = A at hD ⊢
  have hA : ∀ q : Nat, s.heap.size ≤ q → A q := fun q h => by rw [← hAe]; exact Or.inr h
  have hS : va_S A s.heap s.heap [] := va_S.rf
  have hl := lv_entry ([.ref (ad 0), .int a1]) (n := 3) (Nat.le_of_ble_eq_true rfl)
  rw [lg_entry_eq]
  generalize (lg_sl ([.ref (ad 0), .int a1]) ++ List.replicate (3 - (lg_sl ([.ref (ad 0), .int a1])).length) Slot.unset).toArray = ls at hl ⊢
  have hl : lv_has ls 3 [(0, .ref (ad 0)), (1, .int a1)] := hl
  unfold q7_opens at hq
  refine lv_iload_n hx hb dX7_opens_0 rfl (lv_at hl 1 rfl) ?_
  refine lv_i2l (v := a1.toInt64) hx hb dX7_opens_1 rfl ?_
  refine lv_lconst (v := (1 : Int64)) hx hb dX7_opens_2 (by decide) ?_
  refine lv_aload_n hx hb dX7_opens_3 rfl (lv_at hl 0 rfl) ?_
  refine va_get (D := (dC, dI)) (ci := 7) (v := .int m_n) (C := RX7) (T := TX7) (N := 16) hx hb hts uwX7 hown hK hP 0 rfl rfl 0 (by decide) (hts _ fl_X7_7) (fun _ h9 => h9) rfl dX7_opens_4 ?_
  refine lv_i2l (v := m_n.toInt64) hx hb dX7_opens_7 rfl ?_
  refine roi (runS ⟨hx, hb, hml, hown, hts⟩ ws_X7_in ml_X7_51 (c7_in l dC dI cs   a1.toInt64 (1 : Int64) m_n.toInt64 hq) ⟨⟨rfl, rfl⟩, by decide, by decide⟩ (preR va_P_nil hK hN) hN rfl hl.1 rfl (Nat.le_of_ble_eq_true rfl) dX7_opens_8 ⟨(Nat.le_of_ble_eq_true rfl), (Nat.le_of_ble_eq_true rfl)⟩) (fun r3 hq => ?_)
  refine lv_if_ne (tgt := 17) hx hb dX7_opens_11 (by decide) (fun c4 => ?_) (fun c4 => ?_)
  · have hq := hq.1 c4
    refine lv_aload_n hx hb dX7_opens_17 rfl (lv_at hl 0 rfl) ?_
    refine va_get (D := (dC, dI)) (ci := 7) (v := .int m_opens) (C := RX7) (T := TX7) (N := 16) hx hb hts uwX7 hown hK hP 0 rfl rfl 3 (by decide) (hts _ fl_X7_20) (fun _ h9 => h9) rfl dX7_opens_18 ?_
    refine lv_istore_n (lv' := [(2, .int m_opens), (0, .ref (ad 0)), (1, .int a1)]) hx hb dX7_opens_21 rfl hl (by decide) rfl (fun ls hl => ?_)
    refine lv_aload_n hx hb dX7_opens_22 rfl (lv_at hl 1 rfl) ?_
    refine lv_iload_n hx hb dX7_opens_23 rfl (lv_at hl 2 rfl) ?_
    refine va_put (D := (dC, dI)) (ci := 7) (v := .int a1) (ty := .int) (C := RX7) (T := TX7) (N := 16) hx hb hts uwX7 tyX7 tyX7_ok nmX7 hown hK hP hD hS 0 rfl rfl 3 (by decide) (hts _ fl_X7_20) (fun _ h9 => h9) rfl (by decide +kernel) rfl rfl (Nat.le_of_ble_eq_true rfl) dX7_opens_24 (fun H locs hP hD hS => ?_)
    have hP : va_P (dC, dI) vwCl (wX7 cs ad m_n m_order m_shelf a1 m_lists m_listed m_work m_counts m_older m_products m_part m_parts m_ways m_used m_greaterNow m_countNow) H := hP
    have hD : va_D A (wX7 cs ad m_n m_order m_shelf a1 m_lists m_listed m_work m_counts m_older m_products m_part m_parts m_ways m_used m_greaterNow m_countNow) := hD
    refine lv_iload_n hx hb dX7_opens_27 rfl (lv_at hl 0 rfl) ?_
    exact W.iret (v := m_opens) hx hb hr (fun t ht hW => ⟨⟨m_opens, a1, rfl, hq, Bw_mk (by rw [ht]; exact hP) (va_K.moved hW.alike hK) hD⟩, hS.F ht⟩) hS.2.2 dX7_opens_28
  · have hq := hq.2 c4
    refine lv_bipush (v := (-2 : Int32)) hx hb dX7_opens_14 (by decide) ?_
    exact W.iret (v := (-2 : Int32)) hx hb hr (fun t ht hW => ⟨⟨(-2 : Int32), m_opens, rfl, hq, Bw_mk (by rw [ht]; exact hP) (va_K.moved hW.alike hK) hD⟩, hS.F ht⟩) hS.2.2 dX7_opens_16
def q7_back_28 (m_n : Int32) (Q : Int32 → (Nat → Int32) → (Nat → Int32) → Prop) (m_order : Nat → Int32) (m_work : Nat → Int32) : Prop := q7_become m_n m_work m_order (fun m_order_1 => Q (1 : Int32) m_order_1 m_work)
def q7_back_2 (m_n : Int32)  (Q : Int32 → (Nat → Int32) → (Nat → Int32) → Prop) : Nat → Int32 → (Nat → Int32) → (Nat → Int32) → Prop
  | 0, _, _, _ => False
  | k2 + 1, x1, m_order, m_work => (m_n ≤ x1 → q7_back_28 m_n  Q m_order m_work) ∧ (¬ m_n ≤ x1 → vp_in x1 18 ∧ (vp_in (m_order x1.toNatClampNeg) 18 ∧ (q7_back_2 m_n  Q k2 (x1 + (1 : Int32)) m_order (upd m_work (m_order x1.toNatClampNeg).toNatClampNeg x1))))
def q7_back (m_n : Int32) (m_order : Nat → Int32) (m_work : Nat → Int32) (Q : Int32 → (Nat → Int32) → (Nat → Int32) → Prop) : Prop := ∃ k, q7_back_2 m_n Q k (0 : Int32) m_order m_work
set_option maxHeartbeats 4000000 in
set_option maxRecDepth 100000 in
theorem c7_back (l : Launch) (dC : Nat → ClassId) (dI : Nat → Nat → Nat) (cs : Nat → ClassId) (ad : Nat → Nat) (sz : Nat) (m_n : Int32) (m_order : Nat → Int32) (m_shelf : Nat → Int32) (m_opens : Int32) (m_lists : Nat → Int32) (m_listed : Nat → Int32) (m_work : Nat → Int32) (m_counts : Nat → Int64) (m_older : Nat → Int64) (m_products : Nat → Int64) (m_part : Nat → Int32) (m_parts : Int32) (m_ways : Nat → Int64) (m_used : Int32) (m_greaterNow : Int32) (m_countNow : Int32) {Q : Int32 → (Nat → Int32) → (Nat → Int32) → Prop} (hq : q7_back m_n m_order m_work Q) : Met l yX7_back (.code yX7_back cX7_back 2 (some .int) :: gt) ({ frames := 1, cells := 0, slots := 0, locals := 21 } : Room) (va_Pc [.ref (ad 0)] (Pw (dC, dI) (KA cs) (wX7 cs ad m_n m_order m_shelf m_opens m_lists m_listed m_work m_counts m_older m_products m_part m_parts m_ways m_used m_greaterNow m_countNow) sz)) (va_Qi (fun (r : Int32) (u : (Nat → Int32) × (Nat → Int32)) => Q r u.1 u.2) (Bw (dC, dI) (KA cs) (va_A (wX7 cs ad m_n m_order m_shelf m_opens m_lists m_listed m_work m_counts m_older m_products m_part m_parts m_ways m_used m_greaterNow m_countNow) sz) (fun u : (Nat → Int32) × (Nat → Int32) => (wX7 cs ad m_n u.1 m_shelf m_opens m_lists m_listed u.2 m_counts m_older m_products m_part m_parts m_ways m_used m_greaterNow m_countNow))) (va_A (wX7 cs ad m_n m_order m_shelf m_opens m_lists m_listed m_work m_counts m_older m_products m_part m_parts m_ways m_used m_greaterNow m_countNow) sz)) 0 0 (va_A (wX7 cs ad m_n m_order m_shelf m_opens m_lists m_listed m_work m_counts m_older m_products m_part m_parts m_ways m_used m_greaterNow m_countNow) sz) := by
  refine Met.ofW (cc := cX7_back) (maxL := 2) (ret := (some .int)) (by decide) rfl ?_
  intro p e s m args below meth c s₁ B hml hv
  obtain ⟨rfl, hsz, hP, hK, hD0, hN⟩ := hv
  have hx := B.exec
  have hb := B.bytes
  have hr := B.returns
  have hts0 := atoms_spec (ws := (.code yX7_back cX7_back 2 (some .int) :: gt)) B.pre
  have hts : ∀ w ∈ gt, w.before _ s = true := fun w h => hts0 w (List.mem_cons_of_mem _ h)
  have hown : s.vm.findClass RX7 = some m.cls := findClass_of_methodNamed B.named
  have hlocks := B.notSynchronized
  subst hsz
  have hD := hD0.self (sz := s.heap.size)
  generalize hAe : va_A (wX7 cs ad m_n m_order m_shelf m_opens m_lists m_listed m_work m_counts m_older m_products m_part m_parts m_ways m_used m_greaterNow m_countNow) s.heap.size = A at hD ⊢
  have hA : ∀ q : Nat, s.heap.size ≤ q → A q := fun q h => by rw [← hAe]; exact Or.inr h
  have hS : va_S A s.heap s.heap [] := va_S.rf
  have hl := lv_entry ([.ref (ad 0)]) (n := 2) (Nat.le_of_ble_eq_true rfl)
  rw [lg_entry_eq]
  generalize (lg_sl ([.ref (ad 0)]) ++ List.replicate (2 - (lg_sl ([.ref (ad 0)])).length) Slot.unset).toArray = ls at hl ⊢
  have hl : lv_has ls 2 [(0, .ref (ad 0))] := hl
  have B28 : ∀ (m_order : Nat → Int32) (m_work : Nat → Int32) (H : Heap) (locs : List Loc) (ls : Array Slot), q7_back_28 m_n Q m_order m_work → va_P (dC, dI) vwCl (wX7 cs ad m_n m_order m_shelf m_opens m_lists m_listed m_work m_counts m_older m_products m_part m_parts m_ways m_used m_greaterNow m_countNow) H → va_D A (wX7 cs ad m_n m_order m_shelf m_opens m_lists m_listed m_work m_counts m_older m_products m_part m_parts m_ways m_used m_greaterNow m_countNow) → va_S A s.heap H locs → lv_has ls 2 [(0, .ref (ad 0))] → W p l e ({ frames := 1, cells := 0, slots := 0, locals := 21 } : Room) s m ([.ref (ad 0)] : List Value).toArray below meth c H locs 0 0 (MQ below (va_Qi (fun (r : Int32) (u : (Nat → Int32) × (Nat → Int32)) => Q r u.1 u.2) (Bw (dC, dI) (KA cs) A (fun u : (Nat → Int32) × (Nat → Int32) => (wX7 cs ad m_n u.1 m_shelf m_opens m_lists m_listed u.2 m_counts m_older m_products m_part m_parts m_ways m_used m_greaterNow m_countNow))) A) ([.ref (ad 0)] : List Value).toArray s 0 0 A) (F0 m 28 ls []) := by
    intro m_order m_work H locs ls hq hP hD hS hl
    unfold q7_back_28 at hq
    refine lv_aload_n hx hb dX7_back_28 rfl (lv_at hl 0 rfl) ?_
    refine swv (runV ⟨hx, hb, hml, hown, hts⟩ wf_X7_become ml_X7_57 (c7_become l dC dI cs ad H.size m_n m_order m_shelf m_opens m_lists m_listed m_work m_counts m_older m_products m_part m_parts m_ways m_used m_greaterNow m_countNow  hq) ⟨⟨rfl, rfl⟩, by decide, by decide⟩ (preW hP hK hN hD) hK hP rfl 0 rfl rfl hl.1 rfl (Nat.le_of_ble_eq_true rfl) dX7_back_29 ⟨(Nat.le_of_ble_eq_true rfl), (Nat.le_of_ble_eq_true rfl)⟩) hD hS hA (fun  m_order_6 H locs hq hP hD hS => ?_)
    have hP : va_P (dC, dI) vwCl (wX7 cs ad m_n m_order_6 m_shelf m_opens m_lists m_listed m_work m_counts m_older m_products m_part m_parts m_ways m_used m_greaterNow m_countNow) H := hP
    have hD : va_D A (wX7 cs ad m_n m_order_6 m_shelf m_opens m_lists m_listed m_work m_counts m_older m_products m_part m_parts m_ways m_used m_greaterNow m_countNow) := hD
    refine lv_iconst (v := (1 : Int32)) hx hb dX7_back_32 (by decide) ?_
    exact W.iret (v := (1 : Int32)) hx hb hr (fun t ht hW => ⟨⟨(1 : Int32), (m_order_6, m_work), rfl, hq, Bw_mk (by rw [ht]; exact hP) (va_K.moved hW.alike hK) hD⟩, hS.F ht⟩) hS.2.2 dX7_back_33
  have B2 : ∀ (k2 : Nat) (x1 : Int32) (m_order : Nat → Int32) (m_work : Nat → Int32) (H : Heap) (locs : List Loc) (ls : Array Slot), q7_back_2 m_n Q k2 x1 m_order m_work → va_P (dC, dI) vwCl (wX7 cs ad m_n m_order m_shelf m_opens m_lists m_listed m_work m_counts m_older m_products m_part m_parts m_ways m_used m_greaterNow m_countNow) H → va_D A (wX7 cs ad m_n m_order m_shelf m_opens m_lists m_listed m_work m_counts m_older m_products m_part m_parts m_ways m_used m_greaterNow m_countNow) → va_S A s.heap H locs → lv_has ls 2 [(0, .ref (ad 0)), (1, .int x1)] → W p l e ({ frames := 1, cells := 0, slots := 0, locals := 21 } : Room) s m ([.ref (ad 0)] : List Value).toArray below meth c H locs 0 0 (MQ below (va_Qi (fun (r : Int32) (u : (Nat → Int32) × (Nat → Int32)) => Q r u.1 u.2) (Bw (dC, dI) (KA cs) A (fun u : (Nat → Int32) × (Nat → Int32) => (wX7 cs ad m_n u.1 m_shelf m_opens m_lists m_listed u.2 m_counts m_older m_products m_part m_parts m_ways m_used m_greaterNow m_countNow))) A) ([.ref (ad 0)] : List Value).toArray s 0 0 A) (F0 m 2 ls []) := by
    intro k2
    induction k2 with
    | zero => intro x1 m_order m_work H locs ls hq; exact False.elim hq
    | succ k2 ih2 =>
      intro x1 m_order m_work H locs ls hq hP hD hS hl
      unfold q7_back_2 at hq
      refine lv_iload_n hx hb dX7_back_2 rfl (lv_at hl 1 rfl) ?_
      refine lv_aload_n hx hb dX7_back_3 rfl (lv_at hl 0 rfl) ?_
      refine va_get (D := (dC, dI)) (ci := 7) (v := .int m_n) (C := RX7) (T := TX7) (N := 16) hx hb hts uwX7 hown hK hP 0 rfl rfl 0 (by decide) (hts _ fl_X7_7) (fun _ h9 => h9) rfl dX7_back_4 ?_
      refine lv_icmp_ge (tgt := 28) hx hb dX7_back_7 (by decide) (fun c8 => ?_) (fun c8 => ?_)
      · have hq := hq.1 c8
        exact B28 m_order m_work _ _ _ hq hP hD hS (lv_sub hl [0] rfl)
      · have hq := hq.2 c8
        refine lv_aload_n hx hb dX7_back_10 rfl (lv_at hl 0 rfl) ?_
        refine va_get (D := (dC, dI)) (ci := 7) (v := .ref (ad 5)) (C := RX7) (T := TX7) (N := 16) hx hb hts uwX7 hown hK hP 0 rfl rfl 6 (by decide) (hts _ fl_X7_29) (fun _ h9 => h9) rfl dX7_back_11 ?_
        refine lv_aload_n hx hb dX7_back_14 rfl (lv_at hl 0 rfl) ?_
        refine va_get (D := (dC, dI)) (ci := 7) (v := .ref (ad 1)) (C := RX7) (T := TX7) (N := 16) hx hb hts uwX7 hown hK hP 0 rfl rfl 1 (by decide) (hts _ fl_X7_13) (fun _ h9 => h9) rfl dX7_back_15 ?_
        refine lv_iload_n hx hb dX7_back_18 rfl (lv_at hl 1 rfl) ?_
        obtain ⟨i9, hq⟩ := hq
        refine va_iald hx hb hK hP 1 0 rfl rfl i9 dX7_back_19 ?_
        refine lv_iload_n hx hb dX7_back_20 rfl (lv_at hl 1 rfl) ?_
        obtain ⟨i10, hq⟩ := hq
        refine va_iast hx hb hK hP hD hS 5 0 rfl rfl i10 dX7_back_21 (fun H locs hP hD hS => ?_)
        have hP : va_P (dC, dI) vwCl (wX7 cs ad m_n m_order m_shelf m_opens m_lists m_listed (upd m_work (m_order x1.toNatClampNeg).toNatClampNeg x1) m_counts m_older m_products m_part m_parts m_ways m_used m_greaterNow m_countNow) H := hP
        have hD : va_D A (wX7 cs ad m_n m_order m_shelf m_opens m_lists m_listed (upd m_work (m_order x1.toNatClampNeg).toNatClampNeg x1) m_counts m_older m_products m_part m_parts m_ways m_used m_greaterNow m_countNow) := hD
        refine lv_iinc (v := (x1 + (1 : Int32))) (lv' := [(1, .int (x1 + (1 : Int32))), (0, .ref (ad 0))]) hx hb dX7_back_22 hl (k := 1) rfl (by rfl) (by decide) rfl (fun ls hl => ?_)
        refine lv_goto (tgt := 2) hx hb dX7_back_25 (by decide) ?_
        exact ih2 (x1 + (1 : Int32)) m_order (upd m_work (m_order x1.toNatClampNeg).toNatClampNeg x1) _ _ _ hq hP hD hS (lv_sub hl [1, 0] rfl)
  unfold q7_back at hq
  refine lv_iconst (v := (0 : Int32)) hx hb dX7_back_0 (by decide) ?_
  refine lv_istore_n (lv' := [(1, .int (0 : Int32)), (0, .ref (ad 0))]) hx hb dX7_back_1 rfl hl (by decide) rfl (fun ls hl => ?_)
  obtain ⟨kf, hq⟩ := hq
  exact B2 kf (0 : Int32) m_order m_work _ _ _ hq hP hD hS (lv_sub hl [1, 0] rfl)
end
