section
-- ===== PART A: goes FIRST, ahead of the names: the tables' words, and 'selects' of the private methods out of them =====
/-- a private method of a class that the tables say can be made, by its rows of tables_1 -/
def lw_okq (q : MethodName × Nat) : Prop := (q.1.cls ≠ "java/lang/invoke/MethodHandle" ∧ q.1.cls ≠ "java/lang/invoke/VarHandle") ∧ Cond.instantiable q.1.cls q.2 ∈ tables_1 ∧ Cond.privateMethod q.1 ∈ tables_1 ∧ Cond.instanceMethod q.1 ∈ tables_1
theorem lw_p0 : lw_okq (⟨"ElbowRanks$Reader", "takeToken", "()V"⟩, 7) := ⟨⟨by decide +kernel, by decide +kernel⟩, List.mem_of_getElem? (i := 22) (by decide +kernel), List.mem_of_getElem? (i := 278) (by decide +kernel), List.mem_of_getElem? (i := 279) (by decide +kernel)⟩
theorem lw_p1 : lw_okq (⟨"ElbowRanks$Reader", "endOfRun", "(III)I"⟩, 7) := ⟨⟨by decide +kernel, by decide +kernel⟩, List.mem_of_getElem? (i := 22) (by decide +kernel), List.mem_of_getElem? (i := 282) (by decide +kernel), List.mem_of_getElem? (i := 283) (by decide +kernel)⟩
theorem lw_p2 : lw_okq (⟨"ElbowRanks$Reader", "takeNumber", "(I)V"⟩, 7) := ⟨⟨by decide +kernel, by decide +kernel⟩, List.mem_of_getElem? (i := 22) (by decide +kernel), List.mem_of_getElem? (i := 286) (by decide +kernel), List.mem_of_getElem? (i := 287) (by decide +kernel)⟩
theorem lw_p3 : lw_okq (⟨"ElbowRanks$Reader", "readItem", "(LElbowRanks$Told;Z)Z"⟩, 7) := ⟨⟨by decide +kernel, by decide +kernel⟩, List.mem_of_getElem? (i := 22) (by decide +kernel), List.mem_of_getElem? (i := 290) (by decide +kernel), List.mem_of_getElem? (i := 291) (by decide +kernel)⟩
theorem lw_p4 : lw_okq (⟨"ElbowRanks$Reader", "readPlaces", "(LElbowRanks$Told;)Z"⟩, 7) := ⟨⟨by decide +kernel, by decide +kernel⟩, List.mem_of_getElem? (i := 22) (by decide +kernel), List.mem_of_getElem? (i := 294) (by decide +kernel), List.mem_of_getElem? (i := 295) (by decide +kernel)⟩
theorem lw_p5 : lw_okq (⟨"ElbowRanks$Reader", "isNumber", "(II)Z"⟩, 7) := ⟨⟨by decide +kernel, by decide +kernel⟩, List.mem_of_getElem? (i := 22) (by decide +kernel), List.mem_of_getElem? (i := 298) (by decide +kernel), List.mem_of_getElem? (i := 299) (by decide +kernel)⟩
theorem lw_p6 : lw_okq (⟨"ElbowRanks$Reader", "readLane", "(LElbowRanks$Told;)Z"⟩, 7) := ⟨⟨by decide +kernel, by decide +kernel⟩, List.mem_of_getElem? (i := 22) (by decide +kernel), List.mem_of_getElem? (i := 302) (by decide +kernel), List.mem_of_getElem? (i := 303) (by decide +kernel)⟩
theorem lw_p7 : lw_okq (⟨"ElbowRanks$Reader", "readPerson", "(LElbowRanks$Told;)Z"⟩, 7) := ⟨⟨by decide +kernel, by decide +kernel⟩, List.mem_of_getElem? (i := 22) (by decide +kernel), List.mem_of_getElem? (i := 310) (by decide +kernel), List.mem_of_getElem? (i := 311) (by decide +kernel)⟩
theorem lw_p8 : lw_okq (⟨"ElbowRanks$Reader", "readBody", "(LElbowRanks$Told;)Z"⟩, 7) := ⟨⟨by decide +kernel, by decide +kernel⟩, List.mem_of_getElem? (i := 22) (by decide +kernel), List.mem_of_getElem? (i := 318) (by decide +kernel), List.mem_of_getElem? (i := 319) (by decide +kernel)⟩
theorem lw_p9 : lw_okq (⟨"ElbowRanks$Reader", "readError", "(LElbowRanks$Told;)Z"⟩, 7) := ⟨⟨by decide +kernel, by decide +kernel⟩, List.mem_of_getElem? (i := 22) (by decide +kernel), List.mem_of_getElem? (i := 322) (by decide +kernel), List.mem_of_getElem? (i := 323) (by decide +kernel)⟩
theorem lw_p10 : lw_okq (⟨"ElbowRanks", "noLane", "(I)Z"⟩, 10) := ⟨⟨by decide +kernel, by decide +kernel⟩, List.mem_of_getElem? (i := 14) (by decide +kernel), List.mem_of_getElem? (i := 338) (by decide +kernel), List.mem_of_getElem? (i := 339) (by decide +kernel)⟩
theorem lw_p11 : lw_okq (⟨"ElbowRanks", "isClosed", "(I)Z"⟩, 10) := ⟨⟨by decide +kernel, by decide +kernel⟩, List.mem_of_getElem? (i := 14) (by decide +kernel), List.mem_of_getElem? (i := 342) (by decide +kernel), List.mem_of_getElem? (i := 343) (by decide +kernel)⟩
theorem lw_p12 : lw_okq (⟨"ElbowRanks", "noPerson", "(I)Z"⟩, 10) := ⟨⟨by decide +kernel, by decide +kernel⟩, List.mem_of_getElem? (i := 14) (by decide +kernel), List.mem_of_getElem? (i := 350) (by decide +kernel), List.mem_of_getElem? (i := 351) (by decide +kernel)⟩
theorem lw_p13 : lw_okq (⟨"ElbowRanks", "wideness", "(I)I"⟩, 10) := ⟨⟨by decide +kernel, by decide +kernel⟩, List.mem_of_getElem? (i := 14) (by decide +kernel), List.mem_of_getElem? (i := 354) (by decide +kernel), List.mem_of_getElem? (i := 355) (by decide +kernel)⟩
theorem lw_p14 : lw_okq (⟨"ElbowRanks", "reach", "(I)I"⟩, 10) := ⟨⟨by decide +kernel, by decide +kernel⟩, List.mem_of_getElem? (i := 14) (by decide +kernel), List.mem_of_getElem? (i := 358) (by decide +kernel), List.mem_of_getElem? (i := 359) (by decide +kernel)⟩
theorem lw_p15 : lw_okq (⟨"ElbowRanks", "passable", "(I)I"⟩, 10) := ⟨⟨by decide +kernel, by decide +kernel⟩, List.mem_of_getElem? (i := 14) (by decide +kernel), List.mem_of_getElem? (i := 362) (by decide +kernel), List.mem_of_getElem? (i := 363) (by decide +kernel)⟩
def lw_privs_1 : List (MethodName × Nat) := [(⟨"ElbowRanks$Reader", "takeToken", "()V"⟩, 7), (⟨"ElbowRanks$Reader", "endOfRun", "(III)I"⟩, 7), (⟨"ElbowRanks$Reader", "takeNumber", "(I)V"⟩, 7), (⟨"ElbowRanks$Reader", "readItem", "(LElbowRanks$Told;Z)Z"⟩, 7), (⟨"ElbowRanks$Reader", "readPlaces", "(LElbowRanks$Told;)Z"⟩, 7), (⟨"ElbowRanks$Reader", "isNumber", "(II)Z"⟩, 7), (⟨"ElbowRanks$Reader", "readLane", "(LElbowRanks$Told;)Z"⟩, 7), (⟨"ElbowRanks$Reader", "readPerson", "(LElbowRanks$Told;)Z"⟩, 7), (⟨"ElbowRanks$Reader", "readBody", "(LElbowRanks$Told;)Z"⟩, 7), (⟨"ElbowRanks$Reader", "readError", "(LElbowRanks$Told;)Z"⟩, 7), (⟨"ElbowRanks", "noLane", "(I)Z"⟩, 10), (⟨"ElbowRanks", "isClosed", "(I)Z"⟩, 10), (⟨"ElbowRanks", "noPerson", "(I)Z"⟩, 10), (⟨"ElbowRanks", "wideness", "(I)I"⟩, 10), (⟨"ElbowRanks", "reach", "(I)I"⟩, 10), (⟨"ElbowRanks", "passable", "(I)I"⟩, 10)]
theorem lw_r1 : ∀ q ∈ lw_privs_1, lw_okq q := List.forall_mem_cons.mpr ⟨lw_p0, List.forall_mem_cons.mpr ⟨lw_p1, List.forall_mem_cons.mpr ⟨lw_p2, List.forall_mem_cons.mpr ⟨lw_p3, List.forall_mem_cons.mpr ⟨lw_p4, List.forall_mem_cons.mpr ⟨lw_p5, List.forall_mem_cons.mpr ⟨lw_p6, List.forall_mem_cons.mpr ⟨lw_p7, List.forall_mem_cons.mpr ⟨lw_p8, List.forall_mem_cons.mpr ⟨lw_p9, List.forall_mem_cons.mpr ⟨lw_p10, List.forall_mem_cons.mpr ⟨lw_p11, List.forall_mem_cons.mpr ⟨lw_p12, List.forall_mem_cons.mpr ⟨lw_p13, List.forall_mem_cons.mpr ⟨lw_p14, List.forall_mem_cons.mpr ⟨lw_p15, fun _ h => absurd h List.not_mem_nil⟩⟩⟩⟩⟩⟩⟩⟩⟩⟩⟩⟩⟩⟩⟩⟩
theorem lw_p16 : lw_okq (⟨"ElbowRanks", "openLanes", "()I"⟩, 10) := ⟨⟨by decide +kernel, by decide +kernel⟩, List.mem_of_getElem? (i := 14) (by decide +kernel), List.mem_of_getElem? (i := 366) (by decide +kernel), List.mem_of_getElem? (i := 367) (by decide +kernel)⟩
theorem lw_p17 : lw_okq (⟨"ElbowRanks", "isTooNarrow", "(II)Z"⟩, 10) := ⟨⟨by decide +kernel, by decide +kernel⟩, List.mem_of_getElem? (i := 14) (by decide +kernel), List.mem_of_getElem? (i := 370) (by decide +kernel), List.mem_of_getElem? (i := 371) (by decide +kernel)⟩
theorem lw_p18 : lw_okq (⟨"ElbowRanks", "isAtEnd", "(II)Z"⟩, 10) := ⟨⟨by decide +kernel, by decide +kernel⟩, List.mem_of_getElem? (i := 14) (by decide +kernel), List.mem_of_getElem? (i := 386) (by decide +kernel), List.mem_of_getElem? (i := 387) (by decide +kernel)⟩
theorem lw_p19 : lw_okq (⟨"ElbowRanks$Course", "loseOldest", "()V"⟩, 3) := ⟨⟨by decide +kernel, by decide +kernel⟩, List.mem_of_getElem? (i := 126) (by decide +kernel), List.mem_of_getElem? (i := 394) (by decide +kernel), List.mem_of_getElem? (i := 395) (by decide +kernel)⟩
theorem lw_p20 : lw_okq (⟨"ElbowRanks", "cross", "(II)V"⟩, 10) := ⟨⟨by decide +kernel, by decide +kernel⟩, List.mem_of_getElem? (i := 14) (by decide +kernel), List.mem_of_getElem? (i := 402) (by decide +kernel), List.mem_of_getElem? (i := 403) (by decide +kernel)⟩
theorem lw_p21 : lw_okq (⟨"ElbowRanks", "outcome", "(III)I"⟩, 10) := ⟨⟨by decide +kernel, by decide +kernel⟩, List.mem_of_getElem? (i := 14) (by decide +kernel), List.mem_of_getElem? (i := 410) (by decide +kernel), List.mem_of_getElem? (i := 411) (by decide +kernel)⟩
theorem lw_p22 : lw_okq (⟨"ElbowRanks", "areAtBothEnds", "(III)Z"⟩, 10) := ⟨⟨by decide +kernel, by decide +kernel⟩, List.mem_of_getElem? (i := 14) (by decide +kernel), List.mem_of_getElem? (i := 414) (by decide +kernel), List.mem_of_getElem? (i := 415) (by decide +kernel)⟩
theorem lw_p23 : lw_okq (⟨"ElbowRanks", "moveOrYield", "(IIZ)V"⟩, 10) := ⟨⟨by decide +kernel, by decide +kernel⟩, List.mem_of_getElem? (i := 14) (by decide +kernel), List.mem_of_getElem? (i := 422) (by decide +kernel), List.mem_of_getElem? (i := 423) (by decide +kernel)⟩
theorem lw_p24 : lw_okq (⟨"ElbowRanks", "closedLanes", "()I"⟩, 10) := ⟨⟨by decide +kernel, by decide +kernel⟩, List.mem_of_getElem? (i := 14) (by decide +kernel), List.mem_of_getElem? (i := 442) (by decide +kernel), List.mem_of_getElem? (i := 443) (by decide +kernel)⟩
theorem lw_p25 : lw_okq (⟨"ElbowRanks", "sum", "([I)I"⟩, 10) := ⟨⟨by decide +kernel, by decide +kernel⟩, List.mem_of_getElem? (i := 14) (by decide +kernel), List.mem_of_getElem? (i := 464) (by decide +kernel), List.mem_of_getElem? (i := 465) (by decide +kernel)⟩
theorem lw_p26 : lw_okq (⟨"ElbowRanks", "padded", "()I"⟩, 10) := ⟨⟨by decide +kernel, by decide +kernel⟩, List.mem_of_getElem? (i := 14) (by decide +kernel), List.mem_of_getElem? (i := 468) (by decide +kernel), List.mem_of_getElem? (i := 469) (by decide +kernel)⟩
theorem lw_p27 : lw_okq (⟨"ElbowRanks", "fitting", "(I)I"⟩, 10) := ⟨⟨by decide +kernel, by decide +kernel⟩, List.mem_of_getElem? (i := 14) (by decide +kernel), List.mem_of_getElem? (i := 472) (by decide +kernel), List.mem_of_getElem? (i := 473) (by decide +kernel)⟩
theorem lw_p28 : lw_okq (⟨"ElbowRanks", "noPlace", "(I)Z"⟩, 10) := ⟨⟨by decide +kernel, by decide +kernel⟩, List.mem_of_getElem? (i := 14) (by decide +kernel), List.mem_of_getElem? (i := 487) (by decide +kernel), List.mem_of_getElem? (i := 488) (by decide +kernel)⟩
theorem lw_p29 : lw_okq (⟨"ElbowRanks$Distances", "measure", "(LElbowRanks$Told;I)V"⟩, 2) := ⟨⟨by decide +kernel, by decide +kernel⟩, List.mem_of_getElem? (i := 187) (by decide +kernel), List.mem_of_getElem? (i := 496) (by decide +kernel), List.mem_of_getElem? (i := 497) (by decide +kernel)⟩
theorem lw_p30 : lw_okq (⟨"ElbowRanks$Distances", "firstLaneNearer", "(LElbowRanks$Told;I)I"⟩, 2) := ⟨⟨by decide +kernel, by decide +kernel⟩, List.mem_of_getElem? (i := 187) (by decide +kernel), List.mem_of_getElem? (i := 511) (by decide +kernel), List.mem_of_getElem? (i := 512) (by decide +kernel)⟩
theorem lw_p31 : lw_okq (⟨"ElbowRanks", "favourable", "(IIII)I"⟩, 10) := ⟨⟨by decide +kernel, by decide +kernel⟩, List.mem_of_getElem? (i := 14) (by decide +kernel), List.mem_of_getElem? (i := 539) (by decide +kernel), List.mem_of_getElem? (i := 540) (by decide +kernel)⟩
def lw_privs_2 : List (MethodName × Nat) := [(⟨"ElbowRanks", "openLanes", "()I"⟩, 10), (⟨"ElbowRanks", "isTooNarrow", "(II)Z"⟩, 10), (⟨"ElbowRanks", "isAtEnd", "(II)Z"⟩, 10), (⟨"ElbowRanks$Course", "loseOldest", "()V"⟩, 3), (⟨"ElbowRanks", "cross", "(II)V"⟩, 10), (⟨"ElbowRanks", "outcome", "(III)I"⟩, 10), (⟨"ElbowRanks", "areAtBothEnds", "(III)Z"⟩, 10), (⟨"ElbowRanks", "moveOrYield", "(IIZ)V"⟩, 10), (⟨"ElbowRanks", "closedLanes", "()I"⟩, 10), (⟨"ElbowRanks", "sum", "([I)I"⟩, 10), (⟨"ElbowRanks", "padded", "()I"⟩, 10), (⟨"ElbowRanks", "fitting", "(I)I"⟩, 10), (⟨"ElbowRanks", "noPlace", "(I)Z"⟩, 10), (⟨"ElbowRanks$Distances", "measure", "(LElbowRanks$Told;I)V"⟩, 2), (⟨"ElbowRanks$Distances", "firstLaneNearer", "(LElbowRanks$Told;I)I"⟩, 2), (⟨"ElbowRanks", "favourable", "(IIII)I"⟩, 10)]
theorem lw_r2 : ∀ q ∈ lw_privs_2, lw_okq q := List.forall_mem_cons.mpr ⟨lw_p16, List.forall_mem_cons.mpr ⟨lw_p17, List.forall_mem_cons.mpr ⟨lw_p18, List.forall_mem_cons.mpr ⟨lw_p19, List.forall_mem_cons.mpr ⟨lw_p20, List.forall_mem_cons.mpr ⟨lw_p21, List.forall_mem_cons.mpr ⟨lw_p22, List.forall_mem_cons.mpr ⟨lw_p23, List.forall_mem_cons.mpr ⟨lw_p24, List.forall_mem_cons.mpr ⟨lw_p25, List.forall_mem_cons.mpr ⟨lw_p26, List.forall_mem_cons.mpr ⟨lw_p27, List.forall_mem_cons.mpr ⟨lw_p28, List.forall_mem_cons.mpr ⟨lw_p29, List.forall_mem_cons.mpr ⟨lw_p30, List.forall_mem_cons.mpr ⟨lw_p31, fun _ h => absurd h List.not_mem_nil⟩⟩⟩⟩⟩⟩⟩⟩⟩⟩⟩⟩⟩⟩⟩⟩
theorem lw_p32 : lw_okq (⟨"ElbowRanks", "widenessWithout", "(I)I"⟩, 10) := ⟨⟨by decide +kernel, by decide +kernel⟩, List.mem_of_getElem? (i := 14) (by decide +kernel), List.mem_of_getElem? (i := 575) (by decide +kernel), List.mem_of_getElem? (i := 576) (by decide +kernel)⟩
theorem lw_p33 : lw_okq (⟨"ElbowRanks", "peopleAhead", "(I)I"⟩, 10) := ⟨⟨by decide +kernel, by decide +kernel⟩, List.mem_of_getElem? (i := 14) (by decide +kernel), List.mem_of_getElem? (i := 583) (by decide +kernel), List.mem_of_getElem? (i := 584) (by decide +kernel)⟩
theorem lw_p34 : lw_okq (⟨"ElbowRanks", "markPerson", "(I)I"⟩, 10) := ⟨⟨by decide +kernel, by decide +kernel⟩, List.mem_of_getElem? (i := 14) (by decide +kernel), List.mem_of_getElem? (i := 608) (by decide +kernel), List.mem_of_getElem? (i := 609) (by decide +kernel)⟩
theorem lw_p35 : lw_okq (⟨"ElbowRanks", "markEarl", "(I)I"⟩, 10) := ⟨⟨by decide +kernel, by decide +kernel⟩, List.mem_of_getElem? (i := 14) (by decide +kernel), List.mem_of_getElem? (i := 612) (by decide +kernel), List.mem_of_getElem? (i := 613) (by decide +kernel)⟩
theorem lw_p36 : lw_okq (⟨"ElbowRanks", "markPage", "(I)I"⟩, 10) := ⟨⟨by decide +kernel, by decide +kernel⟩, List.mem_of_getElem? (i := 14) (by decide +kernel), List.mem_of_getElem? (i := 617) (by decide +kernel), List.mem_of_getElem? (i := 618) (by decide +kernel)⟩
theorem lw_p37 : lw_okq (⟨"ElbowRanks", "markBride", "(I)I"⟩, 10) := ⟨⟨by decide +kernel, by decide +kernel⟩, List.mem_of_getElem? (i := 14) (by decide +kernel), List.mem_of_getElem? (i := 622) (by decide +kernel), List.mem_of_getElem? (i := 623) (by decide +kernel)⟩
theorem lw_p38 : lw_okq (⟨"ElbowRanks", "markTailor", "(I)I"⟩, 10) := ⟨⟨by decide +kernel, by decide +kernel⟩, List.mem_of_getElem? (i := 14) (by decide +kernel), List.mem_of_getElem? (i := 627) (by decide +kernel), List.mem_of_getElem? (i := 628) (by decide +kernel)⟩
theorem lw_p39 : lw_okq (⟨"ElbowRanks", "markThief", "(I)I"⟩, 10) := ⟨⟨by decide +kernel, by decide +kernel⟩, List.mem_of_getElem? (i := 14) (by decide +kernel), List.mem_of_getElem? (i := 632) (by decide +kernel), List.mem_of_getElem? (i := 633) (by decide +kernel)⟩
theorem lw_p40 : lw_okq (⟨"ElbowRanksModel", "plain", "()V"⟩, 27) := ⟨⟨by decide +kernel, by decide +kernel⟩, List.mem_of_getElem? (i := 657) (by decide +kernel), List.mem_of_getElem? (i := 663) (by decide +kernel), List.mem_of_getElem? (i := 664) (by decide +kernel)⟩
theorem lw_p41 : lw_okq (⟨"ElbowRanksModel", "takeDraft", "()V"⟩, 27) := ⟨⟨by decide +kernel, by decide +kernel⟩, List.mem_of_getElem? (i := 657) (by decide +kernel), List.mem_of_getElem? (i := 667) (by decide +kernel), List.mem_of_getElem? (i := 668) (by decide +kernel)⟩
theorem lw_p42 : lw_okq (⟨"ElbowRanksModel", "step", "()V"⟩, 27) := ⟨⟨by decide +kernel, by decide +kernel⟩, List.mem_of_getElem? (i := 657) (by decide +kernel), List.mem_of_getElem? (i := 769) (by decide +kernel), List.mem_of_getElem? (i := 770) (by decide +kernel)⟩
theorem lw_p43 : lw_okq (⟨"ElbowRanksModel", "here", "()I"⟩, 27) := ⟨⟨by decide +kernel, by decide +kernel⟩, List.mem_of_getElem? (i := 657) (by decide +kernel), List.mem_of_getElem? (i := 773) (by decide +kernel), List.mem_of_getElem? (i := 774) (by decide +kernel)⟩
theorem lw_p44 : lw_okq (⟨"ElbowRanksModel", "mayBe", "(II)Z"⟩, 27) := ⟨⟨by decide +kernel, by decide +kernel⟩, List.mem_of_getElem? (i := 657) (by decide +kernel), List.mem_of_getElem? (i := 777) (by decide +kernel), List.mem_of_getElem? (i := 778) (by decide +kernel)⟩
theorem lw_p45 : lw_okq (⟨"ElbowRanksModel", "due", "(Z)I"⟩, 27) := ⟨⟨by decide +kernel, by decide +kernel⟩, List.mem_of_getElem? (i := 657) (by decide +kernel), List.mem_of_getElem? (i := 781) (by decide +kernel), List.mem_of_getElem? (i := 782) (by decide +kernel)⟩
theorem lw_p46 : lw_okq (⟨"ElbowRanksModel", "readRow", "(I)V"⟩, 27) := ⟨⟨by decide +kernel, by decide +kernel⟩, List.mem_of_getElem? (i := 657) (by decide +kernel), List.mem_of_getElem? (i := 785) (by decide +kernel), List.mem_of_getElem? (i := 786) (by decide +kernel)⟩
theorem lw_p47 : lw_okq (⟨"ElbowRanksModel", "number", "(II)I"⟩, 27) := ⟨⟨by decide +kernel, by decide +kernel⟩, List.mem_of_getElem? (i := 657) (by decide +kernel), List.mem_of_getElem? (i := 789) (by decide +kernel), List.mem_of_getElem? (i := 790) (by decide +kernel)⟩
def lw_privs_3 : List (MethodName × Nat) := [(⟨"ElbowRanks", "widenessWithout", "(I)I"⟩, 10), (⟨"ElbowRanks", "peopleAhead", "(I)I"⟩, 10), (⟨"ElbowRanks", "markPerson", "(I)I"⟩, 10), (⟨"ElbowRanks", "markEarl", "(I)I"⟩, 10), (⟨"ElbowRanks", "markPage", "(I)I"⟩, 10), (⟨"ElbowRanks", "markBride", "(I)I"⟩, 10), (⟨"ElbowRanks", "markTailor", "(I)I"⟩, 10), (⟨"ElbowRanks", "markThief", "(I)I"⟩, 10), (⟨"ElbowRanksModel", "plain", "()V"⟩, 27), (⟨"ElbowRanksModel", "takeDraft", "()V"⟩, 27), (⟨"ElbowRanksModel", "step", "()V"⟩, 27), (⟨"ElbowRanksModel", "here", "()I"⟩, 27), (⟨"ElbowRanksModel", "mayBe", "(II)Z"⟩, 27), (⟨"ElbowRanksModel", "due", "(Z)I"⟩, 27), (⟨"ElbowRanksModel", "readRow", "(I)V"⟩, 27), (⟨"ElbowRanksModel", "number", "(II)I"⟩, 27)]
theorem lw_r3 : ∀ q ∈ lw_privs_3, lw_okq q := List.forall_mem_cons.mpr ⟨lw_p32, List.forall_mem_cons.mpr ⟨lw_p33, List.forall_mem_cons.mpr ⟨lw_p34, List.forall_mem_cons.mpr ⟨lw_p35, List.forall_mem_cons.mpr ⟨lw_p36, List.forall_mem_cons.mpr ⟨lw_p37, List.forall_mem_cons.mpr ⟨lw_p38, List.forall_mem_cons.mpr ⟨lw_p39, List.forall_mem_cons.mpr ⟨lw_p40, List.forall_mem_cons.mpr ⟨lw_p41, List.forall_mem_cons.mpr ⟨lw_p42, List.forall_mem_cons.mpr ⟨lw_p43, List.forall_mem_cons.mpr ⟨lw_p44, List.forall_mem_cons.mpr ⟨lw_p45, List.forall_mem_cons.mpr ⟨lw_p46, List.forall_mem_cons.mpr ⟨lw_p47, fun _ h => absurd h List.not_mem_nil⟩⟩⟩⟩⟩⟩⟩⟩⟩⟩⟩⟩⟩⟩⟩⟩
theorem lw_p48 : lw_okq (⟨"ElbowRanksModel", "isLane", "(I)Z"⟩, 27) := ⟨⟨by decide +kernel, by decide +kernel⟩, List.mem_of_getElem? (i := 657) (by decide +kernel), List.mem_of_getElem? (i := 797) (by decide +kernel), List.mem_of_getElem? (i := 798) (by decide +kernel)⟩
theorem lw_p49 : lw_okq (⟨"ElbowRanksModel", "isClosed", "(I)Z"⟩, 27) := ⟨⟨by decide +kernel, by decide +kernel⟩, List.mem_of_getElem? (i := 657) (by decide +kernel), List.mem_of_getElem? (i := 801) (by decide +kernel), List.mem_of_getElem? (i := 802) (by decide +kernel)⟩
theorem lw_p50 : lw_okq (⟨"ElbowRanksModel", "isPerson", "(I)Z"⟩, 27) := ⟨⟨by decide +kernel, by decide +kernel⟩, List.mem_of_getElem? (i := 657) (by decide +kernel), List.mem_of_getElem? (i := 809) (by decide +kernel), List.mem_of_getElem? (i := 810) (by decide +kernel)⟩
theorem lw_p51 : lw_okq (⟨"ElbowRanksModel", "wide", "(I)I"⟩, 27) := ⟨⟨by decide +kernel, by decide +kernel⟩, List.mem_of_getElem? (i := 657) (by decide +kernel), List.mem_of_getElem? (i := 813) (by decide +kernel), List.mem_of_getElem? (i := 814) (by decide +kernel)⟩
theorem lw_p52 : lw_okq (⟨"ElbowRanksModel", "reach", "(II)I"⟩, 27) := ⟨⟨by decide +kernel, by decide +kernel⟩, List.mem_of_getElem? (i := 657) (by decide +kernel), List.mem_of_getElem? (i := 817) (by decide +kernel), List.mem_of_getElem? (i := 818) (by decide +kernel)⟩
theorem lw_p53 : lw_okq (⟨"ElbowRanksModel", "canGo", "(III)Z"⟩, 27) := ⟨⟨by decide +kernel, by decide +kernel⟩, List.mem_of_getElem? (i := 657) (by decide +kernel), List.mem_of_getElem? (i := 821) (by decide +kernel), List.mem_of_getElem? (i := 822) (by decide +kernel)⟩
theorem lw_p54 : lw_okq (⟨"ElbowRanksModel", "ends", "(II)Z"⟩, 27) := ⟨⟨by decide +kernel, by decide +kernel⟩, List.mem_of_getElem? (i := 657) (by decide +kernel), List.mem_of_getElem? (i := 829) (by decide +kernel), List.mem_of_getElem? (i := 830) (by decide +kernel)⟩
theorem lw_p55 : lw_okq (⟨"ElbowRanksModel", "know", "()V"⟩, 27) := ⟨⟨by decide +kernel, by decide +kernel⟩, List.mem_of_getElem? (i := 657) (by decide +kernel), List.mem_of_getElem? (i := 833) (by decide +kernel), List.mem_of_getElem? (i := 834) (by decide +kernel)⟩
theorem lw_p56 : lw_okq (⟨"ElbowRanksModel", "other", "(II)I"⟩, 27) := ⟨⟨by decide +kernel, by decide +kernel⟩, List.mem_of_getElem? (i := 657) (by decide +kernel), List.mem_of_getElem? (i := 837) (by decide +kernel), List.mem_of_getElem? (i := 838) (by decide +kernel)⟩
theorem lw_p57 : lw_okq (⟨"ElbowRanksModel", "outcome", "(III)I"⟩, 27) := ⟨⟨by decide +kernel, by decide +kernel⟩, List.mem_of_getElem? (i := 657) (by decide +kernel), List.mem_of_getElem? (i := 845) (by decide +kernel), List.mem_of_getElem? (i := 846) (by decide +kernel)⟩
theorem lw_p58 : lw_okq (⟨"ElbowRanksModel", "fitsOf", "(I)I"⟩, 27) := ⟨⟨by decide +kernel, by decide +kernel⟩, List.mem_of_getElem? (i := 657) (by decide +kernel), List.mem_of_getElem? (i := 872) (by decide +kernel), List.mem_of_getElem? (i := 873) (by decide +kernel)⟩
theorem lw_p59 : lw_okq (⟨"ElbowRanksModel", "isPlace", "(I)Z"⟩, 27) := ⟨⟨by decide +kernel, by decide +kernel⟩, List.mem_of_getElem? (i := 657) (by decide +kernel), List.mem_of_getElem? (i := 880) (by decide +kernel), List.mem_of_getElem? (i := 881) (by decide +kernel)⟩
theorem lw_p60 : lw_okq (⟨"ElbowRanksModel", "measure", "(IIZ)V"⟩, 27) := ⟨⟨by decide +kernel, by decide +kernel⟩, List.mem_of_getElem? (i := 657) (by decide +kernel), List.mem_of_getElem? (i := 884) (by decide +kernel), List.mem_of_getElem? (i := 885) (by decide +kernel)⟩
theorem lw_p61 : lw_okq (⟨"ElbowRanksModel", "costOf", "(IIZ)I"⟩, 27) := ⟨⟨by decide +kernel, by decide +kernel⟩, List.mem_of_getElem? (i := 657) (by decide +kernel), List.mem_of_getElem? (i := 889) (by decide +kernel), List.mem_of_getElem? (i := 890) (by decide +kernel)⟩
theorem lw_p62 : lw_okq (⟨"ElbowRanksModel", "reaches", "(III)Z"⟩, 27) := ⟨⟨by decide +kernel, by decide +kernel⟩, List.mem_of_getElem? (i := 657) (by decide +kernel), List.mem_of_getElem? (i := 901) (by decide +kernel), List.mem_of_getElem? (i := 902) (by decide +kernel)⟩
theorem lw_p63 : lw_okq (⟨"ElbowRanksModel", "rowsOf", "(II)I"⟩, 27) := ⟨⟨by decide +kernel, by decide +kernel⟩, List.mem_of_getElem? (i := 657) (by decide +kernel), List.mem_of_getElem? (i := 917) (by decide +kernel), List.mem_of_getElem? (i := 918) (by decide +kernel)⟩
def lw_privs_4 : List (MethodName × Nat) := [(⟨"ElbowRanksModel", "isLane", "(I)Z"⟩, 27), (⟨"ElbowRanksModel", "isClosed", "(I)Z"⟩, 27), (⟨"ElbowRanksModel", "isPerson", "(I)Z"⟩, 27), (⟨"ElbowRanksModel", "wide", "(I)I"⟩, 27), (⟨"ElbowRanksModel", "reach", "(II)I"⟩, 27), (⟨"ElbowRanksModel", "canGo", "(III)Z"⟩, 27), (⟨"ElbowRanksModel", "ends", "(II)Z"⟩, 27), (⟨"ElbowRanksModel", "know", "()V"⟩, 27), (⟨"ElbowRanksModel", "other", "(II)I"⟩, 27), (⟨"ElbowRanksModel", "outcome", "(III)I"⟩, 27), (⟨"ElbowRanksModel", "fitsOf", "(I)I"⟩, 27), (⟨"ElbowRanksModel", "isPlace", "(I)Z"⟩, 27), (⟨"ElbowRanksModel", "measure", "(IIZ)V"⟩, 27), (⟨"ElbowRanksModel", "costOf", "(IIZ)I"⟩, 27), (⟨"ElbowRanksModel", "reaches", "(III)Z"⟩, 27), (⟨"ElbowRanksModel", "rowsOf", "(II)I"⟩, 27)]
theorem lw_r4 : ∀ q ∈ lw_privs_4, lw_okq q := List.forall_mem_cons.mpr ⟨lw_p48, List.forall_mem_cons.mpr ⟨lw_p49, List.forall_mem_cons.mpr ⟨lw_p50, List.forall_mem_cons.mpr ⟨lw_p51, List.forall_mem_cons.mpr ⟨lw_p52, List.forall_mem_cons.mpr ⟨lw_p53, List.forall_mem_cons.mpr ⟨lw_p54, List.forall_mem_cons.mpr ⟨lw_p55, List.forall_mem_cons.mpr ⟨lw_p56, List.forall_mem_cons.mpr ⟨lw_p57, List.forall_mem_cons.mpr ⟨lw_p58, List.forall_mem_cons.mpr ⟨lw_p59, List.forall_mem_cons.mpr ⟨lw_p60, List.forall_mem_cons.mpr ⟨lw_p61, List.forall_mem_cons.mpr ⟨lw_p62, List.forall_mem_cons.mpr ⟨lw_p63, fun _ h => absurd h List.not_mem_nil⟩⟩⟩⟩⟩⟩⟩⟩⟩⟩⟩⟩⟩⟩⟩⟩
def lw_privs : List (MethodName × Nat) := lw_privs_1 ++ (lw_privs_2 ++ (lw_privs_3 ++ (lw_privs_4)))
def lw_tbl : List Cond := k2_sels lw_privs ++ tables_1
theorem lw_privs_ok : ∀ q ∈ lw_privs, lw_okq q := by
  show ∀ q ∈ lw_privs_1 ++ (lw_privs_2 ++ (lw_privs_3 ++ (lw_privs_4))), lw_okq q
  exact List.forall_mem_append.mpr ⟨lw_r1, List.forall_mem_append.mpr ⟨lw_r2, List.forall_mem_append.mpr ⟨lw_r3, lw_r4⟩⟩⟩
end
section
def RX0 : String := "ElbowRanks$Course"
def TX0 : u_T := fun k => match k with
  | 0 => ("ElbowRanks$Course", "now", "LElbowRanks$Moment;", true)
  | 1 => ("ElbowRanks$Course", "past", "[LElbowRanks$Moment;", true)
  | _ => ("ElbowRanks$Course", "known", "I", false)
def tyX0 : Nat → FieldType := fun k => match k with
  | 0 => .object "ElbowRanks$Moment"
  | 1 => .array (.object "ElbowRanks$Moment")
  | _ => .int
abbrev wsX00 : List Cond := u_ws RX0 TX0 3
theorem nmX0 : ∀ a, a < 3 → ∀ b, b < 3 → a ≠ b → (TX0 a).2.1 ≠ (TX0 b).2.1 := by decide +kernel
theorem tyX0_ok : ∀ k, k < 3 → parseFieldDescriptor (TX0 k).2.2.1 = some (tyX0 k) := by decide +kernel
abbrev cX0_init : ByteArray := prog_2_method_1_code
def yX0_init : MethodName := ⟨RX0, "<init>", "()V"⟩
abbrev cX0_begin : ByteArray := prog_2_method_2_code
def yX0_begin : MethodName := ⟨RX0, "begin", "(LElbowRanks$Told;)V"⟩
abbrev cX0_remember : ByteArray := prog_2_method_3_code
def yX0_remember : MethodName := ⟨RX0, "remember", "()V"⟩
abbrev cX0_loseOldest : ByteArray := prog_2_method_4_code
def yX0_loseOldest : MethodName := ⟨RX0, "loseOldest", "()V"⟩
abbrev cX0_stepBack : ByteArray := prog_2_method_5_code
def yX0_stepBack : MethodName := ⟨RX0, "stepBack", "()Z"⟩
abbrev cX0_copy : ByteArray := prog_2_method_6_code
def yX0_copy : MethodName := ⟨RX0, "copy", "(LElbowRanks$Course;)V"⟩
def RX1 : String := "ElbowRanks$Distances"
def TX1 : u_T := fun k => match k with
  | 0 => ("ElbowRanks$Distances", "cost", "[I", true)
  | _ => ("ElbowRanks$Distances", "distance", "[I", true)
def tyX1 : Nat → FieldType := fun k => match k with
  | 0 => .array .int
  | _ => .array .int
abbrev wsX10 : List Cond := u_ws RX1 TX1 2
theorem nmX1 : ∀ a, a < 2 → ∀ b, b < 2 → a ≠ b → (TX1 a).2.1 ≠ (TX1 b).2.1 := by decide +kernel
theorem tyX1_ok : ∀ k, k < 2 → parseFieldDescriptor (TX1 k).2.2.1 = some (tyX1 k) := by decide +kernel
abbrev cX1_init : ByteArray := prog_3_method_1_code
def yX1_init : MethodName := ⟨RX1, "<init>", "()V"⟩
abbrev cX1_countLanes : ByteArray := prog_3_method_2_code
def yX1_countLanes : MethodName := ⟨RX1, "countLanes", "(LElbowRanks$Told;II)V"⟩
abbrev cX1_addLacks : ByteArray := prog_3_method_3_code
def yX1_addLacks : MethodName := ⟨RX1, "addLacks", "(LElbowRanks$Told;III)V"⟩
abbrev cX1_measure : ByteArray := prog_3_method_4_code
def yX1_measure : MethodName := ⟨RX1, "measure", "(LElbowRanks$Told;I)V"⟩
abbrev cX1_from : ByteArray := prog_3_method_5_code
def yX1_from : MethodName := ⟨RX1, "from", "(I)I"⟩
abbrev cX1_laneOfWay : ByteArray := prog_3_method_6_code
def yX1_laneOfWay : MethodName := ⟨RX1, "laneOfWay", "(LElbowRanks$Told;II)I"⟩
abbrev cX1_firstLaneNearer : ByteArray := prog_3_method_7_code
def yX1_firstLaneNearer : MethodName := ⟨RX1, "firstLaneNearer", "(LElbowRanks$Told;I)I"⟩
def RX2 : String := "ElbowRanks$Gates"
def TX2 : u_T := fun k => match k with
  | 0 => ("ElbowRanks$Gates", "who", "[I", true)
  | 1 => ("ElbowRanks$Gates", "inches", "[I", true)
  | _ => ("ElbowRanks$Gates", "count", "I", false)
def tyX2 : Nat → FieldType := fun k => match k with
  | 0 => .array .int
  | 1 => .array .int
  | _ => .int
abbrev wsX20 : List Cond := u_ws RX2 TX2 3
theorem nmX2 : ∀ a, a < 3 → ∀ b, b < 3 → a ≠ b → (TX2 a).2.1 ≠ (TX2 b).2.1 := by decide +kernel
theorem tyX2_ok : ∀ k, k < 3 → parseFieldDescriptor (TX2 k).2.2.1 = some (tyX2 k) := by decide +kernel
abbrev cX2_init : ByteArray := prog_4_method_1_code
def yX2_init : MethodName := ⟨RX2, "<init>", "()V"⟩
abbrev cX2_add : ByteArray := prog_4_method_2_code
def yX2_add : MethodName := ⟨RX2, "add", "(II)Z"⟩
abbrev cX2_allow : ByteArray := prog_4_method_3_code
def yX2_allow : MethodName := ⟨RX2, "allow", "(III)Z"⟩
def RX3 : String := "ElbowRanks$Moment"
def TX3 : u_T := fun k => match k with
  | 0 => ("ElbowRanks$Moment", "elbow", "[I", true)
  | 1 => ("ElbowRanks$Moment", "at", "[I", true)
  | 2 => ("ElbowRanks$Moment", "gaveWay", "[I", true)
  | _ => ("ElbowRanks$Moment", "closed", "I", false)
def tyX3 : Nat → FieldType := fun k => match k with
  | 0 => .array .int
  | 1 => .array .int
  | 2 => .array .int
  | _ => .int
abbrev wsX30 : List Cond := u_ws RX3 TX3 4
theorem nmX3 : ∀ a, a < 4 → ∀ b, b < 4 → a ≠ b → (TX3 a).2.1 ≠ (TX3 b).2.1 := by decide +kernel
theorem tyX3_ok : ∀ k, k < 4 → parseFieldDescriptor (TX3 k).2.2.1 = some (tyX3 k) := by decide +kernel
abbrev cX3_init : ByteArray := prog_5_method_1_code
def yX3_init : MethodName := ⟨RX3, "<init>", "()V"⟩
abbrev cX3_begin : ByteArray := prog_5_method_2_code
def yX3_begin : MethodName := ⟨RX3, "begin", "(LElbowRanks$Told;)V"⟩
abbrev cX3_copy : ByteArray := prog_5_method_3_code
def yX3_copy : MethodName := ⟨RX3, "copy", "(LElbowRanks$Moment;)V"⟩
abbrev cX3_close : ByteArray := prog_5_method_4_code
def yX3_close : MethodName := ⟨RX3, "close", "(I)V"⟩
abbrev cX3_open : ByteArray := prog_5_method_5_code
def yX3_open : MethodName := ⟨RX3, "open", "(I)V"⟩
def RX4 : String := "ElbowRanks$Reader"
def TX4 : u_T := fun k => match k with
  | 0 => ("ElbowRanks$Reader", "text", "LElbowRanks$Text;", true)
  | 1 => ("ElbowRanks$Reader", "next", "I", false)
  | 2 => ("ElbowRanks$Reader", "start", "I", false)
  | 3 => ("ElbowRanks$Reader", "sort", "I", false)
  | 4 => ("ElbowRanks$Reader", "value", "I", false)
  | 5 => ("ElbowRanks$Reader", "bodyIsTold", "Z", false)
  | _ => ("ElbowRanks$Reader", "errorIsTold", "Z", false)
def tyX4 : Nat → FieldType := fun k => match k with
  | 0 => .object "ElbowRanks$Text"
  | 1 => .int
  | 2 => .int
  | 3 => .int
  | 4 => .int
  | 5 => .boolean
  | _ => .boolean
abbrev wsX40 : List Cond := u_ws RX4 TX4 7
theorem nmX4 : ∀ a, a < 7 → ∀ b, b < 7 → a ≠ b → (TX4 a).2.1 ≠ (TX4 b).2.1 := by decide +kernel
theorem tyX4_ok : ∀ k, k < 7 → parseFieldDescriptor (TX4 k).2.2.1 = some (tyX4 k) := by decide +kernel
abbrev cX4_init : ByteArray := prog_6_method_1_code
def yX4_init : MethodName := ⟨RX4, "<init>", "()V"⟩
abbrev cX4_read : ByteArray := prog_6_method_2_code
def yX4_read : MethodName := ⟨RX4, "read", "(LElbowRanks$Told;)I"⟩
abbrev cX4_readItem : ByteArray := prog_6_method_3_code
def yX4_readItem : MethodName := ⟨RX4, "readItem", "(LElbowRanks$Told;Z)Z"⟩
abbrev cX4_readPlaces : ByteArray := prog_6_method_4_code
def yX4_readPlaces : MethodName := ⟨RX4, "readPlaces", "(LElbowRanks$Told;)Z"⟩
abbrev cX4_readLane : ByteArray := prog_6_method_5_code
def yX4_readLane : MethodName := ⟨RX4, "readLane", "(LElbowRanks$Told;)Z"⟩
abbrev cX4_readPerson : ByteArray := prog_6_method_6_code
def yX4_readPerson : MethodName := ⟨RX4, "readPerson", "(LElbowRanks$Told;)Z"⟩
abbrev cX4_readBody : ByteArray := prog_6_method_7_code
def yX4_readBody : MethodName := ⟨RX4, "readBody", "(LElbowRanks$Told;)Z"⟩
abbrev cX4_readError : ByteArray := prog_6_method_8_code
def yX4_readError : MethodName := ⟨RX4, "readError", "(LElbowRanks$Told;)Z"⟩
abbrev cX4_isNumber : ByteArray := prog_6_method_9_code
def yX4_isNumber : MethodName := ⟨RX4, "isNumber", "(II)Z"⟩
abbrev cX4_takeToken : ByteArray := prog_6_method_10_code
def yX4_takeToken : MethodName := ⟨RX4, "takeToken", "()V"⟩
abbrev cX4_takeNumber : ByteArray := prog_6_method_11_code
def yX4_takeNumber : MethodName := ⟨RX4, "takeNumber", "(I)V"⟩
abbrev cX4_endOfRun : ByteArray := prog_6_method_12_code
def yX4_endOfRun : MethodName := ⟨RX4, "endOfRun", "(III)I"⟩
def RX5 : String := "ElbowRanks$Text"
def TX5 : u_T := fun k => match k with
  | 0 => ("ElbowRanks$Text", "bytes", "[I", true)
  | _ => ("ElbowRanks$Text", "size", "I", false)
def tyX5 : Nat → FieldType := fun k => match k with
  | 0 => .array .int
  | _ => .int
abbrev wsX50 : List Cond := u_ws RX5 TX5 2
theorem nmX5 : ∀ a, a < 2 → ∀ b, b < 2 → a ≠ b → (TX5 a).2.1 ≠ (TX5 b).2.1 := by decide +kernel
theorem tyX5_ok : ∀ k, k < 2 → parseFieldDescriptor (TX5 k).2.2.1 = some (tyX5 k) := by decide +kernel
abbrev cX5_init : ByteArray := prog_7_method_1_code
def yX5_init : MethodName := ⟨RX5, "<init>", "()V"⟩
abbrev cX5_add : ByteArray := prog_7_method_2_code
def yX5_add : MethodName := ⟨RX5, "add", "(I)Z"⟩
def RX6 : String := "ElbowRanks$Theatre"
def TX6 : u_T := fun k => match k with
  | 0 => ("ElbowRanks$Theatre", "wide", "[I", true)
  | 1 => ("ElbowRanks$Theatre", "row", "[I", true)
  | 2 => ("ElbowRanks$Theatre", "room", "[I", true)
  | 3 => ("ElbowRanks$Theatre", "people", "I", false)
  | _ => ("ElbowRanks$Theatre", "rowWidth", "I", false)
def tyX6 : Nat → FieldType := fun k => match k with
  | 0 => .array .int
  | 1 => .array .int
  | 2 => .array .int
  | 3 => .int
  | _ => .int
abbrev wsX60 : List Cond := u_ws RX6 TX6 5
theorem nmX6 : ∀ a, a < 5 → ∀ b, b < 5 → a ≠ b → (TX6 a).2.1 ≠ (TX6 b).2.1 := by decide +kernel
theorem tyX6_ok : ∀ k, k < 5 → parseFieldDescriptor (TX6 k).2.2.1 = some (tyX6 k) := by decide +kernel
abbrev cX6_init : ByteArray := prog_8_method_1_code
def yX6_init : MethodName := ⟨RX6, "<init>", "()V"⟩
abbrev cX6_begin : ByteArray := prog_8_method_2_code
def yX6_begin : MethodName := ⟨RX6, "begin", "(II)V"⟩
abbrev cX6_admit : ByteArray := prog_8_method_3_code
def yX6_admit : MethodName := ⟨RX6, "admit", "(II)V"⟩
abbrev cX6_fill : ByteArray := prog_8_method_4_code
def yX6_fill : MethodName := ⟨RX6, "fill", "()I"⟩
abbrev cX6_seat : ByteArray := prog_8_method_5_code
def yX6_seat : MethodName := ⟨RX6, "seat", "(LElbowRanks$Theatre;III)Z"⟩
def RX7 : String := "ElbowRanks$Told"
def TX7 : u_T := fun k => match k with
  | 0 => ("ElbowRanks$Told", "places", "I", false)
  | 1 => ("ElbowRanks$Told", "lanes", "I", false)
  | 2 => ("ElbowRanks$Told", "first", "[I", true)
  | 3 => ("ElbowRanks$Told", "second", "[I", true)
  | 4 => ("ElbowRanks$Told", "width", "[I", true)
  | 5 => ("ElbowRanks$Told", "people", "I", false)
  | 6 => ("ElbowRanks$Told", "elbow", "[I", true)
  | 7 => ("ElbowRanks$Told", "home", "[I", true)
  | 8 => ("ElbowRanks$Told", "body", "I", false)
  | _ => ("ElbowRanks$Told", "error", "I", false)
def tyX7 : Nat → FieldType := fun k => match k with
  | 0 => .int
  | 1 => .int
  | 2 => .array .int
  | 3 => .array .int
  | 4 => .array .int
  | 5 => .int
  | 6 => .array .int
  | 7 => .array .int
  | 8 => .int
  | _ => .int
abbrev wsX70 : List Cond := u_ws RX7 TX7 10
theorem nmX7 : ∀ a, a < 10 → ∀ b, b < 10 → a ≠ b → (TX7 a).2.1 ≠ (TX7 b).2.1 := by decide +kernel
theorem tyX7_ok : ∀ k, k < 10 → parseFieldDescriptor (TX7 k).2.2.1 = some (tyX7 k) := by decide +kernel
abbrev cX7_init : ByteArray := prog_9_method_1_code
def yX7_init : MethodName := ⟨RX7, "<init>", "()V"⟩
abbrev cX7_begin : ByteArray := prog_9_method_2_code
def yX7_begin : MethodName := ⟨RX7, "begin", "()V"⟩
abbrev cX7_addLane : ByteArray := prog_9_method_3_code
def yX7_addLane : MethodName := ⟨RX7, "addLane", "(III)Z"⟩
abbrev cX7_addPerson : ByteArray := prog_9_method_4_code
def yX7_addPerson : MethodName := ⟨RX7, "addPerson", "(II)Z"⟩
abbrev cX7_ends : ByteArray := prog_9_method_5_code
def yX7_ends : MethodName := ⟨RX7, "ends", "(I)I"⟩
abbrev cX7_joined : ByteArray := prog_9_method_6_code
def yX7_joined : MethodName := ⟨RX7, "joined", "(II)I"⟩
abbrev cX7_joins : ByteArray := prog_9_method_7_code
def yX7_joins : MethodName := ⟨RX7, "joins", "(III)Z"⟩
def RX8 : String := "ElbowRanks"
def TX8 : u_T := fun k => match k with
  | 0 => ("ElbowRanks", "reader", "LElbowRanks$Reader;", true)
  | 1 => ("ElbowRanks", "told", "LElbowRanks$Told;", false)
  | 2 => ("ElbowRanks", "draft", "LElbowRanks$Told;", false)
  | 3 => ("ElbowRanks", "course", "LElbowRanks$Course;", true)
  | 4 => ("ElbowRanks", "images", "[LElbowRanks$Course;", true)
  | 5 => ("ElbowRanks", "kept", "[Z", true)
  | 6 => ("ElbowRanks", "gates", "LElbowRanks$Gates;", true)
  | 7 => ("ElbowRanks", "distances", "LElbowRanks$Distances;", true)
  | 8 => ("ElbowRanks", "rows", "LElbowRanks$Theatre;", true)
  | _ => ("ElbowRanks", "traced", "J", false)
def tyX8 : Nat → FieldType := fun k => match k with
  | 0 => .object "ElbowRanks$Reader"
  | 1 => .object "ElbowRanks$Told"
  | 2 => .object "ElbowRanks$Told"
  | 3 => .object "ElbowRanks$Course"
  | 4 => .array (.object "ElbowRanks$Course")
  | 5 => .array .boolean
  | 6 => .object "ElbowRanks$Gates"
  | 7 => .object "ElbowRanks$Distances"
  | 8 => .object "ElbowRanks$Theatre"
  | _ => .long
abbrev wsX80 : List Cond := u_ws RX8 TX8 10
theorem nmX8 : ∀ a, a < 10 → ∀ b, b < 10 → a ≠ b → (TX8 a).2.1 ≠ (TX8 b).2.1 := by decide +kernel
theorem tyX8_ok : ∀ k, k < 10 → parseFieldDescriptor (TX8 k).2.2.1 = some (tyX8 k) := by decide +kernel
abbrev cX8_init : ByteArray := prog_1_method_1_code
def yX8_init : MethodName := ⟨RX8, "<init>", "()V"⟩
abbrev cX8_type : ByteArray := prog_1_method_2_code
def yX8_type : MethodName := ⟨RX8, "type", "(I)I"⟩
abbrev cX8_clear : ByteArray := prog_1_method_3_code
def yX8_clear : MethodName := ⟨RX8, "clear", "()I"⟩
abbrev cX8_capital : ByteArray := prog_1_method_4_code
def yX8_capital : MethodName := ⟨RX8, "capital", "()I"⟩
abbrev cX8_lane : ByteArray := prog_1_method_5_code
def yX8_lane : MethodName := ⟨RX8, "lane", "(II)I"⟩
abbrev cX8_person : ByteArray := prog_1_method_6_code
def yX8_person : MethodName := ⟨RX8, "person", "(II)I"⟩
abbrev cX8_goes : ByteArray := prog_1_method_7_code
def yX8_goes : MethodName := ⟨RX8, "goes", "(II)I"⟩
abbrev cX8_meets : ByteArray := prog_1_method_8_code
def yX8_meets : MethodName := ⟨RX8, "meets", "(III)I"⟩
abbrev cX8_claims : ByteArray := prog_1_method_9_code
def yX8_claims : MethodName := ⟨RX8, "claims", "(II)I"⟩
abbrev cX8_patents : ByteArray := prog_1_method_10_code
def yX8_patents : MethodName := ⟨RX8, "patents", "(II)I"⟩
abbrev cX8_shuts : ByteArray := prog_1_method_11_code
def yX8_shuts : MethodName := ⟨RX8, "shuts", "(II)I"⟩
abbrev cX8_undo : ByteArray := prog_1_method_12_code
def yX8_undo : MethodName := ⟨RX8, "undo", "()I"⟩
abbrev cX8_now : ByteArray := prog_1_method_13_code
def yX8_now : MethodName := ⟨RX8, "now", "(I)I"⟩
abbrev cX8_way : ByteArray := prog_1_method_14_code
def yX8_way : MethodName := ⟨RX8, "way", "(III)I"⟩
abbrev cX8_lacks : ByteArray := prog_1_method_15_code
def yX8_lacks : MethodName := ⟨RX8, "lacks", "(II)I"⟩
abbrev cX8_must : ByteArray := prog_1_method_16_code
def yX8_must : MethodName := ⟨RX8, "must", "(II)I"⟩
abbrev cX8_odds : ByteArray := prog_1_method_17_code
def yX8_odds : MethodName := ⟨RX8, "odds", "(IIII)I"⟩
abbrev cX8_meeting : ByteArray := prog_1_method_18_code
def yX8_meeting : MethodName := ⟨RX8, "meeting", "(III)I"⟩
abbrev cX8_theatre : ByteArray := prog_1_method_19_code
def yX8_theatre : MethodName := ⟨RX8, "theatre", "(II)I"⟩
abbrev cX8_narrow : ByteArray := prog_1_method_20_code
def yX8_narrow : MethodName := ⟨RX8, "narrow", "(I)I"⟩
abbrev cX8_order : ByteArray := prog_1_method_21_code
def yX8_order : MethodName := ⟨RX8, "order", "(I)I"⟩
abbrev cX8_gate : ByteArray := prog_1_method_22_code
def yX8_gate : MethodName := ⟨RX8, "gate", "(II)I"⟩
abbrev cX8_forget : ByteArray := prog_1_method_23_code
def yX8_forget : MethodName := ⟨RX8, "forget", "()I"⟩
abbrev cX8_fits : ByteArray := prog_1_method_24_code
def yX8_fits : MethodName := ⟨RX8, "fits", "(I)I"⟩
abbrev cX8_mark : ByteArray := prog_1_method_25_code
def yX8_mark : MethodName := ⟨RX8, "mark", "(II)I"⟩
abbrev cX8_keep : ByteArray := prog_1_method_26_code
def yX8_keep : MethodName := ⟨RX8, "keep", "(I)I"⟩
abbrev cX8_back : ByteArray := prog_1_method_27_code
def yX8_back : MethodName := ⟨RX8, "back", "(I)I"⟩
abbrev cX8_count : ByteArray := prog_1_method_28_code
def yX8_count : MethodName := ⟨RX8, "count", "(I)I"⟩
abbrev cX8_trace : ByteArray := prog_1_method_29_code
def yX8_trace : MethodName := ⟨RX8, "trace", "()J"⟩
abbrev cX8_noPlace : ByteArray := prog_1_method_30_code
def yX8_noPlace : MethodName := ⟨RX8, "noPlace", "(I)Z"⟩
abbrev cX8_noLane : ByteArray := prog_1_method_31_code
def yX8_noLane : MethodName := ⟨RX8, "noLane", "(I)Z"⟩
abbrev cX8_noPerson : ByteArray := prog_1_method_32_code
def yX8_noPerson : MethodName := ⟨RX8, "noPerson", "(I)Z"⟩
abbrev cX8_wideness : ByteArray := prog_1_method_33_code
def yX8_wideness : MethodName := ⟨RX8, "wideness", "(I)I"⟩
abbrev cX8_isClosed : ByteArray := prog_1_method_34_code
def yX8_isClosed : MethodName := ⟨RX8, "isClosed", "(I)Z"⟩
abbrev cX8_isTooNarrow : ByteArray := prog_1_method_35_code
def yX8_isTooNarrow : MethodName := ⟨RX8, "isTooNarrow", "(II)Z"⟩
abbrev cX8_isAtEnd : ByteArray := prog_1_method_36_code
def yX8_isAtEnd : MethodName := ⟨RX8, "isAtEnd", "(II)Z"⟩
abbrev cX8_areAtBothEnds : ByteArray := prog_1_method_37_code
def yX8_areAtBothEnds : MethodName := ⟨RX8, "areAtBothEnds", "(III)Z"⟩
abbrev cX8_closedLanes : ByteArray := prog_1_method_38_code
def yX8_closedLanes : MethodName := ⟨RX8, "closedLanes", "()I"⟩
abbrev cX8_openLanes : ByteArray := prog_1_method_39_code
def yX8_openLanes : MethodName := ⟨RX8, "openLanes", "()I"⟩
abbrev cX8_passable : ByteArray := prog_1_method_40_code
def yX8_passable : MethodName := ⟨RX8, "passable", "(I)I"⟩
abbrev cX8_reach : ByteArray := prog_1_method_41_code
def yX8_reach : MethodName := ⟨RX8, "reach", "(I)I"⟩
abbrev cX8_sum : ByteArray := prog_1_method_42_code
def yX8_sum : MethodName := ⟨RX8, "sum", "([I)I"⟩
abbrev cX8_outcome : ByteArray := prog_1_method_43_code
def yX8_outcome : MethodName := ⟨RX8, "outcome", "(III)I"⟩
abbrev cX8_cross : ByteArray := prog_1_method_44_code
def yX8_cross : MethodName := ⟨RX8, "cross", "(II)V"⟩
abbrev cX8_moveOrYield : ByteArray := prog_1_method_45_code
def yX8_moveOrYield : MethodName := ⟨RX8, "moveOrYield", "(IIZ)V"⟩
abbrev cX8_favourable : ByteArray := prog_1_method_46_code
def yX8_favourable : MethodName := ⟨RX8, "favourable", "(IIII)I"⟩
abbrev cX8_power : ByteArray := prog_1_method_47_code
def yX8_power : MethodName := ⟨RX8, "power", "(II)I"⟩
abbrev cX8_widenessWithout : ByteArray := prog_1_method_48_code
def yX8_widenessWithout : MethodName := ⟨RX8, "widenessWithout", "(I)I"⟩
abbrev cX8_peopleAhead : ByteArray := prog_1_method_49_code
def yX8_peopleAhead : MethodName := ⟨RX8, "peopleAhead", "(I)I"⟩
abbrev cX8_fitting : ByteArray := prog_1_method_50_code
def yX8_fitting : MethodName := ⟨RX8, "fitting", "(I)I"⟩
abbrev cX8_padded : ByteArray := prog_1_method_51_code
def yX8_padded : MethodName := ⟨RX8, "padded", "()I"⟩
abbrev cX8_markPerson : ByteArray := prog_1_method_52_code
def yX8_markPerson : MethodName := ⟨RX8, "markPerson", "(I)I"⟩
abbrev cX8_markEarl : ByteArray := prog_1_method_53_code
def yX8_markEarl : MethodName := ⟨RX8, "markEarl", "(I)I"⟩
abbrev cX8_markPage : ByteArray := prog_1_method_54_code
def yX8_markPage : MethodName := ⟨RX8, "markPage", "(I)I"⟩
abbrev cX8_markBride : ByteArray := prog_1_method_55_code
def yX8_markBride : MethodName := ⟨RX8, "markBride", "(I)I"⟩
abbrev cX8_markTailor : ByteArray := prog_1_method_56_code
def yX8_markTailor : MethodName := ⟨RX8, "markTailor", "(I)I"⟩
abbrev cX8_markThief : ByteArray := prog_1_method_57_code
def yX8_markThief : MethodName := ⟨RX8, "markThief", "(I)I"⟩
def RX9 : String := "ElbowRanksModel"
def TX9 : u_T := fun k => match k with
  | 0 => ("ElbowRanksModel", "trace", "J", false)
  | 1 => ("ElbowRanksModel", "text", "[B", true)
  | 2 => ("ElbowRanksModel", "typed", "I", false)
  | 3 => ("ElbowRanksModel", "places", "[I", true)
  | 4 => ("ElbowRanksModel", "lanes", "[I", true)
  | 5 => ("ElbowRanksModel", "from", "[I", true)
  | 6 => ("ElbowRanksModel", "to", "[I", true)
  | 7 => ("ElbowRanksModel", "width", "[I", true)
  | 8 => ("ElbowRanksModel", "people", "[I", true)
  | 9 => ("ElbowRanksModel", "draftElbow", "[I", true)
  | 10 => ("ElbowRanksModel", "draftAt", "[I", true)
  | 11 => ("ElbowRanksModel", "body", "[I", true)
  | 12 => ("ElbowRanksModel", "error", "[I", true)
  | 13 => ("ElbowRanksModel", "lawsTold", "I", false)
  | 14 => ("ElbowRanksModel", "at", "I", false)
  | 15 => ("ElbowRanksModel", "start", "I", false)
  | 16 => ("ElbowRanksModel", "sort", "I", false)
  | 17 => ("ElbowRanksModel", "value", "I", false)
  | 18 => ("ElbowRanksModel", "fault", "I", false)
  | 19 => ("ElbowRanksModel", "now", "[I", true)
  | 20 => ("ElbowRanksModel", "isKept", "[Z", true)
  | 21 => ("ElbowRanksModel", "far", "[I", true)
  | 22 => ("ElbowRanksModel", "row", "[I", true)
  | 23 => ("ElbowRanksModel", "sat", "[I", true)
  | 24 => ("ElbowRanksModel", "factOf", "[I", true)
  | 25 => ("ElbowRanksModel", "factWide", "[I", true)
  | _ => ("ElbowRanksModel", "measured", "I", false)
def tyX9 : Nat → FieldType := fun k => match k with
  | 0 => .long
  | 1 => .array .byte
  | 2 => .int
  | 3 => .array .int
  | 4 => .array .int
  | 5 => .array .int
  | 6 => .array .int
  | 7 => .array .int
  | 8 => .array .int
  | 9 => .array .int
  | 10 => .array .int
  | 11 => .array .int
  | 12 => .array .int
  | 13 => .int
  | 14 => .int
  | 15 => .int
  | 16 => .int
  | 17 => .int
  | 18 => .int
  | 19 => .array .int
  | 20 => .array .boolean
  | 21 => .array .int
  | 22 => .array .int
  | 23 => .array .int
  | 24 => .array .int
  | 25 => .array .int
  | _ => .int
abbrev wsX90 : List Cond := u_ws RX9 TX9 27
theorem nmX9 : ∀ a, a < 27 → ∀ b, b < 27 → a ≠ b → (TX9 a).2.1 ≠ (TX9 b).2.1 := by decide +kernel
theorem tyX9_ok : ∀ k, k < 27 → parseFieldDescriptor (TX9 k).2.2.1 = some (tyX9 k) := by decide +kernel
abbrev cX9_init : ByteArray := prog_11_method_1_code
def yX9_init : MethodName := ⟨RX9, "<init>", "()V"⟩
abbrev cX9_in : ByteArray := prog_11_method_3_code
def yX9_in : MethodName := ⟨RX9, "in", "(III)Z"⟩
abbrev cX9_type : ByteArray := prog_11_method_4_code
def yX9_type : MethodName := ⟨RX9, "type", "(I)I"⟩
abbrev cX9_clear : ByteArray := prog_11_method_5_code
def yX9_clear : MethodName := ⟨RX9, "clear", "()I"⟩
abbrev cX9_here : ByteArray := prog_11_method_6_code
def yX9_here : MethodName := ⟨RX9, "here", "()I"⟩
abbrev cX9_step : ByteArray := prog_11_method_7_code
def yX9_step : MethodName := ⟨RX9, "step", "()V"⟩
abbrev cX9_due : ByteArray := prog_11_method_8_code
def yX9_due : MethodName := ⟨RX9, "due", "(Z)I"⟩
abbrev cX9_number : ByteArray := prog_11_method_9_code
def yX9_number : MethodName := ⟨RX9, "number", "(II)I"⟩
abbrev cX9_mayBe : ByteArray := prog_11_method_10_code
def yX9_mayBe : MethodName := ⟨RX9, "mayBe", "(II)Z"⟩
abbrev cX9_readRow : ByteArray := prog_11_method_11_code
def yX9_readRow : MethodName := ⟨RX9, "readRow", "(I)V"⟩
abbrev cX9_plain : ByteArray := prog_11_method_12_code
def yX9_plain : MethodName := ⟨RX9, "plain", "()V"⟩
abbrev cX9_takeDraft : ByteArray := prog_11_method_13_code
def yX9_takeDraft : MethodName := ⟨RX9, "takeDraft", "()V"⟩
abbrev cX9_capital : ByteArray := prog_11_method_14_code
def yX9_capital : MethodName := ⟨RX9, "capital", "()I"⟩
abbrev cX9_isLane : ByteArray := prog_11_method_15_code
def yX9_isLane : MethodName := ⟨RX9, "isLane", "(I)Z"⟩
abbrev cX9_isPerson : ByteArray := prog_11_method_16_code
def yX9_isPerson : MethodName := ⟨RX9, "isPerson", "(I)Z"⟩
abbrev cX9_isPlace : ByteArray := prog_11_method_17_code
def yX9_isPlace : MethodName := ⟨RX9, "isPlace", "(I)Z"⟩
abbrev cX9_manyOf : ByteArray := prog_11_method_18_code
def yX9_manyOf : MethodName := ⟨RX9, "manyOf", "(I)I"⟩
abbrev cX9_wide : ByteArray := prog_11_method_19_code
def yX9_wide : MethodName := ⟨RX9, "wide", "(I)I"⟩
abbrev cX9_isClosed : ByteArray := prog_11_method_20_code
def yX9_isClosed : MethodName := ⟨RX9, "isClosed", "(I)Z"⟩
abbrev cX9_ends : ByteArray := prog_11_method_21_code
def yX9_ends : MethodName := ⟨RX9, "ends", "(II)Z"⟩
abbrev cX9_other : ByteArray := prog_11_method_22_code
def yX9_other : MethodName := ⟨RX9, "other", "(II)I"⟩
abbrev cX9_canGo : ByteArray := prog_11_method_23_code
def yX9_canGo : MethodName := ⟨RX9, "canGo", "(III)Z"⟩
abbrev cX9_reach : ByteArray := prog_11_method_24_code
def yX9_reach : MethodName := ⟨RX9, "reach", "(II)I"⟩
abbrev cX9_reaches : ByteArray := prog_11_method_25_code
def yX9_reaches : MethodName := ⟨RX9, "reaches", "(III)Z"⟩
abbrev cX9_lane : ByteArray := prog_11_method_26_code
def yX9_lane : MethodName := ⟨RX9, "lane", "(II)I"⟩
abbrev cX9_person : ByteArray := prog_11_method_27_code
def yX9_person : MethodName := ⟨RX9, "person", "(II)I"⟩
abbrev cX9_know : ByteArray := prog_11_method_28_code
def yX9_know : MethodName := ⟨RX9, "know", "()V"⟩
abbrev cX9_goes : ByteArray := prog_11_method_29_code
def yX9_goes : MethodName := ⟨RX9, "goes", "(II)I"⟩
abbrev cX9_outcome : ByteArray := prog_11_method_30_code
def yX9_outcome : MethodName := ⟨RX9, "outcome", "(III)I"⟩
abbrev cX9_meets : ByteArray := prog_11_method_31_code
def yX9_meets : MethodName := ⟨RX9, "meets", "(III)I"⟩
abbrev cX9_claims : ByteArray := prog_11_method_32_code
def yX9_claims : MethodName := ⟨RX9, "claims", "(II)I"⟩
abbrev cX9_patents : ByteArray := prog_11_method_33_code
def yX9_patents : MethodName := ⟨RX9, "patents", "(II)I"⟩
abbrev cX9_shuts : ByteArray := prog_11_method_34_code
def yX9_shuts : MethodName := ⟨RX9, "shuts", "(II)I"⟩
abbrev cX9_undo : ByteArray := prog_11_method_35_code
def yX9_undo : MethodName := ⟨RX9, "undo", "()I"⟩
abbrev cX9_now : ByteArray := prog_11_method_36_code
def yX9_now : MethodName := ⟨RX9, "now", "(I)I"⟩
abbrev cX9_costOf : ByteArray := prog_11_method_37_code
def yX9_costOf : MethodName := ⟨RX9, "costOf", "(IIZ)I"⟩
abbrev cX9_measure : ByteArray := prog_11_method_38_code
def yX9_measure : MethodName := ⟨RX9, "measure", "(IIZ)V"⟩
abbrev cX9_way : ByteArray := prog_11_method_39_code
def yX9_way : MethodName := ⟨RX9, "way", "(III)I"⟩
abbrev cX9_lacks : ByteArray := prog_11_method_40_code
def yX9_lacks : MethodName := ⟨RX9, "lacks", "(II)I"⟩
abbrev cX9_must : ByteArray := prog_11_method_41_code
def yX9_must : MethodName := ⟨RX9, "must", "(II)I"⟩
abbrev cX9_odds : ByteArray := prog_11_method_42_code
def yX9_odds : MethodName := ⟨RX9, "odds", "(IIII)I"⟩
abbrev cX9_meeting : ByteArray := prog_11_method_43_code
def yX9_meeting : MethodName := ⟨RX9, "meeting", "(III)I"⟩
abbrev cX9_rowsOf : ByteArray := prog_11_method_44_code
def yX9_rowsOf : MethodName := ⟨RX9, "rowsOf", "(II)I"⟩
abbrev cX9_theatre : ByteArray := prog_11_method_45_code
def yX9_theatre : MethodName := ⟨RX9, "theatre", "(II)I"⟩
abbrev cX9_narrow : ByteArray := prog_11_method_46_code
def yX9_narrow : MethodName := ⟨RX9, "narrow", "(I)I"⟩
abbrev cX9_order : ByteArray := prog_11_method_47_code
def yX9_order : MethodName := ⟨RX9, "order", "(I)I"⟩
abbrev cX9_gate : ByteArray := prog_11_method_48_code
def yX9_gate : MethodName := ⟨RX9, "gate", "(II)I"⟩
abbrev cX9_forget : ByteArray := prog_11_method_49_code
def yX9_forget : MethodName := ⟨RX9, "forget", "()I"⟩
abbrev cX9_fitsOf : ByteArray := prog_11_method_50_code
def yX9_fitsOf : MethodName := ⟨RX9, "fitsOf", "(I)I"⟩
abbrev cX9_fits : ByteArray := prog_11_method_51_code
def yX9_fits : MethodName := ⟨RX9, "fits", "(I)I"⟩
abbrev cX9_mark : ByteArray := prog_11_method_52_code
def yX9_mark : MethodName := ⟨RX9, "mark", "(II)I"⟩
abbrev cX9_keep : ByteArray := prog_11_method_53_code
def yX9_keep : MethodName := ⟨RX9, "keep", "(I)I"⟩
abbrev cX9_back : ByteArray := prog_11_method_54_code
def yX9_back : MethodName := ⟨RX9, "back", "(I)I"⟩
abbrev cX9_count : ByteArray := prog_11_method_55_code
def yX9_count : MethodName := ⟨RX9, "count", "(I)I"⟩
abbrev cX9_trace : ByteArray := prog_11_method_56_code
def yX9_trace : MethodName := ⟨RX9, "trace", "()J"⟩
def RL : String := "ElbowRanksLaw"
abbrev cL_law : ByteArray := code
def yL_law : MethodName := ⟨RL, "law", "([I)Z"⟩
abbrev vwCl : List vw_C := [(RX0, TX0, 3), (RX1, TX1, 2), (RX2, TX2, 3), (RX3, TX3, 4), (RX4, TX4, 7), (RX5, TX5, 2), (RX6, TX6, 5), (RX7, TX7, 10), (RX8, TX8, 10), (RX9, TX9, 27)]
end
section
theorem dX0_init_0 : decode cX0_init 0 = .ok (.aload_n 0, 1) := by decide +kernel
theorem dX0_init_1 : decode cX0_init 1 = .ok (.invokespecial 3, 3) := by decide +kernel
theorem dX0_init_4 : decode cX0_init 4 = .ok (.aload_n 0, 1) := by decide +kernel
theorem dX0_init_5 : decode cX0_init 5 = .ok (.new 9, 3) := by decide +kernel
theorem dX0_init_8 : decode cX0_init 8 = .ok (.dup, 1) := by decide +kernel
theorem dX0_init_9 : decode cX0_init 9 = .ok (.invokespecial 11, 3) := by decide +kernel
theorem dX0_init_12 : decode cX0_init 12 = .ok (.putfield 12, 3) := by decide +kernel
theorem dX0_init_15 : decode cX0_init 15 = .ok (.aload_n 0, 1) := by decide +kernel
theorem dX0_init_16 : decode cX0_init 16 = .ok (.bipush 10, 2) := by decide +kernel
theorem dX0_init_18 : decode cX0_init 18 = .ok (.anewarray 9, 3) := by decide +kernel
theorem dX0_init_21 : decode cX0_init 21 = .ok (.putfield 18, 3) := by decide +kernel
theorem dX0_init_24 : decode cX0_init 24 = .ok (.aload_n 0, 1) := by decide +kernel
theorem dX0_init_25 : decode cX0_init 25 = .ok (.iconst 0, 1) := by decide +kernel
theorem dX0_init_26 : decode cX0_init 26 = .ok (.putfield 22, 3) := by decide +kernel
theorem dX0_init_29 : decode cX0_init 29 = .ok (.iconst 0, 1) := by decide +kernel
theorem dX0_init_30 : decode cX0_init 30 = .ok (.istore_n 1, 1) := by decide +kernel
theorem dX0_init_31 : decode cX0_init 31 = .ok (.iload_n 1, 1) := by decide +kernel
theorem dX0_init_32 : decode cX0_init 32 = .ok (.bipush 10, 2) := by decide +kernel
theorem dX0_init_34 : decode cX0_init 34 = .ok (.if_icmp .ge 22, 3) := by decide +kernel
theorem dX0_init_37 : decode cX0_init 37 = .ok (.aload_n 0, 1) := by decide +kernel
theorem dX0_init_38 : decode cX0_init 38 = .ok (.getfield 18, 3) := by decide +kernel
theorem dX0_init_41 : decode cX0_init 41 = .ok (.iload_n 1, 1) := by decide +kernel
theorem dX0_init_42 : decode cX0_init 42 = .ok (.new 9, 3) := by decide +kernel
theorem dX0_init_45 : decode cX0_init 45 = .ok (.dup, 1) := by decide +kernel
theorem dX0_init_46 : decode cX0_init 46 = .ok (.invokespecial 11, 3) := by decide +kernel
theorem dX0_init_49 : decode cX0_init 49 = .ok (.aastore, 1) := by decide +kernel
theorem dX0_init_50 : decode cX0_init 50 = .ok (.iinc 1 1, 3) := by decide +kernel
theorem dX0_init_53 : decode cX0_init 53 = .ok (.goto (-22), 3) := by decide +kernel
theorem dX0_init_56 : decode cX0_init 56 = .ok (.return_, 1) := by decide +kernel
theorem dX0_begin_0 : decode cX0_begin 0 = .ok (.aload_n 0, 1) := by decide +kernel
theorem dX0_begin_1 : decode cX0_begin 1 = .ok (.getfield 12, 3) := by decide +kernel
theorem dX0_begin_4 : decode cX0_begin 4 = .ok (.aload_n 1, 1) := by decide +kernel
theorem dX0_begin_5 : decode cX0_begin 5 = .ok (.invokevirtual 26, 3) := by decide +kernel
theorem dX0_begin_8 : decode cX0_begin 8 = .ok (.aload_n 0, 1) := by decide +kernel
theorem dX0_begin_9 : decode cX0_begin 9 = .ok (.iconst 0, 1) := by decide +kernel
theorem dX0_begin_10 : decode cX0_begin 10 = .ok (.putfield 22, 3) := by decide +kernel
theorem dX0_begin_13 : decode cX0_begin 13 = .ok (.return_, 1) := by decide +kernel
theorem dX0_remember_0 : decode cX0_remember 0 = .ok (.aload_n 0, 1) := by decide +kernel
theorem dX0_remember_1 : decode cX0_remember 1 = .ok (.getfield 22, 3) := by decide +kernel
theorem dX0_remember_4 : decode cX0_remember 4 = .ok (.bipush 10, 2) := by decide +kernel
theorem dX0_remember_6 : decode cX0_remember 6 = .ok (.if_icmp .lt 7, 3) := by decide +kernel
theorem dX0_remember_9 : decode cX0_remember 9 = .ok (.aload_n 0, 1) := by decide +kernel
theorem dX0_remember_10 : decode cX0_remember 10 = .ok (.invokevirtual 30, 3) := by decide +kernel
theorem dX0_remember_13 : decode cX0_remember 13 = .ok (.aload_n 0, 1) := by decide +kernel
theorem dX0_remember_14 : decode cX0_remember 14 = .ok (.getfield 18, 3) := by decide +kernel
theorem dX0_remember_17 : decode cX0_remember 17 = .ok (.aload_n 0, 1) := by decide +kernel
theorem dX0_remember_18 : decode cX0_remember 18 = .ok (.getfield 22, 3) := by decide +kernel
theorem dX0_remember_21 : decode cX0_remember 21 = .ok (.aaload, 1) := by decide +kernel
theorem dX0_remember_22 : decode cX0_remember 22 = .ok (.aload_n 0, 1) := by decide +kernel
theorem dX0_remember_23 : decode cX0_remember 23 = .ok (.getfield 12, 3) := by decide +kernel
theorem dX0_remember_26 : decode cX0_remember 26 = .ok (.invokevirtual 33, 3) := by decide +kernel
theorem dX0_remember_29 : decode cX0_remember 29 = .ok (.aload_n 0, 1) := by decide +kernel
theorem dX0_remember_30 : decode cX0_remember 30 = .ok (.dup, 1) := by decide +kernel
theorem dX0_remember_31 : decode cX0_remember 31 = .ok (.getfield 22, 3) := by decide +kernel
theorem dX0_remember_34 : decode cX0_remember 34 = .ok (.iconst 1, 1) := by decide +kernel
theorem dX0_remember_35 : decode cX0_remember 35 = .ok (.iadd, 1) := by decide +kernel
theorem dX0_remember_36 : decode cX0_remember 36 = .ok (.putfield 22, 3) := by decide +kernel
theorem dX0_remember_39 : decode cX0_remember 39 = .ok (.return_, 1) := by decide +kernel
theorem dX0_loseOldest_0 : decode cX0_loseOldest 0 = .ok (.aload_n 0, 1) := by decide +kernel
theorem dX0_loseOldest_1 : decode cX0_loseOldest 1 = .ok (.getfield 18, 3) := by decide +kernel
theorem dX0_loseOldest_4 : decode cX0_loseOldest 4 = .ok (.iconst 0, 1) := by decide +kernel
theorem dX0_loseOldest_5 : decode cX0_loseOldest 5 = .ok (.aaload, 1) := by decide +kernel
theorem dX0_loseOldest_6 : decode cX0_loseOldest 6 = .ok (.astore_n 1, 1) := by decide +kernel
theorem dX0_loseOldest_7 : decode cX0_loseOldest 7 = .ok (.iconst 1, 1) := by decide +kernel
theorem dX0_loseOldest_8 : decode cX0_loseOldest 8 = .ok (.istore_n 2, 1) := by decide +kernel
theorem dX0_loseOldest_9 : decode cX0_loseOldest 9 = .ok (.iload_n 2, 1) := by decide +kernel
theorem dX0_loseOldest_10 : decode cX0_loseOldest 10 = .ok (.bipush 10, 2) := by decide +kernel
theorem dX0_loseOldest_12 : decode cX0_loseOldest 12 = .ok (.if_icmp .ge 23, 3) := by decide +kernel
theorem dX0_loseOldest_15 : decode cX0_loseOldest 15 = .ok (.aload_n 0, 1) := by decide +kernel
theorem dX0_loseOldest_16 : decode cX0_loseOldest 16 = .ok (.getfield 18, 3) := by decide +kernel
theorem dX0_loseOldest_19 : decode cX0_loseOldest 19 = .ok (.iload_n 2, 1) := by decide +kernel
theorem dX0_loseOldest_20 : decode cX0_loseOldest 20 = .ok (.iconst 1, 1) := by decide +kernel
theorem dX0_loseOldest_21 : decode cX0_loseOldest 21 = .ok (.isub, 1) := by decide +kernel
theorem dX0_loseOldest_22 : decode cX0_loseOldest 22 = .ok (.aload_n 0, 1) := by decide +kernel
theorem dX0_loseOldest_23 : decode cX0_loseOldest 23 = .ok (.getfield 18, 3) := by decide +kernel
theorem dX0_loseOldest_26 : decode cX0_loseOldest 26 = .ok (.iload_n 2, 1) := by decide +kernel
theorem dX0_loseOldest_27 : decode cX0_loseOldest 27 = .ok (.aaload, 1) := by decide +kernel
theorem dX0_loseOldest_28 : decode cX0_loseOldest 28 = .ok (.aastore, 1) := by decide +kernel
theorem dX0_loseOldest_29 : decode cX0_loseOldest 29 = .ok (.iinc 2 1, 3) := by decide +kernel
theorem dX0_loseOldest_32 : decode cX0_loseOldest 32 = .ok (.goto (-23), 3) := by decide +kernel
theorem dX0_loseOldest_35 : decode cX0_loseOldest 35 = .ok (.aload_n 0, 1) := by decide +kernel
theorem dX0_loseOldest_36 : decode cX0_loseOldest 36 = .ok (.getfield 18, 3) := by decide +kernel
theorem dX0_loseOldest_39 : decode cX0_loseOldest 39 = .ok (.bipush 9, 2) := by decide +kernel
theorem dX0_loseOldest_41 : decode cX0_loseOldest 41 = .ok (.aload_n 1, 1) := by decide +kernel
theorem dX0_loseOldest_42 : decode cX0_loseOldest 42 = .ok (.aastore, 1) := by decide +kernel
theorem dX0_loseOldest_43 : decode cX0_loseOldest 43 = .ok (.aload_n 0, 1) := by decide +kernel
theorem dX0_loseOldest_44 : decode cX0_loseOldest 44 = .ok (.bipush 9, 2) := by decide +kernel
theorem dX0_loseOldest_46 : decode cX0_loseOldest 46 = .ok (.putfield 22, 3) := by decide +kernel
theorem dX0_loseOldest_49 : decode cX0_loseOldest 49 = .ok (.return_, 1) := by decide +kernel
theorem dX0_stepBack_0 : decode cX0_stepBack 0 = .ok (.aload_n 0, 1) := by decide +kernel
theorem dX0_stepBack_1 : decode cX0_stepBack 1 = .ok (.getfield 22, 3) := by decide +kernel
theorem dX0_stepBack_4 : decode cX0_stepBack 4 = .ok (.ifCond .gt 5, 3) := by decide +kernel
theorem dX0_stepBack_7 : decode cX0_stepBack 7 = .ok (.iconst 0, 1) := by decide +kernel
theorem dX0_stepBack_8 : decode cX0_stepBack 8 = .ok (.ireturn, 1) := by decide +kernel
theorem dX0_stepBack_9 : decode cX0_stepBack 9 = .ok (.aload_n 0, 1) := by decide +kernel
theorem dX0_stepBack_10 : decode cX0_stepBack 10 = .ok (.dup, 1) := by decide +kernel
theorem dX0_stepBack_11 : decode cX0_stepBack 11 = .ok (.getfield 22, 3) := by decide +kernel
theorem dX0_stepBack_14 : decode cX0_stepBack 14 = .ok (.iconst 1, 1) := by decide +kernel
theorem dX0_stepBack_15 : decode cX0_stepBack 15 = .ok (.isub, 1) := by decide +kernel
theorem dX0_stepBack_16 : decode cX0_stepBack 16 = .ok (.putfield 22, 3) := by decide +kernel
theorem dX0_stepBack_19 : decode cX0_stepBack 19 = .ok (.aload_n 0, 1) := by decide +kernel
theorem dX0_stepBack_20 : decode cX0_stepBack 20 = .ok (.getfield 12, 3) := by decide +kernel
theorem dX0_stepBack_23 : decode cX0_stepBack 23 = .ok (.aload_n 0, 1) := by decide +kernel
theorem dX0_stepBack_24 : decode cX0_stepBack 24 = .ok (.getfield 18, 3) := by decide +kernel
theorem dX0_stepBack_27 : decode cX0_stepBack 27 = .ok (.aload_n 0, 1) := by decide +kernel
theorem dX0_stepBack_28 : decode cX0_stepBack 28 = .ok (.getfield 22, 3) := by decide +kernel
theorem dX0_stepBack_31 : decode cX0_stepBack 31 = .ok (.aaload, 1) := by decide +kernel
theorem dX0_stepBack_32 : decode cX0_stepBack 32 = .ok (.invokevirtual 33, 3) := by decide +kernel
theorem dX0_stepBack_35 : decode cX0_stepBack 35 = .ok (.iconst 1, 1) := by decide +kernel
theorem dX0_stepBack_36 : decode cX0_stepBack 36 = .ok (.ireturn, 1) := by decide +kernel
theorem dX0_copy_0 : decode cX0_copy 0 = .ok (.aload_n 0, 1) := by decide +kernel
theorem dX0_copy_1 : decode cX0_copy 1 = .ok (.getfield 12, 3) := by decide +kernel
theorem dX0_copy_4 : decode cX0_copy 4 = .ok (.aload_n 1, 1) := by decide +kernel
theorem dX0_copy_5 : decode cX0_copy 5 = .ok (.getfield 12, 3) := by decide +kernel
theorem dX0_copy_8 : decode cX0_copy 8 = .ok (.invokevirtual 33, 3) := by decide +kernel
theorem dX0_copy_11 : decode cX0_copy 11 = .ok (.iconst 0, 1) := by decide +kernel
theorem dX0_copy_12 : decode cX0_copy 12 = .ok (.istore_n 2, 1) := by decide +kernel
theorem dX0_copy_13 : decode cX0_copy 13 = .ok (.iload_n 2, 1) := by decide +kernel
theorem dX0_copy_14 : decode cX0_copy 14 = .ok (.aload_n 1, 1) := by decide +kernel
theorem dX0_copy_15 : decode cX0_copy 15 = .ok (.getfield 22, 3) := by decide +kernel
theorem dX0_copy_18 : decode cX0_copy 18 = .ok (.if_icmp .ge 24, 3) := by decide +kernel
theorem dX0_copy_21 : decode cX0_copy 21 = .ok (.aload_n 0, 1) := by decide +kernel
theorem dX0_copy_22 : decode cX0_copy 22 = .ok (.getfield 18, 3) := by decide +kernel
theorem dX0_copy_25 : decode cX0_copy 25 = .ok (.iload_n 2, 1) := by decide +kernel
theorem dX0_copy_26 : decode cX0_copy 26 = .ok (.aaload, 1) := by decide +kernel
theorem dX0_copy_27 : decode cX0_copy 27 = .ok (.aload_n 1, 1) := by decide +kernel
theorem dX0_copy_28 : decode cX0_copy 28 = .ok (.getfield 18, 3) := by decide +kernel
theorem dX0_copy_31 : decode cX0_copy 31 = .ok (.iload_n 2, 1) := by decide +kernel
theorem dX0_copy_32 : decode cX0_copy 32 = .ok (.aaload, 1) := by decide +kernel
theorem dX0_copy_33 : decode cX0_copy 33 = .ok (.invokevirtual 33, 3) := by decide +kernel
theorem dX0_copy_36 : decode cX0_copy 36 = .ok (.iinc 2 1, 3) := by decide +kernel
theorem dX0_copy_39 : decode cX0_copy 39 = .ok (.goto (-26), 3) := by decide +kernel
theorem dX0_copy_42 : decode cX0_copy 42 = .ok (.aload_n 0, 1) := by decide +kernel
theorem dX0_copy_43 : decode cX0_copy 43 = .ok (.aload_n 1, 1) := by decide +kernel
theorem dX0_copy_44 : decode cX0_copy 44 = .ok (.getfield 22, 3) := by decide +kernel
theorem dX0_copy_47 : decode cX0_copy 47 = .ok (.putfield 22, 3) := by decide +kernel
theorem dX0_copy_50 : decode cX0_copy 50 = .ok (.return_, 1) := by decide +kernel
theorem dX1_init_0 : decode cX1_init 0 = .ok (.aload_n 0, 1) := by decide +kernel
theorem dX1_init_1 : decode cX1_init 1 = .ok (.invokespecial 3, 3) := by decide +kernel
theorem dX1_init_4 : decode cX1_init 4 = .ok (.aload_n 0, 1) := by decide +kernel
theorem dX1_init_5 : decode cX1_init 5 = .ok (.bipush 8, 2) := by decide +kernel
theorem dX1_init_7 : decode cX1_init 7 = .ok (.newarray .int, 2) := by decide +kernel
theorem dX1_init_9 : decode cX1_init 9 = .ok (.putfield 9, 3) := by decide +kernel
theorem dX1_init_12 : decode cX1_init 12 = .ok (.aload_n 0, 1) := by decide +kernel
theorem dX1_init_13 : decode cX1_init 13 = .ok (.bipush 8, 2) := by decide +kernel
theorem dX1_init_15 : decode cX1_init 15 = .ok (.newarray .int, 2) := by decide +kernel
theorem dX1_init_17 : decode cX1_init 17 = .ok (.putfield 15, 3) := by decide +kernel
theorem dX1_init_20 : decode cX1_init 20 = .ok (.return_, 1) := by decide +kernel
theorem dX1_countLanes_0 : decode cX1_countLanes 0 = .ok (.iconst 0, 1) := by decide +kernel
theorem dX1_countLanes_1 : decode cX1_countLanes 1 = .ok (.istore 4, 2) := by decide +kernel
theorem dX1_countLanes_3 : decode cX1_countLanes 3 = .ok (.iload 4, 2) := by decide +kernel
theorem dX1_countLanes_5 : decode cX1_countLanes 5 = .ok (.aload_n 1, 1) := by decide +kernel
theorem dX1_countLanes_6 : decode cX1_countLanes 6 = .ok (.getfield 18, 3) := by decide +kernel
theorem dX1_countLanes_9 : decode cX1_countLanes 9 = .ok (.if_icmp .ge 31, 3) := by decide +kernel
theorem dX1_countLanes_12 : decode cX1_countLanes 12 = .ok (.aload_n 0, 1) := by decide +kernel
theorem dX1_countLanes_13 : decode cX1_countLanes 13 = .ok (.getfield 9, 3) := by decide +kernel
theorem dX1_countLanes_16 : decode cX1_countLanes 16 = .ok (.iload 4, 2) := by decide +kernel
theorem dX1_countLanes_18 : decode cX1_countLanes 18 = .ok (.iload_n 3, 1) := by decide +kernel
theorem dX1_countLanes_19 : decode cX1_countLanes 19 = .ok (.iload 4, 2) := by decide +kernel
theorem dX1_countLanes_21 : decode cX1_countLanes 21 = .ok (.ishr, 1) := by decide +kernel
theorem dX1_countLanes_22 : decode cX1_countLanes 22 = .ok (.iconst 1, 1) := by decide +kernel
theorem dX1_countLanes_23 : decode cX1_countLanes 23 = .ok (.iand, 1) := by decide +kernel
theorem dX1_countLanes_24 : decode cX1_countLanes 24 = .ok (.ifCond .eq 7, 3) := by decide +kernel
theorem dX1_countLanes_27 : decode cX1_countLanes 27 = .ok (.iconst 1, 1) := by decide +kernel
theorem dX1_countLanes_28 : decode cX1_countLanes 28 = .ok (.goto 5, 3) := by decide +kernel
theorem dX1_countLanes_31 : decode cX1_countLanes 31 = .ok (.ldc 24, 2) := by decide +kernel
theorem dX1_countLanes_33 : decode cX1_countLanes 33 = .ok (.iastore, 1) := by decide +kernel
theorem dX1_countLanes_34 : decode cX1_countLanes 34 = .ok (.iinc 4 1, 3) := by decide +kernel
theorem dX1_countLanes_37 : decode cX1_countLanes 37 = .ok (.goto (-34), 3) := by decide +kernel
theorem dX1_countLanes_40 : decode cX1_countLanes 40 = .ok (.aload_n 0, 1) := by decide +kernel
theorem dX1_countLanes_41 : decode cX1_countLanes 41 = .ok (.aload_n 1, 1) := by decide +kernel
theorem dX1_countLanes_42 : decode cX1_countLanes 42 = .ok (.iload_n 2, 1) := by decide +kernel
theorem dX1_countLanes_43 : decode cX1_countLanes 43 = .ok (.invokevirtual 25, 3) := by decide +kernel
theorem dX1_countLanes_46 : decode cX1_countLanes 46 = .ok (.return_, 1) := by decide +kernel
theorem dX1_addLacks_0 : decode cX1_addLacks 0 = .ok (.iconst 0, 1) := by decide +kernel
theorem dX1_addLacks_1 : decode cX1_addLacks 1 = .ok (.istore 5, 2) := by decide +kernel
theorem dX1_addLacks_3 : decode cX1_addLacks 3 = .ok (.iload 5, 2) := by decide +kernel
theorem dX1_addLacks_5 : decode cX1_addLacks 5 = .ok (.aload_n 1, 1) := by decide +kernel
theorem dX1_addLacks_6 : decode cX1_addLacks 6 = .ok (.getfield 18, 3) := by decide +kernel
theorem dX1_addLacks_9 : decode cX1_addLacks 9 = .ok (.if_icmp .ge 44, 3) := by decide +kernel
theorem dX1_addLacks_12 : decode cX1_addLacks 12 = .ok (.aload_n 0, 1) := by decide +kernel
theorem dX1_addLacks_13 : decode cX1_addLacks 13 = .ok (.getfield 9, 3) := by decide +kernel
theorem dX1_addLacks_16 : decode cX1_addLacks 16 = .ok (.iload 5, 2) := by decide +kernel
theorem dX1_addLacks_18 : decode cX1_addLacks 18 = .ok (.iload_n 3, 1) := by decide +kernel
theorem dX1_addLacks_19 : decode cX1_addLacks 19 = .ok (.iload 5, 2) := by decide +kernel
theorem dX1_addLacks_21 : decode cX1_addLacks 21 = .ok (.ishr, 1) := by decide +kernel
theorem dX1_addLacks_22 : decode cX1_addLacks 22 = .ok (.iconst 1, 1) := by decide +kernel
theorem dX1_addLacks_23 : decode cX1_addLacks 23 = .ok (.iand, 1) := by decide +kernel
theorem dX1_addLacks_24 : decode cX1_addLacks 24 = .ok (.ifCond .eq 20, 3) := by decide +kernel
theorem dX1_addLacks_27 : decode cX1_addLacks 27 = .ok (.iconst 0, 1) := by decide +kernel
theorem dX1_addLacks_28 : decode cX1_addLacks 28 = .ok (.iload 4, 2) := by decide +kernel
theorem dX1_addLacks_30 : decode cX1_addLacks 30 = .ok (.aload_n 1, 1) := by decide +kernel
theorem dX1_addLacks_31 : decode cX1_addLacks 31 = .ok (.getfield 29, 3) := by decide +kernel
theorem dX1_addLacks_34 : decode cX1_addLacks 34 = .ok (.iload 5, 2) := by decide +kernel
theorem dX1_addLacks_36 : decode cX1_addLacks 36 = .ok (.iaload, 1) := by decide +kernel
theorem dX1_addLacks_37 : decode cX1_addLacks 37 = .ok (.isub, 1) := by decide +kernel
theorem dX1_addLacks_38 : decode cX1_addLacks 38 = .ok (.invokestatic 32, 3) := by decide +kernel
theorem dX1_addLacks_41 : decode cX1_addLacks 41 = .ok (.goto 5, 3) := by decide +kernel
theorem dX1_addLacks_44 : decode cX1_addLacks 44 = .ok (.ldc 24, 2) := by decide +kernel
theorem dX1_addLacks_46 : decode cX1_addLacks 46 = .ok (.iastore, 1) := by decide +kernel
theorem dX1_addLacks_47 : decode cX1_addLacks 47 = .ok (.iinc 5 1, 3) := by decide +kernel
theorem dX1_addLacks_50 : decode cX1_addLacks 50 = .ok (.goto (-47), 3) := by decide +kernel
theorem dX1_addLacks_53 : decode cX1_addLacks 53 = .ok (.aload_n 0, 1) := by decide +kernel
theorem dX1_addLacks_54 : decode cX1_addLacks 54 = .ok (.aload_n 1, 1) := by decide +kernel
theorem dX1_addLacks_55 : decode cX1_addLacks 55 = .ok (.iload_n 2, 1) := by decide +kernel
theorem dX1_addLacks_56 : decode cX1_addLacks 56 = .ok (.invokevirtual 25, 3) := by decide +kernel
theorem dX1_addLacks_59 : decode cX1_addLacks 59 = .ok (.return_, 1) := by decide +kernel
theorem dX1_measure_0 : decode cX1_measure 0 = .ok (.iconst 0, 1) := by decide +kernel
theorem dX1_measure_1 : decode cX1_measure 1 = .ok (.istore_n 3, 1) := by decide +kernel
theorem dX1_measure_2 : decode cX1_measure 2 = .ok (.iload_n 3, 1) := by decide +kernel
theorem dX1_measure_3 : decode cX1_measure 3 = .ok (.aload_n 1, 1) := by decide +kernel
theorem dX1_measure_4 : decode cX1_measure 4 = .ok (.getfield 38, 3) := by decide +kernel
theorem dX1_measure_7 : decode cX1_measure 7 = .ok (.if_icmp .ge 26, 3) := by decide +kernel
theorem dX1_measure_10 : decode cX1_measure 10 = .ok (.aload_n 0, 1) := by decide +kernel
theorem dX1_measure_11 : decode cX1_measure 11 = .ok (.getfield 15, 3) := by decide +kernel
theorem dX1_measure_14 : decode cX1_measure 14 = .ok (.iload_n 3, 1) := by decide +kernel
theorem dX1_measure_15 : decode cX1_measure 15 = .ok (.iload_n 3, 1) := by decide +kernel
theorem dX1_measure_16 : decode cX1_measure 16 = .ok (.iload_n 2, 1) := by decide +kernel
theorem dX1_measure_17 : decode cX1_measure 17 = .ok (.if_icmp .ne 7, 3) := by decide +kernel
theorem dX1_measure_20 : decode cX1_measure 20 = .ok (.iconst 0, 1) := by decide +kernel
theorem dX1_measure_21 : decode cX1_measure 21 = .ok (.goto 5, 3) := by decide +kernel
theorem dX1_measure_24 : decode cX1_measure 24 = .ok (.ldc 24, 2) := by decide +kernel
theorem dX1_measure_26 : decode cX1_measure 26 = .ok (.iastore, 1) := by decide +kernel
theorem dX1_measure_27 : decode cX1_measure 27 = .ok (.iinc 3 1, 3) := by decide +kernel
theorem dX1_measure_30 : decode cX1_measure 30 = .ok (.goto (-28), 3) := by decide +kernel
theorem dX1_measure_33 : decode cX1_measure 33 = .ok (.iconst 1, 1) := by decide +kernel
theorem dX1_measure_34 : decode cX1_measure 34 = .ok (.istore_n 3, 1) := by decide +kernel
theorem dX1_measure_35 : decode cX1_measure 35 = .ok (.iload_n 3, 1) := by decide +kernel
theorem dX1_measure_36 : decode cX1_measure 36 = .ok (.aload_n 1, 1) := by decide +kernel
theorem dX1_measure_37 : decode cX1_measure 37 = .ok (.getfield 38, 3) := by decide +kernel
theorem dX1_measure_40 : decode cX1_measure 40 = .ok (.if_icmp .ge 109, 3) := by decide +kernel
theorem dX1_measure_43 : decode cX1_measure 43 = .ok (.iconst 0, 1) := by decide +kernel
theorem dX1_measure_44 : decode cX1_measure 44 = .ok (.istore 4, 2) := by decide +kernel
theorem dX1_measure_46 : decode cX1_measure 46 = .ok (.iload 4, 2) := by decide +kernel
theorem dX1_measure_48 : decode cX1_measure 48 = .ok (.aload_n 1, 1) := by decide +kernel
theorem dX1_measure_49 : decode cX1_measure 49 = .ok (.getfield 18, 3) := by decide +kernel
theorem dX1_measure_52 : decode cX1_measure 52 = .ok (.if_icmp .ge 91, 3) := by decide +kernel
theorem dX1_measure_55 : decode cX1_measure 55 = .ok (.aload_n 1, 1) := by decide +kernel
theorem dX1_measure_56 : decode cX1_measure 56 = .ok (.getfield 41, 3) := by decide +kernel
theorem dX1_measure_59 : decode cX1_measure 59 = .ok (.iload 4, 2) := by decide +kernel
theorem dX1_measure_61 : decode cX1_measure 61 = .ok (.iaload, 1) := by decide +kernel
theorem dX1_measure_62 : decode cX1_measure 62 = .ok (.istore 5, 2) := by decide +kernel
theorem dX1_measure_64 : decode cX1_measure 64 = .ok (.aload_n 1, 1) := by decide +kernel
theorem dX1_measure_65 : decode cX1_measure 65 = .ok (.getfield 44, 3) := by decide +kernel
theorem dX1_measure_68 : decode cX1_measure 68 = .ok (.iload 4, 2) := by decide +kernel
theorem dX1_measure_70 : decode cX1_measure 70 = .ok (.iaload, 1) := by decide +kernel
theorem dX1_measure_71 : decode cX1_measure 71 = .ok (.istore 6, 2) := by decide +kernel
theorem dX1_measure_73 : decode cX1_measure 73 = .ok (.aload_n 0, 1) := by decide +kernel
theorem dX1_measure_74 : decode cX1_measure 74 = .ok (.getfield 15, 3) := by decide +kernel
theorem dX1_measure_77 : decode cX1_measure 77 = .ok (.iload 5, 2) := by decide +kernel
theorem dX1_measure_79 : decode cX1_measure 79 = .ok (.aload_n 0, 1) := by decide +kernel
theorem dX1_measure_80 : decode cX1_measure 80 = .ok (.getfield 15, 3) := by decide +kernel
theorem dX1_measure_83 : decode cX1_measure 83 = .ok (.iload 5, 2) := by decide +kernel
theorem dX1_measure_85 : decode cX1_measure 85 = .ok (.iaload, 1) := by decide +kernel
theorem dX1_measure_86 : decode cX1_measure 86 = .ok (.aload_n 0, 1) := by decide +kernel
theorem dX1_measure_87 : decode cX1_measure 87 = .ok (.getfield 15, 3) := by decide +kernel
theorem dX1_measure_90 : decode cX1_measure 90 = .ok (.iload 6, 2) := by decide +kernel
theorem dX1_measure_92 : decode cX1_measure 92 = .ok (.iaload, 1) := by decide +kernel
theorem dX1_measure_93 : decode cX1_measure 93 = .ok (.aload_n 0, 1) := by decide +kernel
theorem dX1_measure_94 : decode cX1_measure 94 = .ok (.getfield 9, 3) := by decide +kernel
theorem dX1_measure_97 : decode cX1_measure 97 = .ok (.iload 4, 2) := by decide +kernel
theorem dX1_measure_99 : decode cX1_measure 99 = .ok (.iaload, 1) := by decide +kernel
theorem dX1_measure_100 : decode cX1_measure 100 = .ok (.iadd, 1) := by decide +kernel
theorem dX1_measure_101 : decode cX1_measure 101 = .ok (.invokestatic 47, 3) := by decide +kernel
theorem dX1_measure_104 : decode cX1_measure 104 = .ok (.iastore, 1) := by decide +kernel
theorem dX1_measure_105 : decode cX1_measure 105 = .ok (.aload_n 0, 1) := by decide +kernel
theorem dX1_measure_106 : decode cX1_measure 106 = .ok (.getfield 15, 3) := by decide +kernel
theorem dX1_measure_109 : decode cX1_measure 109 = .ok (.iload 6, 2) := by decide +kernel
theorem dX1_measure_111 : decode cX1_measure 111 = .ok (.aload_n 0, 1) := by decide +kernel
theorem dX1_measure_112 : decode cX1_measure 112 = .ok (.getfield 15, 3) := by decide +kernel
theorem dX1_measure_115 : decode cX1_measure 115 = .ok (.iload 6, 2) := by decide +kernel
theorem dX1_measure_117 : decode cX1_measure 117 = .ok (.iaload, 1) := by decide +kernel
theorem dX1_measure_118 : decode cX1_measure 118 = .ok (.aload_n 0, 1) := by decide +kernel
theorem dX1_measure_119 : decode cX1_measure 119 = .ok (.getfield 15, 3) := by decide +kernel
theorem dX1_measure_122 : decode cX1_measure 122 = .ok (.iload 5, 2) := by decide +kernel
theorem dX1_measure_124 : decode cX1_measure 124 = .ok (.iaload, 1) := by decide +kernel
theorem dX1_measure_125 : decode cX1_measure 125 = .ok (.aload_n 0, 1) := by decide +kernel
theorem dX1_measure_126 : decode cX1_measure 126 = .ok (.getfield 9, 3) := by decide +kernel
theorem dX1_measure_129 : decode cX1_measure 129 = .ok (.iload 4, 2) := by decide +kernel
theorem dX1_measure_131 : decode cX1_measure 131 = .ok (.iaload, 1) := by decide +kernel
theorem dX1_measure_132 : decode cX1_measure 132 = .ok (.iadd, 1) := by decide +kernel
theorem dX1_measure_133 : decode cX1_measure 133 = .ok (.invokestatic 47, 3) := by decide +kernel
theorem dX1_measure_136 : decode cX1_measure 136 = .ok (.iastore, 1) := by decide +kernel
theorem dX1_measure_137 : decode cX1_measure 137 = .ok (.iinc 4 1, 3) := by decide +kernel
theorem dX1_measure_140 : decode cX1_measure 140 = .ok (.goto (-94), 3) := by decide +kernel
theorem dX1_measure_143 : decode cX1_measure 143 = .ok (.iinc 3 1, 3) := by decide +kernel
theorem dX1_measure_146 : decode cX1_measure 146 = .ok (.goto (-111), 3) := by decide +kernel
theorem dX1_measure_149 : decode cX1_measure 149 = .ok (.return_, 1) := by decide +kernel
theorem dX1_from_0 : decode cX1_from 0 = .ok (.aload_n 0, 1) := by decide +kernel
theorem dX1_from_1 : decode cX1_from 1 = .ok (.getfield 15, 3) := by decide +kernel
theorem dX1_from_4 : decode cX1_from 4 = .ok (.iload_n 1, 1) := by decide +kernel
theorem dX1_from_5 : decode cX1_from 5 = .ok (.iaload, 1) := by decide +kernel
theorem dX1_from_6 : decode cX1_from 6 = .ok (.ldc 24, 2) := by decide +kernel
theorem dX1_from_8 : decode cX1_from 8 = .ok (.if_icmp .lt 8, 3) := by decide +kernel
theorem dX1_from_11 : decode cX1_from 11 = .ok (.bipush (-9), 2) := by decide +kernel
theorem dX1_from_13 : decode cX1_from 13 = .ok (.goto 9, 3) := by decide +kernel
theorem dX1_from_16 : decode cX1_from 16 = .ok (.aload_n 0, 1) := by decide +kernel
theorem dX1_from_17 : decode cX1_from 17 = .ok (.getfield 15, 3) := by decide +kernel
theorem dX1_from_20 : decode cX1_from 20 = .ok (.iload_n 1, 1) := by decide +kernel
theorem dX1_from_21 : decode cX1_from 21 = .ok (.iaload, 1) := by decide +kernel
theorem dX1_from_22 : decode cX1_from 22 = .ok (.ireturn, 1) := by decide +kernel
theorem dX1_laneOfWay_0 : decode cX1_laneOfWay 0 = .ok (.iload_n 2, 1) := by decide +kernel
theorem dX1_laneOfWay_1 : decode cX1_laneOfWay 1 = .ok (.istore 4, 2) := by decide +kernel
theorem dX1_laneOfWay_3 : decode cX1_laneOfWay 3 = .ok (.bipush (-9), 2) := by decide +kernel
theorem dX1_laneOfWay_5 : decode cX1_laneOfWay 5 = .ok (.istore 5, 2) := by decide +kernel
theorem dX1_laneOfWay_7 : decode cX1_laneOfWay 7 = .ok (.iconst 0, 1) := by decide +kernel
theorem dX1_laneOfWay_8 : decode cX1_laneOfWay 8 = .ok (.istore 6, 2) := by decide +kernel
theorem dX1_laneOfWay_10 : decode cX1_laneOfWay 10 = .ok (.iload 6, 2) := by decide +kernel
theorem dX1_laneOfWay_12 : decode cX1_laneOfWay 12 = .ok (.iload_n 3, 1) := by decide +kernel
theorem dX1_laneOfWay_13 : decode cX1_laneOfWay 13 = .ok (.if_icmp .gt 68, 3) := by decide +kernel
theorem dX1_laneOfWay_16 : decode cX1_laneOfWay 16 = .ok (.iload 6, 2) := by decide +kernel
theorem dX1_laneOfWay_18 : decode cX1_laneOfWay 18 = .ok (.aload_n 1, 1) := by decide +kernel
theorem dX1_laneOfWay_19 : decode cX1_laneOfWay 19 = .ok (.getfield 38, 3) := by decide +kernel
theorem dX1_laneOfWay_22 : decode cX1_laneOfWay 22 = .ok (.if_icmp .ge 59, 3) := by decide +kernel
theorem dX1_laneOfWay_25 : decode cX1_laneOfWay 25 = .ok (.aload_n 0, 1) := by decide +kernel
theorem dX1_laneOfWay_26 : decode cX1_laneOfWay 26 = .ok (.aload_n 1, 1) := by decide +kernel
theorem dX1_laneOfWay_27 : decode cX1_laneOfWay 27 = .ok (.iload 4, 2) := by decide +kernel
theorem dX1_laneOfWay_29 : decode cX1_laneOfWay 29 = .ok (.invokevirtual 50, 3) := by decide +kernel
theorem dX1_laneOfWay_32 : decode cX1_laneOfWay 32 = .ok (.istore 5, 2) := by decide +kernel
theorem dX1_laneOfWay_34 : decode cX1_laneOfWay 34 = .ok (.iload 5, 2) := by decide +kernel
theorem dX1_laneOfWay_36 : decode cX1_laneOfWay 36 = .ok (.bipush (-9), 2) := by decide +kernel
theorem dX1_laneOfWay_38 : decode cX1_laneOfWay 38 = .ok (.if_icmp .ne 6, 3) := by decide +kernel
theorem dX1_laneOfWay_41 : decode cX1_laneOfWay 41 = .ok (.bipush (-9), 2) := by decide +kernel
theorem dX1_laneOfWay_43 : decode cX1_laneOfWay 43 = .ok (.ireturn, 1) := by decide +kernel
theorem dX1_laneOfWay_44 : decode cX1_laneOfWay 44 = .ok (.iload 4, 2) := by decide +kernel
theorem dX1_laneOfWay_46 : decode cX1_laneOfWay 46 = .ok (.aload_n 1, 1) := by decide +kernel
theorem dX1_laneOfWay_47 : decode cX1_laneOfWay 47 = .ok (.getfield 41, 3) := by decide +kernel
theorem dX1_laneOfWay_50 : decode cX1_laneOfWay 50 = .ok (.iload 5, 2) := by decide +kernel
theorem dX1_laneOfWay_52 : decode cX1_laneOfWay 52 = .ok (.iaload, 1) := by decide +kernel
theorem dX1_laneOfWay_53 : decode cX1_laneOfWay 53 = .ok (.if_icmp .ne 13, 3) := by decide +kernel
theorem dX1_laneOfWay_56 : decode cX1_laneOfWay 56 = .ok (.aload_n 1, 1) := by decide +kernel
theorem dX1_laneOfWay_57 : decode cX1_laneOfWay 57 = .ok (.getfield 44, 3) := by decide +kernel
theorem dX1_laneOfWay_60 : decode cX1_laneOfWay 60 = .ok (.iload 5, 2) := by decide +kernel
theorem dX1_laneOfWay_62 : decode cX1_laneOfWay 62 = .ok (.iaload, 1) := by decide +kernel
theorem dX1_laneOfWay_63 : decode cX1_laneOfWay 63 = .ok (.goto 10, 3) := by decide +kernel
theorem dX1_laneOfWay_66 : decode cX1_laneOfWay 66 = .ok (.aload_n 1, 1) := by decide +kernel
theorem dX1_laneOfWay_67 : decode cX1_laneOfWay 67 = .ok (.getfield 41, 3) := by decide +kernel
theorem dX1_laneOfWay_70 : decode cX1_laneOfWay 70 = .ok (.iload 5, 2) := by decide +kernel
theorem dX1_laneOfWay_72 : decode cX1_laneOfWay 72 = .ok (.iaload, 1) := by decide +kernel
theorem dX1_laneOfWay_73 : decode cX1_laneOfWay 73 = .ok (.istore 4, 2) := by decide +kernel
theorem dX1_laneOfWay_75 : decode cX1_laneOfWay 75 = .ok (.iinc 6 1, 3) := by decide +kernel
theorem dX1_laneOfWay_78 : decode cX1_laneOfWay 78 = .ok (.goto (-68), 3) := by decide +kernel
theorem dX1_laneOfWay_81 : decode cX1_laneOfWay 81 = .ok (.iload 5, 2) := by decide +kernel
theorem dX1_laneOfWay_83 : decode cX1_laneOfWay 83 = .ok (.ireturn, 1) := by decide +kernel
theorem dX1_firstLaneNearer_0 : decode cX1_firstLaneNearer 0 = .ok (.iconst 0, 1) := by decide +kernel
theorem dX1_firstLaneNearer_1 : decode cX1_firstLaneNearer 1 = .ok (.istore_n 3, 1) := by decide +kernel
theorem dX1_firstLaneNearer_2 : decode cX1_firstLaneNearer 2 = .ok (.iload_n 3, 1) := by decide +kernel
theorem dX1_firstLaneNearer_3 : decode cX1_firstLaneNearer 3 = .ok (.aload_n 1, 1) := by decide +kernel
theorem dX1_firstLaneNearer_4 : decode cX1_firstLaneNearer 4 = .ok (.getfield 18, 3) := by decide +kernel
theorem dX1_firstLaneNearer_7 : decode cX1_firstLaneNearer 7 = .ok (.if_icmp .ge 94, 3) := by decide +kernel
theorem dX1_firstLaneNearer_10 : decode cX1_firstLaneNearer 10 = .ok (.aload_n 1, 1) := by decide +kernel
theorem dX1_firstLaneNearer_11 : decode cX1_firstLaneNearer 11 = .ok (.getfield 41, 3) := by decide +kernel
theorem dX1_firstLaneNearer_14 : decode cX1_firstLaneNearer 14 = .ok (.iload_n 3, 1) := by decide +kernel
theorem dX1_firstLaneNearer_15 : decode cX1_firstLaneNearer 15 = .ok (.iaload, 1) := by decide +kernel
theorem dX1_firstLaneNearer_16 : decode cX1_firstLaneNearer 16 = .ok (.istore 4, 2) := by decide +kernel
theorem dX1_firstLaneNearer_18 : decode cX1_firstLaneNearer 18 = .ok (.aload_n 1, 1) := by decide +kernel
theorem dX1_firstLaneNearer_19 : decode cX1_firstLaneNearer 19 = .ok (.getfield 44, 3) := by decide +kernel
theorem dX1_firstLaneNearer_22 : decode cX1_firstLaneNearer 22 = .ok (.iload_n 3, 1) := by decide +kernel
theorem dX1_firstLaneNearer_23 : decode cX1_firstLaneNearer 23 = .ok (.iaload, 1) := by decide +kernel
theorem dX1_firstLaneNearer_24 : decode cX1_firstLaneNearer 24 = .ok (.istore 5, 2) := by decide +kernel
theorem dX1_firstLaneNearer_26 : decode cX1_firstLaneNearer 26 = .ok (.iload_n 2, 1) := by decide +kernel
theorem dX1_firstLaneNearer_27 : decode cX1_firstLaneNearer 27 = .ok (.iload 4, 2) := by decide +kernel
theorem dX1_firstLaneNearer_29 : decode cX1_firstLaneNearer 29 = .ok (.if_icmp .eq 9, 3) := by decide +kernel
theorem dX1_firstLaneNearer_32 : decode cX1_firstLaneNearer 32 = .ok (.iload_n 2, 1) := by decide +kernel
theorem dX1_firstLaneNearer_33 : decode cX1_firstLaneNearer 33 = .ok (.iload 5, 2) := by decide +kernel
theorem dX1_firstLaneNearer_35 : decode cX1_firstLaneNearer 35 = .ok (.if_icmp .ne 7, 3) := by decide +kernel
theorem dX1_firstLaneNearer_38 : decode cX1_firstLaneNearer 38 = .ok (.iconst 1, 1) := by decide +kernel
theorem dX1_firstLaneNearer_39 : decode cX1_firstLaneNearer 39 = .ok (.goto 4, 3) := by decide +kernel
theorem dX1_firstLaneNearer_42 : decode cX1_firstLaneNearer 42 = .ok (.iconst 0, 1) := by decide +kernel
theorem dX1_firstLaneNearer_43 : decode cX1_firstLaneNearer 43 = .ok (.istore 6, 2) := by decide +kernel
theorem dX1_firstLaneNearer_45 : decode cX1_firstLaneNearer 45 = .ok (.iload_n 2, 1) := by decide +kernel
theorem dX1_firstLaneNearer_46 : decode cX1_firstLaneNearer 46 = .ok (.iload 4, 2) := by decide +kernel
theorem dX1_firstLaneNearer_48 : decode cX1_firstLaneNearer 48 = .ok (.if_icmp .ne 8, 3) := by decide +kernel
theorem dX1_firstLaneNearer_51 : decode cX1_firstLaneNearer 51 = .ok (.iload 5, 2) := by decide +kernel
theorem dX1_firstLaneNearer_53 : decode cX1_firstLaneNearer 53 = .ok (.goto 5, 3) := by decide +kernel
theorem dX1_firstLaneNearer_56 : decode cX1_firstLaneNearer 56 = .ok (.iload 4, 2) := by decide +kernel
theorem dX1_firstLaneNearer_58 : decode cX1_firstLaneNearer 58 = .ok (.istore 7, 2) := by decide +kernel
theorem dX1_firstLaneNearer_60 : decode cX1_firstLaneNearer 60 = .ok (.iload 6, 2) := by decide +kernel
theorem dX1_firstLaneNearer_62 : decode cX1_firstLaneNearer 62 = .ok (.ifCond .eq 33, 3) := by decide +kernel
theorem dX1_firstLaneNearer_65 : decode cX1_firstLaneNearer 65 = .ok (.aload_n 0, 1) := by decide +kernel
theorem dX1_firstLaneNearer_66 : decode cX1_firstLaneNearer 66 = .ok (.getfield 9, 3) := by decide +kernel
theorem dX1_firstLaneNearer_69 : decode cX1_firstLaneNearer 69 = .ok (.iload_n 3, 1) := by decide +kernel
theorem dX1_firstLaneNearer_70 : decode cX1_firstLaneNearer 70 = .ok (.iaload, 1) := by decide +kernel
theorem dX1_firstLaneNearer_71 : decode cX1_firstLaneNearer 71 = .ok (.iconst 1, 1) := by decide +kernel
theorem dX1_firstLaneNearer_72 : decode cX1_firstLaneNearer 72 = .ok (.if_icmp .ne 23, 3) := by decide +kernel
theorem dX1_firstLaneNearer_75 : decode cX1_firstLaneNearer 75 = .ok (.aload_n 0, 1) := by decide +kernel
theorem dX1_firstLaneNearer_76 : decode cX1_firstLaneNearer 76 = .ok (.getfield 15, 3) := by decide +kernel
theorem dX1_firstLaneNearer_79 : decode cX1_firstLaneNearer 79 = .ok (.iload 7, 2) := by decide +kernel
theorem dX1_firstLaneNearer_81 : decode cX1_firstLaneNearer 81 = .ok (.iaload, 1) := by decide +kernel
theorem dX1_firstLaneNearer_82 : decode cX1_firstLaneNearer 82 = .ok (.aload_n 0, 1) := by decide +kernel
theorem dX1_firstLaneNearer_83 : decode cX1_firstLaneNearer 83 = .ok (.getfield 15, 3) := by decide +kernel
theorem dX1_firstLaneNearer_86 : decode cX1_firstLaneNearer 86 = .ok (.iload_n 2, 1) := by decide +kernel
theorem dX1_firstLaneNearer_87 : decode cX1_firstLaneNearer 87 = .ok (.iaload, 1) := by decide +kernel
theorem dX1_firstLaneNearer_88 : decode cX1_firstLaneNearer 88 = .ok (.iconst 1, 1) := by decide +kernel
theorem dX1_firstLaneNearer_89 : decode cX1_firstLaneNearer 89 = .ok (.isub, 1) := by decide +kernel
theorem dX1_firstLaneNearer_90 : decode cX1_firstLaneNearer 90 = .ok (.if_icmp .ne 5, 3) := by decide +kernel
theorem dX1_firstLaneNearer_93 : decode cX1_firstLaneNearer 93 = .ok (.iload_n 3, 1) := by decide +kernel
theorem dX1_firstLaneNearer_94 : decode cX1_firstLaneNearer 94 = .ok (.ireturn, 1) := by decide +kernel
theorem dX1_firstLaneNearer_95 : decode cX1_firstLaneNearer 95 = .ok (.iinc 3 1, 3) := by decide +kernel
theorem dX1_firstLaneNearer_98 : decode cX1_firstLaneNearer 98 = .ok (.goto (-96), 3) := by decide +kernel
theorem dX1_firstLaneNearer_101 : decode cX1_firstLaneNearer 101 = .ok (.bipush (-9), 2) := by decide +kernel
theorem dX1_firstLaneNearer_103 : decode cX1_firstLaneNearer 103 = .ok (.ireturn, 1) := by decide +kernel
theorem dX2_init_0 : decode cX2_init 0 = .ok (.aload_n 0, 1) := by decide +kernel
theorem dX2_init_1 : decode cX2_init 1 = .ok (.invokespecial 3, 3) := by decide +kernel
theorem dX2_init_4 : decode cX2_init 4 = .ok (.aload_n 0, 1) := by decide +kernel
theorem dX2_init_5 : decode cX2_init 5 = .ok (.bipush 6, 2) := by decide +kernel
theorem dX2_init_7 : decode cX2_init 7 = .ok (.newarray .int, 2) := by decide +kernel
theorem dX2_init_9 : decode cX2_init 9 = .ok (.putfield 9, 3) := by decide +kernel
theorem dX2_init_12 : decode cX2_init 12 = .ok (.aload_n 0, 1) := by decide +kernel
theorem dX2_init_13 : decode cX2_init 13 = .ok (.bipush 6, 2) := by decide +kernel
theorem dX2_init_15 : decode cX2_init 15 = .ok (.newarray .int, 2) := by decide +kernel
theorem dX2_init_17 : decode cX2_init 17 = .ok (.putfield 15, 3) := by decide +kernel
theorem dX2_init_20 : decode cX2_init 20 = .ok (.aload_n 0, 1) := by decide +kernel
theorem dX2_init_21 : decode cX2_init 21 = .ok (.iconst 0, 1) := by decide +kernel
theorem dX2_init_22 : decode cX2_init 22 = .ok (.putfield 18, 3) := by decide +kernel
theorem dX2_init_25 : decode cX2_init 25 = .ok (.return_, 1) := by decide +kernel
theorem dX2_add_0 : decode cX2_add 0 = .ok (.aload_n 0, 1) := by decide +kernel
theorem dX2_add_1 : decode cX2_add 1 = .ok (.getfield 18, 3) := by decide +kernel
theorem dX2_add_4 : decode cX2_add 4 = .ok (.bipush 6, 2) := by decide +kernel
theorem dX2_add_6 : decode cX2_add 6 = .ok (.if_icmp .lt 5, 3) := by decide +kernel
theorem dX2_add_9 : decode cX2_add 9 = .ok (.iconst 0, 1) := by decide +kernel
theorem dX2_add_10 : decode cX2_add 10 = .ok (.ireturn, 1) := by decide +kernel
theorem dX2_add_11 : decode cX2_add 11 = .ok (.aload_n 0, 1) := by decide +kernel
theorem dX2_add_12 : decode cX2_add 12 = .ok (.getfield 9, 3) := by decide +kernel
theorem dX2_add_15 : decode cX2_add 15 = .ok (.aload_n 0, 1) := by decide +kernel
theorem dX2_add_16 : decode cX2_add 16 = .ok (.getfield 18, 3) := by decide +kernel
theorem dX2_add_19 : decode cX2_add 19 = .ok (.iload_n 1, 1) := by decide +kernel
theorem dX2_add_20 : decode cX2_add 20 = .ok (.iastore, 1) := by decide +kernel
theorem dX2_add_21 : decode cX2_add 21 = .ok (.aload_n 0, 1) := by decide +kernel
theorem dX2_add_22 : decode cX2_add 22 = .ok (.getfield 15, 3) := by decide +kernel
theorem dX2_add_25 : decode cX2_add 25 = .ok (.aload_n 0, 1) := by decide +kernel
theorem dX2_add_26 : decode cX2_add 26 = .ok (.getfield 18, 3) := by decide +kernel
theorem dX2_add_29 : decode cX2_add 29 = .ok (.iload_n 2, 1) := by decide +kernel
theorem dX2_add_30 : decode cX2_add 30 = .ok (.iastore, 1) := by decide +kernel
theorem dX2_add_31 : decode cX2_add 31 = .ok (.aload_n 0, 1) := by decide +kernel
theorem dX2_add_32 : decode cX2_add 32 = .ok (.dup, 1) := by decide +kernel
theorem dX2_add_33 : decode cX2_add 33 = .ok (.getfield 18, 3) := by decide +kernel
theorem dX2_add_36 : decode cX2_add 36 = .ok (.iconst 1, 1) := by decide +kernel
theorem dX2_add_37 : decode cX2_add 37 = .ok (.iadd, 1) := by decide +kernel
theorem dX2_add_38 : decode cX2_add 38 = .ok (.putfield 18, 3) := by decide +kernel
theorem dX2_add_41 : decode cX2_add 41 = .ok (.iconst 1, 1) := by decide +kernel
theorem dX2_add_42 : decode cX2_add 42 = .ok (.ireturn, 1) := by decide +kernel
theorem dX2_allow_0 : decode cX2_allow 0 = .ok (.iconst 0, 1) := by decide +kernel
theorem dX2_allow_1 : decode cX2_allow 1 = .ok (.istore 4, 2) := by decide +kernel
theorem dX2_allow_3 : decode cX2_allow 3 = .ok (.iload 4, 2) := by decide +kernel
theorem dX2_allow_5 : decode cX2_allow 5 = .ok (.aload_n 0, 1) := by decide +kernel
theorem dX2_allow_6 : decode cX2_allow 6 = .ok (.getfield 18, 3) := by decide +kernel
theorem dX2_allow_9 : decode cX2_allow 9 = .ok (.if_icmp .ge 38, 3) := by decide +kernel
theorem dX2_allow_12 : decode cX2_allow 12 = .ok (.aload_n 0, 1) := by decide +kernel
theorem dX2_allow_13 : decode cX2_allow 13 = .ok (.getfield 9, 3) := by decide +kernel
theorem dX2_allow_16 : decode cX2_allow 16 = .ok (.iload 4, 2) := by decide +kernel
theorem dX2_allow_18 : decode cX2_allow 18 = .ok (.iaload, 1) := by decide +kernel
theorem dX2_allow_19 : decode cX2_allow 19 = .ok (.iload_n 1, 1) := by decide +kernel
theorem dX2_allow_20 : decode cX2_allow 20 = .ok (.if_icmp .ne 21, 3) := by decide +kernel
theorem dX2_allow_23 : decode cX2_allow 23 = .ok (.aload_n 0, 1) := by decide +kernel
theorem dX2_allow_24 : decode cX2_allow 24 = .ok (.getfield 15, 3) := by decide +kernel
theorem dX2_allow_27 : decode cX2_allow 27 = .ok (.iload 4, 2) := by decide +kernel
theorem dX2_allow_29 : decode cX2_allow 29 = .ok (.iaload, 1) := by decide +kernel
theorem dX2_allow_30 : decode cX2_allow 30 = .ok (.iload_n 2, 1) := by decide +kernel
theorem dX2_allow_31 : decode cX2_allow 31 = .ok (.isub, 1) := by decide +kernel
theorem dX2_allow_32 : decode cX2_allow 32 = .ok (.invokestatic 22, 3) := by decide +kernel
theorem dX2_allow_35 : decode cX2_allow 35 = .ok (.iload_n 3, 1) := by decide +kernel
theorem dX2_allow_36 : decode cX2_allow 36 = .ok (.if_icmp .le 5, 3) := by decide +kernel
theorem dX2_allow_39 : decode cX2_allow 39 = .ok (.iconst 0, 1) := by decide +kernel
theorem dX2_allow_40 : decode cX2_allow 40 = .ok (.ireturn, 1) := by decide +kernel
theorem dX2_allow_41 : decode cX2_allow 41 = .ok (.iinc 4 1, 3) := by decide +kernel
theorem dX2_allow_44 : decode cX2_allow 44 = .ok (.goto (-41), 3) := by decide +kernel
theorem dX2_allow_47 : decode cX2_allow 47 = .ok (.iconst 1, 1) := by decide +kernel
theorem dX2_allow_48 : decode cX2_allow 48 = .ok (.ireturn, 1) := by decide +kernel
theorem dX3_init_0 : decode cX3_init 0 = .ok (.aload_n 0, 1) := by decide +kernel
theorem dX3_init_1 : decode cX3_init 1 = .ok (.invokespecial 3, 3) := by decide +kernel
theorem dX3_init_4 : decode cX3_init 4 = .ok (.aload_n 0, 1) := by decide +kernel
theorem dX3_init_5 : decode cX3_init 5 = .ok (.iconst 5, 1) := by decide +kernel
theorem dX3_init_6 : decode cX3_init 6 = .ok (.newarray .int, 2) := by decide +kernel
theorem dX3_init_8 : decode cX3_init 8 = .ok (.putfield 9, 3) := by decide +kernel
theorem dX3_init_11 : decode cX3_init 11 = .ok (.aload_n 0, 1) := by decide +kernel
theorem dX3_init_12 : decode cX3_init 12 = .ok (.iconst 5, 1) := by decide +kernel
theorem dX3_init_13 : decode cX3_init 13 = .ok (.newarray .int, 2) := by decide +kernel
theorem dX3_init_15 : decode cX3_init 15 = .ok (.putfield 15, 3) := by decide +kernel
theorem dX3_init_18 : decode cX3_init 18 = .ok (.aload_n 0, 1) := by decide +kernel
theorem dX3_init_19 : decode cX3_init 19 = .ok (.iconst 5, 1) := by decide +kernel
theorem dX3_init_20 : decode cX3_init 20 = .ok (.newarray .int, 2) := by decide +kernel
theorem dX3_init_22 : decode cX3_init 22 = .ok (.putfield 18, 3) := by decide +kernel
theorem dX3_init_25 : decode cX3_init 25 = .ok (.aload_n 0, 1) := by decide +kernel
theorem dX3_init_26 : decode cX3_init 26 = .ok (.iconst 0, 1) := by decide +kernel
theorem dX3_init_27 : decode cX3_init 27 = .ok (.putfield 21, 3) := by decide +kernel
theorem dX3_init_30 : decode cX3_init 30 = .ok (.return_, 1) := by decide +kernel
theorem dX3_begin_0 : decode cX3_begin 0 = .ok (.iconst 0, 1) := by decide +kernel
theorem dX3_begin_1 : decode cX3_begin 1 = .ok (.istore_n 2, 1) := by decide +kernel
theorem dX3_begin_2 : decode cX3_begin 2 = .ok (.iload_n 2, 1) := by decide +kernel
theorem dX3_begin_3 : decode cX3_begin 3 = .ok (.iconst 5, 1) := by decide +kernel
theorem dX3_begin_4 : decode cX3_begin 4 = .ok (.if_icmp .ge 40, 3) := by decide +kernel
theorem dX3_begin_7 : decode cX3_begin 7 = .ok (.aload_n 0, 1) := by decide +kernel
theorem dX3_begin_8 : decode cX3_begin 8 = .ok (.getfield 9, 3) := by decide +kernel
theorem dX3_begin_11 : decode cX3_begin 11 = .ok (.iload_n 2, 1) := by decide +kernel
theorem dX3_begin_12 : decode cX3_begin 12 = .ok (.aload_n 1, 1) := by decide +kernel
theorem dX3_begin_13 : decode cX3_begin 13 = .ok (.getfield 25, 3) := by decide +kernel
theorem dX3_begin_16 : decode cX3_begin 16 = .ok (.iload_n 2, 1) := by decide +kernel
theorem dX3_begin_17 : decode cX3_begin 17 = .ok (.iaload, 1) := by decide +kernel
theorem dX3_begin_18 : decode cX3_begin 18 = .ok (.iastore, 1) := by decide +kernel
theorem dX3_begin_19 : decode cX3_begin 19 = .ok (.aload_n 0, 1) := by decide +kernel
theorem dX3_begin_20 : decode cX3_begin 20 = .ok (.getfield 15, 3) := by decide +kernel
theorem dX3_begin_23 : decode cX3_begin 23 = .ok (.iload_n 2, 1) := by decide +kernel
theorem dX3_begin_24 : decode cX3_begin 24 = .ok (.aload_n 1, 1) := by decide +kernel
theorem dX3_begin_25 : decode cX3_begin 25 = .ok (.getfield 28, 3) := by decide +kernel
theorem dX3_begin_28 : decode cX3_begin 28 = .ok (.iload_n 2, 1) := by decide +kernel
theorem dX3_begin_29 : decode cX3_begin 29 = .ok (.iaload, 1) := by decide +kernel
theorem dX3_begin_30 : decode cX3_begin 30 = .ok (.iastore, 1) := by decide +kernel
theorem dX3_begin_31 : decode cX3_begin 31 = .ok (.aload_n 0, 1) := by decide +kernel
theorem dX3_begin_32 : decode cX3_begin 32 = .ok (.getfield 18, 3) := by decide +kernel
theorem dX3_begin_35 : decode cX3_begin 35 = .ok (.iload_n 2, 1) := by decide +kernel
theorem dX3_begin_36 : decode cX3_begin 36 = .ok (.iconst 0, 1) := by decide +kernel
theorem dX3_begin_37 : decode cX3_begin 37 = .ok (.iastore, 1) := by decide +kernel
theorem dX3_begin_38 : decode cX3_begin 38 = .ok (.iinc 2 1, 3) := by decide +kernel
theorem dX3_begin_41 : decode cX3_begin 41 = .ok (.goto (-39), 3) := by decide +kernel
theorem dX3_begin_44 : decode cX3_begin 44 = .ok (.aload_n 0, 1) := by decide +kernel
theorem dX3_begin_45 : decode cX3_begin 45 = .ok (.iconst 0, 1) := by decide +kernel
theorem dX3_begin_46 : decode cX3_begin 46 = .ok (.putfield 21, 3) := by decide +kernel
theorem dX3_begin_49 : decode cX3_begin 49 = .ok (.return_, 1) := by decide +kernel
theorem dX3_copy_0 : decode cX3_copy 0 = .ok (.iconst 0, 1) := by decide +kernel
theorem dX3_copy_1 : decode cX3_copy 1 = .ok (.istore_n 2, 1) := by decide +kernel
theorem dX3_copy_2 : decode cX3_copy 2 = .ok (.iload_n 2, 1) := by decide +kernel
theorem dX3_copy_3 : decode cX3_copy 3 = .ok (.iconst 5, 1) := by decide +kernel
theorem dX3_copy_4 : decode cX3_copy 4 = .ok (.if_icmp .ge 45, 3) := by decide +kernel
theorem dX3_copy_7 : decode cX3_copy 7 = .ok (.aload_n 0, 1) := by decide +kernel
theorem dX3_copy_8 : decode cX3_copy 8 = .ok (.getfield 9, 3) := by decide +kernel
theorem dX3_copy_11 : decode cX3_copy 11 = .ok (.iload_n 2, 1) := by decide +kernel
theorem dX3_copy_12 : decode cX3_copy 12 = .ok (.aload_n 1, 1) := by decide +kernel
theorem dX3_copy_13 : decode cX3_copy 13 = .ok (.getfield 9, 3) := by decide +kernel
theorem dX3_copy_16 : decode cX3_copy 16 = .ok (.iload_n 2, 1) := by decide +kernel
theorem dX3_copy_17 : decode cX3_copy 17 = .ok (.iaload, 1) := by decide +kernel
theorem dX3_copy_18 : decode cX3_copy 18 = .ok (.iastore, 1) := by decide +kernel
theorem dX3_copy_19 : decode cX3_copy 19 = .ok (.aload_n 0, 1) := by decide +kernel
theorem dX3_copy_20 : decode cX3_copy 20 = .ok (.getfield 15, 3) := by decide +kernel
theorem dX3_copy_23 : decode cX3_copy 23 = .ok (.iload_n 2, 1) := by decide +kernel
theorem dX3_copy_24 : decode cX3_copy 24 = .ok (.aload_n 1, 1) := by decide +kernel
theorem dX3_copy_25 : decode cX3_copy 25 = .ok (.getfield 15, 3) := by decide +kernel
theorem dX3_copy_28 : decode cX3_copy 28 = .ok (.iload_n 2, 1) := by decide +kernel
theorem dX3_copy_29 : decode cX3_copy 29 = .ok (.iaload, 1) := by decide +kernel
theorem dX3_copy_30 : decode cX3_copy 30 = .ok (.iastore, 1) := by decide +kernel
theorem dX3_copy_31 : decode cX3_copy 31 = .ok (.aload_n 0, 1) := by decide +kernel
theorem dX3_copy_32 : decode cX3_copy 32 = .ok (.getfield 18, 3) := by decide +kernel
theorem dX3_copy_35 : decode cX3_copy 35 = .ok (.iload_n 2, 1) := by decide +kernel
theorem dX3_copy_36 : decode cX3_copy 36 = .ok (.aload_n 1, 1) := by decide +kernel
theorem dX3_copy_37 : decode cX3_copy 37 = .ok (.getfield 18, 3) := by decide +kernel
theorem dX3_copy_40 : decode cX3_copy 40 = .ok (.iload_n 2, 1) := by decide +kernel
theorem dX3_copy_41 : decode cX3_copy 41 = .ok (.iaload, 1) := by decide +kernel
theorem dX3_copy_42 : decode cX3_copy 42 = .ok (.iastore, 1) := by decide +kernel
theorem dX3_copy_43 : decode cX3_copy 43 = .ok (.iinc 2 1, 3) := by decide +kernel
theorem dX3_copy_46 : decode cX3_copy 46 = .ok (.goto (-44), 3) := by decide +kernel
theorem dX3_copy_49 : decode cX3_copy 49 = .ok (.aload_n 0, 1) := by decide +kernel
theorem dX3_copy_50 : decode cX3_copy 50 = .ok (.aload_n 1, 1) := by decide +kernel
theorem dX3_copy_51 : decode cX3_copy 51 = .ok (.getfield 21, 3) := by decide +kernel
theorem dX3_copy_54 : decode cX3_copy 54 = .ok (.putfield 21, 3) := by decide +kernel
theorem dX3_copy_57 : decode cX3_copy 57 = .ok (.return_, 1) := by decide +kernel
theorem dX3_close_0 : decode cX3_close 0 = .ok (.aload_n 0, 1) := by decide +kernel
theorem dX3_close_1 : decode cX3_close 1 = .ok (.dup, 1) := by decide +kernel
theorem dX3_close_2 : decode cX3_close 2 = .ok (.getfield 21, 3) := by decide +kernel
theorem dX3_close_5 : decode cX3_close 5 = .ok (.iconst 1, 1) := by decide +kernel
theorem dX3_close_6 : decode cX3_close 6 = .ok (.iload_n 1, 1) := by decide +kernel
theorem dX3_close_7 : decode cX3_close 7 = .ok (.ishl, 1) := by decide +kernel
theorem dX3_close_8 : decode cX3_close 8 = .ok (.ior, 1) := by decide +kernel
theorem dX3_close_9 : decode cX3_close 9 = .ok (.putfield 21, 3) := by decide +kernel
theorem dX3_close_12 : decode cX3_close 12 = .ok (.return_, 1) := by decide +kernel
theorem dX3_open_0 : decode cX3_open 0 = .ok (.aload_n 0, 1) := by decide +kernel
theorem dX3_open_1 : decode cX3_open 1 = .ok (.dup, 1) := by decide +kernel
theorem dX3_open_2 : decode cX3_open 2 = .ok (.getfield 21, 3) := by decide +kernel
theorem dX3_open_5 : decode cX3_open 5 = .ok (.iconst 1, 1) := by decide +kernel
theorem dX3_open_6 : decode cX3_open 6 = .ok (.iload_n 1, 1) := by decide +kernel
theorem dX3_open_7 : decode cX3_open 7 = .ok (.ishl, 1) := by decide +kernel
theorem dX3_open_8 : decode cX3_open 8 = .ok (.iconst (-1), 1) := by decide +kernel
theorem dX3_open_9 : decode cX3_open 9 = .ok (.ixor, 1) := by decide +kernel
theorem dX3_open_10 : decode cX3_open 10 = .ok (.iand, 1) := by decide +kernel
theorem dX3_open_11 : decode cX3_open 11 = .ok (.putfield 21, 3) := by decide +kernel
theorem dX3_open_14 : decode cX3_open 14 = .ok (.return_, 1) := by decide +kernel
theorem dX4_init_0 : decode cX4_init 0 = .ok (.aload_n 0, 1) := by decide +kernel
theorem dX4_init_1 : decode cX4_init 1 = .ok (.invokespecial 3, 3) := by decide +kernel
theorem dX4_init_4 : decode cX4_init 4 = .ok (.aload_n 0, 1) := by decide +kernel
theorem dX4_init_5 : decode cX4_init 5 = .ok (.new 9, 3) := by decide +kernel
theorem dX4_init_8 : decode cX4_init 8 = .ok (.dup, 1) := by decide +kernel
theorem dX4_init_9 : decode cX4_init 9 = .ok (.invokespecial 11, 3) := by decide +kernel
theorem dX4_init_12 : decode cX4_init 12 = .ok (.putfield 12, 3) := by decide +kernel
theorem dX4_init_15 : decode cX4_init 15 = .ok (.aload_n 0, 1) := by decide +kernel
theorem dX4_init_16 : decode cX4_init 16 = .ok (.iconst 0, 1) := by decide +kernel
theorem dX4_init_17 : decode cX4_init 17 = .ok (.putfield 18, 3) := by decide +kernel
theorem dX4_init_20 : decode cX4_init 20 = .ok (.aload_n 0, 1) := by decide +kernel
theorem dX4_init_21 : decode cX4_init 21 = .ok (.iconst 0, 1) := by decide +kernel
theorem dX4_init_22 : decode cX4_init 22 = .ok (.putfield 22, 3) := by decide +kernel
theorem dX4_init_25 : decode cX4_init 25 = .ok (.aload_n 0, 1) := by decide +kernel
theorem dX4_init_26 : decode cX4_init 26 = .ok (.iconst 0, 1) := by decide +kernel
theorem dX4_init_27 : decode cX4_init 27 = .ok (.putfield 25, 3) := by decide +kernel
theorem dX4_init_30 : decode cX4_init 30 = .ok (.aload_n 0, 1) := by decide +kernel
theorem dX4_init_31 : decode cX4_init 31 = .ok (.iconst 0, 1) := by decide +kernel
theorem dX4_init_32 : decode cX4_init 32 = .ok (.putfield 28, 3) := by decide +kernel
theorem dX4_init_35 : decode cX4_init 35 = .ok (.aload_n 0, 1) := by decide +kernel
theorem dX4_init_36 : decode cX4_init 36 = .ok (.iconst 0, 1) := by decide +kernel
theorem dX4_init_37 : decode cX4_init 37 = .ok (.putfield 31, 3) := by decide +kernel
theorem dX4_init_40 : decode cX4_init 40 = .ok (.aload_n 0, 1) := by decide +kernel
theorem dX4_init_41 : decode cX4_init 41 = .ok (.iconst 0, 1) := by decide +kernel
theorem dX4_init_42 : decode cX4_init 42 = .ok (.putfield 35, 3) := by decide +kernel
theorem dX4_init_45 : decode cX4_init 45 = .ok (.return_, 1) := by decide +kernel
theorem dX4_read_0 : decode cX4_read 0 = .ok (.aload_n 1, 1) := by decide +kernel
theorem dX4_read_1 : decode cX4_read 1 = .ok (.invokevirtual 38, 3) := by decide +kernel
theorem dX4_read_4 : decode cX4_read 4 = .ok (.aload_n 0, 1) := by decide +kernel
theorem dX4_read_5 : decode cX4_read 5 = .ok (.iconst 0, 1) := by decide +kernel
theorem dX4_read_6 : decode cX4_read 6 = .ok (.putfield 18, 3) := by decide +kernel
theorem dX4_read_9 : decode cX4_read 9 = .ok (.aload_n 0, 1) := by decide +kernel
theorem dX4_read_10 : decode cX4_read 10 = .ok (.iconst 0, 1) := by decide +kernel
theorem dX4_read_11 : decode cX4_read 11 = .ok (.putfield 31, 3) := by decide +kernel
theorem dX4_read_14 : decode cX4_read 14 = .ok (.aload_n 0, 1) := by decide +kernel
theorem dX4_read_15 : decode cX4_read 15 = .ok (.iconst 0, 1) := by decide +kernel
theorem dX4_read_16 : decode cX4_read 16 = .ok (.putfield 35, 3) := by decide +kernel
theorem dX4_read_19 : decode cX4_read 19 = .ok (.iconst 0, 1) := by decide +kernel
theorem dX4_read_20 : decode cX4_read 20 = .ok (.istore_n 2, 1) := by decide +kernel
theorem dX4_read_21 : decode cX4_read 21 = .ok (.aload_n 0, 1) := by decide +kernel
theorem dX4_read_22 : decode cX4_read 22 = .ok (.invokevirtual 43, 3) := by decide +kernel
theorem dX4_read_25 : decode cX4_read 25 = .ok (.iload_n 2, 1) := by decide +kernel
theorem dX4_read_26 : decode cX4_read 26 = .ok (.sipush 150, 3) := by decide +kernel
theorem dX4_read_29 : decode cX4_read 29 = .ok (.if_icmp .ge 53, 3) := by decide +kernel
theorem dX4_read_32 : decode cX4_read 32 = .ok (.aload_n 0, 1) := by decide +kernel
theorem dX4_read_33 : decode cX4_read 33 = .ok (.getfield 25, 3) := by decide +kernel
theorem dX4_read_36 : decode cX4_read 36 = .ok (.ifCond .eq 46, 3) := by decide +kernel
theorem dX4_read_39 : decode cX4_read 39 = .ok (.aload_n 0, 1) := by decide +kernel
theorem dX4_read_40 : decode cX4_read 40 = .ok (.aload_n 1, 1) := by decide +kernel
theorem dX4_read_41 : decode cX4_read 41 = .ok (.iload_n 2, 1) := by decide +kernel
theorem dX4_read_42 : decode cX4_read 42 = .ok (.ifCond .ne 7, 3) := by decide +kernel
theorem dX4_read_45 : decode cX4_read 45 = .ok (.iconst 1, 1) := by decide +kernel
theorem dX4_read_46 : decode cX4_read 46 = .ok (.goto 4, 3) := by decide +kernel
theorem dX4_read_49 : decode cX4_read 49 = .ok (.iconst 0, 1) := by decide +kernel
theorem dX4_read_50 : decode cX4_read 50 = .ok (.invokevirtual 46, 3) := by decide +kernel
theorem dX4_read_53 : decode cX4_read 53 = .ok (.ifCond .ne 5, 3) := by decide +kernel
theorem dX4_read_56 : decode cX4_read 56 = .ok (.iconst (-1), 1) := by decide +kernel
theorem dX4_read_57 : decode cX4_read 57 = .ok (.ireturn, 1) := by decide +kernel
theorem dX4_read_58 : decode cX4_read 58 = .ok (.aload_n 0, 1) := by decide +kernel
theorem dX4_read_59 : decode cX4_read 59 = .ok (.invokevirtual 43, 3) := by decide +kernel
theorem dX4_read_62 : decode cX4_read 62 = .ok (.aload_n 0, 1) := by decide +kernel
theorem dX4_read_63 : decode cX4_read 63 = .ok (.getfield 25, 3) := by decide +kernel
theorem dX4_read_66 : decode cX4_read 66 = .ok (.iconst 3, 1) := by decide +kernel
theorem dX4_read_67 : decode cX4_read 67 = .ok (.if_icmp .eq 5, 3) := by decide +kernel
theorem dX4_read_70 : decode cX4_read 70 = .ok (.iconst (-1), 1) := by decide +kernel
theorem dX4_read_71 : decode cX4_read 71 = .ok (.ireturn, 1) := by decide +kernel
theorem dX4_read_72 : decode cX4_read 72 = .ok (.iinc 2 1, 3) := by decide +kernel
theorem dX4_read_75 : decode cX4_read 75 = .ok (.aload_n 0, 1) := by decide +kernel
theorem dX4_read_76 : decode cX4_read 76 = .ok (.invokevirtual 43, 3) := by decide +kernel
theorem dX4_read_79 : decode cX4_read 79 = .ok (.goto (-54), 3) := by decide +kernel
theorem dX4_read_82 : decode cX4_read 82 = .ok (.iload_n 2, 1) := by decide +kernel
theorem dX4_read_83 : decode cX4_read 83 = .ok (.ireturn, 1) := by decide +kernel
theorem dX4_readItem_0 : decode cX4_readItem 0 = .ok (.aload_n 0, 1) := by decide +kernel
theorem dX4_readItem_1 : decode cX4_readItem 1 = .ok (.getfield 25, 3) := by decide +kernel
theorem dX4_readItem_4 : decode cX4_readItem 4 = .ok (.iconst 1, 1) := by decide +kernel
theorem dX4_readItem_5 : decode cX4_readItem 5 = .ok (.if_icmp .eq 5, 3) := by decide +kernel
theorem dX4_readItem_8 : decode cX4_readItem 8 = .ok (.iconst 0, 1) := by decide +kernel
theorem dX4_readItem_9 : decode cX4_readItem 9 = .ok (.ireturn, 1) := by decide +kernel
theorem dX4_readItem_10 : decode cX4_readItem 10 = .ok (.aload_n 0, 1) := by decide +kernel
theorem dX4_readItem_11 : decode cX4_readItem 11 = .ok (.getfield 28, 3) := by decide +kernel
theorem dX4_readItem_14 : decode cX4_readItem 14 = .ok (.tableswitch 179 98 112 #[137, 179, 179, 158, 179, 179, 179, 179, 179, 179, 92, 179, 74, 179, 115], 74) := by decide +kernel
theorem dX4_readItem_88 : decode cX4_readItem 88 = .ok (.iload_n 2, 1) := by decide +kernel
theorem dX4_readItem_89 : decode cX4_readItem 89 = .ok (.ifCond .eq 15, 3) := by decide +kernel
theorem dX4_readItem_92 : decode cX4_readItem 92 = .ok (.aload_n 0, 1) := by decide +kernel
theorem dX4_readItem_93 : decode cX4_readItem 93 = .ok (.aload_n 1, 1) := by decide +kernel
theorem dX4_readItem_94 : decode cX4_readItem 94 = .ok (.invokevirtual 50, 3) := by decide +kernel
theorem dX4_readItem_97 : decode cX4_readItem 97 = .ok (.ifCond .eq 7, 3) := by decide +kernel
theorem dX4_readItem_100 : decode cX4_readItem 100 = .ok (.iconst 1, 1) := by decide +kernel
theorem dX4_readItem_101 : decode cX4_readItem 101 = .ok (.goto 4, 3) := by decide +kernel
theorem dX4_readItem_104 : decode cX4_readItem 104 = .ok (.iconst 0, 1) := by decide +kernel
theorem dX4_readItem_105 : decode cX4_readItem 105 = .ok (.ireturn, 1) := by decide +kernel
theorem dX4_readItem_106 : decode cX4_readItem 106 = .ok (.aload_n 1, 1) := by decide +kernel
theorem dX4_readItem_107 : decode cX4_readItem 107 = .ok (.getfield 54, 3) := by decide +kernel
theorem dX4_readItem_110 : decode cX4_readItem 110 = .ok (.bipush 8, 2) := by decide +kernel
theorem dX4_readItem_112 : decode cX4_readItem 112 = .ok (.if_icmp .ge 15, 3) := by decide +kernel
theorem dX4_readItem_115 : decode cX4_readItem 115 = .ok (.aload_n 0, 1) := by decide +kernel
theorem dX4_readItem_116 : decode cX4_readItem 116 = .ok (.aload_n 1, 1) := by decide +kernel
theorem dX4_readItem_117 : decode cX4_readItem 117 = .ok (.invokevirtual 57, 3) := by decide +kernel
theorem dX4_readItem_120 : decode cX4_readItem 120 = .ok (.ifCond .eq 7, 3) := by decide +kernel
theorem dX4_readItem_123 : decode cX4_readItem 123 = .ok (.iconst 1, 1) := by decide +kernel
theorem dX4_readItem_124 : decode cX4_readItem 124 = .ok (.goto 4, 3) := by decide +kernel
theorem dX4_readItem_127 : decode cX4_readItem 127 = .ok (.iconst 0, 1) := by decide +kernel
theorem dX4_readItem_128 : decode cX4_readItem 128 = .ok (.ireturn, 1) := by decide +kernel
theorem dX4_readItem_129 : decode cX4_readItem 129 = .ok (.aload_n 1, 1) := by decide +kernel
theorem dX4_readItem_130 : decode cX4_readItem 130 = .ok (.getfield 60, 3) := by decide +kernel
theorem dX4_readItem_133 : decode cX4_readItem 133 = .ok (.iconst 5, 1) := by decide +kernel
theorem dX4_readItem_134 : decode cX4_readItem 134 = .ok (.if_icmp .ge 15, 3) := by decide +kernel
theorem dX4_readItem_137 : decode cX4_readItem 137 = .ok (.aload_n 0, 1) := by decide +kernel
theorem dX4_readItem_138 : decode cX4_readItem 138 = .ok (.aload_n 1, 1) := by decide +kernel
theorem dX4_readItem_139 : decode cX4_readItem 139 = .ok (.invokevirtual 63, 3) := by decide +kernel
theorem dX4_readItem_142 : decode cX4_readItem 142 = .ok (.ifCond .eq 7, 3) := by decide +kernel
theorem dX4_readItem_145 : decode cX4_readItem 145 = .ok (.iconst 1, 1) := by decide +kernel
theorem dX4_readItem_146 : decode cX4_readItem 146 = .ok (.goto 4, 3) := by decide +kernel
theorem dX4_readItem_149 : decode cX4_readItem 149 = .ok (.iconst 0, 1) := by decide +kernel
theorem dX4_readItem_150 : decode cX4_readItem 150 = .ok (.ireturn, 1) := by decide +kernel
theorem dX4_readItem_151 : decode cX4_readItem 151 = .ok (.aload_n 0, 1) := by decide +kernel
theorem dX4_readItem_152 : decode cX4_readItem 152 = .ok (.getfield 31, 3) := by decide +kernel
theorem dX4_readItem_155 : decode cX4_readItem 155 = .ok (.ifCond .ne 15, 3) := by decide +kernel
theorem dX4_readItem_158 : decode cX4_readItem 158 = .ok (.aload_n 0, 1) := by decide +kernel
theorem dX4_readItem_159 : decode cX4_readItem 159 = .ok (.aload_n 1, 1) := by decide +kernel
theorem dX4_readItem_160 : decode cX4_readItem 160 = .ok (.invokevirtual 66, 3) := by decide +kernel
theorem dX4_readItem_163 : decode cX4_readItem 163 = .ok (.ifCond .eq 7, 3) := by decide +kernel
theorem dX4_readItem_166 : decode cX4_readItem 166 = .ok (.iconst 1, 1) := by decide +kernel
theorem dX4_readItem_167 : decode cX4_readItem 167 = .ok (.goto 4, 3) := by decide +kernel
theorem dX4_readItem_170 : decode cX4_readItem 170 = .ok (.iconst 0, 1) := by decide +kernel
theorem dX4_readItem_171 : decode cX4_readItem 171 = .ok (.ireturn, 1) := by decide +kernel
theorem dX4_readItem_172 : decode cX4_readItem 172 = .ok (.aload_n 0, 1) := by decide +kernel
theorem dX4_readItem_173 : decode cX4_readItem 173 = .ok (.getfield 35, 3) := by decide +kernel
theorem dX4_readItem_176 : decode cX4_readItem 176 = .ok (.ifCond .ne 15, 3) := by decide +kernel
theorem dX4_readItem_179 : decode cX4_readItem 179 = .ok (.aload_n 0, 1) := by decide +kernel
theorem dX4_readItem_180 : decode cX4_readItem 180 = .ok (.aload_n 1, 1) := by decide +kernel
theorem dX4_readItem_181 : decode cX4_readItem 181 = .ok (.invokevirtual 69, 3) := by decide +kernel
theorem dX4_readItem_184 : decode cX4_readItem 184 = .ok (.ifCond .eq 7, 3) := by decide +kernel
theorem dX4_readItem_187 : decode cX4_readItem 187 = .ok (.iconst 1, 1) := by decide +kernel
theorem dX4_readItem_188 : decode cX4_readItem 188 = .ok (.goto 4, 3) := by decide +kernel
theorem dX4_readItem_191 : decode cX4_readItem 191 = .ok (.iconst 0, 1) := by decide +kernel
theorem dX4_readItem_192 : decode cX4_readItem 192 = .ok (.ireturn, 1) := by decide +kernel
theorem dX4_readItem_193 : decode cX4_readItem 193 = .ok (.iconst 0, 1) := by decide +kernel
theorem dX4_readItem_194 : decode cX4_readItem 194 = .ok (.ireturn, 1) := by decide +kernel
theorem dX4_readPlaces_0 : decode cX4_readPlaces 0 = .ok (.aload_n 0, 1) := by decide +kernel
theorem dX4_readPlaces_1 : decode cX4_readPlaces 1 = .ok (.iconst 2, 1) := by decide +kernel
theorem dX4_readPlaces_2 : decode cX4_readPlaces 2 = .ok (.bipush 8, 2) := by decide +kernel
theorem dX4_readPlaces_4 : decode cX4_readPlaces 4 = .ok (.invokevirtual 72, 3) := by decide +kernel
theorem dX4_readPlaces_7 : decode cX4_readPlaces 7 = .ok (.ifCond .ne 5, 3) := by decide +kernel
theorem dX4_readPlaces_10 : decode cX4_readPlaces 10 = .ok (.iconst 0, 1) := by decide +kernel
theorem dX4_readPlaces_11 : decode cX4_readPlaces 11 = .ok (.ireturn, 1) := by decide +kernel
theorem dX4_readPlaces_12 : decode cX4_readPlaces 12 = .ok (.aload_n 1, 1) := by decide +kernel
theorem dX4_readPlaces_13 : decode cX4_readPlaces 13 = .ok (.aload_n 0, 1) := by decide +kernel
theorem dX4_readPlaces_14 : decode cX4_readPlaces 14 = .ok (.getfield 28, 3) := by decide +kernel
theorem dX4_readPlaces_17 : decode cX4_readPlaces 17 = .ok (.putfield 76, 3) := by decide +kernel
theorem dX4_readPlaces_20 : decode cX4_readPlaces 20 = .ok (.iconst 1, 1) := by decide +kernel
theorem dX4_readPlaces_21 : decode cX4_readPlaces 21 = .ok (.ireturn, 1) := by decide +kernel
theorem dX4_readLane_0 : decode cX4_readLane 0 = .ok (.aload_n 0, 1) := by decide +kernel
theorem dX4_readLane_1 : decode cX4_readLane 1 = .ok (.iconst 0, 1) := by decide +kernel
theorem dX4_readLane_2 : decode cX4_readLane 2 = .ok (.aload_n 1, 1) := by decide +kernel
theorem dX4_readLane_3 : decode cX4_readLane 3 = .ok (.getfield 76, 3) := by decide +kernel
theorem dX4_readLane_6 : decode cX4_readLane 6 = .ok (.iconst 1, 1) := by decide +kernel
theorem dX4_readLane_7 : decode cX4_readLane 7 = .ok (.isub, 1) := by decide +kernel
theorem dX4_readLane_8 : decode cX4_readLane 8 = .ok (.invokevirtual 72, 3) := by decide +kernel
theorem dX4_readLane_11 : decode cX4_readLane 11 = .ok (.ifCond .ne 5, 3) := by decide +kernel
theorem dX4_readLane_14 : decode cX4_readLane 14 = .ok (.iconst 0, 1) := by decide +kernel
theorem dX4_readLane_15 : decode cX4_readLane 15 = .ok (.ireturn, 1) := by decide +kernel
theorem dX4_readLane_16 : decode cX4_readLane 16 = .ok (.aload_n 0, 1) := by decide +kernel
theorem dX4_readLane_17 : decode cX4_readLane 17 = .ok (.getfield 28, 3) := by decide +kernel
theorem dX4_readLane_20 : decode cX4_readLane 20 = .ok (.istore_n 2, 1) := by decide +kernel
theorem dX4_readLane_21 : decode cX4_readLane 21 = .ok (.aload_n 0, 1) := by decide +kernel
theorem dX4_readLane_22 : decode cX4_readLane 22 = .ok (.iconst 0, 1) := by decide +kernel
theorem dX4_readLane_23 : decode cX4_readLane 23 = .ok (.aload_n 1, 1) := by decide +kernel
theorem dX4_readLane_24 : decode cX4_readLane 24 = .ok (.getfield 76, 3) := by decide +kernel
theorem dX4_readLane_27 : decode cX4_readLane 27 = .ok (.iconst 1, 1) := by decide +kernel
theorem dX4_readLane_28 : decode cX4_readLane 28 = .ok (.isub, 1) := by decide +kernel
theorem dX4_readLane_29 : decode cX4_readLane 29 = .ok (.invokevirtual 72, 3) := by decide +kernel
theorem dX4_readLane_32 : decode cX4_readLane 32 = .ok (.ifCond .eq 11, 3) := by decide +kernel
theorem dX4_readLane_35 : decode cX4_readLane 35 = .ok (.aload_n 0, 1) := by decide +kernel
theorem dX4_readLane_36 : decode cX4_readLane 36 = .ok (.getfield 28, 3) := by decide +kernel
theorem dX4_readLane_39 : decode cX4_readLane 39 = .ok (.iload_n 2, 1) := by decide +kernel
theorem dX4_readLane_40 : decode cX4_readLane 40 = .ok (.if_icmp .ne 5, 3) := by decide +kernel
theorem dX4_readLane_43 : decode cX4_readLane 43 = .ok (.iconst 0, 1) := by decide +kernel
theorem dX4_readLane_44 : decode cX4_readLane 44 = .ok (.ireturn, 1) := by decide +kernel
theorem dX4_readLane_45 : decode cX4_readLane 45 = .ok (.aload_n 0, 1) := by decide +kernel
theorem dX4_readLane_46 : decode cX4_readLane 46 = .ok (.getfield 28, 3) := by decide +kernel
theorem dX4_readLane_49 : decode cX4_readLane 49 = .ok (.istore_n 3, 1) := by decide +kernel
theorem dX4_readLane_50 : decode cX4_readLane 50 = .ok (.aload_n 0, 1) := by decide +kernel
theorem dX4_readLane_51 : decode cX4_readLane 51 = .ok (.iconst 1, 1) := by decide +kernel
theorem dX4_readLane_52 : decode cX4_readLane 52 = .ok (.bipush 40, 2) := by decide +kernel
theorem dX4_readLane_54 : decode cX4_readLane 54 = .ok (.invokevirtual 72, 3) := by decide +kernel
theorem dX4_readLane_57 : decode cX4_readLane 57 = .ok (.ifCond .eq 20, 3) := by decide +kernel
theorem dX4_readLane_60 : decode cX4_readLane 60 = .ok (.aload_n 1, 1) := by decide +kernel
theorem dX4_readLane_61 : decode cX4_readLane 61 = .ok (.iload_n 2, 1) := by decide +kernel
theorem dX4_readLane_62 : decode cX4_readLane 62 = .ok (.iload_n 3, 1) := by decide +kernel
theorem dX4_readLane_63 : decode cX4_readLane 63 = .ok (.aload_n 0, 1) := by decide +kernel
theorem dX4_readLane_64 : decode cX4_readLane 64 = .ok (.getfield 28, 3) := by decide +kernel
theorem dX4_readLane_67 : decode cX4_readLane 67 = .ok (.invokevirtual 79, 3) := by decide +kernel
theorem dX4_readLane_70 : decode cX4_readLane 70 = .ok (.ifCond .eq 7, 3) := by decide +kernel
theorem dX4_readLane_73 : decode cX4_readLane 73 = .ok (.iconst 1, 1) := by decide +kernel
theorem dX4_readLane_74 : decode cX4_readLane 74 = .ok (.goto 4, 3) := by decide +kernel
theorem dX4_readLane_77 : decode cX4_readLane 77 = .ok (.iconst 0, 1) := by decide +kernel
theorem dX4_readLane_78 : decode cX4_readLane 78 = .ok (.ireturn, 1) := by decide +kernel
theorem dX4_readPerson_0 : decode cX4_readPerson 0 = .ok (.aload_n 0, 1) := by decide +kernel
theorem dX4_readPerson_1 : decode cX4_readPerson 1 = .ok (.iconst 0, 1) := by decide +kernel
theorem dX4_readPerson_2 : decode cX4_readPerson 2 = .ok (.bipush 9, 2) := by decide +kernel
theorem dX4_readPerson_4 : decode cX4_readPerson 4 = .ok (.invokevirtual 72, 3) := by decide +kernel
theorem dX4_readPerson_7 : decode cX4_readPerson 7 = .ok (.ifCond .ne 5, 3) := by decide +kernel
theorem dX4_readPerson_10 : decode cX4_readPerson 10 = .ok (.iconst 0, 1) := by decide +kernel
theorem dX4_readPerson_11 : decode cX4_readPerson 11 = .ok (.ireturn, 1) := by decide +kernel
theorem dX4_readPerson_12 : decode cX4_readPerson 12 = .ok (.aload_n 0, 1) := by decide +kernel
theorem dX4_readPerson_13 : decode cX4_readPerson 13 = .ok (.getfield 28, 3) := by decide +kernel
theorem dX4_readPerson_16 : decode cX4_readPerson 16 = .ok (.istore_n 2, 1) := by decide +kernel
theorem dX4_readPerson_17 : decode cX4_readPerson 17 = .ok (.aload_n 0, 1) := by decide +kernel
theorem dX4_readPerson_18 : decode cX4_readPerson 18 = .ok (.iconst 0, 1) := by decide +kernel
theorem dX4_readPerson_19 : decode cX4_readPerson 19 = .ok (.aload_n 1, 1) := by decide +kernel
theorem dX4_readPerson_20 : decode cX4_readPerson 20 = .ok (.getfield 76, 3) := by decide +kernel
theorem dX4_readPerson_23 : decode cX4_readPerson 23 = .ok (.iconst 1, 1) := by decide +kernel
theorem dX4_readPerson_24 : decode cX4_readPerson 24 = .ok (.isub, 1) := by decide +kernel
theorem dX4_readPerson_25 : decode cX4_readPerson 25 = .ok (.invokevirtual 72, 3) := by decide +kernel
theorem dX4_readPerson_28 : decode cX4_readPerson 28 = .ok (.ifCond .eq 19, 3) := by decide +kernel
theorem dX4_readPerson_31 : decode cX4_readPerson 31 = .ok (.aload_n 1, 1) := by decide +kernel
theorem dX4_readPerson_32 : decode cX4_readPerson 32 = .ok (.iload_n 2, 1) := by decide +kernel
theorem dX4_readPerson_33 : decode cX4_readPerson 33 = .ok (.aload_n 0, 1) := by decide +kernel
theorem dX4_readPerson_34 : decode cX4_readPerson 34 = .ok (.getfield 28, 3) := by decide +kernel
theorem dX4_readPerson_37 : decode cX4_readPerson 37 = .ok (.invokevirtual 83, 3) := by decide +kernel
theorem dX4_readPerson_40 : decode cX4_readPerson 40 = .ok (.ifCond .eq 7, 3) := by decide +kernel
theorem dX4_readPerson_43 : decode cX4_readPerson 43 = .ok (.iconst 1, 1) := by decide +kernel
theorem dX4_readPerson_44 : decode cX4_readPerson 44 = .ok (.goto 4, 3) := by decide +kernel
theorem dX4_readPerson_47 : decode cX4_readPerson 47 = .ok (.iconst 0, 1) := by decide +kernel
theorem dX4_readPerson_48 : decode cX4_readPerson 48 = .ok (.ireturn, 1) := by decide +kernel
theorem dX4_readBody_0 : decode cX4_readBody 0 = .ok (.aload_n 0, 1) := by decide +kernel
theorem dX4_readBody_1 : decode cX4_readBody 1 = .ok (.iconst 1, 1) := by decide +kernel
theorem dX4_readBody_2 : decode cX4_readBody 2 = .ok (.bipush 9, 2) := by decide +kernel
theorem dX4_readBody_4 : decode cX4_readBody 4 = .ok (.invokevirtual 72, 3) := by decide +kernel
theorem dX4_readBody_7 : decode cX4_readBody 7 = .ok (.ifCond .ne 5, 3) := by decide +kernel
theorem dX4_readBody_10 : decode cX4_readBody 10 = .ok (.iconst 0, 1) := by decide +kernel
theorem dX4_readBody_11 : decode cX4_readBody 11 = .ok (.ireturn, 1) := by decide +kernel
theorem dX4_readBody_12 : decode cX4_readBody 12 = .ok (.aload_n 1, 1) := by decide +kernel
theorem dX4_readBody_13 : decode cX4_readBody 13 = .ok (.aload_n 0, 1) := by decide +kernel
theorem dX4_readBody_14 : decode cX4_readBody 14 = .ok (.getfield 28, 3) := by decide +kernel
theorem dX4_readBody_17 : decode cX4_readBody 17 = .ok (.putfield 86, 3) := by decide +kernel
theorem dX4_readBody_20 : decode cX4_readBody 20 = .ok (.aload_n 0, 1) := by decide +kernel
theorem dX4_readBody_21 : decode cX4_readBody 21 = .ok (.iconst 1, 1) := by decide +kernel
theorem dX4_readBody_22 : decode cX4_readBody 22 = .ok (.putfield 31, 3) := by decide +kernel
theorem dX4_readBody_25 : decode cX4_readBody 25 = .ok (.iconst 1, 1) := by decide +kernel
theorem dX4_readBody_26 : decode cX4_readBody 26 = .ok (.ireturn, 1) := by decide +kernel
theorem dX4_readError_0 : decode cX4_readError 0 = .ok (.aload_n 0, 1) := by decide +kernel
theorem dX4_readError_1 : decode cX4_readError 1 = .ok (.iconst 0, 1) := by decide +kernel
theorem dX4_readError_2 : decode cX4_readError 2 = .ok (.iconst 3, 1) := by decide +kernel
theorem dX4_readError_3 : decode cX4_readError 3 = .ok (.invokevirtual 72, 3) := by decide +kernel
theorem dX4_readError_6 : decode cX4_readError 6 = .ok (.ifCond .ne 5, 3) := by decide +kernel
theorem dX4_readError_9 : decode cX4_readError 9 = .ok (.iconst 0, 1) := by decide +kernel
theorem dX4_readError_10 : decode cX4_readError 10 = .ok (.ireturn, 1) := by decide +kernel
theorem dX4_readError_11 : decode cX4_readError 11 = .ok (.aload_n 1, 1) := by decide +kernel
theorem dX4_readError_12 : decode cX4_readError 12 = .ok (.aload_n 0, 1) := by decide +kernel
theorem dX4_readError_13 : decode cX4_readError 13 = .ok (.getfield 28, 3) := by decide +kernel
theorem dX4_readError_16 : decode cX4_readError 16 = .ok (.putfield 89, 3) := by decide +kernel
theorem dX4_readError_19 : decode cX4_readError 19 = .ok (.aload_n 0, 1) := by decide +kernel
theorem dX4_readError_20 : decode cX4_readError 20 = .ok (.iconst 1, 1) := by decide +kernel
theorem dX4_readError_21 : decode cX4_readError 21 = .ok (.putfield 35, 3) := by decide +kernel
theorem dX4_readError_24 : decode cX4_readError 24 = .ok (.iconst 1, 1) := by decide +kernel
theorem dX4_readError_25 : decode cX4_readError 25 = .ok (.ireturn, 1) := by decide +kernel
theorem dX4_isNumber_0 : decode cX4_isNumber 0 = .ok (.aload_n 0, 1) := by decide +kernel
theorem dX4_isNumber_1 : decode cX4_isNumber 1 = .ok (.invokevirtual 43, 3) := by decide +kernel
theorem dX4_isNumber_4 : decode cX4_isNumber 4 = .ok (.aload_n 0, 1) := by decide +kernel
theorem dX4_isNumber_5 : decode cX4_isNumber 5 = .ok (.getfield 25, 3) := by decide +kernel
theorem dX4_isNumber_8 : decode cX4_isNumber 8 = .ok (.iconst 2, 1) := by decide +kernel
theorem dX4_isNumber_9 : decode cX4_isNumber 9 = .ok (.if_icmp .ne 23, 3) := by decide +kernel
theorem dX4_isNumber_12 : decode cX4_isNumber 12 = .ok (.aload_n 0, 1) := by decide +kernel
theorem dX4_isNumber_13 : decode cX4_isNumber 13 = .ok (.getfield 28, 3) := by decide +kernel
theorem dX4_isNumber_16 : decode cX4_isNumber 16 = .ok (.iload_n 1, 1) := by decide +kernel
theorem dX4_isNumber_17 : decode cX4_isNumber 17 = .ok (.if_icmp .lt 15, 3) := by decide +kernel
theorem dX4_isNumber_20 : decode cX4_isNumber 20 = .ok (.aload_n 0, 1) := by decide +kernel
theorem dX4_isNumber_21 : decode cX4_isNumber 21 = .ok (.getfield 28, 3) := by decide +kernel
theorem dX4_isNumber_24 : decode cX4_isNumber 24 = .ok (.iload_n 2, 1) := by decide +kernel
theorem dX4_isNumber_25 : decode cX4_isNumber 25 = .ok (.if_icmp .gt 7, 3) := by decide +kernel
theorem dX4_isNumber_28 : decode cX4_isNumber 28 = .ok (.iconst 1, 1) := by decide +kernel
theorem dX4_isNumber_29 : decode cX4_isNumber 29 = .ok (.goto 4, 3) := by decide +kernel
theorem dX4_isNumber_32 : decode cX4_isNumber 32 = .ok (.iconst 0, 1) := by decide +kernel
theorem dX4_isNumber_33 : decode cX4_isNumber 33 = .ok (.ireturn, 1) := by decide +kernel
theorem dX4_takeToken_0 : decode cX4_takeToken 0 = .ok (.aload_n 0, 1) := by decide +kernel
theorem dX4_takeToken_1 : decode cX4_takeToken 1 = .ok (.aload_n 0, 1) := by decide +kernel
theorem dX4_takeToken_2 : decode cX4_takeToken 2 = .ok (.aload_n 0, 1) := by decide +kernel
theorem dX4_takeToken_3 : decode cX4_takeToken 3 = .ok (.getfield 18, 3) := by decide +kernel
theorem dX4_takeToken_6 : decode cX4_takeToken 6 = .ok (.bipush 32, 2) := by decide +kernel
theorem dX4_takeToken_8 : decode cX4_takeToken 8 = .ok (.bipush 32, 2) := by decide +kernel
theorem dX4_takeToken_10 : decode cX4_takeToken 10 = .ok (.invokevirtual 92, 3) := by decide +kernel
theorem dX4_takeToken_13 : decode cX4_takeToken 13 = .ok (.putfield 18, 3) := by decide +kernel
theorem dX4_takeToken_16 : decode cX4_takeToken 16 = .ok (.aload_n 0, 1) := by decide +kernel
theorem dX4_takeToken_17 : decode cX4_takeToken 17 = .ok (.aload_n 0, 1) := by decide +kernel
theorem dX4_takeToken_18 : decode cX4_takeToken 18 = .ok (.getfield 18, 3) := by decide +kernel
theorem dX4_takeToken_21 : decode cX4_takeToken 21 = .ok (.putfield 22, 3) := by decide +kernel
theorem dX4_takeToken_24 : decode cX4_takeToken 24 = .ok (.aload_n 0, 1) := by decide +kernel
theorem dX4_takeToken_25 : decode cX4_takeToken 25 = .ok (.aload_n 0, 1) := by decide +kernel
theorem dX4_takeToken_26 : decode cX4_takeToken 26 = .ok (.getfield 22, 3) := by decide +kernel
theorem dX4_takeToken_29 : decode cX4_takeToken 29 = .ok (.bipush 97, 2) := by decide +kernel
theorem dX4_takeToken_31 : decode cX4_takeToken 31 = .ok (.bipush 122, 2) := by decide +kernel
theorem dX4_takeToken_33 : decode cX4_takeToken 33 = .ok (.invokevirtual 92, 3) := by decide +kernel
theorem dX4_takeToken_36 : decode cX4_takeToken 36 = .ok (.aload_n 0, 1) := by decide +kernel
theorem dX4_takeToken_37 : decode cX4_takeToken 37 = .ok (.getfield 22, 3) := by decide +kernel
theorem dX4_takeToken_40 : decode cX4_takeToken 40 = .ok (.isub, 1) := by decide +kernel
theorem dX4_takeToken_41 : decode cX4_takeToken 41 = .ok (.istore_n 1, 1) := by decide +kernel
theorem dX4_takeToken_42 : decode cX4_takeToken 42 = .ok (.aload_n 0, 1) := by decide +kernel
theorem dX4_takeToken_43 : decode cX4_takeToken 43 = .ok (.aload_n 0, 1) := by decide +kernel
theorem dX4_takeToken_44 : decode cX4_takeToken 44 = .ok (.getfield 22, 3) := by decide +kernel
theorem dX4_takeToken_47 : decode cX4_takeToken 47 = .ok (.bipush 48, 2) := by decide +kernel
theorem dX4_takeToken_49 : decode cX4_takeToken 49 = .ok (.bipush 57, 2) := by decide +kernel
theorem dX4_takeToken_51 : decode cX4_takeToken 51 = .ok (.invokevirtual 92, 3) := by decide +kernel
theorem dX4_takeToken_54 : decode cX4_takeToken 54 = .ok (.aload_n 0, 1) := by decide +kernel
theorem dX4_takeToken_55 : decode cX4_takeToken 55 = .ok (.getfield 22, 3) := by decide +kernel
theorem dX4_takeToken_58 : decode cX4_takeToken 58 = .ok (.isub, 1) := by decide +kernel
theorem dX4_takeToken_59 : decode cX4_takeToken 59 = .ok (.istore_n 2, 1) := by decide +kernel
theorem dX4_takeToken_60 : decode cX4_takeToken 60 = .ok (.aload_n 0, 1) := by decide +kernel
theorem dX4_takeToken_61 : decode cX4_takeToken 61 = .ok (.getfield 22, 3) := by decide +kernel
theorem dX4_takeToken_64 : decode cX4_takeToken 64 = .ok (.aload_n 0, 1) := by decide +kernel
theorem dX4_takeToken_65 : decode cX4_takeToken 65 = .ok (.getfield 12, 3) := by decide +kernel
theorem dX4_takeToken_68 : decode cX4_takeToken 68 = .ok (.getfield 96, 3) := by decide +kernel
theorem dX4_takeToken_71 : decode cX4_takeToken 71 = .ok (.if_icmp .lt 11, 3) := by decide +kernel
theorem dX4_takeToken_74 : decode cX4_takeToken 74 = .ok (.aload_n 0, 1) := by decide +kernel
theorem dX4_takeToken_75 : decode cX4_takeToken 75 = .ok (.iconst 0, 1) := by decide +kernel
theorem dX4_takeToken_76 : decode cX4_takeToken 76 = .ok (.putfield 25, 3) := by decide +kernel
theorem dX4_takeToken_79 : decode cX4_takeToken 79 = .ok (.goto 98, 3) := by decide +kernel
theorem dX4_takeToken_82 : decode cX4_takeToken 82 = .ok (.iload_n 1, 1) := by decide +kernel
theorem dX4_takeToken_83 : decode cX4_takeToken 83 = .ok (.ifCond .le 46, 3) := by decide +kernel
theorem dX4_takeToken_86 : decode cX4_takeToken 86 = .ok (.aload_n 0, 1) := by decide +kernel
theorem dX4_takeToken_87 : decode cX4_takeToken 87 = .ok (.iload_n 1, 1) := by decide +kernel
theorem dX4_takeToken_88 : decode cX4_takeToken 88 = .ok (.iconst 1, 1) := by decide +kernel
theorem dX4_takeToken_89 : decode cX4_takeToken 89 = .ok (.if_icmp .ne 7, 3) := by decide +kernel
theorem dX4_takeToken_92 : decode cX4_takeToken 92 = .ok (.iconst 1, 1) := by decide +kernel
theorem dX4_takeToken_93 : decode cX4_takeToken 93 = .ok (.goto 4, 3) := by decide +kernel
theorem dX4_takeToken_96 : decode cX4_takeToken 96 = .ok (.iconst 4, 1) := by decide +kernel
theorem dX4_takeToken_97 : decode cX4_takeToken 97 = .ok (.putfield 25, 3) := by decide +kernel
theorem dX4_takeToken_100 : decode cX4_takeToken 100 = .ok (.aload_n 0, 1) := by decide +kernel
theorem dX4_takeToken_101 : decode cX4_takeToken 101 = .ok (.aload_n 0, 1) := by decide +kernel
theorem dX4_takeToken_102 : decode cX4_takeToken 102 = .ok (.getfield 12, 3) := by decide +kernel
theorem dX4_takeToken_105 : decode cX4_takeToken 105 = .ok (.getfield 99, 3) := by decide +kernel
theorem dX4_takeToken_108 : decode cX4_takeToken 108 = .ok (.aload_n 0, 1) := by decide +kernel
theorem dX4_takeToken_109 : decode cX4_takeToken 109 = .ok (.getfield 22, 3) := by decide +kernel
theorem dX4_takeToken_112 : decode cX4_takeToken 112 = .ok (.iaload, 1) := by decide +kernel
theorem dX4_takeToken_113 : decode cX4_takeToken 113 = .ok (.putfield 28, 3) := by decide +kernel
theorem dX4_takeToken_116 : decode cX4_takeToken 116 = .ok (.aload_n 0, 1) := by decide +kernel
theorem dX4_takeToken_117 : decode cX4_takeToken 117 = .ok (.dup, 1) := by decide +kernel
theorem dX4_takeToken_118 : decode cX4_takeToken 118 = .ok (.getfield 18, 3) := by decide +kernel
theorem dX4_takeToken_121 : decode cX4_takeToken 121 = .ok (.iload_n 1, 1) := by decide +kernel
theorem dX4_takeToken_122 : decode cX4_takeToken 122 = .ok (.iadd, 1) := by decide +kernel
theorem dX4_takeToken_123 : decode cX4_takeToken 123 = .ok (.putfield 18, 3) := by decide +kernel
theorem dX4_takeToken_126 : decode cX4_takeToken 126 = .ok (.goto 51, 3) := by decide +kernel
theorem dX4_takeToken_129 : decode cX4_takeToken 129 = .ok (.iload_n 2, 1) := by decide +kernel
theorem dX4_takeToken_130 : decode cX4_takeToken 130 = .ok (.ifCond .le 11, 3) := by decide +kernel
theorem dX4_takeToken_133 : decode cX4_takeToken 133 = .ok (.aload_n 0, 1) := by decide +kernel
theorem dX4_takeToken_134 : decode cX4_takeToken 134 = .ok (.iload_n 2, 1) := by decide +kernel
theorem dX4_takeToken_135 : decode cX4_takeToken 135 = .ok (.invokevirtual 103, 3) := by decide +kernel
theorem dX4_takeToken_138 : decode cX4_takeToken 138 = .ok (.goto 39, 3) := by decide +kernel
theorem dX4_takeToken_141 : decode cX4_takeToken 141 = .ok (.aload_n 0, 1) := by decide +kernel
theorem dX4_takeToken_142 : decode cX4_takeToken 142 = .ok (.aload_n 0, 1) := by decide +kernel
theorem dX4_takeToken_143 : decode cX4_takeToken 143 = .ok (.getfield 12, 3) := by decide +kernel
theorem dX4_takeToken_146 : decode cX4_takeToken 146 = .ok (.getfield 99, 3) := by decide +kernel
theorem dX4_takeToken_149 : decode cX4_takeToken 149 = .ok (.aload_n 0, 1) := by decide +kernel
theorem dX4_takeToken_150 : decode cX4_takeToken 150 = .ok (.getfield 22, 3) := by decide +kernel
theorem dX4_takeToken_153 : decode cX4_takeToken 153 = .ok (.iaload, 1) := by decide +kernel
theorem dX4_takeToken_154 : decode cX4_takeToken 154 = .ok (.bipush 59, 2) := by decide +kernel
theorem dX4_takeToken_156 : decode cX4_takeToken 156 = .ok (.if_icmp .ne 7, 3) := by decide +kernel
theorem dX4_takeToken_159 : decode cX4_takeToken 159 = .ok (.iconst 3, 1) := by decide +kernel
theorem dX4_takeToken_160 : decode cX4_takeToken 160 = .ok (.goto 4, 3) := by decide +kernel
theorem dX4_takeToken_163 : decode cX4_takeToken 163 = .ok (.iconst 4, 1) := by decide +kernel
theorem dX4_takeToken_164 : decode cX4_takeToken 164 = .ok (.putfield 25, 3) := by decide +kernel
theorem dX4_takeToken_167 : decode cX4_takeToken 167 = .ok (.aload_n 0, 1) := by decide +kernel
theorem dX4_takeToken_168 : decode cX4_takeToken 168 = .ok (.dup, 1) := by decide +kernel
theorem dX4_takeToken_169 : decode cX4_takeToken 169 = .ok (.getfield 18, 3) := by decide +kernel
theorem dX4_takeToken_172 : decode cX4_takeToken 172 = .ok (.iconst 1, 1) := by decide +kernel
theorem dX4_takeToken_173 : decode cX4_takeToken 173 = .ok (.iadd, 1) := by decide +kernel
theorem dX4_takeToken_174 : decode cX4_takeToken 174 = .ok (.putfield 18, 3) := by decide +kernel
theorem dX4_takeToken_177 : decode cX4_takeToken 177 = .ok (.return_, 1) := by decide +kernel
theorem dX4_takeNumber_0 : decode cX4_takeNumber 0 = .ok (.iload_n 1, 1) := by decide +kernel
theorem dX4_takeNumber_1 : decode cX4_takeNumber 1 = .ok (.iconst 2, 1) := by decide +kernel
theorem dX4_takeNumber_2 : decode cX4_takeNumber 2 = .ok (.if_icmp .gt 25, 3) := by decide +kernel
theorem dX4_takeNumber_5 : decode cX4_takeNumber 5 = .ok (.iload_n 1, 1) := by decide +kernel
theorem dX4_takeNumber_6 : decode cX4_takeNumber 6 = .ok (.iconst 2, 1) := by decide +kernel
theorem dX4_takeNumber_7 : decode cX4_takeNumber 7 = .ok (.if_icmp .ne 24, 3) := by decide +kernel
theorem dX4_takeNumber_10 : decode cX4_takeNumber 10 = .ok (.aload_n 0, 1) := by decide +kernel
theorem dX4_takeNumber_11 : decode cX4_takeNumber 11 = .ok (.getfield 12, 3) := by decide +kernel
theorem dX4_takeNumber_14 : decode cX4_takeNumber 14 = .ok (.getfield 99, 3) := by decide +kernel
theorem dX4_takeNumber_17 : decode cX4_takeNumber 17 = .ok (.aload_n 0, 1) := by decide +kernel
theorem dX4_takeNumber_18 : decode cX4_takeNumber 18 = .ok (.getfield 22, 3) := by decide +kernel
theorem dX4_takeNumber_21 : decode cX4_takeNumber 21 = .ok (.iaload, 1) := by decide +kernel
theorem dX4_takeNumber_22 : decode cX4_takeNumber 22 = .ok (.bipush 48, 2) := by decide +kernel
theorem dX4_takeNumber_24 : decode cX4_takeNumber 24 = .ok (.if_icmp .ne 7, 3) := by decide +kernel
theorem dX4_takeNumber_27 : decode cX4_takeNumber 27 = .ok (.iconst 1, 1) := by decide +kernel
theorem dX4_takeNumber_28 : decode cX4_takeNumber 28 = .ok (.goto 4, 3) := by decide +kernel
theorem dX4_takeNumber_31 : decode cX4_takeNumber 31 = .ok (.iconst 0, 1) := by decide +kernel
theorem dX4_takeNumber_32 : decode cX4_takeNumber 32 = .ok (.istore_n 2, 1) := by decide +kernel
theorem dX4_takeNumber_33 : decode cX4_takeNumber 33 = .ok (.aload_n 0, 1) := by decide +kernel
theorem dX4_takeNumber_34 : decode cX4_takeNumber 34 = .ok (.iload_n 2, 1) := by decide +kernel
theorem dX4_takeNumber_35 : decode cX4_takeNumber 35 = .ok (.ifCond .eq 7, 3) := by decide +kernel
theorem dX4_takeNumber_38 : decode cX4_takeNumber 38 = .ok (.iconst 4, 1) := by decide +kernel
theorem dX4_takeNumber_39 : decode cX4_takeNumber 39 = .ok (.goto 4, 3) := by decide +kernel
theorem dX4_takeNumber_42 : decode cX4_takeNumber 42 = .ok (.iconst 2, 1) := by decide +kernel
theorem dX4_takeNumber_43 : decode cX4_takeNumber 43 = .ok (.putfield 25, 3) := by decide +kernel
theorem dX4_takeNumber_46 : decode cX4_takeNumber 46 = .ok (.aload_n 0, 1) := by decide +kernel
theorem dX4_takeNumber_47 : decode cX4_takeNumber 47 = .ok (.iconst 0, 1) := by decide +kernel
theorem dX4_takeNumber_48 : decode cX4_takeNumber 48 = .ok (.putfield 28, 3) := by decide +kernel
theorem dX4_takeNumber_51 : decode cX4_takeNumber 51 = .ok (.iconst 0, 1) := by decide +kernel
theorem dX4_takeNumber_52 : decode cX4_takeNumber 52 = .ok (.istore_n 3, 1) := by decide +kernel
theorem dX4_takeNumber_53 : decode cX4_takeNumber 53 = .ok (.iload_n 3, 1) := by decide +kernel
theorem dX4_takeNumber_54 : decode cX4_takeNumber 54 = .ok (.iload_n 1, 1) := by decide +kernel
theorem dX4_takeNumber_55 : decode cX4_takeNumber 55 = .ok (.if_icmp .ge 46, 3) := by decide +kernel
theorem dX4_takeNumber_58 : decode cX4_takeNumber 58 = .ok (.aload_n 0, 1) := by decide +kernel
theorem dX4_takeNumber_59 : decode cX4_takeNumber 59 = .ok (.aload_n 0, 1) := by decide +kernel
theorem dX4_takeNumber_60 : decode cX4_takeNumber 60 = .ok (.getfield 28, 3) := by decide +kernel
theorem dX4_takeNumber_63 : decode cX4_takeNumber 63 = .ok (.bipush 10, 2) := by decide +kernel
theorem dX4_takeNumber_65 : decode cX4_takeNumber 65 = .ok (.imul, 1) := by decide +kernel
theorem dX4_takeNumber_66 : decode cX4_takeNumber 66 = .ok (.aload_n 0, 1) := by decide +kernel
theorem dX4_takeNumber_67 : decode cX4_takeNumber 67 = .ok (.getfield 12, 3) := by decide +kernel
theorem dX4_takeNumber_70 : decode cX4_takeNumber 70 = .ok (.getfield 99, 3) := by decide +kernel
theorem dX4_takeNumber_73 : decode cX4_takeNumber 73 = .ok (.aload_n 0, 1) := by decide +kernel
theorem dX4_takeNumber_74 : decode cX4_takeNumber 74 = .ok (.getfield 18, 3) := by decide +kernel
theorem dX4_takeNumber_77 : decode cX4_takeNumber 77 = .ok (.iaload, 1) := by decide +kernel
theorem dX4_takeNumber_78 : decode cX4_takeNumber 78 = .ok (.iadd, 1) := by decide +kernel
theorem dX4_takeNumber_79 : decode cX4_takeNumber 79 = .ok (.bipush 48, 2) := by decide +kernel
theorem dX4_takeNumber_81 : decode cX4_takeNumber 81 = .ok (.isub, 1) := by decide +kernel
theorem dX4_takeNumber_82 : decode cX4_takeNumber 82 = .ok (.putfield 28, 3) := by decide +kernel
theorem dX4_takeNumber_85 : decode cX4_takeNumber 85 = .ok (.aload_n 0, 1) := by decide +kernel
theorem dX4_takeNumber_86 : decode cX4_takeNumber 86 = .ok (.dup, 1) := by decide +kernel
theorem dX4_takeNumber_87 : decode cX4_takeNumber 87 = .ok (.getfield 18, 3) := by decide +kernel
theorem dX4_takeNumber_90 : decode cX4_takeNumber 90 = .ok (.iconst 1, 1) := by decide +kernel
theorem dX4_takeNumber_91 : decode cX4_takeNumber 91 = .ok (.iadd, 1) := by decide +kernel
theorem dX4_takeNumber_92 : decode cX4_takeNumber 92 = .ok (.putfield 18, 3) := by decide +kernel
theorem dX4_takeNumber_95 : decode cX4_takeNumber 95 = .ok (.iinc 3 1, 3) := by decide +kernel
theorem dX4_takeNumber_98 : decode cX4_takeNumber 98 = .ok (.goto (-45), 3) := by decide +kernel
theorem dX4_takeNumber_101 : decode cX4_takeNumber 101 = .ok (.return_, 1) := by decide +kernel
theorem dX4_endOfRun_0 : decode cX4_endOfRun 0 = .ok (.iload_n 1, 1) := by decide +kernel
theorem dX4_endOfRun_1 : decode cX4_endOfRun 1 = .ok (.istore 4, 2) := by decide +kernel
theorem dX4_endOfRun_3 : decode cX4_endOfRun 3 = .ok (.iload 4, 2) := by decide +kernel
theorem dX4_endOfRun_5 : decode cX4_endOfRun 5 = .ok (.aload_n 0, 1) := by decide +kernel
theorem dX4_endOfRun_6 : decode cX4_endOfRun 6 = .ok (.getfield 12, 3) := by decide +kernel
theorem dX4_endOfRun_9 : decode cX4_endOfRun 9 = .ok (.getfield 96, 3) := by decide +kernel
theorem dX4_endOfRun_12 : decode cX4_endOfRun 12 = .ok (.if_icmp .ge 37, 3) := by decide +kernel
theorem dX4_endOfRun_15 : decode cX4_endOfRun 15 = .ok (.aload_n 0, 1) := by decide +kernel
theorem dX4_endOfRun_16 : decode cX4_endOfRun 16 = .ok (.getfield 12, 3) := by decide +kernel
theorem dX4_endOfRun_19 : decode cX4_endOfRun 19 = .ok (.getfield 99, 3) := by decide +kernel
theorem dX4_endOfRun_22 : decode cX4_endOfRun 22 = .ok (.iload 4, 2) := by decide +kernel
theorem dX4_endOfRun_24 : decode cX4_endOfRun 24 = .ok (.iaload, 1) := by decide +kernel
theorem dX4_endOfRun_25 : decode cX4_endOfRun 25 = .ok (.iload_n 2, 1) := by decide +kernel
theorem dX4_endOfRun_26 : decode cX4_endOfRun 26 = .ok (.if_icmp .lt 23, 3) := by decide +kernel
theorem dX4_endOfRun_29 : decode cX4_endOfRun 29 = .ok (.aload_n 0, 1) := by decide +kernel
theorem dX4_endOfRun_30 : decode cX4_endOfRun 30 = .ok (.getfield 12, 3) := by decide +kernel
theorem dX4_endOfRun_33 : decode cX4_endOfRun 33 = .ok (.getfield 99, 3) := by decide +kernel
theorem dX4_endOfRun_36 : decode cX4_endOfRun 36 = .ok (.iload 4, 2) := by decide +kernel
theorem dX4_endOfRun_38 : decode cX4_endOfRun 38 = .ok (.iaload, 1) := by decide +kernel
theorem dX4_endOfRun_39 : decode cX4_endOfRun 39 = .ok (.iload_n 3, 1) := by decide +kernel
theorem dX4_endOfRun_40 : decode cX4_endOfRun 40 = .ok (.if_icmp .gt 9, 3) := by decide +kernel
theorem dX4_endOfRun_43 : decode cX4_endOfRun 43 = .ok (.iinc 4 1, 3) := by decide +kernel
theorem dX4_endOfRun_46 : decode cX4_endOfRun 46 = .ok (.goto (-43), 3) := by decide +kernel
theorem dX4_endOfRun_49 : decode cX4_endOfRun 49 = .ok (.iload 4, 2) := by decide +kernel
theorem dX4_endOfRun_51 : decode cX4_endOfRun 51 = .ok (.ireturn, 1) := by decide +kernel
theorem dX5_init_0 : decode cX5_init 0 = .ok (.aload_n 0, 1) := by decide +kernel
theorem dX5_init_1 : decode cX5_init 1 = .ok (.invokespecial 3, 3) := by decide +kernel
theorem dX5_init_4 : decode cX5_init 4 = .ok (.aload_n 0, 1) := by decide +kernel
theorem dX5_init_5 : decode cX5_init 5 = .ok (.sipush 150, 3) := by decide +kernel
theorem dX5_init_8 : decode cX5_init 8 = .ok (.newarray .int, 2) := by decide +kernel
theorem dX5_init_10 : decode cX5_init 10 = .ok (.putfield 9, 3) := by decide +kernel
theorem dX5_init_13 : decode cX5_init 13 = .ok (.aload_n 0, 1) := by decide +kernel
theorem dX5_init_14 : decode cX5_init 14 = .ok (.iconst 0, 1) := by decide +kernel
theorem dX5_init_15 : decode cX5_init 15 = .ok (.putfield 15, 3) := by decide +kernel
theorem dX5_init_18 : decode cX5_init 18 = .ok (.return_, 1) := by decide +kernel
theorem dX5_add_0 : decode cX5_add 0 = .ok (.aload_n 0, 1) := by decide +kernel
theorem dX5_add_1 : decode cX5_add 1 = .ok (.getfield 15, 3) := by decide +kernel
theorem dX5_add_4 : decode cX5_add 4 = .ok (.sipush 150, 3) := by decide +kernel
theorem dX5_add_7 : decode cX5_add 7 = .ok (.if_icmp .lt 5, 3) := by decide +kernel
theorem dX5_add_10 : decode cX5_add 10 = .ok (.iconst 0, 1) := by decide +kernel
theorem dX5_add_11 : decode cX5_add 11 = .ok (.ireturn, 1) := by decide +kernel
theorem dX5_add_12 : decode cX5_add 12 = .ok (.aload_n 0, 1) := by decide +kernel
theorem dX5_add_13 : decode cX5_add 13 = .ok (.getfield 9, 3) := by decide +kernel
theorem dX5_add_16 : decode cX5_add 16 = .ok (.aload_n 0, 1) := by decide +kernel
theorem dX5_add_17 : decode cX5_add 17 = .ok (.getfield 15, 3) := by decide +kernel
theorem dX5_add_20 : decode cX5_add 20 = .ok (.iload_n 1, 1) := by decide +kernel
theorem dX5_add_21 : decode cX5_add 21 = .ok (.iastore, 1) := by decide +kernel
theorem dX5_add_22 : decode cX5_add 22 = .ok (.aload_n 0, 1) := by decide +kernel
theorem dX5_add_23 : decode cX5_add 23 = .ok (.dup, 1) := by decide +kernel
theorem dX5_add_24 : decode cX5_add 24 = .ok (.getfield 15, 3) := by decide +kernel
theorem dX5_add_27 : decode cX5_add 27 = .ok (.iconst 1, 1) := by decide +kernel
theorem dX5_add_28 : decode cX5_add 28 = .ok (.iadd, 1) := by decide +kernel
theorem dX5_add_29 : decode cX5_add 29 = .ok (.putfield 15, 3) := by decide +kernel
theorem dX5_add_32 : decode cX5_add 32 = .ok (.iconst 1, 1) := by decide +kernel
theorem dX5_add_33 : decode cX5_add 33 = .ok (.ireturn, 1) := by decide +kernel
theorem dX6_init_0 : decode cX6_init 0 = .ok (.aload_n 0, 1) := by decide +kernel
theorem dX6_init_1 : decode cX6_init 1 = .ok (.invokespecial 3, 3) := by decide +kernel
theorem dX6_init_4 : decode cX6_init 4 = .ok (.aload_n 0, 1) := by decide +kernel
theorem dX6_init_5 : decode cX6_init 5 = .ok (.iconst 5, 1) := by decide +kernel
theorem dX6_init_6 : decode cX6_init 6 = .ok (.newarray .int, 2) := by decide +kernel
theorem dX6_init_8 : decode cX6_init 8 = .ok (.putfield 9, 3) := by decide +kernel
theorem dX6_init_11 : decode cX6_init 11 = .ok (.aload_n 0, 1) := by decide +kernel
theorem dX6_init_12 : decode cX6_init 12 = .ok (.iconst 5, 1) := by decide +kernel
theorem dX6_init_13 : decode cX6_init 13 = .ok (.newarray .int, 2) := by decide +kernel
theorem dX6_init_15 : decode cX6_init 15 = .ok (.putfield 15, 3) := by decide +kernel
theorem dX6_init_18 : decode cX6_init 18 = .ok (.aload_n 0, 1) := by decide +kernel
theorem dX6_init_19 : decode cX6_init 19 = .ok (.iconst 5, 1) := by decide +kernel
theorem dX6_init_20 : decode cX6_init 20 = .ok (.newarray .int, 2) := by decide +kernel
theorem dX6_init_22 : decode cX6_init 22 = .ok (.putfield 18, 3) := by decide +kernel
theorem dX6_init_25 : decode cX6_init 25 = .ok (.aload_n 0, 1) := by decide +kernel
theorem dX6_init_26 : decode cX6_init 26 = .ok (.iconst 0, 1) := by decide +kernel
theorem dX6_init_27 : decode cX6_init 27 = .ok (.putfield 21, 3) := by decide +kernel
theorem dX6_init_30 : decode cX6_init 30 = .ok (.aload_n 0, 1) := by decide +kernel
theorem dX6_init_31 : decode cX6_init 31 = .ok (.iconst 0, 1) := by decide +kernel
theorem dX6_init_32 : decode cX6_init 32 = .ok (.putfield 25, 3) := by decide +kernel
theorem dX6_init_35 : decode cX6_init 35 = .ok (.return_, 1) := by decide +kernel
theorem dX6_begin_0 : decode cX6_begin 0 = .ok (.aload_n 0, 1) := by decide +kernel
theorem dX6_begin_1 : decode cX6_begin 1 = .ok (.iload_n 1, 1) := by decide +kernel
theorem dX6_begin_2 : decode cX6_begin 2 = .ok (.putfield 25, 3) := by decide +kernel
theorem dX6_begin_5 : decode cX6_begin 5 = .ok (.aload_n 0, 1) := by decide +kernel
theorem dX6_begin_6 : decode cX6_begin 6 = .ok (.iload_n 2, 1) := by decide +kernel
theorem dX6_begin_7 : decode cX6_begin 7 = .ok (.iconst 5, 1) := by decide +kernel
theorem dX6_begin_8 : decode cX6_begin 8 = .ok (.invokestatic 28, 3) := by decide +kernel
theorem dX6_begin_11 : decode cX6_begin 11 = .ok (.putfield 21, 3) := by decide +kernel
theorem dX6_begin_14 : decode cX6_begin 14 = .ok (.return_, 1) := by decide +kernel
theorem dX6_admit_0 : decode cX6_admit 0 = .ok (.iload_n 1, 1) := by decide +kernel
theorem dX6_admit_1 : decode cX6_admit 1 = .ok (.ifCond .lt 18, 3) := by decide +kernel
theorem dX6_admit_4 : decode cX6_admit 4 = .ok (.iload_n 1, 1) := by decide +kernel
theorem dX6_admit_5 : decode cX6_admit 5 = .ok (.aload_n 0, 1) := by decide +kernel
theorem dX6_admit_6 : decode cX6_admit 6 = .ok (.getfield 21, 3) := by decide +kernel
theorem dX6_admit_9 : decode cX6_admit 9 = .ok (.if_icmp .ge 10, 3) := by decide +kernel
theorem dX6_admit_12 : decode cX6_admit 12 = .ok (.aload_n 0, 1) := by decide +kernel
theorem dX6_admit_13 : decode cX6_admit 13 = .ok (.getfield 9, 3) := by decide +kernel
theorem dX6_admit_16 : decode cX6_admit 16 = .ok (.iload_n 1, 1) := by decide +kernel
theorem dX6_admit_17 : decode cX6_admit 17 = .ok (.iload_n 2, 1) := by decide +kernel
theorem dX6_admit_18 : decode cX6_admit 18 = .ok (.iastore, 1) := by decide +kernel
theorem dX6_admit_19 : decode cX6_admit 19 = .ok (.return_, 1) := by decide +kernel
theorem dX6_fill_0 : decode cX6_fill 0 = .ok (.iconst 0, 1) := by decide +kernel
theorem dX6_fill_1 : decode cX6_fill 1 = .ok (.istore_n 1, 1) := by decide +kernel
theorem dX6_fill_2 : decode cX6_fill 2 = .ok (.iload_n 1, 1) := by decide +kernel
theorem dX6_fill_3 : decode cX6_fill 3 = .ok (.aload_n 0, 1) := by decide +kernel
theorem dX6_fill_4 : decode cX6_fill 4 = .ok (.getfield 21, 3) := by decide +kernel
theorem dX6_fill_7 : decode cX6_fill 7 = .ok (.if_icmp .gt 44, 3) := by decide +kernel
theorem dX6_fill_10 : decode cX6_fill 10 = .ok (.iconst 0, 1) := by decide +kernel
theorem dX6_fill_11 : decode cX6_fill 11 = .ok (.istore_n 2, 1) := by decide +kernel
theorem dX6_fill_12 : decode cX6_fill 12 = .ok (.iload_n 2, 1) := by decide +kernel
theorem dX6_fill_13 : decode cX6_fill 13 = .ok (.iload_n 1, 1) := by decide +kernel
theorem dX6_fill_14 : decode cX6_fill 14 = .ok (.if_icmp .ge 19, 3) := by decide +kernel
theorem dX6_fill_17 : decode cX6_fill 17 = .ok (.aload_n 0, 1) := by decide +kernel
theorem dX6_fill_18 : decode cX6_fill 18 = .ok (.getfield 18, 3) := by decide +kernel
theorem dX6_fill_21 : decode cX6_fill 21 = .ok (.iload_n 2, 1) := by decide +kernel
theorem dX6_fill_22 : decode cX6_fill 22 = .ok (.aload_n 0, 1) := by decide +kernel
theorem dX6_fill_23 : decode cX6_fill 23 = .ok (.getfield 25, 3) := by decide +kernel
theorem dX6_fill_26 : decode cX6_fill 26 = .ok (.iastore, 1) := by decide +kernel
theorem dX6_fill_27 : decode cX6_fill 27 = .ok (.iinc 2 1, 3) := by decide +kernel
theorem dX6_fill_30 : decode cX6_fill 30 = .ok (.goto (-18), 3) := by decide +kernel
theorem dX6_fill_33 : decode cX6_fill 33 = .ok (.aload_n 0, 1) := by decide +kernel
theorem dX6_fill_34 : decode cX6_fill 34 = .ok (.iconst 0, 1) := by decide +kernel
theorem dX6_fill_35 : decode cX6_fill 35 = .ok (.iconst 0, 1) := by decide +kernel
theorem dX6_fill_36 : decode cX6_fill 36 = .ok (.iload_n 1, 1) := by decide +kernel
theorem dX6_fill_37 : decode cX6_fill 37 = .ok (.invokestatic 34, 3) := by decide +kernel
theorem dX6_fill_40 : decode cX6_fill 40 = .ok (.ifCond .eq 5, 3) := by decide +kernel
theorem dX6_fill_43 : decode cX6_fill 43 = .ok (.iload_n 1, 1) := by decide +kernel
theorem dX6_fill_44 : decode cX6_fill 44 = .ok (.ireturn, 1) := by decide +kernel
theorem dX6_fill_45 : decode cX6_fill 45 = .ok (.iinc 1 1, 3) := by decide +kernel
theorem dX6_fill_48 : decode cX6_fill 48 = .ok (.goto (-46), 3) := by decide +kernel
theorem dX6_fill_51 : decode cX6_fill 51 = .ok (.bipush (-9), 2) := by decide +kernel
theorem dX6_fill_53 : decode cX6_fill 53 = .ok (.ireturn, 1) := by decide +kernel
theorem dX6_seat_0 : decode cX6_seat 0 = .ok (.iload_n 1, 1) := by decide +kernel
theorem dX6_seat_1 : decode cX6_seat 1 = .ok (.aload_n 0, 1) := by decide +kernel
theorem dX6_seat_2 : decode cX6_seat 2 = .ok (.getfield 21, 3) := by decide +kernel
theorem dX6_seat_5 : decode cX6_seat 5 = .ok (.if_icmp .lt 5, 3) := by decide +kernel
theorem dX6_seat_8 : decode cX6_seat 8 = .ok (.iconst 1, 1) := by decide +kernel
theorem dX6_seat_9 : decode cX6_seat 9 = .ok (.ireturn, 1) := by decide +kernel
theorem dX6_seat_10 : decode cX6_seat 10 = .ok (.aload_n 0, 1) := by decide +kernel
theorem dX6_seat_11 : decode cX6_seat 11 = .ok (.getfield 9, 3) := by decide +kernel
theorem dX6_seat_14 : decode cX6_seat 14 = .ok (.iload_n 1, 1) := by decide +kernel
theorem dX6_seat_15 : decode cX6_seat 15 = .ok (.iaload, 1) := by decide +kernel
theorem dX6_seat_16 : decode cX6_seat 16 = .ok (.istore 4, 2) := by decide +kernel
theorem dX6_seat_18 : decode cX6_seat 18 = .ok (.iconst 0, 1) := by decide +kernel
theorem dX6_seat_19 : decode cX6_seat 19 = .ok (.istore 5, 2) := by decide +kernel
theorem dX6_seat_21 : decode cX6_seat 21 = .ok (.iload 5, 2) := by decide +kernel
theorem dX6_seat_23 : decode cX6_seat 23 = .ok (.iload_n 2, 1) := by decide +kernel
theorem dX6_seat_24 : decode cX6_seat 24 = .ok (.if_icmp .gt 80, 3) := by decide +kernel
theorem dX6_seat_27 : decode cX6_seat 27 = .ok (.iload 5, 2) := by decide +kernel
theorem dX6_seat_29 : decode cX6_seat 29 = .ok (.iload_n 3, 1) := by decide +kernel
theorem dX6_seat_30 : decode cX6_seat 30 = .ok (.if_icmp .ge 74, 3) := by decide +kernel
theorem dX6_seat_33 : decode cX6_seat 33 = .ok (.iload 4, 2) := by decide +kernel
theorem dX6_seat_35 : decode cX6_seat 35 = .ok (.aload_n 0, 1) := by decide +kernel
theorem dX6_seat_36 : decode cX6_seat 36 = .ok (.getfield 18, 3) := by decide +kernel
theorem dX6_seat_39 : decode cX6_seat 39 = .ok (.iload 5, 2) := by decide +kernel
theorem dX6_seat_41 : decode cX6_seat 41 = .ok (.iaload, 1) := by decide +kernel
theorem dX6_seat_42 : decode cX6_seat 42 = .ok (.if_icmp .gt 56, 3) := by decide +kernel
theorem dX6_seat_45 : decode cX6_seat 45 = .ok (.aload_n 0, 1) := by decide +kernel
theorem dX6_seat_46 : decode cX6_seat 46 = .ok (.getfield 15, 3) := by decide +kernel
theorem dX6_seat_49 : decode cX6_seat 49 = .ok (.iload_n 1, 1) := by decide +kernel
theorem dX6_seat_50 : decode cX6_seat 50 = .ok (.iload 5, 2) := by decide +kernel
theorem dX6_seat_52 : decode cX6_seat 52 = .ok (.iastore, 1) := by decide +kernel
theorem dX6_seat_53 : decode cX6_seat 53 = .ok (.aload_n 0, 1) := by decide +kernel
theorem dX6_seat_54 : decode cX6_seat 54 = .ok (.getfield 18, 3) := by decide +kernel
theorem dX6_seat_57 : decode cX6_seat 57 = .ok (.iload 5, 2) := by decide +kernel
theorem dX6_seat_59 : decode cX6_seat 59 = .ok (.dup2, 1) := by decide +kernel
theorem dX6_seat_60 : decode cX6_seat 60 = .ok (.iaload, 1) := by decide +kernel
theorem dX6_seat_61 : decode cX6_seat 61 = .ok (.iload 4, 2) := by decide +kernel
theorem dX6_seat_63 : decode cX6_seat 63 = .ok (.isub, 1) := by decide +kernel
theorem dX6_seat_64 : decode cX6_seat 64 = .ok (.iastore, 1) := by decide +kernel
theorem dX6_seat_65 : decode cX6_seat 65 = .ok (.aload_n 0, 1) := by decide +kernel
theorem dX6_seat_66 : decode cX6_seat 66 = .ok (.iload_n 1, 1) := by decide +kernel
theorem dX6_seat_67 : decode cX6_seat 67 = .ok (.iconst 1, 1) := by decide +kernel
theorem dX6_seat_68 : decode cX6_seat 68 = .ok (.iadd, 1) := by decide +kernel
theorem dX6_seat_69 : decode cX6_seat 69 = .ok (.iload_n 2, 1) := by decide +kernel
theorem dX6_seat_70 : decode cX6_seat 70 = .ok (.iload 5, 2) := by decide +kernel
theorem dX6_seat_72 : decode cX6_seat 72 = .ok (.iconst 1, 1) := by decide +kernel
theorem dX6_seat_73 : decode cX6_seat 73 = .ok (.iadd, 1) := by decide +kernel
theorem dX6_seat_74 : decode cX6_seat 74 = .ok (.invokestatic 38, 3) := by decide +kernel
theorem dX6_seat_77 : decode cX6_seat 77 = .ok (.iload_n 3, 1) := by decide +kernel
theorem dX6_seat_78 : decode cX6_seat 78 = .ok (.invokestatic 34, 3) := by decide +kernel
theorem dX6_seat_81 : decode cX6_seat 81 = .ok (.ifCond .eq 5, 3) := by decide +kernel
theorem dX6_seat_84 : decode cX6_seat 84 = .ok (.iconst 1, 1) := by decide +kernel
theorem dX6_seat_85 : decode cX6_seat 85 = .ok (.ireturn, 1) := by decide +kernel
theorem dX6_seat_86 : decode cX6_seat 86 = .ok (.aload_n 0, 1) := by decide +kernel
theorem dX6_seat_87 : decode cX6_seat 87 = .ok (.getfield 18, 3) := by decide +kernel
theorem dX6_seat_90 : decode cX6_seat 90 = .ok (.iload 5, 2) := by decide +kernel
theorem dX6_seat_92 : decode cX6_seat 92 = .ok (.dup2, 1) := by decide +kernel
theorem dX6_seat_93 : decode cX6_seat 93 = .ok (.iaload, 1) := by decide +kernel
theorem dX6_seat_94 : decode cX6_seat 94 = .ok (.iload 4, 2) := by decide +kernel
theorem dX6_seat_96 : decode cX6_seat 96 = .ok (.iadd, 1) := by decide +kernel
theorem dX6_seat_97 : decode cX6_seat 97 = .ok (.iastore, 1) := by decide +kernel
theorem dX6_seat_98 : decode cX6_seat 98 = .ok (.iinc 5 1, 3) := by decide +kernel
theorem dX6_seat_101 : decode cX6_seat 101 = .ok (.goto (-80), 3) := by decide +kernel
theorem dX6_seat_104 : decode cX6_seat 104 = .ok (.iconst 0, 1) := by decide +kernel
theorem dX6_seat_105 : decode cX6_seat 105 = .ok (.ireturn, 1) := by decide +kernel
theorem dX7_init_0 : decode cX7_init 0 = .ok (.aload_n 0, 1) := by decide +kernel
theorem dX7_init_1 : decode cX7_init 1 = .ok (.invokespecial 3, 3) := by decide +kernel
theorem dX7_init_4 : decode cX7_init 4 = .ok (.aload_n 0, 1) := by decide +kernel
theorem dX7_init_5 : decode cX7_init 5 = .ok (.iconst 2, 1) := by decide +kernel
theorem dX7_init_6 : decode cX7_init 6 = .ok (.putfield 9, 3) := by decide +kernel
theorem dX7_init_9 : decode cX7_init 9 = .ok (.aload_n 0, 1) := by decide +kernel
theorem dX7_init_10 : decode cX7_init 10 = .ok (.iconst 0, 1) := by decide +kernel
theorem dX7_init_11 : decode cX7_init 11 = .ok (.putfield 15, 3) := by decide +kernel
theorem dX7_init_14 : decode cX7_init 14 = .ok (.aload_n 0, 1) := by decide +kernel
theorem dX7_init_15 : decode cX7_init 15 = .ok (.bipush 8, 2) := by decide +kernel
theorem dX7_init_17 : decode cX7_init 17 = .ok (.newarray .int, 2) := by decide +kernel
theorem dX7_init_19 : decode cX7_init 19 = .ok (.putfield 18, 3) := by decide +kernel
theorem dX7_init_22 : decode cX7_init 22 = .ok (.aload_n 0, 1) := by decide +kernel
theorem dX7_init_23 : decode cX7_init 23 = .ok (.bipush 8, 2) := by decide +kernel
theorem dX7_init_25 : decode cX7_init 25 = .ok (.newarray .int, 2) := by decide +kernel
theorem dX7_init_27 : decode cX7_init 27 = .ok (.putfield 22, 3) := by decide +kernel
theorem dX7_init_30 : decode cX7_init 30 = .ok (.aload_n 0, 1) := by decide +kernel
theorem dX7_init_31 : decode cX7_init 31 = .ok (.bipush 8, 2) := by decide +kernel
theorem dX7_init_33 : decode cX7_init 33 = .ok (.newarray .int, 2) := by decide +kernel
theorem dX7_init_35 : decode cX7_init 35 = .ok (.putfield 25, 3) := by decide +kernel
theorem dX7_init_38 : decode cX7_init 38 = .ok (.aload_n 0, 1) := by decide +kernel
theorem dX7_init_39 : decode cX7_init 39 = .ok (.iconst 0, 1) := by decide +kernel
theorem dX7_init_40 : decode cX7_init 40 = .ok (.putfield 28, 3) := by decide +kernel
theorem dX7_init_43 : decode cX7_init 43 = .ok (.aload_n 0, 1) := by decide +kernel
theorem dX7_init_44 : decode cX7_init 44 = .ok (.iconst 5, 1) := by decide +kernel
theorem dX7_init_45 : decode cX7_init 45 = .ok (.newarray .int, 2) := by decide +kernel
theorem dX7_init_47 : decode cX7_init 47 = .ok (.putfield 31, 3) := by decide +kernel
theorem dX7_init_50 : decode cX7_init 50 = .ok (.aload_n 0, 1) := by decide +kernel
theorem dX7_init_51 : decode cX7_init 51 = .ok (.iconst 5, 1) := by decide +kernel
theorem dX7_init_52 : decode cX7_init 52 = .ok (.newarray .int, 2) := by decide +kernel
theorem dX7_init_54 : decode cX7_init 54 = .ok (.putfield 34, 3) := by decide +kernel
theorem dX7_init_57 : decode cX7_init 57 = .ok (.aload_n 0, 1) := by decide +kernel
theorem dX7_init_58 : decode cX7_init 58 = .ok (.iconst 4, 1) := by decide +kernel
theorem dX7_init_59 : decode cX7_init 59 = .ok (.putfield 37, 3) := by decide +kernel
theorem dX7_init_62 : decode cX7_init 62 = .ok (.aload_n 0, 1) := by decide +kernel
theorem dX7_init_63 : decode cX7_init 63 = .ok (.iconst 1, 1) := by decide +kernel
theorem dX7_init_64 : decode cX7_init 64 = .ok (.putfield 40, 3) := by decide +kernel
theorem dX7_init_67 : decode cX7_init 67 = .ok (.return_, 1) := by decide +kernel
theorem dX7_begin_0 : decode cX7_begin 0 = .ok (.aload_n 0, 1) := by decide +kernel
theorem dX7_begin_1 : decode cX7_begin 1 = .ok (.iconst 2, 1) := by decide +kernel
theorem dX7_begin_2 : decode cX7_begin 2 = .ok (.putfield 9, 3) := by decide +kernel
theorem dX7_begin_5 : decode cX7_begin 5 = .ok (.aload_n 0, 1) := by decide +kernel
theorem dX7_begin_6 : decode cX7_begin 6 = .ok (.iconst 0, 1) := by decide +kernel
theorem dX7_begin_7 : decode cX7_begin 7 = .ok (.putfield 15, 3) := by decide +kernel
theorem dX7_begin_10 : decode cX7_begin 10 = .ok (.aload_n 0, 1) := by decide +kernel
theorem dX7_begin_11 : decode cX7_begin 11 = .ok (.iconst 0, 1) := by decide +kernel
theorem dX7_begin_12 : decode cX7_begin 12 = .ok (.putfield 28, 3) := by decide +kernel
theorem dX7_begin_15 : decode cX7_begin 15 = .ok (.aload_n 0, 1) := by decide +kernel
theorem dX7_begin_16 : decode cX7_begin 16 = .ok (.iconst 4, 1) := by decide +kernel
theorem dX7_begin_17 : decode cX7_begin 17 = .ok (.putfield 37, 3) := by decide +kernel
theorem dX7_begin_20 : decode cX7_begin 20 = .ok (.aload_n 0, 1) := by decide +kernel
theorem dX7_begin_21 : decode cX7_begin 21 = .ok (.iconst 1, 1) := by decide +kernel
theorem dX7_begin_22 : decode cX7_begin 22 = .ok (.putfield 40, 3) := by decide +kernel
theorem dX7_begin_25 : decode cX7_begin 25 = .ok (.return_, 1) := by decide +kernel
theorem dX7_addLane_0 : decode cX7_addLane 0 = .ok (.aload_n 0, 1) := by decide +kernel
theorem dX7_addLane_1 : decode cX7_addLane 1 = .ok (.getfield 15, 3) := by decide +kernel
theorem dX7_addLane_4 : decode cX7_addLane 4 = .ok (.bipush 8, 2) := by decide +kernel
theorem dX7_addLane_6 : decode cX7_addLane 6 = .ok (.if_icmp .lt 5, 3) := by decide +kernel
theorem dX7_addLane_9 : decode cX7_addLane 9 = .ok (.iconst 0, 1) := by decide +kernel
theorem dX7_addLane_10 : decode cX7_addLane 10 = .ok (.ireturn, 1) := by decide +kernel
theorem dX7_addLane_11 : decode cX7_addLane 11 = .ok (.aload_n 0, 1) := by decide +kernel
theorem dX7_addLane_12 : decode cX7_addLane 12 = .ok (.getfield 18, 3) := by decide +kernel
theorem dX7_addLane_15 : decode cX7_addLane 15 = .ok (.aload_n 0, 1) := by decide +kernel
theorem dX7_addLane_16 : decode cX7_addLane 16 = .ok (.getfield 15, 3) := by decide +kernel
theorem dX7_addLane_19 : decode cX7_addLane 19 = .ok (.iload_n 1, 1) := by decide +kernel
theorem dX7_addLane_20 : decode cX7_addLane 20 = .ok (.iastore, 1) := by decide +kernel
theorem dX7_addLane_21 : decode cX7_addLane 21 = .ok (.aload_n 0, 1) := by decide +kernel
theorem dX7_addLane_22 : decode cX7_addLane 22 = .ok (.getfield 22, 3) := by decide +kernel
theorem dX7_addLane_25 : decode cX7_addLane 25 = .ok (.aload_n 0, 1) := by decide +kernel
theorem dX7_addLane_26 : decode cX7_addLane 26 = .ok (.getfield 15, 3) := by decide +kernel
theorem dX7_addLane_29 : decode cX7_addLane 29 = .ok (.iload_n 2, 1) := by decide +kernel
theorem dX7_addLane_30 : decode cX7_addLane 30 = .ok (.iastore, 1) := by decide +kernel
theorem dX7_addLane_31 : decode cX7_addLane 31 = .ok (.aload_n 0, 1) := by decide +kernel
theorem dX7_addLane_32 : decode cX7_addLane 32 = .ok (.getfield 25, 3) := by decide +kernel
theorem dX7_addLane_35 : decode cX7_addLane 35 = .ok (.aload_n 0, 1) := by decide +kernel
theorem dX7_addLane_36 : decode cX7_addLane 36 = .ok (.getfield 15, 3) := by decide +kernel
theorem dX7_addLane_39 : decode cX7_addLane 39 = .ok (.iload_n 3, 1) := by decide +kernel
theorem dX7_addLane_40 : decode cX7_addLane 40 = .ok (.iastore, 1) := by decide +kernel
theorem dX7_addLane_41 : decode cX7_addLane 41 = .ok (.aload_n 0, 1) := by decide +kernel
theorem dX7_addLane_42 : decode cX7_addLane 42 = .ok (.dup, 1) := by decide +kernel
theorem dX7_addLane_43 : decode cX7_addLane 43 = .ok (.getfield 15, 3) := by decide +kernel
theorem dX7_addLane_46 : decode cX7_addLane 46 = .ok (.iconst 1, 1) := by decide +kernel
theorem dX7_addLane_47 : decode cX7_addLane 47 = .ok (.iadd, 1) := by decide +kernel
theorem dX7_addLane_48 : decode cX7_addLane 48 = .ok (.putfield 15, 3) := by decide +kernel
theorem dX7_addLane_51 : decode cX7_addLane 51 = .ok (.iconst 1, 1) := by decide +kernel
theorem dX7_addLane_52 : decode cX7_addLane 52 = .ok (.ireturn, 1) := by decide +kernel
theorem dX7_addPerson_0 : decode cX7_addPerson 0 = .ok (.aload_n 0, 1) := by decide +kernel
theorem dX7_addPerson_1 : decode cX7_addPerson 1 = .ok (.getfield 28, 3) := by decide +kernel
theorem dX7_addPerson_4 : decode cX7_addPerson 4 = .ok (.iconst 5, 1) := by decide +kernel
theorem dX7_addPerson_5 : decode cX7_addPerson 5 = .ok (.if_icmp .lt 5, 3) := by decide +kernel
theorem dX7_addPerson_8 : decode cX7_addPerson 8 = .ok (.iconst 0, 1) := by decide +kernel
theorem dX7_addPerson_9 : decode cX7_addPerson 9 = .ok (.ireturn, 1) := by decide +kernel
theorem dX7_addPerson_10 : decode cX7_addPerson 10 = .ok (.aload_n 0, 1) := by decide +kernel
theorem dX7_addPerson_11 : decode cX7_addPerson 11 = .ok (.getfield 31, 3) := by decide +kernel
theorem dX7_addPerson_14 : decode cX7_addPerson 14 = .ok (.aload_n 0, 1) := by decide +kernel
theorem dX7_addPerson_15 : decode cX7_addPerson 15 = .ok (.getfield 28, 3) := by decide +kernel
theorem dX7_addPerson_18 : decode cX7_addPerson 18 = .ok (.iload_n 1, 1) := by decide +kernel
theorem dX7_addPerson_19 : decode cX7_addPerson 19 = .ok (.iastore, 1) := by decide +kernel
theorem dX7_addPerson_20 : decode cX7_addPerson 20 = .ok (.aload_n 0, 1) := by decide +kernel
theorem dX7_addPerson_21 : decode cX7_addPerson 21 = .ok (.getfield 34, 3) := by decide +kernel
theorem dX7_addPerson_24 : decode cX7_addPerson 24 = .ok (.aload_n 0, 1) := by decide +kernel
theorem dX7_addPerson_25 : decode cX7_addPerson 25 = .ok (.getfield 28, 3) := by decide +kernel
theorem dX7_addPerson_28 : decode cX7_addPerson 28 = .ok (.iload_n 2, 1) := by decide +kernel
theorem dX7_addPerson_29 : decode cX7_addPerson 29 = .ok (.iastore, 1) := by decide +kernel
theorem dX7_addPerson_30 : decode cX7_addPerson 30 = .ok (.aload_n 0, 1) := by decide +kernel
theorem dX7_addPerson_31 : decode cX7_addPerson 31 = .ok (.dup, 1) := by decide +kernel
theorem dX7_addPerson_32 : decode cX7_addPerson 32 = .ok (.getfield 28, 3) := by decide +kernel
theorem dX7_addPerson_35 : decode cX7_addPerson 35 = .ok (.iconst 1, 1) := by decide +kernel
theorem dX7_addPerson_36 : decode cX7_addPerson 36 = .ok (.iadd, 1) := by decide +kernel
theorem dX7_addPerson_37 : decode cX7_addPerson 37 = .ok (.putfield 28, 3) := by decide +kernel
theorem dX7_addPerson_40 : decode cX7_addPerson 40 = .ok (.iconst 1, 1) := by decide +kernel
theorem dX7_addPerson_41 : decode cX7_addPerson 41 = .ok (.ireturn, 1) := by decide +kernel
theorem dX7_ends_0 : decode cX7_ends 0 = .ok (.iconst 1, 1) := by decide +kernel
theorem dX7_ends_1 : decode cX7_ends 1 = .ok (.aload_n 0, 1) := by decide +kernel
theorem dX7_ends_2 : decode cX7_ends 2 = .ok (.getfield 18, 3) := by decide +kernel
theorem dX7_ends_5 : decode cX7_ends 5 = .ok (.iload_n 1, 1) := by decide +kernel
theorem dX7_ends_6 : decode cX7_ends 6 = .ok (.iaload, 1) := by decide +kernel
theorem dX7_ends_7 : decode cX7_ends 7 = .ok (.ishl, 1) := by decide +kernel
theorem dX7_ends_8 : decode cX7_ends 8 = .ok (.iconst 1, 1) := by decide +kernel
theorem dX7_ends_9 : decode cX7_ends 9 = .ok (.aload_n 0, 1) := by decide +kernel
theorem dX7_ends_10 : decode cX7_ends 10 = .ok (.getfield 22, 3) := by decide +kernel
theorem dX7_ends_13 : decode cX7_ends 13 = .ok (.iload_n 1, 1) := by decide +kernel
theorem dX7_ends_14 : decode cX7_ends 14 = .ok (.iaload, 1) := by decide +kernel
theorem dX7_ends_15 : decode cX7_ends 15 = .ok (.ishl, 1) := by decide +kernel
theorem dX7_ends_16 : decode cX7_ends 16 = .ok (.ior, 1) := by decide +kernel
theorem dX7_ends_17 : decode cX7_ends 17 = .ok (.ireturn, 1) := by decide +kernel
theorem dX7_joined_0 : decode cX7_joined 0 = .ok (.iconst 1, 1) := by decide +kernel
theorem dX7_joined_1 : decode cX7_joined 1 = .ok (.iload_n 2, 1) := by decide +kernel
theorem dX7_joined_2 : decode cX7_joined 2 = .ok (.ishl, 1) := by decide +kernel
theorem dX7_joined_3 : decode cX7_joined 3 = .ok (.istore_n 3, 1) := by decide +kernel
theorem dX7_joined_4 : decode cX7_joined 4 = .ok (.iconst 1, 1) := by decide +kernel
theorem dX7_joined_5 : decode cX7_joined 5 = .ok (.istore 4, 2) := by decide +kernel
theorem dX7_joined_7 : decode cX7_joined 7 = .ok (.iload 4, 2) := by decide +kernel
theorem dX7_joined_9 : decode cX7_joined 9 = .ok (.aload_n 0, 1) := by decide +kernel
theorem dX7_joined_10 : decode cX7_joined 10 = .ok (.getfield 9, 3) := by decide +kernel
theorem dX7_joined_13 : decode cX7_joined 13 = .ok (.if_icmp .ge 67, 3) := by decide +kernel
theorem dX7_joined_16 : decode cX7_joined 16 = .ok (.iload_n 3, 1) := by decide +kernel
theorem dX7_joined_17 : decode cX7_joined 17 = .ok (.istore 5, 2) := by decide +kernel
theorem dX7_joined_19 : decode cX7_joined 19 = .ok (.iconst 0, 1) := by decide +kernel
theorem dX7_joined_20 : decode cX7_joined 20 = .ok (.istore 6, 2) := by decide +kernel
theorem dX7_joined_22 : decode cX7_joined 22 = .ok (.iload 6, 2) := by decide +kernel
theorem dX7_joined_24 : decode cX7_joined 24 = .ok (.aload_n 0, 1) := by decide +kernel
theorem dX7_joined_25 : decode cX7_joined 25 = .ok (.getfield 15, 3) := by decide +kernel
theorem dX7_joined_28 : decode cX7_joined 28 = .ok (.if_icmp .ge 38, 3) := by decide +kernel
theorem dX7_joined_31 : decode cX7_joined 31 = .ok (.iload_n 1, 1) := by decide +kernel
theorem dX7_joined_32 : decode cX7_joined 32 = .ok (.iload 6, 2) := by decide +kernel
theorem dX7_joined_34 : decode cX7_joined 34 = .ok (.ishr, 1) := by decide +kernel
theorem dX7_joined_35 : decode cX7_joined 35 = .ok (.iconst 1, 1) := by decide +kernel
theorem dX7_joined_36 : decode cX7_joined 36 = .ok (.iand, 1) := by decide +kernel
theorem dX7_joined_37 : decode cX7_joined 37 = .ok (.ifCond .eq 23, 3) := by decide +kernel
theorem dX7_joined_40 : decode cX7_joined 40 = .ok (.iload_n 3, 1) := by decide +kernel
theorem dX7_joined_41 : decode cX7_joined 41 = .ok (.aload_n 0, 1) := by decide +kernel
theorem dX7_joined_42 : decode cX7_joined 42 = .ok (.iload 6, 2) := by decide +kernel
theorem dX7_joined_44 : decode cX7_joined 44 = .ok (.invokevirtual 43, 3) := by decide +kernel
theorem dX7_joined_47 : decode cX7_joined 47 = .ok (.iand, 1) := by decide +kernel
theorem dX7_joined_48 : decode cX7_joined 48 = .ok (.ifCond .eq 12, 3) := by decide +kernel
theorem dX7_joined_51 : decode cX7_joined 51 = .ok (.iload_n 3, 1) := by decide +kernel
theorem dX7_joined_52 : decode cX7_joined 52 = .ok (.aload_n 0, 1) := by decide +kernel
theorem dX7_joined_53 : decode cX7_joined 53 = .ok (.iload 6, 2) := by decide +kernel
theorem dX7_joined_55 : decode cX7_joined 55 = .ok (.invokevirtual 43, 3) := by decide +kernel
theorem dX7_joined_58 : decode cX7_joined 58 = .ok (.ior, 1) := by decide +kernel
theorem dX7_joined_59 : decode cX7_joined 59 = .ok (.istore_n 3, 1) := by decide +kernel
theorem dX7_joined_60 : decode cX7_joined 60 = .ok (.iinc 6 1, 3) := by decide +kernel
theorem dX7_joined_63 : decode cX7_joined 63 = .ok (.goto (-41), 3) := by decide +kernel
theorem dX7_joined_66 : decode cX7_joined 66 = .ok (.iload_n 3, 1) := by decide +kernel
theorem dX7_joined_67 : decode cX7_joined 67 = .ok (.iload 5, 2) := by decide +kernel
theorem dX7_joined_69 : decode cX7_joined 69 = .ok (.if_icmp .ne 5, 3) := by decide +kernel
theorem dX7_joined_72 : decode cX7_joined 72 = .ok (.iload_n 3, 1) := by decide +kernel
theorem dX7_joined_73 : decode cX7_joined 73 = .ok (.ireturn, 1) := by decide +kernel
theorem dX7_joined_74 : decode cX7_joined 74 = .ok (.iinc 4 1, 3) := by decide +kernel
theorem dX7_joined_77 : decode cX7_joined 77 = .ok (.goto (-70), 3) := by decide +kernel
theorem dX7_joined_80 : decode cX7_joined 80 = .ok (.iload_n 3, 1) := by decide +kernel
theorem dX7_joined_81 : decode cX7_joined 81 = .ok (.ireturn, 1) := by decide +kernel
theorem dX7_joins_0 : decode cX7_joins 0 = .ok (.aload_n 0, 1) := by decide +kernel
theorem dX7_joins_1 : decode cX7_joins 1 = .ok (.iload_n 1, 1) := by decide +kernel
theorem dX7_joins_2 : decode cX7_joins 2 = .ok (.iload_n 2, 1) := by decide +kernel
theorem dX7_joins_3 : decode cX7_joins 3 = .ok (.invokevirtual 47, 3) := by decide +kernel
theorem dX7_joins_6 : decode cX7_joins 6 = .ok (.iload_n 3, 1) := by decide +kernel
theorem dX7_joins_7 : decode cX7_joins 7 = .ok (.ishr, 1) := by decide +kernel
theorem dX7_joins_8 : decode cX7_joins 8 = .ok (.iconst 1, 1) := by decide +kernel
theorem dX7_joins_9 : decode cX7_joins 9 = .ok (.iand, 1) := by decide +kernel
theorem dX7_joins_10 : decode cX7_joins 10 = .ok (.ifCond .eq 7, 3) := by decide +kernel
theorem dX7_joins_13 : decode cX7_joins 13 = .ok (.iconst 1, 1) := by decide +kernel
theorem dX7_joins_14 : decode cX7_joins 14 = .ok (.goto 4, 3) := by decide +kernel
theorem dX7_joins_17 : decode cX7_joins 17 = .ok (.iconst 0, 1) := by decide +kernel
theorem dX7_joins_18 : decode cX7_joins 18 = .ok (.ireturn, 1) := by decide +kernel
theorem dX8_init_0 : decode cX8_init 0 = .ok (.aload_n 0, 1) := by decide +kernel
theorem dX8_init_1 : decode cX8_init 1 = .ok (.invokespecial 1, 3) := by decide +kernel
theorem dX8_init_4 : decode cX8_init 4 = .ok (.aload_n 0, 1) := by decide +kernel
theorem dX8_init_5 : decode cX8_init 5 = .ok (.new 7, 3) := by decide +kernel
theorem dX8_init_8 : decode cX8_init 8 = .ok (.dup, 1) := by decide +kernel
theorem dX8_init_9 : decode cX8_init 9 = .ok (.invokespecial 9, 3) := by decide +kernel
theorem dX8_init_12 : decode cX8_init 12 = .ok (.putfield 10, 3) := by decide +kernel
theorem dX8_init_15 : decode cX8_init 15 = .ok (.aload_n 0, 1) := by decide +kernel
theorem dX8_init_16 : decode cX8_init 16 = .ok (.new 16, 3) := by decide +kernel
theorem dX8_init_19 : decode cX8_init 19 = .ok (.dup, 1) := by decide +kernel
theorem dX8_init_20 : decode cX8_init 20 = .ok (.invokespecial 18, 3) := by decide +kernel
theorem dX8_init_23 : decode cX8_init 23 = .ok (.putfield 19, 3) := by decide +kernel
theorem dX8_init_26 : decode cX8_init 26 = .ok (.aload_n 0, 1) := by decide +kernel
theorem dX8_init_27 : decode cX8_init 27 = .ok (.new 16, 3) := by decide +kernel
theorem dX8_init_30 : decode cX8_init 30 = .ok (.dup, 1) := by decide +kernel
theorem dX8_init_31 : decode cX8_init 31 = .ok (.invokespecial 18, 3) := by decide +kernel
theorem dX8_init_34 : decode cX8_init 34 = .ok (.putfield 23, 3) := by decide +kernel
theorem dX8_init_37 : decode cX8_init 37 = .ok (.aload_n 0, 1) := by decide +kernel
theorem dX8_init_38 : decode cX8_init 38 = .ok (.new 26, 3) := by decide +kernel
theorem dX8_init_41 : decode cX8_init 41 = .ok (.dup, 1) := by decide +kernel
theorem dX8_init_42 : decode cX8_init 42 = .ok (.invokespecial 28, 3) := by decide +kernel
theorem dX8_init_45 : decode cX8_init 45 = .ok (.putfield 29, 3) := by decide +kernel
theorem dX8_init_48 : decode cX8_init 48 = .ok (.aload_n 0, 1) := by decide +kernel
theorem dX8_init_49 : decode cX8_init 49 = .ok (.iconst 2, 1) := by decide +kernel
theorem dX8_init_50 : decode cX8_init 50 = .ok (.anewarray 26, 3) := by decide +kernel
theorem dX8_init_53 : decode cX8_init 53 = .ok (.putfield 33, 3) := by decide +kernel
theorem dX8_init_56 : decode cX8_init 56 = .ok (.aload_n 0, 1) := by decide +kernel
theorem dX8_init_57 : decode cX8_init 57 = .ok (.iconst 2, 1) := by decide +kernel
theorem dX8_init_58 : decode cX8_init 58 = .ok (.newarray .boolean, 2) := by decide +kernel
theorem dX8_init_60 : decode cX8_init 60 = .ok (.putfield 37, 3) := by decide +kernel
theorem dX8_init_63 : decode cX8_init 63 = .ok (.aload_n 0, 1) := by decide +kernel
theorem dX8_init_64 : decode cX8_init 64 = .ok (.new 41, 3) := by decide +kernel
theorem dX8_init_67 : decode cX8_init 67 = .ok (.dup, 1) := by decide +kernel
theorem dX8_init_68 : decode cX8_init 68 = .ok (.invokespecial 43, 3) := by decide +kernel
theorem dX8_init_71 : decode cX8_init 71 = .ok (.putfield 44, 3) := by decide +kernel
theorem dX8_init_74 : decode cX8_init 74 = .ok (.aload_n 0, 1) := by decide +kernel
theorem dX8_init_75 : decode cX8_init 75 = .ok (.new 48, 3) := by decide +kernel
theorem dX8_init_78 : decode cX8_init 78 = .ok (.dup, 1) := by decide +kernel
theorem dX8_init_79 : decode cX8_init 79 = .ok (.invokespecial 50, 3) := by decide +kernel
theorem dX8_init_82 : decode cX8_init 82 = .ok (.putfield 51, 3) := by decide +kernel
theorem dX8_init_85 : decode cX8_init 85 = .ok (.aload_n 0, 1) := by decide +kernel
theorem dX8_init_86 : decode cX8_init 86 = .ok (.new 55, 3) := by decide +kernel
theorem dX8_init_89 : decode cX8_init 89 = .ok (.dup, 1) := by decide +kernel
theorem dX8_init_90 : decode cX8_init 90 = .ok (.invokespecial 57, 3) := by decide +kernel
theorem dX8_init_93 : decode cX8_init 93 = .ok (.putfield 58, 3) := by decide +kernel
theorem dX8_init_96 : decode cX8_init 96 = .ok (.aload_n 0, 1) := by decide +kernel
theorem dX8_init_97 : decode cX8_init 97 = .ok (.lconst 0, 1) := by decide +kernel
theorem dX8_init_98 : decode cX8_init 98 = .ok (.putfield 62, 3) := by decide +kernel
theorem dX8_init_101 : decode cX8_init 101 = .ok (.iconst 0, 1) := by decide +kernel
theorem dX8_init_102 : decode cX8_init 102 = .ok (.istore_n 1, 1) := by decide +kernel
theorem dX8_init_103 : decode cX8_init 103 = .ok (.iload_n 1, 1) := by decide +kernel
theorem dX8_init_104 : decode cX8_init 104 = .ok (.iconst 2, 1) := by decide +kernel
theorem dX8_init_105 : decode cX8_init 105 = .ok (.if_icmp .ge 22, 3) := by decide +kernel
theorem dX8_init_108 : decode cX8_init 108 = .ok (.aload_n 0, 1) := by decide +kernel
theorem dX8_init_109 : decode cX8_init 109 = .ok (.getfield 33, 3) := by decide +kernel
theorem dX8_init_112 : decode cX8_init 112 = .ok (.iload_n 1, 1) := by decide +kernel
theorem dX8_init_113 : decode cX8_init 113 = .ok (.new 26, 3) := by decide +kernel
theorem dX8_init_116 : decode cX8_init 116 = .ok (.dup, 1) := by decide +kernel
theorem dX8_init_117 : decode cX8_init 117 = .ok (.invokespecial 28, 3) := by decide +kernel
theorem dX8_init_120 : decode cX8_init 120 = .ok (.aastore, 1) := by decide +kernel
theorem dX8_init_121 : decode cX8_init 121 = .ok (.iinc 1 1, 3) := by decide +kernel
theorem dX8_init_124 : decode cX8_init 124 = .ok (.goto (-21), 3) := by decide +kernel
theorem dX8_init_127 : decode cX8_init 127 = .ok (.return_, 1) := by decide +kernel
theorem dX8_type_0 : decode cX8_type 0 = .ok (.iload_n 1, 1) := by decide +kernel
theorem dX8_type_1 : decode cX8_type 1 = .ok (.ifCond .lt 10, 3) := by decide +kernel
theorem dX8_type_4 : decode cX8_type 4 = .ok (.iload_n 1, 1) := by decide +kernel
theorem dX8_type_5 : decode cX8_type 5 = .ok (.sipush 255, 3) := by decide +kernel
theorem dX8_type_8 : decode cX8_type 8 = .ok (.if_icmp .le 5, 3) := by decide +kernel
theorem dX8_type_11 : decode cX8_type 11 = .ok (.iconst (-1), 1) := by decide +kernel
theorem dX8_type_12 : decode cX8_type 12 = .ok (.ireturn, 1) := by decide +kernel
theorem dX8_type_13 : decode cX8_type 13 = .ok (.aload_n 0, 1) := by decide +kernel
theorem dX8_type_14 : decode cX8_type 14 = .ok (.getfield 10, 3) := by decide +kernel
theorem dX8_type_17 : decode cX8_type 17 = .ok (.getfield 66, 3) := by decide +kernel
theorem dX8_type_20 : decode cX8_type 20 = .ok (.iload_n 1, 1) := by decide +kernel
theorem dX8_type_21 : decode cX8_type 21 = .ok (.invokevirtual 70, 3) := by decide +kernel
theorem dX8_type_24 : decode cX8_type 24 = .ok (.ifCond .eq 16, 3) := by decide +kernel
theorem dX8_type_27 : decode cX8_type 27 = .ok (.aload_n 0, 1) := by decide +kernel
theorem dX8_type_28 : decode cX8_type 28 = .ok (.getfield 10, 3) := by decide +kernel
theorem dX8_type_31 : decode cX8_type 31 = .ok (.getfield 66, 3) := by decide +kernel
theorem dX8_type_34 : decode cX8_type 34 = .ok (.getfield 76, 3) := by decide +kernel
theorem dX8_type_37 : decode cX8_type 37 = .ok (.goto 5, 3) := by decide +kernel
theorem dX8_type_40 : decode cX8_type 40 = .ok (.bipush (-3), 2) := by decide +kernel
theorem dX8_type_42 : decode cX8_type 42 = .ok (.ireturn, 1) := by decide +kernel
theorem dX8_clear_0 : decode cX8_clear 0 = .ok (.aload_n 0, 1) := by decide +kernel
theorem dX8_clear_1 : decode cX8_clear 1 = .ok (.getfield 10, 3) := by decide +kernel
theorem dX8_clear_4 : decode cX8_clear 4 = .ok (.getfield 66, 3) := by decide +kernel
theorem dX8_clear_7 : decode cX8_clear 7 = .ok (.getfield 76, 3) := by decide +kernel
theorem dX8_clear_10 : decode cX8_clear 10 = .ok (.istore_n 1, 1) := by decide +kernel
theorem dX8_clear_11 : decode cX8_clear 11 = .ok (.aload_n 0, 1) := by decide +kernel
theorem dX8_clear_12 : decode cX8_clear 12 = .ok (.getfield 10, 3) := by decide +kernel
theorem dX8_clear_15 : decode cX8_clear 15 = .ok (.getfield 66, 3) := by decide +kernel
theorem dX8_clear_18 : decode cX8_clear 18 = .ok (.iconst 0, 1) := by decide +kernel
theorem dX8_clear_19 : decode cX8_clear 19 = .ok (.putfield 76, 3) := by decide +kernel
theorem dX8_clear_22 : decode cX8_clear 22 = .ok (.iload_n 1, 1) := by decide +kernel
theorem dX8_clear_23 : decode cX8_clear 23 = .ok (.ireturn, 1) := by decide +kernel
theorem dX8_capital_0 : decode cX8_capital 0 = .ok (.aload_n 0, 1) := by decide +kernel
theorem dX8_capital_1 : decode cX8_capital 1 = .ok (.getfield 10, 3) := by decide +kernel
theorem dX8_capital_4 : decode cX8_capital 4 = .ok (.aload_n 0, 1) := by decide +kernel
theorem dX8_capital_5 : decode cX8_capital 5 = .ok (.getfield 23, 3) := by decide +kernel
theorem dX8_capital_8 : decode cX8_capital 8 = .ok (.invokevirtual 80, 3) := by decide +kernel
theorem dX8_capital_11 : decode cX8_capital 11 = .ok (.istore_n 1, 1) := by decide +kernel
theorem dX8_capital_12 : decode cX8_capital 12 = .ok (.iload_n 1, 1) := by decide +kernel
theorem dX8_capital_13 : decode cX8_capital 13 = .ok (.ifCond .ge 14, 3) := by decide +kernel
theorem dX8_capital_16 : decode cX8_capital 16 = .ok (.bipush (-10), 2) := by decide +kernel
theorem dX8_capital_18 : decode cX8_capital 18 = .ok (.aload_n 0, 1) := by decide +kernel
theorem dX8_capital_19 : decode cX8_capital 19 = .ok (.getfield 10, 3) := by decide +kernel
theorem dX8_capital_22 : decode cX8_capital 22 = .ok (.getfield 84, 3) := by decide +kernel
theorem dX8_capital_25 : decode cX8_capital 25 = .ok (.isub, 1) := by decide +kernel
theorem dX8_capital_26 : decode cX8_capital 26 = .ok (.ireturn, 1) := by decide +kernel
theorem dX8_capital_27 : decode cX8_capital 27 = .ok (.aload_n 0, 1) := by decide +kernel
theorem dX8_capital_28 : decode cX8_capital 28 = .ok (.getfield 19, 3) := by decide +kernel
theorem dX8_capital_31 : decode cX8_capital 31 = .ok (.astore_n 2, 1) := by decide +kernel
theorem dX8_capital_32 : decode cX8_capital 32 = .ok (.aload_n 0, 1) := by decide +kernel
theorem dX8_capital_33 : decode cX8_capital 33 = .ok (.aload_n 0, 1) := by decide +kernel
theorem dX8_capital_34 : decode cX8_capital 34 = .ok (.getfield 23, 3) := by decide +kernel
theorem dX8_capital_37 : decode cX8_capital 37 = .ok (.putfield 19, 3) := by decide +kernel
theorem dX8_capital_40 : decode cX8_capital 40 = .ok (.aload_n 0, 1) := by decide +kernel
theorem dX8_capital_41 : decode cX8_capital 41 = .ok (.aload_n 2, 1) := by decide +kernel
theorem dX8_capital_42 : decode cX8_capital 42 = .ok (.putfield 23, 3) := by decide +kernel
theorem dX8_capital_45 : decode cX8_capital 45 = .ok (.aload_n 0, 1) := by decide +kernel
theorem dX8_capital_46 : decode cX8_capital 46 = .ok (.getfield 10, 3) := by decide +kernel
theorem dX8_capital_49 : decode cX8_capital 49 = .ok (.getfield 66, 3) := by decide +kernel
theorem dX8_capital_52 : decode cX8_capital 52 = .ok (.iconst 0, 1) := by decide +kernel
theorem dX8_capital_53 : decode cX8_capital 53 = .ok (.putfield 76, 3) := by decide +kernel
theorem dX8_capital_56 : decode cX8_capital 56 = .ok (.aload_n 0, 1) := by decide +kernel
theorem dX8_capital_57 : decode cX8_capital 57 = .ok (.getfield 29, 3) := by decide +kernel
theorem dX8_capital_60 : decode cX8_capital 60 = .ok (.aload_n 0, 1) := by decide +kernel
theorem dX8_capital_61 : decode cX8_capital 61 = .ok (.getfield 19, 3) := by decide +kernel
theorem dX8_capital_64 : decode cX8_capital 64 = .ok (.invokevirtual 87, 3) := by decide +kernel
theorem dX8_capital_67 : decode cX8_capital 67 = .ok (.aload_n 0, 1) := by decide +kernel
theorem dX8_capital_68 : decode cX8_capital 68 = .ok (.getfield 44, 3) := by decide +kernel
theorem dX8_capital_71 : decode cX8_capital 71 = .ok (.iconst 0, 1) := by decide +kernel
theorem dX8_capital_72 : decode cX8_capital 72 = .ok (.putfield 91, 3) := by decide +kernel
theorem dX8_capital_75 : decode cX8_capital 75 = .ok (.iconst 0, 1) := by decide +kernel
theorem dX8_capital_76 : decode cX8_capital 76 = .ok (.istore_n 3, 1) := by decide +kernel
theorem dX8_capital_77 : decode cX8_capital 77 = .ok (.iload_n 3, 1) := by decide +kernel
theorem dX8_capital_78 : decode cX8_capital 78 = .ok (.iconst 2, 1) := by decide +kernel
theorem dX8_capital_79 : decode cX8_capital 79 = .ok (.if_icmp .ge 16, 3) := by decide +kernel
theorem dX8_capital_82 : decode cX8_capital 82 = .ok (.aload_n 0, 1) := by decide +kernel
theorem dX8_capital_83 : decode cX8_capital 83 = .ok (.getfield 37, 3) := by decide +kernel
theorem dX8_capital_86 : decode cX8_capital 86 = .ok (.iload_n 3, 1) := by decide +kernel
theorem dX8_capital_87 : decode cX8_capital 87 = .ok (.iconst 0, 1) := by decide +kernel
theorem dX8_capital_88 : decode cX8_capital 88 = .ok (.bastore, 1) := by decide +kernel
theorem dX8_capital_89 : decode cX8_capital 89 = .ok (.iinc 3 1, 3) := by decide +kernel
theorem dX8_capital_92 : decode cX8_capital 92 = .ok (.goto (-15), 3) := by decide +kernel
theorem dX8_capital_95 : decode cX8_capital 95 = .ok (.iload_n 1, 1) := by decide +kernel
theorem dX8_capital_96 : decode cX8_capital 96 = .ok (.ireturn, 1) := by decide +kernel
theorem dX8_lane_0 : decode cX8_lane 0 = .ok (.aload_n 0, 1) := by decide +kernel
theorem dX8_lane_1 : decode cX8_lane 1 = .ok (.iload_n 1, 1) := by decide +kernel
theorem dX8_lane_2 : decode cX8_lane 2 = .ok (.invokevirtual 94, 3) := by decide +kernel
theorem dX8_lane_5 : decode cX8_lane 5 = .ok (.ifCond .eq 5, 3) := by decide +kernel
theorem dX8_lane_8 : decode cX8_lane 8 = .ok (.iconst (-1), 1) := by decide +kernel
theorem dX8_lane_9 : decode cX8_lane 9 = .ok (.ireturn, 1) := by decide +kernel
theorem dX8_lane_10 : decode cX8_lane 10 = .ok (.iload_n 2, 1) := by decide +kernel
theorem dX8_lane_11 : decode cX8_lane 11 = .ok (.tableswitch 73 0 3 #[29, 39, 49, 59], 29) := by decide +kernel
theorem dX8_lane_40 : decode cX8_lane 40 = .ok (.aload_n 0, 1) := by decide +kernel
theorem dX8_lane_41 : decode cX8_lane 41 = .ok (.getfield 19, 3) := by decide +kernel
theorem dX8_lane_44 : decode cX8_lane 44 = .ok (.getfield 97, 3) := by decide +kernel
theorem dX8_lane_47 : decode cX8_lane 47 = .ok (.iload_n 1, 1) := by decide +kernel
theorem dX8_lane_48 : decode cX8_lane 48 = .ok (.iaload, 1) := by decide +kernel
theorem dX8_lane_49 : decode cX8_lane 49 = .ok (.ireturn, 1) := by decide +kernel
theorem dX8_lane_50 : decode cX8_lane 50 = .ok (.aload_n 0, 1) := by decide +kernel
theorem dX8_lane_51 : decode cX8_lane 51 = .ok (.getfield 19, 3) := by decide +kernel
theorem dX8_lane_54 : decode cX8_lane 54 = .ok (.getfield 101, 3) := by decide +kernel
theorem dX8_lane_57 : decode cX8_lane 57 = .ok (.iload_n 1, 1) := by decide +kernel
theorem dX8_lane_58 : decode cX8_lane 58 = .ok (.iaload, 1) := by decide +kernel
theorem dX8_lane_59 : decode cX8_lane 59 = .ok (.ireturn, 1) := by decide +kernel
theorem dX8_lane_60 : decode cX8_lane 60 = .ok (.aload_n 0, 1) := by decide +kernel
theorem dX8_lane_61 : decode cX8_lane 61 = .ok (.getfield 19, 3) := by decide +kernel
theorem dX8_lane_64 : decode cX8_lane 64 = .ok (.getfield 104, 3) := by decide +kernel
theorem dX8_lane_67 : decode cX8_lane 67 = .ok (.iload_n 1, 1) := by decide +kernel
theorem dX8_lane_68 : decode cX8_lane 68 = .ok (.iaload, 1) := by decide +kernel
theorem dX8_lane_69 : decode cX8_lane 69 = .ok (.ireturn, 1) := by decide +kernel
theorem dX8_lane_70 : decode cX8_lane 70 = .ok (.aload_n 0, 1) := by decide +kernel
theorem dX8_lane_71 : decode cX8_lane 71 = .ok (.iload_n 1, 1) := by decide +kernel
theorem dX8_lane_72 : decode cX8_lane 72 = .ok (.invokevirtual 107, 3) := by decide +kernel
theorem dX8_lane_75 : decode cX8_lane 75 = .ok (.ifCond .eq 7, 3) := by decide +kernel
theorem dX8_lane_78 : decode cX8_lane 78 = .ok (.iconst 1, 1) := by decide +kernel
theorem dX8_lane_79 : decode cX8_lane 79 = .ok (.goto 4, 3) := by decide +kernel
theorem dX8_lane_82 : decode cX8_lane 82 = .ok (.iconst 0, 1) := by decide +kernel
theorem dX8_lane_83 : decode cX8_lane 83 = .ok (.ireturn, 1) := by decide +kernel
theorem dX8_lane_84 : decode cX8_lane 84 = .ok (.iconst (-1), 1) := by decide +kernel
theorem dX8_lane_85 : decode cX8_lane 85 = .ok (.ireturn, 1) := by decide +kernel
theorem dX8_person_0 : decode cX8_person 0 = .ok (.aload_n 0, 1) := by decide +kernel
theorem dX8_person_1 : decode cX8_person 1 = .ok (.iload_n 1, 1) := by decide +kernel
theorem dX8_person_2 : decode cX8_person 2 = .ok (.invokevirtual 110, 3) := by decide +kernel
theorem dX8_person_5 : decode cX8_person 5 = .ok (.ifCond .eq 5, 3) := by decide +kernel
theorem dX8_person_8 : decode cX8_person 8 = .ok (.iconst (-1), 1) := by decide +kernel
theorem dX8_person_9 : decode cX8_person 9 = .ok (.ireturn, 1) := by decide +kernel
theorem dX8_person_10 : decode cX8_person 10 = .ok (.iload_n 2, 1) := by decide +kernel
theorem dX8_person_11 : decode cX8_person 11 = .ok (.tableswitch 84 0 4 #[33, 46, 59, 65, 78], 33) := by decide +kernel
theorem dX8_person_44 : decode cX8_person 44 = .ok (.aload_n 0, 1) := by decide +kernel
theorem dX8_person_45 : decode cX8_person 45 = .ok (.getfield 29, 3) := by decide +kernel
theorem dX8_person_48 : decode cX8_person 48 = .ok (.getfield 113, 3) := by decide +kernel
theorem dX8_person_51 : decode cX8_person 51 = .ok (.getfield 117, 3) := by decide +kernel
theorem dX8_person_54 : decode cX8_person 54 = .ok (.iload_n 1, 1) := by decide +kernel
theorem dX8_person_55 : decode cX8_person 55 = .ok (.iaload, 1) := by decide +kernel
theorem dX8_person_56 : decode cX8_person 56 = .ok (.ireturn, 1) := by decide +kernel
theorem dX8_person_57 : decode cX8_person 57 = .ok (.aload_n 0, 1) := by decide +kernel
theorem dX8_person_58 : decode cX8_person 58 = .ok (.getfield 29, 3) := by decide +kernel
theorem dX8_person_61 : decode cX8_person 61 = .ok (.getfield 113, 3) := by decide +kernel
theorem dX8_person_64 : decode cX8_person 64 = .ok (.getfield 122, 3) := by decide +kernel
theorem dX8_person_67 : decode cX8_person 67 = .ok (.iload_n 1, 1) := by decide +kernel
theorem dX8_person_68 : decode cX8_person 68 = .ok (.iaload, 1) := by decide +kernel
theorem dX8_person_69 : decode cX8_person 69 = .ok (.ireturn, 1) := by decide +kernel
theorem dX8_person_70 : decode cX8_person 70 = .ok (.aload_n 0, 1) := by decide +kernel
theorem dX8_person_71 : decode cX8_person 71 = .ok (.iload_n 1, 1) := by decide +kernel
theorem dX8_person_72 : decode cX8_person 72 = .ok (.invokevirtual 125, 3) := by decide +kernel
theorem dX8_person_75 : decode cX8_person 75 = .ok (.ireturn, 1) := by decide +kernel
theorem dX8_person_76 : decode cX8_person 76 = .ok (.aload_n 0, 1) := by decide +kernel
theorem dX8_person_77 : decode cX8_person 77 = .ok (.getfield 29, 3) := by decide +kernel
theorem dX8_person_80 : decode cX8_person 80 = .ok (.getfield 113, 3) := by decide +kernel
theorem dX8_person_83 : decode cX8_person 83 = .ok (.getfield 129, 3) := by decide +kernel
theorem dX8_person_86 : decode cX8_person 86 = .ok (.iload_n 1, 1) := by decide +kernel
theorem dX8_person_87 : decode cX8_person 87 = .ok (.iaload, 1) := by decide +kernel
theorem dX8_person_88 : decode cX8_person 88 = .ok (.ireturn, 1) := by decide +kernel
theorem dX8_person_89 : decode cX8_person 89 = .ok (.aload_n 0, 1) := by decide +kernel
theorem dX8_person_90 : decode cX8_person 90 = .ok (.iload_n 1, 1) := by decide +kernel
theorem dX8_person_91 : decode cX8_person 91 = .ok (.invokevirtual 132, 3) := by decide +kernel
theorem dX8_person_94 : decode cX8_person 94 = .ok (.ireturn, 1) := by decide +kernel
theorem dX8_person_95 : decode cX8_person 95 = .ok (.iconst (-1), 1) := by decide +kernel
theorem dX8_person_96 : decode cX8_person 96 = .ok (.ireturn, 1) := by decide +kernel
theorem dX8_goes_0 : decode cX8_goes 0 = .ok (.aload_n 0, 1) := by decide +kernel
theorem dX8_goes_1 : decode cX8_goes 1 = .ok (.iload_n 1, 1) := by decide +kernel
theorem dX8_goes_2 : decode cX8_goes 2 = .ok (.invokevirtual 110, 3) := by decide +kernel
theorem dX8_goes_5 : decode cX8_goes 5 = .ok (.ifCond .ne 11, 3) := by decide +kernel
theorem dX8_goes_8 : decode cX8_goes 8 = .ok (.aload_n 0, 1) := by decide +kernel
theorem dX8_goes_9 : decode cX8_goes 9 = .ok (.iload_n 2, 1) := by decide +kernel
theorem dX8_goes_10 : decode cX8_goes 10 = .ok (.invokevirtual 94, 3) := by decide +kernel
theorem dX8_goes_13 : decode cX8_goes 13 = .ok (.ifCond .eq 5, 3) := by decide +kernel
theorem dX8_goes_16 : decode cX8_goes 16 = .ok (.iconst (-1), 1) := by decide +kernel
theorem dX8_goes_17 : decode cX8_goes 17 = .ok (.ireturn, 1) := by decide +kernel
theorem dX8_goes_18 : decode cX8_goes 18 = .ok (.aload_n 0, 1) := by decide +kernel
theorem dX8_goes_19 : decode cX8_goes 19 = .ok (.iload_n 1, 1) := by decide +kernel
theorem dX8_goes_20 : decode cX8_goes 20 = .ok (.iload_n 2, 1) := by decide +kernel
theorem dX8_goes_21 : decode cX8_goes 21 = .ok (.invokevirtual 135, 3) := by decide +kernel
theorem dX8_goes_24 : decode cX8_goes 24 = .ok (.ifCond .eq 20, 3) := by decide +kernel
theorem dX8_goes_27 : decode cX8_goes 27 = .ok (.aload_n 0, 1) := by decide +kernel
theorem dX8_goes_28 : decode cX8_goes 28 = .ok (.iload_n 2, 1) := by decide +kernel
theorem dX8_goes_29 : decode cX8_goes 29 = .ok (.invokevirtual 107, 3) := by decide +kernel
theorem dX8_goes_32 : decode cX8_goes 32 = .ok (.ifCond .ne 12, 3) := by decide +kernel
theorem dX8_goes_35 : decode cX8_goes 35 = .ok (.aload_n 0, 1) := by decide +kernel
theorem dX8_goes_36 : decode cX8_goes 36 = .ok (.iload_n 2, 1) := by decide +kernel
theorem dX8_goes_37 : decode cX8_goes 37 = .ok (.iload_n 1, 1) := by decide +kernel
theorem dX8_goes_38 : decode cX8_goes 38 = .ok (.invokevirtual 139, 3) := by decide +kernel
theorem dX8_goes_41 : decode cX8_goes 41 = .ok (.ifCond .eq 6, 3) := by decide +kernel
theorem dX8_goes_44 : decode cX8_goes 44 = .ok (.bipush (-2), 2) := by decide +kernel
theorem dX8_goes_46 : decode cX8_goes 46 = .ok (.ireturn, 1) := by decide +kernel
theorem dX8_goes_47 : decode cX8_goes 47 = .ok (.aload_n 0, 1) := by decide +kernel
theorem dX8_goes_48 : decode cX8_goes 48 = .ok (.getfield 29, 3) := by decide +kernel
theorem dX8_goes_51 : decode cX8_goes 51 = .ok (.invokevirtual 142, 3) := by decide +kernel
theorem dX8_goes_54 : decode cX8_goes 54 = .ok (.aload_n 0, 1) := by decide +kernel
theorem dX8_goes_55 : decode cX8_goes 55 = .ok (.iload_n 1, 1) := by decide +kernel
theorem dX8_goes_56 : decode cX8_goes 56 = .ok (.iload_n 2, 1) := by decide +kernel
theorem dX8_goes_57 : decode cX8_goes 57 = .ok (.invokevirtual 145, 3) := by decide +kernel
theorem dX8_goes_60 : decode cX8_goes 60 = .ok (.aload_n 0, 1) := by decide +kernel
theorem dX8_goes_61 : decode cX8_goes 61 = .ok (.getfield 29, 3) := by decide +kernel
theorem dX8_goes_64 : decode cX8_goes 64 = .ok (.getfield 113, 3) := by decide +kernel
theorem dX8_goes_67 : decode cX8_goes 67 = .ok (.getfield 122, 3) := by decide +kernel
theorem dX8_goes_70 : decode cX8_goes 70 = .ok (.iload_n 1, 1) := by decide +kernel
theorem dX8_goes_71 : decode cX8_goes 71 = .ok (.iaload, 1) := by decide +kernel
theorem dX8_goes_72 : decode cX8_goes 72 = .ok (.ireturn, 1) := by decide +kernel
theorem dX8_meets_0 : decode cX8_meets 0 = .ok (.aload_n 0, 1) := by decide +kernel
theorem dX8_meets_1 : decode cX8_meets 1 = .ok (.iload_n 1, 1) := by decide +kernel
theorem dX8_meets_2 : decode cX8_meets 2 = .ok (.invokevirtual 110, 3) := by decide +kernel
theorem dX8_meets_5 : decode cX8_meets 5 = .ok (.ifCond .ne 24, 3) := by decide +kernel
theorem dX8_meets_8 : decode cX8_meets 8 = .ok (.aload_n 0, 1) := by decide +kernel
theorem dX8_meets_9 : decode cX8_meets 9 = .ok (.iload_n 2, 1) := by decide +kernel
theorem dX8_meets_10 : decode cX8_meets 10 = .ok (.invokevirtual 110, 3) := by decide +kernel
theorem dX8_meets_13 : decode cX8_meets 13 = .ok (.ifCond .ne 16, 3) := by decide +kernel
theorem dX8_meets_16 : decode cX8_meets 16 = .ok (.iload_n 1, 1) := by decide +kernel
theorem dX8_meets_17 : decode cX8_meets 17 = .ok (.iload_n 2, 1) := by decide +kernel
theorem dX8_meets_18 : decode cX8_meets 18 = .ok (.if_icmp .eq 11, 3) := by decide +kernel
theorem dX8_meets_21 : decode cX8_meets 21 = .ok (.aload_n 0, 1) := by decide +kernel
theorem dX8_meets_22 : decode cX8_meets 22 = .ok (.iload_n 3, 1) := by decide +kernel
theorem dX8_meets_23 : decode cX8_meets 23 = .ok (.invokevirtual 94, 3) := by decide +kernel
theorem dX8_meets_26 : decode cX8_meets 26 = .ok (.ifCond .eq 5, 3) := by decide +kernel
theorem dX8_meets_29 : decode cX8_meets 29 = .ok (.iconst (-1), 1) := by decide +kernel
theorem dX8_meets_30 : decode cX8_meets 30 = .ok (.ireturn, 1) := by decide +kernel
theorem dX8_meets_31 : decode cX8_meets 31 = .ok (.aload_n 0, 1) := by decide +kernel
theorem dX8_meets_32 : decode cX8_meets 32 = .ok (.iload_n 1, 1) := by decide +kernel
theorem dX8_meets_33 : decode cX8_meets 33 = .ok (.iload_n 2, 1) := by decide +kernel
theorem dX8_meets_34 : decode cX8_meets 34 = .ok (.iload_n 3, 1) := by decide +kernel
theorem dX8_meets_35 : decode cX8_meets 35 = .ok (.invokevirtual 149, 3) := by decide +kernel
theorem dX8_meets_38 : decode cX8_meets 38 = .ok (.istore 4, 2) := by decide +kernel
theorem dX8_meets_40 : decode cX8_meets 40 = .ok (.iload 4, 2) := by decide +kernel
theorem dX8_meets_42 : decode cX8_meets 42 = .ok (.iconst 3, 1) := by decide +kernel
theorem dX8_meets_43 : decode cX8_meets 43 = .ok (.if_icmp .gt 13, 3) := by decide +kernel
theorem dX8_meets_46 : decode cX8_meets 46 = .ok (.aload_n 0, 1) := by decide +kernel
theorem dX8_meets_47 : decode cX8_meets 47 = .ok (.iload_n 1, 1) := by decide +kernel
theorem dX8_meets_48 : decode cX8_meets 48 = .ok (.iload_n 2, 1) := by decide +kernel
theorem dX8_meets_49 : decode cX8_meets 49 = .ok (.iload_n 3, 1) := by decide +kernel
theorem dX8_meets_50 : decode cX8_meets 50 = .ok (.invokevirtual 153, 3) := by decide +kernel
theorem dX8_meets_53 : decode cX8_meets 53 = .ok (.ifCond .ne 6, 3) := by decide +kernel
theorem dX8_meets_56 : decode cX8_meets 56 = .ok (.bipush (-2), 2) := by decide +kernel
theorem dX8_meets_58 : decode cX8_meets 58 = .ok (.ireturn, 1) := by decide +kernel
theorem dX8_meets_59 : decode cX8_meets 59 = .ok (.aload_n 0, 1) := by decide +kernel
theorem dX8_meets_60 : decode cX8_meets 60 = .ok (.getfield 29, 3) := by decide +kernel
theorem dX8_meets_63 : decode cX8_meets 63 = .ok (.invokevirtual 142, 3) := by decide +kernel
theorem dX8_meets_66 : decode cX8_meets 66 = .ok (.iload 4, 2) := by decide +kernel
theorem dX8_meets_68 : decode cX8_meets 68 = .ok (.iconst 3, 1) := by decide +kernel
theorem dX8_meets_69 : decode cX8_meets 69 = .ok (.if_icmp .ne 17, 3) := by decide +kernel
theorem dX8_meets_72 : decode cX8_meets 72 = .ok (.aload_n 0, 1) := by decide +kernel
theorem dX8_meets_73 : decode cX8_meets 73 = .ok (.getfield 29, 3) := by decide +kernel
theorem dX8_meets_76 : decode cX8_meets 76 = .ok (.getfield 113, 3) := by decide +kernel
theorem dX8_meets_79 : decode cX8_meets 79 = .ok (.iload_n 3, 1) := by decide +kernel
theorem dX8_meets_80 : decode cX8_meets 80 = .ok (.invokevirtual 157, 3) := by decide +kernel
theorem dX8_meets_83 : decode cX8_meets 83 = .ok (.goto 37, 3) := by decide +kernel
theorem dX8_meets_86 : decode cX8_meets 86 = .ok (.aload_n 0, 1) := by decide +kernel
theorem dX8_meets_87 : decode cX8_meets 87 = .ok (.iload_n 1, 1) := by decide +kernel
theorem dX8_meets_88 : decode cX8_meets 88 = .ok (.iload_n 3, 1) := by decide +kernel
theorem dX8_meets_89 : decode cX8_meets 89 = .ok (.iload 4, 2) := by decide +kernel
theorem dX8_meets_91 : decode cX8_meets 91 = .ok (.iconst 2, 1) := by decide +kernel
theorem dX8_meets_92 : decode cX8_meets 92 = .ok (.if_icmp .eq 7, 3) := by decide +kernel
theorem dX8_meets_95 : decode cX8_meets 95 = .ok (.iconst 1, 1) := by decide +kernel
theorem dX8_meets_96 : decode cX8_meets 96 = .ok (.goto 4, 3) := by decide +kernel
theorem dX8_meets_99 : decode cX8_meets 99 = .ok (.iconst 0, 1) := by decide +kernel
theorem dX8_meets_100 : decode cX8_meets 100 = .ok (.invokevirtual 161, 3) := by decide +kernel
theorem dX8_meets_103 : decode cX8_meets 103 = .ok (.aload_n 0, 1) := by decide +kernel
theorem dX8_meets_104 : decode cX8_meets 104 = .ok (.iload_n 2, 1) := by decide +kernel
theorem dX8_meets_105 : decode cX8_meets 105 = .ok (.iload_n 3, 1) := by decide +kernel
end
section
theorem dX8_meets_106 : decode cX8_meets 106 = .ok (.iload 4, 2) := by decide +kernel
theorem dX8_meets_108 : decode cX8_meets 108 = .ok (.iconst 1, 1) := by decide +kernel
theorem dX8_meets_109 : decode cX8_meets 109 = .ok (.if_icmp .eq 7, 3) := by decide +kernel
theorem dX8_meets_112 : decode cX8_meets 112 = .ok (.iconst 1, 1) := by decide +kernel
theorem dX8_meets_113 : decode cX8_meets 113 = .ok (.goto 4, 3) := by decide +kernel
theorem dX8_meets_116 : decode cX8_meets 116 = .ok (.iconst 0, 1) := by decide +kernel
theorem dX8_meets_117 : decode cX8_meets 117 = .ok (.invokevirtual 161, 3) := by decide +kernel
theorem dX8_meets_120 : decode cX8_meets 120 = .ok (.iload 4, 2) := by decide +kernel
theorem dX8_meets_122 : decode cX8_meets 122 = .ok (.ireturn, 1) := by decide +kernel
theorem dX8_claims_0 : decode cX8_claims 0 = .ok (.aload_n 0, 1) := by decide +kernel
theorem dX8_claims_1 : decode cX8_claims 1 = .ok (.iload_n 1, 1) := by decide +kernel
theorem dX8_claims_2 : decode cX8_claims 2 = .ok (.invokevirtual 110, 3) := by decide +kernel
theorem dX8_claims_5 : decode cX8_claims 5 = .ok (.ifCond .ne 16, 3) := by decide +kernel
theorem dX8_claims_8 : decode cX8_claims 8 = .ok (.aload_n 0, 1) := by decide +kernel
theorem dX8_claims_9 : decode cX8_claims 9 = .ok (.iload_n 2, 1) := by decide +kernel
theorem dX8_claims_10 : decode cX8_claims 10 = .ok (.invokevirtual 110, 3) := by decide +kernel
theorem dX8_claims_13 : decode cX8_claims 13 = .ok (.ifCond .ne 8, 3) := by decide +kernel
theorem dX8_claims_16 : decode cX8_claims 16 = .ok (.iload_n 1, 1) := by decide +kernel
theorem dX8_claims_17 : decode cX8_claims 17 = .ok (.iload_n 2, 1) := by decide +kernel
theorem dX8_claims_18 : decode cX8_claims 18 = .ok (.if_icmp .ne 5, 3) := by decide +kernel
theorem dX8_claims_21 : decode cX8_claims 21 = .ok (.iconst (-1), 1) := by decide +kernel
theorem dX8_claims_22 : decode cX8_claims 22 = .ok (.ireturn, 1) := by decide +kernel
theorem dX8_claims_23 : decode cX8_claims 23 = .ok (.aload_n 0, 1) := by decide +kernel
theorem dX8_claims_24 : decode cX8_claims 24 = .ok (.getfield 29, 3) := by decide +kernel
theorem dX8_claims_27 : decode cX8_claims 27 = .ok (.getfield 113, 3) := by decide +kernel
theorem dX8_claims_30 : decode cX8_claims 30 = .ok (.getfield 117, 3) := by decide +kernel
theorem dX8_claims_33 : decode cX8_claims 33 = .ok (.astore_n 3, 1) := by decide +kernel
theorem dX8_claims_34 : decode cX8_claims 34 = .ok (.aload_n 0, 1) := by decide +kernel
theorem dX8_claims_35 : decode cX8_claims 35 = .ok (.getfield 29, 3) := by decide +kernel
theorem dX8_claims_38 : decode cX8_claims 38 = .ok (.getfield 113, 3) := by decide +kernel
theorem dX8_claims_41 : decode cX8_claims 41 = .ok (.getfield 122, 3) := by decide +kernel
theorem dX8_claims_44 : decode cX8_claims 44 = .ok (.iload_n 1, 1) := by decide +kernel
theorem dX8_claims_45 : decode cX8_claims 45 = .ok (.iaload, 1) := by decide +kernel
theorem dX8_claims_46 : decode cX8_claims 46 = .ok (.aload_n 0, 1) := by decide +kernel
theorem dX8_claims_47 : decode cX8_claims 47 = .ok (.getfield 29, 3) := by decide +kernel
theorem dX8_claims_50 : decode cX8_claims 50 = .ok (.getfield 113, 3) := by decide +kernel
theorem dX8_claims_53 : decode cX8_claims 53 = .ok (.getfield 122, 3) := by decide +kernel
theorem dX8_claims_56 : decode cX8_claims 56 = .ok (.iload_n 2, 1) := by decide +kernel
theorem dX8_claims_57 : decode cX8_claims 57 = .ok (.iaload, 1) := by decide +kernel
theorem dX8_claims_58 : decode cX8_claims 58 = .ok (.if_icmp .ne 26, 3) := by decide +kernel
theorem dX8_claims_61 : decode cX8_claims 61 = .ok (.aload_n 3, 1) := by decide +kernel
theorem dX8_claims_62 : decode cX8_claims 62 = .ok (.iload_n 1, 1) := by decide +kernel
theorem dX8_claims_63 : decode cX8_claims 63 = .ok (.iaload, 1) := by decide +kernel
theorem dX8_claims_64 : decode cX8_claims 64 = .ok (.aload_n 3, 1) := by decide +kernel
theorem dX8_claims_65 : decode cX8_claims 65 = .ok (.iload_n 2, 1) := by decide +kernel
theorem dX8_claims_66 : decode cX8_claims 66 = .ok (.iaload, 1) := by decide +kernel
theorem dX8_claims_67 : decode cX8_claims 67 = .ok (.if_icmp .le 17, 3) := by decide +kernel
theorem dX8_claims_70 : decode cX8_claims 70 = .ok (.aload_n 3, 1) := by decide +kernel
theorem dX8_claims_71 : decode cX8_claims 71 = .ok (.iload_n 1, 1) := by decide +kernel
theorem dX8_claims_72 : decode cX8_claims 72 = .ok (.iaload, 1) := by decide +kernel
theorem dX8_claims_73 : decode cX8_claims 73 = .ok (.bipush 9, 2) := by decide +kernel
theorem dX8_claims_75 : decode cX8_claims 75 = .ok (.if_icmp .ge 9, 3) := by decide +kernel
theorem dX8_claims_78 : decode cX8_claims 78 = .ok (.aload_n 3, 1) := by decide +kernel
theorem dX8_claims_79 : decode cX8_claims 79 = .ok (.iload_n 2, 1) := by decide +kernel
theorem dX8_claims_80 : decode cX8_claims 80 = .ok (.iaload, 1) := by decide +kernel
theorem dX8_claims_81 : decode cX8_claims 81 = .ok (.ifCond .gt 6, 3) := by decide +kernel
theorem dX8_claims_84 : decode cX8_claims 84 = .ok (.bipush (-2), 2) := by decide +kernel
theorem dX8_claims_86 : decode cX8_claims 86 = .ok (.ireturn, 1) := by decide +kernel
theorem dX8_claims_87 : decode cX8_claims 87 = .ok (.aload_n 0, 1) := by decide +kernel
theorem dX8_claims_88 : decode cX8_claims 88 = .ok (.getfield 29, 3) := by decide +kernel
theorem dX8_claims_91 : decode cX8_claims 91 = .ok (.invokevirtual 142, 3) := by decide +kernel
theorem dX8_claims_94 : decode cX8_claims 94 = .ok (.aload_n 3, 1) := by decide +kernel
theorem dX8_claims_95 : decode cX8_claims 95 = .ok (.iload_n 1, 1) := by decide +kernel
theorem dX8_claims_96 : decode cX8_claims 96 = .ok (.dup2, 1) := by decide +kernel
theorem dX8_claims_97 : decode cX8_claims 97 = .ok (.iaload, 1) := by decide +kernel
theorem dX8_claims_98 : decode cX8_claims 98 = .ok (.iconst 1, 1) := by decide +kernel
theorem dX8_claims_99 : decode cX8_claims 99 = .ok (.iadd, 1) := by decide +kernel
theorem dX8_claims_100 : decode cX8_claims 100 = .ok (.iastore, 1) := by decide +kernel
theorem dX8_claims_101 : decode cX8_claims 101 = .ok (.aload_n 3, 1) := by decide +kernel
theorem dX8_claims_102 : decode cX8_claims 102 = .ok (.iload_n 2, 1) := by decide +kernel
theorem dX8_claims_103 : decode cX8_claims 103 = .ok (.dup2, 1) := by decide +kernel
theorem dX8_claims_104 : decode cX8_claims 104 = .ok (.iaload, 1) := by decide +kernel
theorem dX8_claims_105 : decode cX8_claims 105 = .ok (.iconst 1, 1) := by decide +kernel
theorem dX8_claims_106 : decode cX8_claims 106 = .ok (.isub, 1) := by decide +kernel
theorem dX8_claims_107 : decode cX8_claims 107 = .ok (.iastore, 1) := by decide +kernel
theorem dX8_claims_108 : decode cX8_claims 108 = .ok (.aload_n 3, 1) := by decide +kernel
theorem dX8_claims_109 : decode cX8_claims 109 = .ok (.iload_n 1, 1) := by decide +kernel
theorem dX8_claims_110 : decode cX8_claims 110 = .ok (.iaload, 1) := by decide +kernel
theorem dX8_claims_111 : decode cX8_claims 111 = .ok (.ireturn, 1) := by decide +kernel
theorem dX8_patents_0 : decode cX8_patents 0 = .ok (.aload_n 0, 1) := by decide +kernel
theorem dX8_patents_1 : decode cX8_patents 1 = .ok (.iload_n 1, 1) := by decide +kernel
theorem dX8_patents_2 : decode cX8_patents 2 = .ok (.invokevirtual 110, 3) := by decide +kernel
theorem dX8_patents_5 : decode cX8_patents 5 = .ok (.ifCond .ne 13, 3) := by decide +kernel
theorem dX8_patents_8 : decode cX8_patents 8 = .ok (.iload_n 2, 1) := by decide +kernel
theorem dX8_patents_9 : decode cX8_patents 9 = .ok (.ifCond .lt 9, 3) := by decide +kernel
theorem dX8_patents_12 : decode cX8_patents 12 = .ok (.iload_n 2, 1) := by decide +kernel
theorem dX8_patents_13 : decode cX8_patents 13 = .ok (.bipush 9, 2) := by decide +kernel
theorem dX8_patents_15 : decode cX8_patents 15 = .ok (.if_icmp .le 5, 3) := by decide +kernel
theorem dX8_patents_18 : decode cX8_patents 18 = .ok (.iconst (-1), 1) := by decide +kernel
theorem dX8_patents_19 : decode cX8_patents 19 = .ok (.ireturn, 1) := by decide +kernel
theorem dX8_patents_20 : decode cX8_patents 20 = .ok (.aload_n 0, 1) := by decide +kernel
theorem dX8_patents_21 : decode cX8_patents 21 = .ok (.getfield 29, 3) := by decide +kernel
theorem dX8_patents_24 : decode cX8_patents 24 = .ok (.getfield 113, 3) := by decide +kernel
theorem dX8_patents_27 : decode cX8_patents 27 = .ok (.getfield 117, 3) := by decide +kernel
theorem dX8_patents_30 : decode cX8_patents 30 = .ok (.iload_n 1, 1) := by decide +kernel
theorem dX8_patents_31 : decode cX8_patents 31 = .ok (.iaload, 1) := by decide +kernel
theorem dX8_patents_32 : decode cX8_patents 32 = .ok (.istore_n 3, 1) := by decide +kernel
theorem dX8_patents_33 : decode cX8_patents 33 = .ok (.iload_n 3, 1) := by decide +kernel
theorem dX8_patents_34 : decode cX8_patents 34 = .ok (.iload_n 2, 1) := by decide +kernel
theorem dX8_patents_35 : decode cX8_patents 35 = .ok (.if_icmp .ne 6, 3) := by decide +kernel
theorem dX8_patents_38 : decode cX8_patents 38 = .ok (.bipush (-2), 2) := by decide +kernel
theorem dX8_patents_40 : decode cX8_patents 40 = .ok (.ireturn, 1) := by decide +kernel
theorem dX8_patents_41 : decode cX8_patents 41 = .ok (.aload_n 0, 1) := by decide +kernel
theorem dX8_patents_42 : decode cX8_patents 42 = .ok (.getfield 29, 3) := by decide +kernel
theorem dX8_patents_45 : decode cX8_patents 45 = .ok (.invokevirtual 142, 3) := by decide +kernel
theorem dX8_patents_48 : decode cX8_patents 48 = .ok (.aload_n 0, 1) := by decide +kernel
theorem dX8_patents_49 : decode cX8_patents 49 = .ok (.getfield 29, 3) := by decide +kernel
theorem dX8_patents_52 : decode cX8_patents 52 = .ok (.getfield 113, 3) := by decide +kernel
theorem dX8_patents_55 : decode cX8_patents 55 = .ok (.getfield 117, 3) := by decide +kernel
theorem dX8_patents_58 : decode cX8_patents 58 = .ok (.iload_n 1, 1) := by decide +kernel
theorem dX8_patents_59 : decode cX8_patents 59 = .ok (.iload_n 2, 1) := by decide +kernel
theorem dX8_patents_60 : decode cX8_patents 60 = .ok (.iastore, 1) := by decide +kernel
theorem dX8_patents_61 : decode cX8_patents 61 = .ok (.iload_n 3, 1) := by decide +kernel
theorem dX8_patents_62 : decode cX8_patents 62 = .ok (.ireturn, 1) := by decide +kernel
theorem dX8_shuts_0 : decode cX8_shuts 0 = .ok (.aload_n 0, 1) := by decide +kernel
theorem dX8_shuts_1 : decode cX8_shuts 1 = .ok (.iload_n 1, 1) := by decide +kernel
theorem dX8_shuts_2 : decode cX8_shuts 2 = .ok (.invokevirtual 94, 3) := by decide +kernel
theorem dX8_shuts_5 : decode cX8_shuts 5 = .ok (.ifCond .ne 12, 3) := by decide +kernel
theorem dX8_shuts_8 : decode cX8_shuts 8 = .ok (.iload_n 2, 1) := by decide +kernel
theorem dX8_shuts_9 : decode cX8_shuts 9 = .ok (.ifCond .lt 8, 3) := by decide +kernel
theorem dX8_shuts_12 : decode cX8_shuts 12 = .ok (.iload_n 2, 1) := by decide +kernel
theorem dX8_shuts_13 : decode cX8_shuts 13 = .ok (.iconst 1, 1) := by decide +kernel
theorem dX8_shuts_14 : decode cX8_shuts 14 = .ok (.if_icmp .le 5, 3) := by decide +kernel
theorem dX8_shuts_17 : decode cX8_shuts 17 = .ok (.iconst (-1), 1) := by decide +kernel
theorem dX8_shuts_18 : decode cX8_shuts 18 = .ok (.ireturn, 1) := by decide +kernel
theorem dX8_shuts_19 : decode cX8_shuts 19 = .ok (.aload_n 0, 1) := by decide +kernel
theorem dX8_shuts_20 : decode cX8_shuts 20 = .ok (.iload_n 1, 1) := by decide +kernel
theorem dX8_shuts_21 : decode cX8_shuts 21 = .ok (.invokevirtual 107, 3) := by decide +kernel
theorem dX8_shuts_24 : decode cX8_shuts 24 = .ok (.iload_n 2, 1) := by decide +kernel
theorem dX8_shuts_25 : decode cX8_shuts 25 = .ok (.iconst 1, 1) := by decide +kernel
theorem dX8_shuts_26 : decode cX8_shuts 26 = .ok (.if_icmp .ne 7, 3) := by decide +kernel
theorem dX8_shuts_29 : decode cX8_shuts 29 = .ok (.iconst 1, 1) := by decide +kernel
theorem dX8_shuts_30 : decode cX8_shuts 30 = .ok (.goto 4, 3) := by decide +kernel
theorem dX8_shuts_33 : decode cX8_shuts 33 = .ok (.iconst 0, 1) := by decide +kernel
theorem dX8_shuts_34 : decode cX8_shuts 34 = .ok (.if_icmp .ne 6, 3) := by decide +kernel
theorem dX8_shuts_37 : decode cX8_shuts 37 = .ok (.bipush (-2), 2) := by decide +kernel
theorem dX8_shuts_39 : decode cX8_shuts 39 = .ok (.ireturn, 1) := by decide +kernel
theorem dX8_shuts_40 : decode cX8_shuts 40 = .ok (.aload_n 0, 1) := by decide +kernel
theorem dX8_shuts_41 : decode cX8_shuts 41 = .ok (.getfield 29, 3) := by decide +kernel
theorem dX8_shuts_44 : decode cX8_shuts 44 = .ok (.invokevirtual 142, 3) := by decide +kernel
theorem dX8_shuts_47 : decode cX8_shuts 47 = .ok (.iload_n 2, 1) := by decide +kernel
theorem dX8_shuts_48 : decode cX8_shuts 48 = .ok (.iconst 1, 1) := by decide +kernel
theorem dX8_shuts_49 : decode cX8_shuts 49 = .ok (.if_icmp .ne 17, 3) := by decide +kernel
theorem dX8_shuts_52 : decode cX8_shuts 52 = .ok (.aload_n 0, 1) := by decide +kernel
theorem dX8_shuts_53 : decode cX8_shuts 53 = .ok (.getfield 29, 3) := by decide +kernel
theorem dX8_shuts_56 : decode cX8_shuts 56 = .ok (.getfield 113, 3) := by decide +kernel
theorem dX8_shuts_59 : decode cX8_shuts 59 = .ok (.iload_n 1, 1) := by decide +kernel
theorem dX8_shuts_60 : decode cX8_shuts 60 = .ok (.invokevirtual 157, 3) := by decide +kernel
theorem dX8_shuts_63 : decode cX8_shuts 63 = .ok (.goto 14, 3) := by decide +kernel
theorem dX8_shuts_66 : decode cX8_shuts 66 = .ok (.aload_n 0, 1) := by decide +kernel
theorem dX8_shuts_67 : decode cX8_shuts 67 = .ok (.getfield 29, 3) := by decide +kernel
theorem dX8_shuts_70 : decode cX8_shuts 70 = .ok (.getfield 113, 3) := by decide +kernel
theorem dX8_shuts_73 : decode cX8_shuts 73 = .ok (.iload_n 1, 1) := by decide +kernel
theorem dX8_shuts_74 : decode cX8_shuts 74 = .ok (.invokevirtual 165, 3) := by decide +kernel
theorem dX8_shuts_77 : decode cX8_shuts 77 = .ok (.aload_n 0, 1) := by decide +kernel
theorem dX8_shuts_78 : decode cX8_shuts 78 = .ok (.invokevirtual 168, 3) := by decide +kernel
theorem dX8_shuts_81 : decode cX8_shuts 81 = .ok (.ireturn, 1) := by decide +kernel
theorem dX8_undo_0 : decode cX8_undo 0 = .ok (.aload_n 0, 1) := by decide +kernel
theorem dX8_undo_1 : decode cX8_undo 1 = .ok (.getfield 29, 3) := by decide +kernel
theorem dX8_undo_4 : decode cX8_undo 4 = .ok (.invokevirtual 172, 3) := by decide +kernel
theorem dX8_undo_7 : decode cX8_undo 7 = .ok (.ifCond .eq 13, 3) := by decide +kernel
theorem dX8_undo_10 : decode cX8_undo 10 = .ok (.aload_n 0, 1) := by decide +kernel
theorem dX8_undo_11 : decode cX8_undo 11 = .ok (.getfield 29, 3) := by decide +kernel
theorem dX8_undo_14 : decode cX8_undo 14 = .ok (.getfield 176, 3) := by decide +kernel
theorem dX8_undo_17 : decode cX8_undo 17 = .ok (.goto 5, 3) := by decide +kernel
theorem dX8_undo_20 : decode cX8_undo 20 = .ok (.bipush (-2), 2) := by decide +kernel
theorem dX8_undo_22 : decode cX8_undo 22 = .ok (.ireturn, 1) := by decide +kernel
theorem dX8_now_0 : decode cX8_now 0 = .ok (.iload_n 1, 1) := by decide +kernel
theorem dX8_now_1 : decode cX8_now 1 = .ok (.tableswitch 77 0 3 #[31, 42, 57, 72], 31) := by decide +kernel
theorem dX8_now_32 : decode cX8_now 32 = .ok (.aload_n 0, 1) := by decide +kernel
theorem dX8_now_33 : decode cX8_now 33 = .ok (.getfield 29, 3) := by decide +kernel
theorem dX8_now_36 : decode cX8_now 36 = .ok (.getfield 113, 3) := by decide +kernel
theorem dX8_now_39 : decode cX8_now 39 = .ok (.getfield 179, 3) := by decide +kernel
theorem dX8_now_42 : decode cX8_now 42 = .ok (.ireturn, 1) := by decide +kernel
theorem dX8_now_43 : decode cX8_now 43 = .ok (.aload_n 0, 1) := by decide +kernel
theorem dX8_now_44 : decode cX8_now 44 = .ok (.aload_n 0, 1) := by decide +kernel
theorem dX8_now_45 : decode cX8_now 45 = .ok (.getfield 29, 3) := by decide +kernel
theorem dX8_now_48 : decode cX8_now 48 = .ok (.getfield 113, 3) := by decide +kernel
theorem dX8_now_51 : decode cX8_now 51 = .ok (.getfield 129, 3) := by decide +kernel
theorem dX8_now_54 : decode cX8_now 54 = .ok (.invokevirtual 182, 3) := by decide +kernel
theorem dX8_now_57 : decode cX8_now 57 = .ok (.ireturn, 1) := by decide +kernel
theorem dX8_now_58 : decode cX8_now 58 = .ok (.aload_n 0, 1) := by decide +kernel
theorem dX8_now_59 : decode cX8_now 59 = .ok (.aload_n 0, 1) := by decide +kernel
theorem dX8_now_60 : decode cX8_now 60 = .ok (.getfield 29, 3) := by decide +kernel
theorem dX8_now_63 : decode cX8_now 63 = .ok (.getfield 113, 3) := by decide +kernel
theorem dX8_now_66 : decode cX8_now 66 = .ok (.getfield 117, 3) := by decide +kernel
theorem dX8_now_69 : decode cX8_now 69 = .ok (.invokevirtual 182, 3) := by decide +kernel
theorem dX8_now_72 : decode cX8_now 72 = .ok (.ireturn, 1) := by decide +kernel
theorem dX8_now_73 : decode cX8_now 73 = .ok (.aload_n 0, 1) := by decide +kernel
theorem dX8_now_74 : decode cX8_now 74 = .ok (.invokevirtual 186, 3) := by decide +kernel
theorem dX8_now_77 : decode cX8_now 77 = .ok (.ireturn, 1) := by decide +kernel
theorem dX8_now_78 : decode cX8_now 78 = .ok (.iconst (-1), 1) := by decide +kernel
theorem dX8_now_79 : decode cX8_now 79 = .ok (.ireturn, 1) := by decide +kernel
theorem dX8_way_0 : decode cX8_way 0 = .ok (.aload_n 0, 1) := by decide +kernel
theorem dX8_way_1 : decode cX8_way 1 = .ok (.iload_n 1, 1) := by decide +kernel
theorem dX8_way_2 : decode cX8_way 2 = .ok (.invokevirtual 110, 3) := by decide +kernel
theorem dX8_way_5 : decode cX8_way 5 = .ok (.ifCond .ne 16, 3) := by decide +kernel
theorem dX8_way_8 : decode cX8_way 8 = .ok (.aload_n 0, 1) := by decide +kernel
theorem dX8_way_9 : decode cX8_way 9 = .ok (.iload_n 2, 1) := by decide +kernel
theorem dX8_way_10 : decode cX8_way 10 = .ok (.invokevirtual 189, 3) := by decide +kernel
theorem dX8_way_13 : decode cX8_way 13 = .ok (.ifCond .ne 8, 3) := by decide +kernel
theorem dX8_way_16 : decode cX8_way 16 = .ok (.iload_n 3, 1) := by decide +kernel
theorem dX8_way_17 : decode cX8_way 17 = .ok (.iconst (-1), 1) := by decide +kernel
theorem dX8_way_18 : decode cX8_way 18 = .ok (.if_icmp .ge 5, 3) := by decide +kernel
theorem dX8_way_21 : decode cX8_way 21 = .ok (.iconst (-1), 1) := by decide +kernel
theorem dX8_way_22 : decode cX8_way 22 = .ok (.ireturn, 1) := by decide +kernel
theorem dX8_way_23 : decode cX8_way 23 = .ok (.aload_n 0, 1) := by decide +kernel
theorem dX8_way_24 : decode cX8_way 24 = .ok (.getfield 51, 3) := by decide +kernel
theorem dX8_way_27 : decode cX8_way 27 = .ok (.aload_n 0, 1) := by decide +kernel
theorem dX8_way_28 : decode cX8_way 28 = .ok (.getfield 19, 3) := by decide +kernel
theorem dX8_way_31 : decode cX8_way 31 = .ok (.iload_n 2, 1) := by decide +kernel
theorem dX8_way_32 : decode cX8_way 32 = .ok (.aload_n 0, 1) := by decide +kernel
theorem dX8_way_33 : decode cX8_way 33 = .ok (.iload_n 1, 1) := by decide +kernel
theorem dX8_way_34 : decode cX8_way 34 = .ok (.invokevirtual 192, 3) := by decide +kernel
theorem dX8_way_37 : decode cX8_way 37 = .ok (.invokevirtual 195, 3) := by decide +kernel
theorem dX8_way_40 : decode cX8_way 40 = .ok (.aload_n 0, 1) := by decide +kernel
theorem dX8_way_41 : decode cX8_way 41 = .ok (.getfield 29, 3) := by decide +kernel
theorem dX8_way_44 : decode cX8_way 44 = .ok (.getfield 113, 3) := by decide +kernel
theorem dX8_way_47 : decode cX8_way 47 = .ok (.getfield 122, 3) := by decide +kernel
theorem dX8_way_50 : decode cX8_way 50 = .ok (.iload_n 1, 1) := by decide +kernel
theorem dX8_way_51 : decode cX8_way 51 = .ok (.iaload, 1) := by decide +kernel
theorem dX8_way_52 : decode cX8_way 52 = .ok (.istore 4, 2) := by decide +kernel
theorem dX8_way_54 : decode cX8_way 54 = .ok (.aload_n 0, 1) := by decide +kernel
theorem dX8_way_55 : decode cX8_way 55 = .ok (.getfield 51, 3) := by decide +kernel
theorem dX8_way_58 : decode cX8_way 58 = .ok (.iload 4, 2) := by decide +kernel
theorem dX8_way_60 : decode cX8_way 60 = .ok (.invokevirtual 199, 3) := by decide +kernel
theorem dX8_way_63 : decode cX8_way 63 = .ok (.istore 5, 2) := by decide +kernel
theorem dX8_way_65 : decode cX8_way 65 = .ok (.iload 5, 2) := by decide +kernel
theorem dX8_way_67 : decode cX8_way 67 = .ok (.bipush (-9), 2) := by decide +kernel
theorem dX8_way_69 : decode cX8_way 69 = .ok (.if_icmp .eq 8, 3) := by decide +kernel
theorem dX8_way_72 : decode cX8_way 72 = .ok (.iload_n 3, 1) := by decide +kernel
theorem dX8_way_73 : decode cX8_way 73 = .ok (.iconst (-1), 1) := by decide +kernel
theorem dX8_way_74 : decode cX8_way 74 = .ok (.if_icmp .ne 6, 3) := by decide +kernel
theorem dX8_way_77 : decode cX8_way 77 = .ok (.iload 5, 2) := by decide +kernel
theorem dX8_way_79 : decode cX8_way 79 = .ok (.ireturn, 1) := by decide +kernel
theorem dX8_way_80 : decode cX8_way 80 = .ok (.iload_n 3, 1) := by decide +kernel
theorem dX8_way_81 : decode cX8_way 81 = .ok (.iload 5, 2) := by decide +kernel
theorem dX8_way_83 : decode cX8_way 83 = .ok (.if_icmp .ge 20, 3) := by decide +kernel
theorem dX8_way_86 : decode cX8_way 86 = .ok (.aload_n 0, 1) := by decide +kernel
theorem dX8_way_87 : decode cX8_way 87 = .ok (.getfield 51, 3) := by decide +kernel
theorem dX8_way_90 : decode cX8_way 90 = .ok (.aload_n 0, 1) := by decide +kernel
theorem dX8_way_91 : decode cX8_way 91 = .ok (.getfield 19, 3) := by decide +kernel
theorem dX8_way_94 : decode cX8_way 94 = .ok (.iload 4, 2) := by decide +kernel
theorem dX8_way_96 : decode cX8_way 96 = .ok (.iload_n 3, 1) := by decide +kernel
theorem dX8_way_97 : decode cX8_way 97 = .ok (.invokevirtual 202, 3) := by decide +kernel
theorem dX8_way_100 : decode cX8_way 100 = .ok (.goto 5, 3) := by decide +kernel
theorem dX8_way_103 : decode cX8_way 103 = .ok (.bipush (-9), 2) := by decide +kernel
theorem dX8_way_105 : decode cX8_way 105 = .ok (.ireturn, 1) := by decide +kernel
theorem dX8_lacks_0 : decode cX8_lacks 0 = .ok (.aload_n 0, 1) := by decide +kernel
theorem dX8_lacks_1 : decode cX8_lacks 1 = .ok (.iload_n 1, 1) := by decide +kernel
theorem dX8_lacks_2 : decode cX8_lacks 2 = .ok (.invokevirtual 110, 3) := by decide +kernel
theorem dX8_lacks_5 : decode cX8_lacks 5 = .ok (.ifCond .ne 11, 3) := by decide +kernel
theorem dX8_lacks_8 : decode cX8_lacks 8 = .ok (.aload_n 0, 1) := by decide +kernel
theorem dX8_lacks_9 : decode cX8_lacks 9 = .ok (.iload_n 2, 1) := by decide +kernel
theorem dX8_lacks_10 : decode cX8_lacks 10 = .ok (.invokevirtual 189, 3) := by decide +kernel
theorem dX8_lacks_13 : decode cX8_lacks 13 = .ok (.ifCond .eq 5, 3) := by decide +kernel
theorem dX8_lacks_16 : decode cX8_lacks 16 = .ok (.iconst (-1), 1) := by decide +kernel
theorem dX8_lacks_17 : decode cX8_lacks 17 = .ok (.ireturn, 1) := by decide +kernel
theorem dX8_lacks_18 : decode cX8_lacks 18 = .ok (.aload_n 0, 1) := by decide +kernel
theorem dX8_lacks_19 : decode cX8_lacks 19 = .ok (.getfield 51, 3) := by decide +kernel
theorem dX8_lacks_22 : decode cX8_lacks 22 = .ok (.aload_n 0, 1) := by decide +kernel
theorem dX8_lacks_23 : decode cX8_lacks 23 = .ok (.getfield 19, 3) := by decide +kernel
theorem dX8_lacks_26 : decode cX8_lacks 26 = .ok (.iload_n 2, 1) := by decide +kernel
theorem dX8_lacks_27 : decode cX8_lacks 27 = .ok (.aload_n 0, 1) := by decide +kernel
theorem dX8_lacks_28 : decode cX8_lacks 28 = .ok (.invokevirtual 206, 3) := by decide +kernel
theorem dX8_lacks_31 : decode cX8_lacks 31 = .ok (.aload_n 0, 1) := by decide +kernel
theorem dX8_lacks_32 : decode cX8_lacks 32 = .ok (.iload_n 1, 1) := by decide +kernel
theorem dX8_lacks_33 : decode cX8_lacks 33 = .ok (.invokevirtual 125, 3) := by decide +kernel
theorem dX8_lacks_36 : decode cX8_lacks 36 = .ok (.invokevirtual 209, 3) := by decide +kernel
theorem dX8_lacks_39 : decode cX8_lacks 39 = .ok (.aload_n 0, 1) := by decide +kernel
theorem dX8_lacks_40 : decode cX8_lacks 40 = .ok (.getfield 51, 3) := by decide +kernel
theorem dX8_lacks_43 : decode cX8_lacks 43 = .ok (.aload_n 0, 1) := by decide +kernel
theorem dX8_lacks_44 : decode cX8_lacks 44 = .ok (.getfield 29, 3) := by decide +kernel
theorem dX8_lacks_47 : decode cX8_lacks 47 = .ok (.getfield 113, 3) := by decide +kernel
theorem dX8_lacks_50 : decode cX8_lacks 50 = .ok (.getfield 122, 3) := by decide +kernel
theorem dX8_lacks_53 : decode cX8_lacks 53 = .ok (.iload_n 1, 1) := by decide +kernel
theorem dX8_lacks_54 : decode cX8_lacks 54 = .ok (.iaload, 1) := by decide +kernel
theorem dX8_lacks_55 : decode cX8_lacks 55 = .ok (.invokevirtual 199, 3) := by decide +kernel
theorem dX8_lacks_58 : decode cX8_lacks 58 = .ok (.ireturn, 1) := by decide +kernel
theorem dX8_must_0 : decode cX8_must 0 = .ok (.aload_n 0, 1) := by decide +kernel
theorem dX8_must_1 : decode cX8_must 1 = .ok (.iload_n 1, 1) := by decide +kernel
theorem dX8_must_2 : decode cX8_must 2 = .ok (.invokevirtual 110, 3) := by decide +kernel
theorem dX8_must_5 : decode cX8_must 5 = .ok (.ifCond .ne 11, 3) := by decide +kernel
theorem dX8_must_8 : decode cX8_must 8 = .ok (.aload_n 0, 1) := by decide +kernel
theorem dX8_must_9 : decode cX8_must 9 = .ok (.iload_n 2, 1) := by decide +kernel
theorem dX8_must_10 : decode cX8_must 10 = .ok (.invokevirtual 189, 3) := by decide +kernel
theorem dX8_must_13 : decode cX8_must 13 = .ok (.ifCond .eq 5, 3) := by decide +kernel
theorem dX8_must_16 : decode cX8_must 16 = .ok (.iconst (-1), 1) := by decide +kernel
theorem dX8_must_17 : decode cX8_must 17 = .ok (.ireturn, 1) := by decide +kernel
theorem dX8_must_18 : decode cX8_must 18 = .ok (.aload_n 0, 1) := by decide +kernel
theorem dX8_must_19 : decode cX8_must 19 = .ok (.getfield 29, 3) := by decide +kernel
theorem dX8_must_22 : decode cX8_must 22 = .ok (.getfield 113, 3) := by decide +kernel
theorem dX8_must_25 : decode cX8_must 25 = .ok (.getfield 122, 3) := by decide +kernel
theorem dX8_must_28 : decode cX8_must 28 = .ok (.iload_n 1, 1) := by decide +kernel
theorem dX8_must_29 : decode cX8_must 29 = .ok (.iaload, 1) := by decide +kernel
theorem dX8_must_30 : decode cX8_must 30 = .ok (.istore_n 3, 1) := by decide +kernel
theorem dX8_must_31 : decode cX8_must 31 = .ok (.aload_n 0, 1) := by decide +kernel
theorem dX8_must_32 : decode cX8_must 32 = .ok (.iload_n 1, 1) := by decide +kernel
theorem dX8_must_33 : decode cX8_must 33 = .ok (.invokevirtual 192, 3) := by decide +kernel
theorem dX8_must_36 : decode cX8_must 36 = .ok (.istore 4, 2) := by decide +kernel
theorem dX8_must_38 : decode cX8_must 38 = .ok (.aload_n 0, 1) := by decide +kernel
theorem dX8_must_39 : decode cX8_must 39 = .ok (.getfield 19, 3) := by decide +kernel
theorem dX8_must_42 : decode cX8_must 42 = .ok (.iload 4, 2) := by decide +kernel
theorem dX8_must_44 : decode cX8_must 44 = .ok (.iload_n 3, 1) := by decide +kernel
theorem dX8_must_45 : decode cX8_must 45 = .ok (.iload_n 2, 1) := by decide +kernel
theorem dX8_must_46 : decode cX8_must 46 = .ok (.invokevirtual 213, 3) := by decide +kernel
theorem dX8_must_49 : decode cX8_must 49 = .ok (.ifCond .ne 5, 3) := by decide +kernel
theorem dX8_must_52 : decode cX8_must 52 = .ok (.iconst 0, 1) := by decide +kernel
theorem dX8_must_53 : decode cX8_must 53 = .ok (.ireturn, 1) := by decide +kernel
theorem dX8_must_54 : decode cX8_must 54 = .ok (.iconst 0, 1) := by decide +kernel
theorem dX8_must_55 : decode cX8_must 55 = .ok (.istore 5, 2) := by decide +kernel
theorem dX8_must_57 : decode cX8_must 57 = .ok (.iconst 0, 1) := by decide +kernel
theorem dX8_must_58 : decode cX8_must 58 = .ok (.istore 6, 2) := by decide +kernel
theorem dX8_must_60 : decode cX8_must 60 = .ok (.iload 6, 2) := by decide +kernel
theorem dX8_must_62 : decode cX8_must 62 = .ok (.aload_n 0, 1) := by decide +kernel
theorem dX8_must_63 : decode cX8_must 63 = .ok (.getfield 19, 3) := by decide +kernel
theorem dX8_must_66 : decode cX8_must 66 = .ok (.getfield 216, 3) := by decide +kernel
theorem dX8_must_69 : decode cX8_must 69 = .ok (.if_icmp .ge 39, 3) := by decide +kernel
theorem dX8_must_72 : decode cX8_must 72 = .ok (.aload_n 0, 1) := by decide +kernel
theorem dX8_must_73 : decode cX8_must 73 = .ok (.getfield 19, 3) := by decide +kernel
theorem dX8_must_76 : decode cX8_must 76 = .ok (.iload 4, 2) := by decide +kernel
theorem dX8_must_78 : decode cX8_must 78 = .ok (.iconst 1, 1) := by decide +kernel
theorem dX8_must_79 : decode cX8_must 79 = .ok (.iload 6, 2) := by decide +kernel
theorem dX8_must_81 : decode cX8_must 81 = .ok (.ishl, 1) := by decide +kernel
theorem dX8_must_82 : decode cX8_must 82 = .ok (.iconst (-1), 1) := by decide +kernel
theorem dX8_must_83 : decode cX8_must 83 = .ok (.ixor, 1) := by decide +kernel
theorem dX8_must_84 : decode cX8_must 84 = .ok (.iand, 1) := by decide +kernel
theorem dX8_must_85 : decode cX8_must 85 = .ok (.iload_n 3, 1) := by decide +kernel
theorem dX8_must_86 : decode cX8_must 86 = .ok (.iload_n 2, 1) := by decide +kernel
theorem dX8_must_87 : decode cX8_must 87 = .ok (.invokevirtual 213, 3) := by decide +kernel
theorem dX8_must_90 : decode cX8_must 90 = .ok (.ifCond .ne 12, 3) := by decide +kernel
theorem dX8_must_93 : decode cX8_must 93 = .ok (.iload 5, 2) := by decide +kernel
theorem dX8_must_95 : decode cX8_must 95 = .ok (.iconst 1, 1) := by decide +kernel
theorem dX8_must_96 : decode cX8_must 96 = .ok (.iload 6, 2) := by decide +kernel
theorem dX8_must_98 : decode cX8_must 98 = .ok (.ishl, 1) := by decide +kernel
theorem dX8_must_99 : decode cX8_must 99 = .ok (.ior, 1) := by decide +kernel
theorem dX8_must_100 : decode cX8_must 100 = .ok (.istore 5, 2) := by decide +kernel
theorem dX8_must_102 : decode cX8_must 102 = .ok (.iinc 6 1, 3) := by decide +kernel
theorem dX8_must_105 : decode cX8_must 105 = .ok (.goto (-45), 3) := by decide +kernel
theorem dX8_must_108 : decode cX8_must 108 = .ok (.iload 5, 2) := by decide +kernel
theorem dX8_must_110 : decode cX8_must 110 = .ok (.ireturn, 1) := by decide +kernel
theorem dX8_odds_0 : decode cX8_odds 0 = .ok (.aload_n 0, 1) := by decide +kernel
theorem dX8_odds_1 : decode cX8_odds 1 = .ok (.iload_n 1, 1) := by decide +kernel
theorem dX8_odds_2 : decode cX8_odds 2 = .ok (.invokevirtual 110, 3) := by decide +kernel
theorem dX8_odds_5 : decode cX8_odds 5 = .ok (.ifCond .ne 32, 3) := by decide +kernel
theorem dX8_odds_8 : decode cX8_odds 8 = .ok (.aload_n 0, 1) := by decide +kernel
theorem dX8_odds_9 : decode cX8_odds 9 = .ok (.iload_n 2, 1) := by decide +kernel
theorem dX8_odds_10 : decode cX8_odds 10 = .ok (.invokevirtual 189, 3) := by decide +kernel
theorem dX8_odds_13 : decode cX8_odds 13 = .ok (.ifCond .ne 24, 3) := by decide +kernel
theorem dX8_odds_16 : decode cX8_odds 16 = .ok (.iload_n 3, 1) := by decide +kernel
theorem dX8_odds_17 : decode cX8_odds 17 = .ok (.ifCond .lt 20, 3) := by decide +kernel
theorem dX8_odds_20 : decode cX8_odds 20 = .ok (.iload_n 3, 1) := by decide +kernel
theorem dX8_odds_21 : decode cX8_odds 21 = .ok (.bipush 10, 2) := by decide +kernel
theorem dX8_odds_23 : decode cX8_odds 23 = .ok (.if_icmp .gt 14, 3) := by decide +kernel
theorem dX8_odds_26 : decode cX8_odds 26 = .ok (.iload 4, 2) := by decide +kernel
theorem dX8_odds_28 : decode cX8_odds 28 = .ok (.ifCond .lt 9, 3) := by decide +kernel
theorem dX8_odds_31 : decode cX8_odds 31 = .ok (.iload 4, 2) := by decide +kernel
theorem dX8_odds_33 : decode cX8_odds 33 = .ok (.iconst 1, 1) := by decide +kernel
theorem dX8_odds_34 : decode cX8_odds 34 = .ok (.if_icmp .le 5, 3) := by decide +kernel
theorem dX8_odds_37 : decode cX8_odds 37 = .ok (.iconst (-1), 1) := by decide +kernel
theorem dX8_odds_38 : decode cX8_odds 38 = .ok (.ireturn, 1) := by decide +kernel
theorem dX8_odds_39 : decode cX8_odds 39 = .ok (.aload_n 0, 1) := by decide +kernel
theorem dX8_odds_40 : decode cX8_odds 40 = .ok (.iload_n 1, 1) := by decide +kernel
theorem dX8_odds_41 : decode cX8_odds 41 = .ok (.invokevirtual 192, 3) := by decide +kernel
theorem dX8_odds_44 : decode cX8_odds 44 = .ok (.istore 5, 2) := by decide +kernel
theorem dX8_odds_46 : decode cX8_odds 46 = .ok (.iload 5, 2) := by decide +kernel
theorem dX8_odds_48 : decode cX8_odds 48 = .ok (.invokestatic 219, 3) := by decide +kernel
theorem dX8_odds_51 : decode cX8_odds 51 = .ok (.istore 6, 2) := by decide +kernel
theorem dX8_odds_53 : decode cX8_odds 53 = .ok (.aload_n 0, 1) := by decide +kernel
theorem dX8_odds_54 : decode cX8_odds 54 = .ok (.iload 5, 2) := by decide +kernel
theorem dX8_odds_56 : decode cX8_odds 56 = .ok (.aload_n 0, 1) := by decide +kernel
theorem dX8_odds_57 : decode cX8_odds 57 = .ok (.getfield 29, 3) := by decide +kernel
theorem dX8_odds_60 : decode cX8_odds 60 = .ok (.getfield 113, 3) := by decide +kernel
theorem dX8_odds_63 : decode cX8_odds 63 = .ok (.getfield 122, 3) := by decide +kernel
theorem dX8_odds_66 : decode cX8_odds 66 = .ok (.iload_n 1, 1) := by decide +kernel
theorem dX8_odds_67 : decode cX8_odds 67 = .ok (.iaload, 1) := by decide +kernel
theorem dX8_odds_68 : decode cX8_odds 68 = .ok (.iload_n 2, 1) := by decide +kernel
theorem dX8_odds_69 : decode cX8_odds 69 = .ok (.iload_n 3, 1) := by decide +kernel
theorem dX8_odds_70 : decode cX8_odds 70 = .ok (.invokevirtual 224, 3) := by decide +kernel
theorem dX8_odds_73 : decode cX8_odds 73 = .ok (.istore 7, 2) := by decide +kernel
theorem dX8_odds_75 : decode cX8_odds 75 = .ok (.bipush 10, 2) := by decide +kernel
theorem dX8_odds_77 : decode cX8_odds 77 = .ok (.iload 6, 2) := by decide +kernel
theorem dX8_odds_79 : decode cX8_odds 79 = .ok (.invokestatic 228, 3) := by decide +kernel
theorem dX8_odds_82 : decode cX8_odds 82 = .ok (.istore 8, 2) := by decide +kernel
theorem dX8_odds_84 : decode cX8_odds 84 = .ok (.iconst 0, 1) := by decide +kernel
theorem dX8_odds_85 : decode cX8_odds 85 = .ok (.istore 9, 2) := by decide +kernel
theorem dX8_odds_87 : decode cX8_odds 87 = .ok (.iload 9, 2) := by decide +kernel
theorem dX8_odds_89 : decode cX8_odds 89 = .ok (.iload 6, 2) := by decide +kernel
theorem dX8_odds_91 : decode cX8_odds 91 = .ok (.if_icmp .ge 61, 3) := by decide +kernel
theorem dX8_odds_94 : decode cX8_odds 94 = .ok (.iload 7, 2) := by decide +kernel
theorem dX8_odds_96 : decode cX8_odds 96 = .ok (.iconst 2, 1) := by decide +kernel
theorem dX8_odds_97 : decode cX8_odds 97 = .ok (.irem, 1) := by decide +kernel
theorem dX8_odds_98 : decode cX8_odds 98 = .ok (.ifCond .ne 22, 3) := by decide +kernel
theorem dX8_odds_101 : decode cX8_odds 101 = .ok (.iload 8, 2) := by decide +kernel
theorem dX8_odds_103 : decode cX8_odds 103 = .ok (.iconst 2, 1) := by decide +kernel
theorem dX8_odds_104 : decode cX8_odds 104 = .ok (.irem, 1) := by decide +kernel
theorem dX8_odds_105 : decode cX8_odds 105 = .ok (.ifCond .ne 15, 3) := by decide +kernel
theorem dX8_odds_108 : decode cX8_odds 108 = .ok (.iload 7, 2) := by decide +kernel
theorem dX8_odds_110 : decode cX8_odds 110 = .ok (.iconst 2, 1) := by decide +kernel
theorem dX8_odds_111 : decode cX8_odds 111 = .ok (.idiv, 1) := by decide +kernel
theorem dX8_odds_112 : decode cX8_odds 112 = .ok (.istore 7, 2) := by decide +kernel
theorem dX8_odds_114 : decode cX8_odds 114 = .ok (.iload 8, 2) := by decide +kernel
theorem dX8_odds_116 : decode cX8_odds 116 = .ok (.iconst 2, 1) := by decide +kernel
theorem dX8_odds_117 : decode cX8_odds 117 = .ok (.idiv, 1) := by decide +kernel
theorem dX8_odds_118 : decode cX8_odds 118 = .ok (.istore 8, 2) := by decide +kernel
theorem dX8_odds_120 : decode cX8_odds 120 = .ok (.iload 7, 2) := by decide +kernel
theorem dX8_odds_122 : decode cX8_odds 122 = .ok (.iconst 5, 1) := by decide +kernel
theorem dX8_odds_123 : decode cX8_odds 123 = .ok (.irem, 1) := by decide +kernel
theorem dX8_odds_124 : decode cX8_odds 124 = .ok (.ifCond .ne 22, 3) := by decide +kernel
theorem dX8_odds_127 : decode cX8_odds 127 = .ok (.iload 8, 2) := by decide +kernel
theorem dX8_odds_129 : decode cX8_odds 129 = .ok (.iconst 5, 1) := by decide +kernel
theorem dX8_odds_130 : decode cX8_odds 130 = .ok (.irem, 1) := by decide +kernel
theorem dX8_odds_131 : decode cX8_odds 131 = .ok (.ifCond .ne 15, 3) := by decide +kernel
theorem dX8_odds_134 : decode cX8_odds 134 = .ok (.iload 7, 2) := by decide +kernel
theorem dX8_odds_136 : decode cX8_odds 136 = .ok (.iconst 5, 1) := by decide +kernel
theorem dX8_odds_137 : decode cX8_odds 137 = .ok (.idiv, 1) := by decide +kernel
theorem dX8_odds_138 : decode cX8_odds 138 = .ok (.istore 7, 2) := by decide +kernel
theorem dX8_odds_140 : decode cX8_odds 140 = .ok (.iload 8, 2) := by decide +kernel
theorem dX8_odds_142 : decode cX8_odds 142 = .ok (.iconst 5, 1) := by decide +kernel
theorem dX8_odds_143 : decode cX8_odds 143 = .ok (.idiv, 1) := by decide +kernel
theorem dX8_odds_144 : decode cX8_odds 144 = .ok (.istore 8, 2) := by decide +kernel
theorem dX8_odds_146 : decode cX8_odds 146 = .ok (.iinc 9 1, 3) := by decide +kernel
theorem dX8_odds_149 : decode cX8_odds 149 = .ok (.goto (-62), 3) := by decide +kernel
theorem dX8_odds_152 : decode cX8_odds 152 = .ok (.iload 4, 2) := by decide +kernel
theorem dX8_odds_154 : decode cX8_odds 154 = .ok (.ifCond .ne 8, 3) := by decide +kernel
theorem dX8_odds_157 : decode cX8_odds 157 = .ok (.iload 7, 2) := by decide +kernel
theorem dX8_odds_159 : decode cX8_odds 159 = .ok (.goto 5, 3) := by decide +kernel
theorem dX8_odds_162 : decode cX8_odds 162 = .ok (.iload 8, 2) := by decide +kernel
theorem dX8_odds_164 : decode cX8_odds 164 = .ok (.ireturn, 1) := by decide +kernel
theorem dX8_meeting_0 : decode cX8_meeting 0 = .ok (.aload_n 0, 1) := by decide +kernel
theorem dX8_meeting_1 : decode cX8_meeting 1 = .ok (.iload_n 1, 1) := by decide +kernel
theorem dX8_meeting_2 : decode cX8_meeting 2 = .ok (.invokevirtual 110, 3) := by decide +kernel
theorem dX8_meeting_5 : decode cX8_meeting 5 = .ok (.ifCond .ne 24, 3) := by decide +kernel
theorem dX8_meeting_8 : decode cX8_meeting 8 = .ok (.aload_n 0, 1) := by decide +kernel
theorem dX8_meeting_9 : decode cX8_meeting 9 = .ok (.iload_n 2, 1) := by decide +kernel
theorem dX8_meeting_10 : decode cX8_meeting 10 = .ok (.invokevirtual 110, 3) := by decide +kernel
theorem dX8_meeting_13 : decode cX8_meeting 13 = .ok (.ifCond .ne 16, 3) := by decide +kernel
theorem dX8_meeting_16 : decode cX8_meeting 16 = .ok (.iload_n 1, 1) := by decide +kernel
theorem dX8_meeting_17 : decode cX8_meeting 17 = .ok (.iload_n 2, 1) := by decide +kernel
theorem dX8_meeting_18 : decode cX8_meeting 18 = .ok (.if_icmp .eq 11, 3) := by decide +kernel
theorem dX8_meeting_21 : decode cX8_meeting 21 = .ok (.aload_n 0, 1) := by decide +kernel
theorem dX8_meeting_22 : decode cX8_meeting 22 = .ok (.iload_n 3, 1) := by decide +kernel
theorem dX8_meeting_23 : decode cX8_meeting 23 = .ok (.invokevirtual 94, 3) := by decide +kernel
theorem dX8_meeting_26 : decode cX8_meeting 26 = .ok (.ifCond .eq 5, 3) := by decide +kernel
theorem dX8_meeting_29 : decode cX8_meeting 29 = .ok (.iconst (-1), 1) := by decide +kernel
theorem dX8_meeting_30 : decode cX8_meeting 30 = .ok (.ireturn, 1) := by decide +kernel
theorem dX8_meeting_31 : decode cX8_meeting 31 = .ok (.aload_n 0, 1) := by decide +kernel
theorem dX8_meeting_32 : decode cX8_meeting 32 = .ok (.iload_n 1, 1) := by decide +kernel
theorem dX8_meeting_33 : decode cX8_meeting 33 = .ok (.iload_n 2, 1) := by decide +kernel
theorem dX8_meeting_34 : decode cX8_meeting 34 = .ok (.iload_n 3, 1) := by decide +kernel
theorem dX8_meeting_35 : decode cX8_meeting 35 = .ok (.invokevirtual 149, 3) := by decide +kernel
theorem dX8_meeting_38 : decode cX8_meeting 38 = .ok (.ireturn, 1) := by decide +kernel
theorem dX8_theatre_0 : decode cX8_theatre 0 = .ok (.iload_n 1, 1) := by decide +kernel
theorem dX8_theatre_1 : decode cX8_theatre 1 = .ok (.iconst 1, 1) := by decide +kernel
theorem dX8_theatre_2 : decode cX8_theatre 2 = .ok (.if_icmp .lt 22, 3) := by decide +kernel
theorem dX8_theatre_5 : decode cX8_theatre 5 = .ok (.iload_n 1, 1) := by decide +kernel
theorem dX8_theatre_6 : decode cX8_theatre 6 = .ok (.bipush 99, 2) := by decide +kernel
theorem dX8_theatre_8 : decode cX8_theatre 8 = .ok (.if_icmp .gt 16, 3) := by decide +kernel
theorem dX8_theatre_11 : decode cX8_theatre 11 = .ok (.iload_n 2, 1) := by decide +kernel
theorem dX8_theatre_12 : decode cX8_theatre 12 = .ok (.iconst (-1), 1) := by decide +kernel
theorem dX8_theatre_13 : decode cX8_theatre 13 = .ok (.if_icmp .eq 13, 3) := by decide +kernel
theorem dX8_theatre_16 : decode cX8_theatre 16 = .ok (.aload_n 0, 1) := by decide +kernel
theorem dX8_theatre_17 : decode cX8_theatre 17 = .ok (.iload_n 2, 1) := by decide +kernel
theorem dX8_theatre_18 : decode cX8_theatre 18 = .ok (.invokevirtual 110, 3) := by decide +kernel
theorem dX8_theatre_21 : decode cX8_theatre 21 = .ok (.ifCond .eq 5, 3) := by decide +kernel
theorem dX8_theatre_24 : decode cX8_theatre 24 = .ok (.iconst (-1), 1) := by decide +kernel
theorem dX8_theatre_25 : decode cX8_theatre 25 = .ok (.ireturn, 1) := by decide +kernel
theorem dX8_theatre_26 : decode cX8_theatre 26 = .ok (.aload_n 0, 1) := by decide +kernel
theorem dX8_theatre_27 : decode cX8_theatre 27 = .ok (.getfield 58, 3) := by decide +kernel
theorem dX8_theatre_30 : decode cX8_theatre 30 = .ok (.iload_n 1, 1) := by decide +kernel
theorem dX8_theatre_31 : decode cX8_theatre 31 = .ok (.aload_n 0, 1) := by decide +kernel
theorem dX8_theatre_32 : decode cX8_theatre 32 = .ok (.getfield 19, 3) := by decide +kernel
theorem dX8_theatre_35 : decode cX8_theatre 35 = .ok (.getfield 232, 3) := by decide +kernel
theorem dX8_theatre_38 : decode cX8_theatre 38 = .ok (.invokevirtual 235, 3) := by decide +kernel
theorem dX8_theatre_41 : decode cX8_theatre 41 = .ok (.iconst 0, 1) := by decide +kernel
theorem dX8_theatre_42 : decode cX8_theatre 42 = .ok (.istore_n 3, 1) := by decide +kernel
theorem dX8_theatre_43 : decode cX8_theatre 43 = .ok (.iload_n 3, 1) := by decide +kernel
theorem dX8_theatre_44 : decode cX8_theatre 44 = .ok (.aload_n 0, 1) := by decide +kernel
theorem dX8_theatre_45 : decode cX8_theatre 45 = .ok (.getfield 19, 3) := by decide +kernel
theorem dX8_theatre_48 : decode cX8_theatre 48 = .ok (.getfield 232, 3) := by decide +kernel
theorem dX8_theatre_51 : decode cX8_theatre 51 = .ok (.if_icmp .ge 22, 3) := by decide +kernel
theorem dX8_theatre_54 : decode cX8_theatre 54 = .ok (.aload_n 0, 1) := by decide +kernel
theorem dX8_theatre_55 : decode cX8_theatre 55 = .ok (.getfield 58, 3) := by decide +kernel
theorem dX8_theatre_58 : decode cX8_theatre 58 = .ok (.iload_n 3, 1) := by decide +kernel
theorem dX8_theatre_59 : decode cX8_theatre 59 = .ok (.aload_n 0, 1) := by decide +kernel
theorem dX8_theatre_60 : decode cX8_theatre 60 = .ok (.iload_n 3, 1) := by decide +kernel
theorem dX8_theatre_61 : decode cX8_theatre 61 = .ok (.invokevirtual 125, 3) := by decide +kernel
theorem dX8_theatre_64 : decode cX8_theatre 64 = .ok (.invokevirtual 237, 3) := by decide +kernel
theorem dX8_theatre_67 : decode cX8_theatre 67 = .ok (.iinc 3 1, 3) := by decide +kernel
theorem dX8_theatre_70 : decode cX8_theatre 70 = .ok (.goto (-27), 3) := by decide +kernel
theorem dX8_theatre_73 : decode cX8_theatre 73 = .ok (.aload_n 0, 1) := by decide +kernel
theorem dX8_theatre_74 : decode cX8_theatre 74 = .ok (.getfield 58, 3) := by decide +kernel
theorem dX8_theatre_77 : decode cX8_theatre 77 = .ok (.invokevirtual 240, 3) := by decide +kernel
theorem dX8_theatre_80 : decode cX8_theatre 80 = .ok (.istore_n 3, 1) := by decide +kernel
theorem dX8_theatre_81 : decode cX8_theatre 81 = .ok (.iload_n 3, 1) := by decide +kernel
theorem dX8_theatre_82 : decode cX8_theatre 82 = .ok (.bipush (-9), 2) := by decide +kernel
theorem dX8_theatre_84 : decode cX8_theatre 84 = .ok (.if_icmp .eq 8, 3) := by decide +kernel
theorem dX8_theatre_87 : decode cX8_theatre 87 = .ok (.iload_n 2, 1) := by decide +kernel
theorem dX8_theatre_88 : decode cX8_theatre 88 = .ok (.iconst (-1), 1) := by decide +kernel
theorem dX8_theatre_89 : decode cX8_theatre 89 = .ok (.if_icmp .ne 7, 3) := by decide +kernel
theorem dX8_theatre_92 : decode cX8_theatre 92 = .ok (.iload_n 3, 1) := by decide +kernel
theorem dX8_theatre_93 : decode cX8_theatre 93 = .ok (.goto 12, 3) := by decide +kernel
theorem dX8_theatre_96 : decode cX8_theatre 96 = .ok (.aload_n 0, 1) := by decide +kernel
theorem dX8_theatre_97 : decode cX8_theatre 97 = .ok (.getfield 58, 3) := by decide +kernel
theorem dX8_theatre_100 : decode cX8_theatre 100 = .ok (.getfield 243, 3) := by decide +kernel
theorem dX8_theatre_103 : decode cX8_theatre 103 = .ok (.iload_n 2, 1) := by decide +kernel
theorem dX8_theatre_104 : decode cX8_theatre 104 = .ok (.iaload, 1) := by decide +kernel
theorem dX8_theatre_105 : decode cX8_theatre 105 = .ok (.ireturn, 1) := by decide +kernel
theorem dX8_narrow_0 : decode cX8_narrow 0 = .ok (.aload_n 0, 1) := by decide +kernel
theorem dX8_narrow_1 : decode cX8_narrow 1 = .ok (.iload_n 1, 1) := by decide +kernel
theorem dX8_narrow_2 : decode cX8_narrow 2 = .ok (.invokevirtual 94, 3) := by decide +kernel
theorem dX8_narrow_5 : decode cX8_narrow 5 = .ok (.ifCond .eq 5, 3) := by decide +kernel
theorem dX8_narrow_8 : decode cX8_narrow 8 = .ok (.iconst (-1), 1) := by decide +kernel
theorem dX8_narrow_9 : decode cX8_narrow 9 = .ok (.ireturn, 1) := by decide +kernel
theorem dX8_narrow_10 : decode cX8_narrow 10 = .ok (.bipush (-9), 2) := by decide +kernel
theorem dX8_narrow_12 : decode cX8_narrow 12 = .ok (.istore_n 2, 1) := by decide +kernel
theorem dX8_narrow_13 : decode cX8_narrow 13 = .ok (.iconst 0, 1) := by decide +kernel
theorem dX8_narrow_14 : decode cX8_narrow 14 = .ok (.istore_n 3, 1) := by decide +kernel
theorem dX8_narrow_15 : decode cX8_narrow 15 = .ok (.iload_n 3, 1) := by decide +kernel
theorem dX8_narrow_16 : decode cX8_narrow 16 = .ok (.iconst 1, 1) := by decide +kernel
theorem dX8_narrow_17 : decode cX8_narrow 17 = .ok (.aload_n 0, 1) := by decide +kernel
theorem dX8_narrow_18 : decode cX8_narrow 18 = .ok (.getfield 19, 3) := by decide +kernel
theorem dX8_narrow_21 : decode cX8_narrow 21 = .ok (.getfield 232, 3) := by decide +kernel
theorem dX8_narrow_24 : decode cX8_narrow 24 = .ok (.ishl, 1) := by decide +kernel
theorem dX8_narrow_25 : decode cX8_narrow 25 = .ok (.if_icmp .ge 57, 3) := by decide +kernel
theorem dX8_narrow_28 : decode cX8_narrow 28 = .ok (.iload_n 2, 1) := by decide +kernel
theorem dX8_narrow_29 : decode cX8_narrow 29 = .ok (.bipush (-9), 2) := by decide +kernel
theorem dX8_narrow_31 : decode cX8_narrow 31 = .ok (.if_icmp .eq 14, 3) := by decide +kernel
theorem dX8_narrow_34 : decode cX8_narrow 34 = .ok (.iload_n 3, 1) := by decide +kernel
theorem dX8_narrow_35 : decode cX8_narrow 35 = .ok (.invokestatic 219, 3) := by decide +kernel
theorem dX8_narrow_38 : decode cX8_narrow 38 = .ok (.iload_n 2, 1) := by decide +kernel
theorem dX8_narrow_39 : decode cX8_narrow 39 = .ok (.invokestatic 219, 3) := by decide +kernel
theorem dX8_narrow_42 : decode cX8_narrow 42 = .ok (.if_icmp .ge 7, 3) := by decide +kernel
theorem dX8_narrow_45 : decode cX8_narrow 45 = .ok (.iconst 1, 1) := by decide +kernel
theorem dX8_narrow_46 : decode cX8_narrow 46 = .ok (.goto 4, 3) := by decide +kernel
theorem dX8_narrow_49 : decode cX8_narrow 49 = .ok (.iconst 0, 1) := by decide +kernel
theorem dX8_narrow_50 : decode cX8_narrow 50 = .ok (.istore 4, 2) := by decide +kernel
theorem dX8_narrow_52 : decode cX8_narrow 52 = .ok (.iload 4, 2) := by decide +kernel
theorem dX8_narrow_54 : decode cX8_narrow 54 = .ok (.ifCond .eq 22, 3) := by decide +kernel
theorem dX8_narrow_57 : decode cX8_narrow 57 = .ok (.aload_n 0, 1) := by decide +kernel
theorem dX8_narrow_58 : decode cX8_narrow 58 = .ok (.iload_n 3, 1) := by decide +kernel
theorem dX8_narrow_59 : decode cX8_narrow 59 = .ok (.invokevirtual 246, 3) := by decide +kernel
theorem dX8_narrow_62 : decode cX8_narrow 62 = .ok (.aload_n 0, 1) := by decide +kernel
theorem dX8_narrow_63 : decode cX8_narrow 63 = .ok (.getfield 19, 3) := by decide +kernel
theorem dX8_narrow_66 : decode cX8_narrow 66 = .ok (.getfield 104, 3) := by decide +kernel
theorem dX8_narrow_69 : decode cX8_narrow 69 = .ok (.iload_n 1, 1) := by decide +kernel
theorem dX8_narrow_70 : decode cX8_narrow 70 = .ok (.iaload, 1) := by decide +kernel
theorem dX8_narrow_71 : decode cX8_narrow 71 = .ok (.if_icmp .gt 5, 3) := by decide +kernel
theorem dX8_narrow_74 : decode cX8_narrow 74 = .ok (.iload_n 3, 1) := by decide +kernel
theorem dX8_narrow_75 : decode cX8_narrow 75 = .ok (.istore_n 2, 1) := by decide +kernel
theorem dX8_narrow_76 : decode cX8_narrow 76 = .ok (.iinc 3 1, 3) := by decide +kernel
theorem dX8_narrow_79 : decode cX8_narrow 79 = .ok (.goto (-64), 3) := by decide +kernel
theorem dX8_narrow_82 : decode cX8_narrow 82 = .ok (.iload_n 2, 1) := by decide +kernel
theorem dX8_narrow_83 : decode cX8_narrow 83 = .ok (.ireturn, 1) := by decide +kernel
theorem dX8_order_0 : decode cX8_order 0 = .ok (.aload_n 0, 1) := by decide +kernel
theorem dX8_order_1 : decode cX8_order 1 = .ok (.iload_n 1, 1) := by decide +kernel
theorem dX8_order_2 : decode cX8_order 2 = .ok (.invokevirtual 110, 3) := by decide +kernel
theorem dX8_order_5 : decode cX8_order 5 = .ok (.ifCond .eq 5, 3) := by decide +kernel
theorem dX8_order_8 : decode cX8_order 8 = .ok (.iconst (-1), 1) := by decide +kernel
theorem dX8_order_9 : decode cX8_order 9 = .ok (.ireturn, 1) := by decide +kernel
theorem dX8_order_10 : decode cX8_order 10 = .ok (.iconst (-1), 1) := by decide +kernel
theorem dX8_order_11 : decode cX8_order 11 = .ok (.istore_n 2, 1) := by decide +kernel
theorem dX8_order_12 : decode cX8_order 12 = .ok (.iconst 0, 1) := by decide +kernel
theorem dX8_order_13 : decode cX8_order 13 = .ok (.istore_n 3, 1) := by decide +kernel
theorem dX8_order_14 : decode cX8_order 14 = .ok (.iload_n 3, 1) := by decide +kernel
theorem dX8_order_15 : decode cX8_order 15 = .ok (.aload_n 0, 1) := by decide +kernel
theorem dX8_order_16 : decode cX8_order 16 = .ok (.getfield 19, 3) := by decide +kernel
theorem dX8_order_19 : decode cX8_order 19 = .ok (.getfield 232, 3) := by decide +kernel
theorem dX8_order_22 : decode cX8_order 22 = .ok (.if_icmp .ge 20, 3) := by decide +kernel
theorem dX8_order_25 : decode cX8_order 25 = .ok (.aload_n 0, 1) := by decide +kernel
theorem dX8_order_26 : decode cX8_order 26 = .ok (.iload_n 3, 1) := by decide +kernel
theorem dX8_order_27 : decode cX8_order 27 = .ok (.invokevirtual 249, 3) := by decide +kernel
theorem dX8_order_30 : decode cX8_order 30 = .ok (.iload_n 1, 1) := by decide +kernel
theorem dX8_order_31 : decode cX8_order 31 = .ok (.if_icmp .ne 5, 3) := by decide +kernel
theorem dX8_order_34 : decode cX8_order 34 = .ok (.iload_n 3, 1) := by decide +kernel
theorem dX8_order_35 : decode cX8_order 35 = .ok (.istore_n 2, 1) := by decide +kernel
theorem dX8_order_36 : decode cX8_order 36 = .ok (.iinc 3 1, 3) := by decide +kernel
theorem dX8_order_39 : decode cX8_order 39 = .ok (.goto (-25), 3) := by decide +kernel
theorem dX8_order_42 : decode cX8_order 42 = .ok (.iload_n 2, 1) := by decide +kernel
theorem dX8_order_43 : decode cX8_order 43 = .ok (.ireturn, 1) := by decide +kernel
theorem dX8_gate_0 : decode cX8_gate 0 = .ok (.aload_n 0, 1) := by decide +kernel
theorem dX8_gate_1 : decode cX8_gate 1 = .ok (.iload_n 1, 1) := by decide +kernel
theorem dX8_gate_2 : decode cX8_gate 2 = .ok (.invokevirtual 110, 3) := by decide +kernel
theorem dX8_gate_5 : decode cX8_gate 5 = .ok (.ifCond .ne 13, 3) := by decide +kernel
theorem dX8_gate_8 : decode cX8_gate 8 = .ok (.iload_n 2, 1) := by decide +kernel
theorem dX8_gate_9 : decode cX8_gate 9 = .ok (.ifCond .lt 9, 3) := by decide +kernel
theorem dX8_gate_12 : decode cX8_gate 12 = .ok (.iload_n 2, 1) := by decide +kernel
theorem dX8_gate_13 : decode cX8_gate 13 = .ok (.bipush 40, 2) := by decide +kernel
theorem dX8_gate_15 : decode cX8_gate 15 = .ok (.if_icmp .le 5, 3) := by decide +kernel
theorem dX8_gate_18 : decode cX8_gate 18 = .ok (.iconst (-1), 1) := by decide +kernel
theorem dX8_gate_19 : decode cX8_gate 19 = .ok (.ireturn, 1) := by decide +kernel
theorem dX8_gate_20 : decode cX8_gate 20 = .ok (.aload_n 0, 1) := by decide +kernel
theorem dX8_gate_21 : decode cX8_gate 21 = .ok (.getfield 44, 3) := by decide +kernel
theorem dX8_gate_24 : decode cX8_gate 24 = .ok (.iload_n 1, 1) := by decide +kernel
theorem dX8_gate_25 : decode cX8_gate 25 = .ok (.iload_n 2, 1) := by decide +kernel
theorem dX8_gate_26 : decode cX8_gate 26 = .ok (.invokevirtual 252, 3) := by decide +kernel
theorem dX8_gate_29 : decode cX8_gate 29 = .ok (.ifCond .eq 13, 3) := by decide +kernel
theorem dX8_gate_32 : decode cX8_gate 32 = .ok (.aload_n 0, 1) := by decide +kernel
theorem dX8_gate_33 : decode cX8_gate 33 = .ok (.getfield 44, 3) := by decide +kernel
theorem dX8_gate_36 : decode cX8_gate 36 = .ok (.getfield 91, 3) := by decide +kernel
theorem dX8_gate_39 : decode cX8_gate 39 = .ok (.goto 5, 3) := by decide +kernel
theorem dX8_gate_42 : decode cX8_gate 42 = .ok (.bipush (-3), 2) := by decide +kernel
theorem dX8_gate_44 : decode cX8_gate 44 = .ok (.ireturn, 1) := by decide +kernel
theorem dX8_forget_0 : decode cX8_forget 0 = .ok (.aload_n 0, 1) := by decide +kernel
theorem dX8_forget_1 : decode cX8_forget 1 = .ok (.getfield 44, 3) := by decide +kernel
theorem dX8_forget_4 : decode cX8_forget 4 = .ok (.getfield 91, 3) := by decide +kernel
theorem dX8_forget_7 : decode cX8_forget 7 = .ok (.istore_n 1, 1) := by decide +kernel
theorem dX8_forget_8 : decode cX8_forget 8 = .ok (.aload_n 0, 1) := by decide +kernel
theorem dX8_forget_9 : decode cX8_forget 9 = .ok (.getfield 44, 3) := by decide +kernel
theorem dX8_forget_12 : decode cX8_forget 12 = .ok (.iconst 0, 1) := by decide +kernel
theorem dX8_forget_13 : decode cX8_forget 13 = .ok (.putfield 91, 3) := by decide +kernel
theorem dX8_forget_16 : decode cX8_forget 16 = .ok (.iload_n 1, 1) := by decide +kernel
theorem dX8_forget_17 : decode cX8_forget 17 = .ok (.ireturn, 1) := by decide +kernel
theorem dX8_fits_0 : decode cX8_fits 0 = .ok (.aload_n 0, 1) := by decide +kernel
theorem dX8_fits_1 : decode cX8_fits 1 = .ok (.iload_n 1, 1) := by decide +kernel
theorem dX8_fits_2 : decode cX8_fits 2 = .ok (.invokevirtual 110, 3) := by decide +kernel
theorem dX8_fits_5 : decode cX8_fits 5 = .ok (.ifCond .eq 7, 3) := by decide +kernel
theorem dX8_fits_8 : decode cX8_fits 8 = .ok (.iconst (-1), 1) := by decide +kernel
theorem dX8_fits_9 : decode cX8_fits 9 = .ok (.goto 8, 3) := by decide +kernel
theorem dX8_fits_12 : decode cX8_fits 12 = .ok (.aload_n 0, 1) := by decide +kernel
theorem dX8_fits_13 : decode cX8_fits 13 = .ok (.iload_n 1, 1) := by decide +kernel
theorem dX8_fits_14 : decode cX8_fits 14 = .ok (.invokevirtual 254, 3) := by decide +kernel
theorem dX8_fits_17 : decode cX8_fits 17 = .ok (.ireturn, 1) := by decide +kernel
theorem dX8_mark_0 : decode cX8_mark 0 = .ok (.aload_n 0, 1) := by decide +kernel
theorem dX8_mark_1 : decode cX8_mark 1 = .ok (.iload_n 2, 1) := by decide +kernel
theorem dX8_mark_2 : decode cX8_mark 2 = .ok (.invokevirtual 110, 3) := by decide +kernel
theorem dX8_mark_5 : decode cX8_mark 5 = .ok (.ifCond .eq 7, 3) := by decide +kernel
theorem dX8_mark_8 : decode cX8_mark 8 = .ok (.ldc_w 257, 3) := by decide +kernel
theorem dX8_mark_11 : decode cX8_mark 11 = .ok (.ireturn, 1) := by decide +kernel
theorem dX8_mark_12 : decode cX8_mark 12 = .ok (.iload_n 1, 1) := by decide +kernel
theorem dX8_mark_13 : decode cX8_mark 13 = .ok (.tableswitch 75 0 5 #[39, 45, 51, 57, 63, 69], 39) := by decide +kernel
theorem dX8_mark_52 : decode cX8_mark 52 = .ok (.aload_n 0, 1) := by decide +kernel
theorem dX8_mark_53 : decode cX8_mark 53 = .ok (.iload_n 2, 1) := by decide +kernel
theorem dX8_mark_54 : decode cX8_mark 54 = .ok (.invokevirtual 258, 3) := by decide +kernel
theorem dX8_mark_57 : decode cX8_mark 57 = .ok (.ireturn, 1) := by decide +kernel
theorem dX8_mark_58 : decode cX8_mark 58 = .ok (.aload_n 0, 1) := by decide +kernel
theorem dX8_mark_59 : decode cX8_mark 59 = .ok (.iload_n 2, 1) := by decide +kernel
theorem dX8_mark_60 : decode cX8_mark 60 = .ok (.invokevirtual 261, 3) := by decide +kernel
theorem dX8_mark_63 : decode cX8_mark 63 = .ok (.ireturn, 1) := by decide +kernel
theorem dX8_mark_64 : decode cX8_mark 64 = .ok (.aload_n 0, 1) := by decide +kernel
theorem dX8_mark_65 : decode cX8_mark 65 = .ok (.iload_n 2, 1) := by decide +kernel
theorem dX8_mark_66 : decode cX8_mark 66 = .ok (.invokevirtual 264, 3) := by decide +kernel
theorem dX8_mark_69 : decode cX8_mark 69 = .ok (.ireturn, 1) := by decide +kernel
theorem dX8_mark_70 : decode cX8_mark 70 = .ok (.aload_n 0, 1) := by decide +kernel
theorem dX8_mark_71 : decode cX8_mark 71 = .ok (.iload_n 2, 1) := by decide +kernel
theorem dX8_mark_72 : decode cX8_mark 72 = .ok (.invokevirtual 267, 3) := by decide +kernel
theorem dX8_mark_75 : decode cX8_mark 75 = .ok (.ireturn, 1) := by decide +kernel
theorem dX8_mark_76 : decode cX8_mark 76 = .ok (.aload_n 0, 1) := by decide +kernel
theorem dX8_mark_77 : decode cX8_mark 77 = .ok (.iload_n 2, 1) := by decide +kernel
theorem dX8_mark_78 : decode cX8_mark 78 = .ok (.invokevirtual 270, 3) := by decide +kernel
theorem dX8_mark_81 : decode cX8_mark 81 = .ok (.ireturn, 1) := by decide +kernel
theorem dX8_mark_82 : decode cX8_mark 82 = .ok (.aload_n 0, 1) := by decide +kernel
theorem dX8_mark_83 : decode cX8_mark 83 = .ok (.iload_n 2, 1) := by decide +kernel
theorem dX8_mark_84 : decode cX8_mark 84 = .ok (.invokevirtual 273, 3) := by decide +kernel
theorem dX8_mark_87 : decode cX8_mark 87 = .ok (.ireturn, 1) := by decide +kernel
theorem dX8_mark_88 : decode cX8_mark 88 = .ok (.ldc_w 257, 3) := by decide +kernel
theorem dX8_mark_91 : decode cX8_mark 91 = .ok (.ireturn, 1) := by decide +kernel
theorem dX8_keep_0 : decode cX8_keep 0 = .ok (.iload_n 1, 1) := by decide +kernel
theorem dX8_keep_1 : decode cX8_keep 1 = .ok (.ifCond .lt 8, 3) := by decide +kernel
theorem dX8_keep_4 : decode cX8_keep 4 = .ok (.iload_n 1, 1) := by decide +kernel
theorem dX8_keep_5 : decode cX8_keep 5 = .ok (.iconst 2, 1) := by decide +kernel
theorem dX8_keep_6 : decode cX8_keep 6 = .ok (.if_icmp .lt 5, 3) := by decide +kernel
theorem dX8_keep_9 : decode cX8_keep 9 = .ok (.iconst (-1), 1) := by decide +kernel
theorem dX8_keep_10 : decode cX8_keep 10 = .ok (.ireturn, 1) := by decide +kernel
theorem dX8_keep_11 : decode cX8_keep 11 = .ok (.aload_n 0, 1) := by decide +kernel
theorem dX8_keep_12 : decode cX8_keep 12 = .ok (.getfield 33, 3) := by decide +kernel
theorem dX8_keep_15 : decode cX8_keep 15 = .ok (.iload_n 1, 1) := by decide +kernel
theorem dX8_keep_16 : decode cX8_keep 16 = .ok (.aaload, 1) := by decide +kernel
theorem dX8_keep_17 : decode cX8_keep 17 = .ok (.aload_n 0, 1) := by decide +kernel
theorem dX8_keep_18 : decode cX8_keep 18 = .ok (.getfield 29, 3) := by decide +kernel
theorem dX8_keep_21 : decode cX8_keep 21 = .ok (.invokevirtual 276, 3) := by decide +kernel
theorem dX8_keep_24 : decode cX8_keep 24 = .ok (.aload_n 0, 1) := by decide +kernel
theorem dX8_keep_25 : decode cX8_keep 25 = .ok (.getfield 37, 3) := by decide +kernel
theorem dX8_keep_28 : decode cX8_keep 28 = .ok (.iload_n 1, 1) := by decide +kernel
theorem dX8_keep_29 : decode cX8_keep 29 = .ok (.iconst 1, 1) := by decide +kernel
theorem dX8_keep_30 : decode cX8_keep 30 = .ok (.bastore, 1) := by decide +kernel
theorem dX8_keep_31 : decode cX8_keep 31 = .ok (.aload_n 0, 1) := by decide +kernel
theorem dX8_keep_32 : decode cX8_keep 32 = .ok (.invokevirtual 168, 3) := by decide +kernel
theorem dX8_keep_35 : decode cX8_keep 35 = .ok (.ireturn, 1) := by decide +kernel
theorem dX8_back_0 : decode cX8_back 0 = .ok (.iload_n 1, 1) := by decide +kernel
theorem dX8_back_1 : decode cX8_back 1 = .ok (.ifCond .lt 8, 3) := by decide +kernel
theorem dX8_back_4 : decode cX8_back 4 = .ok (.iload_n 1, 1) := by decide +kernel
theorem dX8_back_5 : decode cX8_back 5 = .ok (.iconst 2, 1) := by decide +kernel
theorem dX8_back_6 : decode cX8_back 6 = .ok (.if_icmp .lt 5, 3) := by decide +kernel
theorem dX8_back_9 : decode cX8_back 9 = .ok (.iconst (-1), 1) := by decide +kernel
theorem dX8_back_10 : decode cX8_back 10 = .ok (.ireturn, 1) := by decide +kernel
theorem dX8_back_11 : decode cX8_back 11 = .ok (.aload_n 0, 1) := by decide +kernel
theorem dX8_back_12 : decode cX8_back 12 = .ok (.getfield 37, 3) := by decide +kernel
theorem dX8_back_15 : decode cX8_back 15 = .ok (.iload_n 1, 1) := by decide +kernel
theorem dX8_back_16 : decode cX8_back 16 = .ok (.baload, 1) := by decide +kernel
theorem dX8_back_17 : decode cX8_back 17 = .ok (.ifCond .ne 6, 3) := by decide +kernel
theorem dX8_back_20 : decode cX8_back 20 = .ok (.bipush (-2), 2) := by decide +kernel
theorem dX8_back_22 : decode cX8_back 22 = .ok (.ireturn, 1) := by decide +kernel
theorem dX8_back_23 : decode cX8_back 23 = .ok (.aload_n 0, 1) := by decide +kernel
theorem dX8_back_24 : decode cX8_back 24 = .ok (.getfield 29, 3) := by decide +kernel
theorem dX8_back_27 : decode cX8_back 27 = .ok (.aload_n 0, 1) := by decide +kernel
theorem dX8_back_28 : decode cX8_back 28 = .ok (.getfield 33, 3) := by decide +kernel
theorem dX8_back_31 : decode cX8_back 31 = .ok (.iload_n 1, 1) := by decide +kernel
theorem dX8_back_32 : decode cX8_back 32 = .ok (.aaload, 1) := by decide +kernel
theorem dX8_back_33 : decode cX8_back 33 = .ok (.invokevirtual 276, 3) := by decide +kernel
theorem dX8_back_36 : decode cX8_back 36 = .ok (.aload_n 0, 1) := by decide +kernel
theorem dX8_back_37 : decode cX8_back 37 = .ok (.invokevirtual 168, 3) := by decide +kernel
theorem dX8_back_40 : decode cX8_back 40 = .ok (.ireturn, 1) := by decide +kernel
theorem dX8_count_0 : decode cX8_count 0 = .ok (.iload_n 1, 1) := by decide +kernel
theorem dX8_count_1 : decode cX8_count 1 = .ok (.tableswitch 114 0 7 #[47, 55, 63, 71, 79, 87, 95, 103], 47) := by decide +kernel
theorem dX8_count_48 : decode cX8_count 48 = .ok (.aload_n 0, 1) := by decide +kernel
theorem dX8_count_49 : decode cX8_count 49 = .ok (.getfield 19, 3) := by decide +kernel
theorem dX8_count_52 : decode cX8_count 52 = .ok (.getfield 280, 3) := by decide +kernel
theorem dX8_count_55 : decode cX8_count 55 = .ok (.ireturn, 1) := by decide +kernel
theorem dX8_count_56 : decode cX8_count 56 = .ok (.aload_n 0, 1) := by decide +kernel
theorem dX8_count_57 : decode cX8_count 57 = .ok (.getfield 19, 3) := by decide +kernel
theorem dX8_count_60 : decode cX8_count 60 = .ok (.getfield 216, 3) := by decide +kernel
theorem dX8_count_63 : decode cX8_count 63 = .ok (.ireturn, 1) := by decide +kernel
theorem dX8_count_64 : decode cX8_count 64 = .ok (.aload_n 0, 1) := by decide +kernel
theorem dX8_count_65 : decode cX8_count 65 = .ok (.getfield 19, 3) := by decide +kernel
theorem dX8_count_68 : decode cX8_count 68 = .ok (.getfield 232, 3) := by decide +kernel
theorem dX8_count_71 : decode cX8_count 71 = .ok (.ireturn, 1) := by decide +kernel
theorem dX8_count_72 : decode cX8_count 72 = .ok (.aload_n 0, 1) := by decide +kernel
theorem dX8_count_73 : decode cX8_count 73 = .ok (.getfield 19, 3) := by decide +kernel
theorem dX8_count_76 : decode cX8_count 76 = .ok (.getfield 283, 3) := by decide +kernel
theorem dX8_count_79 : decode cX8_count 79 = .ok (.ireturn, 1) := by decide +kernel
theorem dX8_count_80 : decode cX8_count 80 = .ok (.aload_n 0, 1) := by decide +kernel
theorem dX8_count_81 : decode cX8_count 81 = .ok (.getfield 19, 3) := by decide +kernel
theorem dX8_count_84 : decode cX8_count 84 = .ok (.getfield 286, 3) := by decide +kernel
theorem dX8_count_87 : decode cX8_count 87 = .ok (.ireturn, 1) := by decide +kernel
theorem dX8_count_88 : decode cX8_count 88 = .ok (.aload_n 0, 1) := by decide +kernel
theorem dX8_count_89 : decode cX8_count 89 = .ok (.getfield 44, 3) := by decide +kernel
theorem dX8_count_92 : decode cX8_count 92 = .ok (.getfield 91, 3) := by decide +kernel
theorem dX8_count_95 : decode cX8_count 95 = .ok (.ireturn, 1) := by decide +kernel
theorem dX8_count_96 : decode cX8_count 96 = .ok (.aload_n 0, 1) := by decide +kernel
theorem dX8_count_97 : decode cX8_count 97 = .ok (.getfield 29, 3) := by decide +kernel
theorem dX8_count_100 : decode cX8_count 100 = .ok (.getfield 176, 3) := by decide +kernel
theorem dX8_count_103 : decode cX8_count 103 = .ok (.ireturn, 1) := by decide +kernel
theorem dX8_count_104 : decode cX8_count 104 = .ok (.aload_n 0, 1) := by decide +kernel
theorem dX8_count_105 : decode cX8_count 105 = .ok (.getfield 10, 3) := by decide +kernel
theorem dX8_count_108 : decode cX8_count 108 = .ok (.getfield 66, 3) := by decide +kernel
theorem dX8_count_111 : decode cX8_count 111 = .ok (.getfield 76, 3) := by decide +kernel
theorem dX8_count_114 : decode cX8_count 114 = .ok (.ireturn, 1) := by decide +kernel
theorem dX8_count_115 : decode cX8_count 115 = .ok (.iconst (-1), 1) := by decide +kernel
theorem dX8_count_116 : decode cX8_count 116 = .ok (.ireturn, 1) := by decide +kernel
theorem dX8_trace_0 : decode cX8_trace 0 = .ok (.aload_n 0, 1) := by decide +kernel
theorem dX8_trace_1 : decode cX8_trace 1 = .ok (.getfield 62, 3) := by decide +kernel
theorem dX8_trace_4 : decode cX8_trace 4 = .ok (.lreturn, 1) := by decide +kernel
theorem dX8_noPlace_0 : decode cX8_noPlace 0 = .ok (.iload_n 1, 1) := by decide +kernel
theorem dX8_noPlace_1 : decode cX8_noPlace 1 = .ok (.ifCond .lt 14, 3) := by decide +kernel
theorem dX8_noPlace_4 : decode cX8_noPlace 4 = .ok (.iload_n 1, 1) := by decide +kernel
theorem dX8_noPlace_5 : decode cX8_noPlace 5 = .ok (.aload_n 0, 1) := by decide +kernel
theorem dX8_noPlace_6 : decode cX8_noPlace 6 = .ok (.getfield 19, 3) := by decide +kernel
theorem dX8_noPlace_9 : decode cX8_noPlace 9 = .ok (.getfield 280, 3) := by decide +kernel
theorem dX8_noPlace_12 : decode cX8_noPlace 12 = .ok (.if_icmp .lt 7, 3) := by decide +kernel
theorem dX8_noPlace_15 : decode cX8_noPlace 15 = .ok (.iconst 1, 1) := by decide +kernel
theorem dX8_noPlace_16 : decode cX8_noPlace 16 = .ok (.goto 4, 3) := by decide +kernel
theorem dX8_noPlace_19 : decode cX8_noPlace 19 = .ok (.iconst 0, 1) := by decide +kernel
theorem dX8_noPlace_20 : decode cX8_noPlace 20 = .ok (.ireturn, 1) := by decide +kernel
theorem dX8_noLane_0 : decode cX8_noLane 0 = .ok (.iload_n 1, 1) := by decide +kernel
theorem dX8_noLane_1 : decode cX8_noLane 1 = .ok (.ifCond .lt 14, 3) := by decide +kernel
theorem dX8_noLane_4 : decode cX8_noLane 4 = .ok (.iload_n 1, 1) := by decide +kernel
theorem dX8_noLane_5 : decode cX8_noLane 5 = .ok (.aload_n 0, 1) := by decide +kernel
theorem dX8_noLane_6 : decode cX8_noLane 6 = .ok (.getfield 19, 3) := by decide +kernel
theorem dX8_noLane_9 : decode cX8_noLane 9 = .ok (.getfield 216, 3) := by decide +kernel
theorem dX8_noLane_12 : decode cX8_noLane 12 = .ok (.if_icmp .lt 7, 3) := by decide +kernel
theorem dX8_noLane_15 : decode cX8_noLane 15 = .ok (.iconst 1, 1) := by decide +kernel
theorem dX8_noLane_16 : decode cX8_noLane 16 = .ok (.goto 4, 3) := by decide +kernel
theorem dX8_noLane_19 : decode cX8_noLane 19 = .ok (.iconst 0, 1) := by decide +kernel
theorem dX8_noLane_20 : decode cX8_noLane 20 = .ok (.ireturn, 1) := by decide +kernel
theorem dX8_noPerson_0 : decode cX8_noPerson 0 = .ok (.iload_n 1, 1) := by decide +kernel
theorem dX8_noPerson_1 : decode cX8_noPerson 1 = .ok (.ifCond .lt 14, 3) := by decide +kernel
theorem dX8_noPerson_4 : decode cX8_noPerson 4 = .ok (.iload_n 1, 1) := by decide +kernel
theorem dX8_noPerson_5 : decode cX8_noPerson 5 = .ok (.aload_n 0, 1) := by decide +kernel
theorem dX8_noPerson_6 : decode cX8_noPerson 6 = .ok (.getfield 19, 3) := by decide +kernel
theorem dX8_noPerson_9 : decode cX8_noPerson 9 = .ok (.getfield 232, 3) := by decide +kernel
theorem dX8_noPerson_12 : decode cX8_noPerson 12 = .ok (.if_icmp .lt 7, 3) := by decide +kernel
theorem dX8_noPerson_15 : decode cX8_noPerson 15 = .ok (.iconst 1, 1) := by decide +kernel
theorem dX8_noPerson_16 : decode cX8_noPerson 16 = .ok (.goto 4, 3) := by decide +kernel
theorem dX8_noPerson_19 : decode cX8_noPerson 19 = .ok (.iconst 0, 1) := by decide +kernel
theorem dX8_noPerson_20 : decode cX8_noPerson 20 = .ok (.ireturn, 1) := by decide +kernel
theorem dX8_wideness_0 : decode cX8_wideness 0 = .ok (.aload_n 0, 1) := by decide +kernel
theorem dX8_wideness_1 : decode cX8_wideness 1 = .ok (.getfield 19, 3) := by decide +kernel
theorem dX8_wideness_4 : decode cX8_wideness 4 = .ok (.getfield 283, 3) := by decide +kernel
theorem dX8_wideness_7 : decode cX8_wideness 7 = .ok (.iconst 2, 1) := by decide +kernel
theorem dX8_wideness_8 : decode cX8_wideness 8 = .ok (.aload_n 0, 1) := by decide +kernel
theorem dX8_wideness_9 : decode cX8_wideness 9 = .ok (.getfield 29, 3) := by decide +kernel
theorem dX8_wideness_12 : decode cX8_wideness 12 = .ok (.getfield 113, 3) := by decide +kernel
theorem dX8_wideness_15 : decode cX8_wideness 15 = .ok (.getfield 117, 3) := by decide +kernel
theorem dX8_wideness_18 : decode cX8_wideness 18 = .ok (.iload_n 1, 1) := by decide +kernel
theorem dX8_wideness_19 : decode cX8_wideness 19 = .ok (.iaload, 1) := by decide +kernel
theorem dX8_wideness_20 : decode cX8_wideness 20 = .ok (.imul, 1) := by decide +kernel
theorem dX8_wideness_21 : decode cX8_wideness 21 = .ok (.iadd, 1) := by decide +kernel
theorem dX8_wideness_22 : decode cX8_wideness 22 = .ok (.ireturn, 1) := by decide +kernel
theorem dX8_isClosed_0 : decode cX8_isClosed 0 = .ok (.aload_n 0, 1) := by decide +kernel
theorem dX8_isClosed_1 : decode cX8_isClosed 1 = .ok (.getfield 29, 3) := by decide +kernel
theorem dX8_isClosed_4 : decode cX8_isClosed 4 = .ok (.getfield 113, 3) := by decide +kernel
theorem dX8_isClosed_7 : decode cX8_isClosed 7 = .ok (.getfield 179, 3) := by decide +kernel
theorem dX8_isClosed_10 : decode cX8_isClosed 10 = .ok (.iload_n 1, 1) := by decide +kernel
theorem dX8_isClosed_11 : decode cX8_isClosed 11 = .ok (.ishr, 1) := by decide +kernel
theorem dX8_isClosed_12 : decode cX8_isClosed 12 = .ok (.iconst 1, 1) := by decide +kernel
theorem dX8_isClosed_13 : decode cX8_isClosed 13 = .ok (.iand, 1) := by decide +kernel
theorem dX8_isClosed_14 : decode cX8_isClosed 14 = .ok (.ifCond .eq 7, 3) := by decide +kernel
theorem dX8_isClosed_17 : decode cX8_isClosed 17 = .ok (.iconst 1, 1) := by decide +kernel
theorem dX8_isClosed_18 : decode cX8_isClosed 18 = .ok (.goto 4, 3) := by decide +kernel
theorem dX8_isClosed_21 : decode cX8_isClosed 21 = .ok (.iconst 0, 1) := by decide +kernel
theorem dX8_isClosed_22 : decode cX8_isClosed 22 = .ok (.ireturn, 1) := by decide +kernel
theorem dX8_isTooNarrow_0 : decode cX8_isTooNarrow 0 = .ok (.aload_n 0, 1) := by decide +kernel
theorem dX8_isTooNarrow_1 : decode cX8_isTooNarrow 1 = .ok (.iload_n 2, 1) := by decide +kernel
theorem dX8_isTooNarrow_2 : decode cX8_isTooNarrow 2 = .ok (.invokevirtual 125, 3) := by decide +kernel
theorem dX8_isTooNarrow_5 : decode cX8_isTooNarrow 5 = .ok (.aload_n 0, 1) := by decide +kernel
theorem dX8_isTooNarrow_6 : decode cX8_isTooNarrow 6 = .ok (.getfield 19, 3) := by decide +kernel
theorem dX8_isTooNarrow_9 : decode cX8_isTooNarrow 9 = .ok (.getfield 104, 3) := by decide +kernel
theorem dX8_isTooNarrow_12 : decode cX8_isTooNarrow 12 = .ok (.iload_n 1, 1) := by decide +kernel
theorem dX8_isTooNarrow_13 : decode cX8_isTooNarrow 13 = .ok (.iaload, 1) := by decide +kernel
theorem dX8_isTooNarrow_14 : decode cX8_isTooNarrow 14 = .ok (.if_icmp .le 7, 3) := by decide +kernel
theorem dX8_isTooNarrow_17 : decode cX8_isTooNarrow 17 = .ok (.iconst 1, 1) := by decide +kernel
theorem dX8_isTooNarrow_18 : decode cX8_isTooNarrow 18 = .ok (.goto 4, 3) := by decide +kernel
theorem dX8_isTooNarrow_21 : decode cX8_isTooNarrow 21 = .ok (.iconst 0, 1) := by decide +kernel
theorem dX8_isTooNarrow_22 : decode cX8_isTooNarrow 22 = .ok (.ireturn, 1) := by decide +kernel
theorem dX8_isAtEnd_0 : decode cX8_isAtEnd 0 = .ok (.aload_n 0, 1) := by decide +kernel
theorem dX8_isAtEnd_1 : decode cX8_isAtEnd 1 = .ok (.getfield 29, 3) := by decide +kernel
theorem dX8_isAtEnd_4 : decode cX8_isAtEnd 4 = .ok (.getfield 113, 3) := by decide +kernel
theorem dX8_isAtEnd_7 : decode cX8_isAtEnd 7 = .ok (.getfield 122, 3) := by decide +kernel
theorem dX8_isAtEnd_10 : decode cX8_isAtEnd 10 = .ok (.iload_n 1, 1) := by decide +kernel
theorem dX8_isAtEnd_11 : decode cX8_isAtEnd 11 = .ok (.iaload, 1) := by decide +kernel
theorem dX8_isAtEnd_12 : decode cX8_isAtEnd 12 = .ok (.istore_n 3, 1) := by decide +kernel
theorem dX8_isAtEnd_13 : decode cX8_isAtEnd 13 = .ok (.iload_n 3, 1) := by decide +kernel
theorem dX8_isAtEnd_14 : decode cX8_isAtEnd 14 = .ok (.aload_n 0, 1) := by decide +kernel
theorem dX8_isAtEnd_15 : decode cX8_isAtEnd 15 = .ok (.getfield 19, 3) := by decide +kernel
theorem dX8_isAtEnd_18 : decode cX8_isAtEnd 18 = .ok (.getfield 97, 3) := by decide +kernel
theorem dX8_isAtEnd_21 : decode cX8_isAtEnd 21 = .ok (.iload_n 2, 1) := by decide +kernel
theorem dX8_isAtEnd_22 : decode cX8_isAtEnd 22 = .ok (.iaload, 1) := by decide +kernel
theorem dX8_isAtEnd_23 : decode cX8_isAtEnd 23 = .ok (.if_icmp .eq 16, 3) := by decide +kernel
theorem dX8_isAtEnd_26 : decode cX8_isAtEnd 26 = .ok (.iload_n 3, 1) := by decide +kernel
theorem dX8_isAtEnd_27 : decode cX8_isAtEnd 27 = .ok (.aload_n 0, 1) := by decide +kernel
theorem dX8_isAtEnd_28 : decode cX8_isAtEnd 28 = .ok (.getfield 19, 3) := by decide +kernel
theorem dX8_isAtEnd_31 : decode cX8_isAtEnd 31 = .ok (.getfield 101, 3) := by decide +kernel
theorem dX8_isAtEnd_34 : decode cX8_isAtEnd 34 = .ok (.iload_n 2, 1) := by decide +kernel
theorem dX8_isAtEnd_35 : decode cX8_isAtEnd 35 = .ok (.iaload, 1) := by decide +kernel
theorem dX8_isAtEnd_36 : decode cX8_isAtEnd 36 = .ok (.if_icmp .ne 7, 3) := by decide +kernel
theorem dX8_isAtEnd_39 : decode cX8_isAtEnd 39 = .ok (.iconst 1, 1) := by decide +kernel
theorem dX8_isAtEnd_40 : decode cX8_isAtEnd 40 = .ok (.goto 4, 3) := by decide +kernel
theorem dX8_isAtEnd_43 : decode cX8_isAtEnd 43 = .ok (.iconst 0, 1) := by decide +kernel
theorem dX8_isAtEnd_44 : decode cX8_isAtEnd 44 = .ok (.ireturn, 1) := by decide +kernel
theorem dX8_areAtBothEnds_0 : decode cX8_areAtBothEnds 0 = .ok (.aload_n 0, 1) := by decide +kernel
theorem dX8_areAtBothEnds_1 : decode cX8_areAtBothEnds 1 = .ok (.iload_n 1, 1) := by decide +kernel
theorem dX8_areAtBothEnds_2 : decode cX8_areAtBothEnds 2 = .ok (.iload_n 3, 1) := by decide +kernel
theorem dX8_areAtBothEnds_3 : decode cX8_areAtBothEnds 3 = .ok (.invokevirtual 135, 3) := by decide +kernel
theorem dX8_areAtBothEnds_6 : decode cX8_areAtBothEnds 6 = .ok (.ifCond .eq 43, 3) := by decide +kernel
theorem dX8_areAtBothEnds_9 : decode cX8_areAtBothEnds 9 = .ok (.aload_n 0, 1) := by decide +kernel
theorem dX8_areAtBothEnds_10 : decode cX8_areAtBothEnds 10 = .ok (.iload_n 2, 1) := by decide +kernel
theorem dX8_areAtBothEnds_11 : decode cX8_areAtBothEnds 11 = .ok (.iload_n 3, 1) := by decide +kernel
theorem dX8_areAtBothEnds_12 : decode cX8_areAtBothEnds 12 = .ok (.invokevirtual 135, 3) := by decide +kernel
theorem dX8_areAtBothEnds_15 : decode cX8_areAtBothEnds 15 = .ok (.ifCond .eq 34, 3) := by decide +kernel
theorem dX8_areAtBothEnds_18 : decode cX8_areAtBothEnds 18 = .ok (.aload_n 0, 1) := by decide +kernel
theorem dX8_areAtBothEnds_19 : decode cX8_areAtBothEnds 19 = .ok (.getfield 29, 3) := by decide +kernel
theorem dX8_areAtBothEnds_22 : decode cX8_areAtBothEnds 22 = .ok (.getfield 113, 3) := by decide +kernel
theorem dX8_areAtBothEnds_25 : decode cX8_areAtBothEnds 25 = .ok (.getfield 122, 3) := by decide +kernel
theorem dX8_areAtBothEnds_28 : decode cX8_areAtBothEnds 28 = .ok (.iload_n 1, 1) := by decide +kernel
theorem dX8_areAtBothEnds_29 : decode cX8_areAtBothEnds 29 = .ok (.iaload, 1) := by decide +kernel
theorem dX8_areAtBothEnds_30 : decode cX8_areAtBothEnds 30 = .ok (.aload_n 0, 1) := by decide +kernel
theorem dX8_areAtBothEnds_31 : decode cX8_areAtBothEnds 31 = .ok (.getfield 29, 3) := by decide +kernel
theorem dX8_areAtBothEnds_34 : decode cX8_areAtBothEnds 34 = .ok (.getfield 113, 3) := by decide +kernel
theorem dX8_areAtBothEnds_37 : decode cX8_areAtBothEnds 37 = .ok (.getfield 122, 3) := by decide +kernel
theorem dX8_areAtBothEnds_40 : decode cX8_areAtBothEnds 40 = .ok (.iload_n 2, 1) := by decide +kernel
theorem dX8_areAtBothEnds_41 : decode cX8_areAtBothEnds 41 = .ok (.iaload, 1) := by decide +kernel
theorem dX8_areAtBothEnds_42 : decode cX8_areAtBothEnds 42 = .ok (.if_icmp .eq 7, 3) := by decide +kernel
theorem dX8_areAtBothEnds_45 : decode cX8_areAtBothEnds 45 = .ok (.iconst 1, 1) := by decide +kernel
theorem dX8_areAtBothEnds_46 : decode cX8_areAtBothEnds 46 = .ok (.goto 4, 3) := by decide +kernel
theorem dX8_areAtBothEnds_49 : decode cX8_areAtBothEnds 49 = .ok (.iconst 0, 1) := by decide +kernel
theorem dX8_areAtBothEnds_50 : decode cX8_areAtBothEnds 50 = .ok (.ireturn, 1) := by decide +kernel
theorem dX8_closedLanes_0 : decode cX8_closedLanes 0 = .ok (.aload_n 0, 1) := by decide +kernel
theorem dX8_closedLanes_1 : decode cX8_closedLanes 1 = .ok (.getfield 29, 3) := by decide +kernel
theorem dX8_closedLanes_4 : decode cX8_closedLanes 4 = .ok (.getfield 113, 3) := by decide +kernel
theorem dX8_closedLanes_7 : decode cX8_closedLanes 7 = .ok (.getfield 179, 3) := by decide +kernel
theorem dX8_closedLanes_10 : decode cX8_closedLanes 10 = .ok (.invokestatic 219, 3) := by decide +kernel
theorem dX8_closedLanes_13 : decode cX8_closedLanes 13 = .ok (.ireturn, 1) := by decide +kernel
theorem dX8_openLanes_0 : decode cX8_openLanes 0 = .ok (.iconst 1, 1) := by decide +kernel
theorem dX8_openLanes_1 : decode cX8_openLanes 1 = .ok (.aload_n 0, 1) := by decide +kernel
theorem dX8_openLanes_2 : decode cX8_openLanes 2 = .ok (.getfield 19, 3) := by decide +kernel
theorem dX8_openLanes_5 : decode cX8_openLanes 5 = .ok (.getfield 216, 3) := by decide +kernel
theorem dX8_openLanes_8 : decode cX8_openLanes 8 = .ok (.ishl, 1) := by decide +kernel
theorem dX8_openLanes_9 : decode cX8_openLanes 9 = .ok (.iconst 1, 1) := by decide +kernel
theorem dX8_openLanes_10 : decode cX8_openLanes 10 = .ok (.isub, 1) := by decide +kernel
theorem dX8_openLanes_11 : decode cX8_openLanes 11 = .ok (.aload_n 0, 1) := by decide +kernel
theorem dX8_openLanes_12 : decode cX8_openLanes 12 = .ok (.getfield 29, 3) := by decide +kernel
theorem dX8_openLanes_15 : decode cX8_openLanes 15 = .ok (.getfield 113, 3) := by decide +kernel
theorem dX8_openLanes_18 : decode cX8_openLanes 18 = .ok (.getfield 179, 3) := by decide +kernel
theorem dX8_openLanes_21 : decode cX8_openLanes 21 = .ok (.iconst (-1), 1) := by decide +kernel
theorem dX8_openLanes_22 : decode cX8_openLanes 22 = .ok (.ixor, 1) := by decide +kernel
theorem dX8_openLanes_23 : decode cX8_openLanes 23 = .ok (.iand, 1) := by decide +kernel
theorem dX8_openLanes_24 : decode cX8_openLanes 24 = .ok (.ireturn, 1) := by decide +kernel
theorem dX8_passable_0 : decode cX8_passable 0 = .ok (.aload_n 0, 1) := by decide +kernel
theorem dX8_passable_1 : decode cX8_passable 1 = .ok (.invokevirtual 206, 3) := by decide +kernel
theorem dX8_passable_4 : decode cX8_passable 4 = .ok (.istore_n 2, 1) := by decide +kernel
theorem dX8_passable_5 : decode cX8_passable 5 = .ok (.iconst 0, 1) := by decide +kernel
theorem dX8_passable_6 : decode cX8_passable 6 = .ok (.istore_n 3, 1) := by decide +kernel
theorem dX8_passable_7 : decode cX8_passable 7 = .ok (.iload_n 3, 1) := by decide +kernel
theorem dX8_passable_8 : decode cX8_passable 8 = .ok (.aload_n 0, 1) := by decide +kernel
theorem dX8_passable_9 : decode cX8_passable 9 = .ok (.getfield 19, 3) := by decide +kernel
theorem dX8_passable_12 : decode cX8_passable 12 = .ok (.getfield 216, 3) := by decide +kernel
theorem dX8_passable_15 : decode cX8_passable 15 = .ok (.if_icmp .ge 26, 3) := by decide +kernel
theorem dX8_passable_18 : decode cX8_passable 18 = .ok (.aload_n 0, 1) := by decide +kernel
theorem dX8_passable_19 : decode cX8_passable 19 = .ok (.iload_n 3, 1) := by decide +kernel
theorem dX8_passable_20 : decode cX8_passable 20 = .ok (.iload_n 1, 1) := by decide +kernel
theorem dX8_passable_21 : decode cX8_passable 21 = .ok (.invokevirtual 139, 3) := by decide +kernel
theorem dX8_passable_24 : decode cX8_passable 24 = .ok (.ifCond .eq 11, 3) := by decide +kernel
theorem dX8_passable_27 : decode cX8_passable 27 = .ok (.iload_n 2, 1) := by decide +kernel
theorem dX8_passable_28 : decode cX8_passable 28 = .ok (.iconst 1, 1) := by decide +kernel
theorem dX8_passable_29 : decode cX8_passable 29 = .ok (.iload_n 3, 1) := by decide +kernel
theorem dX8_passable_30 : decode cX8_passable 30 = .ok (.ishl, 1) := by decide +kernel
theorem dX8_passable_31 : decode cX8_passable 31 = .ok (.iconst (-1), 1) := by decide +kernel
theorem dX8_passable_32 : decode cX8_passable 32 = .ok (.ixor, 1) := by decide +kernel
theorem dX8_passable_33 : decode cX8_passable 33 = .ok (.iand, 1) := by decide +kernel
theorem dX8_passable_34 : decode cX8_passable 34 = .ok (.istore_n 2, 1) := by decide +kernel
theorem dX8_passable_35 : decode cX8_passable 35 = .ok (.iinc 3 1, 3) := by decide +kernel
theorem dX8_passable_38 : decode cX8_passable 38 = .ok (.goto (-31), 3) := by decide +kernel
theorem dX8_passable_41 : decode cX8_passable 41 = .ok (.iload_n 2, 1) := by decide +kernel
theorem dX8_passable_42 : decode cX8_passable 42 = .ok (.ireturn, 1) := by decide +kernel
theorem dX8_reach_0 : decode cX8_reach 0 = .ok (.aload_n 0, 1) := by decide +kernel
theorem dX8_reach_1 : decode cX8_reach 1 = .ok (.getfield 19, 3) := by decide +kernel
theorem dX8_reach_4 : decode cX8_reach 4 = .ok (.aload_n 0, 1) := by decide +kernel
theorem dX8_reach_5 : decode cX8_reach 5 = .ok (.iload_n 1, 1) := by decide +kernel
theorem dX8_reach_6 : decode cX8_reach 6 = .ok (.invokevirtual 192, 3) := by decide +kernel
theorem dX8_reach_9 : decode cX8_reach 9 = .ok (.aload_n 0, 1) := by decide +kernel
theorem dX8_reach_10 : decode cX8_reach 10 = .ok (.getfield 29, 3) := by decide +kernel
theorem dX8_reach_13 : decode cX8_reach 13 = .ok (.getfield 113, 3) := by decide +kernel
theorem dX8_reach_16 : decode cX8_reach 16 = .ok (.getfield 122, 3) := by decide +kernel
theorem dX8_reach_19 : decode cX8_reach 19 = .ok (.iload_n 1, 1) := by decide +kernel
theorem dX8_reach_20 : decode cX8_reach 20 = .ok (.iaload, 1) := by decide +kernel
theorem dX8_reach_21 : decode cX8_reach 21 = .ok (.invokevirtual 289, 3) := by decide +kernel
theorem dX8_reach_24 : decode cX8_reach 24 = .ok (.ireturn, 1) := by decide +kernel
theorem dX8_sum_0 : decode cX8_sum 0 = .ok (.iconst 0, 1) := by decide +kernel
theorem dX8_sum_1 : decode cX8_sum 1 = .ok (.istore_n 2, 1) := by decide +kernel
theorem dX8_sum_2 : decode cX8_sum 2 = .ok (.iconst 0, 1) := by decide +kernel
theorem dX8_sum_3 : decode cX8_sum 3 = .ok (.istore_n 3, 1) := by decide +kernel
theorem dX8_sum_4 : decode cX8_sum 4 = .ok (.iload_n 3, 1) := by decide +kernel
theorem dX8_sum_5 : decode cX8_sum 5 = .ok (.aload_n 0, 1) := by decide +kernel
theorem dX8_sum_6 : decode cX8_sum 6 = .ok (.getfield 19, 3) := by decide +kernel
theorem dX8_sum_9 : decode cX8_sum 9 = .ok (.getfield 232, 3) := by decide +kernel
theorem dX8_sum_12 : decode cX8_sum 12 = .ok (.if_icmp .ge 15, 3) := by decide +kernel
theorem dX8_sum_15 : decode cX8_sum 15 = .ok (.iload_n 2, 1) := by decide +kernel
theorem dX8_sum_16 : decode cX8_sum 16 = .ok (.aload_n 1, 1) := by decide +kernel
theorem dX8_sum_17 : decode cX8_sum 17 = .ok (.iload_n 3, 1) := by decide +kernel
theorem dX8_sum_18 : decode cX8_sum 18 = .ok (.iaload, 1) := by decide +kernel
theorem dX8_sum_19 : decode cX8_sum 19 = .ok (.iadd, 1) := by decide +kernel
theorem dX8_sum_20 : decode cX8_sum 20 = .ok (.istore_n 2, 1) := by decide +kernel
theorem dX8_sum_21 : decode cX8_sum 21 = .ok (.iinc 3 1, 3) := by decide +kernel
theorem dX8_sum_24 : decode cX8_sum 24 = .ok (.goto (-20), 3) := by decide +kernel
theorem dX8_sum_27 : decode cX8_sum 27 = .ok (.iload_n 2, 1) := by decide +kernel
theorem dX8_sum_28 : decode cX8_sum 28 = .ok (.ireturn, 1) := by decide +kernel
theorem dX8_outcome_0 : decode cX8_outcome 0 = .ok (.aload_n 0, 1) := by decide +kernel
theorem dX8_outcome_1 : decode cX8_outcome 1 = .ok (.iload_n 3, 1) := by decide +kernel
theorem dX8_outcome_2 : decode cX8_outcome 2 = .ok (.invokevirtual 107, 3) := by decide +kernel
theorem dX8_outcome_5 : decode cX8_outcome 5 = .ok (.ifCond .eq 5, 3) := by decide +kernel
theorem dX8_outcome_8 : decode cX8_outcome 8 = .ok (.iconst 5, 1) := by decide +kernel
theorem dX8_outcome_9 : decode cX8_outcome 9 = .ok (.ireturn, 1) := by decide +kernel
theorem dX8_outcome_10 : decode cX8_outcome 10 = .ok (.aload_n 0, 1) := by decide +kernel
theorem dX8_outcome_11 : decode cX8_outcome 11 = .ok (.iload_n 3, 1) := by decide +kernel
theorem dX8_outcome_12 : decode cX8_outcome 12 = .ok (.iload_n 1, 1) := by decide +kernel
theorem dX8_outcome_13 : decode cX8_outcome 13 = .ok (.invokevirtual 139, 3) := by decide +kernel
theorem dX8_outcome_16 : decode cX8_outcome 16 = .ok (.ifCond .ne 12, 3) := by decide +kernel
theorem dX8_outcome_19 : decode cX8_outcome 19 = .ok (.aload_n 0, 1) := by decide +kernel
theorem dX8_outcome_20 : decode cX8_outcome 20 = .ok (.iload_n 3, 1) := by decide +kernel
theorem dX8_outcome_21 : decode cX8_outcome 21 = .ok (.iload_n 2, 1) := by decide +kernel
theorem dX8_outcome_22 : decode cX8_outcome 22 = .ok (.invokevirtual 139, 3) := by decide +kernel
theorem dX8_outcome_25 : decode cX8_outcome 25 = .ok (.ifCond .eq 5, 3) := by decide +kernel
theorem dX8_outcome_28 : decode cX8_outcome 28 = .ok (.iconst 4, 1) := by decide +kernel
theorem dX8_outcome_29 : decode cX8_outcome 29 = .ok (.ireturn, 1) := by decide +kernel
theorem dX8_outcome_30 : decode cX8_outcome 30 = .ok (.aload_n 0, 1) := by decide +kernel
theorem dX8_outcome_31 : decode cX8_outcome 31 = .ok (.iload_n 1, 1) := by decide +kernel
theorem dX8_outcome_32 : decode cX8_outcome 32 = .ok (.invokevirtual 125, 3) := by decide +kernel
theorem dX8_outcome_35 : decode cX8_outcome 35 = .ok (.aload_n 0, 1) := by decide +kernel
theorem dX8_outcome_36 : decode cX8_outcome 36 = .ok (.iload_n 2, 1) := by decide +kernel
theorem dX8_outcome_37 : decode cX8_outcome 37 = .ok (.invokevirtual 125, 3) := by decide +kernel
theorem dX8_outcome_40 : decode cX8_outcome 40 = .ok (.iadd, 1) := by decide +kernel
theorem dX8_outcome_41 : decode cX8_outcome 41 = .ok (.aload_n 0, 1) := by decide +kernel
theorem dX8_outcome_42 : decode cX8_outcome 42 = .ok (.getfield 19, 3) := by decide +kernel
theorem dX8_outcome_45 : decode cX8_outcome 45 = .ok (.getfield 104, 3) := by decide +kernel
theorem dX8_outcome_48 : decode cX8_outcome 48 = .ok (.iload_n 3, 1) := by decide +kernel
theorem dX8_outcome_49 : decode cX8_outcome 49 = .ok (.iaload, 1) := by decide +kernel
theorem dX8_outcome_50 : decode cX8_outcome 50 = .ok (.if_icmp .gt 5, 3) := by decide +kernel
theorem dX8_outcome_53 : decode cX8_outcome 53 = .ok (.iconst 0, 1) := by decide +kernel
theorem dX8_outcome_54 : decode cX8_outcome 54 = .ok (.ireturn, 1) := by decide +kernel
theorem dX8_outcome_55 : decode cX8_outcome 55 = .ok (.aload_n 0, 1) := by decide +kernel
theorem dX8_outcome_56 : decode cX8_outcome 56 = .ok (.getfield 29, 3) := by decide +kernel
theorem dX8_outcome_59 : decode cX8_outcome 59 = .ok (.getfield 113, 3) := by decide +kernel
theorem dX8_outcome_62 : decode cX8_outcome 62 = .ok (.getfield 117, 3) := by decide +kernel
theorem dX8_outcome_65 : decode cX8_outcome 65 = .ok (.iload_n 1, 1) := by decide +kernel
theorem dX8_outcome_66 : decode cX8_outcome 66 = .ok (.iaload, 1) := by decide +kernel
theorem dX8_outcome_67 : decode cX8_outcome 67 = .ok (.aload_n 0, 1) := by decide +kernel
theorem dX8_outcome_68 : decode cX8_outcome 68 = .ok (.getfield 29, 3) := by decide +kernel
theorem dX8_outcome_71 : decode cX8_outcome 71 = .ok (.getfield 113, 3) := by decide +kernel
theorem dX8_outcome_74 : decode cX8_outcome 74 = .ok (.getfield 117, 3) := by decide +kernel
theorem dX8_outcome_77 : decode cX8_outcome 77 = .ok (.iload_n 2, 1) := by decide +kernel
theorem dX8_outcome_78 : decode cX8_outcome 78 = .ok (.iaload, 1) := by decide +kernel
theorem dX8_outcome_79 : decode cX8_outcome 79 = .ok (.isub, 1) := by decide +kernel
theorem dX8_outcome_80 : decode cX8_outcome 80 = .ok (.istore 4, 2) := by decide +kernel
theorem dX8_outcome_82 : decode cX8_outcome 82 = .ok (.iload 4, 2) := by decide +kernel
theorem dX8_outcome_84 : decode cX8_outcome 84 = .ok (.ifCond .ne 5, 3) := by decide +kernel
theorem dX8_outcome_87 : decode cX8_outcome 87 = .ok (.iconst 3, 1) := by decide +kernel
theorem dX8_outcome_88 : decode cX8_outcome 88 = .ok (.ireturn, 1) := by decide +kernel
theorem dX8_outcome_89 : decode cX8_outcome 89 = .ok (.iload 4, 2) := by decide +kernel
theorem dX8_outcome_91 : decode cX8_outcome 91 = .ok (.ifCond .le 7, 3) := by decide +kernel
theorem dX8_outcome_94 : decode cX8_outcome 94 = .ok (.iconst 1, 1) := by decide +kernel
theorem dX8_outcome_95 : decode cX8_outcome 95 = .ok (.goto 4, 3) := by decide +kernel
theorem dX8_outcome_98 : decode cX8_outcome 98 = .ok (.iconst 2, 1) := by decide +kernel
theorem dX8_outcome_99 : decode cX8_outcome 99 = .ok (.ireturn, 1) := by decide +kernel
theorem dX8_cross_0 : decode cX8_cross 0 = .ok (.aload_n 0, 1) := by decide +kernel
theorem dX8_cross_1 : decode cX8_cross 1 = .ok (.getfield 29, 3) := by decide +kernel
theorem dX8_cross_4 : decode cX8_cross 4 = .ok (.getfield 113, 3) := by decide +kernel
theorem dX8_cross_7 : decode cX8_cross 7 = .ok (.getfield 122, 3) := by decide +kernel
theorem dX8_cross_10 : decode cX8_cross 10 = .ok (.astore_n 3, 1) := by decide +kernel
theorem dX8_cross_11 : decode cX8_cross 11 = .ok (.aload_n 3, 1) := by decide +kernel
theorem dX8_cross_12 : decode cX8_cross 12 = .ok (.iload_n 1, 1) := by decide +kernel
theorem dX8_cross_13 : decode cX8_cross 13 = .ok (.aload_n 3, 1) := by decide +kernel
theorem dX8_cross_14 : decode cX8_cross 14 = .ok (.iload_n 1, 1) := by decide +kernel
theorem dX8_cross_15 : decode cX8_cross 15 = .ok (.iaload, 1) := by decide +kernel
theorem dX8_cross_16 : decode cX8_cross 16 = .ok (.aload_n 0, 1) := by decide +kernel
theorem dX8_cross_17 : decode cX8_cross 17 = .ok (.getfield 19, 3) := by decide +kernel
theorem dX8_cross_20 : decode cX8_cross 20 = .ok (.getfield 97, 3) := by decide +kernel
theorem dX8_cross_23 : decode cX8_cross 23 = .ok (.iload_n 2, 1) := by decide +kernel
theorem dX8_cross_24 : decode cX8_cross 24 = .ok (.iaload, 1) := by decide +kernel
theorem dX8_cross_25 : decode cX8_cross 25 = .ok (.if_icmp .ne 15, 3) := by decide +kernel
theorem dX8_cross_28 : decode cX8_cross 28 = .ok (.aload_n 0, 1) := by decide +kernel
theorem dX8_cross_29 : decode cX8_cross 29 = .ok (.getfield 19, 3) := by decide +kernel
theorem dX8_cross_32 : decode cX8_cross 32 = .ok (.getfield 101, 3) := by decide +kernel
theorem dX8_cross_35 : decode cX8_cross 35 = .ok (.iload_n 2, 1) := by decide +kernel
theorem dX8_cross_36 : decode cX8_cross 36 = .ok (.iaload, 1) := by decide +kernel
theorem dX8_cross_37 : decode cX8_cross 37 = .ok (.goto 12, 3) := by decide +kernel
theorem dX8_cross_40 : decode cX8_cross 40 = .ok (.aload_n 0, 1) := by decide +kernel
theorem dX8_cross_41 : decode cX8_cross 41 = .ok (.getfield 19, 3) := by decide +kernel
theorem dX8_cross_44 : decode cX8_cross 44 = .ok (.getfield 97, 3) := by decide +kernel
theorem dX8_cross_47 : decode cX8_cross 47 = .ok (.iload_n 2, 1) := by decide +kernel
theorem dX8_cross_48 : decode cX8_cross 48 = .ok (.iaload, 1) := by decide +kernel
theorem dX8_cross_49 : decode cX8_cross 49 = .ok (.iastore, 1) := by decide +kernel
theorem dX8_cross_50 : decode cX8_cross 50 = .ok (.return_, 1) := by decide +kernel
theorem dX8_moveOrYield_0 : decode cX8_moveOrYield 0 = .ok (.iload_n 3, 1) := by decide +kernel
theorem dX8_moveOrYield_1 : decode cX8_moveOrYield 1 = .ok (.ifCond .eq 12, 3) := by decide +kernel
theorem dX8_moveOrYield_4 : decode cX8_moveOrYield 4 = .ok (.aload_n 0, 1) := by decide +kernel
theorem dX8_moveOrYield_5 : decode cX8_moveOrYield 5 = .ok (.iload_n 1, 1) := by decide +kernel
theorem dX8_moveOrYield_6 : decode cX8_moveOrYield 6 = .ok (.iload_n 2, 1) := by decide +kernel
theorem dX8_moveOrYield_7 : decode cX8_moveOrYield 7 = .ok (.invokevirtual 145, 3) := by decide +kernel
theorem dX8_moveOrYield_10 : decode cX8_moveOrYield 10 = .ok (.goto 19, 3) := by decide +kernel
theorem dX8_moveOrYield_13 : decode cX8_moveOrYield 13 = .ok (.aload_n 0, 1) := by decide +kernel
theorem dX8_moveOrYield_14 : decode cX8_moveOrYield 14 = .ok (.getfield 29, 3) := by decide +kernel
theorem dX8_moveOrYield_17 : decode cX8_moveOrYield 17 = .ok (.getfield 113, 3) := by decide +kernel
theorem dX8_moveOrYield_20 : decode cX8_moveOrYield 20 = .ok (.getfield 129, 3) := by decide +kernel
theorem dX8_moveOrYield_23 : decode cX8_moveOrYield 23 = .ok (.iload_n 1, 1) := by decide +kernel
theorem dX8_moveOrYield_24 : decode cX8_moveOrYield 24 = .ok (.dup2, 1) := by decide +kernel
theorem dX8_moveOrYield_25 : decode cX8_moveOrYield 25 = .ok (.iaload, 1) := by decide +kernel
theorem dX8_moveOrYield_26 : decode cX8_moveOrYield 26 = .ok (.iconst 1, 1) := by decide +kernel
theorem dX8_moveOrYield_27 : decode cX8_moveOrYield 27 = .ok (.iadd, 1) := by decide +kernel
theorem dX8_moveOrYield_28 : decode cX8_moveOrYield 28 = .ok (.iastore, 1) := by decide +kernel
theorem dX8_moveOrYield_29 : decode cX8_moveOrYield 29 = .ok (.return_, 1) := by decide +kernel
theorem dX8_favourable_0 : decode cX8_favourable 0 = .ok (.iconst 0, 1) := by decide +kernel
theorem dX8_favourable_1 : decode cX8_favourable 1 = .ok (.istore 5, 2) := by decide +kernel
theorem dX8_favourable_3 : decode cX8_favourable 3 = .ok (.iconst 0, 1) := by decide +kernel
theorem dX8_favourable_4 : decode cX8_favourable 4 = .ok (.istore 6, 2) := by decide +kernel
theorem dX8_favourable_6 : decode cX8_favourable 6 = .ok (.iload 6, 2) := by decide +kernel
theorem dX8_favourable_8 : decode cX8_favourable 8 = .ok (.iconst 1, 1) := by decide +kernel
theorem dX8_favourable_9 : decode cX8_favourable 9 = .ok (.aload_n 0, 1) := by decide +kernel
theorem dX8_favourable_10 : decode cX8_favourable 10 = .ok (.getfield 19, 3) := by decide +kernel
theorem dX8_favourable_13 : decode cX8_favourable 13 = .ok (.getfield 216, 3) := by decide +kernel
theorem dX8_favourable_16 : decode cX8_favourable 16 = .ok (.ishl, 1) := by decide +kernel
theorem dX8_favourable_17 : decode cX8_favourable 17 = .ok (.if_icmp .ge 71, 3) := by decide +kernel
theorem dX8_favourable_20 : decode cX8_favourable 20 = .ok (.iload 6, 2) := by decide +kernel
theorem dX8_favourable_22 : decode cX8_favourable 22 = .ok (.iload_n 1, 1) := by decide +kernel
theorem dX8_favourable_23 : decode cX8_favourable 23 = .ok (.iconst (-1), 1) := by decide +kernel
theorem dX8_favourable_24 : decode cX8_favourable 24 = .ok (.ixor, 1) := by decide +kernel
theorem dX8_favourable_25 : decode cX8_favourable 25 = .ok (.iand, 1) := by decide +kernel
theorem dX8_favourable_26 : decode cX8_favourable 26 = .ok (.ifCond .ne 56, 3) := by decide +kernel
theorem dX8_favourable_29 : decode cX8_favourable 29 = .ok (.aload_n 0, 1) := by decide +kernel
theorem dX8_favourable_30 : decode cX8_favourable 30 = .ok (.getfield 19, 3) := by decide +kernel
theorem dX8_favourable_33 : decode cX8_favourable 33 = .ok (.iload 6, 2) := by decide +kernel
theorem dX8_favourable_35 : decode cX8_favourable 35 = .ok (.iload_n 2, 1) := by decide +kernel
theorem dX8_favourable_36 : decode cX8_favourable 36 = .ok (.iload_n 3, 1) := by decide +kernel
theorem dX8_favourable_37 : decode cX8_favourable 37 = .ok (.invokevirtual 213, 3) := by decide +kernel
theorem dX8_favourable_40 : decode cX8_favourable 40 = .ok (.ifCond .eq 42, 3) := by decide +kernel
theorem dX8_favourable_43 : decode cX8_favourable 43 = .ok (.iload 6, 2) := by decide +kernel
theorem dX8_favourable_45 : decode cX8_favourable 45 = .ok (.invokestatic 219, 3) := by decide +kernel
theorem dX8_favourable_48 : decode cX8_favourable 48 = .ok (.istore 7, 2) := by decide +kernel
theorem dX8_favourable_50 : decode cX8_favourable 50 = .ok (.iload_n 1, 1) := by decide +kernel
theorem dX8_favourable_51 : decode cX8_favourable 51 = .ok (.invokestatic 219, 3) := by decide +kernel
theorem dX8_favourable_54 : decode cX8_favourable 54 = .ok (.iload 7, 2) := by decide +kernel
theorem dX8_favourable_56 : decode cX8_favourable 56 = .ok (.isub, 1) := by decide +kernel
theorem dX8_favourable_57 : decode cX8_favourable 57 = .ok (.istore 8, 2) := by decide +kernel
theorem dX8_favourable_59 : decode cX8_favourable 59 = .ok (.iload 5, 2) := by decide +kernel
theorem dX8_favourable_61 : decode cX8_favourable 61 = .ok (.bipush 10, 2) := by decide +kernel
theorem dX8_favourable_63 : decode cX8_favourable 63 = .ok (.iload 4, 2) := by decide +kernel
theorem dX8_favourable_65 : decode cX8_favourable 65 = .ok (.isub, 1) := by decide +kernel
theorem dX8_favourable_66 : decode cX8_favourable 66 = .ok (.iload 7, 2) := by decide +kernel
theorem dX8_favourable_68 : decode cX8_favourable 68 = .ok (.invokestatic 228, 3) := by decide +kernel
theorem dX8_favourable_71 : decode cX8_favourable 71 = .ok (.iload 4, 2) := by decide +kernel
theorem dX8_favourable_73 : decode cX8_favourable 73 = .ok (.iload 8, 2) := by decide +kernel
theorem dX8_favourable_75 : decode cX8_favourable 75 = .ok (.invokestatic 228, 3) := by decide +kernel
theorem dX8_favourable_78 : decode cX8_favourable 78 = .ok (.imul, 1) := by decide +kernel
theorem dX8_favourable_79 : decode cX8_favourable 79 = .ok (.iadd, 1) := by decide +kernel
theorem dX8_favourable_80 : decode cX8_favourable 80 = .ok (.istore 5, 2) := by decide +kernel
theorem dX8_favourable_82 : decode cX8_favourable 82 = .ok (.iinc 6 1, 3) := by decide +kernel
theorem dX8_favourable_85 : decode cX8_favourable 85 = .ok (.goto (-79), 3) := by decide +kernel
theorem dX8_favourable_88 : decode cX8_favourable 88 = .ok (.iload 5, 2) := by decide +kernel
theorem dX8_favourable_90 : decode cX8_favourable 90 = .ok (.ireturn, 1) := by decide +kernel
theorem dX8_power_0 : decode cX8_power 0 = .ok (.iconst 1, 1) := by decide +kernel
theorem dX8_power_1 : decode cX8_power 1 = .ok (.istore_n 2, 1) := by decide +kernel
theorem dX8_power_2 : decode cX8_power 2 = .ok (.iconst 0, 1) := by decide +kernel
theorem dX8_power_3 : decode cX8_power 3 = .ok (.istore_n 3, 1) := by decide +kernel
theorem dX8_power_4 : decode cX8_power 4 = .ok (.iload_n 3, 1) := by decide +kernel
theorem dX8_power_5 : decode cX8_power 5 = .ok (.iload_n 1, 1) := by decide +kernel
theorem dX8_power_6 : decode cX8_power 6 = .ok (.if_icmp .ge 13, 3) := by decide +kernel
theorem dX8_power_9 : decode cX8_power 9 = .ok (.iload_n 2, 1) := by decide +kernel
theorem dX8_power_10 : decode cX8_power 10 = .ok (.iload_n 0, 1) := by decide +kernel
theorem dX8_power_11 : decode cX8_power 11 = .ok (.imul, 1) := by decide +kernel
theorem dX8_power_12 : decode cX8_power 12 = .ok (.istore_n 2, 1) := by decide +kernel
theorem dX8_power_13 : decode cX8_power 13 = .ok (.iinc 3 1, 3) := by decide +kernel
theorem dX8_power_16 : decode cX8_power 16 = .ok (.goto (-12), 3) := by decide +kernel
theorem dX8_power_19 : decode cX8_power 19 = .ok (.iload_n 2, 1) := by decide +kernel
theorem dX8_power_20 : decode cX8_power 20 = .ok (.ireturn, 1) := by decide +kernel
theorem dX8_widenessWithout_0 : decode cX8_widenessWithout 0 = .ok (.iconst 0, 1) := by decide +kernel
theorem dX8_widenessWithout_1 : decode cX8_widenessWithout 1 = .ok (.istore_n 2, 1) := by decide +kernel
theorem dX8_widenessWithout_2 : decode cX8_widenessWithout 2 = .ok (.iconst 0, 1) := by decide +kernel
theorem dX8_widenessWithout_3 : decode cX8_widenessWithout 3 = .ok (.istore_n 3, 1) := by decide +kernel
theorem dX8_widenessWithout_4 : decode cX8_widenessWithout 4 = .ok (.iload_n 3, 1) := by decide +kernel
theorem dX8_widenessWithout_5 : decode cX8_widenessWithout 5 = .ok (.aload_n 0, 1) := by decide +kernel
theorem dX8_widenessWithout_6 : decode cX8_widenessWithout 6 = .ok (.getfield 19, 3) := by decide +kernel
theorem dX8_widenessWithout_9 : decode cX8_widenessWithout 9 = .ok (.getfield 232, 3) := by decide +kernel
theorem dX8_widenessWithout_12 : decode cX8_widenessWithout 12 = .ok (.if_icmp .ge 35, 3) := by decide +kernel
theorem dX8_widenessWithout_15 : decode cX8_widenessWithout 15 = .ok (.iload_n 2, 1) := by decide +kernel
theorem dX8_widenessWithout_16 : decode cX8_widenessWithout 16 = .ok (.iload_n 1, 1) := by decide +kernel
theorem dX8_widenessWithout_17 : decode cX8_widenessWithout 17 = .ok (.iload_n 3, 1) := by decide +kernel
theorem dX8_widenessWithout_18 : decode cX8_widenessWithout 18 = .ok (.ishr, 1) := by decide +kernel
theorem dX8_widenessWithout_19 : decode cX8_widenessWithout 19 = .ok (.iconst 1, 1) := by decide +kernel
theorem dX8_widenessWithout_20 : decode cX8_widenessWithout 20 = .ok (.iand, 1) := by decide +kernel
theorem dX8_widenessWithout_21 : decode cX8_widenessWithout 21 = .ok (.ifCond .eq 13, 3) := by decide +kernel
theorem dX8_widenessWithout_24 : decode cX8_widenessWithout 24 = .ok (.aload_n 0, 1) := by decide +kernel
theorem dX8_widenessWithout_25 : decode cX8_widenessWithout 25 = .ok (.getfield 19, 3) := by decide +kernel
theorem dX8_widenessWithout_28 : decode cX8_widenessWithout 28 = .ok (.getfield 283, 3) := by decide +kernel
theorem dX8_widenessWithout_31 : decode cX8_widenessWithout 31 = .ok (.goto 8, 3) := by decide +kernel
theorem dX8_widenessWithout_34 : decode cX8_widenessWithout 34 = .ok (.aload_n 0, 1) := by decide +kernel
theorem dX8_widenessWithout_35 : decode cX8_widenessWithout 35 = .ok (.iload_n 3, 1) := by decide +kernel
theorem dX8_widenessWithout_36 : decode cX8_widenessWithout 36 = .ok (.invokevirtual 125, 3) := by decide +kernel
theorem dX8_widenessWithout_39 : decode cX8_widenessWithout 39 = .ok (.iadd, 1) := by decide +kernel
theorem dX8_widenessWithout_40 : decode cX8_widenessWithout 40 = .ok (.istore_n 2, 1) := by decide +kernel
theorem dX8_widenessWithout_41 : decode cX8_widenessWithout 41 = .ok (.iinc 3 1, 3) := by decide +kernel
theorem dX8_widenessWithout_44 : decode cX8_widenessWithout 44 = .ok (.goto (-40), 3) := by decide +kernel
theorem dX8_widenessWithout_47 : decode cX8_widenessWithout 47 = .ok (.iload_n 2, 1) := by decide +kernel
theorem dX8_widenessWithout_48 : decode cX8_widenessWithout 48 = .ok (.ireturn, 1) := by decide +kernel
theorem dX8_peopleAhead_0 : decode cX8_peopleAhead 0 = .ok (.aload_n 0, 1) := by decide +kernel
theorem dX8_peopleAhead_1 : decode cX8_peopleAhead 1 = .ok (.getfield 29, 3) := by decide +kernel
theorem dX8_peopleAhead_4 : decode cX8_peopleAhead 4 = .ok (.getfield 113, 3) := by decide +kernel
theorem dX8_peopleAhead_7 : decode cX8_peopleAhead 7 = .ok (.getfield 117, 3) := by decide +kernel
theorem dX8_peopleAhead_10 : decode cX8_peopleAhead 10 = .ok (.astore_n 2, 1) := by decide +kernel
theorem dX8_peopleAhead_11 : decode cX8_peopleAhead 11 = .ok (.iconst 0, 1) := by decide +kernel
theorem dX8_peopleAhead_12 : decode cX8_peopleAhead 12 = .ok (.istore_n 3, 1) := by decide +kernel
theorem dX8_peopleAhead_13 : decode cX8_peopleAhead 13 = .ok (.iconst 0, 1) := by decide +kernel
theorem dX8_peopleAhead_14 : decode cX8_peopleAhead 14 = .ok (.istore 4, 2) := by decide +kernel
theorem dX8_peopleAhead_16 : decode cX8_peopleAhead 16 = .ok (.iload 4, 2) := by decide +kernel
theorem dX8_peopleAhead_18 : decode cX8_peopleAhead 18 = .ok (.aload_n 0, 1) := by decide +kernel
theorem dX8_peopleAhead_19 : decode cX8_peopleAhead 19 = .ok (.getfield 19, 3) := by decide +kernel
theorem dX8_peopleAhead_22 : decode cX8_peopleAhead 22 = .ok (.getfield 232, 3) := by decide +kernel
theorem dX8_peopleAhead_25 : decode cX8_peopleAhead 25 = .ok (.if_icmp .ge 38, 3) := by decide +kernel
theorem dX8_peopleAhead_28 : decode cX8_peopleAhead 28 = .ok (.aload_n 2, 1) := by decide +kernel
theorem dX8_peopleAhead_29 : decode cX8_peopleAhead 29 = .ok (.iload 4, 2) := by decide +kernel
theorem dX8_peopleAhead_31 : decode cX8_peopleAhead 31 = .ok (.iaload, 1) := by decide +kernel
theorem dX8_peopleAhead_32 : decode cX8_peopleAhead 32 = .ok (.aload_n 2, 1) := by decide +kernel
theorem dX8_peopleAhead_33 : decode cX8_peopleAhead 33 = .ok (.iload_n 1, 1) := by decide +kernel
theorem dX8_peopleAhead_34 : decode cX8_peopleAhead 34 = .ok (.iaload, 1) := by decide +kernel
theorem dX8_peopleAhead_35 : decode cX8_peopleAhead 35 = .ok (.if_icmp .gt 19, 3) := by decide +kernel
theorem dX8_peopleAhead_38 : decode cX8_peopleAhead 38 = .ok (.aload_n 2, 1) := by decide +kernel
theorem dX8_peopleAhead_39 : decode cX8_peopleAhead 39 = .ok (.iload 4, 2) := by decide +kernel
theorem dX8_peopleAhead_41 : decode cX8_peopleAhead 41 = .ok (.iaload, 1) := by decide +kernel
theorem dX8_peopleAhead_42 : decode cX8_peopleAhead 42 = .ok (.aload_n 2, 1) := by decide +kernel
theorem dX8_peopleAhead_43 : decode cX8_peopleAhead 43 = .ok (.iload_n 1, 1) := by decide +kernel
theorem dX8_peopleAhead_44 : decode cX8_peopleAhead 44 = .ok (.iaload, 1) := by decide +kernel
theorem dX8_peopleAhead_45 : decode cX8_peopleAhead 45 = .ok (.if_icmp .ne 12, 3) := by decide +kernel
theorem dX8_peopleAhead_48 : decode cX8_peopleAhead 48 = .ok (.iload 4, 2) := by decide +kernel
theorem dX8_peopleAhead_50 : decode cX8_peopleAhead 50 = .ok (.iload_n 1, 1) := by decide +kernel
theorem dX8_peopleAhead_51 : decode cX8_peopleAhead 51 = .ok (.if_icmp .ge 6, 3) := by decide +kernel
theorem dX8_peopleAhead_54 : decode cX8_peopleAhead 54 = .ok (.iinc 3 1, 3) := by decide +kernel
theorem dX8_peopleAhead_57 : decode cX8_peopleAhead 57 = .ok (.iinc 4 1, 3) := by decide +kernel
theorem dX8_peopleAhead_60 : decode cX8_peopleAhead 60 = .ok (.goto (-44), 3) := by decide +kernel
theorem dX8_peopleAhead_63 : decode cX8_peopleAhead 63 = .ok (.iload_n 3, 1) := by decide +kernel
theorem dX8_peopleAhead_64 : decode cX8_peopleAhead 64 = .ok (.ireturn, 1) := by decide +kernel
theorem dX8_fitting_0 : decode cX8_fitting 0 = .ok (.iconst 0, 1) := by decide +kernel
theorem dX8_fitting_1 : decode cX8_fitting 1 = .ok (.istore_n 2, 1) := by decide +kernel
theorem dX8_fitting_2 : decode cX8_fitting 2 = .ok (.iconst 0, 1) := by decide +kernel
theorem dX8_fitting_3 : decode cX8_fitting 3 = .ok (.istore_n 3, 1) := by decide +kernel
theorem dX8_fitting_4 : decode cX8_fitting 4 = .ok (.iload_n 3, 1) := by decide +kernel
theorem dX8_fitting_5 : decode cX8_fitting 5 = .ok (.bipush 9, 2) := by decide +kernel
theorem dX8_fitting_7 : decode cX8_fitting 7 = .ok (.if_icmp .gt 44, 3) := by decide +kernel
theorem dX8_fitting_10 : decode cX8_fitting 10 = .ok (.aload_n 0, 1) := by decide +kernel
theorem dX8_fitting_11 : decode cX8_fitting 11 = .ok (.getfield 44, 3) := by decide +kernel
theorem dX8_fitting_14 : decode cX8_fitting 14 = .ok (.iload_n 1, 1) := by decide +kernel
theorem dX8_fitting_15 : decode cX8_fitting 15 = .ok (.aload_n 0, 1) := by decide +kernel
theorem dX8_fitting_16 : decode cX8_fitting 16 = .ok (.getfield 19, 3) := by decide +kernel
theorem dX8_fitting_19 : decode cX8_fitting 19 = .ok (.getfield 283, 3) := by decide +kernel
theorem dX8_fitting_22 : decode cX8_fitting 22 = .ok (.iconst 2, 1) := by decide +kernel
theorem dX8_fitting_23 : decode cX8_fitting 23 = .ok (.iload_n 3, 1) := by decide +kernel
theorem dX8_fitting_24 : decode cX8_fitting 24 = .ok (.imul, 1) := by decide +kernel
theorem dX8_fitting_25 : decode cX8_fitting 25 = .ok (.iadd, 1) := by decide +kernel
theorem dX8_fitting_26 : decode cX8_fitting 26 = .ok (.aload_n 0, 1) := by decide +kernel
theorem dX8_fitting_27 : decode cX8_fitting 27 = .ok (.getfield 19, 3) := by decide +kernel
theorem dX8_fitting_30 : decode cX8_fitting 30 = .ok (.getfield 286, 3) := by decide +kernel
theorem dX8_fitting_33 : decode cX8_fitting 33 = .ok (.invokevirtual 292, 3) := by decide +kernel
theorem dX8_fitting_36 : decode cX8_fitting 36 = .ok (.ifCond .eq 9, 3) := by decide +kernel
theorem dX8_fitting_39 : decode cX8_fitting 39 = .ok (.iload_n 2, 1) := by decide +kernel
theorem dX8_fitting_40 : decode cX8_fitting 40 = .ok (.iconst 1, 1) := by decide +kernel
theorem dX8_fitting_41 : decode cX8_fitting 41 = .ok (.iload_n 3, 1) := by decide +kernel
theorem dX8_fitting_42 : decode cX8_fitting 42 = .ok (.ishl, 1) := by decide +kernel
theorem dX8_fitting_43 : decode cX8_fitting 43 = .ok (.ior, 1) := by decide +kernel
theorem dX8_fitting_44 : decode cX8_fitting 44 = .ok (.istore_n 2, 1) := by decide +kernel
theorem dX8_fitting_45 : decode cX8_fitting 45 = .ok (.iinc 3 1, 3) := by decide +kernel
theorem dX8_fitting_48 : decode cX8_fitting 48 = .ok (.goto (-44), 3) := by decide +kernel
theorem dX8_fitting_51 : decode cX8_fitting 51 = .ok (.iload_n 2, 1) := by decide +kernel
theorem dX8_fitting_52 : decode cX8_fitting 52 = .ok (.ireturn, 1) := by decide +kernel
theorem dX8_padded_0 : decode cX8_padded 0 = .ok (.iconst 0, 1) := by decide +kernel
theorem dX8_padded_1 : decode cX8_padded 1 = .ok (.istore_n 1, 1) := by decide +kernel
theorem dX8_padded_2 : decode cX8_padded 2 = .ok (.iconst 0, 1) := by decide +kernel
theorem dX8_padded_3 : decode cX8_padded 3 = .ok (.istore_n 2, 1) := by decide +kernel
theorem dX8_padded_4 : decode cX8_padded 4 = .ok (.iload_n 2, 1) := by decide +kernel
theorem dX8_padded_5 : decode cX8_padded 5 = .ok (.aload_n 0, 1) := by decide +kernel
theorem dX8_padded_6 : decode cX8_padded 6 = .ok (.getfield 19, 3) := by decide +kernel
theorem dX8_padded_9 : decode cX8_padded 9 = .ok (.getfield 232, 3) := by decide +kernel
theorem dX8_padded_12 : decode cX8_padded 12 = .ok (.if_icmp .ge 38, 3) := by decide +kernel
theorem dX8_padded_15 : decode cX8_padded 15 = .ok (.aload_n 0, 1) := by decide +kernel
theorem dX8_padded_16 : decode cX8_padded 16 = .ok (.iload_n 2, 1) := by decide +kernel
theorem dX8_padded_17 : decode cX8_padded 17 = .ok (.invokevirtual 254, 3) := by decide +kernel
theorem dX8_padded_20 : decode cX8_padded 20 = .ok (.aload_n 0, 1) := by decide +kernel
theorem dX8_padded_21 : decode cX8_padded 21 = .ok (.getfield 29, 3) := by decide +kernel
theorem dX8_padded_24 : decode cX8_padded 24 = .ok (.getfield 113, 3) := by decide +kernel
theorem dX8_padded_27 : decode cX8_padded 27 = .ok (.getfield 117, 3) := by decide +kernel
theorem dX8_padded_30 : decode cX8_padded 30 = .ok (.iload_n 2, 1) := by decide +kernel
theorem dX8_padded_31 : decode cX8_padded 31 = .ok (.iaload, 1) := by decide +kernel
theorem dX8_padded_32 : decode cX8_padded 32 = .ok (.ishr, 1) := by decide +kernel
theorem dX8_padded_33 : decode cX8_padded 33 = .ok (.iconst 1, 1) := by decide +kernel
theorem dX8_padded_34 : decode cX8_padded 34 = .ok (.iand, 1) := by decide +kernel
theorem dX8_padded_35 : decode cX8_padded 35 = .ok (.ifCond .ne 9, 3) := by decide +kernel
theorem dX8_padded_38 : decode cX8_padded 38 = .ok (.iload_n 1, 1) := by decide +kernel
theorem dX8_padded_39 : decode cX8_padded 39 = .ok (.iconst 1, 1) := by decide +kernel
theorem dX8_padded_40 : decode cX8_padded 40 = .ok (.iload_n 2, 1) := by decide +kernel
theorem dX8_padded_41 : decode cX8_padded 41 = .ok (.ishl, 1) := by decide +kernel
theorem dX8_padded_42 : decode cX8_padded 42 = .ok (.ior, 1) := by decide +kernel
theorem dX8_padded_43 : decode cX8_padded 43 = .ok (.istore_n 1, 1) := by decide +kernel
theorem dX8_padded_44 : decode cX8_padded 44 = .ok (.iinc 2 1, 3) := by decide +kernel
theorem dX8_padded_47 : decode cX8_padded 47 = .ok (.goto (-43), 3) := by decide +kernel
theorem dX8_padded_50 : decode cX8_padded 50 = .ok (.iload_n 1, 1) := by decide +kernel
theorem dX8_padded_51 : decode cX8_padded 51 = .ok (.ireturn, 1) := by decide +kernel
theorem dX8_markPerson_0 : decode cX8_markPerson 0 = .ok (.aload_n 0, 1) := by decide +kernel
theorem dX8_markPerson_1 : decode cX8_markPerson 1 = .ok (.dup, 1) := by decide +kernel
theorem dX8_markPerson_2 : decode cX8_markPerson 2 = .ok (.getfield 62, 3) := by decide +kernel
theorem dX8_markPerson_5 : decode cX8_markPerson 5 = .ok (.lconst 1, 1) := by decide +kernel
theorem dX8_markPerson_6 : decode cX8_markPerson 6 = .ok (.ladd, 1) := by decide +kernel
theorem dX8_markPerson_7 : decode cX8_markPerson 7 = .ok (.putfield 62, 3) := by decide +kernel
theorem dX8_markPerson_10 : decode cX8_markPerson 10 = .ok (.aload_n 0, 1) := by decide +kernel
theorem dX8_markPerson_11 : decode cX8_markPerson 11 = .ok (.iload_n 1, 1) := by decide +kernel
theorem dX8_markPerson_12 : decode cX8_markPerson 12 = .ok (.invokevirtual 125, 3) := by decide +kernel
theorem dX8_markPerson_15 : decode cX8_markPerson 15 = .ok (.ireturn, 1) := by decide +kernel
theorem dX8_markEarl_0 : decode cX8_markEarl 0 = .ok (.aload_n 0, 1) := by decide +kernel
theorem dX8_markEarl_1 : decode cX8_markEarl 1 = .ok (.dup, 1) := by decide +kernel
theorem dX8_markEarl_2 : decode cX8_markEarl 2 = .ok (.getfield 62, 3) := by decide +kernel
theorem dX8_markEarl_5 : decode cX8_markEarl 5 = .ok (.ldc2_w 295, 3) := by decide +kernel
theorem dX8_markEarl_8 : decode cX8_markEarl 8 = .ok (.ladd, 1) := by decide +kernel
theorem dX8_markEarl_9 : decode cX8_markEarl 9 = .ok (.putfield 62, 3) := by decide +kernel
theorem dX8_markEarl_12 : decode cX8_markEarl 12 = .ok (.aload_n 0, 1) := by decide +kernel
theorem dX8_markEarl_13 : decode cX8_markEarl 13 = .ok (.iload_n 1, 1) := by decide +kernel
theorem dX8_markEarl_14 : decode cX8_markEarl 14 = .ok (.invokevirtual 258, 3) := by decide +kernel
theorem dX8_markEarl_17 : decode cX8_markEarl 17 = .ok (.aload_n 0, 1) := by decide +kernel
theorem dX8_markEarl_18 : decode cX8_markEarl 18 = .ok (.iload_n 1, 1) := by decide +kernel
theorem dX8_markEarl_19 : decode cX8_markEarl 19 = .ok (.invokevirtual 132, 3) := by decide +kernel
theorem dX8_markEarl_22 : decode cX8_markEarl 22 = .ok (.invokestatic 219, 3) := by decide +kernel
theorem dX8_markEarl_25 : decode cX8_markEarl 25 = .ok (.iadd, 1) := by decide +kernel
theorem dX8_markEarl_26 : decode cX8_markEarl 26 = .ok (.ireturn, 1) := by decide +kernel
theorem dX8_markPage_0 : decode cX8_markPage 0 = .ok (.aload_n 0, 1) := by decide +kernel
theorem dX8_markPage_1 : decode cX8_markPage 1 = .ok (.dup, 1) := by decide +kernel
theorem dX8_markPage_2 : decode cX8_markPage 2 = .ok (.getfield 62, 3) := by decide +kernel
theorem dX8_markPage_5 : decode cX8_markPage 5 = .ok (.ldc2_w 297, 3) := by decide +kernel
theorem dX8_markPage_8 : decode cX8_markPage 8 = .ok (.ladd, 1) := by decide +kernel
theorem dX8_markPage_9 : decode cX8_markPage 9 = .ok (.putfield 62, 3) := by decide +kernel
theorem dX8_markPage_12 : decode cX8_markPage 12 = .ok (.aload_n 0, 1) := by decide +kernel
theorem dX8_markPage_13 : decode cX8_markPage 13 = .ok (.iload_n 1, 1) := by decide +kernel
theorem dX8_markPage_14 : decode cX8_markPage 14 = .ok (.invokevirtual 258, 3) := by decide +kernel
theorem dX8_markPage_17 : decode cX8_markPage 17 = .ok (.iload_n 1, 1) := by decide +kernel
theorem dX8_markPage_18 : decode cX8_markPage 18 = .ok (.isub, 1) := by decide +kernel
theorem dX8_markPage_19 : decode cX8_markPage 19 = .ok (.ireturn, 1) := by decide +kernel
theorem dX8_markBride_0 : decode cX8_markBride 0 = .ok (.aload_n 0, 1) := by decide +kernel
theorem dX8_markBride_1 : decode cX8_markBride 1 = .ok (.dup, 1) := by decide +kernel
theorem dX8_markBride_2 : decode cX8_markBride 2 = .ok (.getfield 62, 3) := by decide +kernel
theorem dX8_markBride_5 : decode cX8_markBride 5 = .ok (.ldc2_w 299, 3) := by decide +kernel
theorem dX8_markBride_8 : decode cX8_markBride 8 = .ok (.ladd, 1) := by decide +kernel
theorem dX8_markBride_9 : decode cX8_markBride 9 = .ok (.putfield 62, 3) := by decide +kernel
theorem dX8_markBride_12 : decode cX8_markBride 12 = .ok (.aload_n 0, 1) := by decide +kernel
theorem dX8_markBride_13 : decode cX8_markBride 13 = .ok (.iload_n 1, 1) := by decide +kernel
theorem dX8_markBride_14 : decode cX8_markBride 14 = .ok (.invokevirtual 261, 3) := by decide +kernel
theorem dX8_markBride_17 : decode cX8_markBride 17 = .ok (.iconst 2, 1) := by decide +kernel
theorem dX8_markBride_18 : decode cX8_markBride 18 = .ok (.imul, 1) := by decide +kernel
theorem dX8_markBride_19 : decode cX8_markBride 19 = .ok (.ireturn, 1) := by decide +kernel
theorem dX8_markTailor_0 : decode cX8_markTailor 0 = .ok (.aload_n 0, 1) := by decide +kernel
theorem dX8_markTailor_1 : decode cX8_markTailor 1 = .ok (.dup, 1) := by decide +kernel
theorem dX8_markTailor_2 : decode cX8_markTailor 2 = .ok (.getfield 62, 3) := by decide +kernel
theorem dX8_markTailor_5 : decode cX8_markTailor 5 = .ok (.ldc2_w 301, 3) := by decide +kernel
theorem dX8_markTailor_8 : decode cX8_markTailor 8 = .ok (.ladd, 1) := by decide +kernel
theorem dX8_markTailor_9 : decode cX8_markTailor 9 = .ok (.putfield 62, 3) := by decide +kernel
theorem dX8_markTailor_12 : decode cX8_markTailor 12 = .ok (.aload_n 0, 1) := by decide +kernel
theorem dX8_markTailor_13 : decode cX8_markTailor 13 = .ok (.iload_n 1, 1) := by decide +kernel
theorem dX8_markTailor_14 : decode cX8_markTailor 14 = .ok (.invokevirtual 264, 3) := by decide +kernel
theorem dX8_markTailor_17 : decode cX8_markTailor 17 = .ok (.aload_n 0, 1) := by decide +kernel
theorem dX8_markTailor_18 : decode cX8_markTailor 18 = .ok (.getfield 29, 3) := by decide +kernel
theorem dX8_markTailor_21 : decode cX8_markTailor 21 = .ok (.getfield 113, 3) := by decide +kernel
theorem dX8_markTailor_24 : decode cX8_markTailor 24 = .ok (.getfield 129, 3) := by decide +kernel
theorem dX8_markTailor_27 : decode cX8_markTailor 27 = .ok (.iload_n 1, 1) := by decide +kernel
theorem dX8_markTailor_28 : decode cX8_markTailor 28 = .ok (.iaload, 1) := by decide +kernel
theorem dX8_markTailor_29 : decode cX8_markTailor 29 = .ok (.iadd, 1) := by decide +kernel
theorem dX8_markTailor_30 : decode cX8_markTailor 30 = .ok (.ireturn, 1) := by decide +kernel
theorem dX8_markThief_0 : decode cX8_markThief 0 = .ok (.aload_n 0, 1) := by decide +kernel
theorem dX8_markThief_1 : decode cX8_markThief 1 = .ok (.dup, 1) := by decide +kernel
theorem dX8_markThief_2 : decode cX8_markThief 2 = .ok (.getfield 62, 3) := by decide +kernel
theorem dX8_markThief_5 : decode cX8_markThief 5 = .ok (.ldc2_w 303, 3) := by decide +kernel
theorem dX8_markThief_8 : decode cX8_markThief 8 = .ok (.ladd, 1) := by decide +kernel
theorem dX8_markThief_9 : decode cX8_markThief 9 = .ok (.putfield 62, 3) := by decide +kernel
theorem dX8_markThief_12 : decode cX8_markThief 12 = .ok (.aload_n 0, 1) := by decide +kernel
theorem dX8_markThief_13 : decode cX8_markThief 13 = .ok (.iload_n 1, 1) := by decide +kernel
theorem dX8_markThief_14 : decode cX8_markThief 14 = .ok (.invokevirtual 258, 3) := by decide +kernel
theorem dX8_markThief_17 : decode cX8_markThief 17 = .ok (.aload_n 0, 1) := by decide +kernel
theorem dX8_markThief_18 : decode cX8_markThief 18 = .ok (.invokevirtual 168, 3) := by decide +kernel
theorem dX8_markThief_21 : decode cX8_markThief 21 = .ok (.iadd, 1) := by decide +kernel
theorem dX8_markThief_22 : decode cX8_markThief 22 = .ok (.ireturn, 1) := by decide +kernel
theorem dX9_init_0 : decode cX9_init 0 = .ok (.aload_n 0, 1) := by decide +kernel
theorem dX9_init_1 : decode cX9_init 1 = .ok (.invokespecial 1, 3) := by decide +kernel
theorem dX9_init_4 : decode cX9_init 4 = .ok (.aload_n 0, 1) := by decide +kernel
theorem dX9_init_5 : decode cX9_init 5 = .ok (.sipush 150, 3) := by decide +kernel
theorem dX9_init_8 : decode cX9_init 8 = .ok (.newarray .byte, 2) := by decide +kernel
theorem dX9_init_10 : decode cX9_init 10 = .ok (.putfield 7, 3) := by decide +kernel
theorem dX9_init_13 : decode cX9_init 13 = .ok (.aload_n 0, 1) := by decide +kernel
theorem dX9_init_14 : decode cX9_init 14 = .ok (.iconst 2, 1) := by decide +kernel
theorem dX9_init_15 : decode cX9_init 15 = .ok (.newarray .int, 2) := by decide +kernel
theorem dX9_init_17 : decode cX9_init 17 = .ok (.putfield 13, 3) := by decide +kernel
theorem dX9_init_20 : decode cX9_init 20 = .ok (.aload_n 0, 1) := by decide +kernel
theorem dX9_init_21 : decode cX9_init 21 = .ok (.iconst 2, 1) := by decide +kernel
theorem dX9_init_22 : decode cX9_init 22 = .ok (.newarray .int, 2) := by decide +kernel
theorem dX9_init_24 : decode cX9_init 24 = .ok (.putfield 17, 3) := by decide +kernel
theorem dX9_init_27 : decode cX9_init 27 = .ok (.aload_n 0, 1) := by decide +kernel
theorem dX9_init_28 : decode cX9_init 28 = .ok (.bipush 16, 2) := by decide +kernel
theorem dX9_init_30 : decode cX9_init 30 = .ok (.newarray .int, 2) := by decide +kernel
theorem dX9_init_32 : decode cX9_init 32 = .ok (.putfield 20, 3) := by decide +kernel
theorem dX9_init_35 : decode cX9_init 35 = .ok (.aload_n 0, 1) := by decide +kernel
theorem dX9_init_36 : decode cX9_init 36 = .ok (.bipush 16, 2) := by decide +kernel
theorem dX9_init_38 : decode cX9_init 38 = .ok (.newarray .int, 2) := by decide +kernel
theorem dX9_init_40 : decode cX9_init 40 = .ok (.putfield 23, 3) := by decide +kernel
theorem dX9_init_43 : decode cX9_init 43 = .ok (.aload_n 0, 1) := by decide +kernel
theorem dX9_init_44 : decode cX9_init 44 = .ok (.bipush 16, 2) := by decide +kernel
theorem dX9_init_46 : decode cX9_init 46 = .ok (.newarray .int, 2) := by decide +kernel
theorem dX9_init_48 : decode cX9_init 48 = .ok (.putfield 26, 3) := by decide +kernel
theorem dX9_init_51 : decode cX9_init 51 = .ok (.aload_n 0, 1) := by decide +kernel
theorem dX9_init_52 : decode cX9_init 52 = .ok (.iconst 2, 1) := by decide +kernel
theorem dX9_init_53 : decode cX9_init 53 = .ok (.newarray .int, 2) := by decide +kernel
theorem dX9_init_55 : decode cX9_init 55 = .ok (.putfield 29, 3) := by decide +kernel
theorem dX9_init_58 : decode cX9_init 58 = .ok (.aload_n 0, 1) := by decide +kernel
theorem dX9_init_59 : decode cX9_init 59 = .ok (.iconst 5, 1) := by decide +kernel
theorem dX9_init_60 : decode cX9_init 60 = .ok (.newarray .int, 2) := by decide +kernel
theorem dX9_init_62 : decode cX9_init 62 = .ok (.putfield 32, 3) := by decide +kernel
theorem dX9_init_65 : decode cX9_init 65 = .ok (.aload_n 0, 1) := by decide +kernel
theorem dX9_init_66 : decode cX9_init 66 = .ok (.iconst 5, 1) := by decide +kernel
theorem dX9_init_67 : decode cX9_init 67 = .ok (.newarray .int, 2) := by decide +kernel
theorem dX9_init_69 : decode cX9_init 69 = .ok (.putfield 35, 3) := by decide +kernel
theorem dX9_init_72 : decode cX9_init 72 = .ok (.aload_n 0, 1) := by decide +kernel
theorem dX9_init_73 : decode cX9_init 73 = .ok (.iconst 2, 1) := by decide +kernel
theorem dX9_init_74 : decode cX9_init 74 = .ok (.newarray .int, 2) := by decide +kernel
theorem dX9_init_76 : decode cX9_init 76 = .ok (.putfield 38, 3) := by decide +kernel
theorem dX9_init_79 : decode cX9_init 79 = .ok (.aload_n 0, 1) := by decide +kernel
theorem dX9_init_80 : decode cX9_init 80 = .ok (.iconst 2, 1) := by decide +kernel
theorem dX9_init_81 : decode cX9_init 81 = .ok (.newarray .int, 2) := by decide +kernel
theorem dX9_init_83 : decode cX9_init 83 = .ok (.putfield 41, 3) := by decide +kernel
theorem dX9_init_86 : decode cX9_init 86 = .ok (.aload_n 0, 1) := by decide +kernel
theorem dX9_init_87 : decode cX9_init 87 = .ok (.sipush 531, 3) := by decide +kernel
theorem dX9_init_90 : decode cX9_init 90 = .ok (.newarray .int, 2) := by decide +kernel
theorem dX9_init_92 : decode cX9_init 92 = .ok (.putfield 44, 3) := by decide +kernel
theorem dX9_init_95 : decode cX9_init 95 = .ok (.aload_n 0, 1) := by decide +kernel
theorem dX9_init_96 : decode cX9_init 96 = .ok (.iconst 2, 1) := by decide +kernel
theorem dX9_init_97 : decode cX9_init 97 = .ok (.newarray .boolean, 2) := by decide +kernel
theorem dX9_init_99 : decode cX9_init 99 = .ok (.putfield 47, 3) := by decide +kernel
theorem dX9_init_102 : decode cX9_init 102 = .ok (.aload_n 0, 1) := by decide +kernel
theorem dX9_init_103 : decode cX9_init 103 = .ok (.bipush 8, 2) := by decide +kernel
theorem dX9_init_105 : decode cX9_init 105 = .ok (.newarray .int, 2) := by decide +kernel
theorem dX9_init_107 : decode cX9_init 107 = .ok (.putfield 51, 3) := by decide +kernel
theorem dX9_init_110 : decode cX9_init 110 = .ok (.aload_n 0, 1) := by decide +kernel
theorem dX9_init_111 : decode cX9_init 111 = .ok (.iconst 5, 1) := by decide +kernel
theorem dX9_init_112 : decode cX9_init 112 = .ok (.newarray .int, 2) := by decide +kernel
theorem dX9_init_114 : decode cX9_init 114 = .ok (.putfield 54, 3) := by decide +kernel
theorem dX9_init_117 : decode cX9_init 117 = .ok (.aload_n 0, 1) := by decide +kernel
theorem dX9_init_118 : decode cX9_init 118 = .ok (.iconst 5, 1) := by decide +kernel
theorem dX9_init_119 : decode cX9_init 119 = .ok (.newarray .int, 2) := by decide +kernel
theorem dX9_init_121 : decode cX9_init 121 = .ok (.putfield 57, 3) := by decide +kernel
theorem dX9_init_124 : decode cX9_init 124 = .ok (.aload_n 0, 1) := by decide +kernel
theorem dX9_init_125 : decode cX9_init 125 = .ok (.bipush 6, 2) := by decide +kernel
theorem dX9_init_127 : decode cX9_init 127 = .ok (.newarray .int, 2) := by decide +kernel
theorem dX9_init_129 : decode cX9_init 129 = .ok (.putfield 60, 3) := by decide +kernel
theorem dX9_init_132 : decode cX9_init 132 = .ok (.aload_n 0, 1) := by decide +kernel
theorem dX9_init_133 : decode cX9_init 133 = .ok (.bipush 6, 2) := by decide +kernel
theorem dX9_init_135 : decode cX9_init 135 = .ok (.newarray .int, 2) := by decide +kernel
theorem dX9_init_137 : decode cX9_init 137 = .ok (.putfield 63, 3) := by decide +kernel
theorem dX9_init_140 : decode cX9_init 140 = .ok (.aload_n 0, 1) := by decide +kernel
theorem dX9_init_141 : decode cX9_init 141 = .ok (.invokevirtual 66, 3) := by decide +kernel
theorem dX9_init_144 : decode cX9_init 144 = .ok (.aload_n 0, 1) := by decide +kernel
theorem dX9_init_145 : decode cX9_init 145 = .ok (.invokevirtual 69, 3) := by decide +kernel
theorem dX9_init_148 : decode cX9_init 148 = .ok (.return_, 1) := by decide +kernel
theorem dX9_in_0 : decode cX9_in 0 = .ok (.iload_n 0, 1) := by decide +kernel
theorem dX9_in_1 : decode cX9_in 1 = .ok (.iload_n 1, 1) := by decide +kernel
theorem dX9_in_2 : decode cX9_in 2 = .ok (.if_icmp .lt 12, 3) := by decide +kernel
theorem dX9_in_5 : decode cX9_in 5 = .ok (.iload_n 0, 1) := by decide +kernel
theorem dX9_in_6 : decode cX9_in 6 = .ok (.iload_n 2, 1) := by decide +kernel
theorem dX9_in_7 : decode cX9_in 7 = .ok (.if_icmp .gt 7, 3) := by decide +kernel
theorem dX9_in_10 : decode cX9_in 10 = .ok (.iconst 1, 1) := by decide +kernel
theorem dX9_in_11 : decode cX9_in 11 = .ok (.goto 4, 3) := by decide +kernel
theorem dX9_in_14 : decode cX9_in 14 = .ok (.iconst 0, 1) := by decide +kernel
theorem dX9_in_15 : decode cX9_in 15 = .ok (.ireturn, 1) := by decide +kernel
theorem dX9_type_0 : decode cX9_type 0 = .ok (.iload_n 1, 1) := by decide +kernel
theorem dX9_type_1 : decode cX9_type 1 = .ok (.iconst 0, 1) := by decide +kernel
theorem dX9_type_2 : decode cX9_type 2 = .ok (.sipush 255, 3) := by decide +kernel
theorem dX9_type_5 : decode cX9_type 5 = .ok (.invokestatic 72, 3) := by decide +kernel
theorem dX9_type_8 : decode cX9_type 8 = .ok (.ifCond .ne 5, 3) := by decide +kernel
theorem dX9_type_11 : decode cX9_type 11 = .ok (.iconst (-1), 1) := by decide +kernel
theorem dX9_type_12 : decode cX9_type 12 = .ok (.ireturn, 1) := by decide +kernel
theorem dX9_type_13 : decode cX9_type 13 = .ok (.aload_n 0, 1) := by decide +kernel
theorem dX9_type_14 : decode cX9_type 14 = .ok (.getfield 76, 3) := by decide +kernel
theorem dX9_type_17 : decode cX9_type 17 = .ok (.sipush 150, 3) := by decide +kernel
theorem dX9_type_20 : decode cX9_type 20 = .ok (.if_icmp .ne 6, 3) := by decide +kernel
theorem dX9_type_23 : decode cX9_type 23 = .ok (.bipush (-3), 2) := by decide +kernel
theorem dX9_type_25 : decode cX9_type 25 = .ok (.ireturn, 1) := by decide +kernel
theorem dX9_type_26 : decode cX9_type 26 = .ok (.aload_n 0, 1) := by decide +kernel
theorem dX9_type_27 : decode cX9_type 27 = .ok (.getfield 7, 3) := by decide +kernel
theorem dX9_type_30 : decode cX9_type 30 = .ok (.aload_n 0, 1) := by decide +kernel
theorem dX9_type_31 : decode cX9_type 31 = .ok (.getfield 76, 3) := by decide +kernel
theorem dX9_type_34 : decode cX9_type 34 = .ok (.iload_n 1, 1) := by decide +kernel
theorem dX9_type_35 : decode cX9_type 35 = .ok (.i2b, 1) := by decide +kernel
theorem dX9_type_36 : decode cX9_type 36 = .ok (.bastore, 1) := by decide +kernel
theorem dX9_type_37 : decode cX9_type 37 = .ok (.aload_n 0, 1) := by decide +kernel
theorem dX9_type_38 : decode cX9_type 38 = .ok (.dup, 1) := by decide +kernel
theorem dX9_type_39 : decode cX9_type 39 = .ok (.getfield 76, 3) := by decide +kernel
theorem dX9_type_42 : decode cX9_type 42 = .ok (.iconst 1, 1) := by decide +kernel
theorem dX9_type_43 : decode cX9_type 43 = .ok (.iadd, 1) := by decide +kernel
theorem dX9_type_44 : decode cX9_type 44 = .ok (.putfield 76, 3) := by decide +kernel
theorem dX9_type_47 : decode cX9_type 47 = .ok (.aload_n 0, 1) := by decide +kernel
theorem dX9_type_48 : decode cX9_type 48 = .ok (.getfield 76, 3) := by decide +kernel
theorem dX9_type_51 : decode cX9_type 51 = .ok (.ireturn, 1) := by decide +kernel
theorem dX9_clear_0 : decode cX9_clear 0 = .ok (.aload_n 0, 1) := by decide +kernel
theorem dX9_clear_1 : decode cX9_clear 1 = .ok (.getfield 76, 3) := by decide +kernel
theorem dX9_clear_4 : decode cX9_clear 4 = .ok (.istore_n 1, 1) := by decide +kernel
theorem dX9_clear_5 : decode cX9_clear 5 = .ok (.aload_n 0, 1) := by decide +kernel
theorem dX9_clear_6 : decode cX9_clear 6 = .ok (.iconst 0, 1) := by decide +kernel
theorem dX9_clear_7 : decode cX9_clear 7 = .ok (.putfield 76, 3) := by decide +kernel
theorem dX9_clear_10 : decode cX9_clear 10 = .ok (.iload_n 1, 1) := by decide +kernel
theorem dX9_clear_11 : decode cX9_clear 11 = .ok (.ireturn, 1) := by decide +kernel
theorem dX9_here_0 : decode cX9_here 0 = .ok (.aload_n 0, 1) := by decide +kernel
theorem dX9_here_1 : decode cX9_here 1 = .ok (.getfield 80, 3) := by decide +kernel
theorem dX9_here_4 : decode cX9_here 4 = .ok (.aload_n 0, 1) := by decide +kernel
theorem dX9_here_5 : decode cX9_here 5 = .ok (.getfield 76, 3) := by decide +kernel
theorem dX9_here_8 : decode cX9_here 8 = .ok (.if_icmp .ge 19, 3) := by decide +kernel
theorem dX9_here_11 : decode cX9_here 11 = .ok (.aload_n 0, 1) := by decide +kernel
theorem dX9_here_12 : decode cX9_here 12 = .ok (.getfield 7, 3) := by decide +kernel
theorem dX9_here_15 : decode cX9_here 15 = .ok (.aload_n 0, 1) := by decide +kernel
theorem dX9_here_16 : decode cX9_here 16 = .ok (.getfield 80, 3) := by decide +kernel
theorem dX9_here_19 : decode cX9_here 19 = .ok (.baload, 1) := by decide +kernel
theorem dX9_here_20 : decode cX9_here 20 = .ok (.sipush 255, 3) := by decide +kernel
theorem dX9_here_23 : decode cX9_here 23 = .ok (.iand, 1) := by decide +kernel
theorem dX9_here_24 : decode cX9_here 24 = .ok (.goto 4, 3) := by decide +kernel
theorem dX9_here_27 : decode cX9_here 27 = .ok (.iconst (-1), 1) := by decide +kernel
theorem dX9_here_28 : decode cX9_here 28 = .ok (.ireturn, 1) := by decide +kernel
theorem dX9_step_0 : decode cX9_step 0 = .ok (.aload_n 0, 1) := by decide +kernel
theorem dX9_step_1 : decode cX9_step 1 = .ok (.invokevirtual 83, 3) := by decide +kernel
theorem dX9_step_4 : decode cX9_step 4 = .ok (.bipush 32, 2) := by decide +kernel
theorem dX9_step_6 : decode cX9_step 6 = .ok (.if_icmp .ne 16, 3) := by decide +kernel
theorem dX9_step_9 : decode cX9_step 9 = .ok (.aload_n 0, 1) := by decide +kernel
theorem dX9_step_10 : decode cX9_step 10 = .ok (.dup, 1) := by decide +kernel
theorem dX9_step_11 : decode cX9_step 11 = .ok (.getfield 80, 3) := by decide +kernel
theorem dX9_step_14 : decode cX9_step 14 = .ok (.iconst 1, 1) := by decide +kernel
theorem dX9_step_15 : decode cX9_step 15 = .ok (.iadd, 1) := by decide +kernel
theorem dX9_step_16 : decode cX9_step 16 = .ok (.putfield 80, 3) := by decide +kernel
theorem dX9_step_19 : decode cX9_step 19 = .ok (.goto (-19), 3) := by decide +kernel
theorem dX9_step_22 : decode cX9_step 22 = .ok (.aload_n 0, 1) := by decide +kernel
theorem dX9_step_23 : decode cX9_step 23 = .ok (.aload_n 0, 1) := by decide +kernel
theorem dX9_step_24 : decode cX9_step 24 = .ok (.getfield 80, 3) := by decide +kernel
theorem dX9_step_27 : decode cX9_step 27 = .ok (.putfield 87, 3) := by decide +kernel
theorem dX9_step_30 : decode cX9_step 30 = .ok (.aload_n 0, 1) := by decide +kernel
theorem dX9_step_31 : decode cX9_step 31 = .ok (.iconst 0, 1) := by decide +kernel
theorem dX9_step_32 : decode cX9_step 32 = .ok (.putfield 90, 3) := by decide +kernel
theorem dX9_step_35 : decode cX9_step 35 = .ok (.aload_n 0, 1) := by decide +kernel
theorem dX9_step_36 : decode cX9_step 36 = .ok (.invokevirtual 83, 3) := by decide +kernel
theorem dX9_step_39 : decode cX9_step 39 = .ok (.istore_n 1, 1) := by decide +kernel
theorem dX9_step_40 : decode cX9_step 40 = .ok (.iload_n 1, 1) := by decide +kernel
theorem dX9_step_41 : decode cX9_step 41 = .ok (.ifCond .ge 11, 3) := by decide +kernel
theorem dX9_step_44 : decode cX9_step 44 = .ok (.aload_n 0, 1) := by decide +kernel
theorem dX9_step_45 : decode cX9_step 45 = .ok (.iconst 3, 1) := by decide +kernel
theorem dX9_step_46 : decode cX9_step 46 = .ok (.putfield 93, 3) := by decide +kernel
theorem dX9_step_49 : decode cX9_step 49 = .ok (.goto 204, 3) := by decide +kernel
theorem dX9_step_52 : decode cX9_step 52 = .ok (.iload_n 1, 1) := by decide +kernel
theorem dX9_step_53 : decode cX9_step 53 = .ok (.bipush 97, 2) := by decide +kernel
theorem dX9_step_55 : decode cX9_step 55 = .ok (.bipush 122, 2) := by decide +kernel
theorem dX9_step_57 : decode cX9_step 57 = .ok (.invokestatic 72, 3) := by decide +kernel
theorem dX9_step_60 : decode cX9_step 60 = .ok (.ifCond .eq 55, 3) := by decide +kernel
theorem dX9_step_63 : decode cX9_step 63 = .ok (.aload_n 0, 1) := by decide +kernel
theorem dX9_step_64 : decode cX9_step 64 = .ok (.invokevirtual 83, 3) := by decide +kernel
theorem dX9_step_67 : decode cX9_step 67 = .ok (.bipush 97, 2) := by decide +kernel
theorem dX9_step_69 : decode cX9_step 69 = .ok (.bipush 122, 2) := by decide +kernel
theorem dX9_step_71 : decode cX9_step 71 = .ok (.invokestatic 72, 3) := by decide +kernel
theorem dX9_step_74 : decode cX9_step 74 = .ok (.ifCond .eq 16, 3) := by decide +kernel
theorem dX9_step_77 : decode cX9_step 77 = .ok (.aload_n 0, 1) := by decide +kernel
theorem dX9_step_78 : decode cX9_step 78 = .ok (.dup, 1) := by decide +kernel
theorem dX9_step_79 : decode cX9_step 79 = .ok (.getfield 80, 3) := by decide +kernel
theorem dX9_step_82 : decode cX9_step 82 = .ok (.iconst 1, 1) := by decide +kernel
theorem dX9_step_83 : decode cX9_step 83 = .ok (.iadd, 1) := by decide +kernel
theorem dX9_step_84 : decode cX9_step 84 = .ok (.putfield 80, 3) := by decide +kernel
theorem dX9_step_87 : decode cX9_step 87 = .ok (.goto (-24), 3) := by decide +kernel
theorem dX9_step_90 : decode cX9_step 90 = .ok (.aload_n 0, 1) := by decide +kernel
theorem dX9_step_91 : decode cX9_step 91 = .ok (.aload_n 0, 1) := by decide +kernel
theorem dX9_step_92 : decode cX9_step 92 = .ok (.getfield 80, 3) := by decide +kernel
theorem dX9_step_95 : decode cX9_step 95 = .ok (.aload_n 0, 1) := by decide +kernel
theorem dX9_step_96 : decode cX9_step 96 = .ok (.getfield 87, 3) := by decide +kernel
theorem dX9_step_99 : decode cX9_step 99 = .ok (.isub, 1) := by decide +kernel
theorem dX9_step_100 : decode cX9_step 100 = .ok (.iconst 1, 1) := by decide +kernel
theorem dX9_step_101 : decode cX9_step 101 = .ok (.if_icmp .ne 7, 3) := by decide +kernel
theorem dX9_step_104 : decode cX9_step 104 = .ok (.iload_n 1, 1) := by decide +kernel
theorem dX9_step_105 : decode cX9_step 105 = .ok (.goto 4, 3) := by decide +kernel
theorem dX9_step_108 : decode cX9_step 108 = .ok (.iconst 4, 1) := by decide +kernel
theorem dX9_step_109 : decode cX9_step 109 = .ok (.putfield 93, 3) := by decide +kernel
theorem dX9_step_112 : decode cX9_step 112 = .ok (.goto 141, 3) := by decide +kernel
theorem dX9_step_115 : decode cX9_step 115 = .ok (.iload_n 1, 1) := by decide +kernel
theorem dX9_step_116 : decode cX9_step 116 = .ok (.bipush 48, 2) := by decide +kernel
theorem dX9_step_118 : decode cX9_step 118 = .ok (.bipush 57, 2) := by decide +kernel
theorem dX9_step_120 : decode cX9_step 120 = .ok (.invokestatic 72, 3) := by decide +kernel
theorem dX9_step_123 : decode cX9_step 123 = .ok (.ifCond .eq 105, 3) := by decide +kernel
theorem dX9_step_126 : decode cX9_step 126 = .ok (.aload_n 0, 1) := by decide +kernel
theorem dX9_step_127 : decode cX9_step 127 = .ok (.invokevirtual 83, 3) := by decide +kernel
theorem dX9_step_130 : decode cX9_step 130 = .ok (.bipush 48, 2) := by decide +kernel
theorem dX9_step_132 : decode cX9_step 132 = .ok (.bipush 57, 2) := by decide +kernel
theorem dX9_step_134 : decode cX9_step 134 = .ok (.invokestatic 72, 3) := by decide +kernel
theorem dX9_step_137 : decode cX9_step 137 = .ok (.ifCond .eq 51, 3) := by decide +kernel
theorem dX9_step_140 : decode cX9_step 140 = .ok (.aload_n 0, 1) := by decide +kernel
theorem dX9_step_141 : decode cX9_step 141 = .ok (.aload_n 0, 1) := by decide +kernel
theorem dX9_step_142 : decode cX9_step 142 = .ok (.getfield 90, 3) := by decide +kernel
theorem dX9_step_145 : decode cX9_step 145 = .ok (.bipush 99, 2) := by decide +kernel
theorem dX9_step_147 : decode cX9_step 147 = .ok (.if_icmp .le 10, 3) := by decide +kernel
theorem dX9_step_150 : decode cX9_step 150 = .ok (.aload_n 0, 1) := by decide +kernel
theorem dX9_step_151 : decode cX9_step 151 = .ok (.getfield 90, 3) := by decide +kernel
theorem dX9_step_154 : decode cX9_step 154 = .ok (.goto 18, 3) := by decide +kernel
theorem dX9_step_157 : decode cX9_step 157 = .ok (.bipush 10, 2) := by decide +kernel
theorem dX9_step_159 : decode cX9_step 159 = .ok (.aload_n 0, 1) := by decide +kernel
theorem dX9_step_160 : decode cX9_step 160 = .ok (.getfield 90, 3) := by decide +kernel
theorem dX9_step_163 : decode cX9_step 163 = .ok (.imul, 1) := by decide +kernel
theorem dX9_step_164 : decode cX9_step 164 = .ok (.aload_n 0, 1) := by decide +kernel
theorem dX9_step_165 : decode cX9_step 165 = .ok (.invokevirtual 83, 3) := by decide +kernel
theorem dX9_step_168 : decode cX9_step 168 = .ok (.iadd, 1) := by decide +kernel
theorem dX9_step_169 : decode cX9_step 169 = .ok (.bipush 48, 2) := by decide +kernel
theorem dX9_step_171 : decode cX9_step 171 = .ok (.isub, 1) := by decide +kernel
theorem dX9_step_172 : decode cX9_step 172 = .ok (.putfield 90, 3) := by decide +kernel
theorem dX9_step_175 : decode cX9_step 175 = .ok (.aload_n 0, 1) := by decide +kernel
theorem dX9_step_176 : decode cX9_step 176 = .ok (.dup, 1) := by decide +kernel
theorem dX9_step_177 : decode cX9_step 177 = .ok (.getfield 80, 3) := by decide +kernel
theorem dX9_step_180 : decode cX9_step 180 = .ok (.iconst 1, 1) := by decide +kernel
theorem dX9_step_181 : decode cX9_step 181 = .ok (.iadd, 1) := by decide +kernel
theorem dX9_step_182 : decode cX9_step 182 = .ok (.putfield 80, 3) := by decide +kernel
theorem dX9_step_185 : decode cX9_step 185 = .ok (.goto (-59), 3) := by decide +kernel
theorem dX9_step_188 : decode cX9_step 188 = .ok (.aload_n 0, 1) := by decide +kernel
theorem dX9_step_189 : decode cX9_step 189 = .ok (.aload_n 0, 1) := by decide +kernel
theorem dX9_step_190 : decode cX9_step 190 = .ok (.getfield 90, 3) := by decide +kernel
theorem dX9_step_193 : decode cX9_step 193 = .ok (.bipush 99, 2) := by decide +kernel
theorem dX9_step_195 : decode cX9_step 195 = .ok (.if_icmp .gt 22, 3) := by decide +kernel
theorem dX9_step_198 : decode cX9_step 198 = .ok (.iload_n 1, 1) := by decide +kernel
theorem dX9_step_199 : decode cX9_step 199 = .ok (.bipush 48, 2) := by decide +kernel
theorem dX9_step_201 : decode cX9_step 201 = .ok (.if_icmp .ne 20, 3) := by decide +kernel
theorem dX9_step_204 : decode cX9_step 204 = .ok (.aload_n 0, 1) := by decide +kernel
theorem dX9_step_205 : decode cX9_step 205 = .ok (.getfield 80, 3) := by decide +kernel
theorem dX9_step_208 : decode cX9_step 208 = .ok (.aload_n 0, 1) := by decide +kernel
theorem dX9_step_209 : decode cX9_step 209 = .ok (.getfield 87, 3) := by decide +kernel
theorem dX9_step_212 : decode cX9_step 212 = .ok (.isub, 1) := by decide +kernel
theorem dX9_step_213 : decode cX9_step 213 = .ok (.iconst 1, 1) := by decide +kernel
theorem dX9_step_214 : decode cX9_step 214 = .ok (.if_icmp .le 7, 3) := by decide +kernel
theorem dX9_step_217 : decode cX9_step 217 = .ok (.iconst 4, 1) := by decide +kernel
theorem dX9_step_218 : decode cX9_step 218 = .ok (.goto 4, 3) := by decide +kernel
theorem dX9_step_221 : decode cX9_step 221 = .ok (.iconst 1, 1) := by decide +kernel
theorem dX9_step_222 : decode cX9_step 222 = .ok (.putfield 93, 3) := by decide +kernel
theorem dX9_step_225 : decode cX9_step 225 = .ok (.goto 28, 3) := by decide +kernel
theorem dX9_step_228 : decode cX9_step 228 = .ok (.aload_n 0, 1) := by decide +kernel
theorem dX9_step_229 : decode cX9_step 229 = .ok (.dup, 1) := by decide +kernel
theorem dX9_step_230 : decode cX9_step 230 = .ok (.getfield 80, 3) := by decide +kernel
theorem dX9_step_233 : decode cX9_step 233 = .ok (.iconst 1, 1) := by decide +kernel
theorem dX9_step_234 : decode cX9_step 234 = .ok (.iadd, 1) := by decide +kernel
theorem dX9_step_235 : decode cX9_step 235 = .ok (.putfield 80, 3) := by decide +kernel
theorem dX9_step_238 : decode cX9_step 238 = .ok (.aload_n 0, 1) := by decide +kernel
theorem dX9_step_239 : decode cX9_step 239 = .ok (.iload_n 1, 1) := by decide +kernel
theorem dX9_step_240 : decode cX9_step 240 = .ok (.bipush 59, 2) := by decide +kernel
theorem dX9_step_242 : decode cX9_step 242 = .ok (.if_icmp .ne 7, 3) := by decide +kernel
theorem dX9_step_245 : decode cX9_step 245 = .ok (.iconst 2, 1) := by decide +kernel
theorem dX9_step_246 : decode cX9_step 246 = .ok (.goto 4, 3) := by decide +kernel
theorem dX9_step_249 : decode cX9_step 249 = .ok (.iconst 4, 1) := by decide +kernel
theorem dX9_step_250 : decode cX9_step 250 = .ok (.putfield 93, 3) := by decide +kernel
theorem dX9_step_253 : decode cX9_step 253 = .ok (.return_, 1) := by decide +kernel
theorem dX9_due_0 : decode cX9_due 0 = .ok (.aload_n 0, 1) := by decide +kernel
theorem dX9_due_1 : decode cX9_due 1 = .ok (.getfield 90, 3) := by decide +kernel
theorem dX9_due_4 : decode cX9_due 4 = .ok (.istore_n 2, 1) := by decide +kernel
theorem dX9_due_5 : decode cX9_due 5 = .ok (.aload_n 0, 1) := by decide +kernel
theorem dX9_due_6 : decode cX9_due 6 = .ok (.getfield 96, 3) := by decide +kernel
theorem dX9_due_9 : decode cX9_due 9 = .ok (.bipush (-9), 2) := by decide +kernel
theorem dX9_due_11 : decode cX9_due 11 = .ok (.if_icmp .ne 22, 3) := by decide +kernel
theorem dX9_due_14 : decode cX9_due 14 = .ok (.iload_n 1, 1) := by decide +kernel
theorem dX9_due_15 : decode cX9_due 15 = .ok (.ifCond .eq 10, 3) := by decide +kernel
theorem dX9_due_18 : decode cX9_due 18 = .ok (.aload_n 0, 1) := by decide +kernel
theorem dX9_due_19 : decode cX9_due 19 = .ok (.invokevirtual 99, 3) := by decide +kernel
theorem dX9_due_22 : decode cX9_due 22 = .ok (.goto 11, 3) := by decide +kernel
theorem dX9_due_25 : decode cX9_due 25 = .ok (.aload_n 0, 1) := by decide +kernel
theorem dX9_due_26 : decode cX9_due 26 = .ok (.aload_n 0, 1) := by decide +kernel
theorem dX9_due_27 : decode cX9_due 27 = .ok (.getfield 87, 3) := by decide +kernel
theorem dX9_due_30 : decode cX9_due 30 = .ok (.putfield 96, 3) := by decide +kernel
theorem dX9_due_33 : decode cX9_due 33 = .ok (.iload_n 2, 1) := by decide +kernel
theorem dX9_due_34 : decode cX9_due 34 = .ok (.ireturn, 1) := by decide +kernel
theorem dX9_number_0 : decode cX9_number 0 = .ok (.aload_n 0, 1) := by decide +kernel
theorem dX9_number_1 : decode cX9_number 1 = .ok (.aload_n 0, 1) := by decide +kernel
theorem dX9_number_2 : decode cX9_number 2 = .ok (.getfield 93, 3) := by decide +kernel
theorem dX9_number_5 : decode cX9_number 5 = .ok (.iconst 1, 1) := by decide +kernel
theorem dX9_number_6 : decode cX9_number 6 = .ok (.if_icmp .ne 19, 3) := by decide +kernel
theorem dX9_number_9 : decode cX9_number 9 = .ok (.aload_n 0, 1) := by decide +kernel
theorem dX9_number_10 : decode cX9_number 10 = .ok (.getfield 90, 3) := by decide +kernel
theorem dX9_number_13 : decode cX9_number 13 = .ok (.iload_n 1, 1) := by decide +kernel
theorem dX9_number_14 : decode cX9_number 14 = .ok (.iload_n 2, 1) := by decide +kernel
theorem dX9_number_15 : decode cX9_number 15 = .ok (.invokestatic 72, 3) := by decide +kernel
theorem dX9_number_18 : decode cX9_number 18 = .ok (.ifCond .eq 7, 3) := by decide +kernel
theorem dX9_number_21 : decode cX9_number 21 = .ok (.iconst 1, 1) := by decide +kernel
theorem dX9_number_22 : decode cX9_number 22 = .ok (.goto 4, 3) := by decide +kernel
theorem dX9_number_25 : decode cX9_number 25 = .ok (.iconst 0, 1) := by decide +kernel
theorem dX9_number_26 : decode cX9_number 26 = .ok (.invokevirtual 102, 3) := by decide +kernel
theorem dX9_number_29 : decode cX9_number 29 = .ok (.ireturn, 1) := by decide +kernel
theorem dX9_mayBe_0 : decode cX9_mayBe 0 = .ok (.iload_n 1, 1) := by decide +kernel
theorem dX9_mayBe_1 : decode cX9_mayBe 1 = .ok (.tableswitch 148 98 112 #[118, 148, 148, 133, 148, 148, 148, 148, 148, 148, 85, 148, 75, 148, 102], 75) := by decide +kernel
theorem dX9_mayBe_76 : decode cX9_mayBe 76 = .ok (.iload_n 2, 1) := by decide +kernel
theorem dX9_mayBe_77 : decode cX9_mayBe 77 = .ok (.ifCond .ne 7, 3) := by decide +kernel
theorem dX9_mayBe_80 : decode cX9_mayBe 80 = .ok (.iconst 1, 1) := by decide +kernel
theorem dX9_mayBe_81 : decode cX9_mayBe 81 = .ok (.goto 4, 3) := by decide +kernel
theorem dX9_mayBe_84 : decode cX9_mayBe 84 = .ok (.iconst 0, 1) := by decide +kernel
theorem dX9_mayBe_85 : decode cX9_mayBe 85 = .ok (.ireturn, 1) := by decide +kernel
theorem dX9_mayBe_86 : decode cX9_mayBe 86 = .ok (.aload_n 0, 1) := by decide +kernel
theorem dX9_mayBe_87 : decode cX9_mayBe 87 = .ok (.getfield 17, 3) := by decide +kernel
theorem dX9_mayBe_90 : decode cX9_mayBe 90 = .ok (.iconst 1, 1) := by decide +kernel
theorem dX9_mayBe_91 : decode cX9_mayBe 91 = .ok (.iaload, 1) := by decide +kernel
theorem dX9_mayBe_92 : decode cX9_mayBe 92 = .ok (.bipush 8, 2) := by decide +kernel
theorem dX9_mayBe_94 : decode cX9_mayBe 94 = .ok (.if_icmp .ge 7, 3) := by decide +kernel
theorem dX9_mayBe_97 : decode cX9_mayBe 97 = .ok (.iconst 1, 1) := by decide +kernel
theorem dX9_mayBe_98 : decode cX9_mayBe 98 = .ok (.goto 4, 3) := by decide +kernel
theorem dX9_mayBe_101 : decode cX9_mayBe 101 = .ok (.iconst 0, 1) := by decide +kernel
theorem dX9_mayBe_102 : decode cX9_mayBe 102 = .ok (.ireturn, 1) := by decide +kernel
theorem dX9_mayBe_103 : decode cX9_mayBe 103 = .ok (.aload_n 0, 1) := by decide +kernel
theorem dX9_mayBe_104 : decode cX9_mayBe 104 = .ok (.getfield 29, 3) := by decide +kernel
theorem dX9_mayBe_107 : decode cX9_mayBe 107 = .ok (.iconst 1, 1) := by decide +kernel
theorem dX9_mayBe_108 : decode cX9_mayBe 108 = .ok (.iaload, 1) := by decide +kernel
theorem dX9_mayBe_109 : decode cX9_mayBe 109 = .ok (.iconst 5, 1) := by decide +kernel
theorem dX9_mayBe_110 : decode cX9_mayBe 110 = .ok (.if_icmp .ge 7, 3) := by decide +kernel
theorem dX9_mayBe_113 : decode cX9_mayBe 113 = .ok (.iconst 1, 1) := by decide +kernel
theorem dX9_mayBe_114 : decode cX9_mayBe 114 = .ok (.goto 4, 3) := by decide +kernel
theorem dX9_mayBe_117 : decode cX9_mayBe 117 = .ok (.iconst 0, 1) := by decide +kernel
theorem dX9_mayBe_118 : decode cX9_mayBe 118 = .ok (.ireturn, 1) := by decide +kernel
theorem dX9_mayBe_119 : decode cX9_mayBe 119 = .ok (.aload_n 0, 1) := by decide +kernel
theorem dX9_mayBe_120 : decode cX9_mayBe 120 = .ok (.getfield 106, 3) := by decide +kernel
theorem dX9_mayBe_123 : decode cX9_mayBe 123 = .ok (.iconst 1, 1) := by decide +kernel
theorem dX9_mayBe_124 : decode cX9_mayBe 124 = .ok (.iand, 1) := by decide +kernel
theorem dX9_mayBe_125 : decode cX9_mayBe 125 = .ok (.ifCond .ne 7, 3) := by decide +kernel
theorem dX9_mayBe_128 : decode cX9_mayBe 128 = .ok (.iconst 1, 1) := by decide +kernel
theorem dX9_mayBe_129 : decode cX9_mayBe 129 = .ok (.goto 4, 3) := by decide +kernel
theorem dX9_mayBe_132 : decode cX9_mayBe 132 = .ok (.iconst 0, 1) := by decide +kernel
theorem dX9_mayBe_133 : decode cX9_mayBe 133 = .ok (.ireturn, 1) := by decide +kernel
theorem dX9_mayBe_134 : decode cX9_mayBe 134 = .ok (.aload_n 0, 1) := by decide +kernel
theorem dX9_mayBe_135 : decode cX9_mayBe 135 = .ok (.getfield 106, 3) := by decide +kernel
theorem dX9_mayBe_138 : decode cX9_mayBe 138 = .ok (.iconst 2, 1) := by decide +kernel
theorem dX9_mayBe_139 : decode cX9_mayBe 139 = .ok (.iand, 1) := by decide +kernel
theorem dX9_mayBe_140 : decode cX9_mayBe 140 = .ok (.ifCond .ne 7, 3) := by decide +kernel
theorem dX9_mayBe_143 : decode cX9_mayBe 143 = .ok (.iconst 1, 1) := by decide +kernel
theorem dX9_mayBe_144 : decode cX9_mayBe 144 = .ok (.goto 4, 3) := by decide +kernel
theorem dX9_mayBe_147 : decode cX9_mayBe 147 = .ok (.iconst 0, 1) := by decide +kernel
theorem dX9_mayBe_148 : decode cX9_mayBe 148 = .ok (.ireturn, 1) := by decide +kernel
theorem dX9_mayBe_149 : decode cX9_mayBe 149 = .ok (.iconst 0, 1) := by decide +kernel
theorem dX9_mayBe_150 : decode cX9_mayBe 150 = .ok (.ireturn, 1) := by decide +kernel
theorem dX9_readRow_0 : decode cX9_readRow 0 = .ok (.iload_n 1, 1) := by decide +kernel
theorem dX9_readRow_1 : decode cX9_readRow 1 = .ok (.lookupswitch 244 #[(98, 218), (108, 59), (110, 43), (112, 163)], 43) := by decide +kernel
theorem dX9_readRow_44 : decode cX9_readRow 44 = .ok (.aload_n 0, 1) := by decide +kernel
theorem dX9_readRow_45 : decode cX9_readRow 45 = .ok (.getfield 13, 3) := by decide +kernel
theorem dX9_readRow_48 : decode cX9_readRow 48 = .ok (.iconst 1, 1) := by decide +kernel
theorem dX9_readRow_49 : decode cX9_readRow 49 = .ok (.aload_n 0, 1) := by decide +kernel
theorem dX9_readRow_50 : decode cX9_readRow 50 = .ok (.iconst 2, 1) := by decide +kernel
theorem dX9_readRow_51 : decode cX9_readRow 51 = .ok (.bipush 8, 2) := by decide +kernel
theorem dX9_readRow_53 : decode cX9_readRow 53 = .ok (.invokevirtual 109, 3) := by decide +kernel
theorem dX9_readRow_56 : decode cX9_readRow 56 = .ok (.iastore, 1) := by decide +kernel
theorem dX9_readRow_57 : decode cX9_readRow 57 = .ok (.goto 210, 3) := by decide +kernel
theorem dX9_readRow_60 : decode cX9_readRow 60 = .ok (.bipush 8, 2) := by decide +kernel
theorem dX9_readRow_62 : decode cX9_readRow 62 = .ok (.aload_n 0, 1) := by decide +kernel
theorem dX9_readRow_63 : decode cX9_readRow 63 = .ok (.getfield 17, 3) := by decide +kernel
theorem dX9_readRow_66 : decode cX9_readRow 66 = .ok (.iconst 1, 1) := by decide +kernel
theorem dX9_readRow_67 : decode cX9_readRow 67 = .ok (.iaload, 1) := by decide +kernel
theorem dX9_readRow_68 : decode cX9_readRow 68 = .ok (.iadd, 1) := by decide +kernel
theorem dX9_readRow_69 : decode cX9_readRow 69 = .ok (.istore_n 2, 1) := by decide +kernel
theorem dX9_readRow_70 : decode cX9_readRow 70 = .ok (.aload_n 0, 1) := by decide +kernel
theorem dX9_readRow_71 : decode cX9_readRow 71 = .ok (.getfield 20, 3) := by decide +kernel
theorem dX9_readRow_74 : decode cX9_readRow 74 = .ok (.iload_n 2, 1) := by decide +kernel
theorem dX9_readRow_75 : decode cX9_readRow 75 = .ok (.aload_n 0, 1) := by decide +kernel
theorem dX9_readRow_76 : decode cX9_readRow 76 = .ok (.iconst 0, 1) := by decide +kernel
theorem dX9_readRow_77 : decode cX9_readRow 77 = .ok (.aload_n 0, 1) := by decide +kernel
theorem dX9_readRow_78 : decode cX9_readRow 78 = .ok (.getfield 13, 3) := by decide +kernel
theorem dX9_readRow_81 : decode cX9_readRow 81 = .ok (.iconst 1, 1) := by decide +kernel
end
section
theorem dX9_readRow_82 : decode cX9_readRow 82 = .ok (.iaload, 1) := by decide +kernel
theorem dX9_readRow_83 : decode cX9_readRow 83 = .ok (.iconst 1, 1) := by decide +kernel
theorem dX9_readRow_84 : decode cX9_readRow 84 = .ok (.isub, 1) := by decide +kernel
theorem dX9_readRow_85 : decode cX9_readRow 85 = .ok (.invokevirtual 109, 3) := by decide +kernel
theorem dX9_readRow_88 : decode cX9_readRow 88 = .ok (.iastore, 1) := by decide +kernel
theorem dX9_readRow_89 : decode cX9_readRow 89 = .ok (.aload_n 0, 1) := by decide +kernel
theorem dX9_readRow_90 : decode cX9_readRow 90 = .ok (.getfield 23, 3) := by decide +kernel
theorem dX9_readRow_93 : decode cX9_readRow 93 = .ok (.iload_n 2, 1) := by decide +kernel
theorem dX9_readRow_94 : decode cX9_readRow 94 = .ok (.aload_n 0, 1) := by decide +kernel
theorem dX9_readRow_95 : decode cX9_readRow 95 = .ok (.aload_n 0, 1) := by decide +kernel
theorem dX9_readRow_96 : decode cX9_readRow 96 = .ok (.getfield 93, 3) := by decide +kernel
theorem dX9_readRow_99 : decode cX9_readRow 99 = .ok (.iconst 1, 1) := by decide +kernel
theorem dX9_readRow_100 : decode cX9_readRow 100 = .ok (.if_icmp .ne 33, 3) := by decide +kernel
theorem dX9_readRow_103 : decode cX9_readRow 103 = .ok (.aload_n 0, 1) := by decide +kernel
theorem dX9_readRow_104 : decode cX9_readRow 104 = .ok (.getfield 90, 3) := by decide +kernel
theorem dX9_readRow_107 : decode cX9_readRow 107 = .ok (.aload_n 0, 1) := by decide +kernel
theorem dX9_readRow_108 : decode cX9_readRow 108 = .ok (.getfield 13, 3) := by decide +kernel
theorem dX9_readRow_111 : decode cX9_readRow 111 = .ok (.iconst 1, 1) := by decide +kernel
theorem dX9_readRow_112 : decode cX9_readRow 112 = .ok (.iaload, 1) := by decide +kernel
theorem dX9_readRow_113 : decode cX9_readRow 113 = .ok (.if_icmp .ge 20, 3) := by decide +kernel
theorem dX9_readRow_116 : decode cX9_readRow 116 = .ok (.aload_n 0, 1) := by decide +kernel
theorem dX9_readRow_117 : decode cX9_readRow 117 = .ok (.getfield 90, 3) := by decide +kernel
theorem dX9_readRow_120 : decode cX9_readRow 120 = .ok (.aload_n 0, 1) := by decide +kernel
theorem dX9_readRow_121 : decode cX9_readRow 121 = .ok (.getfield 20, 3) := by decide +kernel
theorem dX9_readRow_124 : decode cX9_readRow 124 = .ok (.iload_n 2, 1) := by decide +kernel
theorem dX9_readRow_125 : decode cX9_readRow 125 = .ok (.iaload, 1) := by decide +kernel
theorem dX9_readRow_126 : decode cX9_readRow 126 = .ok (.if_icmp .eq 7, 3) := by decide +kernel
theorem dX9_readRow_129 : decode cX9_readRow 129 = .ok (.iconst 1, 1) := by decide +kernel
theorem dX9_readRow_130 : decode cX9_readRow 130 = .ok (.goto 4, 3) := by decide +kernel
theorem dX9_readRow_133 : decode cX9_readRow 133 = .ok (.iconst 0, 1) := by decide +kernel
theorem dX9_readRow_134 : decode cX9_readRow 134 = .ok (.invokevirtual 102, 3) := by decide +kernel
theorem dX9_readRow_137 : decode cX9_readRow 137 = .ok (.iastore, 1) := by decide +kernel
theorem dX9_readRow_138 : decode cX9_readRow 138 = .ok (.aload_n 0, 1) := by decide +kernel
theorem dX9_readRow_139 : decode cX9_readRow 139 = .ok (.getfield 26, 3) := by decide +kernel
theorem dX9_readRow_142 : decode cX9_readRow 142 = .ok (.iload_n 2, 1) := by decide +kernel
theorem dX9_readRow_143 : decode cX9_readRow 143 = .ok (.aload_n 0, 1) := by decide +kernel
theorem dX9_readRow_144 : decode cX9_readRow 144 = .ok (.iconst 1, 1) := by decide +kernel
theorem dX9_readRow_145 : decode cX9_readRow 145 = .ok (.bipush 40, 2) := by decide +kernel
theorem dX9_readRow_147 : decode cX9_readRow 147 = .ok (.invokevirtual 109, 3) := by decide +kernel
theorem dX9_readRow_150 : decode cX9_readRow 150 = .ok (.iastore, 1) := by decide +kernel
theorem dX9_readRow_151 : decode cX9_readRow 151 = .ok (.aload_n 0, 1) := by decide +kernel
theorem dX9_readRow_152 : decode cX9_readRow 152 = .ok (.getfield 17, 3) := by decide +kernel
theorem dX9_readRow_155 : decode cX9_readRow 155 = .ok (.iconst 1, 1) := by decide +kernel
theorem dX9_readRow_156 : decode cX9_readRow 156 = .ok (.dup2, 1) := by decide +kernel
theorem dX9_readRow_157 : decode cX9_readRow 157 = .ok (.iaload, 1) := by decide +kernel
theorem dX9_readRow_158 : decode cX9_readRow 158 = .ok (.iconst 1, 1) := by decide +kernel
theorem dX9_readRow_159 : decode cX9_readRow 159 = .ok (.iadd, 1) := by decide +kernel
theorem dX9_readRow_160 : decode cX9_readRow 160 = .ok (.iastore, 1) := by decide +kernel
theorem dX9_readRow_161 : decode cX9_readRow 161 = .ok (.goto 106, 3) := by decide +kernel
theorem dX9_readRow_164 : decode cX9_readRow 164 = .ok (.aload_n 0, 1) := by decide +kernel
theorem dX9_readRow_165 : decode cX9_readRow 165 = .ok (.getfield 32, 3) := by decide +kernel
theorem dX9_readRow_168 : decode cX9_readRow 168 = .ok (.aload_n 0, 1) := by decide +kernel
theorem dX9_readRow_169 : decode cX9_readRow 169 = .ok (.getfield 29, 3) := by decide +kernel
theorem dX9_readRow_172 : decode cX9_readRow 172 = .ok (.iconst 1, 1) := by decide +kernel
theorem dX9_readRow_173 : decode cX9_readRow 173 = .ok (.iaload, 1) := by decide +kernel
theorem dX9_readRow_174 : decode cX9_readRow 174 = .ok (.aload_n 0, 1) := by decide +kernel
theorem dX9_readRow_175 : decode cX9_readRow 175 = .ok (.iconst 0, 1) := by decide +kernel
theorem dX9_readRow_176 : decode cX9_readRow 176 = .ok (.bipush 9, 2) := by decide +kernel
theorem dX9_readRow_178 : decode cX9_readRow 178 = .ok (.invokevirtual 109, 3) := by decide +kernel
theorem dX9_readRow_181 : decode cX9_readRow 181 = .ok (.iastore, 1) := by decide +kernel
theorem dX9_readRow_182 : decode cX9_readRow 182 = .ok (.aload_n 0, 1) := by decide +kernel
theorem dX9_readRow_183 : decode cX9_readRow 183 = .ok (.getfield 35, 3) := by decide +kernel
theorem dX9_readRow_186 : decode cX9_readRow 186 = .ok (.aload_n 0, 1) := by decide +kernel
theorem dX9_readRow_187 : decode cX9_readRow 187 = .ok (.getfield 29, 3) := by decide +kernel
theorem dX9_readRow_190 : decode cX9_readRow 190 = .ok (.iconst 1, 1) := by decide +kernel
theorem dX9_readRow_191 : decode cX9_readRow 191 = .ok (.iaload, 1) := by decide +kernel
theorem dX9_readRow_192 : decode cX9_readRow 192 = .ok (.aload_n 0, 1) := by decide +kernel
theorem dX9_readRow_193 : decode cX9_readRow 193 = .ok (.iconst 0, 1) := by decide +kernel
theorem dX9_readRow_194 : decode cX9_readRow 194 = .ok (.aload_n 0, 1) := by decide +kernel
theorem dX9_readRow_195 : decode cX9_readRow 195 = .ok (.getfield 13, 3) := by decide +kernel
theorem dX9_readRow_198 : decode cX9_readRow 198 = .ok (.iconst 1, 1) := by decide +kernel
theorem dX9_readRow_199 : decode cX9_readRow 199 = .ok (.iaload, 1) := by decide +kernel
theorem dX9_readRow_200 : decode cX9_readRow 200 = .ok (.iconst 1, 1) := by decide +kernel
theorem dX9_readRow_201 : decode cX9_readRow 201 = .ok (.isub, 1) := by decide +kernel
theorem dX9_readRow_202 : decode cX9_readRow 202 = .ok (.invokevirtual 109, 3) := by decide +kernel
theorem dX9_readRow_205 : decode cX9_readRow 205 = .ok (.iastore, 1) := by decide +kernel
theorem dX9_readRow_206 : decode cX9_readRow 206 = .ok (.aload_n 0, 1) := by decide +kernel
theorem dX9_readRow_207 : decode cX9_readRow 207 = .ok (.getfield 29, 3) := by decide +kernel
theorem dX9_readRow_210 : decode cX9_readRow 210 = .ok (.iconst 1, 1) := by decide +kernel
theorem dX9_readRow_211 : decode cX9_readRow 211 = .ok (.dup2, 1) := by decide +kernel
theorem dX9_readRow_212 : decode cX9_readRow 212 = .ok (.iaload, 1) := by decide +kernel
theorem dX9_readRow_213 : decode cX9_readRow 213 = .ok (.iconst 1, 1) := by decide +kernel
theorem dX9_readRow_214 : decode cX9_readRow 214 = .ok (.iadd, 1) := by decide +kernel
theorem dX9_readRow_215 : decode cX9_readRow 215 = .ok (.iastore, 1) := by decide +kernel
theorem dX9_readRow_216 : decode cX9_readRow 216 = .ok (.goto 51, 3) := by decide +kernel
theorem dX9_readRow_219 : decode cX9_readRow 219 = .ok (.aload_n 0, 1) := by decide +kernel
theorem dX9_readRow_220 : decode cX9_readRow 220 = .ok (.getfield 38, 3) := by decide +kernel
theorem dX9_readRow_223 : decode cX9_readRow 223 = .ok (.iconst 1, 1) := by decide +kernel
theorem dX9_readRow_224 : decode cX9_readRow 224 = .ok (.aload_n 0, 1) := by decide +kernel
theorem dX9_readRow_225 : decode cX9_readRow 225 = .ok (.iconst 1, 1) := by decide +kernel
theorem dX9_readRow_226 : decode cX9_readRow 226 = .ok (.bipush 9, 2) := by decide +kernel
theorem dX9_readRow_228 : decode cX9_readRow 228 = .ok (.invokevirtual 109, 3) := by decide +kernel
theorem dX9_readRow_231 : decode cX9_readRow 231 = .ok (.iastore, 1) := by decide +kernel
theorem dX9_readRow_232 : decode cX9_readRow 232 = .ok (.aload_n 0, 1) := by decide +kernel
theorem dX9_readRow_233 : decode cX9_readRow 233 = .ok (.dup, 1) := by decide +kernel
theorem dX9_readRow_234 : decode cX9_readRow 234 = .ok (.getfield 106, 3) := by decide +kernel
theorem dX9_readRow_237 : decode cX9_readRow 237 = .ok (.iconst 1, 1) := by decide +kernel
theorem dX9_readRow_238 : decode cX9_readRow 238 = .ok (.ior, 1) := by decide +kernel
theorem dX9_readRow_239 : decode cX9_readRow 239 = .ok (.putfield 106, 3) := by decide +kernel
theorem dX9_readRow_242 : decode cX9_readRow 242 = .ok (.goto 25, 3) := by decide +kernel
theorem dX9_readRow_245 : decode cX9_readRow 245 = .ok (.aload_n 0, 1) := by decide +kernel
theorem dX9_readRow_246 : decode cX9_readRow 246 = .ok (.getfield 41, 3) := by decide +kernel
theorem dX9_readRow_249 : decode cX9_readRow 249 = .ok (.iconst 1, 1) := by decide +kernel
theorem dX9_readRow_250 : decode cX9_readRow 250 = .ok (.aload_n 0, 1) := by decide +kernel
theorem dX9_readRow_251 : decode cX9_readRow 251 = .ok (.iconst 0, 1) := by decide +kernel
theorem dX9_readRow_252 : decode cX9_readRow 252 = .ok (.iconst 3, 1) := by decide +kernel
theorem dX9_readRow_253 : decode cX9_readRow 253 = .ok (.invokevirtual 109, 3) := by decide +kernel
theorem dX9_readRow_256 : decode cX9_readRow 256 = .ok (.iastore, 1) := by decide +kernel
theorem dX9_readRow_257 : decode cX9_readRow 257 = .ok (.aload_n 0, 1) := by decide +kernel
theorem dX9_readRow_258 : decode cX9_readRow 258 = .ok (.dup, 1) := by decide +kernel
theorem dX9_readRow_259 : decode cX9_readRow 259 = .ok (.getfield 106, 3) := by decide +kernel
theorem dX9_readRow_262 : decode cX9_readRow 262 = .ok (.iconst 2, 1) := by decide +kernel
theorem dX9_readRow_263 : decode cX9_readRow 263 = .ok (.ior, 1) := by decide +kernel
theorem dX9_readRow_264 : decode cX9_readRow 264 = .ok (.putfield 106, 3) := by decide +kernel
theorem dX9_readRow_267 : decode cX9_readRow 267 = .ok (.return_, 1) := by decide +kernel
theorem dX9_plain_0 : decode cX9_plain 0 = .ok (.aload_n 0, 1) := by decide +kernel
theorem dX9_plain_1 : decode cX9_plain 1 = .ok (.getfield 13, 3) := by decide +kernel
theorem dX9_plain_4 : decode cX9_plain 4 = .ok (.iconst 1, 1) := by decide +kernel
theorem dX9_plain_5 : decode cX9_plain 5 = .ok (.iconst 2, 1) := by decide +kernel
theorem dX9_plain_6 : decode cX9_plain 6 = .ok (.iastore, 1) := by decide +kernel
theorem dX9_plain_7 : decode cX9_plain 7 = .ok (.aload_n 0, 1) := by decide +kernel
theorem dX9_plain_8 : decode cX9_plain 8 = .ok (.getfield 17, 3) := by decide +kernel
theorem dX9_plain_11 : decode cX9_plain 11 = .ok (.iconst 1, 1) := by decide +kernel
theorem dX9_plain_12 : decode cX9_plain 12 = .ok (.iconst 0, 1) := by decide +kernel
theorem dX9_plain_13 : decode cX9_plain 13 = .ok (.iastore, 1) := by decide +kernel
theorem dX9_plain_14 : decode cX9_plain 14 = .ok (.aload_n 0, 1) := by decide +kernel
theorem dX9_plain_15 : decode cX9_plain 15 = .ok (.getfield 29, 3) := by decide +kernel
theorem dX9_plain_18 : decode cX9_plain 18 = .ok (.iconst 1, 1) := by decide +kernel
theorem dX9_plain_19 : decode cX9_plain 19 = .ok (.iconst 0, 1) := by decide +kernel
theorem dX9_plain_20 : decode cX9_plain 20 = .ok (.iastore, 1) := by decide +kernel
theorem dX9_plain_21 : decode cX9_plain 21 = .ok (.aload_n 0, 1) := by decide +kernel
theorem dX9_plain_22 : decode cX9_plain 22 = .ok (.getfield 38, 3) := by decide +kernel
theorem dX9_plain_25 : decode cX9_plain 25 = .ok (.iconst 1, 1) := by decide +kernel
theorem dX9_plain_26 : decode cX9_plain 26 = .ok (.iconst 4, 1) := by decide +kernel
theorem dX9_plain_27 : decode cX9_plain 27 = .ok (.iastore, 1) := by decide +kernel
theorem dX9_plain_28 : decode cX9_plain 28 = .ok (.aload_n 0, 1) := by decide +kernel
theorem dX9_plain_29 : decode cX9_plain 29 = .ok (.getfield 41, 3) := by decide +kernel
theorem dX9_plain_32 : decode cX9_plain 32 = .ok (.iconst 1, 1) := by decide +kernel
theorem dX9_plain_33 : decode cX9_plain 33 = .ok (.iconst 1, 1) := by decide +kernel
theorem dX9_plain_34 : decode cX9_plain 34 = .ok (.iastore, 1) := by decide +kernel
theorem dX9_plain_35 : decode cX9_plain 35 = .ok (.aload_n 0, 1) := by decide +kernel
theorem dX9_plain_36 : decode cX9_plain 36 = .ok (.iconst 0, 1) := by decide +kernel
theorem dX9_plain_37 : decode cX9_plain 37 = .ok (.putfield 106, 3) := by decide +kernel
theorem dX9_plain_40 : decode cX9_plain 40 = .ok (.return_, 1) := by decide +kernel
theorem dX9_takeDraft_0 : decode cX9_takeDraft 0 = .ok (.aload_n 0, 1) := by decide +kernel
theorem dX9_takeDraft_1 : decode cX9_takeDraft 1 = .ok (.getfield 13, 3) := by decide +kernel
theorem dX9_takeDraft_4 : decode cX9_takeDraft 4 = .ok (.iconst 0, 1) := by decide +kernel
theorem dX9_takeDraft_5 : decode cX9_takeDraft 5 = .ok (.aload_n 0, 1) := by decide +kernel
theorem dX9_takeDraft_6 : decode cX9_takeDraft 6 = .ok (.getfield 13, 3) := by decide +kernel
theorem dX9_takeDraft_9 : decode cX9_takeDraft 9 = .ok (.iconst 1, 1) := by decide +kernel
theorem dX9_takeDraft_10 : decode cX9_takeDraft 10 = .ok (.iaload, 1) := by decide +kernel
theorem dX9_takeDraft_11 : decode cX9_takeDraft 11 = .ok (.iastore, 1) := by decide +kernel
theorem dX9_takeDraft_12 : decode cX9_takeDraft 12 = .ok (.aload_n 0, 1) := by decide +kernel
theorem dX9_takeDraft_13 : decode cX9_takeDraft 13 = .ok (.getfield 17, 3) := by decide +kernel
theorem dX9_takeDraft_16 : decode cX9_takeDraft 16 = .ok (.iconst 0, 1) := by decide +kernel
theorem dX9_takeDraft_17 : decode cX9_takeDraft 17 = .ok (.aload_n 0, 1) := by decide +kernel
theorem dX9_takeDraft_18 : decode cX9_takeDraft 18 = .ok (.getfield 17, 3) := by decide +kernel
theorem dX9_takeDraft_21 : decode cX9_takeDraft 21 = .ok (.iconst 1, 1) := by decide +kernel
theorem dX9_takeDraft_22 : decode cX9_takeDraft 22 = .ok (.iaload, 1) := by decide +kernel
theorem dX9_takeDraft_23 : decode cX9_takeDraft 23 = .ok (.iastore, 1) := by decide +kernel
theorem dX9_takeDraft_24 : decode cX9_takeDraft 24 = .ok (.aload_n 0, 1) := by decide +kernel
theorem dX9_takeDraft_25 : decode cX9_takeDraft 25 = .ok (.getfield 29, 3) := by decide +kernel
theorem dX9_takeDraft_28 : decode cX9_takeDraft 28 = .ok (.iconst 0, 1) := by decide +kernel
theorem dX9_takeDraft_29 : decode cX9_takeDraft 29 = .ok (.aload_n 0, 1) := by decide +kernel
theorem dX9_takeDraft_30 : decode cX9_takeDraft 30 = .ok (.getfield 29, 3) := by decide +kernel
theorem dX9_takeDraft_33 : decode cX9_takeDraft 33 = .ok (.iconst 1, 1) := by decide +kernel
theorem dX9_takeDraft_34 : decode cX9_takeDraft 34 = .ok (.iaload, 1) := by decide +kernel
theorem dX9_takeDraft_35 : decode cX9_takeDraft 35 = .ok (.iastore, 1) := by decide +kernel
theorem dX9_takeDraft_36 : decode cX9_takeDraft 36 = .ok (.aload_n 0, 1) := by decide +kernel
theorem dX9_takeDraft_37 : decode cX9_takeDraft 37 = .ok (.getfield 38, 3) := by decide +kernel
theorem dX9_takeDraft_40 : decode cX9_takeDraft 40 = .ok (.iconst 0, 1) := by decide +kernel
theorem dX9_takeDraft_41 : decode cX9_takeDraft 41 = .ok (.aload_n 0, 1) := by decide +kernel
theorem dX9_takeDraft_42 : decode cX9_takeDraft 42 = .ok (.getfield 38, 3) := by decide +kernel
theorem dX9_takeDraft_45 : decode cX9_takeDraft 45 = .ok (.iconst 1, 1) := by decide +kernel
theorem dX9_takeDraft_46 : decode cX9_takeDraft 46 = .ok (.iaload, 1) := by decide +kernel
theorem dX9_takeDraft_47 : decode cX9_takeDraft 47 = .ok (.iastore, 1) := by decide +kernel
theorem dX9_takeDraft_48 : decode cX9_takeDraft 48 = .ok (.aload_n 0, 1) := by decide +kernel
theorem dX9_takeDraft_49 : decode cX9_takeDraft 49 = .ok (.getfield 41, 3) := by decide +kernel
theorem dX9_takeDraft_52 : decode cX9_takeDraft 52 = .ok (.iconst 0, 1) := by decide +kernel
theorem dX9_takeDraft_53 : decode cX9_takeDraft 53 = .ok (.aload_n 0, 1) := by decide +kernel
theorem dX9_takeDraft_54 : decode cX9_takeDraft 54 = .ok (.getfield 41, 3) := by decide +kernel
theorem dX9_takeDraft_57 : decode cX9_takeDraft 57 = .ok (.iconst 1, 1) := by decide +kernel
theorem dX9_takeDraft_58 : decode cX9_takeDraft 58 = .ok (.iaload, 1) := by decide +kernel
theorem dX9_takeDraft_59 : decode cX9_takeDraft 59 = .ok (.iastore, 1) := by decide +kernel
theorem dX9_takeDraft_60 : decode cX9_takeDraft 60 = .ok (.iconst 0, 1) := by decide +kernel
theorem dX9_takeDraft_61 : decode cX9_takeDraft 61 = .ok (.istore_n 1, 1) := by decide +kernel
theorem dX9_takeDraft_62 : decode cX9_takeDraft 62 = .ok (.iload_n 1, 1) := by decide +kernel
theorem dX9_takeDraft_63 : decode cX9_takeDraft 63 = .ok (.bipush 8, 2) := by decide +kernel
theorem dX9_takeDraft_65 : decode cX9_takeDraft 65 = .ok (.if_icmp .ge 54, 3) := by decide +kernel
theorem dX9_takeDraft_68 : decode cX9_takeDraft 68 = .ok (.aload_n 0, 1) := by decide +kernel
theorem dX9_takeDraft_69 : decode cX9_takeDraft 69 = .ok (.getfield 20, 3) := by decide +kernel
theorem dX9_takeDraft_72 : decode cX9_takeDraft 72 = .ok (.iload_n 1, 1) := by decide +kernel
theorem dX9_takeDraft_73 : decode cX9_takeDraft 73 = .ok (.aload_n 0, 1) := by decide +kernel
theorem dX9_takeDraft_74 : decode cX9_takeDraft 74 = .ok (.getfield 20, 3) := by decide +kernel
theorem dX9_takeDraft_77 : decode cX9_takeDraft 77 = .ok (.bipush 8, 2) := by decide +kernel
theorem dX9_takeDraft_79 : decode cX9_takeDraft 79 = .ok (.iload_n 1, 1) := by decide +kernel
theorem dX9_takeDraft_80 : decode cX9_takeDraft 80 = .ok (.iadd, 1) := by decide +kernel
theorem dX9_takeDraft_81 : decode cX9_takeDraft 81 = .ok (.iaload, 1) := by decide +kernel
theorem dX9_takeDraft_82 : decode cX9_takeDraft 82 = .ok (.iastore, 1) := by decide +kernel
theorem dX9_takeDraft_83 : decode cX9_takeDraft 83 = .ok (.aload_n 0, 1) := by decide +kernel
theorem dX9_takeDraft_84 : decode cX9_takeDraft 84 = .ok (.getfield 23, 3) := by decide +kernel
theorem dX9_takeDraft_87 : decode cX9_takeDraft 87 = .ok (.iload_n 1, 1) := by decide +kernel
theorem dX9_takeDraft_88 : decode cX9_takeDraft 88 = .ok (.aload_n 0, 1) := by decide +kernel
theorem dX9_takeDraft_89 : decode cX9_takeDraft 89 = .ok (.getfield 23, 3) := by decide +kernel
theorem dX9_takeDraft_92 : decode cX9_takeDraft 92 = .ok (.bipush 8, 2) := by decide +kernel
theorem dX9_takeDraft_94 : decode cX9_takeDraft 94 = .ok (.iload_n 1, 1) := by decide +kernel
theorem dX9_takeDraft_95 : decode cX9_takeDraft 95 = .ok (.iadd, 1) := by decide +kernel
theorem dX9_takeDraft_96 : decode cX9_takeDraft 96 = .ok (.iaload, 1) := by decide +kernel
theorem dX9_takeDraft_97 : decode cX9_takeDraft 97 = .ok (.iastore, 1) := by decide +kernel
theorem dX9_takeDraft_98 : decode cX9_takeDraft 98 = .ok (.aload_n 0, 1) := by decide +kernel
theorem dX9_takeDraft_99 : decode cX9_takeDraft 99 = .ok (.getfield 26, 3) := by decide +kernel
theorem dX9_takeDraft_102 : decode cX9_takeDraft 102 = .ok (.iload_n 1, 1) := by decide +kernel
theorem dX9_takeDraft_103 : decode cX9_takeDraft 103 = .ok (.aload_n 0, 1) := by decide +kernel
theorem dX9_takeDraft_104 : decode cX9_takeDraft 104 = .ok (.getfield 26, 3) := by decide +kernel
theorem dX9_takeDraft_107 : decode cX9_takeDraft 107 = .ok (.bipush 8, 2) := by decide +kernel
theorem dX9_takeDraft_109 : decode cX9_takeDraft 109 = .ok (.iload_n 1, 1) := by decide +kernel
theorem dX9_takeDraft_110 : decode cX9_takeDraft 110 = .ok (.iadd, 1) := by decide +kernel
theorem dX9_takeDraft_111 : decode cX9_takeDraft 111 = .ok (.iaload, 1) := by decide +kernel
theorem dX9_takeDraft_112 : decode cX9_takeDraft 112 = .ok (.iastore, 1) := by decide +kernel
theorem dX9_takeDraft_113 : decode cX9_takeDraft 113 = .ok (.iinc 1 1, 3) := by decide +kernel
theorem dX9_takeDraft_116 : decode cX9_takeDraft 116 = .ok (.goto (-54), 3) := by decide +kernel
theorem dX9_takeDraft_119 : decode cX9_takeDraft 119 = .ok (.iconst 0, 1) := by decide +kernel
theorem dX9_takeDraft_120 : decode cX9_takeDraft 120 = .ok (.istore_n 1, 1) := by decide +kernel
theorem dX9_takeDraft_121 : decode cX9_takeDraft 121 = .ok (.iload_n 1, 1) := by decide +kernel
theorem dX9_takeDraft_122 : decode cX9_takeDraft 122 = .ok (.iconst 5, 1) := by decide +kernel
theorem dX9_takeDraft_123 : decode cX9_takeDraft 123 = .ok (.if_icmp .ge 47, 3) := by decide +kernel
theorem dX9_takeDraft_126 : decode cX9_takeDraft 126 = .ok (.aload_n 0, 1) := by decide +kernel
theorem dX9_takeDraft_127 : decode cX9_takeDraft 127 = .ok (.getfield 44, 3) := by decide +kernel
theorem dX9_takeDraft_130 : decode cX9_takeDraft 130 = .ok (.iconst 0, 1) := by decide +kernel
theorem dX9_takeDraft_131 : decode cX9_takeDraft 131 = .ok (.iload_n 1, 1) := by decide +kernel
theorem dX9_takeDraft_132 : decode cX9_takeDraft 132 = .ok (.iadd, 1) := by decide +kernel
theorem dX9_takeDraft_133 : decode cX9_takeDraft 133 = .ok (.aload_n 0, 1) := by decide +kernel
theorem dX9_takeDraft_134 : decode cX9_takeDraft 134 = .ok (.getfield 35, 3) := by decide +kernel
theorem dX9_takeDraft_137 : decode cX9_takeDraft 137 = .ok (.iload_n 1, 1) := by decide +kernel
theorem dX9_takeDraft_138 : decode cX9_takeDraft 138 = .ok (.iaload, 1) := by decide +kernel
theorem dX9_takeDraft_139 : decode cX9_takeDraft 139 = .ok (.iastore, 1) := by decide +kernel
theorem dX9_takeDraft_140 : decode cX9_takeDraft 140 = .ok (.aload_n 0, 1) := by decide +kernel
theorem dX9_takeDraft_141 : decode cX9_takeDraft 141 = .ok (.getfield 44, 3) := by decide +kernel
theorem dX9_takeDraft_144 : decode cX9_takeDraft 144 = .ok (.iconst 5, 1) := by decide +kernel
theorem dX9_takeDraft_145 : decode cX9_takeDraft 145 = .ok (.iload_n 1, 1) := by decide +kernel
theorem dX9_takeDraft_146 : decode cX9_takeDraft 146 = .ok (.iadd, 1) := by decide +kernel
theorem dX9_takeDraft_147 : decode cX9_takeDraft 147 = .ok (.aload_n 0, 1) := by decide +kernel
theorem dX9_takeDraft_148 : decode cX9_takeDraft 148 = .ok (.getfield 32, 3) := by decide +kernel
theorem dX9_takeDraft_151 : decode cX9_takeDraft 151 = .ok (.iload_n 1, 1) := by decide +kernel
theorem dX9_takeDraft_152 : decode cX9_takeDraft 152 = .ok (.iaload, 1) := by decide +kernel
theorem dX9_takeDraft_153 : decode cX9_takeDraft 153 = .ok (.iastore, 1) := by decide +kernel
theorem dX9_takeDraft_154 : decode cX9_takeDraft 154 = .ok (.aload_n 0, 1) := by decide +kernel
theorem dX9_takeDraft_155 : decode cX9_takeDraft 155 = .ok (.getfield 44, 3) := by decide +kernel
theorem dX9_takeDraft_158 : decode cX9_takeDraft 158 = .ok (.bipush 10, 2) := by decide +kernel
theorem dX9_takeDraft_160 : decode cX9_takeDraft 160 = .ok (.iload_n 1, 1) := by decide +kernel
theorem dX9_takeDraft_161 : decode cX9_takeDraft 161 = .ok (.iadd, 1) := by decide +kernel
theorem dX9_takeDraft_162 : decode cX9_takeDraft 162 = .ok (.iconst 0, 1) := by decide +kernel
theorem dX9_takeDraft_163 : decode cX9_takeDraft 163 = .ok (.iastore, 1) := by decide +kernel
theorem dX9_takeDraft_164 : decode cX9_takeDraft 164 = .ok (.iinc 1 1, 3) := by decide +kernel
theorem dX9_takeDraft_167 : decode cX9_takeDraft 167 = .ok (.goto (-46), 3) := by decide +kernel
theorem dX9_takeDraft_170 : decode cX9_takeDraft 170 = .ok (.aload_n 0, 1) := by decide +kernel
theorem dX9_takeDraft_171 : decode cX9_takeDraft 171 = .ok (.getfield 44, 3) := by decide +kernel
theorem dX9_takeDraft_174 : decode cX9_takeDraft 174 = .ok (.bipush 15, 2) := by decide +kernel
theorem dX9_takeDraft_176 : decode cX9_takeDraft 176 = .ok (.iconst 0, 1) := by decide +kernel
theorem dX9_takeDraft_177 : decode cX9_takeDraft 177 = .ok (.iastore, 1) := by decide +kernel
theorem dX9_takeDraft_178 : decode cX9_takeDraft 178 = .ok (.aload_n 0, 1) := by decide +kernel
theorem dX9_takeDraft_179 : decode cX9_takeDraft 179 = .ok (.getfield 44, 3) := by decide +kernel
theorem dX9_takeDraft_182 : decode cX9_takeDraft 182 = .ok (.bipush 16, 2) := by decide +kernel
theorem dX9_takeDraft_184 : decode cX9_takeDraft 184 = .ok (.iconst 0, 1) := by decide +kernel
theorem dX9_takeDraft_185 : decode cX9_takeDraft 185 = .ok (.iastore, 1) := by decide +kernel
theorem dX9_takeDraft_186 : decode cX9_takeDraft 186 = .ok (.aload_n 0, 1) := by decide +kernel
theorem dX9_takeDraft_187 : decode cX9_takeDraft 187 = .ok (.iconst 0, 1) := by decide +kernel
theorem dX9_takeDraft_188 : decode cX9_takeDraft 188 = .ok (.putfield 113, 3) := by decide +kernel
theorem dX9_takeDraft_191 : decode cX9_takeDraft 191 = .ok (.aload_n 0, 1) := by decide +kernel
theorem dX9_takeDraft_192 : decode cX9_takeDraft 192 = .ok (.getfield 47, 3) := by decide +kernel
theorem dX9_takeDraft_195 : decode cX9_takeDraft 195 = .ok (.iconst 0, 1) := by decide +kernel
theorem dX9_takeDraft_196 : decode cX9_takeDraft 196 = .ok (.iconst 0, 1) := by decide +kernel
theorem dX9_takeDraft_197 : decode cX9_takeDraft 197 = .ok (.bastore, 1) := by decide +kernel
theorem dX9_takeDraft_198 : decode cX9_takeDraft 198 = .ok (.aload_n 0, 1) := by decide +kernel
theorem dX9_takeDraft_199 : decode cX9_takeDraft 199 = .ok (.getfield 47, 3) := by decide +kernel
theorem dX9_takeDraft_202 : decode cX9_takeDraft 202 = .ok (.iconst 1, 1) := by decide +kernel
theorem dX9_takeDraft_203 : decode cX9_takeDraft 203 = .ok (.iconst 0, 1) := by decide +kernel
theorem dX9_takeDraft_204 : decode cX9_takeDraft 204 = .ok (.bastore, 1) := by decide +kernel
theorem dX9_takeDraft_205 : decode cX9_takeDraft 205 = .ok (.return_, 1) := by decide +kernel
theorem dX9_capital_0 : decode cX9_capital 0 = .ok (.aload_n 0, 1) := by decide +kernel
theorem dX9_capital_1 : decode cX9_capital 1 = .ok (.iconst 0, 1) := by decide +kernel
theorem dX9_capital_2 : decode cX9_capital 2 = .ok (.putfield 80, 3) := by decide +kernel
theorem dX9_capital_5 : decode cX9_capital 5 = .ok (.aload_n 0, 1) := by decide +kernel
theorem dX9_capital_6 : decode cX9_capital 6 = .ok (.bipush (-9), 2) := by decide +kernel
theorem dX9_capital_8 : decode cX9_capital 8 = .ok (.putfield 96, 3) := by decide +kernel
theorem dX9_capital_11 : decode cX9_capital 11 = .ok (.aload_n 0, 1) := by decide +kernel
theorem dX9_capital_12 : decode cX9_capital 12 = .ok (.invokevirtual 66, 3) := by decide +kernel
theorem dX9_capital_15 : decode cX9_capital 15 = .ok (.iconst 0, 1) := by decide +kernel
theorem dX9_capital_16 : decode cX9_capital 16 = .ok (.istore_n 1, 1) := by decide +kernel
theorem dX9_capital_17 : decode cX9_capital 17 = .ok (.aload_n 0, 1) := by decide +kernel
theorem dX9_capital_18 : decode cX9_capital 18 = .ok (.invokevirtual 99, 3) := by decide +kernel
theorem dX9_capital_21 : decode cX9_capital 21 = .ok (.aload_n 0, 1) := by decide +kernel
theorem dX9_capital_22 : decode cX9_capital 22 = .ok (.getfield 96, 3) := by decide +kernel
theorem dX9_capital_25 : decode cX9_capital 25 = .ok (.bipush (-9), 2) := by decide +kernel
theorem dX9_capital_27 : decode cX9_capital 27 = .ok (.if_icmp .ne 65, 3) := by decide +kernel
theorem dX9_capital_30 : decode cX9_capital 30 = .ok (.aload_n 0, 1) := by decide +kernel
theorem dX9_capital_31 : decode cX9_capital 31 = .ok (.getfield 93, 3) := by decide +kernel
theorem dX9_capital_34 : decode cX9_capital 34 = .ok (.iconst 3, 1) := by decide +kernel
theorem dX9_capital_35 : decode cX9_capital 35 = .ok (.if_icmp .eq 57, 3) := by decide +kernel
theorem dX9_capital_38 : decode cX9_capital 38 = .ok (.aload_n 0, 1) := by decide +kernel
theorem dX9_capital_39 : decode cX9_capital 39 = .ok (.getfield 93, 3) := by decide +kernel
theorem dX9_capital_42 : decode cX9_capital 42 = .ok (.istore_n 2, 1) := by decide +kernel
theorem dX9_capital_43 : decode cX9_capital 43 = .ok (.aload_n 0, 1) := by decide +kernel
theorem dX9_capital_44 : decode cX9_capital 44 = .ok (.aload_n 0, 1) := by decide +kernel
theorem dX9_capital_45 : decode cX9_capital 45 = .ok (.iload_n 2, 1) := by decide +kernel
theorem dX9_capital_46 : decode cX9_capital 46 = .ok (.iload_n 1, 1) := by decide +kernel
theorem dX9_capital_47 : decode cX9_capital 47 = .ok (.invokevirtual 116, 3) := by decide +kernel
theorem dX9_capital_50 : decode cX9_capital 50 = .ok (.invokevirtual 102, 3) := by decide +kernel
theorem dX9_capital_53 : decode cX9_capital 53 = .ok (.pop, 1) := by decide +kernel
theorem dX9_capital_54 : decode cX9_capital 54 = .ok (.aload_n 0, 1) := by decide +kernel
theorem dX9_capital_55 : decode cX9_capital 55 = .ok (.getfield 96, 3) := by decide +kernel
theorem dX9_capital_58 : decode cX9_capital 58 = .ok (.bipush (-9), 2) := by decide +kernel
theorem dX9_capital_60 : decode cX9_capital 60 = .ok (.if_icmp .ne 29, 3) := by decide +kernel
theorem dX9_capital_63 : decode cX9_capital 63 = .ok (.aload_n 0, 1) := by decide +kernel
theorem dX9_capital_64 : decode cX9_capital 64 = .ok (.iload_n 2, 1) := by decide +kernel
theorem dX9_capital_65 : decode cX9_capital 65 = .ok (.invokevirtual 120, 3) := by decide +kernel
theorem dX9_capital_68 : decode cX9_capital 68 = .ok (.aload_n 0, 1) := by decide +kernel
theorem dX9_capital_69 : decode cX9_capital 69 = .ok (.aload_n 0, 1) := by decide +kernel
theorem dX9_capital_70 : decode cX9_capital 70 = .ok (.getfield 93, 3) := by decide +kernel
theorem dX9_capital_73 : decode cX9_capital 73 = .ok (.iconst 2, 1) := by decide +kernel
theorem dX9_capital_74 : decode cX9_capital 74 = .ok (.if_icmp .ne 7, 3) := by decide +kernel
theorem dX9_capital_77 : decode cX9_capital 77 = .ok (.iconst 1, 1) := by decide +kernel
theorem dX9_capital_78 : decode cX9_capital 78 = .ok (.goto 4, 3) := by decide +kernel
theorem dX9_capital_81 : decode cX9_capital 81 = .ok (.iconst 0, 1) := by decide +kernel
theorem dX9_capital_82 : decode cX9_capital 82 = .ok (.invokevirtual 102, 3) := by decide +kernel
theorem dX9_capital_85 : decode cX9_capital 85 = .ok (.pop, 1) := by decide +kernel
theorem dX9_capital_86 : decode cX9_capital 86 = .ok (.iinc 1 1, 3) := by decide +kernel
theorem dX9_capital_89 : decode cX9_capital 89 = .ok (.goto (-68), 3) := by decide +kernel
theorem dX9_capital_92 : decode cX9_capital 92 = .ok (.aload_n 0, 1) := by decide +kernel
theorem dX9_capital_93 : decode cX9_capital 93 = .ok (.getfield 96, 3) := by decide +kernel
theorem dX9_capital_96 : decode cX9_capital 96 = .ok (.bipush (-9), 2) := by decide +kernel
theorem dX9_capital_98 : decode cX9_capital 98 = .ok (.if_icmp .eq 11, 3) := by decide +kernel
theorem dX9_capital_101 : decode cX9_capital 101 = .ok (.bipush (-10), 2) := by decide +kernel
theorem dX9_capital_103 : decode cX9_capital 103 = .ok (.aload_n 0, 1) := by decide +kernel
theorem dX9_capital_104 : decode cX9_capital 104 = .ok (.getfield 96, 3) := by decide +kernel
theorem dX9_capital_107 : decode cX9_capital 107 = .ok (.isub, 1) := by decide +kernel
theorem dX9_capital_108 : decode cX9_capital 108 = .ok (.ireturn, 1) := by decide +kernel
theorem dX9_capital_109 : decode cX9_capital 109 = .ok (.aload_n 0, 1) := by decide +kernel
theorem dX9_capital_110 : decode cX9_capital 110 = .ok (.invokevirtual 69, 3) := by decide +kernel
theorem dX9_capital_113 : decode cX9_capital 113 = .ok (.aload_n 0, 1) := by decide +kernel
theorem dX9_capital_114 : decode cX9_capital 114 = .ok (.iconst 0, 1) := by decide +kernel
theorem dX9_capital_115 : decode cX9_capital 115 = .ok (.putfield 76, 3) := by decide +kernel
theorem dX9_capital_118 : decode cX9_capital 118 = .ok (.iload_n 1, 1) := by decide +kernel
theorem dX9_capital_119 : decode cX9_capital 119 = .ok (.ireturn, 1) := by decide +kernel
theorem dX9_isLane_0 : decode cX9_isLane 0 = .ok (.iload_n 1, 1) := by decide +kernel
theorem dX9_isLane_1 : decode cX9_isLane 1 = .ok (.iconst 0, 1) := by decide +kernel
theorem dX9_isLane_2 : decode cX9_isLane 2 = .ok (.aload_n 0, 1) := by decide +kernel
theorem dX9_isLane_3 : decode cX9_isLane 3 = .ok (.getfield 17, 3) := by decide +kernel
theorem dX9_isLane_6 : decode cX9_isLane 6 = .ok (.iconst 0, 1) := by decide +kernel
theorem dX9_isLane_7 : decode cX9_isLane 7 = .ok (.iaload, 1) := by decide +kernel
theorem dX9_isLane_8 : decode cX9_isLane 8 = .ok (.iconst 1, 1) := by decide +kernel
theorem dX9_isLane_9 : decode cX9_isLane 9 = .ok (.isub, 1) := by decide +kernel
theorem dX9_isLane_10 : decode cX9_isLane 10 = .ok (.invokestatic 72, 3) := by decide +kernel
theorem dX9_isLane_13 : decode cX9_isLane 13 = .ok (.ireturn, 1) := by decide +kernel
theorem dX9_isPerson_0 : decode cX9_isPerson 0 = .ok (.iload_n 1, 1) := by decide +kernel
theorem dX9_isPerson_1 : decode cX9_isPerson 1 = .ok (.iconst 0, 1) := by decide +kernel
theorem dX9_isPerson_2 : decode cX9_isPerson 2 = .ok (.aload_n 0, 1) := by decide +kernel
theorem dX9_isPerson_3 : decode cX9_isPerson 3 = .ok (.getfield 29, 3) := by decide +kernel
theorem dX9_isPerson_6 : decode cX9_isPerson 6 = .ok (.iconst 0, 1) := by decide +kernel
theorem dX9_isPerson_7 : decode cX9_isPerson 7 = .ok (.iaload, 1) := by decide +kernel
theorem dX9_isPerson_8 : decode cX9_isPerson 8 = .ok (.iconst 1, 1) := by decide +kernel
theorem dX9_isPerson_9 : decode cX9_isPerson 9 = .ok (.isub, 1) := by decide +kernel
theorem dX9_isPerson_10 : decode cX9_isPerson 10 = .ok (.invokestatic 72, 3) := by decide +kernel
theorem dX9_isPerson_13 : decode cX9_isPerson 13 = .ok (.ireturn, 1) := by decide +kernel
theorem dX9_isPlace_0 : decode cX9_isPlace 0 = .ok (.iload_n 1, 1) := by decide +kernel
theorem dX9_isPlace_1 : decode cX9_isPlace 1 = .ok (.iconst 0, 1) := by decide +kernel
theorem dX9_isPlace_2 : decode cX9_isPlace 2 = .ok (.aload_n 0, 1) := by decide +kernel
theorem dX9_isPlace_3 : decode cX9_isPlace 3 = .ok (.getfield 13, 3) := by decide +kernel
theorem dX9_isPlace_6 : decode cX9_isPlace 6 = .ok (.iconst 0, 1) := by decide +kernel
theorem dX9_isPlace_7 : decode cX9_isPlace 7 = .ok (.iaload, 1) := by decide +kernel
theorem dX9_isPlace_8 : decode cX9_isPlace 8 = .ok (.iconst 1, 1) := by decide +kernel
theorem dX9_isPlace_9 : decode cX9_isPlace 9 = .ok (.isub, 1) := by decide +kernel
theorem dX9_isPlace_10 : decode cX9_isPlace 10 = .ok (.invokestatic 72, 3) := by decide +kernel
theorem dX9_isPlace_13 : decode cX9_isPlace 13 = .ok (.ireturn, 1) := by decide +kernel
theorem dX9_manyOf_0 : decode cX9_manyOf 0 = .ok (.iconst 0, 1) := by decide +kernel
theorem dX9_manyOf_1 : decode cX9_manyOf 1 = .ok (.istore_n 1, 1) := by decide +kernel
theorem dX9_manyOf_2 : decode cX9_manyOf 2 = .ok (.iconst 0, 1) := by decide +kernel
theorem dX9_manyOf_3 : decode cX9_manyOf 3 = .ok (.istore_n 2, 1) := by decide +kernel
theorem dX9_manyOf_4 : decode cX9_manyOf 4 = .ok (.iload_n 2, 1) := by decide +kernel
theorem dX9_manyOf_5 : decode cX9_manyOf 5 = .ok (.bipush 8, 2) := by decide +kernel
theorem dX9_manyOf_7 : decode cX9_manyOf 7 = .ok (.if_icmp .ge 17, 3) := by decide +kernel
theorem dX9_manyOf_10 : decode cX9_manyOf 10 = .ok (.iload_n 1, 1) := by decide +kernel
theorem dX9_manyOf_11 : decode cX9_manyOf 11 = .ok (.iload_n 0, 1) := by decide +kernel
theorem dX9_manyOf_12 : decode cX9_manyOf 12 = .ok (.iload_n 2, 1) := by decide +kernel
theorem dX9_manyOf_13 : decode cX9_manyOf 13 = .ok (.ishr, 1) := by decide +kernel
theorem dX9_manyOf_14 : decode cX9_manyOf 14 = .ok (.iconst 1, 1) := by decide +kernel
theorem dX9_manyOf_15 : decode cX9_manyOf 15 = .ok (.iand, 1) := by decide +kernel
theorem dX9_manyOf_16 : decode cX9_manyOf 16 = .ok (.iadd, 1) := by decide +kernel
theorem dX9_manyOf_17 : decode cX9_manyOf 17 = .ok (.istore_n 1, 1) := by decide +kernel
theorem dX9_manyOf_18 : decode cX9_manyOf 18 = .ok (.iinc 2 1, 3) := by decide +kernel
theorem dX9_manyOf_21 : decode cX9_manyOf 21 = .ok (.goto (-17), 3) := by decide +kernel
theorem dX9_manyOf_24 : decode cX9_manyOf 24 = .ok (.iload_n 1, 1) := by decide +kernel
theorem dX9_manyOf_25 : decode cX9_manyOf 25 = .ok (.ireturn, 1) := by decide +kernel
theorem dX9_wide_0 : decode cX9_wide 0 = .ok (.aload_n 0, 1) := by decide +kernel
theorem dX9_wide_1 : decode cX9_wide 1 = .ok (.getfield 38, 3) := by decide +kernel
theorem dX9_wide_4 : decode cX9_wide 4 = .ok (.iconst 0, 1) := by decide +kernel
theorem dX9_wide_5 : decode cX9_wide 5 = .ok (.iaload, 1) := by decide +kernel
theorem dX9_wide_6 : decode cX9_wide 6 = .ok (.iconst 2, 1) := by decide +kernel
theorem dX9_wide_7 : decode cX9_wide 7 = .ok (.aload_n 0, 1) := by decide +kernel
theorem dX9_wide_8 : decode cX9_wide 8 = .ok (.getfield 44, 3) := by decide +kernel
theorem dX9_wide_11 : decode cX9_wide 11 = .ok (.iconst 5, 1) := by decide +kernel
theorem dX9_wide_12 : decode cX9_wide 12 = .ok (.iload_n 1, 1) := by decide +kernel
theorem dX9_wide_13 : decode cX9_wide 13 = .ok (.iadd, 1) := by decide +kernel
theorem dX9_wide_14 : decode cX9_wide 14 = .ok (.iaload, 1) := by decide +kernel
theorem dX9_wide_15 : decode cX9_wide 15 = .ok (.imul, 1) := by decide +kernel
theorem dX9_wide_16 : decode cX9_wide 16 = .ok (.iadd, 1) := by decide +kernel
theorem dX9_wide_17 : decode cX9_wide 17 = .ok (.ireturn, 1) := by decide +kernel
theorem dX9_isClosed_0 : decode cX9_isClosed 0 = .ok (.aload_n 0, 1) := by decide +kernel
theorem dX9_isClosed_1 : decode cX9_isClosed 1 = .ok (.getfield 44, 3) := by decide +kernel
theorem dX9_isClosed_4 : decode cX9_isClosed 4 = .ok (.bipush 15, 2) := by decide +kernel
theorem dX9_isClosed_6 : decode cX9_isClosed 6 = .ok (.iaload, 1) := by decide +kernel
theorem dX9_isClosed_7 : decode cX9_isClosed 7 = .ok (.iload_n 1, 1) := by decide +kernel
theorem dX9_isClosed_8 : decode cX9_isClosed 8 = .ok (.ishr, 1) := by decide +kernel
theorem dX9_isClosed_9 : decode cX9_isClosed 9 = .ok (.iconst 1, 1) := by decide +kernel
theorem dX9_isClosed_10 : decode cX9_isClosed 10 = .ok (.iand, 1) := by decide +kernel
theorem dX9_isClosed_11 : decode cX9_isClosed 11 = .ok (.iconst 1, 1) := by decide +kernel
theorem dX9_isClosed_12 : decode cX9_isClosed 12 = .ok (.if_icmp .ne 7, 3) := by decide +kernel
theorem dX9_isClosed_15 : decode cX9_isClosed 15 = .ok (.iconst 1, 1) := by decide +kernel
theorem dX9_isClosed_16 : decode cX9_isClosed 16 = .ok (.goto 4, 3) := by decide +kernel
theorem dX9_isClosed_19 : decode cX9_isClosed 19 = .ok (.iconst 0, 1) := by decide +kernel
theorem dX9_isClosed_20 : decode cX9_isClosed 20 = .ok (.ireturn, 1) := by decide +kernel
theorem dX9_ends_0 : decode cX9_ends 0 = .ok (.aload_n 0, 1) := by decide +kernel
theorem dX9_ends_1 : decode cX9_ends 1 = .ok (.getfield 20, 3) := by decide +kernel
theorem dX9_ends_4 : decode cX9_ends 4 = .ok (.iload_n 1, 1) := by decide +kernel
theorem dX9_ends_5 : decode cX9_ends 5 = .ok (.iaload, 1) := by decide +kernel
theorem dX9_ends_6 : decode cX9_ends 6 = .ok (.iload_n 2, 1) := by decide +kernel
theorem dX9_ends_7 : decode cX9_ends 7 = .ok (.if_icmp .eq 13, 3) := by decide +kernel
theorem dX9_ends_10 : decode cX9_ends 10 = .ok (.aload_n 0, 1) := by decide +kernel
theorem dX9_ends_11 : decode cX9_ends 11 = .ok (.getfield 23, 3) := by decide +kernel
theorem dX9_ends_14 : decode cX9_ends 14 = .ok (.iload_n 1, 1) := by decide +kernel
theorem dX9_ends_15 : decode cX9_ends 15 = .ok (.iaload, 1) := by decide +kernel
theorem dX9_ends_16 : decode cX9_ends 16 = .ok (.iload_n 2, 1) := by decide +kernel
theorem dX9_ends_17 : decode cX9_ends 17 = .ok (.if_icmp .ne 7, 3) := by decide +kernel
theorem dX9_ends_20 : decode cX9_ends 20 = .ok (.iconst 1, 1) := by decide +kernel
theorem dX9_ends_21 : decode cX9_ends 21 = .ok (.goto 4, 3) := by decide +kernel
theorem dX9_ends_24 : decode cX9_ends 24 = .ok (.iconst 0, 1) := by decide +kernel
theorem dX9_ends_25 : decode cX9_ends 25 = .ok (.ireturn, 1) := by decide +kernel
theorem dX9_other_0 : decode cX9_other 0 = .ok (.aload_n 0, 1) := by decide +kernel
theorem dX9_other_1 : decode cX9_other 1 = .ok (.getfield 20, 3) := by decide +kernel
theorem dX9_other_4 : decode cX9_other 4 = .ok (.iload_n 1, 1) := by decide +kernel
theorem dX9_other_5 : decode cX9_other 5 = .ok (.iaload, 1) := by decide +kernel
theorem dX9_other_6 : decode cX9_other 6 = .ok (.iload_n 2, 1) := by decide +kernel
theorem dX9_other_7 : decode cX9_other 7 = .ok (.if_icmp .ne 12, 3) := by decide +kernel
theorem dX9_other_10 : decode cX9_other 10 = .ok (.aload_n 0, 1) := by decide +kernel
theorem dX9_other_11 : decode cX9_other 11 = .ok (.getfield 23, 3) := by decide +kernel
theorem dX9_other_14 : decode cX9_other 14 = .ok (.iload_n 1, 1) := by decide +kernel
theorem dX9_other_15 : decode cX9_other 15 = .ok (.iaload, 1) := by decide +kernel
theorem dX9_other_16 : decode cX9_other 16 = .ok (.goto 9, 3) := by decide +kernel
theorem dX9_other_19 : decode cX9_other 19 = .ok (.aload_n 0, 1) := by decide +kernel
theorem dX9_other_20 : decode cX9_other 20 = .ok (.getfield 20, 3) := by decide +kernel
theorem dX9_other_23 : decode cX9_other 23 = .ok (.iload_n 1, 1) := by decide +kernel
theorem dX9_other_24 : decode cX9_other 24 = .ok (.iaload, 1) := by decide +kernel
theorem dX9_other_25 : decode cX9_other 25 = .ok (.ireturn, 1) := by decide +kernel
theorem dX9_canGo_0 : decode cX9_canGo 0 = .ok (.iload_n 3, 1) := by decide +kernel
theorem dX9_canGo_1 : decode cX9_canGo 1 = .ok (.iload_n 2, 1) := by decide +kernel
theorem dX9_canGo_2 : decode cX9_canGo 2 = .ok (.ishr, 1) := by decide +kernel
theorem dX9_canGo_3 : decode cX9_canGo 3 = .ok (.iconst 1, 1) := by decide +kernel
theorem dX9_canGo_4 : decode cX9_canGo 4 = .ok (.iand, 1) := by decide +kernel
theorem dX9_canGo_5 : decode cX9_canGo 5 = .ok (.ifCond .ne 21, 3) := by decide +kernel
theorem dX9_canGo_8 : decode cX9_canGo 8 = .ok (.aload_n 0, 1) := by decide +kernel
theorem dX9_canGo_9 : decode cX9_canGo 9 = .ok (.iload_n 1, 1) := by decide +kernel
theorem dX9_canGo_10 : decode cX9_canGo 10 = .ok (.invokevirtual 124, 3) := by decide +kernel
theorem dX9_canGo_13 : decode cX9_canGo 13 = .ok (.aload_n 0, 1) := by decide +kernel
theorem dX9_canGo_14 : decode cX9_canGo 14 = .ok (.getfield 26, 3) := by decide +kernel
theorem dX9_canGo_17 : decode cX9_canGo 17 = .ok (.iload_n 2, 1) := by decide +kernel
theorem dX9_canGo_18 : decode cX9_canGo 18 = .ok (.iaload, 1) := by decide +kernel
theorem dX9_canGo_19 : decode cX9_canGo 19 = .ok (.if_icmp .gt 7, 3) := by decide +kernel
theorem dX9_canGo_22 : decode cX9_canGo 22 = .ok (.iconst 1, 1) := by decide +kernel
theorem dX9_canGo_23 : decode cX9_canGo 23 = .ok (.goto 4, 3) := by decide +kernel
theorem dX9_canGo_26 : decode cX9_canGo 26 = .ok (.iconst 0, 1) := by decide +kernel
theorem dX9_canGo_27 : decode cX9_canGo 27 = .ok (.ireturn, 1) := by decide +kernel
theorem dX9_reach_0 : decode cX9_reach 0 = .ok (.iconst 1, 1) := by decide +kernel
theorem dX9_reach_1 : decode cX9_reach 1 = .ok (.aload_n 0, 1) := by decide +kernel
theorem dX9_reach_2 : decode cX9_reach 2 = .ok (.getfield 44, 3) := by decide +kernel
theorem dX9_reach_5 : decode cX9_reach 5 = .ok (.iconst 0, 1) := by decide +kernel
theorem dX9_reach_6 : decode cX9_reach 6 = .ok (.iload_n 1, 1) := by decide +kernel
theorem dX9_reach_7 : decode cX9_reach 7 = .ok (.iadd, 1) := by decide +kernel
theorem dX9_reach_8 : decode cX9_reach 8 = .ok (.iaload, 1) := by decide +kernel
theorem dX9_reach_9 : decode cX9_reach 9 = .ok (.ishl, 1) := by decide +kernel
theorem dX9_reach_10 : decode cX9_reach 10 = .ok (.istore_n 3, 1) := by decide +kernel
theorem dX9_reach_11 : decode cX9_reach 11 = .ok (.iconst 0, 1) := by decide +kernel
theorem dX9_reach_12 : decode cX9_reach 12 = .ok (.istore 4, 2) := by decide +kernel
theorem dX9_reach_14 : decode cX9_reach 14 = .ok (.iload 4, 2) := by decide +kernel
theorem dX9_reach_16 : decode cX9_reach 16 = .ok (.bipush 8, 2) := by decide +kernel
theorem dX9_reach_18 : decode cX9_reach 18 = .ok (.if_icmp .ge 87, 3) := by decide +kernel
theorem dX9_reach_21 : decode cX9_reach 21 = .ok (.iconst 0, 1) := by decide +kernel
theorem dX9_reach_22 : decode cX9_reach 22 = .ok (.istore 5, 2) := by decide +kernel
theorem dX9_reach_24 : decode cX9_reach 24 = .ok (.iload 5, 2) := by decide +kernel
theorem dX9_reach_26 : decode cX9_reach 26 = .ok (.aload_n 0, 1) := by decide +kernel
theorem dX9_reach_27 : decode cX9_reach 27 = .ok (.getfield 17, 3) := by decide +kernel
theorem dX9_reach_30 : decode cX9_reach 30 = .ok (.iconst 0, 1) := by decide +kernel
theorem dX9_reach_31 : decode cX9_reach 31 = .ok (.iaload, 1) := by decide +kernel
theorem dX9_reach_32 : decode cX9_reach 32 = .ok (.if_icmp .ge 67, 3) := by decide +kernel
theorem dX9_reach_35 : decode cX9_reach 35 = .ok (.aload_n 0, 1) := by decide +kernel
theorem dX9_reach_36 : decode cX9_reach 36 = .ok (.iload_n 1, 1) := by decide +kernel
theorem dX9_reach_37 : decode cX9_reach 37 = .ok (.iload 5, 2) := by decide +kernel
theorem dX9_reach_39 : decode cX9_reach 39 = .ok (.iload_n 2, 1) := by decide +kernel
theorem dX9_reach_40 : decode cX9_reach 40 = .ok (.invokevirtual 128, 3) := by decide +kernel
theorem dX9_reach_43 : decode cX9_reach 43 = .ok (.ifCond .eq 50, 3) := by decide +kernel
theorem dX9_reach_46 : decode cX9_reach 46 = .ok (.iload_n 3, 1) := by decide +kernel
theorem dX9_reach_47 : decode cX9_reach 47 = .ok (.aload_n 0, 1) := by decide +kernel
theorem dX9_reach_48 : decode cX9_reach 48 = .ok (.getfield 20, 3) := by decide +kernel
theorem dX9_reach_51 : decode cX9_reach 51 = .ok (.iload 5, 2) := by decide +kernel
theorem dX9_reach_53 : decode cX9_reach 53 = .ok (.iaload, 1) := by decide +kernel
theorem dX9_reach_54 : decode cX9_reach 54 = .ok (.ishr, 1) := by decide +kernel
theorem dX9_reach_55 : decode cX9_reach 55 = .ok (.iconst 1, 1) := by decide +kernel
theorem dX9_reach_56 : decode cX9_reach 56 = .ok (.iand, 1) := by decide +kernel
theorem dX9_reach_57 : decode cX9_reach 57 = .ok (.iload_n 3, 1) := by decide +kernel
theorem dX9_reach_58 : decode cX9_reach 58 = .ok (.aload_n 0, 1) := by decide +kernel
theorem dX9_reach_59 : decode cX9_reach 59 = .ok (.getfield 23, 3) := by decide +kernel
theorem dX9_reach_62 : decode cX9_reach 62 = .ok (.iload 5, 2) := by decide +kernel
theorem dX9_reach_64 : decode cX9_reach 64 = .ok (.iaload, 1) := by decide +kernel
theorem dX9_reach_65 : decode cX9_reach 65 = .ok (.ishr, 1) := by decide +kernel
theorem dX9_reach_66 : decode cX9_reach 66 = .ok (.iconst 1, 1) := by decide +kernel
theorem dX9_reach_67 : decode cX9_reach 67 = .ok (.iand, 1) := by decide +kernel
theorem dX9_reach_68 : decode cX9_reach 68 = .ok (.if_icmp .eq 25, 3) := by decide +kernel
theorem dX9_reach_71 : decode cX9_reach 71 = .ok (.iload_n 3, 1) := by decide +kernel
theorem dX9_reach_72 : decode cX9_reach 72 = .ok (.iconst 1, 1) := by decide +kernel
theorem dX9_reach_73 : decode cX9_reach 73 = .ok (.aload_n 0, 1) := by decide +kernel
theorem dX9_reach_74 : decode cX9_reach 74 = .ok (.getfield 20, 3) := by decide +kernel
theorem dX9_reach_77 : decode cX9_reach 77 = .ok (.iload 5, 2) := by decide +kernel
theorem dX9_reach_79 : decode cX9_reach 79 = .ok (.iaload, 1) := by decide +kernel
theorem dX9_reach_80 : decode cX9_reach 80 = .ok (.ishl, 1) := by decide +kernel
theorem dX9_reach_81 : decode cX9_reach 81 = .ok (.iconst 1, 1) := by decide +kernel
theorem dX9_reach_82 : decode cX9_reach 82 = .ok (.aload_n 0, 1) := by decide +kernel
theorem dX9_reach_83 : decode cX9_reach 83 = .ok (.getfield 23, 3) := by decide +kernel
theorem dX9_reach_86 : decode cX9_reach 86 = .ok (.iload 5, 2) := by decide +kernel
theorem dX9_reach_88 : decode cX9_reach 88 = .ok (.iaload, 1) := by decide +kernel
theorem dX9_reach_89 : decode cX9_reach 89 = .ok (.ishl, 1) := by decide +kernel
theorem dX9_reach_90 : decode cX9_reach 90 = .ok (.ior, 1) := by decide +kernel
theorem dX9_reach_91 : decode cX9_reach 91 = .ok (.ior, 1) := by decide +kernel
theorem dX9_reach_92 : decode cX9_reach 92 = .ok (.istore_n 3, 1) := by decide +kernel
theorem dX9_reach_93 : decode cX9_reach 93 = .ok (.iinc 5 1, 3) := by decide +kernel
theorem dX9_reach_96 : decode cX9_reach 96 = .ok (.goto (-72), 3) := by decide +kernel
theorem dX9_reach_99 : decode cX9_reach 99 = .ok (.iinc 4 1, 3) := by decide +kernel
theorem dX9_reach_102 : decode cX9_reach 102 = .ok (.goto (-88), 3) := by decide +kernel
theorem dX9_reach_105 : decode cX9_reach 105 = .ok (.iload_n 3, 1) := by decide +kernel
theorem dX9_reach_106 : decode cX9_reach 106 = .ok (.ireturn, 1) := by decide +kernel
theorem dX9_reaches_0 : decode cX9_reaches 0 = .ok (.aload_n 0, 1) := by decide +kernel
theorem dX9_reaches_1 : decode cX9_reaches 1 = .ok (.iload_n 1, 1) := by decide +kernel
theorem dX9_reaches_2 : decode cX9_reaches 2 = .ok (.iload_n 3, 1) := by decide +kernel
theorem dX9_reaches_3 : decode cX9_reaches 3 = .ok (.invokevirtual 131, 3) := by decide +kernel
theorem dX9_reaches_6 : decode cX9_reaches 6 = .ok (.iload_n 2, 1) := by decide +kernel
theorem dX9_reaches_7 : decode cX9_reaches 7 = .ok (.ishr, 1) := by decide +kernel
theorem dX9_reaches_8 : decode cX9_reaches 8 = .ok (.iconst 1, 1) := by decide +kernel
theorem dX9_reaches_9 : decode cX9_reaches 9 = .ok (.iand, 1) := by decide +kernel
theorem dX9_reaches_10 : decode cX9_reaches 10 = .ok (.iconst 1, 1) := by decide +kernel
theorem dX9_reaches_11 : decode cX9_reaches 11 = .ok (.if_icmp .ne 7, 3) := by decide +kernel
theorem dX9_reaches_14 : decode cX9_reaches 14 = .ok (.iconst 1, 1) := by decide +kernel
theorem dX9_reaches_15 : decode cX9_reaches 15 = .ok (.goto 4, 3) := by decide +kernel
theorem dX9_reaches_18 : decode cX9_reaches 18 = .ok (.iconst 0, 1) := by decide +kernel
theorem dX9_reaches_19 : decode cX9_reaches 19 = .ok (.ireturn, 1) := by decide +kernel
theorem dX9_lane_0 : decode cX9_lane 0 = .ok (.aload_n 0, 1) := by decide +kernel
theorem dX9_lane_1 : decode cX9_lane 1 = .ok (.iload_n 1, 1) := by decide +kernel
theorem dX9_lane_2 : decode cX9_lane 2 = .ok (.invokevirtual 134, 3) := by decide +kernel
theorem dX9_lane_5 : decode cX9_lane 5 = .ok (.ifCond .eq 12, 3) := by decide +kernel
theorem dX9_lane_8 : decode cX9_lane 8 = .ok (.iload_n 2, 1) := by decide +kernel
theorem dX9_lane_9 : decode cX9_lane 9 = .ok (.iconst 0, 1) := by decide +kernel
theorem dX9_lane_10 : decode cX9_lane 10 = .ok (.iconst 3, 1) := by decide +kernel
theorem dX9_lane_11 : decode cX9_lane 11 = .ok (.invokestatic 72, 3) := by decide +kernel
theorem dX9_lane_14 : decode cX9_lane 14 = .ok (.ifCond .ne 5, 3) := by decide +kernel
theorem dX9_lane_17 : decode cX9_lane 17 = .ok (.iconst (-1), 1) := by decide +kernel
theorem dX9_lane_18 : decode cX9_lane 18 = .ok (.ireturn, 1) := by decide +kernel
theorem dX9_lane_19 : decode cX9_lane 19 = .ok (.iload_n 2, 1) := by decide +kernel
theorem dX9_lane_20 : decode cX9_lane 20 = .ok (.ifCond .ne 12, 3) := by decide +kernel
theorem dX9_lane_23 : decode cX9_lane 23 = .ok (.aload_n 0, 1) := by decide +kernel
theorem dX9_lane_24 : decode cX9_lane 24 = .ok (.getfield 20, 3) := by decide +kernel
theorem dX9_lane_27 : decode cX9_lane 27 = .ok (.iload_n 1, 1) := by decide +kernel
theorem dX9_lane_28 : decode cX9_lane 28 = .ok (.iaload, 1) := by decide +kernel
theorem dX9_lane_29 : decode cX9_lane 29 = .ok (.goto 44, 3) := by decide +kernel
theorem dX9_lane_32 : decode cX9_lane 32 = .ok (.iload_n 2, 1) := by decide +kernel
theorem dX9_lane_33 : decode cX9_lane 33 = .ok (.iconst 1, 1) := by decide +kernel
theorem dX9_lane_34 : decode cX9_lane 34 = .ok (.if_icmp .ne 12, 3) := by decide +kernel
theorem dX9_lane_37 : decode cX9_lane 37 = .ok (.aload_n 0, 1) := by decide +kernel
theorem dX9_lane_38 : decode cX9_lane 38 = .ok (.getfield 23, 3) := by decide +kernel
theorem dX9_lane_41 : decode cX9_lane 41 = .ok (.iload_n 1, 1) := by decide +kernel
theorem dX9_lane_42 : decode cX9_lane 42 = .ok (.iaload, 1) := by decide +kernel
theorem dX9_lane_43 : decode cX9_lane 43 = .ok (.goto 30, 3) := by decide +kernel
theorem dX9_lane_46 : decode cX9_lane 46 = .ok (.iload_n 2, 1) := by decide +kernel
theorem dX9_lane_47 : decode cX9_lane 47 = .ok (.iconst 2, 1) := by decide +kernel
theorem dX9_lane_48 : decode cX9_lane 48 = .ok (.if_icmp .ne 12, 3) := by decide +kernel
theorem dX9_lane_51 : decode cX9_lane 51 = .ok (.aload_n 0, 1) := by decide +kernel
theorem dX9_lane_52 : decode cX9_lane 52 = .ok (.getfield 26, 3) := by decide +kernel
theorem dX9_lane_55 : decode cX9_lane 55 = .ok (.iload_n 1, 1) := by decide +kernel
theorem dX9_lane_56 : decode cX9_lane 56 = .ok (.iaload, 1) := by decide +kernel
theorem dX9_lane_57 : decode cX9_lane 57 = .ok (.goto 16, 3) := by decide +kernel
theorem dX9_lane_60 : decode cX9_lane 60 = .ok (.aload_n 0, 1) := by decide +kernel
theorem dX9_lane_61 : decode cX9_lane 61 = .ok (.iload_n 1, 1) := by decide +kernel
theorem dX9_lane_62 : decode cX9_lane 62 = .ok (.invokevirtual 138, 3) := by decide +kernel
theorem dX9_lane_65 : decode cX9_lane 65 = .ok (.ifCond .eq 7, 3) := by decide +kernel
theorem dX9_lane_68 : decode cX9_lane 68 = .ok (.iconst 1, 1) := by decide +kernel
theorem dX9_lane_69 : decode cX9_lane 69 = .ok (.goto 4, 3) := by decide +kernel
theorem dX9_lane_72 : decode cX9_lane 72 = .ok (.iconst 0, 1) := by decide +kernel
theorem dX9_lane_73 : decode cX9_lane 73 = .ok (.ireturn, 1) := by decide +kernel
theorem dX9_person_0 : decode cX9_person 0 = .ok (.aload_n 0, 1) := by decide +kernel
theorem dX9_person_1 : decode cX9_person 1 = .ok (.iload_n 1, 1) := by decide +kernel
theorem dX9_person_2 : decode cX9_person 2 = .ok (.invokevirtual 141, 3) := by decide +kernel
theorem dX9_person_5 : decode cX9_person 5 = .ok (.ifCond .ne 5, 3) := by decide +kernel
theorem dX9_person_8 : decode cX9_person 8 = .ok (.iconst (-1), 1) := by decide +kernel
theorem dX9_person_9 : decode cX9_person 9 = .ok (.ireturn, 1) := by decide +kernel
theorem dX9_person_10 : decode cX9_person 10 = .ok (.iload_n 2, 1) := by decide +kernel
theorem dX9_person_11 : decode cX9_person 11 = .ok (.tableswitch 80 0 4 #[33, 42, 51, 57, 67], 33) := by decide +kernel
theorem dX9_person_44 : decode cX9_person 44 = .ok (.aload_n 0, 1) := by decide +kernel
theorem dX9_person_45 : decode cX9_person 45 = .ok (.getfield 44, 3) := by decide +kernel
theorem dX9_person_48 : decode cX9_person 48 = .ok (.iconst 5, 1) := by decide +kernel
theorem dX9_person_49 : decode cX9_person 49 = .ok (.iload_n 1, 1) := by decide +kernel
theorem dX9_person_50 : decode cX9_person 50 = .ok (.iadd, 1) := by decide +kernel
theorem dX9_person_51 : decode cX9_person 51 = .ok (.iaload, 1) := by decide +kernel
theorem dX9_person_52 : decode cX9_person 52 = .ok (.ireturn, 1) := by decide +kernel
theorem dX9_person_53 : decode cX9_person 53 = .ok (.aload_n 0, 1) := by decide +kernel
theorem dX9_person_54 : decode cX9_person 54 = .ok (.getfield 44, 3) := by decide +kernel
theorem dX9_person_57 : decode cX9_person 57 = .ok (.iconst 0, 1) := by decide +kernel
theorem dX9_person_58 : decode cX9_person 58 = .ok (.iload_n 1, 1) := by decide +kernel
theorem dX9_person_59 : decode cX9_person 59 = .ok (.iadd, 1) := by decide +kernel
theorem dX9_person_60 : decode cX9_person 60 = .ok (.iaload, 1) := by decide +kernel
theorem dX9_person_61 : decode cX9_person 61 = .ok (.ireturn, 1) := by decide +kernel
theorem dX9_person_62 : decode cX9_person 62 = .ok (.aload_n 0, 1) := by decide +kernel
theorem dX9_person_63 : decode cX9_person 63 = .ok (.iload_n 1, 1) := by decide +kernel
theorem dX9_person_64 : decode cX9_person 64 = .ok (.invokevirtual 124, 3) := by decide +kernel
theorem dX9_person_67 : decode cX9_person 67 = .ok (.ireturn, 1) := by decide +kernel
theorem dX9_person_68 : decode cX9_person 68 = .ok (.aload_n 0, 1) := by decide +kernel
theorem dX9_person_69 : decode cX9_person 69 = .ok (.getfield 44, 3) := by decide +kernel
theorem dX9_person_72 : decode cX9_person 72 = .ok (.bipush 10, 2) := by decide +kernel
theorem dX9_person_74 : decode cX9_person 74 = .ok (.iload_n 1, 1) := by decide +kernel
theorem dX9_person_75 : decode cX9_person 75 = .ok (.iadd, 1) := by decide +kernel
theorem dX9_person_76 : decode cX9_person 76 = .ok (.iaload, 1) := by decide +kernel
theorem dX9_person_77 : decode cX9_person 77 = .ok (.ireturn, 1) := by decide +kernel
theorem dX9_person_78 : decode cX9_person 78 = .ok (.aload_n 0, 1) := by decide +kernel
theorem dX9_person_79 : decode cX9_person 79 = .ok (.iload_n 1, 1) := by decide +kernel
theorem dX9_person_80 : decode cX9_person 80 = .ok (.aload_n 0, 1) := by decide +kernel
theorem dX9_person_81 : decode cX9_person 81 = .ok (.getfield 44, 3) := by decide +kernel
theorem dX9_person_84 : decode cX9_person 84 = .ok (.bipush 15, 2) := by decide +kernel
theorem dX9_person_86 : decode cX9_person 86 = .ok (.iaload, 1) := by decide +kernel
theorem dX9_person_87 : decode cX9_person 87 = .ok (.invokevirtual 131, 3) := by decide +kernel
theorem dX9_person_90 : decode cX9_person 90 = .ok (.ireturn, 1) := by decide +kernel
theorem dX9_person_91 : decode cX9_person 91 = .ok (.iconst (-1), 1) := by decide +kernel
theorem dX9_person_92 : decode cX9_person 92 = .ok (.ireturn, 1) := by decide +kernel
theorem dX9_know_0 : decode cX9_know 0 = .ok (.aload_n 0, 1) := by decide +kernel
theorem dX9_know_1 : decode cX9_know 1 = .ok (.getfield 44, 3) := by decide +kernel
theorem dX9_know_4 : decode cX9_know 4 = .ok (.bipush 16, 2) := by decide +kernel
theorem dX9_know_6 : decode cX9_know 6 = .ok (.iaload, 1) := by decide +kernel
theorem dX9_know_7 : decode cX9_know 7 = .ok (.bipush 10, 2) := by decide +kernel
theorem dX9_know_9 : decode cX9_know 9 = .ok (.if_icmp .ne 47, 3) := by decide +kernel
theorem dX9_know_12 : decode cX9_know 12 = .ok (.iconst 0, 1) := by decide +kernel
theorem dX9_know_13 : decode cX9_know 13 = .ok (.istore_n 1, 1) := by decide +kernel
theorem dX9_know_14 : decode cX9_know 14 = .ok (.iload_n 1, 1) := by decide +kernel
theorem dX9_know_15 : decode cX9_know 15 = .ok (.sipush 144, 3) := by decide +kernel
theorem dX9_know_18 : decode cX9_know 18 = .ok (.if_icmp .ge 27, 3) := by decide +kernel
theorem dX9_know_21 : decode cX9_know 21 = .ok (.aload_n 0, 1) := by decide +kernel
theorem dX9_know_22 : decode cX9_know 22 = .ok (.getfield 44, 3) := by decide +kernel
theorem dX9_know_25 : decode cX9_know 25 = .ok (.bipush 17, 2) := by decide +kernel
theorem dX9_know_27 : decode cX9_know 27 = .ok (.iload_n 1, 1) := by decide +kernel
theorem dX9_know_28 : decode cX9_know 28 = .ok (.iadd, 1) := by decide +kernel
theorem dX9_know_29 : decode cX9_know 29 = .ok (.aload_n 0, 1) := by decide +kernel
theorem dX9_know_30 : decode cX9_know 30 = .ok (.getfield 44, 3) := by decide +kernel
theorem dX9_know_33 : decode cX9_know 33 = .ok (.bipush 33, 2) := by decide +kernel
theorem dX9_know_35 : decode cX9_know 35 = .ok (.iload_n 1, 1) := by decide +kernel
theorem dX9_know_36 : decode cX9_know 36 = .ok (.iadd, 1) := by decide +kernel
theorem dX9_know_37 : decode cX9_know 37 = .ok (.iaload, 1) := by decide +kernel
theorem dX9_know_38 : decode cX9_know 38 = .ok (.iastore, 1) := by decide +kernel
theorem dX9_know_39 : decode cX9_know 39 = .ok (.iinc 1 1, 3) := by decide +kernel
theorem dX9_know_42 : decode cX9_know 42 = .ok (.goto (-28), 3) := by decide +kernel
theorem dX9_know_45 : decode cX9_know 45 = .ok (.aload_n 0, 1) := by decide +kernel
theorem dX9_know_46 : decode cX9_know 46 = .ok (.getfield 44, 3) := by decide +kernel
theorem dX9_know_49 : decode cX9_know 49 = .ok (.bipush 16, 2) := by decide +kernel
theorem dX9_know_51 : decode cX9_know 51 = .ok (.dup2, 1) := by decide +kernel
theorem dX9_know_52 : decode cX9_know 52 = .ok (.iaload, 1) := by decide +kernel
theorem dX9_know_53 : decode cX9_know 53 = .ok (.iconst 1, 1) := by decide +kernel
theorem dX9_know_54 : decode cX9_know 54 = .ok (.isub, 1) := by decide +kernel
theorem dX9_know_55 : decode cX9_know 55 = .ok (.iastore, 1) := by decide +kernel
theorem dX9_know_56 : decode cX9_know 56 = .ok (.iconst 0, 1) := by decide +kernel
theorem dX9_know_57 : decode cX9_know 57 = .ok (.istore_n 1, 1) := by decide +kernel
theorem dX9_know_58 : decode cX9_know 58 = .ok (.iload_n 1, 1) := by decide +kernel
theorem dX9_know_59 : decode cX9_know 59 = .ok (.bipush 16, 2) := by decide +kernel
theorem dX9_know_61 : decode cX9_know 61 = .ok (.if_icmp .ge 35, 3) := by decide +kernel
theorem dX9_know_64 : decode cX9_know 64 = .ok (.aload_n 0, 1) := by decide +kernel
theorem dX9_know_65 : decode cX9_know 65 = .ok (.getfield 44, 3) := by decide +kernel
theorem dX9_know_68 : decode cX9_know 68 = .ok (.bipush 17, 2) := by decide +kernel
theorem dX9_know_70 : decode cX9_know 70 = .ok (.bipush 16, 2) := by decide +kernel
theorem dX9_know_72 : decode cX9_know 72 = .ok (.aload_n 0, 1) := by decide +kernel
theorem dX9_know_73 : decode cX9_know 73 = .ok (.getfield 44, 3) := by decide +kernel
theorem dX9_know_76 : decode cX9_know 76 = .ok (.bipush 16, 2) := by decide +kernel
theorem dX9_know_78 : decode cX9_know 78 = .ok (.iaload, 1) := by decide +kernel
theorem dX9_know_79 : decode cX9_know 79 = .ok (.imul, 1) := by decide +kernel
theorem dX9_know_80 : decode cX9_know 80 = .ok (.iadd, 1) := by decide +kernel
theorem dX9_know_81 : decode cX9_know 81 = .ok (.iload_n 1, 1) := by decide +kernel
theorem dX9_know_82 : decode cX9_know 82 = .ok (.iadd, 1) := by decide +kernel
theorem dX9_know_83 : decode cX9_know 83 = .ok (.aload_n 0, 1) := by decide +kernel
theorem dX9_know_84 : decode cX9_know 84 = .ok (.getfield 44, 3) := by decide +kernel
theorem dX9_know_87 : decode cX9_know 87 = .ok (.iload_n 1, 1) := by decide +kernel
theorem dX9_know_88 : decode cX9_know 88 = .ok (.iaload, 1) := by decide +kernel
theorem dX9_know_89 : decode cX9_know 89 = .ok (.iastore, 1) := by decide +kernel
theorem dX9_know_90 : decode cX9_know 90 = .ok (.iinc 1 1, 3) := by decide +kernel
theorem dX9_know_93 : decode cX9_know 93 = .ok (.goto (-35), 3) := by decide +kernel
theorem dX9_know_96 : decode cX9_know 96 = .ok (.aload_n 0, 1) := by decide +kernel
theorem dX9_know_97 : decode cX9_know 97 = .ok (.getfield 44, 3) := by decide +kernel
theorem dX9_know_100 : decode cX9_know 100 = .ok (.bipush 16, 2) := by decide +kernel
theorem dX9_know_102 : decode cX9_know 102 = .ok (.dup2, 1) := by decide +kernel
theorem dX9_know_103 : decode cX9_know 103 = .ok (.iaload, 1) := by decide +kernel
theorem dX9_know_104 : decode cX9_know 104 = .ok (.iconst 1, 1) := by decide +kernel
theorem dX9_know_105 : decode cX9_know 105 = .ok (.iadd, 1) := by decide +kernel
theorem dX9_know_106 : decode cX9_know 106 = .ok (.iastore, 1) := by decide +kernel
theorem dX9_know_107 : decode cX9_know 107 = .ok (.return_, 1) := by decide +kernel
theorem dX9_goes_0 : decode cX9_goes 0 = .ok (.aload_n 0, 1) := by decide +kernel
theorem dX9_goes_1 : decode cX9_goes 1 = .ok (.iload_n 1, 1) := by decide +kernel
theorem dX9_goes_2 : decode cX9_goes 2 = .ok (.invokevirtual 141, 3) := by decide +kernel
theorem dX9_goes_5 : decode cX9_goes 5 = .ok (.ifCond .eq 11, 3) := by decide +kernel
theorem dX9_goes_8 : decode cX9_goes 8 = .ok (.aload_n 0, 1) := by decide +kernel
theorem dX9_goes_9 : decode cX9_goes 9 = .ok (.iload_n 2, 1) := by decide +kernel
theorem dX9_goes_10 : decode cX9_goes 10 = .ok (.invokevirtual 134, 3) := by decide +kernel
theorem dX9_goes_13 : decode cX9_goes 13 = .ok (.ifCond .ne 5, 3) := by decide +kernel
theorem dX9_goes_16 : decode cX9_goes 16 = .ok (.iconst (-1), 1) := by decide +kernel
theorem dX9_goes_17 : decode cX9_goes 17 = .ok (.ireturn, 1) := by decide +kernel
theorem dX9_goes_18 : decode cX9_goes 18 = .ok (.aload_n 0, 1) := by decide +kernel
theorem dX9_goes_19 : decode cX9_goes 19 = .ok (.iload_n 2, 1) := by decide +kernel
theorem dX9_goes_20 : decode cX9_goes 20 = .ok (.aload_n 0, 1) := by decide +kernel
theorem dX9_goes_21 : decode cX9_goes 21 = .ok (.getfield 44, 3) := by decide +kernel
theorem dX9_goes_24 : decode cX9_goes 24 = .ok (.iconst 0, 1) := by decide +kernel
theorem dX9_goes_25 : decode cX9_goes 25 = .ok (.iload_n 1, 1) := by decide +kernel
theorem dX9_goes_26 : decode cX9_goes 26 = .ok (.iadd, 1) := by decide +kernel
theorem dX9_goes_27 : decode cX9_goes 27 = .ok (.iaload, 1) := by decide +kernel
theorem dX9_goes_28 : decode cX9_goes 28 = .ok (.invokevirtual 144, 3) := by decide +kernel
theorem dX9_goes_31 : decode cX9_goes 31 = .ok (.ifCond .eq 19, 3) := by decide +kernel
theorem dX9_goes_34 : decode cX9_goes 34 = .ok (.aload_n 0, 1) := by decide +kernel
theorem dX9_goes_35 : decode cX9_goes 35 = .ok (.iload_n 1, 1) := by decide +kernel
theorem dX9_goes_36 : decode cX9_goes 36 = .ok (.iload_n 2, 1) := by decide +kernel
theorem dX9_goes_37 : decode cX9_goes 37 = .ok (.aload_n 0, 1) := by decide +kernel
theorem dX9_goes_38 : decode cX9_goes 38 = .ok (.getfield 44, 3) := by decide +kernel
theorem dX9_goes_41 : decode cX9_goes 41 = .ok (.bipush 15, 2) := by decide +kernel
theorem dX9_goes_43 : decode cX9_goes 43 = .ok (.iaload, 1) := by decide +kernel
theorem dX9_goes_44 : decode cX9_goes 44 = .ok (.invokevirtual 128, 3) := by decide +kernel
theorem dX9_goes_47 : decode cX9_goes 47 = .ok (.ifCond .ne 6, 3) := by decide +kernel
theorem dX9_goes_50 : decode cX9_goes 50 = .ok (.bipush (-2), 2) := by decide +kernel
theorem dX9_goes_52 : decode cX9_goes 52 = .ok (.ireturn, 1) := by decide +kernel
theorem dX9_goes_53 : decode cX9_goes 53 = .ok (.aload_n 0, 1) := by decide +kernel
theorem dX9_goes_54 : decode cX9_goes 54 = .ok (.invokevirtual 147, 3) := by decide +kernel
theorem dX9_goes_57 : decode cX9_goes 57 = .ok (.aload_n 0, 1) := by decide +kernel
theorem dX9_goes_58 : decode cX9_goes 58 = .ok (.getfield 44, 3) := by decide +kernel
theorem dX9_goes_61 : decode cX9_goes 61 = .ok (.iconst 0, 1) := by decide +kernel
theorem dX9_goes_62 : decode cX9_goes 62 = .ok (.iload_n 1, 1) := by decide +kernel
theorem dX9_goes_63 : decode cX9_goes 63 = .ok (.iadd, 1) := by decide +kernel
theorem dX9_goes_64 : decode cX9_goes 64 = .ok (.aload_n 0, 1) := by decide +kernel
theorem dX9_goes_65 : decode cX9_goes 65 = .ok (.iload_n 2, 1) := by decide +kernel
theorem dX9_goes_66 : decode cX9_goes 66 = .ok (.aload_n 0, 1) := by decide +kernel
theorem dX9_goes_67 : decode cX9_goes 67 = .ok (.getfield 44, 3) := by decide +kernel
theorem dX9_goes_70 : decode cX9_goes 70 = .ok (.iconst 0, 1) := by decide +kernel
theorem dX9_goes_71 : decode cX9_goes 71 = .ok (.iload_n 1, 1) := by decide +kernel
theorem dX9_goes_72 : decode cX9_goes 72 = .ok (.iadd, 1) := by decide +kernel
theorem dX9_goes_73 : decode cX9_goes 73 = .ok (.iaload, 1) := by decide +kernel
theorem dX9_goes_74 : decode cX9_goes 74 = .ok (.invokevirtual 150, 3) := by decide +kernel
theorem dX9_goes_77 : decode cX9_goes 77 = .ok (.iastore, 1) := by decide +kernel
theorem dX9_goes_78 : decode cX9_goes 78 = .ok (.aload_n 0, 1) := by decide +kernel
theorem dX9_goes_79 : decode cX9_goes 79 = .ok (.getfield 44, 3) := by decide +kernel
theorem dX9_goes_82 : decode cX9_goes 82 = .ok (.iconst 0, 1) := by decide +kernel
theorem dX9_goes_83 : decode cX9_goes 83 = .ok (.iload_n 1, 1) := by decide +kernel
theorem dX9_goes_84 : decode cX9_goes 84 = .ok (.iadd, 1) := by decide +kernel
theorem dX9_goes_85 : decode cX9_goes 85 = .ok (.iaload, 1) := by decide +kernel
theorem dX9_goes_86 : decode cX9_goes 86 = .ok (.ireturn, 1) := by decide +kernel
theorem dX9_outcome_0 : decode cX9_outcome 0 = .ok (.aload_n 0, 1) := by decide +kernel
theorem dX9_outcome_1 : decode cX9_outcome 1 = .ok (.iload_n 3, 1) := by decide +kernel
theorem dX9_outcome_2 : decode cX9_outcome 2 = .ok (.invokevirtual 138, 3) := by decide +kernel
theorem dX9_outcome_5 : decode cX9_outcome 5 = .ok (.ifCond .eq 5, 3) := by decide +kernel
theorem dX9_outcome_8 : decode cX9_outcome 8 = .ok (.iconst 5, 1) := by decide +kernel
theorem dX9_outcome_9 : decode cX9_outcome 9 = .ok (.ireturn, 1) := by decide +kernel
theorem dX9_outcome_10 : decode cX9_outcome 10 = .ok (.aload_n 0, 1) := by decide +kernel
theorem dX9_outcome_11 : decode cX9_outcome 11 = .ok (.iload_n 1, 1) := by decide +kernel
theorem dX9_outcome_12 : decode cX9_outcome 12 = .ok (.invokevirtual 124, 3) := by decide +kernel
theorem dX9_outcome_15 : decode cX9_outcome 15 = .ok (.aload_n 0, 1) := by decide +kernel
theorem dX9_outcome_16 : decode cX9_outcome 16 = .ok (.getfield 26, 3) := by decide +kernel
theorem dX9_outcome_19 : decode cX9_outcome 19 = .ok (.iload_n 3, 1) := by decide +kernel
theorem dX9_outcome_20 : decode cX9_outcome 20 = .ok (.iaload, 1) := by decide +kernel
theorem dX9_outcome_21 : decode cX9_outcome 21 = .ok (.if_icmp .gt 17, 3) := by decide +kernel
theorem dX9_outcome_24 : decode cX9_outcome 24 = .ok (.aload_n 0, 1) := by decide +kernel
theorem dX9_outcome_25 : decode cX9_outcome 25 = .ok (.iload_n 2, 1) := by decide +kernel
theorem dX9_outcome_26 : decode cX9_outcome 26 = .ok (.invokevirtual 124, 3) := by decide +kernel
theorem dX9_outcome_29 : decode cX9_outcome 29 = .ok (.aload_n 0, 1) := by decide +kernel
theorem dX9_outcome_30 : decode cX9_outcome 30 = .ok (.getfield 26, 3) := by decide +kernel
theorem dX9_outcome_33 : decode cX9_outcome 33 = .ok (.iload_n 3, 1) := by decide +kernel
theorem dX9_outcome_34 : decode cX9_outcome 34 = .ok (.iaload, 1) := by decide +kernel
theorem dX9_outcome_35 : decode cX9_outcome 35 = .ok (.if_icmp .le 5, 3) := by decide +kernel
theorem dX9_outcome_38 : decode cX9_outcome 38 = .ok (.iconst 4, 1) := by decide +kernel
theorem dX9_outcome_39 : decode cX9_outcome 39 = .ok (.ireturn, 1) := by decide +kernel
theorem dX9_outcome_40 : decode cX9_outcome 40 = .ok (.aload_n 0, 1) := by decide +kernel
theorem dX9_outcome_41 : decode cX9_outcome 41 = .ok (.iload_n 1, 1) := by decide +kernel
theorem dX9_outcome_42 : decode cX9_outcome 42 = .ok (.invokevirtual 124, 3) := by decide +kernel
theorem dX9_outcome_45 : decode cX9_outcome 45 = .ok (.aload_n 0, 1) := by decide +kernel
theorem dX9_outcome_46 : decode cX9_outcome 46 = .ok (.iload_n 2, 1) := by decide +kernel
theorem dX9_outcome_47 : decode cX9_outcome 47 = .ok (.invokevirtual 124, 3) := by decide +kernel
theorem dX9_outcome_50 : decode cX9_outcome 50 = .ok (.iadd, 1) := by decide +kernel
theorem dX9_outcome_51 : decode cX9_outcome 51 = .ok (.aload_n 0, 1) := by decide +kernel
theorem dX9_outcome_52 : decode cX9_outcome 52 = .ok (.getfield 26, 3) := by decide +kernel
theorem dX9_outcome_55 : decode cX9_outcome 55 = .ok (.iload_n 3, 1) := by decide +kernel
theorem dX9_outcome_56 : decode cX9_outcome 56 = .ok (.iaload, 1) := by decide +kernel
theorem dX9_outcome_57 : decode cX9_outcome 57 = .ok (.if_icmp .gt 5, 3) := by decide +kernel
theorem dX9_outcome_60 : decode cX9_outcome 60 = .ok (.iconst 0, 1) := by decide +kernel
theorem dX9_outcome_61 : decode cX9_outcome 61 = .ok (.ireturn, 1) := by decide +kernel
theorem dX9_outcome_62 : decode cX9_outcome 62 = .ok (.aload_n 0, 1) := by decide +kernel
theorem dX9_outcome_63 : decode cX9_outcome 63 = .ok (.getfield 44, 3) := by decide +kernel
theorem dX9_outcome_66 : decode cX9_outcome 66 = .ok (.iconst 5, 1) := by decide +kernel
theorem dX9_outcome_67 : decode cX9_outcome 67 = .ok (.iload_n 1, 1) := by decide +kernel
theorem dX9_outcome_68 : decode cX9_outcome 68 = .ok (.iadd, 1) := by decide +kernel
theorem dX9_outcome_69 : decode cX9_outcome 69 = .ok (.iaload, 1) := by decide +kernel
theorem dX9_outcome_70 : decode cX9_outcome 70 = .ok (.istore 4, 2) := by decide +kernel
theorem dX9_outcome_72 : decode cX9_outcome 72 = .ok (.aload_n 0, 1) := by decide +kernel
theorem dX9_outcome_73 : decode cX9_outcome 73 = .ok (.getfield 44, 3) := by decide +kernel
theorem dX9_outcome_76 : decode cX9_outcome 76 = .ok (.iconst 5, 1) := by decide +kernel
theorem dX9_outcome_77 : decode cX9_outcome 77 = .ok (.iload_n 2, 1) := by decide +kernel
theorem dX9_outcome_78 : decode cX9_outcome 78 = .ok (.iadd, 1) := by decide +kernel
theorem dX9_outcome_79 : decode cX9_outcome 79 = .ok (.iaload, 1) := by decide +kernel
theorem dX9_outcome_80 : decode cX9_outcome 80 = .ok (.istore 5, 2) := by decide +kernel
theorem dX9_outcome_82 : decode cX9_outcome 82 = .ok (.iload 4, 2) := by decide +kernel
theorem dX9_outcome_84 : decode cX9_outcome 84 = .ok (.iload 5, 2) := by decide +kernel
theorem dX9_outcome_86 : decode cX9_outcome 86 = .ok (.if_icmp .le 7, 3) := by decide +kernel
theorem dX9_outcome_89 : decode cX9_outcome 89 = .ok (.iconst 1, 1) := by decide +kernel
theorem dX9_outcome_90 : decode cX9_outcome 90 = .ok (.goto 15, 3) := by decide +kernel
theorem dX9_outcome_93 : decode cX9_outcome 93 = .ok (.iload 4, 2) := by decide +kernel
theorem dX9_outcome_95 : decode cX9_outcome 95 = .ok (.iload 5, 2) := by decide +kernel
theorem dX9_outcome_97 : decode cX9_outcome 97 = .ok (.if_icmp .ge 7, 3) := by decide +kernel
theorem dX9_outcome_100 : decode cX9_outcome 100 = .ok (.iconst 2, 1) := by decide +kernel
theorem dX9_outcome_101 : decode cX9_outcome 101 = .ok (.goto 4, 3) := by decide +kernel
theorem dX9_outcome_104 : decode cX9_outcome 104 = .ok (.iconst 3, 1) := by decide +kernel
theorem dX9_outcome_105 : decode cX9_outcome 105 = .ok (.ireturn, 1) := by decide +kernel
theorem dX9_meets_0 : decode cX9_meets 0 = .ok (.aload_n 0, 1) := by decide +kernel
theorem dX9_meets_1 : decode cX9_meets 1 = .ok (.iload_n 1, 1) := by decide +kernel
theorem dX9_meets_2 : decode cX9_meets 2 = .ok (.invokevirtual 141, 3) := by decide +kernel
theorem dX9_meets_5 : decode cX9_meets 5 = .ok (.ifCond .eq 24, 3) := by decide +kernel
theorem dX9_meets_8 : decode cX9_meets 8 = .ok (.aload_n 0, 1) := by decide +kernel
theorem dX9_meets_9 : decode cX9_meets 9 = .ok (.iload_n 2, 1) := by decide +kernel
theorem dX9_meets_10 : decode cX9_meets 10 = .ok (.invokevirtual 141, 3) := by decide +kernel
theorem dX9_meets_13 : decode cX9_meets 13 = .ok (.ifCond .eq 16, 3) := by decide +kernel
theorem dX9_meets_16 : decode cX9_meets 16 = .ok (.iload_n 1, 1) := by decide +kernel
theorem dX9_meets_17 : decode cX9_meets 17 = .ok (.iload_n 2, 1) := by decide +kernel
theorem dX9_meets_18 : decode cX9_meets 18 = .ok (.if_icmp .eq 11, 3) := by decide +kernel
theorem dX9_meets_21 : decode cX9_meets 21 = .ok (.aload_n 0, 1) := by decide +kernel
theorem dX9_meets_22 : decode cX9_meets 22 = .ok (.iload_n 3, 1) := by decide +kernel
theorem dX9_meets_23 : decode cX9_meets 23 = .ok (.invokevirtual 134, 3) := by decide +kernel
theorem dX9_meets_26 : decode cX9_meets 26 = .ok (.ifCond .ne 5, 3) := by decide +kernel
theorem dX9_meets_29 : decode cX9_meets 29 = .ok (.iconst (-1), 1) := by decide +kernel
theorem dX9_meets_30 : decode cX9_meets 30 = .ok (.ireturn, 1) := by decide +kernel
theorem dX9_meets_31 : decode cX9_meets 31 = .ok (.aload_n 0, 1) := by decide +kernel
theorem dX9_meets_32 : decode cX9_meets 32 = .ok (.iload_n 1, 1) := by decide +kernel
theorem dX9_meets_33 : decode cX9_meets 33 = .ok (.iload_n 2, 1) := by decide +kernel
theorem dX9_meets_34 : decode cX9_meets 34 = .ok (.iload_n 3, 1) := by decide +kernel
theorem dX9_meets_35 : decode cX9_meets 35 = .ok (.invokevirtual 153, 3) := by decide +kernel
theorem dX9_meets_38 : decode cX9_meets 38 = .ok (.istore 4, 2) := by decide +kernel
theorem dX9_meets_40 : decode cX9_meets 40 = .ok (.aload_n 0, 1) := by decide +kernel
theorem dX9_meets_41 : decode cX9_meets 41 = .ok (.getfield 44, 3) := by decide +kernel
theorem dX9_meets_44 : decode cX9_meets 44 = .ok (.iconst 0, 1) := by decide +kernel
theorem dX9_meets_45 : decode cX9_meets 45 = .ok (.iload_n 1, 1) := by decide +kernel
theorem dX9_meets_46 : decode cX9_meets 46 = .ok (.iadd, 1) := by decide +kernel
theorem dX9_meets_47 : decode cX9_meets 47 = .ok (.iaload, 1) := by decide +kernel
theorem dX9_meets_48 : decode cX9_meets 48 = .ok (.istore 5, 2) := by decide +kernel
theorem dX9_meets_50 : decode cX9_meets 50 = .ok (.aload_n 0, 1) := by decide +kernel
theorem dX9_meets_51 : decode cX9_meets 51 = .ok (.getfield 44, 3) := by decide +kernel
theorem dX9_meets_54 : decode cX9_meets 54 = .ok (.iconst 0, 1) := by decide +kernel
theorem dX9_meets_55 : decode cX9_meets 55 = .ok (.iload_n 2, 1) := by decide +kernel
theorem dX9_meets_56 : decode cX9_meets 56 = .ok (.iadd, 1) := by decide +kernel
theorem dX9_meets_57 : decode cX9_meets 57 = .ok (.iaload, 1) := by decide +kernel
theorem dX9_meets_58 : decode cX9_meets 58 = .ok (.istore 6, 2) := by decide +kernel
theorem dX9_meets_60 : decode cX9_meets 60 = .ok (.iload 4, 2) := by decide +kernel
theorem dX9_meets_62 : decode cX9_meets 62 = .ok (.iconst 3, 1) := by decide +kernel
theorem dX9_meets_63 : decode cX9_meets 63 = .ok (.if_icmp .gt 25, 3) := by decide +kernel
theorem dX9_meets_66 : decode cX9_meets 66 = .ok (.aload_n 0, 1) := by decide +kernel
theorem dX9_meets_67 : decode cX9_meets 67 = .ok (.iload_n 3, 1) := by decide +kernel
theorem dX9_meets_68 : decode cX9_meets 68 = .ok (.iload 5, 2) := by decide +kernel
theorem dX9_meets_70 : decode cX9_meets 70 = .ok (.invokevirtual 144, 3) := by decide +kernel
theorem dX9_meets_73 : decode cX9_meets 73 = .ok (.ifCond .eq 15, 3) := by decide +kernel
theorem dX9_meets_76 : decode cX9_meets 76 = .ok (.aload_n 0, 1) := by decide +kernel
theorem dX9_meets_77 : decode cX9_meets 77 = .ok (.iload_n 3, 1) := by decide +kernel
theorem dX9_meets_78 : decode cX9_meets 78 = .ok (.iload 5, 2) := by decide +kernel
theorem dX9_meets_80 : decode cX9_meets 80 = .ok (.invokevirtual 150, 3) := by decide +kernel
theorem dX9_meets_83 : decode cX9_meets 83 = .ok (.iload 6, 2) := by decide +kernel
theorem dX9_meets_85 : decode cX9_meets 85 = .ok (.if_icmp .eq 6, 3) := by decide +kernel
theorem dX9_meets_88 : decode cX9_meets 88 = .ok (.bipush (-2), 2) := by decide +kernel
theorem dX9_meets_90 : decode cX9_meets 90 = .ok (.ireturn, 1) := by decide +kernel
theorem dX9_meets_91 : decode cX9_meets 91 = .ok (.aload_n 0, 1) := by decide +kernel
theorem dX9_meets_92 : decode cX9_meets 92 = .ok (.invokevirtual 147, 3) := by decide +kernel
theorem dX9_meets_95 : decode cX9_meets 95 = .ok (.aload_n 0, 1) := by decide +kernel
theorem dX9_meets_96 : decode cX9_meets 96 = .ok (.getfield 44, 3) := by decide +kernel
theorem dX9_meets_99 : decode cX9_meets 99 = .ok (.iconst 0, 1) := by decide +kernel
theorem dX9_meets_100 : decode cX9_meets 100 = .ok (.iload_n 1, 1) := by decide +kernel
theorem dX9_meets_101 : decode cX9_meets 101 = .ok (.iadd, 1) := by decide +kernel
theorem dX9_meets_102 : decode cX9_meets 102 = .ok (.iload 4, 2) := by decide +kernel
theorem dX9_meets_104 : decode cX9_meets 104 = .ok (.iconst 2, 1) := by decide +kernel
theorem dX9_meets_105 : decode cX9_meets 105 = .ok (.if_icmp .ge 8, 3) := by decide +kernel
theorem dX9_meets_108 : decode cX9_meets 108 = .ok (.iload 6, 2) := by decide +kernel
theorem dX9_meets_110 : decode cX9_meets 110 = .ok (.goto 5, 3) := by decide +kernel
theorem dX9_meets_113 : decode cX9_meets 113 = .ok (.iload 5, 2) := by decide +kernel
theorem dX9_meets_115 : decode cX9_meets 115 = .ok (.iastore, 1) := by decide +kernel
theorem dX9_meets_116 : decode cX9_meets 116 = .ok (.aload_n 0, 1) := by decide +kernel
theorem dX9_meets_117 : decode cX9_meets 117 = .ok (.getfield 44, 3) := by decide +kernel
theorem dX9_meets_120 : decode cX9_meets 120 = .ok (.iconst 0, 1) := by decide +kernel
theorem dX9_meets_121 : decode cX9_meets 121 = .ok (.iload_n 2, 1) := by decide +kernel
theorem dX9_meets_122 : decode cX9_meets 122 = .ok (.iadd, 1) := by decide +kernel
theorem dX9_meets_123 : decode cX9_meets 123 = .ok (.iload 4, 2) := by decide +kernel
theorem dX9_meets_125 : decode cX9_meets 125 = .ok (.ifCond .eq 9, 3) := by decide +kernel
theorem dX9_meets_128 : decode cX9_meets 128 = .ok (.iload 4, 2) := by decide +kernel
theorem dX9_meets_130 : decode cX9_meets 130 = .ok (.iconst 2, 1) := by decide +kernel
theorem dX9_meets_131 : decode cX9_meets 131 = .ok (.if_icmp .ne 8, 3) := by decide +kernel
theorem dX9_meets_134 : decode cX9_meets 134 = .ok (.iload 5, 2) := by decide +kernel
theorem dX9_meets_136 : decode cX9_meets 136 = .ok (.goto 5, 3) := by decide +kernel
theorem dX9_meets_139 : decode cX9_meets 139 = .ok (.iload 6, 2) := by decide +kernel
theorem dX9_meets_141 : decode cX9_meets 141 = .ok (.iastore, 1) := by decide +kernel
theorem dX9_meets_142 : decode cX9_meets 142 = .ok (.aload_n 0, 1) := by decide +kernel
theorem dX9_meets_143 : decode cX9_meets 143 = .ok (.getfield 44, 3) := by decide +kernel
theorem dX9_meets_146 : decode cX9_meets 146 = .ok (.bipush 10, 2) := by decide +kernel
theorem dX9_meets_148 : decode cX9_meets 148 = .ok (.iload_n 1, 1) := by decide +kernel
theorem dX9_meets_149 : decode cX9_meets 149 = .ok (.iadd, 1) := by decide +kernel
theorem dX9_meets_150 : decode cX9_meets 150 = .ok (.dup2, 1) := by decide +kernel
theorem dX9_meets_151 : decode cX9_meets 151 = .ok (.iaload, 1) := by decide +kernel
theorem dX9_meets_152 : decode cX9_meets 152 = .ok (.iload 4, 2) := by decide +kernel
theorem dX9_meets_154 : decode cX9_meets 154 = .ok (.iconst 2, 1) := by decide +kernel
theorem dX9_meets_155 : decode cX9_meets 155 = .ok (.if_icmp .ne 7, 3) := by decide +kernel
theorem dX9_meets_158 : decode cX9_meets 158 = .ok (.iconst 1, 1) := by decide +kernel
theorem dX9_meets_159 : decode cX9_meets 159 = .ok (.goto 4, 3) := by decide +kernel
theorem dX9_meets_162 : decode cX9_meets 162 = .ok (.iconst 0, 1) := by decide +kernel
theorem dX9_meets_163 : decode cX9_meets 163 = .ok (.iadd, 1) := by decide +kernel
theorem dX9_meets_164 : decode cX9_meets 164 = .ok (.iastore, 1) := by decide +kernel
theorem dX9_meets_165 : decode cX9_meets 165 = .ok (.aload_n 0, 1) := by decide +kernel
theorem dX9_meets_166 : decode cX9_meets 166 = .ok (.getfield 44, 3) := by decide +kernel
theorem dX9_meets_169 : decode cX9_meets 169 = .ok (.bipush 10, 2) := by decide +kernel
theorem dX9_meets_171 : decode cX9_meets 171 = .ok (.iload_n 2, 1) := by decide +kernel
theorem dX9_meets_172 : decode cX9_meets 172 = .ok (.iadd, 1) := by decide +kernel
theorem dX9_meets_173 : decode cX9_meets 173 = .ok (.dup2, 1) := by decide +kernel
theorem dX9_meets_174 : decode cX9_meets 174 = .ok (.iaload, 1) := by decide +kernel
theorem dX9_meets_175 : decode cX9_meets 175 = .ok (.iload 4, 2) := by decide +kernel
theorem dX9_meets_177 : decode cX9_meets 177 = .ok (.iconst 1, 1) := by decide +kernel
theorem dX9_meets_178 : decode cX9_meets 178 = .ok (.if_icmp .ne 7, 3) := by decide +kernel
theorem dX9_meets_181 : decode cX9_meets 181 = .ok (.iconst 1, 1) := by decide +kernel
theorem dX9_meets_182 : decode cX9_meets 182 = .ok (.goto 4, 3) := by decide +kernel
theorem dX9_meets_185 : decode cX9_meets 185 = .ok (.iconst 0, 1) := by decide +kernel
theorem dX9_meets_186 : decode cX9_meets 186 = .ok (.iadd, 1) := by decide +kernel
theorem dX9_meets_187 : decode cX9_meets 187 = .ok (.iastore, 1) := by decide +kernel
theorem dX9_meets_188 : decode cX9_meets 188 = .ok (.aload_n 0, 1) := by decide +kernel
theorem dX9_meets_189 : decode cX9_meets 189 = .ok (.getfield 44, 3) := by decide +kernel
theorem dX9_meets_192 : decode cX9_meets 192 = .ok (.bipush 15, 2) := by decide +kernel
theorem dX9_meets_194 : decode cX9_meets 194 = .ok (.dup2, 1) := by decide +kernel
theorem dX9_meets_195 : decode cX9_meets 195 = .ok (.iaload, 1) := by decide +kernel
theorem dX9_meets_196 : decode cX9_meets 196 = .ok (.iload 4, 2) := by decide +kernel
theorem dX9_meets_198 : decode cX9_meets 198 = .ok (.iconst 3, 1) := by decide +kernel
theorem dX9_meets_199 : decode cX9_meets 199 = .ok (.if_icmp .ne 9, 3) := by decide +kernel
theorem dX9_meets_202 : decode cX9_meets 202 = .ok (.iconst 1, 1) := by decide +kernel
theorem dX9_meets_203 : decode cX9_meets 203 = .ok (.iload_n 3, 1) := by decide +kernel
theorem dX9_meets_204 : decode cX9_meets 204 = .ok (.ishl, 1) := by decide +kernel
theorem dX9_meets_205 : decode cX9_meets 205 = .ok (.goto 4, 3) := by decide +kernel
theorem dX9_meets_208 : decode cX9_meets 208 = .ok (.iconst 0, 1) := by decide +kernel
theorem dX9_meets_209 : decode cX9_meets 209 = .ok (.ior, 1) := by decide +kernel
theorem dX9_meets_210 : decode cX9_meets 210 = .ok (.iastore, 1) := by decide +kernel
theorem dX9_meets_211 : decode cX9_meets 211 = .ok (.iload 4, 2) := by decide +kernel
theorem dX9_meets_213 : decode cX9_meets 213 = .ok (.ireturn, 1) := by decide +kernel
theorem dX9_claims_0 : decode cX9_claims 0 = .ok (.aload_n 0, 1) := by decide +kernel
theorem dX9_claims_1 : decode cX9_claims 1 = .ok (.iload_n 1, 1) := by decide +kernel
theorem dX9_claims_2 : decode cX9_claims 2 = .ok (.invokevirtual 141, 3) := by decide +kernel
theorem dX9_claims_5 : decode cX9_claims 5 = .ok (.ifCond .eq 16, 3) := by decide +kernel
theorem dX9_claims_8 : decode cX9_claims 8 = .ok (.aload_n 0, 1) := by decide +kernel
theorem dX9_claims_9 : decode cX9_claims 9 = .ok (.iload_n 2, 1) := by decide +kernel
theorem dX9_claims_10 : decode cX9_claims 10 = .ok (.invokevirtual 141, 3) := by decide +kernel
theorem dX9_claims_13 : decode cX9_claims 13 = .ok (.ifCond .eq 8, 3) := by decide +kernel
theorem dX9_claims_16 : decode cX9_claims 16 = .ok (.iload_n 1, 1) := by decide +kernel
theorem dX9_claims_17 : decode cX9_claims 17 = .ok (.iload_n 2, 1) := by decide +kernel
theorem dX9_claims_18 : decode cX9_claims 18 = .ok (.if_icmp .ne 5, 3) := by decide +kernel
theorem dX9_claims_21 : decode cX9_claims 21 = .ok (.iconst (-1), 1) := by decide +kernel
theorem dX9_claims_22 : decode cX9_claims 22 = .ok (.ireturn, 1) := by decide +kernel
theorem dX9_claims_23 : decode cX9_claims 23 = .ok (.aload_n 0, 1) := by decide +kernel
theorem dX9_claims_24 : decode cX9_claims 24 = .ok (.getfield 44, 3) := by decide +kernel
theorem dX9_claims_27 : decode cX9_claims 27 = .ok (.iconst 5, 1) := by decide +kernel
theorem dX9_claims_28 : decode cX9_claims 28 = .ok (.iload_n 1, 1) := by decide +kernel
theorem dX9_claims_29 : decode cX9_claims 29 = .ok (.iadd, 1) := by decide +kernel
theorem dX9_claims_30 : decode cX9_claims 30 = .ok (.iaload, 1) := by decide +kernel
theorem dX9_claims_31 : decode cX9_claims 31 = .ok (.istore_n 3, 1) := by decide +kernel
theorem dX9_claims_32 : decode cX9_claims 32 = .ok (.aload_n 0, 1) := by decide +kernel
theorem dX9_claims_33 : decode cX9_claims 33 = .ok (.getfield 44, 3) := by decide +kernel
theorem dX9_claims_36 : decode cX9_claims 36 = .ok (.iconst 5, 1) := by decide +kernel
theorem dX9_claims_37 : decode cX9_claims 37 = .ok (.iload_n 2, 1) := by decide +kernel
theorem dX9_claims_38 : decode cX9_claims 38 = .ok (.iadd, 1) := by decide +kernel
theorem dX9_claims_39 : decode cX9_claims 39 = .ok (.iaload, 1) := by decide +kernel
theorem dX9_claims_40 : decode cX9_claims 40 = .ok (.istore 4, 2) := by decide +kernel
theorem dX9_claims_42 : decode cX9_claims 42 = .ok (.aload_n 0, 1) := by decide +kernel
theorem dX9_claims_43 : decode cX9_claims 43 = .ok (.getfield 44, 3) := by decide +kernel
theorem dX9_claims_46 : decode cX9_claims 46 = .ok (.iconst 0, 1) := by decide +kernel
theorem dX9_claims_47 : decode cX9_claims 47 = .ok (.iload_n 1, 1) := by decide +kernel
theorem dX9_claims_48 : decode cX9_claims 48 = .ok (.iadd, 1) := by decide +kernel
theorem dX9_claims_49 : decode cX9_claims 49 = .ok (.iaload, 1) := by decide +kernel
theorem dX9_claims_50 : decode cX9_claims 50 = .ok (.aload_n 0, 1) := by decide +kernel
theorem dX9_claims_51 : decode cX9_claims 51 = .ok (.getfield 44, 3) := by decide +kernel
theorem dX9_claims_54 : decode cX9_claims 54 = .ok (.iconst 0, 1) := by decide +kernel
theorem dX9_claims_55 : decode cX9_claims 55 = .ok (.iload_n 2, 1) := by decide +kernel
theorem dX9_claims_56 : decode cX9_claims 56 = .ok (.iadd, 1) := by decide +kernel
theorem dX9_claims_57 : decode cX9_claims 57 = .ok (.iaload, 1) := by decide +kernel
theorem dX9_claims_58 : decode cX9_claims 58 = .ok (.if_icmp .ne 20, 3) := by decide +kernel
theorem dX9_claims_61 : decode cX9_claims 61 = .ok (.iload_n 3, 1) := by decide +kernel
theorem dX9_claims_62 : decode cX9_claims 62 = .ok (.iload 4, 2) := by decide +kernel
theorem dX9_claims_64 : decode cX9_claims 64 = .ok (.if_icmp .le 14, 3) := by decide +kernel
theorem dX9_claims_67 : decode cX9_claims 67 = .ok (.iload_n 3, 1) := by decide +kernel
theorem dX9_claims_68 : decode cX9_claims 68 = .ok (.bipush 9, 2) := by decide +kernel
theorem dX9_claims_70 : decode cX9_claims 70 = .ok (.if_icmp .eq 8, 3) := by decide +kernel
theorem dX9_claims_73 : decode cX9_claims 73 = .ok (.iload 4, 2) := by decide +kernel
theorem dX9_claims_75 : decode cX9_claims 75 = .ok (.ifCond .ne 6, 3) := by decide +kernel
theorem dX9_claims_78 : decode cX9_claims 78 = .ok (.bipush (-2), 2) := by decide +kernel
theorem dX9_claims_80 : decode cX9_claims 80 = .ok (.ireturn, 1) := by decide +kernel
theorem dX9_claims_81 : decode cX9_claims 81 = .ok (.aload_n 0, 1) := by decide +kernel
theorem dX9_claims_82 : decode cX9_claims 82 = .ok (.invokevirtual 147, 3) := by decide +kernel
theorem dX9_claims_85 : decode cX9_claims 85 = .ok (.aload_n 0, 1) := by decide +kernel
theorem dX9_claims_86 : decode cX9_claims 86 = .ok (.getfield 44, 3) := by decide +kernel
theorem dX9_claims_89 : decode cX9_claims 89 = .ok (.iconst 5, 1) := by decide +kernel
theorem dX9_claims_90 : decode cX9_claims 90 = .ok (.iload_n 1, 1) := by decide +kernel
theorem dX9_claims_91 : decode cX9_claims 91 = .ok (.iadd, 1) := by decide +kernel
theorem dX9_claims_92 : decode cX9_claims 92 = .ok (.dup2, 1) := by decide +kernel
theorem dX9_claims_93 : decode cX9_claims 93 = .ok (.iaload, 1) := by decide +kernel
theorem dX9_claims_94 : decode cX9_claims 94 = .ok (.iconst 1, 1) := by decide +kernel
theorem dX9_claims_95 : decode cX9_claims 95 = .ok (.iadd, 1) := by decide +kernel
theorem dX9_claims_96 : decode cX9_claims 96 = .ok (.iastore, 1) := by decide +kernel
theorem dX9_claims_97 : decode cX9_claims 97 = .ok (.aload_n 0, 1) := by decide +kernel
theorem dX9_claims_98 : decode cX9_claims 98 = .ok (.getfield 44, 3) := by decide +kernel
theorem dX9_claims_101 : decode cX9_claims 101 = .ok (.iconst 5, 1) := by decide +kernel
theorem dX9_claims_102 : decode cX9_claims 102 = .ok (.iload_n 2, 1) := by decide +kernel
theorem dX9_claims_103 : decode cX9_claims 103 = .ok (.iadd, 1) := by decide +kernel
theorem dX9_claims_104 : decode cX9_claims 104 = .ok (.dup2, 1) := by decide +kernel
theorem dX9_claims_105 : decode cX9_claims 105 = .ok (.iaload, 1) := by decide +kernel
theorem dX9_claims_106 : decode cX9_claims 106 = .ok (.iconst 1, 1) := by decide +kernel
theorem dX9_claims_107 : decode cX9_claims 107 = .ok (.isub, 1) := by decide +kernel
theorem dX9_claims_108 : decode cX9_claims 108 = .ok (.iastore, 1) := by decide +kernel
theorem dX9_claims_109 : decode cX9_claims 109 = .ok (.aload_n 0, 1) := by decide +kernel
theorem dX9_claims_110 : decode cX9_claims 110 = .ok (.getfield 44, 3) := by decide +kernel
theorem dX9_claims_113 : decode cX9_claims 113 = .ok (.iconst 5, 1) := by decide +kernel
theorem dX9_claims_114 : decode cX9_claims 114 = .ok (.iload_n 1, 1) := by decide +kernel
theorem dX9_claims_115 : decode cX9_claims 115 = .ok (.iadd, 1) := by decide +kernel
theorem dX9_claims_116 : decode cX9_claims 116 = .ok (.iaload, 1) := by decide +kernel
theorem dX9_claims_117 : decode cX9_claims 117 = .ok (.ireturn, 1) := by decide +kernel
theorem dX9_patents_0 : decode cX9_patents 0 = .ok (.aload_n 0, 1) := by decide +kernel
theorem dX9_patents_1 : decode cX9_patents 1 = .ok (.iload_n 1, 1) := by decide +kernel
theorem dX9_patents_2 : decode cX9_patents 2 = .ok (.invokevirtual 141, 3) := by decide +kernel
theorem dX9_patents_5 : decode cX9_patents 5 = .ok (.ifCond .eq 13, 3) := by decide +kernel
theorem dX9_patents_8 : decode cX9_patents 8 = .ok (.iload_n 2, 1) := by decide +kernel
theorem dX9_patents_9 : decode cX9_patents 9 = .ok (.iconst 0, 1) := by decide +kernel
theorem dX9_patents_10 : decode cX9_patents 10 = .ok (.bipush 9, 2) := by decide +kernel
theorem dX9_patents_12 : decode cX9_patents 12 = .ok (.invokestatic 72, 3) := by decide +kernel
theorem dX9_patents_15 : decode cX9_patents 15 = .ok (.ifCond .ne 5, 3) := by decide +kernel
theorem dX9_patents_18 : decode cX9_patents 18 = .ok (.iconst (-1), 1) := by decide +kernel
theorem dX9_patents_19 : decode cX9_patents 19 = .ok (.ireturn, 1) := by decide +kernel
theorem dX9_patents_20 : decode cX9_patents 20 = .ok (.aload_n 0, 1) := by decide +kernel
theorem dX9_patents_21 : decode cX9_patents 21 = .ok (.getfield 44, 3) := by decide +kernel
theorem dX9_patents_24 : decode cX9_patents 24 = .ok (.iconst 5, 1) := by decide +kernel
theorem dX9_patents_25 : decode cX9_patents 25 = .ok (.iload_n 1, 1) := by decide +kernel
theorem dX9_patents_26 : decode cX9_patents 26 = .ok (.iadd, 1) := by decide +kernel
theorem dX9_patents_27 : decode cX9_patents 27 = .ok (.iaload, 1) := by decide +kernel
theorem dX9_patents_28 : decode cX9_patents 28 = .ok (.istore_n 3, 1) := by decide +kernel
theorem dX9_patents_29 : decode cX9_patents 29 = .ok (.iload_n 3, 1) := by decide +kernel
theorem dX9_patents_30 : decode cX9_patents 30 = .ok (.iload_n 2, 1) := by decide +kernel
theorem dX9_patents_31 : decode cX9_patents 31 = .ok (.if_icmp .ne 6, 3) := by decide +kernel
theorem dX9_patents_34 : decode cX9_patents 34 = .ok (.bipush (-2), 2) := by decide +kernel
theorem dX9_patents_36 : decode cX9_patents 36 = .ok (.ireturn, 1) := by decide +kernel
theorem dX9_patents_37 : decode cX9_patents 37 = .ok (.aload_n 0, 1) := by decide +kernel
theorem dX9_patents_38 : decode cX9_patents 38 = .ok (.invokevirtual 147, 3) := by decide +kernel
theorem dX9_patents_41 : decode cX9_patents 41 = .ok (.aload_n 0, 1) := by decide +kernel
theorem dX9_patents_42 : decode cX9_patents 42 = .ok (.getfield 44, 3) := by decide +kernel
theorem dX9_patents_45 : decode cX9_patents 45 = .ok (.iconst 5, 1) := by decide +kernel
theorem dX9_patents_46 : decode cX9_patents 46 = .ok (.iload_n 1, 1) := by decide +kernel
theorem dX9_patents_47 : decode cX9_patents 47 = .ok (.iadd, 1) := by decide +kernel
theorem dX9_patents_48 : decode cX9_patents 48 = .ok (.iload_n 2, 1) := by decide +kernel
theorem dX9_patents_49 : decode cX9_patents 49 = .ok (.iastore, 1) := by decide +kernel
theorem dX9_patents_50 : decode cX9_patents 50 = .ok (.iload_n 3, 1) := by decide +kernel
theorem dX9_patents_51 : decode cX9_patents 51 = .ok (.ireturn, 1) := by decide +kernel
theorem dX9_shuts_0 : decode cX9_shuts 0 = .ok (.aload_n 0, 1) := by decide +kernel
theorem dX9_shuts_1 : decode cX9_shuts 1 = .ok (.iload_n 1, 1) := by decide +kernel
theorem dX9_shuts_2 : decode cX9_shuts 2 = .ok (.invokevirtual 134, 3) := by decide +kernel
theorem dX9_shuts_5 : decode cX9_shuts 5 = .ok (.ifCond .eq 12, 3) := by decide +kernel
theorem dX9_shuts_8 : decode cX9_shuts 8 = .ok (.iload_n 2, 1) := by decide +kernel
theorem dX9_shuts_9 : decode cX9_shuts 9 = .ok (.iconst 0, 1) := by decide +kernel
theorem dX9_shuts_10 : decode cX9_shuts 10 = .ok (.iconst 1, 1) := by decide +kernel
theorem dX9_shuts_11 : decode cX9_shuts 11 = .ok (.invokestatic 72, 3) := by decide +kernel
theorem dX9_shuts_14 : decode cX9_shuts 14 = .ok (.ifCond .ne 5, 3) := by decide +kernel
theorem dX9_shuts_17 : decode cX9_shuts 17 = .ok (.iconst (-1), 1) := by decide +kernel
theorem dX9_shuts_18 : decode cX9_shuts 18 = .ok (.ireturn, 1) := by decide +kernel
theorem dX9_shuts_19 : decode cX9_shuts 19 = .ok (.aload_n 0, 1) := by decide +kernel
theorem dX9_shuts_20 : decode cX9_shuts 20 = .ok (.getfield 44, 3) := by decide +kernel
theorem dX9_shuts_23 : decode cX9_shuts 23 = .ok (.bipush 15, 2) := by decide +kernel
theorem dX9_shuts_25 : decode cX9_shuts 25 = .ok (.iaload, 1) := by decide +kernel
theorem dX9_shuts_26 : decode cX9_shuts 26 = .ok (.iload_n 1, 1) := by decide +kernel
theorem dX9_shuts_27 : decode cX9_shuts 27 = .ok (.ishr, 1) := by decide +kernel
theorem dX9_shuts_28 : decode cX9_shuts 28 = .ok (.iconst 1, 1) := by decide +kernel
theorem dX9_shuts_29 : decode cX9_shuts 29 = .ok (.iand, 1) := by decide +kernel
theorem dX9_shuts_30 : decode cX9_shuts 30 = .ok (.iload_n 2, 1) := by decide +kernel
theorem dX9_shuts_31 : decode cX9_shuts 31 = .ok (.if_icmp .ne 6, 3) := by decide +kernel
theorem dX9_shuts_34 : decode cX9_shuts 34 = .ok (.bipush (-2), 2) := by decide +kernel
theorem dX9_shuts_36 : decode cX9_shuts 36 = .ok (.ireturn, 1) := by decide +kernel
theorem dX9_shuts_37 : decode cX9_shuts 37 = .ok (.aload_n 0, 1) := by decide +kernel
theorem dX9_shuts_38 : decode cX9_shuts 38 = .ok (.invokevirtual 147, 3) := by decide +kernel
theorem dX9_shuts_41 : decode cX9_shuts 41 = .ok (.aload_n 0, 1) := by decide +kernel
theorem dX9_shuts_42 : decode cX9_shuts 42 = .ok (.getfield 44, 3) := by decide +kernel
theorem dX9_shuts_45 : decode cX9_shuts 45 = .ok (.bipush 15, 2) := by decide +kernel
theorem dX9_shuts_47 : decode cX9_shuts 47 = .ok (.dup2, 1) := by decide +kernel
theorem dX9_shuts_48 : decode cX9_shuts 48 = .ok (.iaload, 1) := by decide +kernel
theorem dX9_shuts_49 : decode cX9_shuts 49 = .ok (.iconst 1, 1) := by decide +kernel
theorem dX9_shuts_50 : decode cX9_shuts 50 = .ok (.iload_n 1, 1) := by decide +kernel
theorem dX9_shuts_51 : decode cX9_shuts 51 = .ok (.ishl, 1) := by decide +kernel
theorem dX9_shuts_52 : decode cX9_shuts 52 = .ok (.ixor, 1) := by decide +kernel
theorem dX9_shuts_53 : decode cX9_shuts 53 = .ok (.iastore, 1) := by decide +kernel
theorem dX9_shuts_54 : decode cX9_shuts 54 = .ok (.aload_n 0, 1) := by decide +kernel
theorem dX9_shuts_55 : decode cX9_shuts 55 = .ok (.getfield 44, 3) := by decide +kernel
theorem dX9_shuts_58 : decode cX9_shuts 58 = .ok (.bipush 15, 2) := by decide +kernel
theorem dX9_shuts_60 : decode cX9_shuts 60 = .ok (.iaload, 1) := by decide +kernel
theorem dX9_shuts_61 : decode cX9_shuts 61 = .ok (.invokestatic 157, 3) := by decide +kernel
theorem dX9_shuts_64 : decode cX9_shuts 64 = .ok (.ireturn, 1) := by decide +kernel
theorem dX9_undo_0 : decode cX9_undo 0 = .ok (.aload_n 0, 1) := by decide +kernel
theorem dX9_undo_1 : decode cX9_undo 1 = .ok (.getfield 44, 3) := by decide +kernel
theorem dX9_undo_4 : decode cX9_undo 4 = .ok (.bipush 16, 2) := by decide +kernel
theorem dX9_undo_6 : decode cX9_undo 6 = .ok (.iaload, 1) := by decide +kernel
theorem dX9_undo_7 : decode cX9_undo 7 = .ok (.ifCond .ne 6, 3) := by decide +kernel
theorem dX9_undo_10 : decode cX9_undo 10 = .ok (.bipush (-2), 2) := by decide +kernel
theorem dX9_undo_12 : decode cX9_undo 12 = .ok (.ireturn, 1) := by decide +kernel
theorem dX9_undo_13 : decode cX9_undo 13 = .ok (.aload_n 0, 1) := by decide +kernel
theorem dX9_undo_14 : decode cX9_undo 14 = .ok (.getfield 44, 3) := by decide +kernel
theorem dX9_undo_17 : decode cX9_undo 17 = .ok (.bipush 16, 2) := by decide +kernel
theorem dX9_undo_19 : decode cX9_undo 19 = .ok (.dup2, 1) := by decide +kernel
theorem dX9_undo_20 : decode cX9_undo 20 = .ok (.iaload, 1) := by decide +kernel
theorem dX9_undo_21 : decode cX9_undo 21 = .ok (.iconst 1, 1) := by decide +kernel
theorem dX9_undo_22 : decode cX9_undo 22 = .ok (.isub, 1) := by decide +kernel
theorem dX9_undo_23 : decode cX9_undo 23 = .ok (.iastore, 1) := by decide +kernel
theorem dX9_undo_24 : decode cX9_undo 24 = .ok (.iconst 0, 1) := by decide +kernel
theorem dX9_undo_25 : decode cX9_undo 25 = .ok (.istore_n 1, 1) := by decide +kernel
theorem dX9_undo_26 : decode cX9_undo 26 = .ok (.iload_n 1, 1) := by decide +kernel
theorem dX9_undo_27 : decode cX9_undo 27 = .ok (.bipush 16, 2) := by decide +kernel
theorem dX9_undo_29 : decode cX9_undo 29 = .ok (.if_icmp .ge 35, 3) := by decide +kernel
theorem dX9_undo_32 : decode cX9_undo 32 = .ok (.aload_n 0, 1) := by decide +kernel
theorem dX9_undo_33 : decode cX9_undo 33 = .ok (.getfield 44, 3) := by decide +kernel
theorem dX9_undo_36 : decode cX9_undo 36 = .ok (.iload_n 1, 1) := by decide +kernel
theorem dX9_undo_37 : decode cX9_undo 37 = .ok (.aload_n 0, 1) := by decide +kernel
theorem dX9_undo_38 : decode cX9_undo 38 = .ok (.getfield 44, 3) := by decide +kernel
theorem dX9_undo_41 : decode cX9_undo 41 = .ok (.bipush 17, 2) := by decide +kernel
theorem dX9_undo_43 : decode cX9_undo 43 = .ok (.bipush 16, 2) := by decide +kernel
theorem dX9_undo_45 : decode cX9_undo 45 = .ok (.aload_n 0, 1) := by decide +kernel
theorem dX9_undo_46 : decode cX9_undo 46 = .ok (.getfield 44, 3) := by decide +kernel
theorem dX9_undo_49 : decode cX9_undo 49 = .ok (.bipush 16, 2) := by decide +kernel
theorem dX9_undo_51 : decode cX9_undo 51 = .ok (.iaload, 1) := by decide +kernel
theorem dX9_undo_52 : decode cX9_undo 52 = .ok (.imul, 1) := by decide +kernel
theorem dX9_undo_53 : decode cX9_undo 53 = .ok (.iadd, 1) := by decide +kernel
theorem dX9_undo_54 : decode cX9_undo 54 = .ok (.iload_n 1, 1) := by decide +kernel
theorem dX9_undo_55 : decode cX9_undo 55 = .ok (.iadd, 1) := by decide +kernel
theorem dX9_undo_56 : decode cX9_undo 56 = .ok (.iaload, 1) := by decide +kernel
theorem dX9_undo_57 : decode cX9_undo 57 = .ok (.iastore, 1) := by decide +kernel
theorem dX9_undo_58 : decode cX9_undo 58 = .ok (.iinc 1 1, 3) := by decide +kernel
theorem dX9_undo_61 : decode cX9_undo 61 = .ok (.goto (-35), 3) := by decide +kernel
theorem dX9_undo_64 : decode cX9_undo 64 = .ok (.aload_n 0, 1) := by decide +kernel
theorem dX9_undo_65 : decode cX9_undo 65 = .ok (.getfield 44, 3) := by decide +kernel
theorem dX9_undo_68 : decode cX9_undo 68 = .ok (.bipush 16, 2) := by decide +kernel
theorem dX9_undo_70 : decode cX9_undo 70 = .ok (.iaload, 1) := by decide +kernel
theorem dX9_undo_71 : decode cX9_undo 71 = .ok (.ireturn, 1) := by decide +kernel
theorem dX9_now_0 : decode cX9_now 0 = .ok (.iconst 0, 1) := by decide +kernel
theorem dX9_now_1 : decode cX9_now 1 = .ok (.istore_n 2, 1) := by decide +kernel
theorem dX9_now_2 : decode cX9_now 2 = .ok (.iload_n 1, 1) := by decide +kernel
theorem dX9_now_3 : decode cX9_now 3 = .ok (.tableswitch 149 0 3 #[29, 37, 69, 100], 29) := by decide +kernel
theorem dX9_now_32 : decode cX9_now 32 = .ok (.aload_n 0, 1) := by decide +kernel
theorem dX9_now_33 : decode cX9_now 33 = .ok (.getfield 44, 3) := by decide +kernel
theorem dX9_now_36 : decode cX9_now 36 = .ok (.bipush 15, 2) := by decide +kernel
theorem dX9_now_38 : decode cX9_now 38 = .ok (.iaload, 1) := by decide +kernel
theorem dX9_now_39 : decode cX9_now 39 = .ok (.ireturn, 1) := by decide +kernel
theorem dX9_now_40 : decode cX9_now 40 = .ok (.iconst 0, 1) := by decide +kernel
theorem dX9_now_41 : decode cX9_now 41 = .ok (.istore_n 3, 1) := by decide +kernel
theorem dX9_now_42 : decode cX9_now 42 = .ok (.iload_n 3, 1) := by decide +kernel
theorem dX9_now_43 : decode cX9_now 43 = .ok (.aload_n 0, 1) := by decide +kernel
theorem dX9_now_44 : decode cX9_now 44 = .ok (.getfield 29, 3) := by decide +kernel
theorem dX9_now_47 : decode cX9_now 47 = .ok (.iconst 0, 1) := by decide +kernel
theorem dX9_now_48 : decode cX9_now 48 = .ok (.iaload, 1) := by decide +kernel
theorem dX9_now_49 : decode cX9_now 49 = .ok (.if_icmp .ge 21, 3) := by decide +kernel
theorem dX9_now_52 : decode cX9_now 52 = .ok (.iload_n 2, 1) := by decide +kernel
theorem dX9_now_53 : decode cX9_now 53 = .ok (.aload_n 0, 1) := by decide +kernel
theorem dX9_now_54 : decode cX9_now 54 = .ok (.getfield 44, 3) := by decide +kernel
theorem dX9_now_57 : decode cX9_now 57 = .ok (.bipush 10, 2) := by decide +kernel
theorem dX9_now_59 : decode cX9_now 59 = .ok (.iload_n 3, 1) := by decide +kernel
theorem dX9_now_60 : decode cX9_now 60 = .ok (.iadd, 1) := by decide +kernel
theorem dX9_now_61 : decode cX9_now 61 = .ok (.iaload, 1) := by decide +kernel
theorem dX9_now_62 : decode cX9_now 62 = .ok (.iadd, 1) := by decide +kernel
theorem dX9_now_63 : decode cX9_now 63 = .ok (.istore_n 2, 1) := by decide +kernel
theorem dX9_now_64 : decode cX9_now 64 = .ok (.iinc 3 1, 3) := by decide +kernel
theorem dX9_now_67 : decode cX9_now 67 = .ok (.goto (-25), 3) := by decide +kernel
theorem dX9_now_70 : decode cX9_now 70 = .ok (.iload_n 2, 1) := by decide +kernel
theorem dX9_now_71 : decode cX9_now 71 = .ok (.ireturn, 1) := by decide +kernel
theorem dX9_now_72 : decode cX9_now 72 = .ok (.iconst 0, 1) := by decide +kernel
theorem dX9_now_73 : decode cX9_now 73 = .ok (.istore_n 3, 1) := by decide +kernel
theorem dX9_now_74 : decode cX9_now 74 = .ok (.iload_n 3, 1) := by decide +kernel
theorem dX9_now_75 : decode cX9_now 75 = .ok (.aload_n 0, 1) := by decide +kernel
theorem dX9_now_76 : decode cX9_now 76 = .ok (.getfield 29, 3) := by decide +kernel
theorem dX9_now_79 : decode cX9_now 79 = .ok (.iconst 0, 1) := by decide +kernel
theorem dX9_now_80 : decode cX9_now 80 = .ok (.iaload, 1) := by decide +kernel
theorem dX9_now_81 : decode cX9_now 81 = .ok (.if_icmp .ge 20, 3) := by decide +kernel
theorem dX9_now_84 : decode cX9_now 84 = .ok (.iload_n 2, 1) := by decide +kernel
theorem dX9_now_85 : decode cX9_now 85 = .ok (.aload_n 0, 1) := by decide +kernel
theorem dX9_now_86 : decode cX9_now 86 = .ok (.getfield 44, 3) := by decide +kernel
theorem dX9_now_89 : decode cX9_now 89 = .ok (.iconst 5, 1) := by decide +kernel
theorem dX9_now_90 : decode cX9_now 90 = .ok (.iload_n 3, 1) := by decide +kernel
theorem dX9_now_91 : decode cX9_now 91 = .ok (.iadd, 1) := by decide +kernel
theorem dX9_now_92 : decode cX9_now 92 = .ok (.iaload, 1) := by decide +kernel
theorem dX9_now_93 : decode cX9_now 93 = .ok (.iadd, 1) := by decide +kernel
theorem dX9_now_94 : decode cX9_now 94 = .ok (.istore_n 2, 1) := by decide +kernel
theorem dX9_now_95 : decode cX9_now 95 = .ok (.iinc 3 1, 3) := by decide +kernel
theorem dX9_now_98 : decode cX9_now 98 = .ok (.goto (-24), 3) := by decide +kernel
theorem dX9_now_101 : decode cX9_now 101 = .ok (.iload_n 2, 1) := by decide +kernel
theorem dX9_now_102 : decode cX9_now 102 = .ok (.ireturn, 1) := by decide +kernel
theorem dX9_now_103 : decode cX9_now 103 = .ok (.iconst 0, 1) := by decide +kernel
theorem dX9_now_104 : decode cX9_now 104 = .ok (.istore_n 3, 1) := by decide +kernel
theorem dX9_now_105 : decode cX9_now 105 = .ok (.iload_n 3, 1) := by decide +kernel
theorem dX9_now_106 : decode cX9_now 106 = .ok (.aload_n 0, 1) := by decide +kernel
theorem dX9_now_107 : decode cX9_now 107 = .ok (.getfield 29, 3) := by decide +kernel
theorem dX9_now_110 : decode cX9_now 110 = .ok (.iconst 0, 1) := by decide +kernel
theorem dX9_now_111 : decode cX9_now 111 = .ok (.iaload, 1) := by decide +kernel
theorem dX9_now_112 : decode cX9_now 112 = .ok (.if_icmp .ge 38, 3) := by decide +kernel
theorem dX9_now_115 : decode cX9_now 115 = .ok (.iload_n 2, 1) := by decide +kernel
theorem dX9_now_116 : decode cX9_now 116 = .ok (.aload_n 0, 1) := by decide +kernel
theorem dX9_now_117 : decode cX9_now 117 = .ok (.iload_n 3, 1) := by decide +kernel
theorem dX9_now_118 : decode cX9_now 118 = .ok (.invokevirtual 160, 3) := by decide +kernel
theorem dX9_now_121 : decode cX9_now 121 = .ok (.aload_n 0, 1) := by decide +kernel
theorem dX9_now_122 : decode cX9_now 122 = .ok (.getfield 44, 3) := by decide +kernel
theorem dX9_now_125 : decode cX9_now 125 = .ok (.iconst 5, 1) := by decide +kernel
theorem dX9_now_126 : decode cX9_now 126 = .ok (.iload_n 3, 1) := by decide +kernel
theorem dX9_now_127 : decode cX9_now 127 = .ok (.iadd, 1) := by decide +kernel
theorem dX9_now_128 : decode cX9_now 128 = .ok (.iaload, 1) := by decide +kernel
theorem dX9_now_129 : decode cX9_now 129 = .ok (.ishr, 1) := by decide +kernel
theorem dX9_now_130 : decode cX9_now 130 = .ok (.iconst 1, 1) := by decide +kernel
theorem dX9_now_131 : decode cX9_now 131 = .ok (.iand, 1) := by decide +kernel
theorem dX9_now_132 : decode cX9_now 132 = .ok (.ifCond .ne 9, 3) := by decide +kernel
theorem dX9_now_135 : decode cX9_now 135 = .ok (.iconst 1, 1) := by decide +kernel
theorem dX9_now_136 : decode cX9_now 136 = .ok (.iload_n 3, 1) := by decide +kernel
theorem dX9_now_137 : decode cX9_now 137 = .ok (.ishl, 1) := by decide +kernel
theorem dX9_now_138 : decode cX9_now 138 = .ok (.goto 4, 3) := by decide +kernel
theorem dX9_now_141 : decode cX9_now 141 = .ok (.iconst 0, 1) := by decide +kernel
theorem dX9_now_142 : decode cX9_now 142 = .ok (.ior, 1) := by decide +kernel
theorem dX9_now_143 : decode cX9_now 143 = .ok (.istore_n 2, 1) := by decide +kernel
theorem dX9_now_144 : decode cX9_now 144 = .ok (.iinc 3 1, 3) := by decide +kernel
theorem dX9_now_147 : decode cX9_now 147 = .ok (.goto (-42), 3) := by decide +kernel
theorem dX9_now_150 : decode cX9_now 150 = .ok (.iload_n 2, 1) := by decide +kernel
theorem dX9_now_151 : decode cX9_now 151 = .ok (.ireturn, 1) := by decide +kernel
theorem dX9_now_152 : decode cX9_now 152 = .ok (.iconst (-1), 1) := by decide +kernel
theorem dX9_now_153 : decode cX9_now 153 = .ok (.ireturn, 1) := by decide +kernel
theorem dX9_costOf_0 : decode cX9_costOf 0 = .ok (.aload_n 0, 1) := by decide +kernel
theorem dX9_costOf_1 : decode cX9_costOf 1 = .ok (.iload_n 2, 1) := by decide +kernel
theorem dX9_costOf_2 : decode cX9_costOf 2 = .ok (.invokevirtual 138, 3) := by decide +kernel
theorem dX9_costOf_5 : decode cX9_costOf 5 = .ok (.ifCond .eq 6, 3) := by decide +kernel
theorem dX9_costOf_8 : decode cX9_costOf 8 = .ok (.ldc 163, 2) := by decide +kernel
theorem dX9_costOf_10 : decode cX9_costOf 10 = .ok (.ireturn, 1) := by decide +kernel
theorem dX9_costOf_11 : decode cX9_costOf 11 = .ok (.aload_n 0, 1) := by decide +kernel
theorem dX9_costOf_12 : decode cX9_costOf 12 = .ok (.iload_n 1, 1) := by decide +kernel
theorem dX9_costOf_13 : decode cX9_costOf 13 = .ok (.invokevirtual 124, 3) := by decide +kernel
theorem dX9_costOf_16 : decode cX9_costOf 16 = .ok (.aload_n 0, 1) := by decide +kernel
theorem dX9_costOf_17 : decode cX9_costOf 17 = .ok (.getfield 26, 3) := by decide +kernel
theorem dX9_costOf_20 : decode cX9_costOf 20 = .ok (.iload_n 2, 1) := by decide +kernel
theorem dX9_costOf_21 : decode cX9_costOf 21 = .ok (.iaload, 1) := by decide +kernel
theorem dX9_costOf_22 : decode cX9_costOf 22 = .ok (.isub, 1) := by decide +kernel
theorem dX9_costOf_23 : decode cX9_costOf 23 = .ok (.istore 4, 2) := by decide +kernel
theorem dX9_costOf_25 : decode cX9_costOf 25 = .ok (.iload_n 3, 1) := by decide +kernel
theorem dX9_costOf_26 : decode cX9_costOf 26 = .ok (.ifCond .eq 17, 3) := by decide +kernel
theorem dX9_costOf_29 : decode cX9_costOf 29 = .ok (.iload 4, 2) := by decide +kernel
theorem dX9_costOf_31 : decode cX9_costOf 31 = .ok (.ifCond .le 8, 3) := by decide +kernel
theorem dX9_costOf_34 : decode cX9_costOf 34 = .ok (.iload 4, 2) := by decide +kernel
theorem dX9_costOf_36 : decode cX9_costOf 36 = .ok (.goto 18, 3) := by decide +kernel
theorem dX9_costOf_39 : decode cX9_costOf 39 = .ok (.iconst 0, 1) := by decide +kernel
theorem dX9_costOf_40 : decode cX9_costOf 40 = .ok (.goto 14, 3) := by decide +kernel
theorem dX9_costOf_43 : decode cX9_costOf 43 = .ok (.iload 4, 2) := by decide +kernel
theorem dX9_costOf_45 : decode cX9_costOf 45 = .ok (.ifCond .le 8, 3) := by decide +kernel
theorem dX9_costOf_48 : decode cX9_costOf 48 = .ok (.ldc 163, 2) := by decide +kernel
theorem dX9_costOf_50 : decode cX9_costOf 50 = .ok (.goto 4, 3) := by decide +kernel
theorem dX9_costOf_53 : decode cX9_costOf 53 = .ok (.iconst 1, 1) := by decide +kernel
theorem dX9_costOf_54 : decode cX9_costOf 54 = .ok (.ireturn, 1) := by decide +kernel
theorem dX9_measure_0 : decode cX9_measure 0 = .ok (.iconst 0, 1) := by decide +kernel
theorem dX9_measure_1 : decode cX9_measure 1 = .ok (.istore 4, 2) := by decide +kernel
theorem dX9_measure_3 : decode cX9_measure 3 = .ok (.iload 4, 2) := by decide +kernel
theorem dX9_measure_5 : decode cX9_measure 5 = .ok (.bipush 8, 2) := by decide +kernel
theorem dX9_measure_7 : decode cX9_measure 7 = .ok (.if_icmp .ge 28, 3) := by decide +kernel
theorem dX9_measure_10 : decode cX9_measure 10 = .ok (.aload_n 0, 1) := by decide +kernel
theorem dX9_measure_11 : decode cX9_measure 11 = .ok (.getfield 51, 3) := by decide +kernel
theorem dX9_measure_14 : decode cX9_measure 14 = .ok (.iload 4, 2) := by decide +kernel
theorem dX9_measure_16 : decode cX9_measure 16 = .ok (.iload 4, 2) := by decide +kernel
theorem dX9_measure_18 : decode cX9_measure 18 = .ok (.iload_n 2, 1) := by decide +kernel
theorem dX9_measure_19 : decode cX9_measure 19 = .ok (.if_icmp .ne 7, 3) := by decide +kernel
theorem dX9_measure_22 : decode cX9_measure 22 = .ok (.iconst 0, 1) := by decide +kernel
theorem dX9_measure_23 : decode cX9_measure 23 = .ok (.goto 5, 3) := by decide +kernel
theorem dX9_measure_26 : decode cX9_measure 26 = .ok (.ldc 163, 2) := by decide +kernel
theorem dX9_measure_28 : decode cX9_measure 28 = .ok (.iastore, 1) := by decide +kernel
theorem dX9_measure_29 : decode cX9_measure 29 = .ok (.iinc 4 1, 3) := by decide +kernel
theorem dX9_measure_32 : decode cX9_measure 32 = .ok (.goto (-29), 3) := by decide +kernel
theorem dX9_measure_35 : decode cX9_measure 35 = .ok (.iconst 0, 1) := by decide +kernel
theorem dX9_measure_36 : decode cX9_measure 36 = .ok (.istore 4, 2) := by decide +kernel
theorem dX9_measure_38 : decode cX9_measure 38 = .ok (.iload 4, 2) := by decide +kernel
theorem dX9_measure_40 : decode cX9_measure 40 = .ok (.bipush 8, 2) := by decide +kernel
theorem dX9_measure_42 : decode cX9_measure 42 = .ok (.if_icmp .ge 151, 3) := by decide +kernel
theorem dX9_measure_45 : decode cX9_measure 45 = .ok (.iconst 0, 1) := by decide +kernel
theorem dX9_measure_46 : decode cX9_measure 46 = .ok (.istore 5, 2) := by decide +kernel
theorem dX9_measure_48 : decode cX9_measure 48 = .ok (.iload 5, 2) := by decide +kernel
theorem dX9_measure_50 : decode cX9_measure 50 = .ok (.aload_n 0, 1) := by decide +kernel
theorem dX9_measure_51 : decode cX9_measure 51 = .ok (.getfield 17, 3) := by decide +kernel
theorem dX9_measure_54 : decode cX9_measure 54 = .ok (.iconst 0, 1) := by decide +kernel
theorem dX9_measure_55 : decode cX9_measure 55 = .ok (.iaload, 1) := by decide +kernel
theorem dX9_measure_56 : decode cX9_measure 56 = .ok (.if_icmp .ge 131, 3) := by decide +kernel
theorem dX9_measure_59 : decode cX9_measure 59 = .ok (.aload_n 0, 1) := by decide +kernel
theorem dX9_measure_60 : decode cX9_measure 60 = .ok (.iload_n 1, 1) := by decide +kernel
theorem dX9_measure_61 : decode cX9_measure 61 = .ok (.iload 5, 2) := by decide +kernel
theorem dX9_measure_63 : decode cX9_measure 63 = .ok (.iload_n 3, 1) := by decide +kernel
theorem dX9_measure_64 : decode cX9_measure 64 = .ok (.invokevirtual 164, 3) := by decide +kernel
theorem dX9_measure_67 : decode cX9_measure 67 = .ok (.istore 6, 2) := by decide +kernel
theorem dX9_measure_69 : decode cX9_measure 69 = .ok (.aload_n 0, 1) := by decide +kernel
theorem dX9_measure_70 : decode cX9_measure 70 = .ok (.getfield 20, 3) := by decide +kernel
theorem dX9_measure_73 : decode cX9_measure 73 = .ok (.iload 5, 2) := by decide +kernel
theorem dX9_measure_75 : decode cX9_measure 75 = .ok (.iaload, 1) := by decide +kernel
theorem dX9_measure_76 : decode cX9_measure 76 = .ok (.istore 7, 2) := by decide +kernel
theorem dX9_measure_78 : decode cX9_measure 78 = .ok (.aload_n 0, 1) := by decide +kernel
theorem dX9_measure_79 : decode cX9_measure 79 = .ok (.getfield 23, 3) := by decide +kernel
theorem dX9_measure_82 : decode cX9_measure 82 = .ok (.iload 5, 2) := by decide +kernel
theorem dX9_measure_84 : decode cX9_measure 84 = .ok (.iaload, 1) := by decide +kernel
theorem dX9_measure_85 : decode cX9_measure 85 = .ok (.istore 8, 2) := by decide +kernel
theorem dX9_measure_87 : decode cX9_measure 87 = .ok (.aload_n 0, 1) := by decide +kernel
theorem dX9_measure_88 : decode cX9_measure 88 = .ok (.getfield 51, 3) := by decide +kernel
theorem dX9_measure_91 : decode cX9_measure 91 = .ok (.iload 7, 2) := by decide +kernel
theorem dX9_measure_93 : decode cX9_measure 93 = .ok (.aload_n 0, 1) := by decide +kernel
theorem dX9_measure_94 : decode cX9_measure 94 = .ok (.getfield 51, 3) := by decide +kernel
theorem dX9_measure_97 : decode cX9_measure 97 = .ok (.iload 8, 2) := by decide +kernel
theorem dX9_measure_99 : decode cX9_measure 99 = .ok (.iaload, 1) := by decide +kernel
theorem dX9_measure_100 : decode cX9_measure 100 = .ok (.iload 6, 2) := by decide +kernel
theorem dX9_measure_102 : decode cX9_measure 102 = .ok (.iadd, 1) := by decide +kernel
theorem dX9_measure_103 : decode cX9_measure 103 = .ok (.aload_n 0, 1) := by decide +kernel
theorem dX9_measure_104 : decode cX9_measure 104 = .ok (.getfield 51, 3) := by decide +kernel
theorem dX9_measure_107 : decode cX9_measure 107 = .ok (.iload 7, 2) := by decide +kernel
theorem dX9_measure_109 : decode cX9_measure 109 = .ok (.iaload, 1) := by decide +kernel
theorem dX9_measure_110 : decode cX9_measure 110 = .ok (.if_icmp .ge 16, 3) := by decide +kernel
theorem dX9_measure_113 : decode cX9_measure 113 = .ok (.aload_n 0, 1) := by decide +kernel
theorem dX9_measure_114 : decode cX9_measure 114 = .ok (.getfield 51, 3) := by decide +kernel
theorem dX9_measure_117 : decode cX9_measure 117 = .ok (.iload 8, 2) := by decide +kernel
theorem dX9_measure_119 : decode cX9_measure 119 = .ok (.iaload, 1) := by decide +kernel
theorem dX9_measure_120 : decode cX9_measure 120 = .ok (.iload 6, 2) := by decide +kernel
theorem dX9_measure_122 : decode cX9_measure 122 = .ok (.iadd, 1) := by decide +kernel
theorem dX9_measure_123 : decode cX9_measure 123 = .ok (.goto 10, 3) := by decide +kernel
theorem dX9_measure_126 : decode cX9_measure 126 = .ok (.aload_n 0, 1) := by decide +kernel
theorem dX9_measure_127 : decode cX9_measure 127 = .ok (.getfield 51, 3) := by decide +kernel
theorem dX9_measure_130 : decode cX9_measure 130 = .ok (.iload 7, 2) := by decide +kernel
theorem dX9_measure_132 : decode cX9_measure 132 = .ok (.iaload, 1) := by decide +kernel
theorem dX9_measure_133 : decode cX9_measure 133 = .ok (.iastore, 1) := by decide +kernel
theorem dX9_measure_134 : decode cX9_measure 134 = .ok (.aload_n 0, 1) := by decide +kernel
theorem dX9_measure_135 : decode cX9_measure 135 = .ok (.getfield 51, 3) := by decide +kernel
theorem dX9_measure_138 : decode cX9_measure 138 = .ok (.iload 8, 2) := by decide +kernel
theorem dX9_measure_140 : decode cX9_measure 140 = .ok (.aload_n 0, 1) := by decide +kernel
theorem dX9_measure_141 : decode cX9_measure 141 = .ok (.getfield 51, 3) := by decide +kernel
theorem dX9_measure_144 : decode cX9_measure 144 = .ok (.iload 7, 2) := by decide +kernel
theorem dX9_measure_146 : decode cX9_measure 146 = .ok (.iaload, 1) := by decide +kernel
theorem dX9_measure_147 : decode cX9_measure 147 = .ok (.iload 6, 2) := by decide +kernel
theorem dX9_measure_149 : decode cX9_measure 149 = .ok (.iadd, 1) := by decide +kernel
theorem dX9_measure_150 : decode cX9_measure 150 = .ok (.aload_n 0, 1) := by decide +kernel
theorem dX9_measure_151 : decode cX9_measure 151 = .ok (.getfield 51, 3) := by decide +kernel
theorem dX9_measure_154 : decode cX9_measure 154 = .ok (.iload 8, 2) := by decide +kernel
theorem dX9_measure_156 : decode cX9_measure 156 = .ok (.iaload, 1) := by decide +kernel
theorem dX9_measure_157 : decode cX9_measure 157 = .ok (.if_icmp .ge 16, 3) := by decide +kernel
theorem dX9_measure_160 : decode cX9_measure 160 = .ok (.aload_n 0, 1) := by decide +kernel
theorem dX9_measure_161 : decode cX9_measure 161 = .ok (.getfield 51, 3) := by decide +kernel
theorem dX9_measure_164 : decode cX9_measure 164 = .ok (.iload 7, 2) := by decide +kernel
theorem dX9_measure_166 : decode cX9_measure 166 = .ok (.iaload, 1) := by decide +kernel
theorem dX9_measure_167 : decode cX9_measure 167 = .ok (.iload 6, 2) := by decide +kernel
theorem dX9_measure_169 : decode cX9_measure 169 = .ok (.iadd, 1) := by decide +kernel
theorem dX9_measure_170 : decode cX9_measure 170 = .ok (.goto 10, 3) := by decide +kernel
theorem dX9_measure_173 : decode cX9_measure 173 = .ok (.aload_n 0, 1) := by decide +kernel
theorem dX9_measure_174 : decode cX9_measure 174 = .ok (.getfield 51, 3) := by decide +kernel
theorem dX9_measure_177 : decode cX9_measure 177 = .ok (.iload 8, 2) := by decide +kernel
theorem dX9_measure_179 : decode cX9_measure 179 = .ok (.iaload, 1) := by decide +kernel
theorem dX9_measure_180 : decode cX9_measure 180 = .ok (.iastore, 1) := by decide +kernel
theorem dX9_measure_181 : decode cX9_measure 181 = .ok (.iinc 5 1, 3) := by decide +kernel
theorem dX9_measure_184 : decode cX9_measure 184 = .ok (.goto (-136), 3) := by decide +kernel
theorem dX9_measure_187 : decode cX9_measure 187 = .ok (.iinc 4 1, 3) := by decide +kernel
theorem dX9_measure_190 : decode cX9_measure 190 = .ok (.goto (-152), 3) := by decide +kernel
theorem dX9_measure_193 : decode cX9_measure 193 = .ok (.return_, 1) := by decide +kernel
theorem dX9_way_0 : decode cX9_way 0 = .ok (.aload_n 0, 1) := by decide +kernel
theorem dX9_way_1 : decode cX9_way 1 = .ok (.iload_n 1, 1) := by decide +kernel
theorem dX9_way_2 : decode cX9_way 2 = .ok (.invokevirtual 141, 3) := by decide +kernel
theorem dX9_way_5 : decode cX9_way 5 = .ok (.ifCond .eq 16, 3) := by decide +kernel
theorem dX9_way_8 : decode cX9_way 8 = .ok (.aload_n 0, 1) := by decide +kernel
theorem dX9_way_9 : decode cX9_way 9 = .ok (.iload_n 2, 1) := by decide +kernel
theorem dX9_way_10 : decode cX9_way 10 = .ok (.invokevirtual 168, 3) := by decide +kernel
theorem dX9_way_13 : decode cX9_way 13 = .ok (.ifCond .eq 8, 3) := by decide +kernel
theorem dX9_way_16 : decode cX9_way 16 = .ok (.iload_n 3, 1) := by decide +kernel
theorem dX9_way_17 : decode cX9_way 17 = .ok (.iconst (-1), 1) := by decide +kernel
theorem dX9_way_18 : decode cX9_way 18 = .ok (.if_icmp .ge 5, 3) := by decide +kernel
theorem dX9_way_21 : decode cX9_way 21 = .ok (.iconst (-1), 1) := by decide +kernel
theorem dX9_way_22 : decode cX9_way 22 = .ok (.ireturn, 1) := by decide +kernel
theorem dX9_way_23 : decode cX9_way 23 = .ok (.aload_n 0, 1) := by decide +kernel
theorem dX9_way_24 : decode cX9_way 24 = .ok (.iload_n 1, 1) := by decide +kernel
theorem dX9_way_25 : decode cX9_way 25 = .ok (.iload_n 2, 1) := by decide +kernel
theorem dX9_way_26 : decode cX9_way 26 = .ok (.iconst 0, 1) := by decide +kernel
theorem dX9_way_27 : decode cX9_way 27 = .ok (.invokevirtual 171, 3) := by decide +kernel
theorem dX9_way_30 : decode cX9_way 30 = .ok (.aload_n 0, 1) := by decide +kernel
theorem dX9_way_31 : decode cX9_way 31 = .ok (.getfield 44, 3) := by decide +kernel
theorem dX9_way_34 : decode cX9_way 34 = .ok (.iconst 0, 1) := by decide +kernel
theorem dX9_way_35 : decode cX9_way 35 = .ok (.iload_n 1, 1) := by decide +kernel
theorem dX9_way_36 : decode cX9_way 36 = .ok (.iadd, 1) := by decide +kernel
theorem dX9_way_37 : decode cX9_way 37 = .ok (.iaload, 1) := by decide +kernel
theorem dX9_way_38 : decode cX9_way 38 = .ok (.istore 4, 2) := by decide +kernel
theorem dX9_way_40 : decode cX9_way 40 = .ok (.aload_n 0, 1) := by decide +kernel
theorem dX9_way_41 : decode cX9_way 41 = .ok (.getfield 51, 3) := by decide +kernel
theorem dX9_way_44 : decode cX9_way 44 = .ok (.iload 4, 2) := by decide +kernel
theorem dX9_way_46 : decode cX9_way 46 = .ok (.iaload, 1) := by decide +kernel
theorem dX9_way_47 : decode cX9_way 47 = .ok (.istore 5, 2) := by decide +kernel
theorem dX9_way_49 : decode cX9_way 49 = .ok (.iload 5, 2) := by decide +kernel
theorem dX9_way_51 : decode cX9_way 51 = .ok (.ldc 163, 2) := by decide +kernel
theorem dX9_way_53 : decode cX9_way 53 = .ok (.if_icmp .ge 9, 3) := by decide +kernel
theorem dX9_way_56 : decode cX9_way 56 = .ok (.iload_n 3, 1) := by decide +kernel
theorem dX9_way_57 : decode cX9_way 57 = .ok (.iload 5, 2) := by decide +kernel
theorem dX9_way_59 : decode cX9_way 59 = .ok (.if_icmp .lt 6, 3) := by decide +kernel
theorem dX9_way_62 : decode cX9_way 62 = .ok (.bipush (-9), 2) := by decide +kernel
theorem dX9_way_64 : decode cX9_way 64 = .ok (.ireturn, 1) := by decide +kernel
theorem dX9_way_65 : decode cX9_way 65 = .ok (.iload 5, 2) := by decide +kernel
theorem dX9_way_67 : decode cX9_way 67 = .ok (.istore 6, 2) := by decide +kernel
theorem dX9_way_69 : decode cX9_way 69 = .ok (.iconst 0, 1) := by decide +kernel
theorem dX9_way_70 : decode cX9_way 70 = .ok (.istore 7, 2) := by decide +kernel
theorem dX9_way_72 : decode cX9_way 72 = .ok (.iload 7, 2) := by decide +kernel
theorem dX9_way_74 : decode cX9_way 74 = .ok (.iload_n 3, 1) := by decide +kernel
theorem dX9_way_75 : decode cX9_way 75 = .ok (.if_icmp .gt 74, 3) := by decide +kernel
theorem dX9_way_78 : decode cX9_way 78 = .ok (.iconst 0, 1) := by decide +kernel
theorem dX9_way_79 : decode cX9_way 79 = .ok (.istore 6, 2) := by decide +kernel
theorem dX9_way_81 : decode cX9_way 81 = .ok (.aload_n 0, 1) := by decide +kernel
theorem dX9_way_82 : decode cX9_way 82 = .ok (.iload 6, 2) := by decide +kernel
theorem dX9_way_84 : decode cX9_way 84 = .ok (.iload 4, 2) := by decide +kernel
theorem dX9_way_86 : decode cX9_way 86 = .ok (.invokevirtual 144, 3) := by decide +kernel
theorem dX9_way_89 : decode cX9_way 89 = .ok (.ifCond .eq 38, 3) := by decide +kernel
theorem dX9_way_92 : decode cX9_way 92 = .ok (.aload_n 0, 1) := by decide +kernel
theorem dX9_way_93 : decode cX9_way 93 = .ok (.iload_n 1, 1) := by decide +kernel
theorem dX9_way_94 : decode cX9_way 94 = .ok (.iload 6, 2) := by decide +kernel
theorem dX9_way_96 : decode cX9_way 96 = .ok (.iconst 0, 1) := by decide +kernel
theorem dX9_way_97 : decode cX9_way 97 = .ok (.invokevirtual 164, 3) := by decide +kernel
theorem dX9_way_100 : decode cX9_way 100 = .ok (.iconst 1, 1) := by decide +kernel
theorem dX9_way_101 : decode cX9_way 101 = .ok (.if_icmp .ne 26, 3) := by decide +kernel
theorem dX9_way_104 : decode cX9_way 104 = .ok (.aload_n 0, 1) := by decide +kernel
theorem dX9_way_105 : decode cX9_way 105 = .ok (.getfield 51, 3) := by decide +kernel
theorem dX9_way_108 : decode cX9_way 108 = .ok (.aload_n 0, 1) := by decide +kernel
theorem dX9_way_109 : decode cX9_way 109 = .ok (.iload 6, 2) := by decide +kernel
theorem dX9_way_111 : decode cX9_way 111 = .ok (.iload 4, 2) := by decide +kernel
theorem dX9_way_113 : decode cX9_way 113 = .ok (.invokevirtual 150, 3) := by decide +kernel
theorem dX9_way_116 : decode cX9_way 116 = .ok (.iaload, 1) := by decide +kernel
theorem dX9_way_117 : decode cX9_way 117 = .ok (.iload 5, 2) := by decide +kernel
theorem dX9_way_119 : decode cX9_way 119 = .ok (.iload 7, 2) := by decide +kernel
theorem dX9_way_121 : decode cX9_way 121 = .ok (.isub, 1) := by decide +kernel
theorem dX9_way_122 : decode cX9_way 122 = .ok (.iconst 1, 1) := by decide +kernel
theorem dX9_way_123 : decode cX9_way 123 = .ok (.isub, 1) := by decide +kernel
theorem dX9_way_124 : decode cX9_way 124 = .ok (.if_icmp .eq 9, 3) := by decide +kernel
theorem dX9_way_127 : decode cX9_way 127 = .ok (.iinc 6 1, 3) := by decide +kernel
theorem dX9_way_130 : decode cX9_way 130 = .ok (.goto (-49), 3) := by decide +kernel
theorem dX9_way_133 : decode cX9_way 133 = .ok (.aload_n 0, 1) := by decide +kernel
theorem dX9_way_134 : decode cX9_way 134 = .ok (.iload 6, 2) := by decide +kernel
theorem dX9_way_136 : decode cX9_way 136 = .ok (.iload 4, 2) := by decide +kernel
theorem dX9_way_138 : decode cX9_way 138 = .ok (.invokevirtual 150, 3) := by decide +kernel
theorem dX9_way_141 : decode cX9_way 141 = .ok (.istore 4, 2) := by decide +kernel
theorem dX9_way_143 : decode cX9_way 143 = .ok (.iinc 7 1, 3) := by decide +kernel
theorem dX9_way_146 : decode cX9_way 146 = .ok (.goto (-74), 3) := by decide +kernel
theorem dX9_way_149 : decode cX9_way 149 = .ok (.iload 6, 2) := by decide +kernel
theorem dX9_way_151 : decode cX9_way 151 = .ok (.ireturn, 1) := by decide +kernel
theorem dX9_lacks_0 : decode cX9_lacks 0 = .ok (.aload_n 0, 1) := by decide +kernel
theorem dX9_lacks_1 : decode cX9_lacks 1 = .ok (.iload_n 1, 1) := by decide +kernel
theorem dX9_lacks_2 : decode cX9_lacks 2 = .ok (.invokevirtual 141, 3) := by decide +kernel
theorem dX9_lacks_5 : decode cX9_lacks 5 = .ok (.ifCond .eq 11, 3) := by decide +kernel
theorem dX9_lacks_8 : decode cX9_lacks 8 = .ok (.aload_n 0, 1) := by decide +kernel
theorem dX9_lacks_9 : decode cX9_lacks 9 = .ok (.iload_n 2, 1) := by decide +kernel
theorem dX9_lacks_10 : decode cX9_lacks 10 = .ok (.invokevirtual 168, 3) := by decide +kernel
theorem dX9_lacks_13 : decode cX9_lacks 13 = .ok (.ifCond .ne 5, 3) := by decide +kernel
theorem dX9_lacks_16 : decode cX9_lacks 16 = .ok (.iconst (-1), 1) := by decide +kernel
theorem dX9_lacks_17 : decode cX9_lacks 17 = .ok (.ireturn, 1) := by decide +kernel
theorem dX9_lacks_18 : decode cX9_lacks 18 = .ok (.aload_n 0, 1) := by decide +kernel
theorem dX9_lacks_19 : decode cX9_lacks 19 = .ok (.iload_n 1, 1) := by decide +kernel
theorem dX9_lacks_20 : decode cX9_lacks 20 = .ok (.iload_n 2, 1) := by decide +kernel
theorem dX9_lacks_21 : decode cX9_lacks 21 = .ok (.iconst 1, 1) := by decide +kernel
theorem dX9_lacks_22 : decode cX9_lacks 22 = .ok (.invokevirtual 171, 3) := by decide +kernel
theorem dX9_lacks_25 : decode cX9_lacks 25 = .ok (.aload_n 0, 1) := by decide +kernel
theorem dX9_lacks_26 : decode cX9_lacks 26 = .ok (.getfield 51, 3) := by decide +kernel
theorem dX9_lacks_29 : decode cX9_lacks 29 = .ok (.aload_n 0, 1) := by decide +kernel
theorem dX9_lacks_30 : decode cX9_lacks 30 = .ok (.getfield 44, 3) := by decide +kernel
theorem dX9_lacks_33 : decode cX9_lacks 33 = .ok (.iconst 0, 1) := by decide +kernel
theorem dX9_lacks_34 : decode cX9_lacks 34 = .ok (.iload_n 1, 1) := by decide +kernel
theorem dX9_lacks_35 : decode cX9_lacks 35 = .ok (.iadd, 1) := by decide +kernel
theorem dX9_lacks_36 : decode cX9_lacks 36 = .ok (.iaload, 1) := by decide +kernel
theorem dX9_lacks_37 : decode cX9_lacks 37 = .ok (.iaload, 1) := by decide +kernel
theorem dX9_lacks_38 : decode cX9_lacks 38 = .ok (.ldc 163, 2) := by decide +kernel
theorem dX9_lacks_40 : decode cX9_lacks 40 = .ok (.if_icmp .lt 8, 3) := by decide +kernel
theorem dX9_lacks_43 : decode cX9_lacks 43 = .ok (.bipush (-9), 2) := by decide +kernel
theorem dX9_lacks_45 : decode cX9_lacks 45 = .ok (.goto 16, 3) := by decide +kernel
theorem dX9_lacks_48 : decode cX9_lacks 48 = .ok (.aload_n 0, 1) := by decide +kernel
theorem dX9_lacks_49 : decode cX9_lacks 49 = .ok (.getfield 51, 3) := by decide +kernel
theorem dX9_lacks_52 : decode cX9_lacks 52 = .ok (.aload_n 0, 1) := by decide +kernel
theorem dX9_lacks_53 : decode cX9_lacks 53 = .ok (.getfield 44, 3) := by decide +kernel
theorem dX9_lacks_56 : decode cX9_lacks 56 = .ok (.iconst 0, 1) := by decide +kernel
theorem dX9_lacks_57 : decode cX9_lacks 57 = .ok (.iload_n 1, 1) := by decide +kernel
theorem dX9_lacks_58 : decode cX9_lacks 58 = .ok (.iadd, 1) := by decide +kernel
theorem dX9_lacks_59 : decode cX9_lacks 59 = .ok (.iaload, 1) := by decide +kernel
theorem dX9_lacks_60 : decode cX9_lacks 60 = .ok (.iaload, 1) := by decide +kernel
theorem dX9_lacks_61 : decode cX9_lacks 61 = .ok (.ireturn, 1) := by decide +kernel
theorem dX9_must_0 : decode cX9_must 0 = .ok (.aload_n 0, 1) := by decide +kernel
theorem dX9_must_1 : decode cX9_must 1 = .ok (.iload_n 1, 1) := by decide +kernel
theorem dX9_must_2 : decode cX9_must 2 = .ok (.invokevirtual 141, 3) := by decide +kernel
theorem dX9_must_5 : decode cX9_must 5 = .ok (.ifCond .eq 11, 3) := by decide +kernel
theorem dX9_must_8 : decode cX9_must 8 = .ok (.aload_n 0, 1) := by decide +kernel
theorem dX9_must_9 : decode cX9_must 9 = .ok (.iload_n 2, 1) := by decide +kernel
theorem dX9_must_10 : decode cX9_must 10 = .ok (.invokevirtual 168, 3) := by decide +kernel
theorem dX9_must_13 : decode cX9_must 13 = .ok (.ifCond .ne 5, 3) := by decide +kernel
theorem dX9_must_16 : decode cX9_must 16 = .ok (.iconst (-1), 1) := by decide +kernel
theorem dX9_must_17 : decode cX9_must 17 = .ok (.ireturn, 1) := by decide +kernel
theorem dX9_must_18 : decode cX9_must 18 = .ok (.iconst 0, 1) := by decide +kernel
theorem dX9_must_19 : decode cX9_must 19 = .ok (.istore_n 3, 1) := by decide +kernel
theorem dX9_must_20 : decode cX9_must 20 = .ok (.iconst 0, 1) := by decide +kernel
theorem dX9_must_21 : decode cX9_must 21 = .ok (.istore 4, 2) := by decide +kernel
theorem dX9_must_23 : decode cX9_must 23 = .ok (.iload 4, 2) := by decide +kernel
theorem dX9_must_25 : decode cX9_must 25 = .ok (.aload_n 0, 1) := by decide +kernel
theorem dX9_must_26 : decode cX9_must 26 = .ok (.getfield 17, 3) := by decide +kernel
theorem dX9_must_29 : decode cX9_must 29 = .ok (.iconst 0, 1) := by decide +kernel
theorem dX9_must_30 : decode cX9_must 30 = .ok (.iaload, 1) := by decide +kernel
theorem dX9_must_31 : decode cX9_must 31 = .ok (.if_icmp .ge 41, 3) := by decide +kernel
theorem dX9_must_34 : decode cX9_must 34 = .ok (.iload_n 3, 1) := by decide +kernel
theorem dX9_must_35 : decode cX9_must 35 = .ok (.aload_n 0, 1) := by decide +kernel
theorem dX9_must_36 : decode cX9_must 36 = .ok (.iload_n 1, 1) := by decide +kernel
theorem dX9_must_37 : decode cX9_must 37 = .ok (.iload_n 2, 1) := by decide +kernel
theorem dX9_must_38 : decode cX9_must 38 = .ok (.aload_n 0, 1) := by decide +kernel
theorem dX9_must_39 : decode cX9_must 39 = .ok (.getfield 44, 3) := by decide +kernel
theorem dX9_must_42 : decode cX9_must 42 = .ok (.bipush 15, 2) := by decide +kernel
theorem dX9_must_44 : decode cX9_must 44 = .ok (.iaload, 1) := by decide +kernel
theorem dX9_must_45 : decode cX9_must 45 = .ok (.iconst 1, 1) := by decide +kernel
theorem dX9_must_46 : decode cX9_must 46 = .ok (.iload 4, 2) := by decide +kernel
theorem dX9_must_48 : decode cX9_must 48 = .ok (.ishl, 1) := by decide +kernel
theorem dX9_must_49 : decode cX9_must 49 = .ok (.ior, 1) := by decide +kernel
theorem dX9_must_50 : decode cX9_must 50 = .ok (.invokevirtual 175, 3) := by decide +kernel
theorem dX9_must_53 : decode cX9_must 53 = .ok (.ifCond .ne 10, 3) := by decide +kernel
theorem dX9_must_56 : decode cX9_must 56 = .ok (.iconst 1, 1) := by decide +kernel
theorem dX9_must_57 : decode cX9_must 57 = .ok (.iload 4, 2) := by decide +kernel
theorem dX9_must_59 : decode cX9_must 59 = .ok (.ishl, 1) := by decide +kernel
theorem dX9_must_60 : decode cX9_must 60 = .ok (.goto 4, 3) := by decide +kernel
theorem dX9_must_63 : decode cX9_must 63 = .ok (.iconst 0, 1) := by decide +kernel
theorem dX9_must_64 : decode cX9_must 64 = .ok (.ior, 1) := by decide +kernel
theorem dX9_must_65 : decode cX9_must 65 = .ok (.istore_n 3, 1) := by decide +kernel
theorem dX9_must_66 : decode cX9_must 66 = .ok (.iinc 4 1, 3) := by decide +kernel
theorem dX9_must_69 : decode cX9_must 69 = .ok (.goto (-46), 3) := by decide +kernel
theorem dX9_must_72 : decode cX9_must 72 = .ok (.aload_n 0, 1) := by decide +kernel
theorem dX9_must_73 : decode cX9_must 73 = .ok (.iload_n 1, 1) := by decide +kernel
theorem dX9_must_74 : decode cX9_must 74 = .ok (.iload_n 2, 1) := by decide +kernel
theorem dX9_must_75 : decode cX9_must 75 = .ok (.aload_n 0, 1) := by decide +kernel
theorem dX9_must_76 : decode cX9_must 76 = .ok (.getfield 44, 3) := by decide +kernel
theorem dX9_must_79 : decode cX9_must 79 = .ok (.bipush 15, 2) := by decide +kernel
theorem dX9_must_81 : decode cX9_must 81 = .ok (.iaload, 1) := by decide +kernel
theorem dX9_must_82 : decode cX9_must 82 = .ok (.invokevirtual 175, 3) := by decide +kernel
theorem dX9_must_85 : decode cX9_must 85 = .ok (.ifCond .eq 7, 3) := by decide +kernel
theorem dX9_must_88 : decode cX9_must 88 = .ok (.iload_n 3, 1) := by decide +kernel
theorem dX9_must_89 : decode cX9_must 89 = .ok (.goto 4, 3) := by decide +kernel
theorem dX9_must_92 : decode cX9_must 92 = .ok (.iconst 0, 1) := by decide +kernel
theorem dX9_must_93 : decode cX9_must 93 = .ok (.ireturn, 1) := by decide +kernel
theorem dX9_odds_0 : decode cX9_odds 0 = .ok (.aload_n 0, 1) := by decide +kernel
theorem dX9_odds_1 : decode cX9_odds 1 = .ok (.iload_n 1, 1) := by decide +kernel
theorem dX9_odds_2 : decode cX9_odds 2 = .ok (.invokevirtual 141, 3) := by decide +kernel
theorem dX9_odds_5 : decode cX9_odds 5 = .ok (.ifCond .eq 31, 3) := by decide +kernel
theorem dX9_odds_8 : decode cX9_odds 8 = .ok (.aload_n 0, 1) := by decide +kernel
theorem dX9_odds_9 : decode cX9_odds 9 = .ok (.iload_n 2, 1) := by decide +kernel
theorem dX9_odds_10 : decode cX9_odds 10 = .ok (.invokevirtual 168, 3) := by decide +kernel
theorem dX9_odds_13 : decode cX9_odds 13 = .ok (.ifCond .eq 23, 3) := by decide +kernel
theorem dX9_odds_16 : decode cX9_odds 16 = .ok (.iload_n 3, 1) := by decide +kernel
theorem dX9_odds_17 : decode cX9_odds 17 = .ok (.iconst 0, 1) := by decide +kernel
theorem dX9_odds_18 : decode cX9_odds 18 = .ok (.bipush 10, 2) := by decide +kernel
theorem dX9_odds_20 : decode cX9_odds 20 = .ok (.invokestatic 72, 3) := by decide +kernel
theorem dX9_odds_23 : decode cX9_odds 23 = .ok (.ifCond .eq 13, 3) := by decide +kernel
theorem dX9_odds_26 : decode cX9_odds 26 = .ok (.iload 4, 2) := by decide +kernel
theorem dX9_odds_28 : decode cX9_odds 28 = .ok (.iconst 0, 1) := by decide +kernel
theorem dX9_odds_29 : decode cX9_odds 29 = .ok (.iconst 1, 1) := by decide +kernel
theorem dX9_odds_30 : decode cX9_odds 30 = .ok (.invokestatic 72, 3) := by decide +kernel
theorem dX9_odds_33 : decode cX9_odds 33 = .ok (.ifCond .ne 5, 3) := by decide +kernel
theorem dX9_odds_36 : decode cX9_odds 36 = .ok (.iconst (-1), 1) := by decide +kernel
theorem dX9_odds_37 : decode cX9_odds 37 = .ok (.ireturn, 1) := by decide +kernel
theorem dX9_odds_38 : decode cX9_odds 38 = .ok (.iconst 0, 1) := by decide +kernel
theorem dX9_odds_39 : decode cX9_odds 39 = .ok (.istore 5, 2) := by decide +kernel
theorem dX9_odds_41 : decode cX9_odds 41 = .ok (.iconst 1, 1) := by decide +kernel
theorem dX9_odds_42 : decode cX9_odds 42 = .ok (.istore 6, 2) := by decide +kernel
theorem dX9_odds_44 : decode cX9_odds 44 = .ok (.iconst 0, 1) := by decide +kernel
theorem dX9_odds_45 : decode cX9_odds 45 = .ok (.istore 7, 2) := by decide +kernel
theorem dX9_odds_47 : decode cX9_odds 47 = .ok (.iload 7, 2) := by decide +kernel
theorem dX9_odds_49 : decode cX9_odds 49 = .ok (.aload_n 0, 1) := by decide +kernel
theorem dX9_odds_50 : decode cX9_odds 50 = .ok (.getfield 17, 3) := by decide +kernel
theorem dX9_odds_53 : decode cX9_odds 53 = .ok (.iconst 0, 1) := by decide +kernel
theorem dX9_odds_54 : decode cX9_odds 54 = .ok (.iaload, 1) := by decide +kernel
theorem dX9_odds_55 : decode cX9_odds 55 = .ok (.if_icmp .ge 29, 3) := by decide +kernel
theorem dX9_odds_58 : decode cX9_odds 58 = .ok (.iload 6, 2) := by decide +kernel
theorem dX9_odds_60 : decode cX9_odds 60 = .ok (.aload_n 0, 1) := by decide +kernel
theorem dX9_odds_61 : decode cX9_odds 61 = .ok (.iload 7, 2) := by decide +kernel
theorem dX9_odds_63 : decode cX9_odds 63 = .ok (.invokevirtual 138, 3) := by decide +kernel
theorem dX9_odds_66 : decode cX9_odds 66 = .ok (.ifCond .eq 7, 3) := by decide +kernel
theorem dX9_odds_69 : decode cX9_odds 69 = .ok (.iconst 1, 1) := by decide +kernel
theorem dX9_odds_70 : decode cX9_odds 70 = .ok (.goto 5, 3) := by decide +kernel
theorem dX9_odds_73 : decode cX9_odds 73 = .ok (.bipush 10, 2) := by decide +kernel
theorem dX9_odds_75 : decode cX9_odds 75 = .ok (.imul, 1) := by decide +kernel
theorem dX9_odds_76 : decode cX9_odds 76 = .ok (.istore 6, 2) := by decide +kernel
theorem dX9_odds_78 : decode cX9_odds 78 = .ok (.iinc 7 1, 3) := by decide +kernel
theorem dX9_odds_81 : decode cX9_odds 81 = .ok (.goto (-34), 3) := by decide +kernel
theorem dX9_odds_84 : decode cX9_odds 84 = .ok (.iconst 0, 1) := by decide +kernel
theorem dX9_odds_85 : decode cX9_odds 85 = .ok (.istore 7, 2) := by decide +kernel
theorem dX9_odds_87 : decode cX9_odds 87 = .ok (.iload 7, 2) := by decide +kernel
theorem dX9_odds_89 : decode cX9_odds 89 = .ok (.iconst 1, 1) := by decide +kernel
theorem dX9_odds_90 : decode cX9_odds 90 = .ok (.aload_n 0, 1) := by decide +kernel
theorem dX9_odds_91 : decode cX9_odds 91 = .ok (.getfield 17, 3) := by decide +kernel
theorem dX9_odds_94 : decode cX9_odds 94 = .ok (.iconst 0, 1) := by decide +kernel
theorem dX9_odds_95 : decode cX9_odds 95 = .ok (.iaload, 1) := by decide +kernel
theorem dX9_odds_96 : decode cX9_odds 96 = .ok (.ishl, 1) := by decide +kernel
theorem dX9_odds_97 : decode cX9_odds 97 = .ok (.if_icmp .ge 121, 3) := by decide +kernel
theorem dX9_odds_100 : decode cX9_odds 100 = .ok (.iload 7, 2) := by decide +kernel
theorem dX9_odds_102 : decode cX9_odds 102 = .ok (.aload_n 0, 1) := by decide +kernel
theorem dX9_odds_103 : decode cX9_odds 103 = .ok (.getfield 44, 3) := by decide +kernel
theorem dX9_odds_106 : decode cX9_odds 106 = .ok (.bipush 15, 2) := by decide +kernel
theorem dX9_odds_108 : decode cX9_odds 108 = .ok (.iaload, 1) := by decide +kernel
theorem dX9_odds_109 : decode cX9_odds 109 = .ok (.iand, 1) := by decide +kernel
theorem dX9_odds_110 : decode cX9_odds 110 = .ok (.ifCond .ne 7, 3) := by decide +kernel
theorem dX9_odds_113 : decode cX9_odds 113 = .ok (.iconst 1, 1) := by decide +kernel
theorem dX9_odds_114 : decode cX9_odds 114 = .ok (.goto 4, 3) := by decide +kernel
theorem dX9_odds_117 : decode cX9_odds 117 = .ok (.iconst 0, 1) := by decide +kernel
theorem dX9_odds_118 : decode cX9_odds 118 = .ok (.istore 8, 2) := by decide +kernel
theorem dX9_odds_120 : decode cX9_odds 120 = .ok (.iconst 0, 1) := by decide +kernel
theorem dX9_odds_121 : decode cX9_odds 121 = .ok (.istore 9, 2) := by decide +kernel
theorem dX9_odds_123 : decode cX9_odds 123 = .ok (.iload 9, 2) := by decide +kernel
theorem dX9_odds_125 : decode cX9_odds 125 = .ok (.aload_n 0, 1) := by decide +kernel
theorem dX9_odds_126 : decode cX9_odds 126 = .ok (.getfield 17, 3) := by decide +kernel
theorem dX9_odds_129 : decode cX9_odds 129 = .ok (.iconst 0, 1) := by decide +kernel
theorem dX9_odds_130 : decode cX9_odds 130 = .ok (.iaload, 1) := by decide +kernel
theorem dX9_odds_131 : decode cX9_odds 131 = .ok (.if_icmp .ge 46, 3) := by decide +kernel
theorem dX9_odds_134 : decode cX9_odds 134 = .ok (.iload 8, 2) := by decide +kernel
theorem dX9_odds_136 : decode cX9_odds 136 = .ok (.aload_n 0, 1) := by decide +kernel
theorem dX9_odds_137 : decode cX9_odds 137 = .ok (.iload 9, 2) := by decide +kernel
theorem dX9_odds_139 : decode cX9_odds 139 = .ok (.invokevirtual 138, 3) := by decide +kernel
theorem dX9_odds_142 : decode cX9_odds 142 = .ok (.ifCond .eq 7, 3) := by decide +kernel
theorem dX9_odds_145 : decode cX9_odds 145 = .ok (.iconst 1, 1) := by decide +kernel
theorem dX9_odds_146 : decode cX9_odds 146 = .ok (.goto 22, 3) := by decide +kernel
theorem dX9_odds_149 : decode cX9_odds 149 = .ok (.iload 7, 2) := by decide +kernel
theorem dX9_odds_151 : decode cX9_odds 151 = .ok (.iload 9, 2) := by decide +kernel
theorem dX9_odds_153 : decode cX9_odds 153 = .ok (.ishr, 1) := by decide +kernel
theorem dX9_odds_154 : decode cX9_odds 154 = .ok (.iconst 1, 1) := by decide +kernel
theorem dX9_odds_155 : decode cX9_odds 155 = .ok (.iand, 1) := by decide +kernel
theorem dX9_odds_156 : decode cX9_odds 156 = .ok (.iconst 1, 1) := by decide +kernel
theorem dX9_odds_157 : decode cX9_odds 157 = .ok (.if_icmp .ne 7, 3) := by decide +kernel
theorem dX9_odds_160 : decode cX9_odds 160 = .ok (.iload_n 3, 1) := by decide +kernel
theorem dX9_odds_161 : decode cX9_odds 161 = .ok (.goto 7, 3) := by decide +kernel
theorem dX9_odds_164 : decode cX9_odds 164 = .ok (.bipush 10, 2) := by decide +kernel
theorem dX9_odds_166 : decode cX9_odds 166 = .ok (.iload_n 3, 1) := by decide +kernel
theorem dX9_odds_167 : decode cX9_odds 167 = .ok (.isub, 1) := by decide +kernel
theorem dX9_odds_168 : decode cX9_odds 168 = .ok (.imul, 1) := by decide +kernel
theorem dX9_odds_169 : decode cX9_odds 169 = .ok (.istore 8, 2) := by decide +kernel
theorem dX9_odds_171 : decode cX9_odds 171 = .ok (.iinc 9 1, 3) := by decide +kernel
theorem dX9_odds_174 : decode cX9_odds 174 = .ok (.goto (-51), 3) := by decide +kernel
theorem dX9_odds_177 : decode cX9_odds 177 = .ok (.iload 5, 2) := by decide +kernel
theorem dX9_odds_179 : decode cX9_odds 179 = .ok (.iload 8, 2) := by decide +kernel
theorem dX9_odds_181 : decode cX9_odds 181 = .ok (.ifCond .le 27, 3) := by decide +kernel
theorem dX9_odds_184 : decode cX9_odds 184 = .ok (.aload_n 0, 1) := by decide +kernel
theorem dX9_odds_185 : decode cX9_odds 185 = .ok (.iload_n 1, 1) := by decide +kernel
theorem dX9_odds_186 : decode cX9_odds 186 = .ok (.iload_n 2, 1) := by decide +kernel
theorem dX9_odds_187 : decode cX9_odds 187 = .ok (.aload_n 0, 1) := by decide +kernel
theorem dX9_odds_188 : decode cX9_odds 188 = .ok (.getfield 44, 3) := by decide +kernel
theorem dX9_odds_191 : decode cX9_odds 191 = .ok (.bipush 15, 2) := by decide +kernel
theorem dX9_odds_193 : decode cX9_odds 193 = .ok (.iaload, 1) := by decide +kernel
theorem dX9_odds_194 : decode cX9_odds 194 = .ok (.iload 7, 2) := by decide +kernel
theorem dX9_odds_196 : decode cX9_odds 196 = .ok (.ior, 1) := by decide +kernel
theorem dX9_odds_197 : decode cX9_odds 197 = .ok (.invokevirtual 175, 3) := by decide +kernel
theorem dX9_odds_200 : decode cX9_odds 200 = .ok (.ifCond .eq 8, 3) := by decide +kernel
theorem dX9_odds_203 : decode cX9_odds 203 = .ok (.iload 8, 2) := by decide +kernel
theorem dX9_odds_205 : decode cX9_odds 205 = .ok (.goto 4, 3) := by decide +kernel
theorem dX9_odds_208 : decode cX9_odds 208 = .ok (.iconst 0, 1) := by decide +kernel
theorem dX9_odds_209 : decode cX9_odds 209 = .ok (.iadd, 1) := by decide +kernel
theorem dX9_odds_210 : decode cX9_odds 210 = .ok (.istore 5, 2) := by decide +kernel
theorem dX9_odds_212 : decode cX9_odds 212 = .ok (.iinc 7 1, 3) := by decide +kernel
theorem dX9_odds_215 : decode cX9_odds 215 = .ok (.goto (-128), 3) := by decide +kernel
theorem dX9_odds_218 : decode cX9_odds 218 = .ok (.iload 5, 2) := by decide +kernel
theorem dX9_odds_220 : decode cX9_odds 220 = .ok (.istore 7, 2) := by decide +kernel
theorem dX9_odds_222 : decode cX9_odds 222 = .ok (.iload 6, 2) := by decide +kernel
theorem dX9_odds_224 : decode cX9_odds 224 = .ok (.istore 8, 2) := by decide +kernel
theorem dX9_odds_226 : decode cX9_odds 226 = .ok (.iload 8, 2) := by decide +kernel
theorem dX9_odds_228 : decode cX9_odds 228 = .ok (.ifCond .eq 21, 3) := by decide +kernel
theorem dX9_odds_231 : decode cX9_odds 231 = .ok (.iload 7, 2) := by decide +kernel
theorem dX9_odds_233 : decode cX9_odds 233 = .ok (.iload 8, 2) := by decide +kernel
theorem dX9_odds_235 : decode cX9_odds 235 = .ok (.irem, 1) := by decide +kernel
theorem dX9_odds_236 : decode cX9_odds 236 = .ok (.istore 9, 2) := by decide +kernel
theorem dX9_odds_238 : decode cX9_odds 238 = .ok (.iload 8, 2) := by decide +kernel
theorem dX9_odds_240 : decode cX9_odds 240 = .ok (.istore 7, 2) := by decide +kernel
theorem dX9_odds_242 : decode cX9_odds 242 = .ok (.iload 9, 2) := by decide +kernel
theorem dX9_odds_244 : decode cX9_odds 244 = .ok (.istore 8, 2) := by decide +kernel
theorem dX9_odds_246 : decode cX9_odds 246 = .ok (.goto (-20), 3) := by decide +kernel
theorem dX9_odds_249 : decode cX9_odds 249 = .ok (.iload 4, 2) := by decide +kernel
theorem dX9_odds_251 : decode cX9_odds 251 = .ok (.ifCond .ne 11, 3) := by decide +kernel
theorem dX9_odds_254 : decode cX9_odds 254 = .ok (.iload 5, 2) := by decide +kernel
theorem dX9_odds_256 : decode cX9_odds 256 = .ok (.iload 7, 2) := by decide +kernel
theorem dX9_odds_258 : decode cX9_odds 258 = .ok (.idiv, 1) := by decide +kernel
theorem dX9_odds_259 : decode cX9_odds 259 = .ok (.goto 8, 3) := by decide +kernel
theorem dX9_odds_262 : decode cX9_odds 262 = .ok (.iload 6, 2) := by decide +kernel
theorem dX9_odds_264 : decode cX9_odds 264 = .ok (.iload 7, 2) := by decide +kernel
theorem dX9_odds_266 : decode cX9_odds 266 = .ok (.idiv, 1) := by decide +kernel
theorem dX9_odds_267 : decode cX9_odds 267 = .ok (.ireturn, 1) := by decide +kernel
theorem dX9_meeting_0 : decode cX9_meeting 0 = .ok (.aload_n 0, 1) := by decide +kernel
theorem dX9_meeting_1 : decode cX9_meeting 1 = .ok (.iload_n 1, 1) := by decide +kernel
theorem dX9_meeting_2 : decode cX9_meeting 2 = .ok (.invokevirtual 141, 3) := by decide +kernel
theorem dX9_meeting_5 : decode cX9_meeting 5 = .ok (.ifCond .eq 34, 3) := by decide +kernel
theorem dX9_meeting_8 : decode cX9_meeting 8 = .ok (.aload_n 0, 1) := by decide +kernel
theorem dX9_meeting_9 : decode cX9_meeting 9 = .ok (.iload_n 2, 1) := by decide +kernel
theorem dX9_meeting_10 : decode cX9_meeting 10 = .ok (.invokevirtual 141, 3) := by decide +kernel
theorem dX9_meeting_13 : decode cX9_meeting 13 = .ok (.ifCond .eq 26, 3) := by decide +kernel
theorem dX9_meeting_16 : decode cX9_meeting 16 = .ok (.iload_n 1, 1) := by decide +kernel
theorem dX9_meeting_17 : decode cX9_meeting 17 = .ok (.iload_n 2, 1) := by decide +kernel
theorem dX9_meeting_18 : decode cX9_meeting 18 = .ok (.if_icmp .eq 21, 3) := by decide +kernel
theorem dX9_meeting_21 : decode cX9_meeting 21 = .ok (.aload_n 0, 1) := by decide +kernel
theorem dX9_meeting_22 : decode cX9_meeting 22 = .ok (.iload_n 3, 1) := by decide +kernel
theorem dX9_meeting_23 : decode cX9_meeting 23 = .ok (.invokevirtual 134, 3) := by decide +kernel
theorem dX9_meeting_26 : decode cX9_meeting 26 = .ok (.ifCond .eq 13, 3) := by decide +kernel
end
section
theorem dX9_meeting_29 : decode cX9_meeting 29 = .ok (.aload_n 0, 1) := by decide +kernel
theorem dX9_meeting_30 : decode cX9_meeting 30 = .ok (.iload_n 1, 1) := by decide +kernel
theorem dX9_meeting_31 : decode cX9_meeting 31 = .ok (.iload_n 2, 1) := by decide +kernel
theorem dX9_meeting_32 : decode cX9_meeting 32 = .ok (.iload_n 3, 1) := by decide +kernel
theorem dX9_meeting_33 : decode cX9_meeting 33 = .ok (.invokevirtual 153, 3) := by decide +kernel
theorem dX9_meeting_36 : decode cX9_meeting 36 = .ok (.goto 4, 3) := by decide +kernel
theorem dX9_meeting_39 : decode cX9_meeting 39 = .ok (.iconst (-1), 1) := by decide +kernel
theorem dX9_meeting_40 : decode cX9_meeting 40 = .ok (.ireturn, 1) := by decide +kernel
theorem dX9_rowsOf_0 : decode cX9_rowsOf 0 = .ok (.iload_n 1, 1) := by decide +kernel
theorem dX9_rowsOf_1 : decode cX9_rowsOf 1 = .ok (.istore_n 3, 1) := by decide +kernel
theorem dX9_rowsOf_2 : decode cX9_rowsOf 2 = .ok (.aload_n 0, 1) := by decide +kernel
theorem dX9_rowsOf_3 : decode cX9_rowsOf 3 = .ok (.getfield 29, 3) := by decide +kernel
theorem dX9_rowsOf_6 : decode cX9_rowsOf 6 = .ok (.iconst 0, 1) := by decide +kernel
theorem dX9_rowsOf_7 : decode cX9_rowsOf 7 = .ok (.iaload, 1) := by decide +kernel
theorem dX9_rowsOf_8 : decode cX9_rowsOf 8 = .ok (.iconst 1, 1) := by decide +kernel
theorem dX9_rowsOf_9 : decode cX9_rowsOf 9 = .ok (.isub, 1) := by decide +kernel
theorem dX9_rowsOf_10 : decode cX9_rowsOf 10 = .ok (.istore 4, 2) := by decide +kernel
theorem dX9_rowsOf_12 : decode cX9_rowsOf 12 = .ok (.iload 4, 2) := by decide +kernel
theorem dX9_rowsOf_14 : decode cX9_rowsOf 14 = .ok (.ifCond .lt 31, 3) := by decide +kernel
theorem dX9_rowsOf_17 : decode cX9_rowsOf 17 = .ok (.aload_n 0, 1) := by decide +kernel
theorem dX9_rowsOf_18 : decode cX9_rowsOf 18 = .ok (.getfield 54, 3) := by decide +kernel
theorem dX9_rowsOf_21 : decode cX9_rowsOf 21 = .ok (.iload 4, 2) := by decide +kernel
theorem dX9_rowsOf_23 : decode cX9_rowsOf 23 = .ok (.iload_n 3, 1) := by decide +kernel
theorem dX9_rowsOf_24 : decode cX9_rowsOf 24 = .ok (.iconst 5, 1) := by decide +kernel
theorem dX9_rowsOf_25 : decode cX9_rowsOf 25 = .ok (.irem, 1) := by decide +kernel
theorem dX9_rowsOf_26 : decode cX9_rowsOf 26 = .ok (.iastore, 1) := by decide +kernel
theorem dX9_rowsOf_27 : decode cX9_rowsOf 27 = .ok (.iload_n 3, 1) := by decide +kernel
theorem dX9_rowsOf_28 : decode cX9_rowsOf 28 = .ok (.iconst 5, 1) := by decide +kernel
theorem dX9_rowsOf_29 : decode cX9_rowsOf 29 = .ok (.idiv, 1) := by decide +kernel
theorem dX9_rowsOf_30 : decode cX9_rowsOf 30 = .ok (.istore_n 3, 1) := by decide +kernel
theorem dX9_rowsOf_31 : decode cX9_rowsOf 31 = .ok (.aload_n 0, 1) := by decide +kernel
theorem dX9_rowsOf_32 : decode cX9_rowsOf 32 = .ok (.getfield 57, 3) := by decide +kernel
theorem dX9_rowsOf_35 : decode cX9_rowsOf 35 = .ok (.iload 4, 2) := by decide +kernel
theorem dX9_rowsOf_37 : decode cX9_rowsOf 37 = .ok (.iconst 0, 1) := by decide +kernel
theorem dX9_rowsOf_38 : decode cX9_rowsOf 38 = .ok (.iastore, 1) := by decide +kernel
theorem dX9_rowsOf_39 : decode cX9_rowsOf 39 = .ok (.iinc 4 (-1), 3) := by decide +kernel
theorem dX9_rowsOf_42 : decode cX9_rowsOf 42 = .ok (.goto (-30), 3) := by decide +kernel
theorem dX9_rowsOf_45 : decode cX9_rowsOf 45 = .ok (.iconst 0, 1) := by decide +kernel
theorem dX9_rowsOf_46 : decode cX9_rowsOf 46 = .ok (.istore 4, 2) := by decide +kernel
theorem dX9_rowsOf_48 : decode cX9_rowsOf 48 = .ok (.iconst 0, 1) := by decide +kernel
theorem dX9_rowsOf_49 : decode cX9_rowsOf 49 = .ok (.istore 5, 2) := by decide +kernel
theorem dX9_rowsOf_51 : decode cX9_rowsOf 51 = .ok (.iload 5, 2) := by decide +kernel
theorem dX9_rowsOf_53 : decode cX9_rowsOf 53 = .ok (.aload_n 0, 1) := by decide +kernel
theorem dX9_rowsOf_54 : decode cX9_rowsOf 54 = .ok (.getfield 29, 3) := by decide +kernel
theorem dX9_rowsOf_57 : decode cX9_rowsOf 57 = .ok (.iconst 0, 1) := by decide +kernel
theorem dX9_rowsOf_58 : decode cX9_rowsOf 58 = .ok (.iaload, 1) := by decide +kernel
theorem dX9_rowsOf_59 : decode cX9_rowsOf 59 = .ok (.if_icmp .ge 87, 3) := by decide +kernel
theorem dX9_rowsOf_62 : decode cX9_rowsOf 62 = .ok (.aload_n 0, 1) := by decide +kernel
theorem dX9_rowsOf_63 : decode cX9_rowsOf 63 = .ok (.getfield 54, 3) := by decide +kernel
theorem dX9_rowsOf_66 : decode cX9_rowsOf 66 = .ok (.iload 5, 2) := by decide +kernel
theorem dX9_rowsOf_68 : decode cX9_rowsOf 68 = .ok (.iaload, 1) := by decide +kernel
theorem dX9_rowsOf_69 : decode cX9_rowsOf 69 = .ok (.iload 4, 2) := by decide +kernel
theorem dX9_rowsOf_71 : decode cX9_rowsOf 71 = .ok (.if_icmp .le 6, 3) := by decide +kernel
theorem dX9_rowsOf_74 : decode cX9_rowsOf 74 = .ok (.bipush (-9), 2) := by decide +kernel
theorem dX9_rowsOf_76 : decode cX9_rowsOf 76 = .ok (.ireturn, 1) := by decide +kernel
theorem dX9_rowsOf_77 : decode cX9_rowsOf 77 = .ok (.aload_n 0, 1) := by decide +kernel
theorem dX9_rowsOf_78 : decode cX9_rowsOf 78 = .ok (.getfield 54, 3) := by decide +kernel
theorem dX9_rowsOf_81 : decode cX9_rowsOf 81 = .ok (.iload 5, 2) := by decide +kernel
theorem dX9_rowsOf_83 : decode cX9_rowsOf 83 = .ok (.iaload, 1) := by decide +kernel
theorem dX9_rowsOf_84 : decode cX9_rowsOf 84 = .ok (.iload 4, 2) := by decide +kernel
theorem dX9_rowsOf_86 : decode cX9_rowsOf 86 = .ok (.if_icmp .ne 10, 3) := by decide +kernel
theorem dX9_rowsOf_89 : decode cX9_rowsOf 89 = .ok (.iload 4, 2) := by decide +kernel
theorem dX9_rowsOf_91 : decode cX9_rowsOf 91 = .ok (.iconst 1, 1) := by decide +kernel
theorem dX9_rowsOf_92 : decode cX9_rowsOf 92 = .ok (.iadd, 1) := by decide +kernel
theorem dX9_rowsOf_93 : decode cX9_rowsOf 93 = .ok (.goto 5, 3) := by decide +kernel
theorem dX9_rowsOf_96 : decode cX9_rowsOf 96 = .ok (.iload 4, 2) := by decide +kernel
theorem dX9_rowsOf_98 : decode cX9_rowsOf 98 = .ok (.istore 4, 2) := by decide +kernel
theorem dX9_rowsOf_100 : decode cX9_rowsOf 100 = .ok (.aload_n 0, 1) := by decide +kernel
theorem dX9_rowsOf_101 : decode cX9_rowsOf 101 = .ok (.getfield 57, 3) := by decide +kernel
theorem dX9_rowsOf_104 : decode cX9_rowsOf 104 = .ok (.aload_n 0, 1) := by decide +kernel
theorem dX9_rowsOf_105 : decode cX9_rowsOf 105 = .ok (.getfield 54, 3) := by decide +kernel
theorem dX9_rowsOf_108 : decode cX9_rowsOf 108 = .ok (.iload 5, 2) := by decide +kernel
theorem dX9_rowsOf_110 : decode cX9_rowsOf 110 = .ok (.iaload, 1) := by decide +kernel
theorem dX9_rowsOf_111 : decode cX9_rowsOf 111 = .ok (.dup2, 1) := by decide +kernel
theorem dX9_rowsOf_112 : decode cX9_rowsOf 112 = .ok (.iaload, 1) := by decide +kernel
theorem dX9_rowsOf_113 : decode cX9_rowsOf 113 = .ok (.aload_n 0, 1) := by decide +kernel
theorem dX9_rowsOf_114 : decode cX9_rowsOf 114 = .ok (.iload 5, 2) := by decide +kernel
theorem dX9_rowsOf_116 : decode cX9_rowsOf 116 = .ok (.invokevirtual 124, 3) := by decide +kernel
theorem dX9_rowsOf_119 : decode cX9_rowsOf 119 = .ok (.iadd, 1) := by decide +kernel
theorem dX9_rowsOf_120 : decode cX9_rowsOf 120 = .ok (.iastore, 1) := by decide +kernel
theorem dX9_rowsOf_121 : decode cX9_rowsOf 121 = .ok (.aload_n 0, 1) := by decide +kernel
theorem dX9_rowsOf_122 : decode cX9_rowsOf 122 = .ok (.getfield 57, 3) := by decide +kernel
theorem dX9_rowsOf_125 : decode cX9_rowsOf 125 = .ok (.aload_n 0, 1) := by decide +kernel
theorem dX9_rowsOf_126 : decode cX9_rowsOf 126 = .ok (.getfield 54, 3) := by decide +kernel
theorem dX9_rowsOf_129 : decode cX9_rowsOf 129 = .ok (.iload 5, 2) := by decide +kernel
theorem dX9_rowsOf_131 : decode cX9_rowsOf 131 = .ok (.iaload, 1) := by decide +kernel
theorem dX9_rowsOf_132 : decode cX9_rowsOf 132 = .ok (.iaload, 1) := by decide +kernel
theorem dX9_rowsOf_133 : decode cX9_rowsOf 133 = .ok (.iload_n 2, 1) := by decide +kernel
theorem dX9_rowsOf_134 : decode cX9_rowsOf 134 = .ok (.if_icmp .le 6, 3) := by decide +kernel
theorem dX9_rowsOf_137 : decode cX9_rowsOf 137 = .ok (.bipush (-9), 2) := by decide +kernel
theorem dX9_rowsOf_139 : decode cX9_rowsOf 139 = .ok (.ireturn, 1) := by decide +kernel
theorem dX9_rowsOf_140 : decode cX9_rowsOf 140 = .ok (.iinc 5 1, 3) := by decide +kernel
theorem dX9_rowsOf_143 : decode cX9_rowsOf 143 = .ok (.goto (-92), 3) := by decide +kernel
theorem dX9_rowsOf_146 : decode cX9_rowsOf 146 = .ok (.iload 4, 2) := by decide +kernel
theorem dX9_rowsOf_148 : decode cX9_rowsOf 148 = .ok (.ireturn, 1) := by decide +kernel
theorem dX9_theatre_0 : decode cX9_theatre 0 = .ok (.iload_n 1, 1) := by decide +kernel
theorem dX9_theatre_1 : decode cX9_theatre 1 = .ok (.iconst 1, 1) := by decide +kernel
theorem dX9_theatre_2 : decode cX9_theatre 2 = .ok (.bipush 99, 2) := by decide +kernel
theorem dX9_theatre_4 : decode cX9_theatre 4 = .ok (.invokestatic 72, 3) := by decide +kernel
theorem dX9_theatre_7 : decode cX9_theatre 7 = .ok (.ifCond .eq 16, 3) := by decide +kernel
theorem dX9_theatre_10 : decode cX9_theatre 10 = .ok (.iload_n 2, 1) := by decide +kernel
theorem dX9_theatre_11 : decode cX9_theatre 11 = .ok (.iconst (-1), 1) := by decide +kernel
theorem dX9_theatre_12 : decode cX9_theatre 12 = .ok (.if_icmp .eq 13, 3) := by decide +kernel
theorem dX9_theatre_15 : decode cX9_theatre 15 = .ok (.aload_n 0, 1) := by decide +kernel
theorem dX9_theatre_16 : decode cX9_theatre 16 = .ok (.iload_n 2, 1) := by decide +kernel
theorem dX9_theatre_17 : decode cX9_theatre 17 = .ok (.invokevirtual 141, 3) := by decide +kernel
theorem dX9_theatre_20 : decode cX9_theatre 20 = .ok (.ifCond .ne 5, 3) := by decide +kernel
theorem dX9_theatre_23 : decode cX9_theatre 23 = .ok (.iconst (-1), 1) := by decide +kernel
theorem dX9_theatre_24 : decode cX9_theatre 24 = .ok (.ireturn, 1) := by decide +kernel
theorem dX9_theatre_25 : decode cX9_theatre 25 = .ok (.iconst 1, 1) := by decide +kernel
theorem dX9_theatre_26 : decode cX9_theatre 26 = .ok (.istore_n 3, 1) := by decide +kernel
theorem dX9_theatre_27 : decode cX9_theatre 27 = .ok (.iconst 0, 1) := by decide +kernel
theorem dX9_theatre_28 : decode cX9_theatre 28 = .ok (.istore 4, 2) := by decide +kernel
theorem dX9_theatre_30 : decode cX9_theatre 30 = .ok (.iload 4, 2) := by decide +kernel
theorem dX9_theatre_32 : decode cX9_theatre 32 = .ok (.aload_n 0, 1) := by decide +kernel
theorem dX9_theatre_33 : decode cX9_theatre 33 = .ok (.getfield 29, 3) := by decide +kernel
theorem dX9_theatre_36 : decode cX9_theatre 36 = .ok (.iconst 0, 1) := by decide +kernel
theorem dX9_theatre_37 : decode cX9_theatre 37 = .ok (.iaload, 1) := by decide +kernel
theorem dX9_theatre_38 : decode cX9_theatre 38 = .ok (.if_icmp .ge 13, 3) := by decide +kernel
theorem dX9_theatre_41 : decode cX9_theatre 41 = .ok (.iload_n 3, 1) := by decide +kernel
theorem dX9_theatre_42 : decode cX9_theatre 42 = .ok (.iconst 5, 1) := by decide +kernel
theorem dX9_theatre_43 : decode cX9_theatre 43 = .ok (.imul, 1) := by decide +kernel
theorem dX9_theatre_44 : decode cX9_theatre 44 = .ok (.istore_n 3, 1) := by decide +kernel
theorem dX9_theatre_45 : decode cX9_theatre 45 = .ok (.iinc 4 1, 3) := by decide +kernel
theorem dX9_theatre_48 : decode cX9_theatre 48 = .ok (.goto (-18), 3) := by decide +kernel
theorem dX9_theatre_51 : decode cX9_theatre 51 = .ok (.bipush (-9), 2) := by decide +kernel
theorem dX9_theatre_53 : decode cX9_theatre 53 = .ok (.istore 4, 2) := by decide +kernel
theorem dX9_theatre_55 : decode cX9_theatre 55 = .ok (.bipush (-9), 2) := by decide +kernel
theorem dX9_theatre_57 : decode cX9_theatre 57 = .ok (.istore 5, 2) := by decide +kernel
theorem dX9_theatre_59 : decode cX9_theatre 59 = .ok (.iconst 0, 1) := by decide +kernel
theorem dX9_theatre_60 : decode cX9_theatre 60 = .ok (.istore 6, 2) := by decide +kernel
theorem dX9_theatre_62 : decode cX9_theatre 62 = .ok (.iload 6, 2) := by decide +kernel
theorem dX9_theatre_64 : decode cX9_theatre 64 = .ok (.iload_n 3, 1) := by decide +kernel
theorem dX9_theatre_65 : decode cX9_theatre 65 = .ok (.if_icmp .ge 47, 3) := by decide +kernel
theorem dX9_theatre_68 : decode cX9_theatre 68 = .ok (.aload_n 0, 1) := by decide +kernel
theorem dX9_theatre_69 : decode cX9_theatre 69 = .ok (.iload 6, 2) := by decide +kernel
theorem dX9_theatre_71 : decode cX9_theatre 71 = .ok (.iload_n 1, 1) := by decide +kernel
theorem dX9_theatre_72 : decode cX9_theatre 72 = .ok (.invokevirtual 178, 3) := by decide +kernel
theorem dX9_theatre_75 : decode cX9_theatre 75 = .ok (.istore 7, 2) := by decide +kernel
theorem dX9_theatre_77 : decode cX9_theatre 77 = .ok (.iload 7, 2) := by decide +kernel
theorem dX9_theatre_79 : decode cX9_theatre 79 = .ok (.bipush (-9), 2) := by decide +kernel
theorem dX9_theatre_81 : decode cX9_theatre 81 = .ok (.if_icmp .eq 25, 3) := by decide +kernel
theorem dX9_theatre_84 : decode cX9_theatre 84 = .ok (.iload 5, 2) := by decide +kernel
theorem dX9_theatre_86 : decode cX9_theatre 86 = .ok (.bipush (-9), 2) := by decide +kernel
theorem dX9_theatre_88 : decode cX9_theatre 88 = .ok (.if_icmp .eq 10, 3) := by decide +kernel
theorem dX9_theatre_91 : decode cX9_theatre 91 = .ok (.iload 7, 2) := by decide +kernel
theorem dX9_theatre_93 : decode cX9_theatre 93 = .ok (.iload 5, 2) := by decide +kernel
theorem dX9_theatre_95 : decode cX9_theatre 95 = .ok (.if_icmp .ge 11, 3) := by decide +kernel
theorem dX9_theatre_98 : decode cX9_theatre 98 = .ok (.iload 6, 2) := by decide +kernel
theorem dX9_theatre_100 : decode cX9_theatre 100 = .ok (.istore 4, 2) := by decide +kernel
theorem dX9_theatre_102 : decode cX9_theatre 102 = .ok (.iload 7, 2) := by decide +kernel
theorem dX9_theatre_104 : decode cX9_theatre 104 = .ok (.istore 5, 2) := by decide +kernel
theorem dX9_theatre_106 : decode cX9_theatre 106 = .ok (.iinc 6 1, 3) := by decide +kernel
theorem dX9_theatre_109 : decode cX9_theatre 109 = .ok (.goto (-47), 3) := by decide +kernel
theorem dX9_theatre_112 : decode cX9_theatre 112 = .ok (.iload 4, 2) := by decide +kernel
theorem dX9_theatre_114 : decode cX9_theatre 114 = .ok (.bipush (-9), 2) := by decide +kernel
theorem dX9_theatre_116 : decode cX9_theatre 116 = .ok (.if_icmp .eq 8, 3) := by decide +kernel
theorem dX9_theatre_119 : decode cX9_theatre 119 = .ok (.iload_n 2, 1) := by decide +kernel
theorem dX9_theatre_120 : decode cX9_theatre 120 = .ok (.iconst (-1), 1) := by decide +kernel
theorem dX9_theatre_121 : decode cX9_theatre 121 = .ok (.if_icmp .ne 6, 3) := by decide +kernel
theorem dX9_theatre_124 : decode cX9_theatre 124 = .ok (.iload 5, 2) := by decide +kernel
theorem dX9_theatre_126 : decode cX9_theatre 126 = .ok (.ireturn, 1) := by decide +kernel
theorem dX9_theatre_127 : decode cX9_theatre 127 = .ok (.aload_n 0, 1) := by decide +kernel
theorem dX9_theatre_128 : decode cX9_theatre 128 = .ok (.iload 4, 2) := by decide +kernel
theorem dX9_theatre_130 : decode cX9_theatre 130 = .ok (.iload_n 1, 1) := by decide +kernel
theorem dX9_theatre_131 : decode cX9_theatre 131 = .ok (.invokevirtual 178, 3) := by decide +kernel
theorem dX9_theatre_134 : decode cX9_theatre 134 = .ok (.pop, 1) := by decide +kernel
theorem dX9_theatre_135 : decode cX9_theatre 135 = .ok (.aload_n 0, 1) := by decide +kernel
theorem dX9_theatre_136 : decode cX9_theatre 136 = .ok (.getfield 54, 3) := by decide +kernel
theorem dX9_theatre_139 : decode cX9_theatre 139 = .ok (.iload_n 2, 1) := by decide +kernel
theorem dX9_theatre_140 : decode cX9_theatre 140 = .ok (.iaload, 1) := by decide +kernel
theorem dX9_theatre_141 : decode cX9_theatre 141 = .ok (.ireturn, 1) := by decide +kernel
theorem dX9_narrow_0 : decode cX9_narrow 0 = .ok (.aload_n 0, 1) := by decide +kernel
theorem dX9_narrow_1 : decode cX9_narrow 1 = .ok (.iload_n 1, 1) := by decide +kernel
theorem dX9_narrow_2 : decode cX9_narrow 2 = .ok (.invokevirtual 134, 3) := by decide +kernel
theorem dX9_narrow_5 : decode cX9_narrow 5 = .ok (.ifCond .ne 5, 3) := by decide +kernel
theorem dX9_narrow_8 : decode cX9_narrow 8 = .ok (.iconst (-1), 1) := by decide +kernel
theorem dX9_narrow_9 : decode cX9_narrow 9 = .ok (.ireturn, 1) := by decide +kernel
theorem dX9_narrow_10 : decode cX9_narrow 10 = .ok (.bipush (-9), 2) := by decide +kernel
theorem dX9_narrow_12 : decode cX9_narrow 12 = .ok (.istore_n 2, 1) := by decide +kernel
theorem dX9_narrow_13 : decode cX9_narrow 13 = .ok (.iconst 0, 1) := by decide +kernel
theorem dX9_narrow_14 : decode cX9_narrow 14 = .ok (.istore_n 3, 1) := by decide +kernel
theorem dX9_narrow_15 : decode cX9_narrow 15 = .ok (.iload_n 3, 1) := by decide +kernel
theorem dX9_narrow_16 : decode cX9_narrow 16 = .ok (.iconst 1, 1) := by decide +kernel
theorem dX9_narrow_17 : decode cX9_narrow 17 = .ok (.aload_n 0, 1) := by decide +kernel
theorem dX9_narrow_18 : decode cX9_narrow 18 = .ok (.getfield 29, 3) := by decide +kernel
theorem dX9_narrow_21 : decode cX9_narrow 21 = .ok (.iconst 0, 1) := by decide +kernel
theorem dX9_narrow_22 : decode cX9_narrow 22 = .ok (.iaload, 1) := by decide +kernel
theorem dX9_narrow_23 : decode cX9_narrow 23 = .ok (.ishl, 1) := by decide +kernel
theorem dX9_narrow_24 : decode cX9_narrow 24 = .ok (.if_icmp .ge 96, 3) := by decide +kernel
theorem dX9_narrow_27 : decode cX9_narrow 27 = .ok (.iconst 0, 1) := by decide +kernel
theorem dX9_narrow_28 : decode cX9_narrow 28 = .ok (.istore 4, 2) := by decide +kernel
theorem dX9_narrow_30 : decode cX9_narrow 30 = .ok (.iconst 0, 1) := by decide +kernel
theorem dX9_narrow_31 : decode cX9_narrow 31 = .ok (.istore 5, 2) := by decide +kernel
theorem dX9_narrow_33 : decode cX9_narrow 33 = .ok (.iload 5, 2) := by decide +kernel
theorem dX9_narrow_35 : decode cX9_narrow 35 = .ok (.aload_n 0, 1) := by decide +kernel
theorem dX9_narrow_36 : decode cX9_narrow 36 = .ok (.getfield 29, 3) := by decide +kernel
theorem dX9_narrow_39 : decode cX9_narrow 39 = .ok (.iconst 0, 1) := by decide +kernel
theorem dX9_narrow_40 : decode cX9_narrow 40 = .ok (.iaload, 1) := by decide +kernel
theorem dX9_narrow_41 : decode cX9_narrow 41 = .ok (.if_icmp .ge 39, 3) := by decide +kernel
theorem dX9_narrow_44 : decode cX9_narrow 44 = .ok (.iload 4, 2) := by decide +kernel
theorem dX9_narrow_46 : decode cX9_narrow 46 = .ok (.iload_n 3, 1) := by decide +kernel
theorem dX9_narrow_47 : decode cX9_narrow 47 = .ok (.iload 5, 2) := by decide +kernel
theorem dX9_narrow_49 : decode cX9_narrow 49 = .ok (.ishr, 1) := by decide +kernel
theorem dX9_narrow_50 : decode cX9_narrow 50 = .ok (.iconst 1, 1) := by decide +kernel
theorem dX9_narrow_51 : decode cX9_narrow 51 = .ok (.iand, 1) := by decide +kernel
theorem dX9_narrow_52 : decode cX9_narrow 52 = .ok (.iconst 1, 1) := by decide +kernel
theorem dX9_narrow_53 : decode cX9_narrow 53 = .ok (.if_icmp .ne 12, 3) := by decide +kernel
theorem dX9_narrow_56 : decode cX9_narrow 56 = .ok (.aload_n 0, 1) := by decide +kernel
theorem dX9_narrow_57 : decode cX9_narrow 57 = .ok (.getfield 38, 3) := by decide +kernel
theorem dX9_narrow_60 : decode cX9_narrow 60 = .ok (.iconst 0, 1) := by decide +kernel
theorem dX9_narrow_61 : decode cX9_narrow 61 = .ok (.iaload, 1) := by decide +kernel
theorem dX9_narrow_62 : decode cX9_narrow 62 = .ok (.goto 9, 3) := by decide +kernel
theorem dX9_narrow_65 : decode cX9_narrow 65 = .ok (.aload_n 0, 1) := by decide +kernel
theorem dX9_narrow_66 : decode cX9_narrow 66 = .ok (.iload 5, 2) := by decide +kernel
theorem dX9_narrow_68 : decode cX9_narrow 68 = .ok (.invokevirtual 124, 3) := by decide +kernel
theorem dX9_narrow_71 : decode cX9_narrow 71 = .ok (.iadd, 1) := by decide +kernel
theorem dX9_narrow_72 : decode cX9_narrow 72 = .ok (.istore 4, 2) := by decide +kernel
theorem dX9_narrow_74 : decode cX9_narrow 74 = .ok (.iinc 5 1, 3) := by decide +kernel
theorem dX9_narrow_77 : decode cX9_narrow 77 = .ok (.goto (-44), 3) := by decide +kernel
theorem dX9_narrow_80 : decode cX9_narrow 80 = .ok (.iload 4, 2) := by decide +kernel
theorem dX9_narrow_82 : decode cX9_narrow 82 = .ok (.aload_n 0, 1) := by decide +kernel
theorem dX9_narrow_83 : decode cX9_narrow 83 = .ok (.getfield 26, 3) := by decide +kernel
theorem dX9_narrow_86 : decode cX9_narrow 86 = .ok (.iload_n 1, 1) := by decide +kernel
theorem dX9_narrow_87 : decode cX9_narrow 87 = .ok (.iaload, 1) := by decide +kernel
theorem dX9_narrow_88 : decode cX9_narrow 88 = .ok (.if_icmp .gt 24, 3) := by decide +kernel
theorem dX9_narrow_91 : decode cX9_narrow 91 = .ok (.iload_n 2, 1) := by decide +kernel
theorem dX9_narrow_92 : decode cX9_narrow 92 = .ok (.bipush (-9), 2) := by decide +kernel
theorem dX9_narrow_94 : decode cX9_narrow 94 = .ok (.if_icmp .eq 14, 3) := by decide +kernel
theorem dX9_narrow_97 : decode cX9_narrow 97 = .ok (.iload_n 3, 1) := by decide +kernel
theorem dX9_narrow_98 : decode cX9_narrow 98 = .ok (.invokestatic 157, 3) := by decide +kernel
theorem dX9_narrow_101 : decode cX9_narrow 101 = .ok (.iload_n 2, 1) := by decide +kernel
theorem dX9_narrow_102 : decode cX9_narrow 102 = .ok (.invokestatic 157, 3) := by decide +kernel
theorem dX9_narrow_105 : decode cX9_narrow 105 = .ok (.if_icmp .ge 7, 3) := by decide +kernel
theorem dX9_narrow_108 : decode cX9_narrow 108 = .ok (.iload_n 3, 1) := by decide +kernel
theorem dX9_narrow_109 : decode cX9_narrow 109 = .ok (.goto 4, 3) := by decide +kernel
theorem dX9_narrow_112 : decode cX9_narrow 112 = .ok (.iload_n 2, 1) := by decide +kernel
theorem dX9_narrow_113 : decode cX9_narrow 113 = .ok (.istore_n 2, 1) := by decide +kernel
theorem dX9_narrow_114 : decode cX9_narrow 114 = .ok (.iinc 3 1, 3) := by decide +kernel
theorem dX9_narrow_117 : decode cX9_narrow 117 = .ok (.goto (-102), 3) := by decide +kernel
theorem dX9_narrow_120 : decode cX9_narrow 120 = .ok (.iload_n 2, 1) := by decide +kernel
theorem dX9_narrow_121 : decode cX9_narrow 121 = .ok (.ireturn, 1) := by decide +kernel
theorem dX9_order_0 : decode cX9_order 0 = .ok (.aload_n 0, 1) := by decide +kernel
theorem dX9_order_1 : decode cX9_order 1 = .ok (.iload_n 1, 1) := by decide +kernel
theorem dX9_order_2 : decode cX9_order 2 = .ok (.invokevirtual 141, 3) := by decide +kernel
theorem dX9_order_5 : decode cX9_order 5 = .ok (.ifCond .ne 5, 3) := by decide +kernel
theorem dX9_order_8 : decode cX9_order 8 = .ok (.iconst (-1), 1) := by decide +kernel
theorem dX9_order_9 : decode cX9_order 9 = .ok (.ireturn, 1) := by decide +kernel
theorem dX9_order_10 : decode cX9_order 10 = .ok (.bipush (-9), 2) := by decide +kernel
theorem dX9_order_12 : decode cX9_order 12 = .ok (.istore_n 2, 1) := by decide +kernel
theorem dX9_order_13 : decode cX9_order 13 = .ok (.iconst 0, 1) := by decide +kernel
theorem dX9_order_14 : decode cX9_order 14 = .ok (.istore_n 3, 1) := by decide +kernel
theorem dX9_order_15 : decode cX9_order 15 = .ok (.iload_n 3, 1) := by decide +kernel
theorem dX9_order_16 : decode cX9_order 16 = .ok (.aload_n 0, 1) := by decide +kernel
theorem dX9_order_17 : decode cX9_order 17 = .ok (.getfield 29, 3) := by decide +kernel
theorem dX9_order_20 : decode cX9_order 20 = .ok (.iconst 0, 1) := by decide +kernel
theorem dX9_order_21 : decode cX9_order 21 = .ok (.iaload, 1) := by decide +kernel
theorem dX9_order_22 : decode cX9_order 22 = .ok (.if_icmp .ge 112, 3) := by decide +kernel
theorem dX9_order_25 : decode cX9_order 25 = .ok (.iconst 0, 1) := by decide +kernel
theorem dX9_order_26 : decode cX9_order 26 = .ok (.istore 4, 2) := by decide +kernel
theorem dX9_order_28 : decode cX9_order 28 = .ok (.iconst 0, 1) := by decide +kernel
theorem dX9_order_29 : decode cX9_order 29 = .ok (.istore 5, 2) := by decide +kernel
theorem dX9_order_31 : decode cX9_order 31 = .ok (.iload 5, 2) := by decide +kernel
theorem dX9_order_33 : decode cX9_order 33 = .ok (.aload_n 0, 1) := by decide +kernel
theorem dX9_order_34 : decode cX9_order 34 = .ok (.getfield 29, 3) := by decide +kernel
theorem dX9_order_37 : decode cX9_order 37 = .ok (.iconst 0, 1) := by decide +kernel
theorem dX9_order_38 : decode cX9_order 38 = .ok (.iaload, 1) := by decide +kernel
theorem dX9_order_39 : decode cX9_order 39 = .ok (.if_icmp .ge 77, 3) := by decide +kernel
theorem dX9_order_42 : decode cX9_order 42 = .ok (.aload_n 0, 1) := by decide +kernel
theorem dX9_order_43 : decode cX9_order 43 = .ok (.getfield 44, 3) := by decide +kernel
theorem dX9_order_46 : decode cX9_order 46 = .ok (.iconst 5, 1) := by decide +kernel
theorem dX9_order_47 : decode cX9_order 47 = .ok (.iload 5, 2) := by decide +kernel
theorem dX9_order_49 : decode cX9_order 49 = .ok (.iadd, 1) := by decide +kernel
theorem dX9_order_50 : decode cX9_order 50 = .ok (.iaload, 1) := by decide +kernel
theorem dX9_order_51 : decode cX9_order 51 = .ok (.aload_n 0, 1) := by decide +kernel
theorem dX9_order_52 : decode cX9_order 52 = .ok (.getfield 44, 3) := by decide +kernel
theorem dX9_order_55 : decode cX9_order 55 = .ok (.iconst 5, 1) := by decide +kernel
theorem dX9_order_56 : decode cX9_order 56 = .ok (.iload_n 3, 1) := by decide +kernel
theorem dX9_order_57 : decode cX9_order 57 = .ok (.iadd, 1) := by decide +kernel
theorem dX9_order_58 : decode cX9_order 58 = .ok (.iaload, 1) := by decide +kernel
theorem dX9_order_59 : decode cX9_order 59 = .ok (.if_icmp .gt 29, 3) := by decide +kernel
theorem dX9_order_62 : decode cX9_order 62 = .ok (.aload_n 0, 1) := by decide +kernel
theorem dX9_order_63 : decode cX9_order 63 = .ok (.getfield 44, 3) := by decide +kernel
theorem dX9_order_66 : decode cX9_order 66 = .ok (.iconst 5, 1) := by decide +kernel
theorem dX9_order_67 : decode cX9_order 67 = .ok (.iload 5, 2) := by decide +kernel
theorem dX9_order_69 : decode cX9_order 69 = .ok (.iadd, 1) := by decide +kernel
theorem dX9_order_70 : decode cX9_order 70 = .ok (.iaload, 1) := by decide +kernel
theorem dX9_order_71 : decode cX9_order 71 = .ok (.aload_n 0, 1) := by decide +kernel
theorem dX9_order_72 : decode cX9_order 72 = .ok (.getfield 44, 3) := by decide +kernel
theorem dX9_order_75 : decode cX9_order 75 = .ok (.iconst 5, 1) := by decide +kernel
theorem dX9_order_76 : decode cX9_order 76 = .ok (.iload_n 3, 1) := by decide +kernel
theorem dX9_order_77 : decode cX9_order 77 = .ok (.iadd, 1) := by decide +kernel
theorem dX9_order_78 : decode cX9_order 78 = .ok (.iaload, 1) := by decide +kernel
theorem dX9_order_79 : decode cX9_order 79 = .ok (.if_icmp .ne 13, 3) := by decide +kernel
theorem dX9_order_82 : decode cX9_order 82 = .ok (.iload 5, 2) := by decide +kernel
theorem dX9_order_84 : decode cX9_order 84 = .ok (.iload_n 3, 1) := by decide +kernel
theorem dX9_order_85 : decode cX9_order 85 = .ok (.if_icmp .ge 7, 3) := by decide +kernel
theorem dX9_order_88 : decode cX9_order 88 = .ok (.iconst 1, 1) := by decide +kernel
theorem dX9_order_89 : decode cX9_order 89 = .ok (.goto 4, 3) := by decide +kernel
theorem dX9_order_92 : decode cX9_order 92 = .ok (.iconst 0, 1) := by decide +kernel
theorem dX9_order_93 : decode cX9_order 93 = .ok (.istore 6, 2) := by decide +kernel
theorem dX9_order_95 : decode cX9_order 95 = .ok (.iload 4, 2) := by decide +kernel
theorem dX9_order_97 : decode cX9_order 97 = .ok (.iload 6, 2) := by decide +kernel
theorem dX9_order_99 : decode cX9_order 99 = .ok (.ifCond .eq 7, 3) := by decide +kernel
theorem dX9_order_102 : decode cX9_order 102 = .ok (.iconst 1, 1) := by decide +kernel
theorem dX9_order_103 : decode cX9_order 103 = .ok (.goto 4, 3) := by decide +kernel
theorem dX9_order_106 : decode cX9_order 106 = .ok (.iconst 0, 1) := by decide +kernel
theorem dX9_order_107 : decode cX9_order 107 = .ok (.iadd, 1) := by decide +kernel
theorem dX9_order_108 : decode cX9_order 108 = .ok (.istore 4, 2) := by decide +kernel
theorem dX9_order_110 : decode cX9_order 110 = .ok (.iinc 5 1, 3) := by decide +kernel
theorem dX9_order_113 : decode cX9_order 113 = .ok (.goto (-82), 3) := by decide +kernel
theorem dX9_order_116 : decode cX9_order 116 = .ok (.iload 4, 2) := by decide +kernel
theorem dX9_order_118 : decode cX9_order 118 = .ok (.iload_n 1, 1) := by decide +kernel
theorem dX9_order_119 : decode cX9_order 119 = .ok (.if_icmp .ne 7, 3) := by decide +kernel
theorem dX9_order_122 : decode cX9_order 122 = .ok (.iload_n 3, 1) := by decide +kernel
theorem dX9_order_123 : decode cX9_order 123 = .ok (.goto 4, 3) := by decide +kernel
theorem dX9_order_126 : decode cX9_order 126 = .ok (.iload_n 2, 1) := by decide +kernel
theorem dX9_order_127 : decode cX9_order 127 = .ok (.istore_n 2, 1) := by decide +kernel
theorem dX9_order_128 : decode cX9_order 128 = .ok (.iinc 3 1, 3) := by decide +kernel
theorem dX9_order_131 : decode cX9_order 131 = .ok (.goto (-116), 3) := by decide +kernel
theorem dX9_order_134 : decode cX9_order 134 = .ok (.iload_n 2, 1) := by decide +kernel
theorem dX9_order_135 : decode cX9_order 135 = .ok (.ireturn, 1) := by decide +kernel
theorem dX9_gate_0 : decode cX9_gate 0 = .ok (.aload_n 0, 1) := by decide +kernel
theorem dX9_gate_1 : decode cX9_gate 1 = .ok (.iload_n 1, 1) := by decide +kernel
theorem dX9_gate_2 : decode cX9_gate 2 = .ok (.invokevirtual 141, 3) := by decide +kernel
theorem dX9_gate_5 : decode cX9_gate 5 = .ok (.ifCond .eq 13, 3) := by decide +kernel
theorem dX9_gate_8 : decode cX9_gate 8 = .ok (.iload_n 2, 1) := by decide +kernel
theorem dX9_gate_9 : decode cX9_gate 9 = .ok (.iconst 0, 1) := by decide +kernel
theorem dX9_gate_10 : decode cX9_gate 10 = .ok (.bipush 40, 2) := by decide +kernel
theorem dX9_gate_12 : decode cX9_gate 12 = .ok (.invokestatic 72, 3) := by decide +kernel
theorem dX9_gate_15 : decode cX9_gate 15 = .ok (.ifCond .ne 5, 3) := by decide +kernel
theorem dX9_gate_18 : decode cX9_gate 18 = .ok (.iconst (-1), 1) := by decide +kernel
theorem dX9_gate_19 : decode cX9_gate 19 = .ok (.ireturn, 1) := by decide +kernel
theorem dX9_gate_20 : decode cX9_gate 20 = .ok (.aload_n 0, 1) := by decide +kernel
theorem dX9_gate_21 : decode cX9_gate 21 = .ok (.getfield 113, 3) := by decide +kernel
theorem dX9_gate_24 : decode cX9_gate 24 = .ok (.bipush 6, 2) := by decide +kernel
theorem dX9_gate_26 : decode cX9_gate 26 = .ok (.if_icmp .ne 6, 3) := by decide +kernel
theorem dX9_gate_29 : decode cX9_gate 29 = .ok (.bipush (-3), 2) := by decide +kernel
theorem dX9_gate_31 : decode cX9_gate 31 = .ok (.ireturn, 1) := by decide +kernel
theorem dX9_gate_32 : decode cX9_gate 32 = .ok (.aload_n 0, 1) := by decide +kernel
theorem dX9_gate_33 : decode cX9_gate 33 = .ok (.getfield 60, 3) := by decide +kernel
theorem dX9_gate_36 : decode cX9_gate 36 = .ok (.aload_n 0, 1) := by decide +kernel
theorem dX9_gate_37 : decode cX9_gate 37 = .ok (.getfield 113, 3) := by decide +kernel
theorem dX9_gate_40 : decode cX9_gate 40 = .ok (.iload_n 1, 1) := by decide +kernel
theorem dX9_gate_41 : decode cX9_gate 41 = .ok (.iastore, 1) := by decide +kernel
theorem dX9_gate_42 : decode cX9_gate 42 = .ok (.aload_n 0, 1) := by decide +kernel
theorem dX9_gate_43 : decode cX9_gate 43 = .ok (.getfield 63, 3) := by decide +kernel
theorem dX9_gate_46 : decode cX9_gate 46 = .ok (.aload_n 0, 1) := by decide +kernel
theorem dX9_gate_47 : decode cX9_gate 47 = .ok (.getfield 113, 3) := by decide +kernel
theorem dX9_gate_50 : decode cX9_gate 50 = .ok (.iload_n 2, 1) := by decide +kernel
theorem dX9_gate_51 : decode cX9_gate 51 = .ok (.iastore, 1) := by decide +kernel
theorem dX9_gate_52 : decode cX9_gate 52 = .ok (.aload_n 0, 1) := by decide +kernel
theorem dX9_gate_53 : decode cX9_gate 53 = .ok (.dup, 1) := by decide +kernel
theorem dX9_gate_54 : decode cX9_gate 54 = .ok (.getfield 113, 3) := by decide +kernel
theorem dX9_gate_57 : decode cX9_gate 57 = .ok (.iconst 1, 1) := by decide +kernel
theorem dX9_gate_58 : decode cX9_gate 58 = .ok (.iadd, 1) := by decide +kernel
theorem dX9_gate_59 : decode cX9_gate 59 = .ok (.putfield 113, 3) := by decide +kernel
theorem dX9_gate_62 : decode cX9_gate 62 = .ok (.aload_n 0, 1) := by decide +kernel
theorem dX9_gate_63 : decode cX9_gate 63 = .ok (.getfield 113, 3) := by decide +kernel
theorem dX9_gate_66 : decode cX9_gate 66 = .ok (.ireturn, 1) := by decide +kernel
theorem dX9_forget_0 : decode cX9_forget 0 = .ok (.aload_n 0, 1) := by decide +kernel
theorem dX9_forget_1 : decode cX9_forget 1 = .ok (.getfield 113, 3) := by decide +kernel
theorem dX9_forget_4 : decode cX9_forget 4 = .ok (.istore_n 1, 1) := by decide +kernel
theorem dX9_forget_5 : decode cX9_forget 5 = .ok (.aload_n 0, 1) := by decide +kernel
theorem dX9_forget_6 : decode cX9_forget 6 = .ok (.iconst 0, 1) := by decide +kernel
theorem dX9_forget_7 : decode cX9_forget 7 = .ok (.putfield 113, 3) := by decide +kernel
theorem dX9_forget_10 : decode cX9_forget 10 = .ok (.iload_n 1, 1) := by decide +kernel
theorem dX9_forget_11 : decode cX9_forget 11 = .ok (.ireturn, 1) := by decide +kernel
theorem dX9_fitsOf_0 : decode cX9_fitsOf 0 = .ok (.iconst 0, 1) := by decide +kernel
theorem dX9_fitsOf_1 : decode cX9_fitsOf 1 = .ok (.istore_n 2, 1) := by decide +kernel
theorem dX9_fitsOf_2 : decode cX9_fitsOf 2 = .ok (.iconst 0, 1) := by decide +kernel
theorem dX9_fitsOf_3 : decode cX9_fitsOf 3 = .ok (.istore_n 3, 1) := by decide +kernel
theorem dX9_fitsOf_4 : decode cX9_fitsOf 4 = .ok (.iload_n 3, 1) := by decide +kernel
theorem dX9_fitsOf_5 : decode cX9_fitsOf 5 = .ok (.bipush 9, 2) := by decide +kernel
theorem dX9_fitsOf_7 : decode cX9_fitsOf 7 = .ok (.if_icmp .gt 109, 3) := by decide +kernel
theorem dX9_fitsOf_10 : decode cX9_fitsOf 10 = .ok (.iconst 1, 1) := by decide +kernel
theorem dX9_fitsOf_11 : decode cX9_fitsOf 11 = .ok (.istore 4, 2) := by decide +kernel
theorem dX9_fitsOf_13 : decode cX9_fitsOf 13 = .ok (.iconst 0, 1) := by decide +kernel
theorem dX9_fitsOf_14 : decode cX9_fitsOf 14 = .ok (.istore 5, 2) := by decide +kernel
theorem dX9_fitsOf_16 : decode cX9_fitsOf 16 = .ok (.iload 5, 2) := by decide +kernel
theorem dX9_fitsOf_18 : decode cX9_fitsOf 18 = .ok (.aload_n 0, 1) := by decide +kernel
theorem dX9_fitsOf_19 : decode cX9_fitsOf 19 = .ok (.getfield 113, 3) := by decide +kernel
theorem dX9_fitsOf_22 : decode cX9_fitsOf 22 = .ok (.if_icmp .ge 73, 3) := by decide +kernel
theorem dX9_fitsOf_25 : decode cX9_fitsOf 25 = .ok (.aload_n 0, 1) := by decide +kernel
theorem dX9_fitsOf_26 : decode cX9_fitsOf 26 = .ok (.getfield 38, 3) := by decide +kernel
theorem dX9_fitsOf_29 : decode cX9_fitsOf 29 = .ok (.iconst 0, 1) := by decide +kernel
theorem dX9_fitsOf_30 : decode cX9_fitsOf 30 = .ok (.iaload, 1) := by decide +kernel
theorem dX9_fitsOf_31 : decode cX9_fitsOf 31 = .ok (.iconst 2, 1) := by decide +kernel
theorem dX9_fitsOf_32 : decode cX9_fitsOf 32 = .ok (.iload_n 3, 1) := by decide +kernel
theorem dX9_fitsOf_33 : decode cX9_fitsOf 33 = .ok (.imul, 1) := by decide +kernel
theorem dX9_fitsOf_34 : decode cX9_fitsOf 34 = .ok (.iadd, 1) := by decide +kernel
theorem dX9_fitsOf_35 : decode cX9_fitsOf 35 = .ok (.aload_n 0, 1) := by decide +kernel
theorem dX9_fitsOf_36 : decode cX9_fitsOf 36 = .ok (.getfield 63, 3) := by decide +kernel
theorem dX9_fitsOf_39 : decode cX9_fitsOf 39 = .ok (.iload 5, 2) := by decide +kernel
theorem dX9_fitsOf_41 : decode cX9_fitsOf 41 = .ok (.iaload, 1) := by decide +kernel
theorem dX9_fitsOf_42 : decode cX9_fitsOf 42 = .ok (.isub, 1) := by decide +kernel
theorem dX9_fitsOf_43 : decode cX9_fitsOf 43 = .ok (.istore 6, 2) := by decide +kernel
theorem dX9_fitsOf_45 : decode cX9_fitsOf 45 = .ok (.iload 4, 2) := by decide +kernel
theorem dX9_fitsOf_47 : decode cX9_fitsOf 47 = .ok (.ifCond .eq 39, 3) := by decide +kernel
theorem dX9_fitsOf_50 : decode cX9_fitsOf 50 = .ok (.aload_n 0, 1) := by decide +kernel
theorem dX9_fitsOf_51 : decode cX9_fitsOf 51 = .ok (.getfield 60, 3) := by decide +kernel
theorem dX9_fitsOf_54 : decode cX9_fitsOf 54 = .ok (.iload 5, 2) := by decide +kernel
theorem dX9_fitsOf_56 : decode cX9_fitsOf 56 = .ok (.iaload, 1) := by decide +kernel
theorem dX9_fitsOf_57 : decode cX9_fitsOf 57 = .ok (.iload_n 1, 1) := by decide +kernel
theorem dX9_fitsOf_58 : decode cX9_fitsOf 58 = .ok (.if_icmp .ne 24, 3) := by decide +kernel
theorem dX9_fitsOf_61 : decode cX9_fitsOf 61 = .ok (.iload 6, 2) := by decide +kernel
theorem dX9_fitsOf_63 : decode cX9_fitsOf 63 = .ok (.aload_n 0, 1) := by decide +kernel
theorem dX9_fitsOf_64 : decode cX9_fitsOf 64 = .ok (.getfield 41, 3) := by decide +kernel
theorem dX9_fitsOf_67 : decode cX9_fitsOf 67 = .ok (.iconst 0, 1) := by decide +kernel
theorem dX9_fitsOf_68 : decode cX9_fitsOf 68 = .ok (.iaload, 1) := by decide +kernel
theorem dX9_fitsOf_69 : decode cX9_fitsOf 69 = .ok (.ineg, 1) := by decide +kernel
theorem dX9_fitsOf_70 : decode cX9_fitsOf 70 = .ok (.aload_n 0, 1) := by decide +kernel
theorem dX9_fitsOf_71 : decode cX9_fitsOf 71 = .ok (.getfield 41, 3) := by decide +kernel
theorem dX9_fitsOf_74 : decode cX9_fitsOf 74 = .ok (.iconst 0, 1) := by decide +kernel
theorem dX9_fitsOf_75 : decode cX9_fitsOf 75 = .ok (.iaload, 1) := by decide +kernel
theorem dX9_fitsOf_76 : decode cX9_fitsOf 76 = .ok (.invokestatic 72, 3) := by decide +kernel
theorem dX9_fitsOf_79 : decode cX9_fitsOf 79 = .ok (.ifCond .eq 7, 3) := by decide +kernel
theorem dX9_fitsOf_82 : decode cX9_fitsOf 82 = .ok (.iconst 1, 1) := by decide +kernel
theorem dX9_fitsOf_83 : decode cX9_fitsOf 83 = .ok (.goto 4, 3) := by decide +kernel
theorem dX9_fitsOf_86 : decode cX9_fitsOf 86 = .ok (.iconst 0, 1) := by decide +kernel
theorem dX9_fitsOf_87 : decode cX9_fitsOf 87 = .ok (.istore 4, 2) := by decide +kernel
theorem dX9_fitsOf_89 : decode cX9_fitsOf 89 = .ok (.iinc 5 1, 3) := by decide +kernel
theorem dX9_fitsOf_92 : decode cX9_fitsOf 92 = .ok (.goto (-76), 3) := by decide +kernel
theorem dX9_fitsOf_95 : decode cX9_fitsOf 95 = .ok (.iload_n 2, 1) := by decide +kernel
theorem dX9_fitsOf_96 : decode cX9_fitsOf 96 = .ok (.iload 4, 2) := by decide +kernel
theorem dX9_fitsOf_98 : decode cX9_fitsOf 98 = .ok (.ifCond .eq 9, 3) := by decide +kernel
theorem dX9_fitsOf_101 : decode cX9_fitsOf 101 = .ok (.iconst 1, 1) := by decide +kernel
theorem dX9_fitsOf_102 : decode cX9_fitsOf 102 = .ok (.iload_n 3, 1) := by decide +kernel
theorem dX9_fitsOf_103 : decode cX9_fitsOf 103 = .ok (.ishl, 1) := by decide +kernel
theorem dX9_fitsOf_104 : decode cX9_fitsOf 104 = .ok (.goto 4, 3) := by decide +kernel
theorem dX9_fitsOf_107 : decode cX9_fitsOf 107 = .ok (.iconst 0, 1) := by decide +kernel
theorem dX9_fitsOf_108 : decode cX9_fitsOf 108 = .ok (.ior, 1) := by decide +kernel
theorem dX9_fitsOf_109 : decode cX9_fitsOf 109 = .ok (.istore_n 2, 1) := by decide +kernel
theorem dX9_fitsOf_110 : decode cX9_fitsOf 110 = .ok (.iinc 3 1, 3) := by decide +kernel
theorem dX9_fitsOf_113 : decode cX9_fitsOf 113 = .ok (.goto (-109), 3) := by decide +kernel
theorem dX9_fitsOf_116 : decode cX9_fitsOf 116 = .ok (.iload_n 2, 1) := by decide +kernel
theorem dX9_fitsOf_117 : decode cX9_fitsOf 117 = .ok (.ireturn, 1) := by decide +kernel
theorem dX9_fits_0 : decode cX9_fits 0 = .ok (.aload_n 0, 1) := by decide +kernel
theorem dX9_fits_1 : decode cX9_fits 1 = .ok (.iload_n 1, 1) := by decide +kernel
theorem dX9_fits_2 : decode cX9_fits 2 = .ok (.invokevirtual 141, 3) := by decide +kernel
theorem dX9_fits_5 : decode cX9_fits 5 = .ok (.ifCond .eq 11, 3) := by decide +kernel
theorem dX9_fits_8 : decode cX9_fits 8 = .ok (.aload_n 0, 1) := by decide +kernel
theorem dX9_fits_9 : decode cX9_fits 9 = .ok (.iload_n 1, 1) := by decide +kernel
theorem dX9_fits_10 : decode cX9_fits 10 = .ok (.invokevirtual 160, 3) := by decide +kernel
theorem dX9_fits_13 : decode cX9_fits 13 = .ok (.goto 4, 3) := by decide +kernel
theorem dX9_fits_16 : decode cX9_fits 16 = .ok (.iconst (-1), 1) := by decide +kernel
theorem dX9_fits_17 : decode cX9_fits 17 = .ok (.ireturn, 1) := by decide +kernel
theorem dX9_mark_0 : decode cX9_mark 0 = .ok (.iload_n 1, 1) := by decide +kernel
theorem dX9_mark_1 : decode cX9_mark 1 = .ok (.iconst 0, 1) := by decide +kernel
theorem dX9_mark_2 : decode cX9_mark 2 = .ok (.iconst 5, 1) := by decide +kernel
theorem dX9_mark_3 : decode cX9_mark 3 = .ok (.invokestatic 72, 3) := by decide +kernel
theorem dX9_mark_6 : decode cX9_mark 6 = .ok (.ifCond .eq 11, 3) := by decide +kernel
theorem dX9_mark_9 : decode cX9_mark 9 = .ok (.aload_n 0, 1) := by decide +kernel
theorem dX9_mark_10 : decode cX9_mark 10 = .ok (.iload_n 2, 1) := by decide +kernel
theorem dX9_mark_11 : decode cX9_mark 11 = .ok (.invokevirtual 141, 3) := by decide +kernel
theorem dX9_mark_14 : decode cX9_mark 14 = .ok (.ifCond .ne 6, 3) := by decide +kernel
theorem dX9_mark_17 : decode cX9_mark 17 = .ok (.ldc 181, 2) := by decide +kernel
theorem dX9_mark_19 : decode cX9_mark 19 = .ok (.ireturn, 1) := by decide +kernel
theorem dX9_mark_20 : decode cX9_mark 20 = .ok (.aload_n 0, 1) := by decide +kernel
theorem dX9_mark_21 : decode cX9_mark 21 = .ok (.iload_n 2, 1) := by decide +kernel
theorem dX9_mark_22 : decode cX9_mark 22 = .ok (.invokevirtual 124, 3) := by decide +kernel
theorem dX9_mark_25 : decode cX9_mark 25 = .ok (.aload_n 0, 1) := by decide +kernel
theorem dX9_mark_26 : decode cX9_mark 26 = .ok (.iload_n 2, 1) := by decide +kernel
theorem dX9_mark_27 : decode cX9_mark 27 = .ok (.aload_n 0, 1) := by decide +kernel
theorem dX9_mark_28 : decode cX9_mark 28 = .ok (.getfield 44, 3) := by decide +kernel
theorem dX9_mark_31 : decode cX9_mark 31 = .ok (.bipush 15, 2) := by decide +kernel
theorem dX9_mark_33 : decode cX9_mark 33 = .ok (.iaload, 1) := by decide +kernel
theorem dX9_mark_34 : decode cX9_mark 34 = .ok (.invokevirtual 131, 3) := by decide +kernel
theorem dX9_mark_37 : decode cX9_mark 37 = .ok (.invokestatic 157, 3) := by decide +kernel
theorem dX9_mark_40 : decode cX9_mark 40 = .ok (.iadd, 1) := by decide +kernel
theorem dX9_mark_41 : decode cX9_mark 41 = .ok (.istore_n 3, 1) := by decide +kernel
theorem dX9_mark_42 : decode cX9_mark 42 = .ok (.iload_n 1, 1) := by decide +kernel
theorem dX9_mark_43 : decode cX9_mark 43 = .ok (.tableswitch 129 0 4 #[33, 49, 63, 83, 99], 33) := by decide +kernel
theorem dX9_mark_76 : decode cX9_mark 76 = .ok (.aload_n 0, 1) := by decide +kernel
theorem dX9_mark_77 : decode cX9_mark 77 = .ok (.dup, 1) := by decide +kernel
theorem dX9_mark_78 : decode cX9_mark 78 = .ok (.getfield 182, 3) := by decide +kernel
theorem dX9_mark_81 : decode cX9_mark 81 = .ok (.lconst 1, 1) := by decide +kernel
theorem dX9_mark_82 : decode cX9_mark 82 = .ok (.ladd, 1) := by decide +kernel
theorem dX9_mark_83 : decode cX9_mark 83 = .ok (.putfield 182, 3) := by decide +kernel
theorem dX9_mark_86 : decode cX9_mark 86 = .ok (.aload_n 0, 1) := by decide +kernel
theorem dX9_mark_87 : decode cX9_mark 87 = .ok (.iload_n 2, 1) := by decide +kernel
theorem dX9_mark_88 : decode cX9_mark 88 = .ok (.invokevirtual 124, 3) := by decide +kernel
theorem dX9_mark_91 : decode cX9_mark 91 = .ok (.ireturn, 1) := by decide +kernel
theorem dX9_mark_92 : decode cX9_mark 92 = .ok (.aload_n 0, 1) := by decide +kernel
theorem dX9_mark_93 : decode cX9_mark 93 = .ok (.dup, 1) := by decide +kernel
theorem dX9_mark_94 : decode cX9_mark 94 = .ok (.getfield 182, 3) := by decide +kernel
theorem dX9_mark_97 : decode cX9_mark 97 = .ok (.ldc2_w 186, 3) := by decide +kernel
theorem dX9_mark_100 : decode cX9_mark 100 = .ok (.ladd, 1) := by decide +kernel
theorem dX9_mark_101 : decode cX9_mark 101 = .ok (.putfield 182, 3) := by decide +kernel
theorem dX9_mark_104 : decode cX9_mark 104 = .ok (.iload_n 3, 1) := by decide +kernel
theorem dX9_mark_105 : decode cX9_mark 105 = .ok (.ireturn, 1) := by decide +kernel
theorem dX9_mark_106 : decode cX9_mark 106 = .ok (.aload_n 0, 1) := by decide +kernel
theorem dX9_mark_107 : decode cX9_mark 107 = .ok (.dup, 1) := by decide +kernel
theorem dX9_mark_108 : decode cX9_mark 108 = .ok (.getfield 182, 3) := by decide +kernel
theorem dX9_mark_111 : decode cX9_mark 111 = .ok (.ldc2_w 188, 3) := by decide +kernel
theorem dX9_mark_114 : decode cX9_mark 114 = .ok (.ladd, 1) := by decide +kernel
theorem dX9_mark_115 : decode cX9_mark 115 = .ok (.putfield 182, 3) := by decide +kernel
theorem dX9_mark_118 : decode cX9_mark 118 = .ok (.aload_n 0, 1) := by decide +kernel
theorem dX9_mark_119 : decode cX9_mark 119 = .ok (.iload_n 2, 1) := by decide +kernel
theorem dX9_mark_120 : decode cX9_mark 120 = .ok (.invokevirtual 124, 3) := by decide +kernel
theorem dX9_mark_123 : decode cX9_mark 123 = .ok (.iload_n 2, 1) := by decide +kernel
theorem dX9_mark_124 : decode cX9_mark 124 = .ok (.isub, 1) := by decide +kernel
theorem dX9_mark_125 : decode cX9_mark 125 = .ok (.ireturn, 1) := by decide +kernel
theorem dX9_mark_126 : decode cX9_mark 126 = .ok (.aload_n 0, 1) := by decide +kernel
theorem dX9_mark_127 : decode cX9_mark 127 = .ok (.dup, 1) := by decide +kernel
theorem dX9_mark_128 : decode cX9_mark 128 = .ok (.getfield 182, 3) := by decide +kernel
theorem dX9_mark_131 : decode cX9_mark 131 = .ok (.ldc2_w 190, 3) := by decide +kernel
theorem dX9_mark_134 : decode cX9_mark 134 = .ok (.ladd, 1) := by decide +kernel
theorem dX9_mark_135 : decode cX9_mark 135 = .ok (.putfield 182, 3) := by decide +kernel
theorem dX9_mark_138 : decode cX9_mark 138 = .ok (.iconst 2, 1) := by decide +kernel
theorem dX9_mark_139 : decode cX9_mark 139 = .ok (.iload_n 3, 1) := by decide +kernel
theorem dX9_mark_140 : decode cX9_mark 140 = .ok (.imul, 1) := by decide +kernel
theorem dX9_mark_141 : decode cX9_mark 141 = .ok (.ireturn, 1) := by decide +kernel
theorem dX9_mark_142 : decode cX9_mark 142 = .ok (.aload_n 0, 1) := by decide +kernel
theorem dX9_mark_143 : decode cX9_mark 143 = .ok (.dup, 1) := by decide +kernel
theorem dX9_mark_144 : decode cX9_mark 144 = .ok (.getfield 182, 3) := by decide +kernel
theorem dX9_mark_147 : decode cX9_mark 147 = .ok (.ldc2_w 192, 3) := by decide +kernel
theorem dX9_mark_150 : decode cX9_mark 150 = .ok (.ladd, 1) := by decide +kernel
theorem dX9_mark_151 : decode cX9_mark 151 = .ok (.putfield 182, 3) := by decide +kernel
theorem dX9_mark_154 : decode cX9_mark 154 = .ok (.aload_n 0, 1) := by decide +kernel
theorem dX9_mark_155 : decode cX9_mark 155 = .ok (.iload_n 2, 1) := by decide +kernel
theorem dX9_mark_156 : decode cX9_mark 156 = .ok (.invokevirtual 124, 3) := by decide +kernel
theorem dX9_mark_159 : decode cX9_mark 159 = .ok (.iload_n 2, 1) := by decide +kernel
theorem dX9_mark_160 : decode cX9_mark 160 = .ok (.isub, 1) := by decide +kernel
theorem dX9_mark_161 : decode cX9_mark 161 = .ok (.aload_n 0, 1) := by decide +kernel
theorem dX9_mark_162 : decode cX9_mark 162 = .ok (.getfield 44, 3) := by decide +kernel
theorem dX9_mark_165 : decode cX9_mark 165 = .ok (.bipush 10, 2) := by decide +kernel
theorem dX9_mark_167 : decode cX9_mark 167 = .ok (.iload_n 2, 1) := by decide +kernel
theorem dX9_mark_168 : decode cX9_mark 168 = .ok (.iadd, 1) := by decide +kernel
theorem dX9_mark_169 : decode cX9_mark 169 = .ok (.iaload, 1) := by decide +kernel
theorem dX9_mark_170 : decode cX9_mark 170 = .ok (.iadd, 1) := by decide +kernel
theorem dX9_mark_171 : decode cX9_mark 171 = .ok (.ireturn, 1) := by decide +kernel
theorem dX9_mark_172 : decode cX9_mark 172 = .ok (.aload_n 0, 1) := by decide +kernel
theorem dX9_mark_173 : decode cX9_mark 173 = .ok (.dup, 1) := by decide +kernel
theorem dX9_mark_174 : decode cX9_mark 174 = .ok (.getfield 182, 3) := by decide +kernel
theorem dX9_mark_177 : decode cX9_mark 177 = .ok (.ldc2_w 194, 3) := by decide +kernel
theorem dX9_mark_180 : decode cX9_mark 180 = .ok (.ladd, 1) := by decide +kernel
theorem dX9_mark_181 : decode cX9_mark 181 = .ok (.putfield 182, 3) := by decide +kernel
theorem dX9_mark_184 : decode cX9_mark 184 = .ok (.aload_n 0, 1) := by decide +kernel
theorem dX9_mark_185 : decode cX9_mark 185 = .ok (.iload_n 2, 1) := by decide +kernel
theorem dX9_mark_186 : decode cX9_mark 186 = .ok (.invokevirtual 124, 3) := by decide +kernel
theorem dX9_mark_189 : decode cX9_mark 189 = .ok (.aload_n 0, 1) := by decide +kernel
theorem dX9_mark_190 : decode cX9_mark 190 = .ok (.getfield 44, 3) := by decide +kernel
theorem dX9_mark_193 : decode cX9_mark 193 = .ok (.bipush 15, 2) := by decide +kernel
theorem dX9_mark_195 : decode cX9_mark 195 = .ok (.iaload, 1) := by decide +kernel
theorem dX9_mark_196 : decode cX9_mark 196 = .ok (.invokestatic 157, 3) := by decide +kernel
theorem dX9_mark_199 : decode cX9_mark 199 = .ok (.iadd, 1) := by decide +kernel
theorem dX9_mark_200 : decode cX9_mark 200 = .ok (.ireturn, 1) := by decide +kernel
theorem dX9_keep_0 : decode cX9_keep 0 = .ok (.iload_n 1, 1) := by decide +kernel
theorem dX9_keep_1 : decode cX9_keep 1 = .ok (.iconst 0, 1) := by decide +kernel
theorem dX9_keep_2 : decode cX9_keep 2 = .ok (.iconst 1, 1) := by decide +kernel
theorem dX9_keep_3 : decode cX9_keep 3 = .ok (.invokestatic 72, 3) := by decide +kernel
theorem dX9_keep_6 : decode cX9_keep 6 = .ok (.ifCond .ne 5, 3) := by decide +kernel
theorem dX9_keep_9 : decode cX9_keep 9 = .ok (.iconst (-1), 1) := by decide +kernel
theorem dX9_keep_10 : decode cX9_keep 10 = .ok (.ireturn, 1) := by decide +kernel
theorem dX9_keep_11 : decode cX9_keep 11 = .ok (.iconst 0, 1) := by decide +kernel
theorem dX9_keep_12 : decode cX9_keep 12 = .ok (.istore_n 2, 1) := by decide +kernel
theorem dX9_keep_13 : decode cX9_keep 13 = .ok (.iload_n 2, 1) := by decide +kernel
theorem dX9_keep_14 : decode cX9_keep 14 = .ok (.sipush 177, 3) := by decide +kernel
theorem dX9_keep_17 : decode cX9_keep 17 = .ok (.if_icmp .ge 29, 3) := by decide +kernel
theorem dX9_keep_20 : decode cX9_keep 20 = .ok (.aload_n 0, 1) := by decide +kernel
theorem dX9_keep_21 : decode cX9_keep 21 = .ok (.getfield 44, 3) := by decide +kernel
theorem dX9_keep_24 : decode cX9_keep 24 = .ok (.sipush 177, 3) := by decide +kernel
theorem dX9_keep_27 : decode cX9_keep 27 = .ok (.iconst 1, 1) := by decide +kernel
theorem dX9_keep_28 : decode cX9_keep 28 = .ok (.iload_n 1, 1) := by decide +kernel
theorem dX9_keep_29 : decode cX9_keep 29 = .ok (.iadd, 1) := by decide +kernel
theorem dX9_keep_30 : decode cX9_keep 30 = .ok (.imul, 1) := by decide +kernel
theorem dX9_keep_31 : decode cX9_keep 31 = .ok (.iload_n 2, 1) := by decide +kernel
theorem dX9_keep_32 : decode cX9_keep 32 = .ok (.iadd, 1) := by decide +kernel
theorem dX9_keep_33 : decode cX9_keep 33 = .ok (.aload_n 0, 1) := by decide +kernel
theorem dX9_keep_34 : decode cX9_keep 34 = .ok (.getfield 44, 3) := by decide +kernel
theorem dX9_keep_37 : decode cX9_keep 37 = .ok (.iload_n 2, 1) := by decide +kernel
theorem dX9_keep_38 : decode cX9_keep 38 = .ok (.iaload, 1) := by decide +kernel
theorem dX9_keep_39 : decode cX9_keep 39 = .ok (.iastore, 1) := by decide +kernel
theorem dX9_keep_40 : decode cX9_keep 40 = .ok (.iinc 2 1, 3) := by decide +kernel
theorem dX9_keep_43 : decode cX9_keep 43 = .ok (.goto (-30), 3) := by decide +kernel
theorem dX9_keep_46 : decode cX9_keep 46 = .ok (.aload_n 0, 1) := by decide +kernel
theorem dX9_keep_47 : decode cX9_keep 47 = .ok (.getfield 47, 3) := by decide +kernel
theorem dX9_keep_50 : decode cX9_keep 50 = .ok (.iload_n 1, 1) := by decide +kernel
theorem dX9_keep_51 : decode cX9_keep 51 = .ok (.iconst 1, 1) := by decide +kernel
theorem dX9_keep_52 : decode cX9_keep 52 = .ok (.bastore, 1) := by decide +kernel
theorem dX9_keep_53 : decode cX9_keep 53 = .ok (.aload_n 0, 1) := by decide +kernel
theorem dX9_keep_54 : decode cX9_keep 54 = .ok (.getfield 44, 3) := by decide +kernel
theorem dX9_keep_57 : decode cX9_keep 57 = .ok (.bipush 15, 2) := by decide +kernel
theorem dX9_keep_59 : decode cX9_keep 59 = .ok (.iaload, 1) := by decide +kernel
theorem dX9_keep_60 : decode cX9_keep 60 = .ok (.invokestatic 157, 3) := by decide +kernel
theorem dX9_keep_63 : decode cX9_keep 63 = .ok (.ireturn, 1) := by decide +kernel
theorem dX9_back_0 : decode cX9_back 0 = .ok (.iload_n 1, 1) := by decide +kernel
theorem dX9_back_1 : decode cX9_back 1 = .ok (.iconst 0, 1) := by decide +kernel
theorem dX9_back_2 : decode cX9_back 2 = .ok (.iconst 1, 1) := by decide +kernel
theorem dX9_back_3 : decode cX9_back 3 = .ok (.invokestatic 72, 3) := by decide +kernel
theorem dX9_back_6 : decode cX9_back 6 = .ok (.ifCond .ne 5, 3) := by decide +kernel
theorem dX9_back_9 : decode cX9_back 9 = .ok (.iconst (-1), 1) := by decide +kernel
theorem dX9_back_10 : decode cX9_back 10 = .ok (.ireturn, 1) := by decide +kernel
theorem dX9_back_11 : decode cX9_back 11 = .ok (.aload_n 0, 1) := by decide +kernel
theorem dX9_back_12 : decode cX9_back 12 = .ok (.getfield 47, 3) := by decide +kernel
theorem dX9_back_15 : decode cX9_back 15 = .ok (.iload_n 1, 1) := by decide +kernel
theorem dX9_back_16 : decode cX9_back 16 = .ok (.baload, 1) := by decide +kernel
theorem dX9_back_17 : decode cX9_back 17 = .ok (.ifCond .ne 6, 3) := by decide +kernel
theorem dX9_back_20 : decode cX9_back 20 = .ok (.bipush (-2), 2) := by decide +kernel
theorem dX9_back_22 : decode cX9_back 22 = .ok (.ireturn, 1) := by decide +kernel
theorem dX9_back_23 : decode cX9_back 23 = .ok (.iconst 0, 1) := by decide +kernel
theorem dX9_back_24 : decode cX9_back 24 = .ok (.istore_n 2, 1) := by decide +kernel
theorem dX9_back_25 : decode cX9_back 25 = .ok (.iload_n 2, 1) := by decide +kernel
theorem dX9_back_26 : decode cX9_back 26 = .ok (.sipush 177, 3) := by decide +kernel
theorem dX9_back_29 : decode cX9_back 29 = .ok (.if_icmp .ge 29, 3) := by decide +kernel
theorem dX9_back_32 : decode cX9_back 32 = .ok (.aload_n 0, 1) := by decide +kernel
theorem dX9_back_33 : decode cX9_back 33 = .ok (.getfield 44, 3) := by decide +kernel
theorem dX9_back_36 : decode cX9_back 36 = .ok (.iload_n 2, 1) := by decide +kernel
theorem dX9_back_37 : decode cX9_back 37 = .ok (.aload_n 0, 1) := by decide +kernel
theorem dX9_back_38 : decode cX9_back 38 = .ok (.getfield 44, 3) := by decide +kernel
theorem dX9_back_41 : decode cX9_back 41 = .ok (.sipush 177, 3) := by decide +kernel
theorem dX9_back_44 : decode cX9_back 44 = .ok (.iconst 1, 1) := by decide +kernel
theorem dX9_back_45 : decode cX9_back 45 = .ok (.iload_n 1, 1) := by decide +kernel
theorem dX9_back_46 : decode cX9_back 46 = .ok (.iadd, 1) := by decide +kernel
theorem dX9_back_47 : decode cX9_back 47 = .ok (.imul, 1) := by decide +kernel
theorem dX9_back_48 : decode cX9_back 48 = .ok (.iload_n 2, 1) := by decide +kernel
theorem dX9_back_49 : decode cX9_back 49 = .ok (.iadd, 1) := by decide +kernel
theorem dX9_back_50 : decode cX9_back 50 = .ok (.iaload, 1) := by decide +kernel
theorem dX9_back_51 : decode cX9_back 51 = .ok (.iastore, 1) := by decide +kernel
theorem dX9_back_52 : decode cX9_back 52 = .ok (.iinc 2 1, 3) := by decide +kernel
theorem dX9_back_55 : decode cX9_back 55 = .ok (.goto (-30), 3) := by decide +kernel
theorem dX9_back_58 : decode cX9_back 58 = .ok (.aload_n 0, 1) := by decide +kernel
theorem dX9_back_59 : decode cX9_back 59 = .ok (.getfield 44, 3) := by decide +kernel
theorem dX9_back_62 : decode cX9_back 62 = .ok (.bipush 15, 2) := by decide +kernel
theorem dX9_back_64 : decode cX9_back 64 = .ok (.iaload, 1) := by decide +kernel
theorem dX9_back_65 : decode cX9_back 65 = .ok (.invokestatic 157, 3) := by decide +kernel
theorem dX9_back_68 : decode cX9_back 68 = .ok (.ireturn, 1) := by decide +kernel
theorem dX9_count_0 : decode cX9_count 0 = .ok (.iload_n 1, 1) := by decide +kernel
theorem dX9_count_1 : decode cX9_count 1 = .ok (.tableswitch 100 0 7 #[47, 54, 61, 68, 75, 82, 87, 95], 47) := by decide +kernel
theorem dX9_count_48 : decode cX9_count 48 = .ok (.aload_n 0, 1) := by decide +kernel
theorem dX9_count_49 : decode cX9_count 49 = .ok (.getfield 13, 3) := by decide +kernel
theorem dX9_count_52 : decode cX9_count 52 = .ok (.iconst 0, 1) := by decide +kernel
theorem dX9_count_53 : decode cX9_count 53 = .ok (.iaload, 1) := by decide +kernel
theorem dX9_count_54 : decode cX9_count 54 = .ok (.ireturn, 1) := by decide +kernel
theorem dX9_count_55 : decode cX9_count 55 = .ok (.aload_n 0, 1) := by decide +kernel
theorem dX9_count_56 : decode cX9_count 56 = .ok (.getfield 17, 3) := by decide +kernel
theorem dX9_count_59 : decode cX9_count 59 = .ok (.iconst 0, 1) := by decide +kernel
theorem dX9_count_60 : decode cX9_count 60 = .ok (.iaload, 1) := by decide +kernel
theorem dX9_count_61 : decode cX9_count 61 = .ok (.ireturn, 1) := by decide +kernel
theorem dX9_count_62 : decode cX9_count 62 = .ok (.aload_n 0, 1) := by decide +kernel
theorem dX9_count_63 : decode cX9_count 63 = .ok (.getfield 29, 3) := by decide +kernel
theorem dX9_count_66 : decode cX9_count 66 = .ok (.iconst 0, 1) := by decide +kernel
theorem dX9_count_67 : decode cX9_count 67 = .ok (.iaload, 1) := by decide +kernel
theorem dX9_count_68 : decode cX9_count 68 = .ok (.ireturn, 1) := by decide +kernel
theorem dX9_count_69 : decode cX9_count 69 = .ok (.aload_n 0, 1) := by decide +kernel
theorem dX9_count_70 : decode cX9_count 70 = .ok (.getfield 38, 3) := by decide +kernel
theorem dX9_count_73 : decode cX9_count 73 = .ok (.iconst 0, 1) := by decide +kernel
theorem dX9_count_74 : decode cX9_count 74 = .ok (.iaload, 1) := by decide +kernel
theorem dX9_count_75 : decode cX9_count 75 = .ok (.ireturn, 1) := by decide +kernel
theorem dX9_count_76 : decode cX9_count 76 = .ok (.aload_n 0, 1) := by decide +kernel
theorem dX9_count_77 : decode cX9_count 77 = .ok (.getfield 41, 3) := by decide +kernel
theorem dX9_count_80 : decode cX9_count 80 = .ok (.iconst 0, 1) := by decide +kernel
theorem dX9_count_81 : decode cX9_count 81 = .ok (.iaload, 1) := by decide +kernel
theorem dX9_count_82 : decode cX9_count 82 = .ok (.ireturn, 1) := by decide +kernel
theorem dX9_count_83 : decode cX9_count 83 = .ok (.aload_n 0, 1) := by decide +kernel
theorem dX9_count_84 : decode cX9_count 84 = .ok (.getfield 113, 3) := by decide +kernel
theorem dX9_count_87 : decode cX9_count 87 = .ok (.ireturn, 1) := by decide +kernel
theorem dX9_count_88 : decode cX9_count 88 = .ok (.aload_n 0, 1) := by decide +kernel
theorem dX9_count_89 : decode cX9_count 89 = .ok (.getfield 44, 3) := by decide +kernel
theorem dX9_count_92 : decode cX9_count 92 = .ok (.bipush 16, 2) := by decide +kernel
theorem dX9_count_94 : decode cX9_count 94 = .ok (.iaload, 1) := by decide +kernel
theorem dX9_count_95 : decode cX9_count 95 = .ok (.ireturn, 1) := by decide +kernel
theorem dX9_count_96 : decode cX9_count 96 = .ok (.aload_n 0, 1) := by decide +kernel
theorem dX9_count_97 : decode cX9_count 97 = .ok (.getfield 76, 3) := by decide +kernel
theorem dX9_count_100 : decode cX9_count 100 = .ok (.ireturn, 1) := by decide +kernel
theorem dX9_count_101 : decode cX9_count 101 = .ok (.iconst (-1), 1) := by decide +kernel
theorem dX9_count_102 : decode cX9_count 102 = .ok (.ireturn, 1) := by decide +kernel
theorem dX9_trace_0 : decode cX9_trace 0 = .ok (.aload_n 0, 1) := by decide +kernel
theorem dX9_trace_1 : decode cX9_trace 1 = .ok (.getfield 182, 3) := by decide +kernel
theorem dX9_trace_4 : decode cX9_trace 4 = .ok (.lreturn, 1) := by decide +kernel
theorem dL_law_0 : decode cL_law 0 = .ok (.new 7, 3) := by decide +kernel
theorem dL_law_3 : decode cL_law 3 = .ok (.dup, 1) := by decide +kernel
theorem dL_law_4 : decode cL_law 4 = .ok (.invokespecial 9, 3) := by decide +kernel
theorem dL_law_7 : decode cL_law 7 = .ok (.astore_n 1, 1) := by decide +kernel
theorem dL_law_8 : decode cL_law 8 = .ok (.new 10, 3) := by decide +kernel
theorem dL_law_11 : decode cL_law 11 = .ok (.dup, 1) := by decide +kernel
theorem dL_law_12 : decode cL_law 12 = .ok (.invokespecial 12, 3) := by decide +kernel
theorem dL_law_15 : decode cL_law 15 = .ok (.astore_n 2, 1) := by decide +kernel
theorem dL_law_16 : decode cL_law 16 = .ok (.iconst 0, 1) := by decide +kernel
theorem dL_law_17 : decode cL_law 17 = .ok (.istore_n 3, 1) := by decide +kernel
theorem dL_law_18 : decode cL_law 18 = .ok (.iload_n 3, 1) := by decide +kernel
theorem dL_law_19 : decode cL_law 19 = .ok (.aload_n 0, 1) := by decide +kernel
theorem dL_law_20 : decode cL_law 20 = .ok (.arraylength, 1) := by decide +kernel
theorem dL_law_21 : decode cL_law 21 = .ok (.iconst 5, 1) := by decide +kernel
theorem dL_law_22 : decode cL_law 22 = .ok (.isub, 1) := by decide +kernel
theorem dL_law_23 : decode cL_law 23 = .ok (.if_icmp .gt 938, 3) := by decide +kernel
theorem dL_law_26 : decode cL_law 26 = .ok (.aload_n 0, 1) := by decide +kernel
theorem dL_law_27 : decode cL_law 27 = .ok (.iload_n 3, 1) := by decide +kernel
theorem dL_law_28 : decode cL_law 28 = .ok (.iaload, 1) := by decide +kernel
theorem dL_law_29 : decode cL_law 29 = .ok (.bipush 31, 2) := by decide +kernel
theorem dL_law_31 : decode cL_law 31 = .ok (.iand, 1) := by decide +kernel
theorem dL_law_32 : decode cL_law 32 = .ok (.tableswitch 923 0 27 #[128, 151, 164, 177, 210, 243, 276, 319, 352, 385, 418, 431, 454, 497, 530, 563, 616, 659, 692, 715, 738, 771, 784, 807, 840, 863, 886, 909], 128) := by decide +kernel
theorem dL_law_160 : decode cL_law 160 = .ok (.aload_n 1, 1) := by decide +kernel
theorem dL_law_161 : decode cL_law 161 = .ok (.aload_n 0, 1) := by decide +kernel
theorem dL_law_162 : decode cL_law 162 = .ok (.iload_n 3, 1) := by decide +kernel
theorem dL_law_163 : decode cL_law 163 = .ok (.iconst 1, 1) := by decide +kernel
theorem dL_law_164 : decode cL_law 164 = .ok (.iadd, 1) := by decide +kernel
theorem dL_law_165 : decode cL_law 165 = .ok (.iaload, 1) := by decide +kernel
theorem dL_law_166 : decode cL_law 166 = .ok (.invokevirtual 13, 3) := by decide +kernel
theorem dL_law_169 : decode cL_law 169 = .ok (.aload_n 2, 1) := by decide +kernel
theorem dL_law_170 : decode cL_law 170 = .ok (.aload_n 0, 1) := by decide +kernel
theorem dL_law_171 : decode cL_law 171 = .ok (.iload_n 3, 1) := by decide +kernel
theorem dL_law_172 : decode cL_law 172 = .ok (.iconst 1, 1) := by decide +kernel
theorem dL_law_173 : decode cL_law 173 = .ok (.iadd, 1) := by decide +kernel
theorem dL_law_174 : decode cL_law 174 = .ok (.iaload, 1) := by decide +kernel
theorem dL_law_175 : decode cL_law 175 = .ok (.invokevirtual 17, 3) := by decide +kernel
theorem dL_law_178 : decode cL_law 178 = .ok (.if_icmp .eq 777, 3) := by decide +kernel
theorem dL_law_181 : decode cL_law 181 = .ok (.iconst 0, 1) := by decide +kernel
theorem dL_law_182 : decode cL_law 182 = .ok (.ireturn, 1) := by decide +kernel
theorem dL_law_183 : decode cL_law 183 = .ok (.aload_n 1, 1) := by decide +kernel
theorem dL_law_184 : decode cL_law 184 = .ok (.invokevirtual 18, 3) := by decide +kernel
theorem dL_law_187 : decode cL_law 187 = .ok (.aload_n 2, 1) := by decide +kernel
theorem dL_law_188 : decode cL_law 188 = .ok (.invokevirtual 22, 3) := by decide +kernel
theorem dL_law_191 : decode cL_law 191 = .ok (.if_icmp .eq 764, 3) := by decide +kernel
theorem dL_law_194 : decode cL_law 194 = .ok (.iconst 0, 1) := by decide +kernel
theorem dL_law_195 : decode cL_law 195 = .ok (.ireturn, 1) := by decide +kernel
theorem dL_law_196 : decode cL_law 196 = .ok (.aload_n 1, 1) := by decide +kernel
theorem dL_law_197 : decode cL_law 197 = .ok (.invokevirtual 23, 3) := by decide +kernel
theorem dL_law_200 : decode cL_law 200 = .ok (.aload_n 2, 1) := by decide +kernel
theorem dL_law_201 : decode cL_law 201 = .ok (.invokevirtual 26, 3) := by decide +kernel
theorem dL_law_204 : decode cL_law 204 = .ok (.if_icmp .eq 751, 3) := by decide +kernel
theorem dL_law_207 : decode cL_law 207 = .ok (.iconst 0, 1) := by decide +kernel
theorem dL_law_208 : decode cL_law 208 = .ok (.ireturn, 1) := by decide +kernel
theorem dL_law_209 : decode cL_law 209 = .ok (.aload_n 1, 1) := by decide +kernel
theorem dL_law_210 : decode cL_law 210 = .ok (.aload_n 0, 1) := by decide +kernel
theorem dL_law_211 : decode cL_law 211 = .ok (.iload_n 3, 1) := by decide +kernel
theorem dL_law_212 : decode cL_law 212 = .ok (.iconst 1, 1) := by decide +kernel
theorem dL_law_213 : decode cL_law 213 = .ok (.iadd, 1) := by decide +kernel
theorem dL_law_214 : decode cL_law 214 = .ok (.iaload, 1) := by decide +kernel
theorem dL_law_215 : decode cL_law 215 = .ok (.aload_n 0, 1) := by decide +kernel
theorem dL_law_216 : decode cL_law 216 = .ok (.iload_n 3, 1) := by decide +kernel
theorem dL_law_217 : decode cL_law 217 = .ok (.iconst 2, 1) := by decide +kernel
theorem dL_law_218 : decode cL_law 218 = .ok (.iadd, 1) := by decide +kernel
theorem dL_law_219 : decode cL_law 219 = .ok (.iaload, 1) := by decide +kernel
theorem dL_law_220 : decode cL_law 220 = .ok (.invokevirtual 27, 3) := by decide +kernel
theorem dL_law_223 : decode cL_law 223 = .ok (.aload_n 2, 1) := by decide +kernel
theorem dL_law_224 : decode cL_law 224 = .ok (.aload_n 0, 1) := by decide +kernel
theorem dL_law_225 : decode cL_law 225 = .ok (.iload_n 3, 1) := by decide +kernel
theorem dL_law_226 : decode cL_law 226 = .ok (.iconst 1, 1) := by decide +kernel
theorem dL_law_227 : decode cL_law 227 = .ok (.iadd, 1) := by decide +kernel
theorem dL_law_228 : decode cL_law 228 = .ok (.iaload, 1) := by decide +kernel
theorem dL_law_229 : decode cL_law 229 = .ok (.aload_n 0, 1) := by decide +kernel
theorem dL_law_230 : decode cL_law 230 = .ok (.iload_n 3, 1) := by decide +kernel
theorem dL_law_231 : decode cL_law 231 = .ok (.iconst 2, 1) := by decide +kernel
theorem dL_law_232 : decode cL_law 232 = .ok (.iadd, 1) := by decide +kernel
theorem dL_law_233 : decode cL_law 233 = .ok (.iaload, 1) := by decide +kernel
theorem dL_law_234 : decode cL_law 234 = .ok (.invokevirtual 31, 3) := by decide +kernel
theorem dL_law_237 : decode cL_law 237 = .ok (.if_icmp .eq 718, 3) := by decide +kernel
theorem dL_law_240 : decode cL_law 240 = .ok (.iconst 0, 1) := by decide +kernel
theorem dL_law_241 : decode cL_law 241 = .ok (.ireturn, 1) := by decide +kernel
theorem dL_law_242 : decode cL_law 242 = .ok (.aload_n 1, 1) := by decide +kernel
theorem dL_law_243 : decode cL_law 243 = .ok (.aload_n 0, 1) := by decide +kernel
theorem dL_law_244 : decode cL_law 244 = .ok (.iload_n 3, 1) := by decide +kernel
theorem dL_law_245 : decode cL_law 245 = .ok (.iconst 1, 1) := by decide +kernel
theorem dL_law_246 : decode cL_law 246 = .ok (.iadd, 1) := by decide +kernel
theorem dL_law_247 : decode cL_law 247 = .ok (.iaload, 1) := by decide +kernel
theorem dL_law_248 : decode cL_law 248 = .ok (.aload_n 0, 1) := by decide +kernel
theorem dL_law_249 : decode cL_law 249 = .ok (.iload_n 3, 1) := by decide +kernel
theorem dL_law_250 : decode cL_law 250 = .ok (.iconst 2, 1) := by decide +kernel
theorem dL_law_251 : decode cL_law 251 = .ok (.iadd, 1) := by decide +kernel
theorem dL_law_252 : decode cL_law 252 = .ok (.iaload, 1) := by decide +kernel
theorem dL_law_253 : decode cL_law 253 = .ok (.invokevirtual 32, 3) := by decide +kernel
theorem dL_law_256 : decode cL_law 256 = .ok (.aload_n 2, 1) := by decide +kernel
theorem dL_law_257 : decode cL_law 257 = .ok (.aload_n 0, 1) := by decide +kernel
theorem dL_law_258 : decode cL_law 258 = .ok (.iload_n 3, 1) := by decide +kernel
theorem dL_law_259 : decode cL_law 259 = .ok (.iconst 1, 1) := by decide +kernel
theorem dL_law_260 : decode cL_law 260 = .ok (.iadd, 1) := by decide +kernel
theorem dL_law_261 : decode cL_law 261 = .ok (.iaload, 1) := by decide +kernel
theorem dL_law_262 : decode cL_law 262 = .ok (.aload_n 0, 1) := by decide +kernel
theorem dL_law_263 : decode cL_law 263 = .ok (.iload_n 3, 1) := by decide +kernel
theorem dL_law_264 : decode cL_law 264 = .ok (.iconst 2, 1) := by decide +kernel
theorem dL_law_265 : decode cL_law 265 = .ok (.iadd, 1) := by decide +kernel
theorem dL_law_266 : decode cL_law 266 = .ok (.iaload, 1) := by decide +kernel
theorem dL_law_267 : decode cL_law 267 = .ok (.invokevirtual 35, 3) := by decide +kernel
theorem dL_law_270 : decode cL_law 270 = .ok (.if_icmp .eq 685, 3) := by decide +kernel
theorem dL_law_273 : decode cL_law 273 = .ok (.iconst 0, 1) := by decide +kernel
theorem dL_law_274 : decode cL_law 274 = .ok (.ireturn, 1) := by decide +kernel
theorem dL_law_275 : decode cL_law 275 = .ok (.aload_n 1, 1) := by decide +kernel
theorem dL_law_276 : decode cL_law 276 = .ok (.aload_n 0, 1) := by decide +kernel
theorem dL_law_277 : decode cL_law 277 = .ok (.iload_n 3, 1) := by decide +kernel
theorem dL_law_278 : decode cL_law 278 = .ok (.iconst 1, 1) := by decide +kernel
theorem dL_law_279 : decode cL_law 279 = .ok (.iadd, 1) := by decide +kernel
theorem dL_law_280 : decode cL_law 280 = .ok (.iaload, 1) := by decide +kernel
theorem dL_law_281 : decode cL_law 281 = .ok (.aload_n 0, 1) := by decide +kernel
theorem dL_law_282 : decode cL_law 282 = .ok (.iload_n 3, 1) := by decide +kernel
theorem dL_law_283 : decode cL_law 283 = .ok (.iconst 2, 1) := by decide +kernel
theorem dL_law_284 : decode cL_law 284 = .ok (.iadd, 1) := by decide +kernel
theorem dL_law_285 : decode cL_law 285 = .ok (.iaload, 1) := by decide +kernel
theorem dL_law_286 : decode cL_law 286 = .ok (.invokevirtual 36, 3) := by decide +kernel
theorem dL_law_289 : decode cL_law 289 = .ok (.aload_n 2, 1) := by decide +kernel
theorem dL_law_290 : decode cL_law 290 = .ok (.aload_n 0, 1) := by decide +kernel
theorem dL_law_291 : decode cL_law 291 = .ok (.iload_n 3, 1) := by decide +kernel
theorem dL_law_292 : decode cL_law 292 = .ok (.iconst 1, 1) := by decide +kernel
theorem dL_law_293 : decode cL_law 293 = .ok (.iadd, 1) := by decide +kernel
theorem dL_law_294 : decode cL_law 294 = .ok (.iaload, 1) := by decide +kernel
theorem dL_law_295 : decode cL_law 295 = .ok (.aload_n 0, 1) := by decide +kernel
theorem dL_law_296 : decode cL_law 296 = .ok (.iload_n 3, 1) := by decide +kernel
theorem dL_law_297 : decode cL_law 297 = .ok (.iconst 2, 1) := by decide +kernel
theorem dL_law_298 : decode cL_law 298 = .ok (.iadd, 1) := by decide +kernel
theorem dL_law_299 : decode cL_law 299 = .ok (.iaload, 1) := by decide +kernel
theorem dL_law_300 : decode cL_law 300 = .ok (.invokevirtual 39, 3) := by decide +kernel
theorem dL_law_303 : decode cL_law 303 = .ok (.if_icmp .eq 652, 3) := by decide +kernel
theorem dL_law_306 : decode cL_law 306 = .ok (.iconst 0, 1) := by decide +kernel
theorem dL_law_307 : decode cL_law 307 = .ok (.ireturn, 1) := by decide +kernel
theorem dL_law_308 : decode cL_law 308 = .ok (.aload_n 1, 1) := by decide +kernel
theorem dL_law_309 : decode cL_law 309 = .ok (.aload_n 0, 1) := by decide +kernel
theorem dL_law_310 : decode cL_law 310 = .ok (.iload_n 3, 1) := by decide +kernel
theorem dL_law_311 : decode cL_law 311 = .ok (.iconst 1, 1) := by decide +kernel
theorem dL_law_312 : decode cL_law 312 = .ok (.iadd, 1) := by decide +kernel
theorem dL_law_313 : decode cL_law 313 = .ok (.iaload, 1) := by decide +kernel
theorem dL_law_314 : decode cL_law 314 = .ok (.aload_n 0, 1) := by decide +kernel
theorem dL_law_315 : decode cL_law 315 = .ok (.iload_n 3, 1) := by decide +kernel
theorem dL_law_316 : decode cL_law 316 = .ok (.iconst 2, 1) := by decide +kernel
theorem dL_law_317 : decode cL_law 317 = .ok (.iadd, 1) := by decide +kernel
theorem dL_law_318 : decode cL_law 318 = .ok (.iaload, 1) := by decide +kernel
theorem dL_law_319 : decode cL_law 319 = .ok (.aload_n 0, 1) := by decide +kernel
theorem dL_law_320 : decode cL_law 320 = .ok (.iload_n 3, 1) := by decide +kernel
theorem dL_law_321 : decode cL_law 321 = .ok (.iconst 3, 1) := by decide +kernel
theorem dL_law_322 : decode cL_law 322 = .ok (.iadd, 1) := by decide +kernel
theorem dL_law_323 : decode cL_law 323 = .ok (.iaload, 1) := by decide +kernel
theorem dL_law_324 : decode cL_law 324 = .ok (.invokevirtual 40, 3) := by decide +kernel
theorem dL_law_327 : decode cL_law 327 = .ok (.aload_n 2, 1) := by decide +kernel
theorem dL_law_328 : decode cL_law 328 = .ok (.aload_n 0, 1) := by decide +kernel
theorem dL_law_329 : decode cL_law 329 = .ok (.iload_n 3, 1) := by decide +kernel
theorem dL_law_330 : decode cL_law 330 = .ok (.iconst 1, 1) := by decide +kernel
theorem dL_law_331 : decode cL_law 331 = .ok (.iadd, 1) := by decide +kernel
theorem dL_law_332 : decode cL_law 332 = .ok (.iaload, 1) := by decide +kernel
theorem dL_law_333 : decode cL_law 333 = .ok (.aload_n 0, 1) := by decide +kernel
theorem dL_law_334 : decode cL_law 334 = .ok (.iload_n 3, 1) := by decide +kernel
theorem dL_law_335 : decode cL_law 335 = .ok (.iconst 2, 1) := by decide +kernel
theorem dL_law_336 : decode cL_law 336 = .ok (.iadd, 1) := by decide +kernel
theorem dL_law_337 : decode cL_law 337 = .ok (.iaload, 1) := by decide +kernel
theorem dL_law_338 : decode cL_law 338 = .ok (.aload_n 0, 1) := by decide +kernel
theorem dL_law_339 : decode cL_law 339 = .ok (.iload_n 3, 1) := by decide +kernel
theorem dL_law_340 : decode cL_law 340 = .ok (.iconst 3, 1) := by decide +kernel
theorem dL_law_341 : decode cL_law 341 = .ok (.iadd, 1) := by decide +kernel
theorem dL_law_342 : decode cL_law 342 = .ok (.iaload, 1) := by decide +kernel
theorem dL_law_343 : decode cL_law 343 = .ok (.invokevirtual 44, 3) := by decide +kernel
theorem dL_law_346 : decode cL_law 346 = .ok (.if_icmp .eq 609, 3) := by decide +kernel
theorem dL_law_349 : decode cL_law 349 = .ok (.iconst 0, 1) := by decide +kernel
theorem dL_law_350 : decode cL_law 350 = .ok (.ireturn, 1) := by decide +kernel
theorem dL_law_351 : decode cL_law 351 = .ok (.aload_n 1, 1) := by decide +kernel
theorem dL_law_352 : decode cL_law 352 = .ok (.aload_n 0, 1) := by decide +kernel
theorem dL_law_353 : decode cL_law 353 = .ok (.iload_n 3, 1) := by decide +kernel
theorem dL_law_354 : decode cL_law 354 = .ok (.iconst 1, 1) := by decide +kernel
theorem dL_law_355 : decode cL_law 355 = .ok (.iadd, 1) := by decide +kernel
theorem dL_law_356 : decode cL_law 356 = .ok (.iaload, 1) := by decide +kernel
theorem dL_law_357 : decode cL_law 357 = .ok (.aload_n 0, 1) := by decide +kernel
theorem dL_law_358 : decode cL_law 358 = .ok (.iload_n 3, 1) := by decide +kernel
theorem dL_law_359 : decode cL_law 359 = .ok (.iconst 2, 1) := by decide +kernel
theorem dL_law_360 : decode cL_law 360 = .ok (.iadd, 1) := by decide +kernel
theorem dL_law_361 : decode cL_law 361 = .ok (.iaload, 1) := by decide +kernel
theorem dL_law_362 : decode cL_law 362 = .ok (.invokevirtual 45, 3) := by decide +kernel
theorem dL_law_365 : decode cL_law 365 = .ok (.aload_n 2, 1) := by decide +kernel
theorem dL_law_366 : decode cL_law 366 = .ok (.aload_n 0, 1) := by decide +kernel
theorem dL_law_367 : decode cL_law 367 = .ok (.iload_n 3, 1) := by decide +kernel
theorem dL_law_368 : decode cL_law 368 = .ok (.iconst 1, 1) := by decide +kernel
theorem dL_law_369 : decode cL_law 369 = .ok (.iadd, 1) := by decide +kernel
theorem dL_law_370 : decode cL_law 370 = .ok (.iaload, 1) := by decide +kernel
theorem dL_law_371 : decode cL_law 371 = .ok (.aload_n 0, 1) := by decide +kernel
theorem dL_law_372 : decode cL_law 372 = .ok (.iload_n 3, 1) := by decide +kernel
theorem dL_law_373 : decode cL_law 373 = .ok (.iconst 2, 1) := by decide +kernel
theorem dL_law_374 : decode cL_law 374 = .ok (.iadd, 1) := by decide +kernel
theorem dL_law_375 : decode cL_law 375 = .ok (.iaload, 1) := by decide +kernel
theorem dL_law_376 : decode cL_law 376 = .ok (.invokevirtual 48, 3) := by decide +kernel
theorem dL_law_379 : decode cL_law 379 = .ok (.if_icmp .eq 576, 3) := by decide +kernel
theorem dL_law_382 : decode cL_law 382 = .ok (.iconst 0, 1) := by decide +kernel
theorem dL_law_383 : decode cL_law 383 = .ok (.ireturn, 1) := by decide +kernel
theorem dL_law_384 : decode cL_law 384 = .ok (.aload_n 1, 1) := by decide +kernel
theorem dL_law_385 : decode cL_law 385 = .ok (.aload_n 0, 1) := by decide +kernel
theorem dL_law_386 : decode cL_law 386 = .ok (.iload_n 3, 1) := by decide +kernel
theorem dL_law_387 : decode cL_law 387 = .ok (.iconst 1, 1) := by decide +kernel
theorem dL_law_388 : decode cL_law 388 = .ok (.iadd, 1) := by decide +kernel
theorem dL_law_389 : decode cL_law 389 = .ok (.iaload, 1) := by decide +kernel
theorem dL_law_390 : decode cL_law 390 = .ok (.aload_n 0, 1) := by decide +kernel
theorem dL_law_391 : decode cL_law 391 = .ok (.iload_n 3, 1) := by decide +kernel
theorem dL_law_392 : decode cL_law 392 = .ok (.iconst 2, 1) := by decide +kernel
theorem dL_law_393 : decode cL_law 393 = .ok (.iadd, 1) := by decide +kernel
theorem dL_law_394 : decode cL_law 394 = .ok (.iaload, 1) := by decide +kernel
theorem dL_law_395 : decode cL_law 395 = .ok (.invokevirtual 49, 3) := by decide +kernel
theorem dL_law_398 : decode cL_law 398 = .ok (.aload_n 2, 1) := by decide +kernel
theorem dL_law_399 : decode cL_law 399 = .ok (.aload_n 0, 1) := by decide +kernel
theorem dL_law_400 : decode cL_law 400 = .ok (.iload_n 3, 1) := by decide +kernel
theorem dL_law_401 : decode cL_law 401 = .ok (.iconst 1, 1) := by decide +kernel
theorem dL_law_402 : decode cL_law 402 = .ok (.iadd, 1) := by decide +kernel
theorem dL_law_403 : decode cL_law 403 = .ok (.iaload, 1) := by decide +kernel
theorem dL_law_404 : decode cL_law 404 = .ok (.aload_n 0, 1) := by decide +kernel
theorem dL_law_405 : decode cL_law 405 = .ok (.iload_n 3, 1) := by decide +kernel
theorem dL_law_406 : decode cL_law 406 = .ok (.iconst 2, 1) := by decide +kernel
theorem dL_law_407 : decode cL_law 407 = .ok (.iadd, 1) := by decide +kernel
theorem dL_law_408 : decode cL_law 408 = .ok (.iaload, 1) := by decide +kernel
theorem dL_law_409 : decode cL_law 409 = .ok (.invokevirtual 52, 3) := by decide +kernel
theorem dL_law_412 : decode cL_law 412 = .ok (.if_icmp .eq 543, 3) := by decide +kernel
theorem dL_law_415 : decode cL_law 415 = .ok (.iconst 0, 1) := by decide +kernel
theorem dL_law_416 : decode cL_law 416 = .ok (.ireturn, 1) := by decide +kernel
theorem dL_law_417 : decode cL_law 417 = .ok (.aload_n 1, 1) := by decide +kernel
theorem dL_law_418 : decode cL_law 418 = .ok (.aload_n 0, 1) := by decide +kernel
theorem dL_law_419 : decode cL_law 419 = .ok (.iload_n 3, 1) := by decide +kernel
theorem dL_law_420 : decode cL_law 420 = .ok (.iconst 1, 1) := by decide +kernel
theorem dL_law_421 : decode cL_law 421 = .ok (.iadd, 1) := by decide +kernel
theorem dL_law_422 : decode cL_law 422 = .ok (.iaload, 1) := by decide +kernel
theorem dL_law_423 : decode cL_law 423 = .ok (.aload_n 0, 1) := by decide +kernel
theorem dL_law_424 : decode cL_law 424 = .ok (.iload_n 3, 1) := by decide +kernel
theorem dL_law_425 : decode cL_law 425 = .ok (.iconst 2, 1) := by decide +kernel
theorem dL_law_426 : decode cL_law 426 = .ok (.iadd, 1) := by decide +kernel
theorem dL_law_427 : decode cL_law 427 = .ok (.iaload, 1) := by decide +kernel
theorem dL_law_428 : decode cL_law 428 = .ok (.invokevirtual 53, 3) := by decide +kernel
theorem dL_law_431 : decode cL_law 431 = .ok (.aload_n 2, 1) := by decide +kernel
theorem dL_law_432 : decode cL_law 432 = .ok (.aload_n 0, 1) := by decide +kernel
theorem dL_law_433 : decode cL_law 433 = .ok (.iload_n 3, 1) := by decide +kernel
theorem dL_law_434 : decode cL_law 434 = .ok (.iconst 1, 1) := by decide +kernel
theorem dL_law_435 : decode cL_law 435 = .ok (.iadd, 1) := by decide +kernel
theorem dL_law_436 : decode cL_law 436 = .ok (.iaload, 1) := by decide +kernel
theorem dL_law_437 : decode cL_law 437 = .ok (.aload_n 0, 1) := by decide +kernel
theorem dL_law_438 : decode cL_law 438 = .ok (.iload_n 3, 1) := by decide +kernel
theorem dL_law_439 : decode cL_law 439 = .ok (.iconst 2, 1) := by decide +kernel
theorem dL_law_440 : decode cL_law 440 = .ok (.iadd, 1) := by decide +kernel
theorem dL_law_441 : decode cL_law 441 = .ok (.iaload, 1) := by decide +kernel
theorem dL_law_442 : decode cL_law 442 = .ok (.invokevirtual 56, 3) := by decide +kernel
theorem dL_law_445 : decode cL_law 445 = .ok (.if_icmp .eq 510, 3) := by decide +kernel
theorem dL_law_448 : decode cL_law 448 = .ok (.iconst 0, 1) := by decide +kernel
theorem dL_law_449 : decode cL_law 449 = .ok (.ireturn, 1) := by decide +kernel
theorem dL_law_450 : decode cL_law 450 = .ok (.aload_n 1, 1) := by decide +kernel
theorem dL_law_451 : decode cL_law 451 = .ok (.invokevirtual 57, 3) := by decide +kernel
theorem dL_law_454 : decode cL_law 454 = .ok (.aload_n 2, 1) := by decide +kernel
theorem dL_law_455 : decode cL_law 455 = .ok (.invokevirtual 60, 3) := by decide +kernel
theorem dL_law_458 : decode cL_law 458 = .ok (.if_icmp .eq 497, 3) := by decide +kernel
theorem dL_law_461 : decode cL_law 461 = .ok (.iconst 0, 1) := by decide +kernel
theorem dL_law_462 : decode cL_law 462 = .ok (.ireturn, 1) := by decide +kernel
theorem dL_law_463 : decode cL_law 463 = .ok (.aload_n 1, 1) := by decide +kernel
theorem dL_law_464 : decode cL_law 464 = .ok (.aload_n 0, 1) := by decide +kernel
theorem dL_law_465 : decode cL_law 465 = .ok (.iload_n 3, 1) := by decide +kernel
theorem dL_law_466 : decode cL_law 466 = .ok (.iconst 1, 1) := by decide +kernel
theorem dL_law_467 : decode cL_law 467 = .ok (.iadd, 1) := by decide +kernel
theorem dL_law_468 : decode cL_law 468 = .ok (.iaload, 1) := by decide +kernel
theorem dL_law_469 : decode cL_law 469 = .ok (.invokevirtual 61, 3) := by decide +kernel
theorem dL_law_472 : decode cL_law 472 = .ok (.aload_n 2, 1) := by decide +kernel
theorem dL_law_473 : decode cL_law 473 = .ok (.aload_n 0, 1) := by decide +kernel
theorem dL_law_474 : decode cL_law 474 = .ok (.iload_n 3, 1) := by decide +kernel
theorem dL_law_475 : decode cL_law 475 = .ok (.iconst 1, 1) := by decide +kernel
theorem dL_law_476 : decode cL_law 476 = .ok (.iadd, 1) := by decide +kernel
theorem dL_law_477 : decode cL_law 477 = .ok (.iaload, 1) := by decide +kernel
theorem dL_law_478 : decode cL_law 478 = .ok (.invokevirtual 64, 3) := by decide +kernel
theorem dL_law_481 : decode cL_law 481 = .ok (.if_icmp .eq 474, 3) := by decide +kernel
theorem dL_law_484 : decode cL_law 484 = .ok (.iconst 0, 1) := by decide +kernel
theorem dL_law_485 : decode cL_law 485 = .ok (.ireturn, 1) := by decide +kernel
theorem dL_law_486 : decode cL_law 486 = .ok (.aload_n 1, 1) := by decide +kernel
theorem dL_law_487 : decode cL_law 487 = .ok (.aload_n 0, 1) := by decide +kernel
theorem dL_law_488 : decode cL_law 488 = .ok (.iload_n 3, 1) := by decide +kernel
theorem dL_law_489 : decode cL_law 489 = .ok (.iconst 1, 1) := by decide +kernel
theorem dL_law_490 : decode cL_law 490 = .ok (.iadd, 1) := by decide +kernel
theorem dL_law_491 : decode cL_law 491 = .ok (.iaload, 1) := by decide +kernel
theorem dL_law_492 : decode cL_law 492 = .ok (.aload_n 0, 1) := by decide +kernel
theorem dL_law_493 : decode cL_law 493 = .ok (.iload_n 3, 1) := by decide +kernel
theorem dL_law_494 : decode cL_law 494 = .ok (.iconst 2, 1) := by decide +kernel
theorem dL_law_495 : decode cL_law 495 = .ok (.iadd, 1) := by decide +kernel
theorem dL_law_496 : decode cL_law 496 = .ok (.iaload, 1) := by decide +kernel
theorem dL_law_497 : decode cL_law 497 = .ok (.aload_n 0, 1) := by decide +kernel
theorem dL_law_498 : decode cL_law 498 = .ok (.iload_n 3, 1) := by decide +kernel
theorem dL_law_499 : decode cL_law 499 = .ok (.iconst 3, 1) := by decide +kernel
theorem dL_law_500 : decode cL_law 500 = .ok (.iadd, 1) := by decide +kernel
theorem dL_law_501 : decode cL_law 501 = .ok (.iaload, 1) := by decide +kernel
theorem dL_law_502 : decode cL_law 502 = .ok (.invokevirtual 65, 3) := by decide +kernel
theorem dL_law_505 : decode cL_law 505 = .ok (.aload_n 2, 1) := by decide +kernel
theorem dL_law_506 : decode cL_law 506 = .ok (.aload_n 0, 1) := by decide +kernel
theorem dL_law_507 : decode cL_law 507 = .ok (.iload_n 3, 1) := by decide +kernel
theorem dL_law_508 : decode cL_law 508 = .ok (.iconst 1, 1) := by decide +kernel
theorem dL_law_509 : decode cL_law 509 = .ok (.iadd, 1) := by decide +kernel
theorem dL_law_510 : decode cL_law 510 = .ok (.iaload, 1) := by decide +kernel
theorem dL_law_511 : decode cL_law 511 = .ok (.aload_n 0, 1) := by decide +kernel
theorem dL_law_512 : decode cL_law 512 = .ok (.iload_n 3, 1) := by decide +kernel
theorem dL_law_513 : decode cL_law 513 = .ok (.iconst 2, 1) := by decide +kernel
theorem dL_law_514 : decode cL_law 514 = .ok (.iadd, 1) := by decide +kernel
theorem dL_law_515 : decode cL_law 515 = .ok (.iaload, 1) := by decide +kernel
theorem dL_law_516 : decode cL_law 516 = .ok (.aload_n 0, 1) := by decide +kernel
theorem dL_law_517 : decode cL_law 517 = .ok (.iload_n 3, 1) := by decide +kernel
theorem dL_law_518 : decode cL_law 518 = .ok (.iconst 3, 1) := by decide +kernel
theorem dL_law_519 : decode cL_law 519 = .ok (.iadd, 1) := by decide +kernel
theorem dL_law_520 : decode cL_law 520 = .ok (.iaload, 1) := by decide +kernel
theorem dL_law_521 : decode cL_law 521 = .ok (.invokevirtual 68, 3) := by decide +kernel
theorem dL_law_524 : decode cL_law 524 = .ok (.if_icmp .eq 431, 3) := by decide +kernel
theorem dL_law_527 : decode cL_law 527 = .ok (.iconst 0, 1) := by decide +kernel
theorem dL_law_528 : decode cL_law 528 = .ok (.ireturn, 1) := by decide +kernel
theorem dL_law_529 : decode cL_law 529 = .ok (.aload_n 1, 1) := by decide +kernel
theorem dL_law_530 : decode cL_law 530 = .ok (.aload_n 0, 1) := by decide +kernel
theorem dL_law_531 : decode cL_law 531 = .ok (.iload_n 3, 1) := by decide +kernel
theorem dL_law_532 : decode cL_law 532 = .ok (.iconst 1, 1) := by decide +kernel
theorem dL_law_533 : decode cL_law 533 = .ok (.iadd, 1) := by decide +kernel
theorem dL_law_534 : decode cL_law 534 = .ok (.iaload, 1) := by decide +kernel
theorem dL_law_535 : decode cL_law 535 = .ok (.aload_n 0, 1) := by decide +kernel
theorem dL_law_536 : decode cL_law 536 = .ok (.iload_n 3, 1) := by decide +kernel
theorem dL_law_537 : decode cL_law 537 = .ok (.iconst 2, 1) := by decide +kernel
theorem dL_law_538 : decode cL_law 538 = .ok (.iadd, 1) := by decide +kernel
theorem dL_law_539 : decode cL_law 539 = .ok (.iaload, 1) := by decide +kernel
theorem dL_law_540 : decode cL_law 540 = .ok (.invokevirtual 69, 3) := by decide +kernel
theorem dL_law_543 : decode cL_law 543 = .ok (.aload_n 2, 1) := by decide +kernel
theorem dL_law_544 : decode cL_law 544 = .ok (.aload_n 0, 1) := by decide +kernel
theorem dL_law_545 : decode cL_law 545 = .ok (.iload_n 3, 1) := by decide +kernel
theorem dL_law_546 : decode cL_law 546 = .ok (.iconst 1, 1) := by decide +kernel
theorem dL_law_547 : decode cL_law 547 = .ok (.iadd, 1) := by decide +kernel
theorem dL_law_548 : decode cL_law 548 = .ok (.iaload, 1) := by decide +kernel
theorem dL_law_549 : decode cL_law 549 = .ok (.aload_n 0, 1) := by decide +kernel
theorem dL_law_550 : decode cL_law 550 = .ok (.iload_n 3, 1) := by decide +kernel
theorem dL_law_551 : decode cL_law 551 = .ok (.iconst 2, 1) := by decide +kernel
theorem dL_law_552 : decode cL_law 552 = .ok (.iadd, 1) := by decide +kernel
theorem dL_law_553 : decode cL_law 553 = .ok (.iaload, 1) := by decide +kernel
theorem dL_law_554 : decode cL_law 554 = .ok (.invokevirtual 72, 3) := by decide +kernel
theorem dL_law_557 : decode cL_law 557 = .ok (.if_icmp .eq 398, 3) := by decide +kernel
theorem dL_law_560 : decode cL_law 560 = .ok (.iconst 0, 1) := by decide +kernel
theorem dL_law_561 : decode cL_law 561 = .ok (.ireturn, 1) := by decide +kernel
theorem dL_law_562 : decode cL_law 562 = .ok (.aload_n 1, 1) := by decide +kernel
theorem dL_law_563 : decode cL_law 563 = .ok (.aload_n 0, 1) := by decide +kernel
theorem dL_law_564 : decode cL_law 564 = .ok (.iload_n 3, 1) := by decide +kernel
theorem dL_law_565 : decode cL_law 565 = .ok (.iconst 1, 1) := by decide +kernel
theorem dL_law_566 : decode cL_law 566 = .ok (.iadd, 1) := by decide +kernel
theorem dL_law_567 : decode cL_law 567 = .ok (.iaload, 1) := by decide +kernel
theorem dL_law_568 : decode cL_law 568 = .ok (.aload_n 0, 1) := by decide +kernel
theorem dL_law_569 : decode cL_law 569 = .ok (.iload_n 3, 1) := by decide +kernel
theorem dL_law_570 : decode cL_law 570 = .ok (.iconst 2, 1) := by decide +kernel
theorem dL_law_571 : decode cL_law 571 = .ok (.iadd, 1) := by decide +kernel
theorem dL_law_572 : decode cL_law 572 = .ok (.iaload, 1) := by decide +kernel
theorem dL_law_573 : decode cL_law 573 = .ok (.invokevirtual 73, 3) := by decide +kernel
theorem dL_law_576 : decode cL_law 576 = .ok (.aload_n 2, 1) := by decide +kernel
theorem dL_law_577 : decode cL_law 577 = .ok (.aload_n 0, 1) := by decide +kernel
theorem dL_law_578 : decode cL_law 578 = .ok (.iload_n 3, 1) := by decide +kernel
theorem dL_law_579 : decode cL_law 579 = .ok (.iconst 1, 1) := by decide +kernel
theorem dL_law_580 : decode cL_law 580 = .ok (.iadd, 1) := by decide +kernel
theorem dL_law_581 : decode cL_law 581 = .ok (.iaload, 1) := by decide +kernel
theorem dL_law_582 : decode cL_law 582 = .ok (.aload_n 0, 1) := by decide +kernel
theorem dL_law_583 : decode cL_law 583 = .ok (.iload_n 3, 1) := by decide +kernel
theorem dL_law_584 : decode cL_law 584 = .ok (.iconst 2, 1) := by decide +kernel
theorem dL_law_585 : decode cL_law 585 = .ok (.iadd, 1) := by decide +kernel
theorem dL_law_586 : decode cL_law 586 = .ok (.iaload, 1) := by decide +kernel
theorem dL_law_587 : decode cL_law 587 = .ok (.invokevirtual 76, 3) := by decide +kernel
theorem dL_law_590 : decode cL_law 590 = .ok (.if_icmp .eq 365, 3) := by decide +kernel
theorem dL_law_593 : decode cL_law 593 = .ok (.iconst 0, 1) := by decide +kernel
theorem dL_law_594 : decode cL_law 594 = .ok (.ireturn, 1) := by decide +kernel
theorem dL_law_595 : decode cL_law 595 = .ok (.aload_n 1, 1) := by decide +kernel
theorem dL_law_596 : decode cL_law 596 = .ok (.aload_n 0, 1) := by decide +kernel
theorem dL_law_597 : decode cL_law 597 = .ok (.iload_n 3, 1) := by decide +kernel
theorem dL_law_598 : decode cL_law 598 = .ok (.iconst 1, 1) := by decide +kernel
theorem dL_law_599 : decode cL_law 599 = .ok (.iadd, 1) := by decide +kernel
theorem dL_law_600 : decode cL_law 600 = .ok (.iaload, 1) := by decide +kernel
theorem dL_law_601 : decode cL_law 601 = .ok (.aload_n 0, 1) := by decide +kernel
theorem dL_law_602 : decode cL_law 602 = .ok (.iload_n 3, 1) := by decide +kernel
theorem dL_law_603 : decode cL_law 603 = .ok (.iconst 2, 1) := by decide +kernel
theorem dL_law_604 : decode cL_law 604 = .ok (.iadd, 1) := by decide +kernel
theorem dL_law_605 : decode cL_law 605 = .ok (.iaload, 1) := by decide +kernel
theorem dL_law_606 : decode cL_law 606 = .ok (.aload_n 0, 1) := by decide +kernel
theorem dL_law_607 : decode cL_law 607 = .ok (.iload_n 3, 1) := by decide +kernel
theorem dL_law_608 : decode cL_law 608 = .ok (.iconst 3, 1) := by decide +kernel
theorem dL_law_609 : decode cL_law 609 = .ok (.iadd, 1) := by decide +kernel
theorem dL_law_610 : decode cL_law 610 = .ok (.iaload, 1) := by decide +kernel
theorem dL_law_611 : decode cL_law 611 = .ok (.aload_n 0, 1) := by decide +kernel
theorem dL_law_612 : decode cL_law 612 = .ok (.iload_n 3, 1) := by decide +kernel
theorem dL_law_613 : decode cL_law 613 = .ok (.iconst 4, 1) := by decide +kernel
theorem dL_law_614 : decode cL_law 614 = .ok (.iadd, 1) := by decide +kernel
theorem dL_law_615 : decode cL_law 615 = .ok (.iaload, 1) := by decide +kernel
theorem dL_law_616 : decode cL_law 616 = .ok (.invokevirtual 77, 3) := by decide +kernel
theorem dL_law_619 : decode cL_law 619 = .ok (.aload_n 2, 1) := by decide +kernel
theorem dL_law_620 : decode cL_law 620 = .ok (.aload_n 0, 1) := by decide +kernel
theorem dL_law_621 : decode cL_law 621 = .ok (.iload_n 3, 1) := by decide +kernel
theorem dL_law_622 : decode cL_law 622 = .ok (.iconst 1, 1) := by decide +kernel
theorem dL_law_623 : decode cL_law 623 = .ok (.iadd, 1) := by decide +kernel
theorem dL_law_624 : decode cL_law 624 = .ok (.iaload, 1) := by decide +kernel
theorem dL_law_625 : decode cL_law 625 = .ok (.aload_n 0, 1) := by decide +kernel
theorem dL_law_626 : decode cL_law 626 = .ok (.iload_n 3, 1) := by decide +kernel
theorem dL_law_627 : decode cL_law 627 = .ok (.iconst 2, 1) := by decide +kernel
theorem dL_law_628 : decode cL_law 628 = .ok (.iadd, 1) := by decide +kernel
theorem dL_law_629 : decode cL_law 629 = .ok (.iaload, 1) := by decide +kernel
theorem dL_law_630 : decode cL_law 630 = .ok (.aload_n 0, 1) := by decide +kernel
theorem dL_law_631 : decode cL_law 631 = .ok (.iload_n 3, 1) := by decide +kernel
theorem dL_law_632 : decode cL_law 632 = .ok (.iconst 3, 1) := by decide +kernel
theorem dL_law_633 : decode cL_law 633 = .ok (.iadd, 1) := by decide +kernel
theorem dL_law_634 : decode cL_law 634 = .ok (.iaload, 1) := by decide +kernel
theorem dL_law_635 : decode cL_law 635 = .ok (.aload_n 0, 1) := by decide +kernel
theorem dL_law_636 : decode cL_law 636 = .ok (.iload_n 3, 1) := by decide +kernel
theorem dL_law_637 : decode cL_law 637 = .ok (.iconst 4, 1) := by decide +kernel
theorem dL_law_638 : decode cL_law 638 = .ok (.iadd, 1) := by decide +kernel
theorem dL_law_639 : decode cL_law 639 = .ok (.iaload, 1) := by decide +kernel
theorem dL_law_640 : decode cL_law 640 = .ok (.invokevirtual 81, 3) := by decide +kernel
theorem dL_law_643 : decode cL_law 643 = .ok (.if_icmp .eq 312, 3) := by decide +kernel
theorem dL_law_646 : decode cL_law 646 = .ok (.iconst 0, 1) := by decide +kernel
theorem dL_law_647 : decode cL_law 647 = .ok (.ireturn, 1) := by decide +kernel
theorem dL_law_648 : decode cL_law 648 = .ok (.aload_n 1, 1) := by decide +kernel
theorem dL_law_649 : decode cL_law 649 = .ok (.aload_n 0, 1) := by decide +kernel
theorem dL_law_650 : decode cL_law 650 = .ok (.iload_n 3, 1) := by decide +kernel
theorem dL_law_651 : decode cL_law 651 = .ok (.iconst 1, 1) := by decide +kernel
theorem dL_law_652 : decode cL_law 652 = .ok (.iadd, 1) := by decide +kernel
theorem dL_law_653 : decode cL_law 653 = .ok (.iaload, 1) := by decide +kernel
theorem dL_law_654 : decode cL_law 654 = .ok (.aload_n 0, 1) := by decide +kernel
theorem dL_law_655 : decode cL_law 655 = .ok (.iload_n 3, 1) := by decide +kernel
theorem dL_law_656 : decode cL_law 656 = .ok (.iconst 2, 1) := by decide +kernel
theorem dL_law_657 : decode cL_law 657 = .ok (.iadd, 1) := by decide +kernel
theorem dL_law_658 : decode cL_law 658 = .ok (.iaload, 1) := by decide +kernel
theorem dL_law_659 : decode cL_law 659 = .ok (.aload_n 0, 1) := by decide +kernel
theorem dL_law_660 : decode cL_law 660 = .ok (.iload_n 3, 1) := by decide +kernel
theorem dL_law_661 : decode cL_law 661 = .ok (.iconst 3, 1) := by decide +kernel
theorem dL_law_662 : decode cL_law 662 = .ok (.iadd, 1) := by decide +kernel
theorem dL_law_663 : decode cL_law 663 = .ok (.iaload, 1) := by decide +kernel
theorem dL_law_664 : decode cL_law 664 = .ok (.invokevirtual 82, 3) := by decide +kernel
theorem dL_law_667 : decode cL_law 667 = .ok (.aload_n 2, 1) := by decide +kernel
theorem dL_law_668 : decode cL_law 668 = .ok (.aload_n 0, 1) := by decide +kernel
theorem dL_law_669 : decode cL_law 669 = .ok (.iload_n 3, 1) := by decide +kernel
theorem dL_law_670 : decode cL_law 670 = .ok (.iconst 1, 1) := by decide +kernel
theorem dL_law_671 : decode cL_law 671 = .ok (.iadd, 1) := by decide +kernel
theorem dL_law_672 : decode cL_law 672 = .ok (.iaload, 1) := by decide +kernel
theorem dL_law_673 : decode cL_law 673 = .ok (.aload_n 0, 1) := by decide +kernel
theorem dL_law_674 : decode cL_law 674 = .ok (.iload_n 3, 1) := by decide +kernel
theorem dL_law_675 : decode cL_law 675 = .ok (.iconst 2, 1) := by decide +kernel
theorem dL_law_676 : decode cL_law 676 = .ok (.iadd, 1) := by decide +kernel
theorem dL_law_677 : decode cL_law 677 = .ok (.iaload, 1) := by decide +kernel
theorem dL_law_678 : decode cL_law 678 = .ok (.aload_n 0, 1) := by decide +kernel
theorem dL_law_679 : decode cL_law 679 = .ok (.iload_n 3, 1) := by decide +kernel
theorem dL_law_680 : decode cL_law 680 = .ok (.iconst 3, 1) := by decide +kernel
theorem dL_law_681 : decode cL_law 681 = .ok (.iadd, 1) := by decide +kernel
theorem dL_law_682 : decode cL_law 682 = .ok (.iaload, 1) := by decide +kernel
theorem dL_law_683 : decode cL_law 683 = .ok (.invokevirtual 85, 3) := by decide +kernel
theorem dL_law_686 : decode cL_law 686 = .ok (.if_icmp .eq 269, 3) := by decide +kernel
theorem dL_law_689 : decode cL_law 689 = .ok (.iconst 0, 1) := by decide +kernel
theorem dL_law_690 : decode cL_law 690 = .ok (.ireturn, 1) := by decide +kernel
theorem dL_law_691 : decode cL_law 691 = .ok (.aload_n 1, 1) := by decide +kernel
theorem dL_law_692 : decode cL_law 692 = .ok (.aload_n 0, 1) := by decide +kernel
theorem dL_law_693 : decode cL_law 693 = .ok (.iload_n 3, 1) := by decide +kernel
theorem dL_law_694 : decode cL_law 694 = .ok (.iconst 1, 1) := by decide +kernel
theorem dL_law_695 : decode cL_law 695 = .ok (.iadd, 1) := by decide +kernel
theorem dL_law_696 : decode cL_law 696 = .ok (.iaload, 1) := by decide +kernel
theorem dL_law_697 : decode cL_law 697 = .ok (.aload_n 0, 1) := by decide +kernel
theorem dL_law_698 : decode cL_law 698 = .ok (.iload_n 3, 1) := by decide +kernel
theorem dL_law_699 : decode cL_law 699 = .ok (.iconst 2, 1) := by decide +kernel
theorem dL_law_700 : decode cL_law 700 = .ok (.iadd, 1) := by decide +kernel
theorem dL_law_701 : decode cL_law 701 = .ok (.iaload, 1) := by decide +kernel
theorem dL_law_702 : decode cL_law 702 = .ok (.invokevirtual 86, 3) := by decide +kernel
theorem dL_law_705 : decode cL_law 705 = .ok (.aload_n 2, 1) := by decide +kernel
theorem dL_law_706 : decode cL_law 706 = .ok (.aload_n 0, 1) := by decide +kernel
theorem dL_law_707 : decode cL_law 707 = .ok (.iload_n 3, 1) := by decide +kernel
theorem dL_law_708 : decode cL_law 708 = .ok (.iconst 1, 1) := by decide +kernel
theorem dL_law_709 : decode cL_law 709 = .ok (.iadd, 1) := by decide +kernel
theorem dL_law_710 : decode cL_law 710 = .ok (.iaload, 1) := by decide +kernel
theorem dL_law_711 : decode cL_law 711 = .ok (.aload_n 0, 1) := by decide +kernel
theorem dL_law_712 : decode cL_law 712 = .ok (.iload_n 3, 1) := by decide +kernel
theorem dL_law_713 : decode cL_law 713 = .ok (.iconst 2, 1) := by decide +kernel
theorem dL_law_714 : decode cL_law 714 = .ok (.iadd, 1) := by decide +kernel
theorem dL_law_715 : decode cL_law 715 = .ok (.iaload, 1) := by decide +kernel
theorem dL_law_716 : decode cL_law 716 = .ok (.invokevirtual 89, 3) := by decide +kernel
theorem dL_law_719 : decode cL_law 719 = .ok (.if_icmp .eq 236, 3) := by decide +kernel
theorem dL_law_722 : decode cL_law 722 = .ok (.iconst 0, 1) := by decide +kernel
theorem dL_law_723 : decode cL_law 723 = .ok (.ireturn, 1) := by decide +kernel
theorem dL_law_724 : decode cL_law 724 = .ok (.aload_n 1, 1) := by decide +kernel
theorem dL_law_725 : decode cL_law 725 = .ok (.aload_n 0, 1) := by decide +kernel
theorem dL_law_726 : decode cL_law 726 = .ok (.iload_n 3, 1) := by decide +kernel
theorem dL_law_727 : decode cL_law 727 = .ok (.iconst 1, 1) := by decide +kernel
theorem dL_law_728 : decode cL_law 728 = .ok (.iadd, 1) := by decide +kernel
theorem dL_law_729 : decode cL_law 729 = .ok (.iaload, 1) := by decide +kernel
theorem dL_law_730 : decode cL_law 730 = .ok (.invokevirtual 90, 3) := by decide +kernel
theorem dL_law_733 : decode cL_law 733 = .ok (.aload_n 2, 1) := by decide +kernel
theorem dL_law_734 : decode cL_law 734 = .ok (.aload_n 0, 1) := by decide +kernel
theorem dL_law_735 : decode cL_law 735 = .ok (.iload_n 3, 1) := by decide +kernel
theorem dL_law_736 : decode cL_law 736 = .ok (.iconst 1, 1) := by decide +kernel
theorem dL_law_737 : decode cL_law 737 = .ok (.iadd, 1) := by decide +kernel
theorem dL_law_738 : decode cL_law 738 = .ok (.iaload, 1) := by decide +kernel
theorem dL_law_739 : decode cL_law 739 = .ok (.invokevirtual 93, 3) := by decide +kernel
theorem dL_law_742 : decode cL_law 742 = .ok (.if_icmp .eq 213, 3) := by decide +kernel
theorem dL_law_745 : decode cL_law 745 = .ok (.iconst 0, 1) := by decide +kernel
theorem dL_law_746 : decode cL_law 746 = .ok (.ireturn, 1) := by decide +kernel
theorem dL_law_747 : decode cL_law 747 = .ok (.aload_n 1, 1) := by decide +kernel
theorem dL_law_748 : decode cL_law 748 = .ok (.aload_n 0, 1) := by decide +kernel
theorem dL_law_749 : decode cL_law 749 = .ok (.iload_n 3, 1) := by decide +kernel
theorem dL_law_750 : decode cL_law 750 = .ok (.iconst 1, 1) := by decide +kernel
theorem dL_law_751 : decode cL_law 751 = .ok (.iadd, 1) := by decide +kernel
theorem dL_law_752 : decode cL_law 752 = .ok (.iaload, 1) := by decide +kernel
theorem dL_law_753 : decode cL_law 753 = .ok (.invokevirtual 94, 3) := by decide +kernel
theorem dL_law_756 : decode cL_law 756 = .ok (.aload_n 2, 1) := by decide +kernel
theorem dL_law_757 : decode cL_law 757 = .ok (.aload_n 0, 1) := by decide +kernel
theorem dL_law_758 : decode cL_law 758 = .ok (.iload_n 3, 1) := by decide +kernel
theorem dL_law_759 : decode cL_law 759 = .ok (.iconst 1, 1) := by decide +kernel
theorem dL_law_760 : decode cL_law 760 = .ok (.iadd, 1) := by decide +kernel
theorem dL_law_761 : decode cL_law 761 = .ok (.iaload, 1) := by decide +kernel
theorem dL_law_762 : decode cL_law 762 = .ok (.invokevirtual 97, 3) := by decide +kernel
theorem dL_law_765 : decode cL_law 765 = .ok (.if_icmp .eq 190, 3) := by decide +kernel
theorem dL_law_768 : decode cL_law 768 = .ok (.iconst 0, 1) := by decide +kernel
theorem dL_law_769 : decode cL_law 769 = .ok (.ireturn, 1) := by decide +kernel
theorem dL_law_770 : decode cL_law 770 = .ok (.aload_n 1, 1) := by decide +kernel
theorem dL_law_771 : decode cL_law 771 = .ok (.aload_n 0, 1) := by decide +kernel
theorem dL_law_772 : decode cL_law 772 = .ok (.iload_n 3, 1) := by decide +kernel
theorem dL_law_773 : decode cL_law 773 = .ok (.iconst 1, 1) := by decide +kernel
theorem dL_law_774 : decode cL_law 774 = .ok (.iadd, 1) := by decide +kernel
theorem dL_law_775 : decode cL_law 775 = .ok (.iaload, 1) := by decide +kernel
theorem dL_law_776 : decode cL_law 776 = .ok (.aload_n 0, 1) := by decide +kernel
theorem dL_law_777 : decode cL_law 777 = .ok (.iload_n 3, 1) := by decide +kernel
theorem dL_law_778 : decode cL_law 778 = .ok (.iconst 2, 1) := by decide +kernel
theorem dL_law_779 : decode cL_law 779 = .ok (.iadd, 1) := by decide +kernel
theorem dL_law_780 : decode cL_law 780 = .ok (.iaload, 1) := by decide +kernel
theorem dL_law_781 : decode cL_law 781 = .ok (.invokevirtual 98, 3) := by decide +kernel
theorem dL_law_784 : decode cL_law 784 = .ok (.aload_n 2, 1) := by decide +kernel
theorem dL_law_785 : decode cL_law 785 = .ok (.aload_n 0, 1) := by decide +kernel
theorem dL_law_786 : decode cL_law 786 = .ok (.iload_n 3, 1) := by decide +kernel
theorem dL_law_787 : decode cL_law 787 = .ok (.iconst 1, 1) := by decide +kernel
theorem dL_law_788 : decode cL_law 788 = .ok (.iadd, 1) := by decide +kernel
theorem dL_law_789 : decode cL_law 789 = .ok (.iaload, 1) := by decide +kernel
theorem dL_law_790 : decode cL_law 790 = .ok (.aload_n 0, 1) := by decide +kernel
theorem dL_law_791 : decode cL_law 791 = .ok (.iload_n 3, 1) := by decide +kernel
theorem dL_law_792 : decode cL_law 792 = .ok (.iconst 2, 1) := by decide +kernel
theorem dL_law_793 : decode cL_law 793 = .ok (.iadd, 1) := by decide +kernel
theorem dL_law_794 : decode cL_law 794 = .ok (.iaload, 1) := by decide +kernel
theorem dL_law_795 : decode cL_law 795 = .ok (.invokevirtual 101, 3) := by decide +kernel
theorem dL_law_798 : decode cL_law 798 = .ok (.if_icmp .eq 157, 3) := by decide +kernel
theorem dL_law_801 : decode cL_law 801 = .ok (.iconst 0, 1) := by decide +kernel
theorem dL_law_802 : decode cL_law 802 = .ok (.ireturn, 1) := by decide +kernel
theorem dL_law_803 : decode cL_law 803 = .ok (.aload_n 1, 1) := by decide +kernel
theorem dL_law_804 : decode cL_law 804 = .ok (.invokevirtual 102, 3) := by decide +kernel
theorem dL_law_807 : decode cL_law 807 = .ok (.aload_n 2, 1) := by decide +kernel
theorem dL_law_808 : decode cL_law 808 = .ok (.invokevirtual 105, 3) := by decide +kernel
theorem dL_law_811 : decode cL_law 811 = .ok (.if_icmp .eq 144, 3) := by decide +kernel
theorem dL_law_814 : decode cL_law 814 = .ok (.iconst 0, 1) := by decide +kernel
theorem dL_law_815 : decode cL_law 815 = .ok (.ireturn, 1) := by decide +kernel
theorem dL_law_816 : decode cL_law 816 = .ok (.aload_n 1, 1) := by decide +kernel
theorem dL_law_817 : decode cL_law 817 = .ok (.aload_n 0, 1) := by decide +kernel
theorem dL_law_818 : decode cL_law 818 = .ok (.iload_n 3, 1) := by decide +kernel
theorem dL_law_819 : decode cL_law 819 = .ok (.iconst 1, 1) := by decide +kernel
theorem dL_law_820 : decode cL_law 820 = .ok (.iadd, 1) := by decide +kernel
theorem dL_law_821 : decode cL_law 821 = .ok (.iaload, 1) := by decide +kernel
theorem dL_law_822 : decode cL_law 822 = .ok (.invokevirtual 106, 3) := by decide +kernel
theorem dL_law_825 : decode cL_law 825 = .ok (.aload_n 2, 1) := by decide +kernel
theorem dL_law_826 : decode cL_law 826 = .ok (.aload_n 0, 1) := by decide +kernel
theorem dL_law_827 : decode cL_law 827 = .ok (.iload_n 3, 1) := by decide +kernel
theorem dL_law_828 : decode cL_law 828 = .ok (.iconst 1, 1) := by decide +kernel
theorem dL_law_829 : decode cL_law 829 = .ok (.iadd, 1) := by decide +kernel
theorem dL_law_830 : decode cL_law 830 = .ok (.iaload, 1) := by decide +kernel
theorem dL_law_831 : decode cL_law 831 = .ok (.invokevirtual 109, 3) := by decide +kernel
theorem dL_law_834 : decode cL_law 834 = .ok (.if_icmp .eq 121, 3) := by decide +kernel
theorem dL_law_837 : decode cL_law 837 = .ok (.iconst 0, 1) := by decide +kernel
theorem dL_law_838 : decode cL_law 838 = .ok (.ireturn, 1) := by decide +kernel
theorem dL_law_839 : decode cL_law 839 = .ok (.aload_n 1, 1) := by decide +kernel
theorem dL_law_840 : decode cL_law 840 = .ok (.aload_n 0, 1) := by decide +kernel
theorem dL_law_841 : decode cL_law 841 = .ok (.iload_n 3, 1) := by decide +kernel
theorem dL_law_842 : decode cL_law 842 = .ok (.iconst 1, 1) := by decide +kernel
theorem dL_law_843 : decode cL_law 843 = .ok (.iadd, 1) := by decide +kernel
theorem dL_law_844 : decode cL_law 844 = .ok (.iaload, 1) := by decide +kernel
theorem dL_law_845 : decode cL_law 845 = .ok (.aload_n 0, 1) := by decide +kernel
theorem dL_law_846 : decode cL_law 846 = .ok (.iload_n 3, 1) := by decide +kernel
theorem dL_law_847 : decode cL_law 847 = .ok (.iconst 2, 1) := by decide +kernel
theorem dL_law_848 : decode cL_law 848 = .ok (.iadd, 1) := by decide +kernel
theorem dL_law_849 : decode cL_law 849 = .ok (.iaload, 1) := by decide +kernel
theorem dL_law_850 : decode cL_law 850 = .ok (.invokevirtual 110, 3) := by decide +kernel
theorem dL_law_853 : decode cL_law 853 = .ok (.aload_n 2, 1) := by decide +kernel
theorem dL_law_854 : decode cL_law 854 = .ok (.aload_n 0, 1) := by decide +kernel
theorem dL_law_855 : decode cL_law 855 = .ok (.iload_n 3, 1) := by decide +kernel
theorem dL_law_856 : decode cL_law 856 = .ok (.iconst 1, 1) := by decide +kernel
theorem dL_law_857 : decode cL_law 857 = .ok (.iadd, 1) := by decide +kernel
theorem dL_law_858 : decode cL_law 858 = .ok (.iaload, 1) := by decide +kernel
theorem dL_law_859 : decode cL_law 859 = .ok (.aload_n 0, 1) := by decide +kernel
theorem dL_law_860 : decode cL_law 860 = .ok (.iload_n 3, 1) := by decide +kernel
theorem dL_law_861 : decode cL_law 861 = .ok (.iconst 2, 1) := by decide +kernel
theorem dL_law_862 : decode cL_law 862 = .ok (.iadd, 1) := by decide +kernel
theorem dL_law_863 : decode cL_law 863 = .ok (.iaload, 1) := by decide +kernel
theorem dL_law_864 : decode cL_law 864 = .ok (.invokevirtual 113, 3) := by decide +kernel
theorem dL_law_867 : decode cL_law 867 = .ok (.if_icmp .eq 88, 3) := by decide +kernel
theorem dL_law_870 : decode cL_law 870 = .ok (.iconst 0, 1) := by decide +kernel
theorem dL_law_871 : decode cL_law 871 = .ok (.ireturn, 1) := by decide +kernel
theorem dL_law_872 : decode cL_law 872 = .ok (.aload_n 1, 1) := by decide +kernel
theorem dL_law_873 : decode cL_law 873 = .ok (.aload_n 0, 1) := by decide +kernel
theorem dL_law_874 : decode cL_law 874 = .ok (.iload_n 3, 1) := by decide +kernel
theorem dL_law_875 : decode cL_law 875 = .ok (.iconst 1, 1) := by decide +kernel
theorem dL_law_876 : decode cL_law 876 = .ok (.iadd, 1) := by decide +kernel
theorem dL_law_877 : decode cL_law 877 = .ok (.iaload, 1) := by decide +kernel
theorem dL_law_878 : decode cL_law 878 = .ok (.invokevirtual 114, 3) := by decide +kernel
theorem dL_law_881 : decode cL_law 881 = .ok (.aload_n 2, 1) := by decide +kernel
theorem dL_law_882 : decode cL_law 882 = .ok (.aload_n 0, 1) := by decide +kernel
theorem dL_law_883 : decode cL_law 883 = .ok (.iload_n 3, 1) := by decide +kernel
theorem dL_law_884 : decode cL_law 884 = .ok (.iconst 1, 1) := by decide +kernel
theorem dL_law_885 : decode cL_law 885 = .ok (.iadd, 1) := by decide +kernel
theorem dL_law_886 : decode cL_law 886 = .ok (.iaload, 1) := by decide +kernel
theorem dL_law_887 : decode cL_law 887 = .ok (.invokevirtual 117, 3) := by decide +kernel
theorem dL_law_890 : decode cL_law 890 = .ok (.if_icmp .eq 65, 3) := by decide +kernel
theorem dL_law_893 : decode cL_law 893 = .ok (.iconst 0, 1) := by decide +kernel
theorem dL_law_894 : decode cL_law 894 = .ok (.ireturn, 1) := by decide +kernel
theorem dL_law_895 : decode cL_law 895 = .ok (.aload_n 1, 1) := by decide +kernel
theorem dL_law_896 : decode cL_law 896 = .ok (.aload_n 0, 1) := by decide +kernel
theorem dL_law_897 : decode cL_law 897 = .ok (.iload_n 3, 1) := by decide +kernel
theorem dL_law_898 : decode cL_law 898 = .ok (.iconst 1, 1) := by decide +kernel
theorem dL_law_899 : decode cL_law 899 = .ok (.iadd, 1) := by decide +kernel
theorem dL_law_900 : decode cL_law 900 = .ok (.iaload, 1) := by decide +kernel
theorem dL_law_901 : decode cL_law 901 = .ok (.invokevirtual 118, 3) := by decide +kernel
theorem dL_law_904 : decode cL_law 904 = .ok (.aload_n 2, 1) := by decide +kernel
theorem dL_law_905 : decode cL_law 905 = .ok (.aload_n 0, 1) := by decide +kernel
theorem dL_law_906 : decode cL_law 906 = .ok (.iload_n 3, 1) := by decide +kernel
theorem dL_law_907 : decode cL_law 907 = .ok (.iconst 1, 1) := by decide +kernel
theorem dL_law_908 : decode cL_law 908 = .ok (.iadd, 1) := by decide +kernel
theorem dL_law_909 : decode cL_law 909 = .ok (.iaload, 1) := by decide +kernel
theorem dL_law_910 : decode cL_law 910 = .ok (.invokevirtual 121, 3) := by decide +kernel
theorem dL_law_913 : decode cL_law 913 = .ok (.if_icmp .eq 42, 3) := by decide +kernel
theorem dL_law_916 : decode cL_law 916 = .ok (.iconst 0, 1) := by decide +kernel
theorem dL_law_917 : decode cL_law 917 = .ok (.ireturn, 1) := by decide +kernel
theorem dL_law_918 : decode cL_law 918 = .ok (.aload_n 1, 1) := by decide +kernel
theorem dL_law_919 : decode cL_law 919 = .ok (.aload_n 0, 1) := by decide +kernel
theorem dL_law_920 : decode cL_law 920 = .ok (.iload_n 3, 1) := by decide +kernel
theorem dL_law_921 : decode cL_law 921 = .ok (.iconst 1, 1) := by decide +kernel
theorem dL_law_922 : decode cL_law 922 = .ok (.iadd, 1) := by decide +kernel
theorem dL_law_923 : decode cL_law 923 = .ok (.iaload, 1) := by decide +kernel
theorem dL_law_924 : decode cL_law 924 = .ok (.invokevirtual 122, 3) := by decide +kernel
theorem dL_law_927 : decode cL_law 927 = .ok (.aload_n 2, 1) := by decide +kernel
theorem dL_law_928 : decode cL_law 928 = .ok (.aload_n 0, 1) := by decide +kernel
theorem dL_law_929 : decode cL_law 929 = .ok (.iload_n 3, 1) := by decide +kernel
theorem dL_law_930 : decode cL_law 930 = .ok (.iconst 1, 1) := by decide +kernel
theorem dL_law_931 : decode cL_law 931 = .ok (.iadd, 1) := by decide +kernel
theorem dL_law_932 : decode cL_law 932 = .ok (.iaload, 1) := by decide +kernel
theorem dL_law_933 : decode cL_law 933 = .ok (.invokevirtual 125, 3) := by decide +kernel
theorem dL_law_936 : decode cL_law 936 = .ok (.if_icmp .eq 19, 3) := by decide +kernel
theorem dL_law_939 : decode cL_law 939 = .ok (.iconst 0, 1) := by decide +kernel
theorem dL_law_940 : decode cL_law 940 = .ok (.ireturn, 1) := by decide +kernel
theorem dL_law_941 : decode cL_law 941 = .ok (.aload_n 1, 1) := by decide +kernel
theorem dL_law_942 : decode cL_law 942 = .ok (.invokevirtual 126, 3) := by decide +kernel
theorem dL_law_945 : decode cL_law 945 = .ok (.aload_n 2, 1) := by decide +kernel
theorem dL_law_946 : decode cL_law 946 = .ok (.invokevirtual 130, 3) := by decide +kernel
theorem dL_law_949 : decode cL_law 949 = .ok (.lcmp, 1) := by decide +kernel
theorem dL_law_950 : decode cL_law 950 = .ok (.ifCond .eq 5, 3) := by decide +kernel
theorem dL_law_953 : decode cL_law 953 = .ok (.iconst 0, 1) := by decide +kernel
theorem dL_law_954 : decode cL_law 954 = .ok (.ireturn, 1) := by decide +kernel
theorem dL_law_955 : decode cL_law 955 = .ok (.iinc 3 5, 3) := by decide +kernel
theorem dL_law_958 : decode cL_law 958 = .ok (.goto (-940), 3) := by decide +kernel
theorem dL_law_961 : decode cL_law 961 = .ok (.iconst 1, 1) := by decide +kernel
theorem dL_law_962 : decode cL_law 962 = .ok (.ireturn, 1) := by decide +kernel
end
section
/-! THE WORLD: all objects and arrays stand side by side from the address a0 on; cell q is of kind kd q. What changes is a Mem: ints by cell and slot, references by cell and slot, one long a cell. -/
def nestW : Cond → Bool
  | .fieldLinkNest .. => true
  | .methodLinkNest .. => true
  | _ => false
def gT : List Cond := lw_tbl.filter goodWord
def nT : List Cond := lw_tbl.filter nestW
theorem gT_of {w : Cond} (i : Nat) (h : tables_1[i]? = some w) (hg : goodWord w = true) : w ∈ gT := List.mem_filter.mpr ⟨List.mem_append_right _ (List.mem_of_getElem? h), hg⟩
theorem gT_sel {w : Cond} (i : Nat) (h : (k2_sels lw_privs)[i]? = some w) (hg : goodWord w = true) : w ∈ gT := List.mem_filter.mpr ⟨List.mem_append_left _ (List.mem_of_getElem? h), hg⟩
theorem nT_of {w : Cond} (i : Nat) (h : tables_1[i]? = some w) (hg : nestW w = true) : w ∈ nT := List.mem_filter.mpr ⟨List.mem_append_right _ (List.mem_of_getElem? h), hg⟩
theorem gT_good : ∀ w ∈ gT, ((w.onTables && w.keeps) = true ∨ ∃ ty, w = .arrayClass ty) := fun w h => good_of_word (List.mem_filter.mp h).2
theorem gT_self : GoodIn gT gT := fun w h => ⟨h, gT_good w h⟩
theorem nT_warm {s U : State} (hW : s.WarmedH U.vm) (h : ∀ w ∈ nT, va_Nw w s) : ∀ w ∈ nT, va_Nw w U := by
  intro w hw
  have h1 := h w hw
  have h2 := (List.mem_filter.mp hw).2
  cases w <;> first | (simp [nestW] at h2; done) | exact va_Nw.warmF hW h1 | exact va_Nw.warmM hW h1
theorem nT_same {u U : State} (e : u.vm = U.vm) (h : ∀ w ∈ nT, va_Nw w u) : ∀ w ∈ nT, va_Nw w U := by
  intro w hw
  have h1 := h w hw
  have h2 := (List.mem_filter.mp hw).2
  cases w <;> first | (simp [nestW] at h2; done) | exact va_Nw.same rfl e h1
abbrev Mem : Type := (Nat → Nat → Int32) × (Nat → Nat → Nat) × (Nat → Int64)
def gI (μ : Mem) (q j : Nat) : Int32 := μ.1 q j
def gR (μ : Mem) (q j : Nat) : Nat := μ.2.1 q j
def gL (μ : Mem) (q : Nat) : Int64 := μ.2.2 q
def sI (μ : Mem) (q j : Nat) (v : Int32) : Mem := (fun a b => if a = q ∧ b = j then v else μ.1 a b, μ.2.1, μ.2.2)
def sR (μ : Mem) (q j : Nat) (v : Nat) : Mem := (μ.1, fun a b => if a = q ∧ b = j then v else μ.2.1 a b, μ.2.2)
def sL (μ : Mem) (q : Nat) (v : Int64) : Mem := (μ.1, μ.2.1, fun a => if a = q then v else μ.2.2 a)
def kdC (q : Nat) : List Nat := [0, 3, 1005, 1005, 1005, 5010] ++ (List.range 40).map (fun i => if i % 4 = 0 then 3 else 1005)
def kdL : List Nat := [8, 4, 5, 1150, 7, 1008, 1008, 1008, 1005, 1005, 7, 1008, 1008, 1008, 1005, 1005] ++ kdC 0 ++ [4002, 2002, 2, 1006, 1006, 1, 1008, 1008, 6, 1005, 1005, 1005] ++ kdC 0 ++ kdC 0 ++ [9, 3150, 1002, 1002, 1016, 1016, 1016, 1002, 1005, 1005, 1002, 1002, 1531, 2002, 1008, 1005, 1005, 1006, 1006]
def kd (q : Nat) : Nat := kdL.getD q 9999
theorem kd_len : kdL.length = 185 := by decide +kernel
theorem kd_lt {q k : Nat} (h : kd q = k) (hk : k < 9999) : q < 185 := by
  rcases Nat.lt_or_ge q 185 with h1 | h1
  · exact h1
  · exfalso
    have h2 : kd q = 9999 := by
      show kdL.getD q 9999 = 9999
      rw [List.getD_eq_getElem?_getD, List.getElem?_eq_none (by rw [kd_len]; exact h1)]
      rfl
    omega
theorem kd_next {k d k2 : Nat} (h : (List.range 185).all (fun q => !(kd q == k) || kd (q + d) == k2) = true) (hk : k < 9999) {q : Nat} (hq : kd q = k) : kd (q + d) = k2 := by
  have h1 := List.all_eq_true.mp h q (List.mem_range.mpr (kd_lt hq hk))
  simpa [hq] using h1
def rty (k j : Nat) : Nat := if k = 8 then (if j = 1 ∨ j = 2 then 7 else 9999) else if k = 4002 then (if j < 2 then 0 else 9999) else if k = 5010 then (if j < 10 then 3 else 9999) else 9999
def WT (μ : Mem) : Prop := ∀ q j k : Nat, rty (kd q) j = k → k < 9999 → kd (gR μ q j) = k
def fl (a0 : Nat) (μ : Mem) (q : Nat) : Nat → List Value
  | 0 => [.ref (a0 + (q + 1)), .ref (a0 + (q + 5)), .int (gI μ q 2)]
  | 1 => [.ref (a0 + (q + 1)), .ref (a0 + (q + 2))]
  | 2 => [.ref (a0 + (q + 1)), .ref (a0 + (q + 2)), .int (gI μ q 2)]
  | 3 => [.ref (a0 + (q + 1)), .ref (a0 + (q + 2)), .ref (a0 + (q + 3)), .int (gI μ q 3)]
  | 4 => [.ref (a0 + (q + 1)), .int (gI μ q 1), .int (gI μ q 2), .int (gI μ q 3), .int (gI μ q 4), .int (gI μ q 5), .int (gI μ q 6)]
  | 5 => [.ref (a0 + (q + 1)), .int (gI μ q 1)]
  | 6 => [.ref (a0 + (q + 1)), .ref (a0 + (q + 2)), .ref (a0 + (q + 3)), .int (gI μ q 3), .int (gI μ q 4)]
  | 7 => [.int (gI μ q 0), .int (gI μ q 1), .ref (a0 + (q + 1)), .ref (a0 + (q + 2)), .ref (a0 + (q + 3)), .int (gI μ q 5), .ref (a0 + (q + 4)), .ref (a0 + (q + 5)), .int (gI μ q 8), .int (gI μ q 9)]
  | 8 => [.ref (a0 + (q + 1)), .ref (a0 + gR μ q 1), .ref (a0 + gR μ q 2), .ref (a0 + (q + 16)), .ref (a0 + (q + 62)), .ref (a0 + (q + 63)), .ref (a0 + (q + 64)), .ref (a0 + (q + 67)), .ref (a0 + (q + 70)), .long (gL μ q)]
  | 9 => [.long (gL μ q), .ref (a0 + (q + 1)), .int (gI μ q 2), .ref (a0 + (q + 2)), .ref (a0 + (q + 3)), .ref (a0 + (q + 4)), .ref (a0 + (q + 5)), .ref (a0 + (q + 6)), .ref (a0 + (q + 7)), .ref (a0 + (q + 8)), .ref (a0 + (q + 9)), .ref (a0 + (q + 10)), .ref (a0 + (q + 11)), .int (gI μ q 13), .int (gI μ q 14), .int (gI μ q 15), .int (gI μ q 16), .int (gI μ q 17), .int (gI μ q 18), .ref (a0 + (q + 12)), .ref (a0 + (q + 13)), .ref (a0 + (q + 14)), .ref (a0 + (q + 15)), .ref (a0 + (q + 16)), .ref (a0 + (q + 17)), .ref (a0 + (q + 18)), .int (gI μ q 26)]
  | _ => []
/-- the cell of kind k at the place q -/
def entK (a0 : Nat) (cy : Nat → ClassId) (μ : Mem) (q k : Nat) : va_E :=
  if k < 1000 then .inr (k, fl a0 μ q k) else if k < 2000 then .inl (cy 1, k - 1000, .inl (gI μ q)) else if k < 3000 then .inl (cy 2, k - 2000, .inl (gI μ q)) else if k < 4000 then .inl (cy 0, k - 3000, .inl (gI μ q)) else if k < 5000 then .inl (cy 3, k - 4000, .inr (.inr (.inr (.inr (fun j => some (a0 + gR μ q j)))))) else .inl (cy 4, k - 5000, .inr (.inr (.inr (.inr (fun j => some (a0 + gR μ q j))))))
abbrev tysM (cy : Nat → ClassId) : List (ClassId × FieldType) := [(cy 0, .byte), (cy 1, .int), (cy 2, .boolean), (cy 3, .object "ElbowRanks$Course"), (cy 4, .object "ElbowRanks$Moment")]
def mapW (a0 n : Nat) (f : Nat → va_E) : va_W := (List.range n).map (fun k => (a0 + k, f k))
theorem mapW_get {a0 n : Nat} {f : Nat → va_E} {q : Nat} (h : q < n) : (mapW a0 n f)[q]? = some (a0 + q, f q) := by
  simp [mapW, h]
theorem mapW_set {a0 n : Nat} {f : Nat → va_E} {q : Nat} {e : va_E} {f' : Nat → va_E} (h : ∀ k, k < n → f' k = if k = q then e else f k) : (mapW a0 n f).set q (a0 + q, e) = mapW a0 n f' := by
  apply List.ext_getElem?
  intro i
  rw [List.getElem?_set]
  by_cases hi : i < n
  · rw [mapW_get hi, mapW_get hi, h i hi]
    by_cases hq : q = i
    · subst hq
      simp [mapW, hi]
    · rw [if_neg hq, if_neg (fun z => hq z.symm)]
  · have h1 : (mapW a0 n f)[i]? = none := by simp [mapW]; omega
    have h2 : (mapW a0 n f')[i]? = none := by simp [mapW]; omega
    rw [h1, h2]
    by_cases hq : q = i
    · subst hq
      simp [mapW, hi]
    · rw [if_neg hq]
theorem mapW_D {a0 n : Nat} {f : Nat → va_E} : va_D (fun q => a0 ≤ q) (mapW a0 n f) := by
  have key : ∀ (k : Nat) (q : Nat × va_E), (mapW a0 n f)[k]? = some q → q.1 = a0 + k := by
    intro k q h
    by_cases hk : k < n
    · rw [mapW_get hk] at h
      cases h
      rfl
    · have h1 : (mapW a0 n f)[k]? = none := by simp [mapW]; omega
      rw [h1] at h
      cases h
  refine ⟨fun i j p q h1 h2 h3 => ?_, fun k q h => ?_⟩
  · have e1 := key i p h1
    have e2 := key j q h2
    omega
  · have e1 := key k q h
    show a0 ≤ q.1
    omega
def wsM (a0 : Nat) (cy : Nat → ClassId) (μ : Mem) : va_W := mapW a0 185 (fun k => entK a0 cy μ k (kd k))
def Wd (a0 : Nat) (cy : Nat → ClassId) (D : va_G) (μ : Mem) (H : Heap) : Prop := va_P D vwCl (wsM a0 cy μ) H ∧ WT μ
theorem wsM_get {a0 : Nat} {cy : Nat → ClassId} {μ : Mem} {q k : Nat} (h : kd q = k) (hk : k < 9999) : (wsM a0 cy μ)[q]? = some (a0 + q, entK a0 cy μ q k) := by
  have h1 := mapW_get (a0 := a0) (n := 185) (f := fun k => entK a0 cy μ k (kd k)) (kd_lt h hk)
  rw [← h]; exact h1
theorem fl_congr {a0 : Nat} {μ μ' : Mem} {q : Nat} (h1 : ∀ j, gI μ' q j = gI μ q j) (h2 : ∀ j, gR μ' q j = gR μ q j) (h3 : gL μ' q = gL μ q) (k : Nat) : fl a0 μ' q k = fl a0 μ q k := by
  unfold fl
  split <;> simp [h1, h2, h3]
theorem ent_congr {a0 : Nat} {cy : Nat → ClassId} {μ μ' : Mem} {q : Nat} (h1 : ∀ j, gI μ' q j = gI μ q j) (h2 : ∀ j, gR μ' q j = gR μ q j) (h3 : gL μ' q = gL μ q) (k : Nat) : entK a0 cy μ' q k = entK a0 cy μ q k := by
  unfold entK
  rw [fl_congr h1 h2 h3 k, show gI μ' q = gI μ q from funext h1, show gR μ' q = gR μ q from funext h2]
theorem wsM_set {a0 : Nat} {cy : Nat → ClassId} {μ μ' : Mem} {q k : Nat} {e : va_E} (h : kd q = k) (he : entK a0 cy μ' q k = e) (ho : ∀ a, a ≠ q → (∀ j, gI μ' a j = gI μ a j) ∧ (∀ j, gR μ' a j = gR μ a j) ∧ gL μ' a = gL μ a) : (wsM a0 cy μ).set q (a0 + q, e) = wsM a0 cy μ' := by
  refine mapW_set fun a ha => ?_
  by_cases hq : a = q
  · subst hq
    rw [if_pos rfl, ← he, h]
  · obtain ⟨h1, h2, h3⟩ := ho a hq
    rw [if_neg hq]
    exact ent_congr h1 h2 h3 _
theorem sI_off {μ : Mem} {q j : Nat} {v : Int32} : ∀ a, a ≠ q → (∀ i, gI (sI μ q j v) a i = gI μ a i) ∧ (∀ i, gR (sI μ q j v) a i = gR μ a i) ∧ gL (sI μ q j v) a = gL μ a := fun a h => ⟨fun i => by simp [gI, sI, h], fun i => rfl, rfl⟩
theorem sR_off {μ : Mem} {q j : Nat} {v : Nat} : ∀ a, a ≠ q → (∀ i, gI (sR μ q j v) a i = gI μ a i) ∧ (∀ i, gR (sR μ q j v) a i = gR μ a i) ∧ gL (sR μ q j v) a = gL μ a := fun a h => ⟨fun i => rfl, fun i => by simp [gR, sR, h], rfl⟩
theorem sL_off {μ : Mem} {q : Nat} {v : Int64} : ∀ a, a ≠ q → (∀ i, gI (sL μ q v) a i = gI μ a i) ∧ (∀ i, gR (sL μ q v) a i = gR μ a i) ∧ gL (sL μ q v) a = gL μ a := fun a h => ⟨fun i => rfl, fun i => rfl, by simp [gL, sL, h]⟩
theorem gI_sI (μ : Mem) (q j : Nat) (v : Int32) (a i : Nat) : gI (sI μ q j v) a i = if a = q ∧ i = j then v else gI μ a i := rfl
theorem gR_sR (μ : Mem) (q j : Nat) (v : Nat) (a i : Nat) : gR (sR μ q j v) a i = if a = q ∧ i = j then v else gR μ a i := rfl
theorem gL_sL (μ : Mem) (q : Nat) (v : Int64) (a : Nat) : gL (sL μ q v) a = if a = q then v else gL μ a := rfl
theorem gR_sI (μ : Mem) (q j : Nat) (v : Int32) (a i : Nat) : gR (sI μ q j v) a i = gR μ a i := rfl
theorem gL_sI (μ : Mem) (q j : Nat) (v : Int32) (a : Nat) : gL (sI μ q j v) a = gL μ a := rfl
theorem gI_sR (μ : Mem) (q j : Nat) (v : Nat) (a i : Nat) : gI (sR μ q j v) a i = gI μ a i := rfl
theorem gL_sR (μ : Mem) (q j : Nat) (v : Nat) (a : Nat) : gL (sR μ q j v) a = gL μ a := rfl
theorem gI_sL (μ : Mem) (q : Nat) (v : Int64) (a i : Nat) : gI (sL μ q v) a i = gI μ a i := rfl
theorem gR_sL (μ : Mem) (q : Nat) (v : Int64) (a i : Nat) : gR (sL μ q v) a i = gR μ a i := rfl
theorem WT_sI {μ : Mem} {q j : Nat} {v : Int32} (h : WT μ) : WT (sI μ q j v) := fun a i k => h a i k
theorem WT_sL {μ : Mem} {q : Nat} {v : Int64} (h : WT μ) : WT (sL μ q v) := fun a i k => h a i k
theorem WT_sR {μ : Mem} {q j v : Nat} (h : WT μ) (hv : kd v = rty (kd q) j) : WT (sR μ q j v) := by
  intro a i k h1 h2
  rw [gR_sR]
  by_cases hq : a = q ∧ i = j
  · rw [if_pos hq, hv, ← hq.1, ← hq.2]; exact h1
  · rw [if_neg hq]; exact h a i k h1 h2
/-- the name of a value in what follows -/
def lt {α β : Type} (x : α) (k : α → β) : β := k x
/-- an index that is inside -/
def ix (i : Int32) (n : Nat) : Bool := !decide (i < 0) && decide (i.toNatClampNeg < n)
theorem ix_in {i : Int32} {n : Nat} (h : ix i n = true) : vp_in i n := by
  simp [ix] at h
  intro z
  rcases z with z | z
  · have := h.1
    rw [← Int32.not_lt] at this
    exact this z
  · omega
def retI : Option Value → Instr
  | none => .return_
  | some (.long _) => .lreturn
  | some _ => .ireturn
def Cx (a0 : Nat) (own : String) (cb : ByteArray) (nL : Nat) (rt : Option FieldType) (dp : Nat) (sc : Option (Nat × Nat × (Nat → Int32))) (p : Program) (R : Room) (s : State) (m : MethodId) (args : Array Value) (meth : Method) (c : Code) (cells slots : Nat) (cy : Nat → ClassId) (D : va_G) : Prop :=
  p.tables.exec = Jvm.exec ∧ c.code = cb ∧ c.maxLocals = nL ∧ s.vm.findClass own = some m.cls ∧ (∀ w ∈ gT, w.before args s = true) ∧ (∀ w ∈ nT, va_Nw w s) ∧ va_K D vwCl (tysM cy) s ∧ (dp ≤ R.frames ∧ 40 * dp + 13 ≤ R.locals ∧ cells ≤ R.cells ∧ slots ≤ R.slots) ∧ (∀ (b Lb : Nat) (xs : Nat → Int32), sc = some (b, Lb, xs) → va_X b Lb xs s s.heap ∧ b < s.heap.size ∧ b < a0)
def RC (a0 : Nat) (cb : ByteArray) (rt : Option FieldType) (p : Program) (l : Launch) (e : Env) (R : Room) (s : State) (m : MethodId) (args : Array Value) (below : List Frame) (meth : Method) (c : Code) (cells slots : Nat) (Q : State → Prop) (cy : Nat → ClassId) (D : va_G) (r : Option Value × Mem) : Prop :=
  ∀ (H : Heap) (locs : List Loc) (ls : Array Slot) (pc : Nat), Wd a0 cy D r.2 H → va_S (fun q => a0 ≤ q) s.heap H locs → decode cb pc = .ok (retI r.1, 1) → (∀ ty v, rt = some ty → r.1 = some v → narrow ty v = v) → W p l e R s m args below meth c H locs cells slots Q (F0 m pc ls r.1.toList)
/-- what the code does from here: if o is some r, it ends as r says -/
def Ex {α : Type} (a0 : Nat) (own : String) (cb : ByteArray) (nL : Nat) (rt : Option FieldType) (dp : Nat) (sc : Option (Nat × Nat × (Nat → Int32))) (ι : α → Option Value × Mem) (pc : Nat) (L : List (Nat × Value)) (st : List Value) (μ : Mem) (o : Option α) : Prop :=
  ∀ r : α, o = some r → ∀ (p : Program) (l : Launch) (e : Env) (R : Room) (s : State) (m : MethodId) (args : Array Value) (below : List Frame) (meth : Method) (c : Code) (cells slots : Nat) (Q : State → Prop) (cy : Nat → ClassId) (D : va_G),
    Cx a0 own cb nL rt dp sc p R s m args meth c cells slots cy D → RC a0 cb rt p l e R s m args below meth c cells slots Q cy D (ι r) →
    ∀ (H : Heap) (locs : List Loc) (ls : Array Slot), Wd a0 cy D μ H → va_S (fun q => a0 ≤ q) s.heap H locs → lv_has ls nL L → W p l e R s m args below meth c H locs cells slots Q (F0 m pc ls st)
def Wst (a0 : Nat) (cy : Nat → ClassId) (D : va_G) (μ : Mem) (U : State) : Prop := Wd a0 cy D μ U.heap ∧ va_K D vwCl (tysM cy) U ∧ ∀ w ∈ nT, va_Nw w U
def Qd (a0 : Nat) (cy : Nat → ClassId) (D : va_G) (rv : Option Value) (μ' : Mem) : Array Value → State → Outcome → State → Prop := fun _ st o t => (o = .returned rv ∧ Wd a0 cy D μ' t.heap) ∧ va_F (fun q => a0 ≤ q) st t
abbrev rmD (dp : Nat) : Room := { frames := dp, cells := 0, slots := 0, locals := 40 * dp + 13 }
/-- a method's contract: with these arguments in this world it answers rv, and the world is μ' -/
def Ct (a0 : Nat) (y : MethodName) (cb : ByteArray) (nL : Nat) (rt : Option FieldType) (dp : Nat) (av : List Value) (μ : Mem) (rv : Option Value) (μ' : Mem) : Prop :=
  ∀ (l : Launch) (cy : Nat → ClassId) (D : va_G), Met l y (.code y cb nL rt :: gT) (rmD dp) (va_Pc av (Wst a0 cy D μ)) (Qd a0 cy D rv μ') 0 0 (fun q => a0 ≤ q)
end
section
section ROWS
variable {α : Type} {a0 : Nat} {own : String} {cb : ByteArray} {nL : Nat} {rt : Option FieldType} {dp : Nat} {sc : Option (Nat × Nat × (Nat → Int32))} {ι : α → Option Value × Mem} {pc : Nat} {L : List (Nat × Value)} {st : List Value} {μ : Mem} {o o1 o2 : Option α}
theorem Ex_none : Ex a0 own cb nL rt dp sc ι pc L st μ none := fun r hr => by cases hr
theorem Ex_perm {L2 : List (Nat × Value)} (ks : List Nat) (h : lv_pick L ks = L2) (k : Ex a0 own cb nL rt dp sc ι pc L2 st μ o) : Ex a0 own cb nL rt dp sc ι pc L st μ o := by
  intro r hr p l e R s m args below meth c cells slots Q cy D C K H locs ls hW hS hl
  exact k r hr p l e R s m args below meth c cells slots Q cy D C K H locs ls hW hS (lv_sub hl ks h)
theorem Ex_iconst {n : Int} {v : Int32} (d : decode cb pc = .ok (.iconst n, 1)) (hv : Int32.ofInt n = v) (k : Ex a0 own cb nL rt dp sc ι (pc + 1) L (.int v :: st) μ o) : Ex a0 own cb nL rt dp sc ι pc L (st) μ o := by
  intro r hr p l e R s m args below meth c cells slots Q cy D C K H locs ls hW hS hl
  exact lv_iconst C.1 C.2.1 d hv (k r hr p l e R s m args below meth c cells slots Q cy D C K H locs ls hW hS hl)
theorem Ex_bipush {n : Int} {v : Int32} (d : decode cb pc = .ok (.bipush n, 2)) (hv : (Int8.ofInt n).toInt32 = v) (k : Ex a0 own cb nL rt dp sc ι (pc + 2) L (.int v :: st) μ o) : Ex a0 own cb nL rt dp sc ι pc L (st) μ o := by
  intro r hr p l e R s m args below meth c cells slots Q cy D C K H locs ls hW hS hl
  exact lv_bipush C.1 C.2.1 d hv (k r hr p l e R s m args below meth c cells slots Q cy D C K H locs ls hW hS hl)
theorem Ex_sipush {n : Int} {v : Int32} (d : decode cb pc = .ok (.sipush n, 3)) (hv : (Int16.ofInt n).toInt32 = v) (k : Ex a0 own cb nL rt dp sc ι (pc + 3) L (.int v :: st) μ o) : Ex a0 own cb nL rt dp sc ι pc L (st) μ o := by
  intro r hr p l e R s m args below meth c cells slots Q cy D C K H locs ls hW hS hl
  exact lv_sipush C.1 C.2.1 d hv (k r hr p l e R s m args below meth c cells slots Q cy D C K H locs ls hW hS hl)
theorem Ex_lconst {n : Fin 2} {v : Int64} (d : decode cb pc = .ok (.lconst n, 1)) (hv : Int64.ofNat (n : Nat) = v) (k : Ex a0 own cb nL rt dp sc ι (pc + 1) L (.long v :: st) μ o) : Ex a0 own cb nL rt dp sc ι pc L (st) μ o := by
  intro r hr p l e R s m args below meth c cells slots Q cy D C K H locs ls hW hS hl
  exact lv_lconst C.1 C.2.1 d hv (k r hr p l e R s m args below meth c cells slots Q cy D C K H locs ls hW hS hl)
theorem Ex_ldc {idx : Nat} {v : Int32} (d : decode cb pc = .ok (.ldc idx, 2)) (hc : Jvm.Cond.constant own idx v ∈ gT) (k : Ex a0 own cb nL rt dp sc ι (pc + 2) L (.int v :: st) μ o) : Ex a0 own cb nL rt dp sc ι pc L (st) μ o := by
  intro r hr p l e R s m args below meth c cells slots Q cy D C K H locs ls hW hS hl
  exact lv_ldc C.1 C.2.1 C.2.2.2.1 (C.2.2.2.2.1 _ hc) d (k r hr p l e R s m args below meth c cells slots Q cy D C K H locs ls hW hS hl)
theorem Ex_ldcw {idx : Nat} {v : Int32} (d : decode cb pc = .ok (.ldc_w idx, 3)) (hc : Jvm.Cond.constant own idx v ∈ gT) (k : Ex a0 own cb nL rt dp sc ι (pc + 3) L (.int v :: st) μ o) : Ex a0 own cb nL rt dp sc ι pc L (st) μ o := by
  intro r hr p l e R s m args below meth c cells slots Q cy D C K H locs ls hW hS hl
  exact lv_ldcw C.1 C.2.1 C.2.2.2.1 (C.2.2.2.2.1 _ hc) d (k r hr p l e R s m args below meth c cells slots Q cy D C K H locs ls hW hS hl)
theorem Ex_ldc2 {idx : Nat} {v : Int64} (d : decode cb pc = .ok (.ldc2_w idx, 3)) (hc : Jvm.Cond.constantLong own idx v ∈ gT) (k : Ex a0 own cb nL rt dp sc ι (pc + 3) L (.long v :: st) μ o) : Ex a0 own cb nL rt dp sc ι pc L (st) μ o := by
  intro r hr p l e R s m args below meth c cells slots Q cy D C K H locs ls hW hS hl
  exact lv_ldc2 C.1 C.2.1 C.2.2.2.1 (C.2.2.2.2.1 _ hc) d (k r hr p l e R s m args below meth c cells slots Q cy D C K H locs ls hW hS hl)
theorem Ex_iload_n {k0 : Fin 4} {i : Nat} {x : Int32} (d : decode cb pc = .ok (.iload_n k0, 1)) (hi : (k0 : Nat) = i) (pos : Nat) (hp : L[pos]? = some (i, .int x)) (k : Ex a0 own cb nL rt dp sc ι (pc + 1) L (.int x :: st) μ o) : Ex a0 own cb nL rt dp sc ι pc L (st) μ o := by
  intro r hr p l e R s m args below meth c cells slots Q cy D C K H locs ls hW hS hl
  exact lv_iload_n C.1 C.2.1 d hi (lv_at hl pos hp) (k r hr p l e R s m args below meth c cells slots Q cy D C K H locs ls hW hS hl)
theorem Ex_iload {i : Nat} {x : Int32} (d : decode cb pc = .ok (.iload i, 2)) (pos : Nat) (hp : L[pos]? = some (i, .int x)) (k : Ex a0 own cb nL rt dp sc ι (pc + 2) L (.int x :: st) μ o) : Ex a0 own cb nL rt dp sc ι pc L (st) μ o := by
  intro r hr p l e R s m args below meth c cells slots Q cy D C K H locs ls hW hS hl
  exact lv_iload C.1 C.2.1 d (lv_at hl pos hp) (k r hr p l e R s m args below meth c cells slots Q cy D C K H locs ls hW hS hl)
theorem Ex_aload_n {k0 : Fin 4} {i x : Nat} (d : decode cb pc = .ok (.aload_n k0, 1)) (hi : (k0 : Nat) = i) (pos : Nat) (hp : L[pos]? = some (i, .ref x)) (k : Ex a0 own cb nL rt dp sc ι (pc + 1) L (.ref x :: st) μ o) : Ex a0 own cb nL rt dp sc ι pc L (st) μ o := by
  intro r hr p l e R s m args below meth c cells slots Q cy D C K H locs ls hW hS hl
  exact lv_aload_n C.1 C.2.1 d hi (lv_at hl pos hp) (k r hr p l e R s m args below meth c cells slots Q cy D C K H locs ls hW hS hl)
theorem Ex_aload {i x : Nat} (d : decode cb pc = .ok (.aload i, 2)) (pos : Nat) (hp : L[pos]? = some (i, .ref x)) (k : Ex a0 own cb nL rt dp sc ι (pc + 2) L (.ref x :: st) μ o) : Ex a0 own cb nL rt dp sc ι pc L (st) μ o := by
  intro r hr p l e R s m args below meth c cells slots Q cy D C K H locs ls hW hS hl
  exact lv_aload C.1 C.2.1 d (lv_at hl pos hp) (k r hr p l e R s m args below meth c cells slots Q cy D C K H locs ls hW hS hl)
theorem Ex_istore_n {k0 : Fin 4} {i : Nat} {x : Int32} {L2 : List (Nat × Value)} (d : decode cb pc = .ok (.istore_n k0, 1)) (hi : (k0 : Nat) = i) (hn : i < nL) (hL : (i, Value.int x) :: L.filter (fun q => !(q.1 == i) && !(q.1 + 1 == i && q.2.category == 2)) = L2) (k : Ex a0 own cb nL rt dp sc ι (pc + 1) L2 st μ o) : Ex a0 own cb nL rt dp sc ι pc L (.int x :: st) μ o := by
  intro r hr p l e R s m args below meth c cells slots Q cy D C K H locs ls hW hS hl
  exact lv_istore_n C.1 C.2.1 d hi hl hn hL (fun ls hl => k r hr p l e R s m args below meth c cells slots Q cy D C K H locs ls hW hS hl)
theorem Ex_istore {i : Nat} {x : Int32} {L2 : List (Nat × Value)} (d : decode cb pc = .ok (.istore i, 2)) (hn : i < nL) (hL : (i, Value.int x) :: L.filter (fun q => !(q.1 == i) && !(q.1 + 1 == i && q.2.category == 2)) = L2) (k : Ex a0 own cb nL rt dp sc ι (pc + 2) L2 st μ o) : Ex a0 own cb nL rt dp sc ι pc L (.int x :: st) μ o := by
  intro r hr p l e R s m args below meth c cells slots Q cy D C K H locs ls hW hS hl
  exact lv_istore C.1 C.2.1 d  hl hn hL (fun ls hl => k r hr p l e R s m args below meth c cells slots Q cy D C K H locs ls hW hS hl)
theorem Ex_astore_n {k0 : Fin 4} {i : Nat} {x : Nat} {L2 : List (Nat × Value)} (d : decode cb pc = .ok (.astore_n k0, 1)) (hi : (k0 : Nat) = i) (hn : i < nL) (hL : (i, Value.ref x) :: L.filter (fun q => !(q.1 == i) && !(q.1 + 1 == i && q.2.category == 2)) = L2) (k : Ex a0 own cb nL rt dp sc ι (pc + 1) L2 st μ o) : Ex a0 own cb nL rt dp sc ι pc L (.ref x :: st) μ o := by
  intro r hr p l e R s m args below meth c cells slots Q cy D C K H locs ls hW hS hl
  exact lv_astore_n C.1 C.2.1 d hi hl hn hL (fun ls hl => k r hr p l e R s m args below meth c cells slots Q cy D C K H locs ls hW hS hl)
theorem Ex_astore {i : Nat} {x : Nat} {L2 : List (Nat × Value)} (d : decode cb pc = .ok (.astore i, 2)) (hn : i < nL) (hL : (i, Value.ref x) :: L.filter (fun q => !(q.1 == i) && !(q.1 + 1 == i && q.2.category == 2)) = L2) (k : Ex a0 own cb nL rt dp sc ι (pc + 2) L2 st μ o) : Ex a0 own cb nL rt dp sc ι pc L (.ref x :: st) μ o := by
  intro r hr p l e R s m args below meth c cells slots Q cy D C K H locs ls hW hS hl
  exact lv_astore C.1 C.2.1 d  hl hn hL (fun ls hl => k r hr p l e R s m args below meth c cells slots Q cy D C K H locs ls hW hS hl)
theorem Ex_iinc {i : Nat} {n : Int} {x v : Int32} {L2 : List (Nat × Value)} (d : decode cb pc = .ok (.iinc i n, 3)) (pos : Nat) (hp : L[pos]? = some (i, .int x)) (hv : x + Int32.ofInt n = v) (hn : i < nL) (hL : (i, Value.int v) :: L.filter (fun q => !(q.1 == i) && !(q.1 + 1 == i && q.2.category == 2)) = L2) (k : Ex a0 own cb nL rt dp sc ι (pc + 3) L2 st μ o) : Ex a0 own cb nL rt dp sc ι pc L st μ o := by
  intro r hr p l e R s m args below meth c cells slots Q cy D C K H locs ls hW hS hl
  exact lv_iinc (k := pos) C.1 C.2.1 d hl hp hv hn hL (fun ls hl => k r hr p l e R s m args below meth c cells slots Q cy D C K H locs ls hW hS hl)
theorem Ex_iadd {x y : Int32} (d : decode cb pc = .ok (.iadd, 1)) (k : Ex a0 own cb nL rt dp sc ι (pc + 1) L (.int (x + y) :: st) μ o) : Ex a0 own cb nL rt dp sc ι pc L (.int y :: .int x :: st) μ o := by
  intro r hr p l e R s m args below meth c cells slots Q cy D C K H locs ls hW hS hl
  exact lv_iadd C.1 C.2.1 d (k r hr p l e R s m args below meth c cells slots Q cy D C K H locs ls hW hS hl)
theorem Ex_isub {x y : Int32} (d : decode cb pc = .ok (.isub, 1)) (k : Ex a0 own cb nL rt dp sc ι (pc + 1) L (.int (x - y) :: st) μ o) : Ex a0 own cb nL rt dp sc ι pc L (.int y :: .int x :: st) μ o := by
  intro r hr p l e R s m args below meth c cells slots Q cy D C K H locs ls hW hS hl
  exact lv_isub C.1 C.2.1 d (k r hr p l e R s m args below meth c cells slots Q cy D C K H locs ls hW hS hl)
theorem Ex_imul {x y : Int32} (d : decode cb pc = .ok (.imul, 1)) (k : Ex a0 own cb nL rt dp sc ι (pc + 1) L (.int (x * y) :: st) μ o) : Ex a0 own cb nL rt dp sc ι pc L (.int y :: .int x :: st) μ o := by
  intro r hr p l e R s m args below meth c cells slots Q cy D C K H locs ls hW hS hl
  exact lv_imul C.1 C.2.1 d (k r hr p l e R s m args below meth c cells slots Q cy D C K H locs ls hW hS hl)
theorem Ex_iand {x y : Int32} (d : decode cb pc = .ok (.iand, 1)) (k : Ex a0 own cb nL rt dp sc ι (pc + 1) L (.int (x &&& y) :: st) μ o) : Ex a0 own cb nL rt dp sc ι pc L (.int y :: .int x :: st) μ o := by
  intro r hr p l e R s m args below meth c cells slots Q cy D C K H locs ls hW hS hl
  exact lv_iand C.1 C.2.1 d (k r hr p l e R s m args below meth c cells slots Q cy D C K H locs ls hW hS hl)
theorem Ex_ior {x y : Int32} (d : decode cb pc = .ok (.ior, 1)) (k : Ex a0 own cb nL rt dp sc ι (pc + 1) L (.int (x ||| y) :: st) μ o) : Ex a0 own cb nL rt dp sc ι pc L (.int y :: .int x :: st) μ o := by
  intro r hr p l e R s m args below meth c cells slots Q cy D C K H locs ls hW hS hl
  exact lv_ior C.1 C.2.1 d (k r hr p l e R s m args below meth c cells slots Q cy D C K H locs ls hW hS hl)
theorem Ex_ixor {x y : Int32} (d : decode cb pc = .ok (.ixor, 1)) (k : Ex a0 own cb nL rt dp sc ι (pc + 1) L (.int (x ^^^ y) :: st) μ o) : Ex a0 own cb nL rt dp sc ι pc L (.int y :: .int x :: st) μ o := by
  intro r hr p l e R s m args below meth c cells slots Q cy D C K H locs ls hW hS hl
  exact lv_ixor C.1 C.2.1 d (k r hr p l e R s m args below meth c cells slots Q cy D C K H locs ls hW hS hl)
theorem Ex_ishl {x y : Int32} (d : decode cb pc = .ok (.ishl, 1)) (k : Ex a0 own cb nL rt dp sc ι (pc + 1) L (.int (x <<< (y &&& 31)) :: st) μ o) : Ex a0 own cb nL rt dp sc ι pc L (.int y :: .int x :: st) μ o := by
  intro r hr p l e R s m args below meth c cells slots Q cy D C K H locs ls hW hS hl
  exact lv_ishl C.1 C.2.1 d (k r hr p l e R s m args below meth c cells slots Q cy D C K H locs ls hW hS hl)
theorem Ex_ishr {x y : Int32} (d : decode cb pc = .ok (.ishr, 1)) (k : Ex a0 own cb nL rt dp sc ι (pc + 1) L (.int (x >>> (y &&& 31)) :: st) μ o) : Ex a0 own cb nL rt dp sc ι pc L (.int y :: .int x :: st) μ o := by
  intro r hr p l e R s m args below meth c cells slots Q cy D C K H locs ls hW hS hl
  exact lv_ishr C.1 C.2.1 d (k r hr p l e R s m args below meth c cells slots Q cy D C K H locs ls hW hS hl)
theorem Ex_ineg {x : Int32} (d : decode cb pc = .ok (.ineg, 1)) (k : Ex a0 own cb nL rt dp sc ι (pc + 1) L (.int (-x) :: st) μ o) : Ex a0 own cb nL rt dp sc ι pc L (.int x :: st) μ o := by
  intro r hr p l e R s m args below meth c cells slots Q cy D C K H locs ls hW hS hl
  exact lv_ineg C.1 C.2.1 d (k r hr p l e R s m args below meth c cells slots Q cy D C K H locs ls hW hS hl)
theorem Ex_iushr {x y v : Int32} (d : decode cb pc = .ok (.iushr, 1)) (hv : (x.toUInt32 >>> (y.toUInt32 &&& Int32.toUInt32 31)).toInt32 = v) (k : Ex a0 own cb nL rt dp sc ι (pc + 1) L (.int v :: st) μ o) : Ex a0 own cb nL rt dp sc ι pc L (.int y :: .int x :: st) μ o := by
  intro r hr p l e R s m args below meth c cells slots Q cy D C K H locs ls hW hS hl
  exact lv_iushr C.1 C.2.1 d hv (k r hr p l e R s m args below meth c cells slots Q cy D C K H locs ls hW hS hl)
theorem Ex_i2b {x v : Int32} (d : decode cb pc = .ok (.i2b, 1)) (hv : x.toInt8.toInt32 = v) (k : Ex a0 own cb nL rt dp sc ι (pc + 1) L (.int v :: st) μ o) : Ex a0 own cb nL rt dp sc ι pc L (.int x :: st) μ o := by
  intro r hr p l e R s m args below meth c cells slots Q cy D C K H locs ls hW hS hl
  exact lv_i2b C.1 C.2.1 d hv (k r hr p l e R s m args below meth c cells slots Q cy D C K H locs ls hW hS hl)
theorem Ex_ladd {x y : Int64} (d : decode cb pc = .ok (.ladd, 1)) (k : Ex a0 own cb nL rt dp sc ι (pc + 1) L (.long (x + y) :: st) μ o) : Ex a0 own cb nL rt dp sc ι pc L (.long y :: .long x :: st) μ o := by
  intro r hr p l e R s m args below meth c cells slots Q cy D C K H locs ls hW hS hl
  exact lv_ladd C.1 C.2.1 d (k r hr p l e R s m args below meth c cells slots Q cy D C K H locs ls hW hS hl)
theorem Ex_lcmp {x y : Int64} (d : decode cb pc = .ok (.lcmp, 1)) (k : Ex a0 own cb nL rt dp sc ι (pc + 1) L (.int (lg_cmp x y) :: st) μ o) : Ex a0 own cb nL rt dp sc ι pc L (.long y :: .long x :: st) μ o := by
  intro r hr p l e R s m args below meth c cells slots Q cy D C K H locs ls hW hS hl
  exact W.lcmp C.1 C.2.1 d (k r hr p l e R s m args below meth c cells slots Q cy D C K H locs ls hW hS hl)
theorem Ex_dup {va : Value} (d : decode cb pc = .ok (.dup, 1)) (hva : va.category = 1) (k : Ex a0 own cb nL rt dp sc ι (pc + 1) L (va :: va :: st) μ o) : Ex a0 own cb nL rt dp sc ι pc L (va :: st) μ o := by
  intro r hr p l e R s m args below meth c cells slots Q cy D C K H locs ls hW hS hl
  exact lv_dup C.1 C.2.1 d hva (k r hr p l e R s m args below meth c cells slots Q cy D C K H locs ls hW hS hl)
theorem Ex_pop {va : Value} (d : decode cb pc = .ok (.pop, 1)) (hva : va.category = 1) (k : Ex a0 own cb nL rt dp sc ι (pc + 1) L (st) μ o) : Ex a0 own cb nL rt dp sc ι pc L (va :: st) μ o := by
  intro r hr p l e R s m args below meth c cells slots Q cy D C K H locs ls hW hS hl
  exact lv_pop C.1 C.2.1 d hva (k r hr p l e R s m args below meth c cells slots Q cy D C K H locs ls hW hS hl)
theorem Ex_dup2 {va vb : Value} (d : decode cb pc = .ok (.dup2, 1)) (hva : va.category = 1) (hvb : vb.category = 1) (k : Ex a0 own cb nL rt dp sc ι (pc + 1) L (va :: vb :: va :: vb :: st) μ o) : Ex a0 own cb nL rt dp sc ι pc L (va :: vb :: st) μ o := by
  intro r hr p l e R s m args below meth c cells slots Q cy D C K H locs ls hW hS hl
  exact lv_dup2_11 C.1 C.2.1 d hva hvb (k r hr p l e R s m args below meth c cells slots Q cy D C K H locs ls hW hS hl)
theorem Ex_goto {off : Int} {tgt : Nat} (d : decode cb pc = .ok (.goto off, 3)) (ht : (pc : Int) + off = (tgt : Int)) (k : Ex a0 own cb nL rt dp sc ι tgt L st μ o) : Ex a0 own cb nL rt dp sc ι pc L st μ o := by
  intro r hr p l e R s m args below meth c cells slots Q cy D C K H locs ls hW hS hl
  exact lv_goto C.1 C.2.1 d ht (k r hr p l e R s m args below meth c cells slots Q cy D C K H locs ls hW hS hl)
theorem Ex_idiv {x y : Int32} (d : decode cb pc = .ok (.idiv, 1)) (k : Ex a0 own cb nL rt dp sc ι (pc + 1) L (.int (x / y) :: st) μ o) : Ex a0 own cb nL rt dp sc ι pc L (.int y :: .int x :: st) μ (if y = 0 then none else o) := by
  intro r hr p l e R s m args below meth c cells slots Q cy D C K H locs ls hW hS hl
  by_cases hy : y = 0
  · rw [if_pos hy] at hr; cases hr
  · rw [if_neg hy] at hr
    exact lv_idiv C.1 C.2.1 d hy (k r hr p l e R s m args below meth c cells slots Q cy D C K H locs ls hW hS hl)
theorem Ex_idivC {x y : Int32} (d : decode cb pc = .ok (.idiv, 1)) (hy : ¬ y = 0) (k : Ex a0 own cb nL rt dp sc ι (pc + 1) L (.int (x / y) :: st) μ o) : Ex a0 own cb nL rt dp sc ι pc L (.int y :: .int x :: st) μ o := by
  intro r hr p l e R s m args below meth c cells slots Q cy D C K H locs ls hW hS hl
  exact lv_idiv C.1 C.2.1 d hy (k r hr p l e R s m args below meth c cells slots Q cy D C K H locs ls hW hS hl)
theorem Ex_irem {x y : Int32} (d : decode cb pc = .ok (.irem, 1)) (k : Ex a0 own cb nL rt dp sc ι (pc + 1) L (.int (x - x / y * y) :: st) μ o) : Ex a0 own cb nL rt dp sc ι pc L (.int y :: .int x :: st) μ (if y = 0 then none else o) := by
  intro r hr p l e R s m args below meth c cells slots Q cy D C K H locs ls hW hS hl
  by_cases hy : y = 0
  · rw [if_pos hy] at hr; cases hr
  · rw [if_neg hy] at hr
    exact lv_irem C.1 C.2.1 d hy (k r hr p l e R s m args below meth c cells slots Q cy D C K H locs ls hW hS hl)
theorem Ex_iremC {x y : Int32} (d : decode cb pc = .ok (.irem, 1)) (hy : ¬ y = 0) (k : Ex a0 own cb nL rt dp sc ι (pc + 1) L (.int (x - x / y * y) :: st) μ o) : Ex a0 own cb nL rt dp sc ι pc L (.int y :: .int x :: st) μ o := by
  intro r hr p l e R s m args below meth c cells slots Q cy D C K H locs ls hW hS hl
  exact lv_irem C.1 C.2.1 d hy (k r hr p l e R s m args below meth c cells slots Q cy D C K H locs ls hW hS hl)
theorem Ex_if_eq {x : Int32} {off : Int} {tgt : Nat} (d : decode cb pc = .ok (.ifCond .eq off, 3)) (ht : (pc : Int) + off = (tgt : Int)) (k1 : Ex a0 own cb nL rt dp sc ι tgt L st μ o1) (k2 : Ex a0 own cb nL rt dp sc ι (pc + 3) L st μ o2) : Ex a0 own cb nL rt dp sc ι pc L (.int x :: st) μ (if x = 0 then o1 else o2) := by
  intro r hr p l e R s m args below meth c cells slots Q cy D C K H locs ls hW hS hl
  exact lv_if_eq C.1 C.2.1 d ht (fun q => k1 r (by rw [if_pos q] at hr; exact hr) p l e R s m args below meth c cells slots Q cy D C K H locs ls hW hS hl) (fun q => k2 r (by rw [if_neg q] at hr; exact hr) p l e R s m args below meth c cells slots Q cy D C K H locs ls hW hS hl)
theorem Ex_if_eqT {x : Int32} {off : Int} {tgt : Nat} (d : decode cb pc = .ok (.ifCond .eq off, 3)) (ht : (pc : Int) + off = (tgt : Int)) (q : x = 0) (k1 : Ex a0 own cb nL rt dp sc ι tgt L st μ o) : Ex a0 own cb nL rt dp sc ι pc L (.int x :: st) μ o := by
  intro r hr p l e R s m args below meth c cells slots Q cy D C K H locs ls hW hS hl
  exact lv_if_eq C.1 C.2.1 d ht (fun _ => k1 r hr p l e R s m args below meth c cells slots Q cy D C K H locs ls hW hS hl) (fun z => absurd q z)
theorem Ex_if_eqF {x : Int32} {off : Int} {tgt : Nat} (d : decode cb pc = .ok (.ifCond .eq off, 3)) (ht : (pc : Int) + off = (tgt : Int)) (q : ¬ (x = 0)) (k2 : Ex a0 own cb nL rt dp sc ι (pc + 3) L st μ o) : Ex a0 own cb nL rt dp sc ι pc L (.int x :: st) μ o := by
  intro r hr p l e R s m args below meth c cells slots Q cy D C K H locs ls hW hS hl
  exact lv_if_eq C.1 C.2.1 d ht (fun z => absurd z q) (fun _ => k2 r hr p l e R s m args below meth c cells slots Q cy D C K H locs ls hW hS hl)
theorem Ex_icmp_eq {x y : Int32} {off : Int} {tgt : Nat} (d : decode cb pc = .ok (.if_icmp .eq off, 3)) (ht : (pc : Int) + off = (tgt : Int)) (k1 : Ex a0 own cb nL rt dp sc ι tgt L st μ o1) (k2 : Ex a0 own cb nL rt dp sc ι (pc + 3) L st μ o2) : Ex a0 own cb nL rt dp sc ι pc L (.int y :: .int x :: st) μ (if x = y then o1 else o2) := by
  intro r hr p l e R s m args below meth c cells slots Q cy D C K H locs ls hW hS hl
  exact lv_icmp_eq C.1 C.2.1 d ht (fun q => k1 r (by rw [if_pos q] at hr; exact hr) p l e R s m args below meth c cells slots Q cy D C K H locs ls hW hS hl) (fun q => k2 r (by rw [if_neg q] at hr; exact hr) p l e R s m args below meth c cells slots Q cy D C K H locs ls hW hS hl)
theorem Ex_icmp_eqT {x y : Int32} {off : Int} {tgt : Nat} (d : decode cb pc = .ok (.if_icmp .eq off, 3)) (ht : (pc : Int) + off = (tgt : Int)) (q : x = y) (k1 : Ex a0 own cb nL rt dp sc ι tgt L st μ o) : Ex a0 own cb nL rt dp sc ι pc L (.int y :: .int x :: st) μ o := by
  intro r hr p l e R s m args below meth c cells slots Q cy D C K H locs ls hW hS hl
  exact lv_icmp_eq C.1 C.2.1 d ht (fun _ => k1 r hr p l e R s m args below meth c cells slots Q cy D C K H locs ls hW hS hl) (fun z => absurd q z)
theorem Ex_icmp_eqF {x y : Int32} {off : Int} {tgt : Nat} (d : decode cb pc = .ok (.if_icmp .eq off, 3)) (ht : (pc : Int) + off = (tgt : Int)) (q : ¬ (x = y)) (k2 : Ex a0 own cb nL rt dp sc ι (pc + 3) L st μ o) : Ex a0 own cb nL rt dp sc ι pc L (.int y :: .int x :: st) μ o := by
  intro r hr p l e R s m args below meth c cells slots Q cy D C K H locs ls hW hS hl
  exact lv_icmp_eq C.1 C.2.1 d ht (fun z => absurd z q) (fun _ => k2 r hr p l e R s m args below meth c cells slots Q cy D C K H locs ls hW hS hl)
theorem Ex_if_ne {x : Int32} {off : Int} {tgt : Nat} (d : decode cb pc = .ok (.ifCond .ne off, 3)) (ht : (pc : Int) + off = (tgt : Int)) (k1 : Ex a0 own cb nL rt dp sc ι tgt L st μ o1) (k2 : Ex a0 own cb nL rt dp sc ι (pc + 3) L st μ o2) : Ex a0 own cb nL rt dp sc ι pc L (.int x :: st) μ (if x = 0 then o2 else o1) := by
  intro r hr p l e R s m args below meth c cells slots Q cy D C K H locs ls hW hS hl
  exact lv_if_ne C.1 C.2.1 d ht (fun q => k1 r (by rw [if_neg q] at hr; exact hr) p l e R s m args below meth c cells slots Q cy D C K H locs ls hW hS hl) (fun q => k2 r (by rw [if_pos q] at hr; exact hr) p l e R s m args below meth c cells slots Q cy D C K H locs ls hW hS hl)
theorem Ex_if_neT {x : Int32} {off : Int} {tgt : Nat} (d : decode cb pc = .ok (.ifCond .ne off, 3)) (ht : (pc : Int) + off = (tgt : Int)) (q : ¬ x = 0) (k1 : Ex a0 own cb nL rt dp sc ι tgt L st μ o) : Ex a0 own cb nL rt dp sc ι pc L (.int x :: st) μ o := by
  intro r hr p l e R s m args below meth c cells slots Q cy D C K H locs ls hW hS hl
  exact lv_if_ne C.1 C.2.1 d ht (fun _ => k1 r hr p l e R s m args below meth c cells slots Q cy D C K H locs ls hW hS hl) (fun z => absurd z q)
theorem Ex_if_neF {x : Int32} {off : Int} {tgt : Nat} (d : decode cb pc = .ok (.ifCond .ne off, 3)) (ht : (pc : Int) + off = (tgt : Int)) (q : x = 0) (k2 : Ex a0 own cb nL rt dp sc ι (pc + 3) L st μ o) : Ex a0 own cb nL rt dp sc ι pc L (.int x :: st) μ o := by
  intro r hr p l e R s m args below meth c cells slots Q cy D C K H locs ls hW hS hl
  exact lv_if_ne C.1 C.2.1 d ht (fun z => absurd q z) (fun _ => k2 r hr p l e R s m args below meth c cells slots Q cy D C K H locs ls hW hS hl)
theorem Ex_icmp_ne {x y : Int32} {off : Int} {tgt : Nat} (d : decode cb pc = .ok (.if_icmp .ne off, 3)) (ht : (pc : Int) + off = (tgt : Int)) (k1 : Ex a0 own cb nL rt dp sc ι tgt L st μ o1) (k2 : Ex a0 own cb nL rt dp sc ι (pc + 3) L st μ o2) : Ex a0 own cb nL rt dp sc ι pc L (.int y :: .int x :: st) μ (if x = y then o2 else o1) := by
  intro r hr p l e R s m args below meth c cells slots Q cy D C K H locs ls hW hS hl
  exact lv_icmp_ne C.1 C.2.1 d ht (fun q => k1 r (by rw [if_neg q] at hr; exact hr) p l e R s m args below meth c cells slots Q cy D C K H locs ls hW hS hl) (fun q => k2 r (by rw [if_pos q] at hr; exact hr) p l e R s m args below meth c cells slots Q cy D C K H locs ls hW hS hl)
theorem Ex_icmp_neT {x y : Int32} {off : Int} {tgt : Nat} (d : decode cb pc = .ok (.if_icmp .ne off, 3)) (ht : (pc : Int) + off = (tgt : Int)) (q : ¬ x = y) (k1 : Ex a0 own cb nL rt dp sc ι tgt L st μ o) : Ex a0 own cb nL rt dp sc ι pc L (.int y :: .int x :: st) μ o := by
  intro r hr p l e R s m args below meth c cells slots Q cy D C K H locs ls hW hS hl
  exact lv_icmp_ne C.1 C.2.1 d ht (fun _ => k1 r hr p l e R s m args below meth c cells slots Q cy D C K H locs ls hW hS hl) (fun z => absurd z q)
theorem Ex_icmp_neF {x y : Int32} {off : Int} {tgt : Nat} (d : decode cb pc = .ok (.if_icmp .ne off, 3)) (ht : (pc : Int) + off = (tgt : Int)) (q : x = y) (k2 : Ex a0 own cb nL rt dp sc ι (pc + 3) L st μ o) : Ex a0 own cb nL rt dp sc ι pc L (.int y :: .int x :: st) μ o := by
  intro r hr p l e R s m args below meth c cells slots Q cy D C K H locs ls hW hS hl
  exact lv_icmp_ne C.1 C.2.1 d ht (fun z => absurd q z) (fun _ => k2 r hr p l e R s m args below meth c cells slots Q cy D C K H locs ls hW hS hl)
theorem Ex_if_lt {x : Int32} {off : Int} {tgt : Nat} (d : decode cb pc = .ok (.ifCond .lt off, 3)) (ht : (pc : Int) + off = (tgt : Int)) (k1 : Ex a0 own cb nL rt dp sc ι tgt L st μ o1) (k2 : Ex a0 own cb nL rt dp sc ι (pc + 3) L st μ o2) : Ex a0 own cb nL rt dp sc ι pc L (.int x :: st) μ (if x < 0 then o1 else o2) := by
  intro r hr p l e R s m args below meth c cells slots Q cy D C K H locs ls hW hS hl
  exact lv_if_lt C.1 C.2.1 d ht (fun q => k1 r (by rw [if_pos q] at hr; exact hr) p l e R s m args below meth c cells slots Q cy D C K H locs ls hW hS hl) (fun q => k2 r (by rw [if_neg q] at hr; exact hr) p l e R s m args below meth c cells slots Q cy D C K H locs ls hW hS hl)
theorem Ex_if_ltT {x : Int32} {off : Int} {tgt : Nat} (d : decode cb pc = .ok (.ifCond .lt off, 3)) (ht : (pc : Int) + off = (tgt : Int)) (q : x < 0) (k1 : Ex a0 own cb nL rt dp sc ι tgt L st μ o) : Ex a0 own cb nL rt dp sc ι pc L (.int x :: st) μ o := by
  intro r hr p l e R s m args below meth c cells slots Q cy D C K H locs ls hW hS hl
  exact lv_if_lt C.1 C.2.1 d ht (fun _ => k1 r hr p l e R s m args below meth c cells slots Q cy D C K H locs ls hW hS hl) (fun z => absurd q z)
theorem Ex_if_ltF {x : Int32} {off : Int} {tgt : Nat} (d : decode cb pc = .ok (.ifCond .lt off, 3)) (ht : (pc : Int) + off = (tgt : Int)) (q : ¬ (x < 0)) (k2 : Ex a0 own cb nL rt dp sc ι (pc + 3) L st μ o) : Ex a0 own cb nL rt dp sc ι pc L (.int x :: st) μ o := by
  intro r hr p l e R s m args below meth c cells slots Q cy D C K H locs ls hW hS hl
  exact lv_if_lt C.1 C.2.1 d ht (fun z => absurd z q) (fun _ => k2 r hr p l e R s m args below meth c cells slots Q cy D C K H locs ls hW hS hl)
theorem Ex_icmp_lt {x y : Int32} {off : Int} {tgt : Nat} (d : decode cb pc = .ok (.if_icmp .lt off, 3)) (ht : (pc : Int) + off = (tgt : Int)) (k1 : Ex a0 own cb nL rt dp sc ι tgt L st μ o1) (k2 : Ex a0 own cb nL rt dp sc ι (pc + 3) L st μ o2) : Ex a0 own cb nL rt dp sc ι pc L (.int y :: .int x :: st) μ (if x < y then o1 else o2) := by
  intro r hr p l e R s m args below meth c cells slots Q cy D C K H locs ls hW hS hl
  exact lv_icmp_lt C.1 C.2.1 d ht (fun q => k1 r (by rw [if_pos q] at hr; exact hr) p l e R s m args below meth c cells slots Q cy D C K H locs ls hW hS hl) (fun q => k2 r (by rw [if_neg q] at hr; exact hr) p l e R s m args below meth c cells slots Q cy D C K H locs ls hW hS hl)
theorem Ex_icmp_ltT {x y : Int32} {off : Int} {tgt : Nat} (d : decode cb pc = .ok (.if_icmp .lt off, 3)) (ht : (pc : Int) + off = (tgt : Int)) (q : x < y) (k1 : Ex a0 own cb nL rt dp sc ι tgt L st μ o) : Ex a0 own cb nL rt dp sc ι pc L (.int y :: .int x :: st) μ o := by
  intro r hr p l e R s m args below meth c cells slots Q cy D C K H locs ls hW hS hl
  exact lv_icmp_lt C.1 C.2.1 d ht (fun _ => k1 r hr p l e R s m args below meth c cells slots Q cy D C K H locs ls hW hS hl) (fun z => absurd q z)
theorem Ex_icmp_ltF {x y : Int32} {off : Int} {tgt : Nat} (d : decode cb pc = .ok (.if_icmp .lt off, 3)) (ht : (pc : Int) + off = (tgt : Int)) (q : ¬ (x < y)) (k2 : Ex a0 own cb nL rt dp sc ι (pc + 3) L st μ o) : Ex a0 own cb nL rt dp sc ι pc L (.int y :: .int x :: st) μ o := by
  intro r hr p l e R s m args below meth c cells slots Q cy D C K H locs ls hW hS hl
  exact lv_icmp_lt C.1 C.2.1 d ht (fun z => absurd z q) (fun _ => k2 r hr p l e R s m args below meth c cells slots Q cy D C K H locs ls hW hS hl)
theorem Ex_if_ge {x : Int32} {off : Int} {tgt : Nat} (d : decode cb pc = .ok (.ifCond .ge off, 3)) (ht : (pc : Int) + off = (tgt : Int)) (k1 : Ex a0 own cb nL rt dp sc ι tgt L st μ o1) (k2 : Ex a0 own cb nL rt dp sc ι (pc + 3) L st μ o2) : Ex a0 own cb nL rt dp sc ι pc L (.int x :: st) μ (if x < 0 then o2 else o1) := by
  intro r hr p l e R s m args below meth c cells slots Q cy D C K H locs ls hW hS hl
  exact lv_if_ge C.1 C.2.1 d ht (fun q => k1 r (by rw [if_neg (by intro z; exact absurd q (Int32.not_le.mpr z))] at hr; exact hr) p l e R s m args below meth c cells slots Q cy D C K H locs ls hW hS hl) (fun q => k2 r (by rw [if_pos (Int32.not_le.mp q)] at hr; exact hr) p l e R s m args below meth c cells slots Q cy D C K H locs ls hW hS hl)
theorem Ex_if_geT {x : Int32} {off : Int} {tgt : Nat} (d : decode cb pc = .ok (.ifCond .ge off, 3)) (ht : (pc : Int) + off = (tgt : Int)) (q : 0 ≤ x) (k1 : Ex a0 own cb nL rt dp sc ι tgt L st μ o) : Ex a0 own cb nL rt dp sc ι pc L (.int x :: st) μ o := by
  intro r hr p l e R s m args below meth c cells slots Q cy D C K H locs ls hW hS hl
  exact lv_if_ge C.1 C.2.1 d ht (fun _ => k1 r hr p l e R s m args below meth c cells slots Q cy D C K H locs ls hW hS hl) (fun z => absurd q z)
theorem Ex_if_geF {x : Int32} {off : Int} {tgt : Nat} (d : decode cb pc = .ok (.ifCond .ge off, 3)) (ht : (pc : Int) + off = (tgt : Int)) (q : ¬ (0 ≤ x)) (k2 : Ex a0 own cb nL rt dp sc ι (pc + 3) L st μ o) : Ex a0 own cb nL rt dp sc ι pc L (.int x :: st) μ o := by
  intro r hr p l e R s m args below meth c cells slots Q cy D C K H locs ls hW hS hl
  exact lv_if_ge C.1 C.2.1 d ht (fun z => absurd z q) (fun _ => k2 r hr p l e R s m args below meth c cells slots Q cy D C K H locs ls hW hS hl)
theorem Ex_icmp_ge {x y : Int32} {off : Int} {tgt : Nat} (d : decode cb pc = .ok (.if_icmp .ge off, 3)) (ht : (pc : Int) + off = (tgt : Int)) (k1 : Ex a0 own cb nL rt dp sc ι tgt L st μ o1) (k2 : Ex a0 own cb nL rt dp sc ι (pc + 3) L st μ o2) : Ex a0 own cb nL rt dp sc ι pc L (.int y :: .int x :: st) μ (if x < y then o2 else o1) := by
  intro r hr p l e R s m args below meth c cells slots Q cy D C K H locs ls hW hS hl
  exact lv_icmp_ge C.1 C.2.1 d ht (fun q => k1 r (by rw [if_neg (by intro z; exact absurd q (Int32.not_le.mpr z))] at hr; exact hr) p l e R s m args below meth c cells slots Q cy D C K H locs ls hW hS hl) (fun q => k2 r (by rw [if_pos (Int32.not_le.mp q)] at hr; exact hr) p l e R s m args below meth c cells slots Q cy D C K H locs ls hW hS hl)
theorem Ex_icmp_geT {x y : Int32} {off : Int} {tgt : Nat} (d : decode cb pc = .ok (.if_icmp .ge off, 3)) (ht : (pc : Int) + off = (tgt : Int)) (q : y ≤ x) (k1 : Ex a0 own cb nL rt dp sc ι tgt L st μ o) : Ex a0 own cb nL rt dp sc ι pc L (.int y :: .int x :: st) μ o := by
  intro r hr p l e R s m args below meth c cells slots Q cy D C K H locs ls hW hS hl
  exact lv_icmp_ge C.1 C.2.1 d ht (fun _ => k1 r hr p l e R s m args below meth c cells slots Q cy D C K H locs ls hW hS hl) (fun z => absurd q z)
theorem Ex_icmp_geF {x y : Int32} {off : Int} {tgt : Nat} (d : decode cb pc = .ok (.if_icmp .ge off, 3)) (ht : (pc : Int) + off = (tgt : Int)) (q : ¬ (y ≤ x)) (k2 : Ex a0 own cb nL rt dp sc ι (pc + 3) L st μ o) : Ex a0 own cb nL rt dp sc ι pc L (.int y :: .int x :: st) μ o := by
  intro r hr p l e R s m args below meth c cells slots Q cy D C K H locs ls hW hS hl
  exact lv_icmp_ge C.1 C.2.1 d ht (fun z => absurd z q) (fun _ => k2 r hr p l e R s m args below meth c cells slots Q cy D C K H locs ls hW hS hl)
theorem Ex_if_gt {x : Int32} {off : Int} {tgt : Nat} (d : decode cb pc = .ok (.ifCond .gt off, 3)) (ht : (pc : Int) + off = (tgt : Int)) (k1 : Ex a0 own cb nL rt dp sc ι tgt L st μ o1) (k2 : Ex a0 own cb nL rt dp sc ι (pc + 3) L st μ o2) : Ex a0 own cb nL rt dp sc ι pc L (.int x :: st) μ (if 0 < x then o1 else o2) := by
  intro r hr p l e R s m args below meth c cells slots Q cy D C K H locs ls hW hS hl
  exact lv_if_gt C.1 C.2.1 d ht (fun q => k1 r (by rw [if_pos q] at hr; exact hr) p l e R s m args below meth c cells slots Q cy D C K H locs ls hW hS hl) (fun q => k2 r (by rw [if_neg q] at hr; exact hr) p l e R s m args below meth c cells slots Q cy D C K H locs ls hW hS hl)
theorem Ex_if_gtT {x : Int32} {off : Int} {tgt : Nat} (d : decode cb pc = .ok (.ifCond .gt off, 3)) (ht : (pc : Int) + off = (tgt : Int)) (q : 0 < x) (k1 : Ex a0 own cb nL rt dp sc ι tgt L st μ o) : Ex a0 own cb nL rt dp sc ι pc L (.int x :: st) μ o := by
  intro r hr p l e R s m args below meth c cells slots Q cy D C K H locs ls hW hS hl
  exact lv_if_gt C.1 C.2.1 d ht (fun _ => k1 r hr p l e R s m args below meth c cells slots Q cy D C K H locs ls hW hS hl) (fun z => absurd q z)
theorem Ex_if_gtF {x : Int32} {off : Int} {tgt : Nat} (d : decode cb pc = .ok (.ifCond .gt off, 3)) (ht : (pc : Int) + off = (tgt : Int)) (q : ¬ (0 < x)) (k2 : Ex a0 own cb nL rt dp sc ι (pc + 3) L st μ o) : Ex a0 own cb nL rt dp sc ι pc L (.int x :: st) μ o := by
  intro r hr p l e R s m args below meth c cells slots Q cy D C K H locs ls hW hS hl
  exact lv_if_gt C.1 C.2.1 d ht (fun z => absurd z q) (fun _ => k2 r hr p l e R s m args below meth c cells slots Q cy D C K H locs ls hW hS hl)
theorem Ex_icmp_gt {x y : Int32} {off : Int} {tgt : Nat} (d : decode cb pc = .ok (.if_icmp .gt off, 3)) (ht : (pc : Int) + off = (tgt : Int)) (k1 : Ex a0 own cb nL rt dp sc ι tgt L st μ o1) (k2 : Ex a0 own cb nL rt dp sc ι (pc + 3) L st μ o2) : Ex a0 own cb nL rt dp sc ι pc L (.int y :: .int x :: st) μ (if y < x then o1 else o2) := by
  intro r hr p l e R s m args below meth c cells slots Q cy D C K H locs ls hW hS hl
  exact lv_icmp_gt C.1 C.2.1 d ht (fun q => k1 r (by rw [if_pos q] at hr; exact hr) p l e R s m args below meth c cells slots Q cy D C K H locs ls hW hS hl) (fun q => k2 r (by rw [if_neg q] at hr; exact hr) p l e R s m args below meth c cells slots Q cy D C K H locs ls hW hS hl)
theorem Ex_icmp_gtT {x y : Int32} {off : Int} {tgt : Nat} (d : decode cb pc = .ok (.if_icmp .gt off, 3)) (ht : (pc : Int) + off = (tgt : Int)) (q : y < x) (k1 : Ex a0 own cb nL rt dp sc ι tgt L st μ o) : Ex a0 own cb nL rt dp sc ι pc L (.int y :: .int x :: st) μ o := by
  intro r hr p l e R s m args below meth c cells slots Q cy D C K H locs ls hW hS hl
  exact lv_icmp_gt C.1 C.2.1 d ht (fun _ => k1 r hr p l e R s m args below meth c cells slots Q cy D C K H locs ls hW hS hl) (fun z => absurd q z)
theorem Ex_icmp_gtF {x y : Int32} {off : Int} {tgt : Nat} (d : decode cb pc = .ok (.if_icmp .gt off, 3)) (ht : (pc : Int) + off = (tgt : Int)) (q : ¬ (y < x)) (k2 : Ex a0 own cb nL rt dp sc ι (pc + 3) L st μ o) : Ex a0 own cb nL rt dp sc ι pc L (.int y :: .int x :: st) μ o := by
  intro r hr p l e R s m args below meth c cells slots Q cy D C K H locs ls hW hS hl
  exact lv_icmp_gt C.1 C.2.1 d ht (fun z => absurd z q) (fun _ => k2 r hr p l e R s m args below meth c cells slots Q cy D C K H locs ls hW hS hl)
theorem Ex_if_le {x : Int32} {off : Int} {tgt : Nat} (d : decode cb pc = .ok (.ifCond .le off, 3)) (ht : (pc : Int) + off = (tgt : Int)) (k1 : Ex a0 own cb nL rt dp sc ι tgt L st μ o1) (k2 : Ex a0 own cb nL rt dp sc ι (pc + 3) L st μ o2) : Ex a0 own cb nL rt dp sc ι pc L (.int x :: st) μ (if 0 < x then o2 else o1) := by
  intro r hr p l e R s m args below meth c cells slots Q cy D C K H locs ls hW hS hl
  exact lv_if_le C.1 C.2.1 d ht (fun q => k1 r (by rw [if_neg (by intro z; exact absurd q (Int32.not_le.mpr z))] at hr; exact hr) p l e R s m args below meth c cells slots Q cy D C K H locs ls hW hS hl) (fun q => k2 r (by rw [if_pos (Int32.not_le.mp q)] at hr; exact hr) p l e R s m args below meth c cells slots Q cy D C K H locs ls hW hS hl)
theorem Ex_if_leT {x : Int32} {off : Int} {tgt : Nat} (d : decode cb pc = .ok (.ifCond .le off, 3)) (ht : (pc : Int) + off = (tgt : Int)) (q : x ≤ 0) (k1 : Ex a0 own cb nL rt dp sc ι tgt L st μ o) : Ex a0 own cb nL rt dp sc ι pc L (.int x :: st) μ o := by
  intro r hr p l e R s m args below meth c cells slots Q cy D C K H locs ls hW hS hl
  exact lv_if_le C.1 C.2.1 d ht (fun _ => k1 r hr p l e R s m args below meth c cells slots Q cy D C K H locs ls hW hS hl) (fun z => absurd q z)
theorem Ex_if_leF {x : Int32} {off : Int} {tgt : Nat} (d : decode cb pc = .ok (.ifCond .le off, 3)) (ht : (pc : Int) + off = (tgt : Int)) (q : ¬ (x ≤ 0)) (k2 : Ex a0 own cb nL rt dp sc ι (pc + 3) L st μ o) : Ex a0 own cb nL rt dp sc ι pc L (.int x :: st) μ o := by
  intro r hr p l e R s m args below meth c cells slots Q cy D C K H locs ls hW hS hl
  exact lv_if_le C.1 C.2.1 d ht (fun z => absurd z q) (fun _ => k2 r hr p l e R s m args below meth c cells slots Q cy D C K H locs ls hW hS hl)
theorem Ex_icmp_le {x y : Int32} {off : Int} {tgt : Nat} (d : decode cb pc = .ok (.if_icmp .le off, 3)) (ht : (pc : Int) + off = (tgt : Int)) (k1 : Ex a0 own cb nL rt dp sc ι tgt L st μ o1) (k2 : Ex a0 own cb nL rt dp sc ι (pc + 3) L st μ o2) : Ex a0 own cb nL rt dp sc ι pc L (.int y :: .int x :: st) μ (if y < x then o2 else o1) := by
  intro r hr p l e R s m args below meth c cells slots Q cy D C K H locs ls hW hS hl
  exact lv_icmp_le C.1 C.2.1 d ht (fun q => k1 r (by rw [if_neg (by intro z; exact absurd q (Int32.not_le.mpr z))] at hr; exact hr) p l e R s m args below meth c cells slots Q cy D C K H locs ls hW hS hl) (fun q => k2 r (by rw [if_pos (Int32.not_le.mp q)] at hr; exact hr) p l e R s m args below meth c cells slots Q cy D C K H locs ls hW hS hl)
theorem Ex_icmp_leT {x y : Int32} {off : Int} {tgt : Nat} (d : decode cb pc = .ok (.if_icmp .le off, 3)) (ht : (pc : Int) + off = (tgt : Int)) (q : x ≤ y) (k1 : Ex a0 own cb nL rt dp sc ι tgt L st μ o) : Ex a0 own cb nL rt dp sc ι pc L (.int y :: .int x :: st) μ o := by
  intro r hr p l e R s m args below meth c cells slots Q cy D C K H locs ls hW hS hl
  exact lv_icmp_le C.1 C.2.1 d ht (fun _ => k1 r hr p l e R s m args below meth c cells slots Q cy D C K H locs ls hW hS hl) (fun z => absurd q z)
theorem Ex_icmp_leF {x y : Int32} {off : Int} {tgt : Nat} (d : decode cb pc = .ok (.if_icmp .le off, 3)) (ht : (pc : Int) + off = (tgt : Int)) (q : ¬ (x ≤ y)) (k2 : Ex a0 own cb nL rt dp sc ι (pc + 3) L st μ o) : Ex a0 own cb nL rt dp sc ι pc L (.int y :: .int x :: st) μ o := by
  intro r hr p l e R s m args below meth c cells slots Q cy D C K H locs ls hW hS hl
  exact lv_icmp_le C.1 C.2.1 d ht (fun z => absurd z q) (fun _ => k2 r hr p l e R s m args below meth c cells slots Q cy D C K H locs ls hW hS hl)
theorem Ex_iret {v : Int32} {r0 : α} (d : decode cb pc = .ok (.ireturn, 1)) (hι : ι r0 = (some (.int v), μ)) (hn : ∀ ty, rt = some ty → narrow ty (.int v) = .int v) : Ex a0 own cb nL rt dp sc ι pc L [.int v] μ (some r0) := by
  intro r hr p l e R s m args below meth c cells slots Q cy D C K H locs ls hW hS hl
  cases hr
  unfold RC at K
  rw [hι] at K
  exact K H locs ls pc hW hS d (fun ty w h1 h2 => by cases h2; exact hn ty h1)
theorem Ex_lret {v : Int64} {r0 : α} (d : decode cb pc = .ok (.lreturn, 1)) (hι : ι r0 = (some (.long v), μ)) (hn : ∀ ty, rt = some ty → narrow ty (.long v) = .long v) : Ex a0 own cb nL rt dp sc ι pc L [.long v] μ (some r0) := by
  intro r hr p l e R s m args below meth c cells slots Q cy D C K H locs ls hW hS hl
  cases hr
  unfold RC at K
  rw [hι] at K
  exact K H locs ls pc hW hS d (fun ty w h1 h2 => by cases h2; exact hn ty h1)
theorem Ex_vret {r0 : α} (d : decode cb pc = .ok (.return_, 1)) (hι : ι r0 = (none, μ)) : Ex a0 own cb nL rt dp sc ι pc L [] μ (some r0) := by
  intro r hr p l e R s m args below meth c cells slots Q cy D C K H locs ls hW hS hl
  cases hr
  unfold RC at K
  rw [hι] at K
  exact K H locs ls pc hW hS d (fun ty w h1 h2 => by cases h2)
end ROWS
end
section
/-! fields, arrays, calls; a contract out of Ex -/
theorem gT_all {ws : List Cond} (ps : List Nat) (hp : ws = ps.filterMap (fun i => tables_1[i]?)) (h : ws.all goodWord = true) : ∀ w ∈ ws, w ∈ gT := by
  intro w hw
  have hg := List.all_eq_true.mp h w hw
  rw [hp] at hw
  obtain ⟨i, -, hi⟩ := List.mem_filterMap.mp hw
  exact gT_of i hi hg
theorem inG0 : ∀ w ∈ u_ws RX0 TX0 3, w ∈ gT := gT_all [160, 162, 164] (by decide +kernel) (by decide +kernel)
theorem inG1 : ∀ w ∈ u_ws RX1 TX1 2, w ∈ gT := gT_all [194, 196] (by decide +kernel) (by decide +kernel)
theorem inG2 : ∀ w ∈ u_ws RX2 TX2 3, w ∈ gT := gT_all [178, 180, 182] (by decide +kernel) (by decide +kernel)
theorem inG3 : ∀ w ∈ u_ws RX3 TX3 4, w ∈ gT := gT_all [145, 147, 149, 151] (by decide +kernel) (by decide +kernel)
theorem inG4 : ∀ w ∈ u_ws RX4 TX4 7, w ∈ gT := gT_all [53, 55, 57, 59, 61, 63, 65] (by decide +kernel) (by decide +kernel)
theorem inG5 : ∀ w ∈ u_ws RX5 TX5 2, w ∈ gT := gT_all [38, 40] (by decide +kernel) (by decide +kernel)
theorem inG6 : ∀ w ∈ u_ws RX6 TX6 5, w ∈ gT := gT_all [211, 213, 215, 217, 219] (by decide +kernel) (by decide +kernel)
theorem inG7 : ∀ w ∈ u_ws RX7 TX7 10, w ∈ gT := gT_all [104, 106, 108, 110, 112, 114, 116, 118, 120, 122] (by decide +kernel) (by decide +kernel)
theorem inG8 : ∀ w ∈ u_ws RX8 TX8 10, w ∈ gT := gT_all [232, 234, 236, 238, 240, 242, 244, 246, 248, 250] (by decide +kernel) (by decide +kernel)
theorem inG9 : ∀ w ∈ u_ws RX9 TX9 27, w ∈ gT := gT_all [697, 699, 701, 703, 705, 707, 709, 711, 713, 715, 717, 719, 721, 723, 725, 727, 729, 731, 733, 735, 737, 739, 741, 743, 745, 747, 749] (by decide +kernel) (by decide +kernel)
theorem cl_ok : ∀ (ci : Nat) (q : vw_C), vwCl[ci]? = some q → (∀ w ∈ u_ws q.1 q.2.1 q.2.2, w ∈ gT) ∧ (∃ ty : Nat → FieldType, ∀ k, k < q.2.2 → parseFieldDescriptor (q.2.1 k).2.2.1 = some (ty k)) ∧ (∀ a, a < q.2.2 → ∀ b, b < q.2.2 → a ≠ b → (q.2.1 a).2.1 ≠ (q.2.1 b).2.1) := by
  intro ci q h
  match ci, h with
  | 0, h => cases h; exact ⟨inG0, ⟨tyX0, tyX0_ok⟩, nmX0⟩
  | 1, h => cases h; exact ⟨inG1, ⟨tyX1, tyX1_ok⟩, nmX1⟩
  | 2, h => cases h; exact ⟨inG2, ⟨tyX2, tyX2_ok⟩, nmX2⟩
  | 3, h => cases h; exact ⟨inG3, ⟨tyX3, tyX3_ok⟩, nmX3⟩
  | 4, h => cases h; exact ⟨inG4, ⟨tyX4, tyX4_ok⟩, nmX4⟩
  | 5, h => cases h; exact ⟨inG5, ⟨tyX5, tyX5_ok⟩, nmX5⟩
  | 6, h => cases h; exact ⟨inG6, ⟨tyX6, tyX6_ok⟩, nmX6⟩
  | 7, h => cases h; exact ⟨inG7, ⟨tyX7, tyX7_ok⟩, nmX7⟩
  | 8, h => cases h; exact ⟨inG8, ⟨tyX8, tyX8_ok⟩, nmX8⟩
  | 9, h => cases h; exact ⟨inG9, ⟨tyX9, tyX9_ok⟩, nmX9⟩
  | n + 10, h => simp [vwCl] at h
/-- a field's link: pool number idx of the class own is field k of the kind ci -/
def FG (own : String) (idx ci k : Nat) : Prop := ∃ (C : String) (T : u_T) (N : Nat), vwCl[ci]? = some (C, T, N) ∧ k < N ∧ (Cond.fieldLink own idx (T k).1 (T k).2.1 (T k).2.2.1 ∈ gT ∨ ∃ host, Cond.fieldLinkNest own idx (T k).1 (T k).2.1 (T k).2.2.1 host ∈ nT)
/-- the field isn't final, and of the type ty -/
def FP (ci k : Nat) (ty : FieldType) : Prop := ∃ (C : String) (T : u_T) (N : Nat), vwCl[ci]? = some (C, T, N) ∧ (T k).2.2.2 = false ∧ parseFieldDescriptor (T k).2.2.1 = some ty
def CV (own : String) (idx : Nat) (y : MethodName) (cb2 : ByteArray) (nL2 : Nat) (rt2 : Option FieldType) (n : Nat) : Prop := Cond.methodLink own idx y ∈ gT ∧ Cond.instanceMethod y ∈ gT ∧ Cond.selects y.cls y y ∈ gT ∧ Cond.initialized y.cls ∈ gT ∧ Cond.code y cb2 nL2 rt2 ∈ gT ∧ (y.cls ≠ "java/lang/invoke/MethodHandle" ∧ y.cls ≠ "java/lang/invoke/VarHandle" ∧ (parseMethodDescriptor y.desc).map (fun d => d.parameters.length) = some n)
def CS (own : String) (idx : Nat) (y : MethodName) (cb2 : ByteArray) (nL2 : Nat) (rt2 : Option FieldType) (n : Nat) : Prop := Cond.methodLink own idx y ∈ gT ∧ Cond.static y ∈ gT ∧ Cond.initialized y.cls ∈ gT ∧ Cond.code y cb2 nL2 rt2 ∈ gT ∧ (y.cls ≠ "java/lang/invoke/MethodHandle" ∧ y.cls ≠ "java/lang/invoke/VarHandle" ∧ (parseMethodDescriptor y.desc).map (fun d => d.parameters.length) = some n)
theorem ent_ob {a0 : Nat} {cy : Nat → ClassId} {μ : Mem} {q k : Nat} (h : k < 1000) : entK a0 cy μ q k = .inr (k, fl a0 μ q k) := by simp [entK, h]
theorem ent_I {a0 : Nat} {cy : Nat → ClassId} {μ : Mem} {q n : Nat} (h : n < 1000) : entK a0 cy μ q (1000 + n) = .inl (cy 1, n, .inl (gI μ q)) := by
  unfold entK
  rw [if_neg (by omega), if_pos (by omega), Nat.add_sub_cancel_left]
theorem ent_Z {a0 : Nat} {cy : Nat → ClassId} {μ : Mem} {q n : Nat} (h : n < 1000) : entK a0 cy μ q (2000 + n) = .inl (cy 2, n, .inl (gI μ q)) := by
  unfold entK
  rw [if_neg (by omega), if_neg (by omega), if_pos (by omega), Nat.add_sub_cancel_left]
theorem ent_B {a0 : Nat} {cy : Nat → ClassId} {μ : Mem} {q n : Nat} (h : n < 1000) : entK a0 cy μ q (3000 + n) = .inl (cy 0, n, .inl (gI μ q)) := by
  unfold entK
  rw [if_neg (by omega), if_neg (by omega), if_neg (by omega), if_pos (by omega), Nat.add_sub_cancel_left]
theorem ent_C {a0 : Nat} {cy : Nat → ClassId} {μ : Mem} {q n : Nat} (h : n < 1000) : entK a0 cy μ q (4000 + n) = .inl (cy 3, n, .inr (.inr (.inr (.inr (fun j => some (a0 + gR μ q j)))))) := by
  unfold entK
  rw [if_neg (by omega), if_neg (by omega), if_neg (by omega), if_neg (by omega), if_pos (by omega), Nat.add_sub_cancel_left]
theorem ent_M {a0 : Nat} {cy : Nat → ClassId} {μ : Mem} {q n : Nat} (h : n < 1000) : entK a0 cy μ q (5000 + n) = .inl (cy 4, n, .inr (.inr (.inr (.inr (fun j => some (a0 + gR μ q j)))))) := by
  unfold entK
  rw [if_neg (by omega), if_neg (by omega), if_neg (by omega), if_neg (by omega), if_neg (by omega), Nat.add_sub_cancel_left]
theorem upd_sI {μ : Mem} {q j : Nat} {x : Int32} : upd (gI μ q) j x = gI (sI μ q j x) q := by
  funext i
  simp [upd, gI, sI]
theorem up_sR {a0 : Nat} {μ : Mem} {q j v : Nat} : va_up (fun j => some (a0 + gR μ q j)) j (some (a0 + v)) = fun i => some (a0 + gR (sR μ q j v) q i) := by
  funext i
  by_cases h : i = j <;> simp [va_up, gR, sR, h]
theorem Qd_pre {a0 : Nat} {cy : Nat → ClassId} {D : va_G} {μ : Mem} {av : List Value} : FrameBlind (va_Pc av (Wst a0 cy D μ)) := fun a U g mk q => ⟨q.1, q.2.1, va_K.moved (u := U) (U := U.calling g mk a) (Vm.Alike.refl U.vm) q.2.2.1, nT_same (u := U) (U := U.calling g mk a) rfl q.2.2.2⟩
section HEAP
variable {α : Type} {a0 : Nat} {own : String} {cb : ByteArray} {nL : Nat} {rt : Option FieldType} {dp : Nat} {sc : Option (Nat × Nat × (Nat → Int32))} {ι : α → Option Value × Mem} {pc : Nat} {L : List (Nat × Value)} {st : List Value} {μ : Mem} {o o1 o2 : Option α}
theorem Ex_wt (kk : WT μ → Ex a0 own cb nL rt dp sc ι pc L st μ o) : Ex a0 own cb nL rt dp sc ι pc L st μ o := by
  intro r hr p l e R s m args below meth c cells slots Q cy D C K H locs ls hW hS hl
  exact kk hW.2 r hr p l e R s m args below meth c cells slots Q cy D C K H locs ls hW hS hl
theorem WT_k {q j K k : Nat} (hw : WT μ) (hk : kd q = K) (hr : rty K j = k) (h9 : k < 9999) : kd (gR μ q j) = k := hw q j k (by rw [hk]; exact hr) h9
theorem Ex_top {x : Int32} {kf : Int32 → Option α} (kk : ∀ y, Ex a0 own cb nL rt dp sc ι pc L (.int y :: st) μ (kf y)) : Ex a0 own cb nL rt dp sc ι pc L (.int x :: st) μ (lt x kf) := kk x
theorem Ex_get {idx ci k q : Nat} {v : Value} (hf : FG own idx ci k) (hk : kd q = ci) (hc : ci < 1000) (hv : (fl a0 μ q ci)[k]? = some v) (d : decode cb pc = .ok (.getfield idx, 3)) (kk : Ex a0 own cb nL rt dp sc ι (pc + 3) L (v :: st) μ o) : Ex a0 own cb nL rt dp sc ι pc L (.ref (a0 + q) :: st) μ o := by
  intro r hr p l e R s m args below meth c cells slots Q cy D C K H locs ls hW hS hl
  obtain ⟨CC, T, N, h1, h2, h3⟩ := hf
  have he := wsM_get (a0 := a0) (cy := cy) (μ := μ) hk (by omega)
  rw [ent_ob hc] at he
  have kk := kk r hr p l e R s m args below meth c cells slots Q cy D C K H locs ls hW hS hl
  rcases h3 with h3 | ⟨host, h3⟩
  · exact va_get C.1 C.2.1 C.2.2.2.2.1 (cl_ok ci _ h1).1 C.2.2.2.1 C.2.2.2.2.2.2.1 hW.1 q he h1 k h2 (C.2.2.2.2.1 _ h3) (fun x h => h) hv d kk
  · exact va_getN C.1 C.2.1 C.2.2.2.2.1 (cl_ok ci _ h1).1 C.2.2.2.1 C.2.2.2.2.2.2.1 hW.1 q he h1 k h2 (va_Nw.use rfl (C.2.2.2.2.2.1 _ h3)) (fun x h => h) hv d kk
theorem Ex_put {idx ci k q : Nat} {ty : FieldType} {v : Value} {μ2 : Mem} (hf : FG own idx ci k) (hp : FP ci k ty) (hk : kd q = ci) (hc : ci < 1000) (hn : narrow ty v = v) (hfit : fits ty v = true) (hlen : k < (fl a0 μ q ci).length) (hs : fl a0 μ2 q ci = (fl a0 μ q ci).set k v) (ho : ∀ a, a ≠ q → (∀ j, gI μ2 a j = gI μ a j) ∧ (∀ j, gR μ2 a j = gR μ a j) ∧ gL μ2 a = gL μ a) (hwt : WT μ → WT μ2) (d : decode cb pc = .ok (.putfield idx, 3)) (kk : Ex a0 own cb nL rt dp sc ι (pc + 3) L st μ2 o) : Ex a0 own cb nL rt dp sc ι pc L (v :: .ref (a0 + q) :: st) μ o := by
  intro r hr p l e R s m args below meth c cells slots Q cy D C K H locs ls hW hS hl
  obtain ⟨CC, T, N, h1, h2, h3⟩ := hf
  obtain ⟨CC', T', N', h1', hfin, hd⟩ := hp
  cases h1.symm.trans h1'
  have he := wsM_get (a0 := a0) (cy := cy) (μ := μ) hk (by omega)
  rw [ent_ob hc] at he
  obtain ⟨hin, ⟨ty0, hty⟩, hnm⟩ := cl_ok ci _ h1
  have hset : (wsM a0 cy μ).set q (a0 + q, .inr (ci, (fl a0 μ q ci).set k v)) = wsM a0 cy μ2 := wsM_set hk (by rw [ent_ob hc, hs]) ho
  have kk : ∀ (H1 : Heap) (locs1 : List Loc), va_P D vwCl ((wsM a0 cy μ).set q (a0 + q, .inr (ci, (fl a0 μ q ci).set k v))) H1 → va_D (fun q => a0 ≤ q) ((wsM a0 cy μ).set q (a0 + q, .inr (ci, (fl a0 μ q ci).set k v))) → va_S (fun q => a0 ≤ q) s.heap H1 locs1 → W p l e R s m args below meth c H1 locs1 cells slots Q (F0 m (pc + 3) ls st) := by
    intro H1 locs1 hP1 _ hS1
    rw [hset] at hP1
    exact kk r hr p l e R s m args below meth c cells slots Q cy D C K H1 locs1 ls ⟨hP1, hwt hW.2⟩ hS1 hl
  rcases h3 with h3 | ⟨host, h3⟩
  · exact va_put C.1 C.2.1 C.2.2.2.2.1 hin ty0 hty hnm C.2.2.2.1 C.2.2.2.2.2.2.1 hW.1 mapW_D hS q he h1 k h2 (C.2.2.2.2.1 _ h3) (fun x h => h) hfin hd hn hfit hlen d kk
  · exact va_putN C.1 C.2.1 C.2.2.2.2.1 hin ty0 hty hnm C.2.2.2.1 C.2.2.2.2.2.2.1 hW.1 mapW_D hS q he h1 k h2 (va_Nw.use rfl (C.2.2.2.2.2.1 _ h3)) (fun x h => h) hfin hd hn hfit hlen d kk
theorem Ex_putI {idx ci k q : Nat} {ty : FieldType} {x : Int32} {kf : Mem → Option α} (hf : FG own idx ci k) (hp : FP ci k ty) (hk : kd q = ci) (hc : ci < 1000) (hn : narrow ty (.int x) = .int x) (hfit : fits ty (.int x) = true) (hlen : k < (fl a0 μ q ci).length) (hs : fl a0 (sI μ q k x) q ci = (fl a0 μ q ci).set k (.int x)) (d : decode cb pc = .ok (.putfield idx, 3)) (kk : ∀ μ1, Ex a0 own cb nL rt dp sc ι (pc + 3) L st μ1 (kf μ1)) : Ex a0 own cb nL rt dp sc ι pc L (.int x :: .ref (a0 + q) :: st) μ (lt (sI μ q k x) kf) :=
  Ex_put hf hp hk hc hn hfit hlen hs sI_off WT_sI d (kk _)
theorem Ex_putL {idx ci k q : Nat} {ty : FieldType} {x : Int64} {kf : Mem → Option α} (hf : FG own idx ci k) (hp : FP ci k ty) (hk : kd q = ci) (hc : ci < 1000) (hn : narrow ty (.long x) = .long x) (hfit : fits ty (.long x) = true) (hlen : k < (fl a0 μ q ci).length) (hs : fl a0 (sL μ q x) q ci = (fl a0 μ q ci).set k (.long x)) (d : decode cb pc = .ok (.putfield idx, 3)) (kk : ∀ μ1, Ex a0 own cb nL rt dp sc ι (pc + 3) L st μ1 (kf μ1)) : Ex a0 own cb nL rt dp sc ι pc L (.long x :: .ref (a0 + q) :: st) μ (lt (sL μ q x) kf) :=
  Ex_put hf hp hk hc hn hfit hlen hs sL_off WT_sL d (kk _)
theorem Ex_putR {idx ci k q v : Nat} {ty : FieldType} {kf : Mem → Option α} (hf : FG own idx ci k) (hp : FP ci k ty) (hk : kd q = ci) (hv : kd v = rty ci k) (hc : ci < 1000) (hn : narrow ty (.ref (a0 + v)) = .ref (a0 + v)) (hfit : fits ty (.ref (a0 + v)) = true) (hlen : k < (fl a0 μ q ci).length) (hs : fl a0 (sR μ q k v) q ci = (fl a0 μ q ci).set k (.ref (a0 + v))) (d : decode cb pc = .ok (.putfield idx, 3)) (kk : ∀ μ1, Ex a0 own cb nL rt dp sc ι (pc + 3) L st μ1 (kf μ1)) : Ex a0 own cb nL rt dp sc ι pc L (.ref (a0 + v) :: .ref (a0 + q) :: st) μ (lt (sR μ q k v) kf) :=
  Ex_put hf hp hk hc hn hfit hlen hs sR_off (fun h => WT_sR h (by rw [hk]; exact hv)) d (kk _)
theorem Ex_iald {q : Nat} (n : Nat) {i : Int32} (hk : kd q = 1000 + n) (hn : n < 1000) (d : decode cb pc = .ok (.iaload, 1)) (kk : Ex a0 own cb nL rt dp sc ι (pc + 1) L (.int (gI μ q (i.toNatClampNeg)) :: st) μ o) : Ex a0 own cb nL rt dp sc ι pc L (.int i :: .ref (a0 + q) :: st) μ (if ix i n = true then o else none) := by
  intro r hr p l e R s m args below meth c cells slots Q cy D C K H locs ls hW hS hl
  have he := wsM_get (a0 := a0) (cy := cy) (μ := μ) hk (by omega)
  rw [ent_I hn] at he
  by_cases hi : ix i n = true
  · rw [if_pos hi] at hr
    exact va_iald C.1 C.2.1 C.2.2.2.2.2.2.1 hW.1 q 1 he rfl (ix_in hi) d (kk r hr p l e R s m args below meth c cells slots Q cy D C K H locs ls hW hS hl)
  · rw [if_neg hi] at hr; cases hr
theorem Ex_ialdC {q : Nat} {j : Nat} (n : Nat) {i : Int32} (hk : kd q = 1000 + n) (hn : n < 1000) (hi : ix i n = true) (hj : i.toNatClampNeg = j) (d : decode cb pc = .ok (.iaload, 1)) (kk : Ex a0 own cb nL rt dp sc ι (pc + 1) L (.int (gI μ q (j)) :: st) μ o) : Ex a0 own cb nL rt dp sc ι pc L (.int i :: .ref (a0 + q) :: st) μ o := by
  intro r hr p l e R s m args below meth c cells slots Q cy D C K H locs ls hW hS hl
  have he := wsM_get (a0 := a0) (cy := cy) (μ := μ) hk (by omega)
  rw [ent_I hn] at he
  subst hj
  exact va_iald C.1 C.2.1 C.2.2.2.2.2.2.1 hW.1 q 1 he rfl (ix_in hi) d (kk r hr p l e R s m args below meth c cells slots Q cy D C K H locs ls hW hS hl)
theorem Ex_zald {q : Nat} (n : Nat) {i : Int32} (hk : kd q = 2000 + n) (hn : n < 1000) (d : decode cb pc = .ok (.baload, 1)) (kk : Ex a0 own cb nL rt dp sc ι (pc + 1) L (.int (gI μ q (i.toNatClampNeg)) :: st) μ o) : Ex a0 own cb nL rt dp sc ι pc L (.int i :: .ref (a0 + q) :: st) μ (if ix i n = true then o else none) := by
  intro r hr p l e R s m args below meth c cells slots Q cy D C K H locs ls hW hS hl
  have he := wsM_get (a0 := a0) (cy := cy) (μ := μ) hk (by omega)
  rw [ent_Z hn] at he
  by_cases hi : ix i n = true
  · rw [if_pos hi] at hr
    exact va_zald C.1 C.2.1 C.2.2.2.2.2.2.1 hW.1 q 2 he rfl (ix_in hi) d (kk r hr p l e R s m args below meth c cells slots Q cy D C K H locs ls hW hS hl)
  · rw [if_neg hi] at hr; cases hr
theorem Ex_zaldC {q : Nat} {j : Nat} (n : Nat) {i : Int32} (hk : kd q = 2000 + n) (hn : n < 1000) (hi : ix i n = true) (hj : i.toNatClampNeg = j) (d : decode cb pc = .ok (.baload, 1)) (kk : Ex a0 own cb nL rt dp sc ι (pc + 1) L (.int (gI μ q (j)) :: st) μ o) : Ex a0 own cb nL rt dp sc ι pc L (.int i :: .ref (a0 + q) :: st) μ o := by
  intro r hr p l e R s m args below meth c cells slots Q cy D C K H locs ls hW hS hl
  have he := wsM_get (a0 := a0) (cy := cy) (μ := μ) hk (by omega)
  rw [ent_Z hn] at he
  subst hj
  exact va_zald C.1 C.2.1 C.2.2.2.2.2.2.1 hW.1 q 2 he rfl (ix_in hi) d (kk r hr p l e R s m args below meth c cells slots Q cy D C K H locs ls hW hS hl)
theorem Ex_bald {q : Nat} (n : Nat) {i : Int32} (hk : kd q = 3000 + n) (hn : n < 1000) (d : decode cb pc = .ok (.baload, 1)) (kk : Ex a0 own cb nL rt dp sc ι (pc + 1) L (.int (gI μ q (i.toNatClampNeg)) :: st) μ o) : Ex a0 own cb nL rt dp sc ι pc L (.int i :: .ref (a0 + q) :: st) μ (if ix i n = true then o else none) := by
  intro r hr p l e R s m args below meth c cells slots Q cy D C K H locs ls hW hS hl
  have he := wsM_get (a0 := a0) (cy := cy) (μ := μ) hk (by omega)
  rw [ent_B hn] at he
  by_cases hi : ix i n = true
  · rw [if_pos hi] at hr
    exact va_bald C.1 C.2.1 C.2.2.2.2.2.2.1 hW.1 q 0 he rfl (ix_in hi) d (kk r hr p l e R s m args below meth c cells slots Q cy D C K H locs ls hW hS hl)
  · rw [if_neg hi] at hr; cases hr
theorem Ex_baldC {q : Nat} {j : Nat} (n : Nat) {i : Int32} (hk : kd q = 3000 + n) (hn : n < 1000) (hi : ix i n = true) (hj : i.toNatClampNeg = j) (d : decode cb pc = .ok (.baload, 1)) (kk : Ex a0 own cb nL rt dp sc ι (pc + 1) L (.int (gI μ q (j)) :: st) μ o) : Ex a0 own cb nL rt dp sc ι pc L (.int i :: .ref (a0 + q) :: st) μ o := by
  intro r hr p l e R s m args below meth c cells slots Q cy D C K H locs ls hW hS hl
  have he := wsM_get (a0 := a0) (cy := cy) (μ := μ) hk (by omega)
  rw [ent_B hn] at he
  subst hj
  exact va_bald C.1 C.2.1 C.2.2.2.2.2.2.1 hW.1 q 0 he rfl (ix_in hi) d (kk r hr p l e R s m args below meth c cells slots Q cy D C K H locs ls hW hS hl)
theorem Ex_cald {q : Nat} (n : Nat) {i : Int32} (hk : kd q = 4000 + n) (hn : n < 1000) (d : decode cb pc = .ok (.aaload, 1)) (kk : Ex a0 own cb nL rt dp sc ι (pc + 1) L (.ref (a0 + gR μ q (i.toNatClampNeg)) :: st) μ o) : Ex a0 own cb nL rt dp sc ι pc L (.int i :: .ref (a0 + q) :: st) μ (if ix i n = true then o else none) := by
  intro r hr p l e R s m args below meth c cells slots Q cy D C K H locs ls hW hS hl
  have he := wsM_get (a0 := a0) (cy := cy) (μ := μ) hk (by omega)
  rw [ent_C hn] at he
  by_cases hi : ix i n = true
  · rw [if_pos hi] at hr
    exact va_aldq C.1 C.2.1 C.2.2.2.2.2.2.1 hW.1 q 3 he rfl (ix_in hi) d (kk r hr p l e R s m args below meth c cells slots Q cy D C K H locs ls hW hS hl)
  · rw [if_neg hi] at hr; cases hr
theorem Ex_caldC {q : Nat} {j : Nat} (n : Nat) {i : Int32} (hk : kd q = 4000 + n) (hn : n < 1000) (hi : ix i n = true) (hj : i.toNatClampNeg = j) (d : decode cb pc = .ok (.aaload, 1)) (kk : Ex a0 own cb nL rt dp sc ι (pc + 1) L (.ref (a0 + gR μ q (j)) :: st) μ o) : Ex a0 own cb nL rt dp sc ι pc L (.int i :: .ref (a0 + q) :: st) μ o := by
  intro r hr p l e R s m args below meth c cells slots Q cy D C K H locs ls hW hS hl
  have he := wsM_get (a0 := a0) (cy := cy) (μ := μ) hk (by omega)
  rw [ent_C hn] at he
  subst hj
  exact va_aldq C.1 C.2.1 C.2.2.2.2.2.2.1 hW.1 q 3 he rfl (ix_in hi) d (kk r hr p l e R s m args below meth c cells slots Q cy D C K H locs ls hW hS hl)
theorem Ex_mald {q : Nat} (n : Nat) {i : Int32} (hk : kd q = 5000 + n) (hn : n < 1000) (d : decode cb pc = .ok (.aaload, 1)) (kk : Ex a0 own cb nL rt dp sc ι (pc + 1) L (.ref (a0 + gR μ q (i.toNatClampNeg)) :: st) μ o) : Ex a0 own cb nL rt dp sc ι pc L (.int i :: .ref (a0 + q) :: st) μ (if ix i n = true then o else none) := by
  intro r hr p l e R s m args below meth c cells slots Q cy D C K H locs ls hW hS hl
  have he := wsM_get (a0 := a0) (cy := cy) (μ := μ) hk (by omega)
  rw [ent_M hn] at he
  by_cases hi : ix i n = true
  · rw [if_pos hi] at hr
    exact va_aldq C.1 C.2.1 C.2.2.2.2.2.2.1 hW.1 q 4 he rfl (ix_in hi) d (kk r hr p l e R s m args below meth c cells slots Q cy D C K H locs ls hW hS hl)
  · rw [if_neg hi] at hr; cases hr
theorem Ex_maldC {q : Nat} {j : Nat} (n : Nat) {i : Int32} (hk : kd q = 5000 + n) (hn : n < 1000) (hi : ix i n = true) (hj : i.toNatClampNeg = j) (d : decode cb pc = .ok (.aaload, 1)) (kk : Ex a0 own cb nL rt dp sc ι (pc + 1) L (.ref (a0 + gR μ q (j)) :: st) μ o) : Ex a0 own cb nL rt dp sc ι pc L (.int i :: .ref (a0 + q) :: st) μ o := by
  intro r hr p l e R s m args below meth c cells slots Q cy D C K H locs ls hW hS hl
  have he := wsM_get (a0 := a0) (cy := cy) (μ := μ) hk (by omega)
  rw [ent_M hn] at he
  subst hj
  exact va_aldq C.1 C.2.1 C.2.2.2.2.2.2.1 hW.1 q 4 he rfl (ix_in hi) d (kk r hr p l e R s m args below meth c cells slots Q cy D C K H locs ls hW hS hl)
theorem Ex_iast {q : Nat} (n : Nat) {i x : Int32} {kf : Mem → Option α} (hk : kd q = 1000 + n) (hn : n < 1000) (d : decode cb pc = .ok (.iastore, 1)) (kk : ∀ μ1, Ex a0 own cb nL rt dp sc ι (pc + 1) L st μ1 (kf μ1)) : Ex a0 own cb nL rt dp sc ι pc L (.int x :: .int i :: .ref (a0 + q) :: st) μ ((if ix i n = true then lt (sI μ q (i.toNatClampNeg) (x)) kf else none)) := by
  intro r hr p l e R s m args below meth c cells slots Q cy D C K H locs ls hW hS hl
  have he := wsM_get (a0 := a0) (cy := cy) (μ := μ) hk (by omega)
  rw [ent_I hn] at he
  by_cases hi : ix i n = true
  case neg => rw [if_neg hi] at hr; cases hr
  rw [if_pos hi] at hr
  have hset : (wsM a0 cy μ).set q (a0 + q, .inl (cy 1, n, .inl (upd (gI μ q) i.toNatClampNeg (x)))) = wsM a0 cy (sI μ q i.toNatClampNeg (x)) := wsM_set hk (by rw [ent_I hn, upd_sI]) sI_off
  refine va_iast C.1 C.2.1 C.2.2.2.2.2.2.1 hW.1 mapW_D hS q 1 he rfl (ix_in hi) d (fun H1 locs1 hP1 _ hS1 => ?_)
  rw [hset] at hP1
  exact kk _ r hr p l e R s m args below meth c cells slots Q cy D C K H1 locs1 ls ⟨hP1, WT_sI hW.2⟩ hS1 hl
theorem Ex_iastC {q : Nat} {j : Nat} (n : Nat) {i x : Int32} {kf : Mem → Option α} (hk : kd q = 1000 + n) (hn : n < 1000) (hi : ix i n = true) (hj : i.toNatClampNeg = j) (d : decode cb pc = .ok (.iastore, 1)) (kk : ∀ μ1, Ex a0 own cb nL rt dp sc ι (pc + 1) L st μ1 (kf μ1)) : Ex a0 own cb nL rt dp sc ι pc L (.int x :: .int i :: .ref (a0 + q) :: st) μ (lt (sI μ q (j) (x)) kf) := by
  intro r hr p l e R s m args below meth c cells slots Q cy D C K H locs ls hW hS hl
  have he := wsM_get (a0 := a0) (cy := cy) (μ := μ) hk (by omega)
  rw [ent_I hn] at he
  subst hj
  have hset : (wsM a0 cy μ).set q (a0 + q, .inl (cy 1, n, .inl (upd (gI μ q) i.toNatClampNeg (x)))) = wsM a0 cy (sI μ q i.toNatClampNeg (x)) := wsM_set hk (by rw [ent_I hn, upd_sI]) sI_off
  refine va_iast C.1 C.2.1 C.2.2.2.2.2.2.1 hW.1 mapW_D hS q 1 he rfl (ix_in hi) d (fun H1 locs1 hP1 _ hS1 => ?_)
  rw [hset] at hP1
  exact kk _ r hr p l e R s m args below meth c cells slots Q cy D C K H1 locs1 ls ⟨hP1, WT_sI hW.2⟩ hS1 hl
theorem Ex_zast {q : Nat} (n : Nat) {i x : Int32} {kf : Mem → Option α} (hk : kd q = 2000 + n) (hn : n < 1000) (d : decode cb pc = .ok (.bastore, 1)) (kk : ∀ μ1, Ex a0 own cb nL rt dp sc ι (pc + 1) L st μ1 (kf μ1)) : Ex a0 own cb nL rt dp sc ι pc L (.int x :: .int i :: .ref (a0 + q) :: st) μ ((if ix i n = true then lt (sI μ q (i.toNatClampNeg) (vp_nar .boolean x)) kf else none)) := by
  intro r hr p l e R s m args below meth c cells slots Q cy D C K H locs ls hW hS hl
  have he := wsM_get (a0 := a0) (cy := cy) (μ := μ) hk (by omega)
  rw [ent_Z hn] at he
  by_cases hi : ix i n = true
  case neg => rw [if_neg hi] at hr; cases hr
  rw [if_pos hi] at hr
  have hset : (wsM a0 cy μ).set q (a0 + q, .inl (cy 2, n, .inl (upd (gI μ q) i.toNatClampNeg (vp_nar .boolean x)))) = wsM a0 cy (sI μ q i.toNatClampNeg (vp_nar .boolean x)) := wsM_set hk (by rw [ent_Z hn, upd_sI]) sI_off
  refine va_zast C.1 C.2.1 C.2.2.2.2.2.2.1 hW.1 mapW_D hS q 2 he rfl (ix_in hi) d (fun H1 locs1 hP1 _ hS1 => ?_)
  rw [hset] at hP1
  exact kk _ r hr p l e R s m args below meth c cells slots Q cy D C K H1 locs1 ls ⟨hP1, WT_sI hW.2⟩ hS1 hl
theorem Ex_zastC {q : Nat} {j : Nat} (n : Nat) {i x : Int32} {kf : Mem → Option α} (hk : kd q = 2000 + n) (hn : n < 1000) (hi : ix i n = true) (hj : i.toNatClampNeg = j) (d : decode cb pc = .ok (.bastore, 1)) (kk : ∀ μ1, Ex a0 own cb nL rt dp sc ι (pc + 1) L st μ1 (kf μ1)) : Ex a0 own cb nL rt dp sc ι pc L (.int x :: .int i :: .ref (a0 + q) :: st) μ (lt (sI μ q (j) (vp_nar .boolean x)) kf) := by
  intro r hr p l e R s m args below meth c cells slots Q cy D C K H locs ls hW hS hl
  have he := wsM_get (a0 := a0) (cy := cy) (μ := μ) hk (by omega)
  rw [ent_Z hn] at he
  subst hj
  have hset : (wsM a0 cy μ).set q (a0 + q, .inl (cy 2, n, .inl (upd (gI μ q) i.toNatClampNeg (vp_nar .boolean x)))) = wsM a0 cy (sI μ q i.toNatClampNeg (vp_nar .boolean x)) := wsM_set hk (by rw [ent_Z hn, upd_sI]) sI_off
  refine va_zast C.1 C.2.1 C.2.2.2.2.2.2.1 hW.1 mapW_D hS q 2 he rfl (ix_in hi) d (fun H1 locs1 hP1 _ hS1 => ?_)
  rw [hset] at hP1
  exact kk _ r hr p l e R s m args below meth c cells slots Q cy D C K H1 locs1 ls ⟨hP1, WT_sI hW.2⟩ hS1 hl
theorem Ex_bast {q : Nat} (n : Nat) {i x : Int32} {kf : Mem → Option α} (hk : kd q = 3000 + n) (hn : n < 1000) (d : decode cb pc = .ok (.bastore, 1)) (kk : ∀ μ1, Ex a0 own cb nL rt dp sc ι (pc + 1) L st μ1 (kf μ1)) : Ex a0 own cb nL rt dp sc ι pc L (.int x :: .int i :: .ref (a0 + q) :: st) μ ((if ix i n = true then lt (sI μ q (i.toNatClampNeg) (vp_nar .byte x)) kf else none)) := by
  intro r hr p l e R s m args below meth c cells slots Q cy D C K H locs ls hW hS hl
  have he := wsM_get (a0 := a0) (cy := cy) (μ := μ) hk (by omega)
  rw [ent_B hn] at he
  by_cases hi : ix i n = true
  case neg => rw [if_neg hi] at hr; cases hr
  rw [if_pos hi] at hr
  have hset : (wsM a0 cy μ).set q (a0 + q, .inl (cy 0, n, .inl (upd (gI μ q) i.toNatClampNeg (vp_nar .byte x)))) = wsM a0 cy (sI μ q i.toNatClampNeg (vp_nar .byte x)) := wsM_set hk (by rw [ent_B hn, upd_sI]) sI_off
  refine va_bast C.1 C.2.1 C.2.2.2.2.2.2.1 hW.1 mapW_D hS q 0 he rfl (ix_in hi) d (fun H1 locs1 hP1 _ hS1 => ?_)
  rw [hset] at hP1
  exact kk _ r hr p l e R s m args below meth c cells slots Q cy D C K H1 locs1 ls ⟨hP1, WT_sI hW.2⟩ hS1 hl
theorem Ex_bastC {q : Nat} {j : Nat} (n : Nat) {i x : Int32} {kf : Mem → Option α} (hk : kd q = 3000 + n) (hn : n < 1000) (hi : ix i n = true) (hj : i.toNatClampNeg = j) (d : decode cb pc = .ok (.bastore, 1)) (kk : ∀ μ1, Ex a0 own cb nL rt dp sc ι (pc + 1) L st μ1 (kf μ1)) : Ex a0 own cb nL rt dp sc ι pc L (.int x :: .int i :: .ref (a0 + q) :: st) μ (lt (sI μ q (j) (vp_nar .byte x)) kf) := by
  intro r hr p l e R s m args below meth c cells slots Q cy D C K H locs ls hW hS hl
  have he := wsM_get (a0 := a0) (cy := cy) (μ := μ) hk (by omega)
  rw [ent_B hn] at he
  subst hj
  have hset : (wsM a0 cy μ).set q (a0 + q, .inl (cy 0, n, .inl (upd (gI μ q) i.toNatClampNeg (vp_nar .byte x)))) = wsM a0 cy (sI μ q i.toNatClampNeg (vp_nar .byte x)) := wsM_set hk (by rw [ent_B hn, upd_sI]) sI_off
  refine va_bast C.1 C.2.1 C.2.2.2.2.2.2.1 hW.1 mapW_D hS q 0 he rfl (ix_in hi) d (fun H1 locs1 hP1 _ hS1 => ?_)
  rw [hset] at hP1
  exact kk _ r hr p l e R s m args below meth c cells slots Q cy D C K H1 locs1 ls ⟨hP1, WT_sI hW.2⟩ hS1 hl
theorem Ex_mast {q v : Nat} (n : Nat) {i : Int32} {kf : Mem → Option α} (hk : kd q = 5000 + n) (hn : n < 1000) (hv : kd v = 3) (hr2 : ∀ j : Nat, j < n → rty (5000 + n) j = 3) (d : decode cb pc = .ok (.aastore, 1)) (kk : ∀ μ1, Ex a0 own cb nL rt dp sc ι (pc + 1) L st μ1 (kf μ1)) : Ex a0 own cb nL rt dp sc ι pc L (.ref (a0 + v) :: .int i :: .ref (a0 + q) :: st) μ ((if ix i n = true then lt (sR μ q (i.toNatClampNeg) v) kf else none)) := by
  intro r hr p l e R s m args below meth c cells slots Q cy D C K H locs ls hW hS hl
  have he := wsM_get (a0 := a0) (cy := cy) (μ := μ) hk (by omega)
  rw [ent_M hn] at he
  have hev := wsM_get (a0 := a0) (cy := cy) (μ := μ) hv (by omega)
  rw [ent_ob (by omega)] at hev
  by_cases hi : ix i n = true
  case neg => rw [if_neg hi] at hr; cases hr
  rw [if_pos hi] at hr
  have hlt : i.toNatClampNeg < n := Nat.not_le.mp fun z => ix_in hi (Or.inr z)
  have hset : (wsM a0 cy μ).set q (a0 + q, .inl (cy 4, n, .inr (.inr (.inr (.inr (va_up (fun j => some (a0 + gR μ q j)) i.toNatClampNeg (some (a0 + v)))))))) = wsM a0 cy (sR μ q i.toNatClampNeg v) := wsM_set hk (by rw [ent_M hn, up_sR]) sR_off
  refine va_astq C.1 C.2.1 C.2.2.2.2.2.2.1 hW.1 mapW_D hS q 4 v 3 he rfl hev rfl (ix_in hi) d (fun H1 locs1 hP1 _ hS1 => ?_)
  rw [hset] at hP1
  exact kk _ r hr p l e R s m args below meth c cells slots Q cy D C K H1 locs1 ls ⟨hP1, WT_sR hW.2 (by rw [hk, hr2 _ hlt]; exact hv)⟩ hS1 hl
theorem Ex_mastC {q v : Nat} {j : Nat} (n : Nat) {i : Int32} {kf : Mem → Option α} (hk : kd q = 5000 + n) (hn : n < 1000) (hv : kd v = 3) (hr2 : ∀ j : Nat, j < n → rty (5000 + n) j = 3) (hi : ix i n = true) (hj : i.toNatClampNeg = j) (d : decode cb pc = .ok (.aastore, 1)) (kk : ∀ μ1, Ex a0 own cb nL rt dp sc ι (pc + 1) L st μ1 (kf μ1)) : Ex a0 own cb nL rt dp sc ι pc L (.ref (a0 + v) :: .int i :: .ref (a0 + q) :: st) μ (lt (sR μ q (j) v) kf) := by
  intro r hr p l e R s m args below meth c cells slots Q cy D C K H locs ls hW hS hl
  have he := wsM_get (a0 := a0) (cy := cy) (μ := μ) hk (by omega)
  rw [ent_M hn] at he
  have hev := wsM_get (a0 := a0) (cy := cy) (μ := μ) hv (by omega)
  rw [ent_ob (by omega)] at hev
  subst hj
  have hlt : i.toNatClampNeg < n := Nat.not_le.mp fun z => ix_in hi (Or.inr z)
  have hset : (wsM a0 cy μ).set q (a0 + q, .inl (cy 4, n, .inr (.inr (.inr (.inr (va_up (fun j => some (a0 + gR μ q j)) i.toNatClampNeg (some (a0 + v)))))))) = wsM a0 cy (sR μ q i.toNatClampNeg v) := wsM_set hk (by rw [ent_M hn, up_sR]) sR_off
  refine va_astq C.1 C.2.1 C.2.2.2.2.2.2.1 hW.1 mapW_D hS q 4 v 3 he rfl hev rfl (ix_in hi) d (fun H1 locs1 hP1 _ hS1 => ?_)
  rw [hset] at hP1
  exact kk _ r hr p l e R s m args below meth c cells slots Q cy D C K H1 locs1 ls ⟨hP1, WT_sR hW.2 (by rw [hk, hr2 _ hlt]; exact hv)⟩ hS1 hl
theorem Ex_sld {b Lb : Nat} {xs : Nat → Int32} {i : Int32} (hsc : sc = some (b, Lb, xs)) (d : decode cb pc = .ok (.iaload, 1)) (kk : Ex a0 own cb nL rt dp sc ι (pc + 1) L (.int (xs i.toNatClampNeg) :: st) μ o) : Ex a0 own cb nL rt dp sc ι pc L (.int i :: .ref b :: st) μ (if ix i Lb = true then o else none) := by
  intro r hr p l e R s m args below meth c cells slots Q cy D C K H locs ls hW hS hl
  by_cases hi : ix i Lb = true
  · rw [if_pos hi] at hr
    obtain ⟨h1, h2, h3⟩ := C.2.2.2.2.2.2.2.2 b Lb xs hsc
    exact va_sld C.1 C.2.1 h1 h2 (by omega) hS (ix_in hi) d (kk r hr p l e R s m args below meth c cells slots Q cy D C K H locs ls hW hS hl)
  · rw [if_neg hi] at hr; cases hr
theorem Ex_slen {b Lb : Nat} {xs : Nat → Int32} (hsc : sc = some (b, Lb, xs)) (d : decode cb pc = .ok (.arraylength, 1)) (kk : Ex a0 own cb nL rt dp sc ι (pc + 1) L (.int (Int32.ofNat Lb) :: st) μ o) : Ex a0 own cb nL rt dp sc ι pc L (.ref b :: st) μ o := by
  intro r hr p l e R s m args below meth c cells slots Q cy D C K H locs ls hW hS hl
  obtain ⟨h1, h2, h3⟩ := C.2.2.2.2.2.2.2.2 b Lb xs hsc
  exact va_slen C.1 C.2.1 h1 h2 (by omega) hS d (kk r hr p l e R s m args below meth c cells slots Q cy D C K H locs ls hW hS hl)
theorem Ex_run {p : Program} {l : Launch} {e : Env} {R : Room} {s : State} {m : MethodId} {args : Array Value} {below : List Frame} {meth : Method} {c : Code} {H : Heap} {locs : List Loc} {cells slots : Nat} {Q : State → Prop} {cy : Nat → ClassId} {D : va_G} {ls : Array Slot} {st0 : List Value} {rv : Option Value} {μ2 : Mem} {a : Array Value}
    (hr : va_Run p l e R s m args below meth c H locs cells slots 0 0 (F0 m pc ls st0) st (Qd a0 cy D rv μ2 a) (fun q => a0 ≤ q)) (hS : va_S (fun q => a0 ≤ q) s.heap H locs)
    (kk : ∀ (H1 : Heap) (locs1 : List Loc), Wd a0 cy D μ2 H1 → va_S (fun q => a0 ≤ q) s.heap H1 locs1 → W p l e R s m args below meth c H1 locs1 cells slots Q (F0 m (pc + 3) ls (rv.toList ++ st))) : W p l e R s m args below meth c H locs cells slots Q (F0 m pc ls st0) := by
  intro T hT X
  obtain ⟨v, st₀, t, T', LL, h0, X', hL, e1, e2, ⟨⟨hv, hWd⟩, hz, hk⟩, stp⟩ := hr T hT X
  cases hv
  rw [h0] at hz hk
  rw [← e1] at hWd hz hk
  obtain ⟨t2, a1, b1⟩ := kk T'.heap (locs ++ LL) hWd ⟨Nat.le_trans hS.1 hz, fun q h1 h2 => (hk q (Nat.lt_of_lt_of_le h1 hS.1) h2).trans (hS.2.1 q h1 h2), fun q hq => (List.mem_append.mp hq).elim (hS.2.2 q) (hL q)⟩ T' rfl X'
  exact ⟨t2, stp t2 a1, b1⟩
theorem Ex_callV {idx ci q n nL2 dp2 : Nat} {y : MethodName} {cb2 : ByteArray} {rt2 : Option FieldType} {As st0 : List Value} {rv : Option Value} {μ2 : Mem} (cv : CV own idx y cb2 nL2 rt2 n) (hk : kd q = ci) (hcl : (vwCl[ci]?).map (fun q => q.1) = some y.cls) (hn : As.length = n) (hd : dp2 < dp) (hm : nL2 ≤ 21) (hrest : (st.map fun v => v.category).sum ≤ 8) (hst : st0 = As.reverse ++ .ref (a0 + q) :: st) (hC : Ct a0 y cb2 nL2 rt2 dp2 (.ref (a0 + q) :: As) μ rv μ2) (d : decode cb pc = .ok (.invokevirtual idx, 3)) (kk : Ex a0 own cb nL rt dp sc ι (pc + 3) L (rv.toList ++ st) μ2 o) : Ex a0 own cb nL rt dp sc ι pc L st0 μ o := by
  intro r hr p l e R s m args below meth c cells slots Q cy D C K H locs ls hW hS hl
  obtain ⟨w1, w2, w3, w4, w5, w6⟩ := cv
  obtain ⟨hx, hb, hml, hown, hts, hnw, hK, ⟨r1, r2, r3, r4⟩, hsc⟩ := id C
  obtain ⟨⟨CC, T, N⟩, hci, hcn⟩ : ∃ q, vwCl[ci]? = some q ∧ q.1 = y.cls := by
    cases h : vwCl[ci]? with
    | none => rw [h] at hcl; cases hcl
    | some q => rw [h] at hcl; exact ⟨q, rfl, Option.some.inj hcl⟩
  have hci10 : ci < 10 := (List.getElem?_eq_some_iff.mp hci).1
  have he := wsM_get (a0 := a0) (cy := cy) (μ := μ) hk (by omega)
  rw [ent_ob (by omega)] at he
  have hrv := va_recv hK hW.1 hci he
  rw [hcn] at hrv
  have hG : GoodIn gT (wsV own idx y.cls y (.code y cb2 nL2 rt2 :: gT)) := by
    intro w hw
    have : w ∈ gT := by
      simp only [wsV, List.cons_append, List.nil_append, List.mem_cons] at hw
      rcases hw with rfl | rfl | rfl | rfl | rfl | hw <;> assumption
    exact gT_self w this
  exact Ex_run (va_runV (As := As) (rest := st) ⟨hx, hb, hml, hown, hts⟩ (hC l cy D) (cwV n hts hG rfl rfl rfl ⟨rfl, w6⟩ ⟨by show dp2 + 1 ≤ R.frames; omega, by show 8 + (nL2 + 11) + (40 * dp2 + 13) ≤ R.locals; omega⟩) ⟨Qd_pre, hrv, fun U hU hWm => ⟨rfl, by rw [hU]; exact hW, va_K.moved hWm.alike hK, nT_warm hWm hnw⟩⟩ rfl hn hl.1 hst (lv_room hrest) d ⟨r3, r4⟩) hS (fun H1 locs1 hW1 hS1 => kk r hr p l e R s m args below meth c cells slots Q cy D C K H1 locs1 ls hW1 hS1 hl)
theorem Ex_callS {idx n nL2 dp2 : Nat} {y : MethodName} {cb2 : ByteArray} {rt2 : Option FieldType} {As st0 : List Value} {rv : Option Value} {μ2 : Mem} (cv : CS own idx y cb2 nL2 rt2 n) (hn : As.length = n) (hd : dp2 < dp) (hm : nL2 ≤ 21) (hrest : (st.map fun v => v.category).sum ≤ 8) (hst : st0 = As.reverse ++ st) (hC : Ct a0 y cb2 nL2 rt2 dp2 As μ rv μ2) (d : decode cb pc = .ok (.invokestatic idx, 3)) (kk : Ex a0 own cb nL rt dp sc ι (pc + 3) L (rv.toList ++ st) μ2 o) : Ex a0 own cb nL rt dp sc ι pc L st0 μ o := by
  intro r hr p l e R s m args below meth c cells slots Q cy D C K H locs ls hW hS hl
  obtain ⟨w1, w2, w4, w5, w6⟩ := cv
  obtain ⟨hx, hb, hml, hown, hts, hnw, hK, ⟨r1, r2, r3, r4⟩, hsc⟩ := id C
  have hG : GoodIn gT (.code y cb2 nL2 rt2 :: gT) := by
    intro w hw
    have : w ∈ gT := by
      simp only [List.mem_cons] at hw
      rcases hw with rfl | hw <;> assumption
    exact gT_self w this
  exact Ex_run (va_runS (As := As) (rest := st) ⟨hx, hb, hml, hown, hts⟩ (hC l cy D) ⟨callB_of n hts hG rfl rfl rfl (hts _ w4) (hts _ w1) w6 ⟨by show dp2 + 1 ≤ R.frames; omega, by show 8 + (nL2 + 11) + (40 * dp2 + 13) ≤ R.locals; omega⟩, hts _ w2⟩ ⟨Qd_pre, fun U hU hWm => ⟨rfl, by rw [hU]; exact hW, va_K.moved hWm.alike hK, nT_warm hWm hnw⟩⟩ rfl hn hl.1 hst (lv_room hrest) d ⟨r3, r4⟩) hS (fun H1 locs1 hW1 hS1 => kk r hr p l e R s m args below meth c cells slots Q cy D C K H1 locs1 ls hW1 hS1 hl)
theorem Ex_callVR {idx ci q n nL2 dp2 : Nat} {y : MethodName} {cb2 : ByteArray} {rt2 : Option FieldType} (As : List Value) {st0 : List Value} {f : Option Int32} {kf : Int32 → Option α} (cv : CV own idx y cb2 nL2 rt2 n) (hk : kd q = ci) (hcl : (vwCl[ci]?).map (fun q => q.1) = some y.cls) (hn : As.length = n) (hd : dp2 < dp) (hm : nL2 ≤ 21) (hrest : (st.map fun v => v.category).sum ≤ 8) (hst : st0 = As.reverse ++ .ref (a0 + q) :: st) (hC : ∀ v, f = some v → Ct a0 y cb2 nL2 rt2 dp2 (.ref (a0 + q) :: As) μ (some (.int v)) μ) (d : decode cb pc = .ok (.invokevirtual idx, 3)) (kk : ∀ v, f = some v → Ex a0 own cb nL rt dp sc ι (pc + 3) L (.int v :: st) μ (kf v)) : Ex a0 own cb nL rt dp sc ι pc L st0 μ (f.bind kf) := by
  cases hf : f with
  | none => exact fun r hr => by cases hr
  | some v => exact Ex_callV cv hk hcl hn hd hm hrest hst (hC v hf) d (kk v hf)
theorem Ex_callVW {idx ci q n nL2 dp2 : Nat} {y : MethodName} {cb2 : ByteArray} {rt2 : Option FieldType} (As : List Value) {st0 : List Value} {f : Option (Int32 × Mem)} {kf : Int32 × Mem → Option α} (cv : CV own idx y cb2 nL2 rt2 n) (hk : kd q = ci) (hcl : (vwCl[ci]?).map (fun q => q.1) = some y.cls) (hn : As.length = n) (hd : dp2 < dp) (hm : nL2 ≤ 21) (hrest : (st.map fun v => v.category).sum ≤ 8) (hst : st0 = As.reverse ++ .ref (a0 + q) :: st) (hC : ∀ v μ2, f = some (v, μ2) → Ct a0 y cb2 nL2 rt2 dp2 (.ref (a0 + q) :: As) μ (some (.int v)) μ2) (d : decode cb pc = .ok (.invokevirtual idx, 3)) (kk : ∀ v μ2, f = some (v, μ2) → Ex a0 own cb nL rt dp sc ι (pc + 3) L (.int v :: st) μ2 (kf (v, μ2))) : Ex a0 own cb nL rt dp sc ι pc L st0 μ (f.bind kf) := by
  cases hf : f with
  | none => exact fun r hr => by cases hr
  | some v => exact Ex_callV cv hk hcl hn hd hm hrest hst (hC v.1 v.2 hf) d (kk v.1 v.2 hf)
theorem Ex_callVV {idx ci q n nL2 dp2 : Nat} {y : MethodName} {cb2 : ByteArray} {rt2 : Option FieldType} (As : List Value) {st0 : List Value} {f : Option Mem} {kf : Mem → Option α} (cv : CV own idx y cb2 nL2 rt2 n) (hk : kd q = ci) (hcl : (vwCl[ci]?).map (fun q => q.1) = some y.cls) (hn : As.length = n) (hd : dp2 < dp) (hm : nL2 ≤ 21) (hrest : (st.map fun v => v.category).sum ≤ 8) (hst : st0 = As.reverse ++ .ref (a0 + q) :: st) (hC : ∀ μ2, f = some μ2 → Ct a0 y cb2 nL2 rt2 dp2 (.ref (a0 + q) :: As) μ none μ2) (d : decode cb pc = .ok (.invokevirtual idx, 3)) (kk : ∀ μ2, f = some μ2 → Ex a0 own cb nL rt dp sc ι (pc + 3) L st μ2 (kf μ2)) : Ex a0 own cb nL rt dp sc ι pc L st0 μ (f.bind kf) := by
  cases hf : f with
  | none => exact fun r hr => by cases hr
  | some v => exact Ex_callV cv hk hcl hn hd hm hrest hst (hC v hf) d (kk v hf)
theorem Ex_callVL {idx ci q n nL2 dp2 : Nat} {y : MethodName} {cb2 : ByteArray} {rt2 : Option FieldType} (As : List Value) {st0 : List Value} {f : Option Int64} {kf : Int64 → Option α} (cv : CV own idx y cb2 nL2 rt2 n) (hk : kd q = ci) (hcl : (vwCl[ci]?).map (fun q => q.1) = some y.cls) (hn : As.length = n) (hd : dp2 < dp) (hm : nL2 ≤ 21) (hrest : (st.map fun v => v.category).sum ≤ 8) (hst : st0 = As.reverse ++ .ref (a0 + q) :: st) (hC : ∀ v, f = some v → Ct a0 y cb2 nL2 rt2 dp2 (.ref (a0 + q) :: As) μ (some (.long v)) μ) (d : decode cb pc = .ok (.invokevirtual idx, 3)) (kk : ∀ v, f = some v → Ex a0 own cb nL rt dp sc ι (pc + 3) L (.long v :: st) μ (kf v)) : Ex a0 own cb nL rt dp sc ι pc L st0 μ (f.bind kf) := by
  cases hf : f with
  | none => exact fun r hr => by cases hr
  | some v => exact Ex_callV cv hk hcl hn hd hm hrest hst (hC v hf) d (kk v hf)
theorem Ex_callSR {idx n nL2 dp2 : Nat} {y : MethodName} {cb2 : ByteArray} {rt2 : Option FieldType} (As : List Value) {st0 : List Value} {f : Option Int32} {kf : Int32 → Option α} (cv : CS own idx y cb2 nL2 rt2 n) (hn : As.length = n) (hd : dp2 < dp) (hm : nL2 ≤ 21) (hrest : (st.map fun v => v.category).sum ≤ 8) (hst : st0 = As.reverse ++ st) (hC : ∀ v, f = some v → Ct a0 y cb2 nL2 rt2 dp2 As μ (some (.int v)) μ) (d : decode cb pc = .ok (.invokestatic idx, 3)) (kk : ∀ v, f = some v → Ex a0 own cb nL rt dp sc ι (pc + 3) L (.int v :: st) μ (kf v)) : Ex a0 own cb nL rt dp sc ι pc L st0 μ (f.bind kf) := by
  cases hf : f with
  | none => exact fun r hr => by cases hr
  | some v => exact Ex_callS cv hn hd hm hrest hst (hC v hf) d (kk v hf)
theorem Ex_callSW {idx n nL2 dp2 : Nat} {y : MethodName} {cb2 : ByteArray} {rt2 : Option FieldType} (As : List Value) {st0 : List Value} {f : Option (Int32 × Mem)} {kf : Int32 × Mem → Option α} (cv : CS own idx y cb2 nL2 rt2 n) (hn : As.length = n) (hd : dp2 < dp) (hm : nL2 ≤ 21) (hrest : (st.map fun v => v.category).sum ≤ 8) (hst : st0 = As.reverse ++ st) (hC : ∀ v μ2, f = some (v, μ2) → Ct a0 y cb2 nL2 rt2 dp2 As μ (some (.int v)) μ2) (d : decode cb pc = .ok (.invokestatic idx, 3)) (kk : ∀ v μ2, f = some (v, μ2) → Ex a0 own cb nL rt dp sc ι (pc + 3) L (.int v :: st) μ2 (kf (v, μ2))) : Ex a0 own cb nL rt dp sc ι pc L st0 μ (f.bind kf) := by
  cases hf : f with
  | none => exact fun r hr => by cases hr
  | some v => exact Ex_callS cv hn hd hm hrest hst (hC v.1 v.2 hf) d (kk v.1 v.2 hf)
/-- a method's contract out of the walk of its body -/
theorem Ct_of {y : MethodName} {av : List Value} {rv : Option Value} {μ2 : Mem} (hpl : plainName y.cls = true) (hown : y.cls = own) (hlen : (lg_sl av).length ≤ nL) (hE : Ex a0 own cb nL rt dp none ι 0 (lv_args 0 av) [] μ o) {r : α} (hr : o = some r) (hι : ι r = (rv, μ2)) (hrt : match rv with | none => rt = none | some (.int _) => ∃ ty, rt = some ty | some (.long _) => rt = some .long | _ => False) : Ct a0 y cb nL rt dp av μ rv μ2 := by
  intro l cy D
  refine Met.ofW (cc := cb) (maxL := nL) (ret := rt) hpl rfl ?_
  intro p e s m args below meth c s₁ B hml hv
  obtain ⟨rfl, hWd, hK, hnw⟩ := hv
  have hts := atoms_spec (ws := .code y cb nL rt :: gT) B.pre
  have ho : s.vm.findClass own = some m.cls := by rw [← hown]; exact findClass_of_methodNamed B.named
  have hl := lv_entry av (n := nL) hlen
  rw [lg_entry_eq]
  refine hE r hr p l e (rmD dp) s m av.toArray below meth c 0 0 (MQ below (Qd a0 cy D rv μ2) av.toArray s 0 0 (fun q => a0 ≤ q)) cy D ⟨B.exec, B.bytes, hml, ho, fun w h => hts w (List.mem_cons_of_mem _ h), hnw, hK, ⟨Nat.le_refl _, Nat.le_refl _, Nat.le_refl _, Nat.le_refl _⟩, fun _ _ _ h => by cases h⟩ ?_ s.heap [] _ hWd va_S.rf hl
  intro H locs ls pc hW hS hd hnar
  have hlocks := B.notSynchronized
  have hret := B.returns
  rw [hι] at hW hd hnar
  rw [hι]
  have hq : ∀ t : State, t.heap = H → s.WarmedH t.vm → Qd a0 cy D rv μ2 av.toArray s (.returned rv) t := fun t ht _ => ⟨⟨rfl, by rw [ht]; exact hW⟩, hS.F ht⟩
  cases rv with
  | none => exact W.vret B.exec B.bytes (hret.trans hrt) hq hS.2.2 hd hlocks
  | some v =>
    cases v with
    | int v =>
      obtain ⟨ty, hty⟩ := hrt
      exact W.zret B.exec B.bytes (hret.trans hty) (hnar ty _ hty rfl) hq hS.2.2 hd hlocks
    | long v => exact W.lret B.exec B.bytes (hret.trans hrt) hq hS.2.2 hd hlocks
    | _ => exact hrt.elim
end HEAP
end
