section
/-- a private method of a class that the tables say can be made, by its rows of tables_1 -/
def lw_okq (q : MethodName × Nat) : Prop := (q.1.cls ≠ "java/lang/invoke/MethodHandle" ∧ q.1.cls ≠ "java/lang/invoke/VarHandle") ∧ Cond.instantiable q.1.cls q.2 ∈ tables_1 ∧ Cond.privateMethod q.1 ∈ tables_1 ∧ Cond.instanceMethod q.1 ∈ tables_1
theorem lw_p0 : lw_okq (⟨"CubeLegs", "refuse", "(I)I"⟩, 9) := ⟨⟨by decide +kernel, by decide +kernel⟩, List.mem_of_getElem? (i := 13) (by decide +kernel), List.mem_of_getElem? (i := 208) (by decide +kernel), List.mem_of_getElem? (i := 209) (by decide +kernel)⟩
theorem lw_p1 : lw_okq (⟨"CubeLegs$Ways", "addLeg", "(LCubeLegs$Task;III)V"⟩, 4) := ⟨⟨by decide +kernel, by decide +kernel⟩, List.mem_of_getElem? (i := 73) (by decide +kernel), List.mem_of_getElem? (i := 297) (by decide +kernel), List.mem_of_getElem? (i := 298) (by decide +kernel)⟩
theorem lw_p2 : lw_okq (⟨"CubeLegs", "factOf", "(II)I"⟩, 9) := ⟨⟨by decide +kernel, by decide +kernel⟩, List.mem_of_getElem? (i := 13) (by decide +kernel), List.mem_of_getElem? (i := 301) (by decide +kernel), List.mem_of_getElem? (i := 302) (by decide +kernel)⟩
theorem lw_p3 : lw_okq (⟨"CubeLegs", "tallyWays", "()V"⟩, 9) := ⟨⟨by decide +kernel, by decide +kernel⟩, List.mem_of_getElem? (i := 13) (by decide +kernel), List.mem_of_getElem? (i := 329) (by decide +kernel), List.mem_of_getElem? (i := 330) (by decide +kernel)⟩
theorem lw_p4 : lw_okq (⟨"CubeLegs", "loadsFact", "(I)I"⟩, 9) := ⟨⟨by decide +kernel, by decide +kernel⟩, List.mem_of_getElem? (i := 13) (by decide +kernel), List.mem_of_getElem? (i := 349) (by decide +kernel), List.mem_of_getElem? (i := 350) (by decide +kernel)⟩
theorem lw_p5 : lw_okq (⟨"CubeLegs", "tallyMean", "(I)V"⟩, 9) := ⟨⟨by decide +kernel, by decide +kernel⟩, List.mem_of_getElem? (i := 13) (by decide +kernel), List.mem_of_getElem? (i := 369) (by decide +kernel), List.mem_of_getElem? (i := 370) (by decide +kernel)⟩
theorem lw_p6 : lw_okq (⟨"CubeLegs", "addDrawn", "(II)V"⟩, 9) := ⟨⟨by decide +kernel, by decide +kernel⟩, List.mem_of_getElem? (i := 13) (by decide +kernel), List.mem_of_getElem? (i := 374) (by decide +kernel), List.mem_of_getElem? (i := 375) (by decide +kernel)⟩
theorem lw_p7 : lw_okq (⟨"CubeLegs", "setFraction", "(I)V"⟩, 9) := ⟨⟨by decide +kernel, by decide +kernel⟩, List.mem_of_getElem? (i := 13) (by decide +kernel), List.mem_of_getElem? (i := 378) (by decide +kernel), List.mem_of_getElem? (i := 379) (by decide +kernel)⟩
theorem lw_p8 : lw_okq (⟨"CubeLegs", "chooseBetween", "(I)V"⟩, 9) := ⟨⟨by decide +kernel, by decide +kernel⟩, List.mem_of_getElem? (i := 13) (by decide +kernel), List.mem_of_getElem? (i := 394) (by decide +kernel), List.mem_of_getElem? (i := 395) (by decide +kernel)⟩
theorem lw_p9 : lw_okq (⟨"CubeLegs$Traffic", "look", "(LCubeLegs$Task;LCubeLegs$Ways;)Z"⟩, 9) := ⟨⟨by decide +kernel, by decide +kernel⟩, List.mem_of_getElem? (i := 108) (by decide +kernel), List.mem_of_getElem? (i := 412) (by decide +kernel), List.mem_of_getElem? (i := 413) (by decide +kernel)⟩
theorem lw_p10 : lw_okq (⟨"CubeLegs$Traffic", "contest", "(LCubeLegs$Task;LCubeLegs$Ways;I)V"⟩, 9) := ⟨⟨by decide +kernel, by decide +kernel⟩, List.mem_of_getElem? (i := 108) (by decide +kernel), List.mem_of_getElem? (i := 417) (by decide +kernel), List.mem_of_getElem? (i := 418) (by decide +kernel)⟩
theorem lw_p11 : lw_okq (⟨"CubeLegs$Traffic", "isAhead", "(LCubeLegs$Task;LCubeLegs$Ways;III)Z"⟩, 9) := ⟨⟨by decide +kernel, by decide +kernel⟩, List.mem_of_getElem? (i := 108) (by decide +kernel), List.mem_of_getElem? (i := 424) (by decide +kernel), List.mem_of_getElem? (i := 425) (by decide +kernel)⟩
theorem lw_p12 : lw_okq (⟨"CubeLegs$Traffic", "lead", "(LCubeLegs$Ways;III)I"⟩, 9) := ⟨⟨by decide +kernel, by decide +kernel⟩, List.mem_of_getElem? (i := 108) (by decide +kernel), List.mem_of_getElem? (i := 428) (by decide +kernel), List.mem_of_getElem? (i := 429) (by decide +kernel)⟩
theorem lw_p13 : lw_okq (⟨"CubeLegs$Traffic", "legOf", "(LCubeLegs$Ways;I)I"⟩, 9) := ⟨⟨by decide +kernel, by decide +kernel⟩, List.mem_of_getElem? (i := 108) (by decide +kernel), List.mem_of_getElem? (i := 432) (by decide +kernel), List.mem_of_getElem? (i := 433) (by decide +kernel)⟩
theorem lw_p14 : lw_okq (⟨"CubeLegs$Traffic", "move", "(LCubeLegs$Task;I)V"⟩, 9) := ⟨⟨by decide +kernel, by decide +kernel⟩, List.mem_of_getElem? (i := 108) (by decide +kernel), List.mem_of_getElem? (i := 437) (by decide +kernel), List.mem_of_getElem? (i := 438) (by decide +kernel)⟩
theorem lw_p15 : lw_okq (⟨"CubeLegs", "runFact", "(I)I"⟩, 9) := ⟨⟨by decide +kernel, by decide +kernel⟩, List.mem_of_getElem? (i := 13) (by decide +kernel), List.mem_of_getElem? (i := 441) (by decide +kernel), List.mem_of_getElem? (i := 442) (by decide +kernel)⟩
def lw_privs_1 : List (MethodName × Nat) := [(⟨"CubeLegs", "refuse", "(I)I"⟩, 9), (⟨"CubeLegs$Ways", "addLeg", "(LCubeLegs$Task;III)V"⟩, 4), (⟨"CubeLegs", "factOf", "(II)I"⟩, 9), (⟨"CubeLegs", "tallyWays", "()V"⟩, 9), (⟨"CubeLegs", "loadsFact", "(I)I"⟩, 9), (⟨"CubeLegs", "tallyMean", "(I)V"⟩, 9), (⟨"CubeLegs", "addDrawn", "(II)V"⟩, 9), (⟨"CubeLegs", "setFraction", "(I)V"⟩, 9), (⟨"CubeLegs", "chooseBetween", "(I)V"⟩, 9), (⟨"CubeLegs$Traffic", "look", "(LCubeLegs$Task;LCubeLegs$Ways;)Z"⟩, 9), (⟨"CubeLegs$Traffic", "contest", "(LCubeLegs$Task;LCubeLegs$Ways;I)V"⟩, 9), (⟨"CubeLegs$Traffic", "isAhead", "(LCubeLegs$Task;LCubeLegs$Ways;III)Z"⟩, 9), (⟨"CubeLegs$Traffic", "lead", "(LCubeLegs$Ways;III)I"⟩, 9), (⟨"CubeLegs$Traffic", "legOf", "(LCubeLegs$Ways;I)I"⟩, 9), (⟨"CubeLegs$Traffic", "move", "(LCubeLegs$Task;I)V"⟩, 9), (⟨"CubeLegs", "runFact", "(I)I"⟩, 9)]
theorem lw_r1 : ∀ q ∈ lw_privs_1, lw_okq q := List.forall_mem_cons.mpr ⟨lw_p0, List.forall_mem_cons.mpr ⟨lw_p1, List.forall_mem_cons.mpr ⟨lw_p2, List.forall_mem_cons.mpr ⟨lw_p3, List.forall_mem_cons.mpr ⟨lw_p4, List.forall_mem_cons.mpr ⟨lw_p5, List.forall_mem_cons.mpr ⟨lw_p6, List.forall_mem_cons.mpr ⟨lw_p7, List.forall_mem_cons.mpr ⟨lw_p8, List.forall_mem_cons.mpr ⟨lw_p9, List.forall_mem_cons.mpr ⟨lw_p10, List.forall_mem_cons.mpr ⟨lw_p11, List.forall_mem_cons.mpr ⟨lw_p12, List.forall_mem_cons.mpr ⟨lw_p13, List.forall_mem_cons.mpr ⟨lw_p14, List.forall_mem_cons.mpr ⟨lw_p15, fun _ h => absurd h List.not_mem_nil⟩⟩⟩⟩⟩⟩⟩⟩⟩⟩⟩⟩⟩⟩⟩⟩
theorem lw_p16 : lw_okq (⟨"CubeLegs$Reader", "skipBlanks", "()V"⟩, 6) := ⟨⟨by decide +kernel, by decide +kernel⟩, List.mem_of_getElem? (i := 147) (by decide +kernel), List.mem_of_getElem? (i := 485) (by decide +kernel), List.mem_of_getElem? (i := 486) (by decide +kernel)⟩
theorem lw_p17 : lw_okq (⟨"CubeLegs$Reader", "failAt", "(I)V"⟩, 6) := ⟨⟨by decide +kernel, by decide +kernel⟩, List.mem_of_getElem? (i := 147) (by decide +kernel), List.mem_of_getElem? (i := 489) (by decide +kernel), List.mem_of_getElem? (i := 490) (by decide +kernel)⟩
theorem lw_p18 : lw_okq (⟨"CubeLegs$Reader", "readParcel", "(II)V"⟩, 6) := ⟨⟨by decide +kernel, by decide +kernel⟩, List.mem_of_getElem? (i := 147) (by decide +kernel), List.mem_of_getElem? (i := 493) (by decide +kernel), List.mem_of_getElem? (i := 494) (by decide +kernel)⟩
theorem lw_p19 : lw_okq (⟨"CubeLegs$Reader", "readNumber", "(I)I"⟩, 6) := ⟨⟨by decide +kernel, by decide +kernel⟩, List.mem_of_getElem? (i := 147) (by decide +kernel), List.mem_of_getElem? (i := 497) (by decide +kernel), List.mem_of_getElem? (i := 498) (by decide +kernel)⟩
theorem lw_p20 : lw_okq (⟨"CubeLegs$Reader", "need", "(C)V"⟩, 6) := ⟨⟨by decide +kernel, by decide +kernel⟩, List.mem_of_getElem? (i := 147) (by decide +kernel), List.mem_of_getElem? (i := 502) (by decide +kernel), List.mem_of_getElem? (i := 503) (by decide +kernel)⟩
theorem lw_p21 : lw_okq (⟨"CubeLegs$Reader", "takes", "(C)Z"⟩, 6) := ⟨⟨by decide +kernel, by decide +kernel⟩, List.mem_of_getElem? (i := 147) (by decide +kernel), List.mem_of_getElem? (i := 506) (by decide +kernel), List.mem_of_getElem? (i := 507) (by decide +kernel)⟩
theorem lw_p22 : lw_okq (⟨"CubeLegsModel", "no", "()I"⟩, 29) := ⟨⟨by decide +kernel, by decide +kernel⟩, List.mem_of_getElem? (i := 533) (by decide +kernel), List.mem_of_getElem? (i := 631) (by decide +kernel), List.mem_of_getElem? (i := 632) (by decide +kernel)⟩
theorem lw_p23 : lw_okq (⟨"CubeLegsModel", "bad", "()I"⟩, 29) := ⟨⟨by decide +kernel, by decide +kernel⟩, List.mem_of_getElem? (i := 533) (by decide +kernel), List.mem_of_getElem? (i := 642) (by decide +kernel), List.mem_of_getElem? (i := 643) (by decide +kernel)⟩
theorem lw_p24 : lw_okq (⟨"CubeLegsModel", "leavesState", "()V"⟩, 29) := ⟨⟨by decide +kernel, by decide +kernel⟩, List.mem_of_getElem? (i := 533) (by decide +kernel), List.mem_of_getElem? (i := 646) (by decide +kernel), List.mem_of_getElem? (i := 647) (by decide +kernel)⟩
theorem lw_p25 : lw_okq (⟨"CubeLegsModel", "isCorner", "(I)Z"⟩, 29) := ⟨⟨by decide +kernel, by decide +kernel⟩, List.mem_of_getElem? (i := 533) (by decide +kernel), List.mem_of_getElem? (i := 654) (by decide +kernel), List.mem_of_getElem? (i := 655) (by decide +kernel)⟩
theorem lw_p26 : lw_okq (⟨"CubeLegsModel", "corners", "()I"⟩, 29) := ⟨⟨by decide +kernel, by decide +kernel⟩, List.mem_of_getElem? (i := 533) (by decide +kernel), List.mem_of_getElem? (i := 658) (by decide +kernel), List.mem_of_getElem? (i := 659) (by decide +kernel)⟩
theorem lw_p27 : lw_okq (⟨"CubeLegsModel", "full", "()I"⟩, 29) := ⟨⟨by decide +kernel, by decide +kernel⟩, List.mem_of_getElem? (i := 533) (by decide +kernel), List.mem_of_getElem? (i := 665) (by decide +kernel), List.mem_of_getElem? (i := 666) (by decide +kernel)⟩
theorem lw_p28 : lw_okq (⟨"CubeLegsModel", "comes", "(IIII)V"⟩, 29) := ⟨⟨by decide +kernel, by decide +kernel⟩, List.mem_of_getElem? (i := 533) (by decide +kernel), List.mem_of_getElem? (i := 669) (by decide +kernel), List.mem_of_getElem? (i := 670) (by decide +kernel)⟩
theorem lw_p29 : lw_okq (⟨"CubeLegsModel", "isParcel", "(I)Z"⟩, 29) := ⟨⟨by decide +kernel, by decide +kernel⟩, List.mem_of_getElem? (i := 533) (by decide +kernel), List.mem_of_getElem? (i := 677) (by decide +kernel), List.mem_of_getElem? (i := 678) (by decide +kernel)⟩
theorem lw_p30 : lw_okq (⟨"CubeLegsModel", "tells", "(II)I"⟩, 29) := ⟨⟨by decide +kernel, by decide +kernel⟩, List.mem_of_getElem? (i := 533) (by decide +kernel), List.mem_of_getElem? (i := 681) (by decide +kernel), List.mem_of_getElem? (i := 682) (by decide +kernel)⟩
theorem lw_p31 : lw_okq (⟨"CubeLegsModel", "turned", "(I)I"⟩, 29) := ⟨⟨by decide +kernel, by decide +kernel⟩, List.mem_of_getElem? (i := 533) (by decide +kernel), List.mem_of_getElem? (i := 701) (by decide +kernel), List.mem_of_getElem? (i := 702) (by decide +kernel)⟩
def lw_privs_2 : List (MethodName × Nat) := [(⟨"CubeLegs$Reader", "skipBlanks", "()V"⟩, 6), (⟨"CubeLegs$Reader", "failAt", "(I)V"⟩, 6), (⟨"CubeLegs$Reader", "readParcel", "(II)V"⟩, 6), (⟨"CubeLegs$Reader", "readNumber", "(I)I"⟩, 6), (⟨"CubeLegs$Reader", "need", "(C)V"⟩, 6), (⟨"CubeLegs$Reader", "takes", "(C)Z"⟩, 6), (⟨"CubeLegsModel", "no", "()I"⟩, 29), (⟨"CubeLegsModel", "bad", "()I"⟩, 29), (⟨"CubeLegsModel", "leavesState", "()V"⟩, 29), (⟨"CubeLegsModel", "isCorner", "(I)Z"⟩, 29), (⟨"CubeLegsModel", "corners", "()I"⟩, 29), (⟨"CubeLegsModel", "full", "()I"⟩, 29), (⟨"CubeLegsModel", "comes", "(IIII)V"⟩, 29), (⟨"CubeLegsModel", "isParcel", "(I)Z"⟩, 29), (⟨"CubeLegsModel", "tells", "(II)I"⟩, 29), (⟨"CubeLegsModel", "turned", "(I)I"⟩, 29)]
theorem lw_r2 : ∀ q ∈ lw_privs_2, lw_okq q := List.forall_mem_cons.mpr ⟨lw_p16, List.forall_mem_cons.mpr ⟨lw_p17, List.forall_mem_cons.mpr ⟨lw_p18, List.forall_mem_cons.mpr ⟨lw_p19, List.forall_mem_cons.mpr ⟨lw_p20, List.forall_mem_cons.mpr ⟨lw_p21, List.forall_mem_cons.mpr ⟨lw_p22, List.forall_mem_cons.mpr ⟨lw_p23, List.forall_mem_cons.mpr ⟨lw_p24, List.forall_mem_cons.mpr ⟨lw_p25, List.forall_mem_cons.mpr ⟨lw_p26, List.forall_mem_cons.mpr ⟨lw_p27, List.forall_mem_cons.mpr ⟨lw_p28, List.forall_mem_cons.mpr ⟨lw_p29, List.forall_mem_cons.mpr ⟨lw_p30, List.forall_mem_cons.mpr ⟨lw_p31, fun _ h => absurd h List.not_mem_nil⟩⟩⟩⟩⟩⟩⟩⟩⟩⟩⟩⟩⟩⟩⟩⟩
theorem lw_p32 : lw_okq (⟨"CubeLegsModel", "ofBy", "(II)I"⟩, 29) := ⟨⟨by decide +kernel, by decide +kernel⟩, List.mem_of_getElem? (i := 533) (by decide +kernel), List.mem_of_getElem? (i := 713) (by decide +kernel), List.mem_of_getElem? (i := 714) (by decide +kernel)⟩
theorem lw_p33 : lw_okq (⟨"CubeLegsModel", "setWays", "()V"⟩, 29) := ⟨⟨by decide +kernel, by decide +kernel⟩, List.mem_of_getElem? (i := 533) (by decide +kernel), List.mem_of_getElem? (i := 717) (by decide +kernel), List.mem_of_getElem? (i := 718) (by decide +kernel)⟩
theorem lw_p34 : lw_okq (⟨"CubeLegsModel", "setWay", "(II)V"⟩, 29) := ⟨⟨by decide +kernel, by decide +kernel⟩, List.mem_of_getElem? (i := 533) (by decide +kernel), List.mem_of_getElem? (i := 721) (by decide +kernel), List.mem_of_getElem? (i := 722) (by decide +kernel)⟩
theorem lw_p35 : lw_okq (⟨"CubeLegsModel", "comesLeg", "(III)V"⟩, 29) := ⟨⟨by decide +kernel, by decide +kernel⟩, List.mem_of_getElem? (i := 533) (by decide +kernel), List.mem_of_getElem? (i := 725) (by decide +kernel), List.mem_of_getElem? (i := 726) (by decide +kernel)⟩
theorem lw_p36 : lw_okq (⟨"CubeLegsModel", "metBy", "(I)I"⟩, 29) := ⟨⟨by decide +kernel, by decide +kernel⟩, List.mem_of_getElem? (i := 533) (by decide +kernel), List.mem_of_getElem? (i := 729) (by decide +kernel), List.mem_of_getElem? (i := 730) (by decide +kernel)⟩
theorem lw_p37 : lw_okq (⟨"CubeLegsModel", "edgeOf", "(II)I"⟩, 29) := ⟨⟨by decide +kernel, by decide +kernel⟩, List.mem_of_getElem? (i := 533) (by decide +kernel), List.mem_of_getElem? (i := 733) (by decide +kernel), List.mem_of_getElem? (i := 734) (by decide +kernel)⟩
theorem lw_p38 : lw_okq (⟨"CubeLegsModel", "uses", "(II)Z"⟩, 29) := ⟨⟨by decide +kernel, by decide +kernel⟩, List.mem_of_getElem? (i := 533) (by decide +kernel), List.mem_of_getElem? (i := 737) (by decide +kernel), List.mem_of_getElem? (i := 738) (by decide +kernel)⟩
theorem lw_p39 : lw_okq (⟨"CubeLegsModel", "isEdge", "(II)Z"⟩, 29) := ⟨⟨by decide +kernel, by decide +kernel⟩, List.mem_of_getElem? (i := 533) (by decide +kernel), List.mem_of_getElem? (i := 749) (by decide +kernel), List.mem_of_getElem? (i := 750) (by decide +kernel)⟩
theorem lw_p40 : lw_okq (⟨"CubeLegsModel", "setLoads", "()V"⟩, 29) := ⟨⟨by decide +kernel, by decide +kernel⟩, List.mem_of_getElem? (i := 533) (by decide +kernel), List.mem_of_getElem? (i := 753) (by decide +kernel), List.mem_of_getElem? (i := 754) (by decide +kernel)⟩
theorem lw_p41 : lw_okq (⟨"CubeLegsModel", "noLoads", "()V"⟩, 29) := ⟨⟨by decide +kernel, by decide +kernel⟩, List.mem_of_getElem? (i := 533) (by decide +kernel), List.mem_of_getElem? (i := 757) (by decide +kernel), List.mem_of_getElem? (i := 758) (by decide +kernel)⟩
theorem lw_p42 : lw_okq (⟨"CubeLegsModel", "loadsBy", "(II)V"⟩, 29) := ⟨⟨by decide +kernel, by decide +kernel⟩, List.mem_of_getElem? (i := 533) (by decide +kernel), List.mem_of_getElem? (i := 761) (by decide +kernel), List.mem_of_getElem? (i := 762) (by decide +kernel)⟩
theorem lw_p43 : lw_okq (⟨"CubeLegsModel", "loadsTell", "(I)I"⟩, 29) := ⟨⟨by decide +kernel, by decide +kernel⟩, List.mem_of_getElem? (i := 533) (by decide +kernel), List.mem_of_getElem? (i := 769) (by decide +kernel), List.mem_of_getElem? (i := 770) (by decide +kernel)⟩
theorem lw_p44 : lw_okq (⟨"CubeLegsModel", "most", "()I"⟩, 29) := ⟨⟨by decide +kernel, by decide +kernel⟩, List.mem_of_getElem? (i := 533) (by decide +kernel), List.mem_of_getElem? (i := 773) (by decide +kernel), List.mem_of_getElem? (i := 774) (by decide +kernel)⟩
theorem lw_p45 : lw_okq (⟨"CubeLegsModel", "firstOf", "(I)I"⟩, 29) := ⟨⟨by decide +kernel, by decide +kernel⟩, List.mem_of_getElem? (i := 533) (by decide +kernel), List.mem_of_getElem? (i := 777) (by decide +kernel), List.mem_of_getElem? (i := 778) (by decide +kernel)⟩
theorem lw_p46 : lw_okq (⟨"CubeLegsModel", "setExpected", "(I)V"⟩, 29) := ⟨⟨by decide +kernel, by decide +kernel⟩, List.mem_of_getElem? (i := 533) (by decide +kernel), List.mem_of_getElem? (i := 788) (by decide +kernel), List.mem_of_getElem? (i := 789) (by decide +kernel)⟩
theorem lw_p47 : lw_okq (⟨"CubeLegsModel", "addsDrawn", "(I)V"⟩, 29) := ⟨⟨by decide +kernel, by decide +kernel⟩, List.mem_of_getElem? (i := 533) (by decide +kernel), List.mem_of_getElem? (i := 792) (by decide +kernel), List.mem_of_getElem? (i := 793) (by decide +kernel)⟩
def lw_privs_3 : List (MethodName × Nat) := [(⟨"CubeLegsModel", "ofBy", "(II)I"⟩, 29), (⟨"CubeLegsModel", "setWays", "()V"⟩, 29), (⟨"CubeLegsModel", "setWay", "(II)V"⟩, 29), (⟨"CubeLegsModel", "comesLeg", "(III)V"⟩, 29), (⟨"CubeLegsModel", "metBy", "(I)I"⟩, 29), (⟨"CubeLegsModel", "edgeOf", "(II)I"⟩, 29), (⟨"CubeLegsModel", "uses", "(II)Z"⟩, 29), (⟨"CubeLegsModel", "isEdge", "(II)Z"⟩, 29), (⟨"CubeLegsModel", "setLoads", "()V"⟩, 29), (⟨"CubeLegsModel", "noLoads", "()V"⟩, 29), (⟨"CubeLegsModel", "loadsBy", "(II)V"⟩, 29), (⟨"CubeLegsModel", "loadsTell", "(I)I"⟩, 29), (⟨"CubeLegsModel", "most", "()I"⟩, 29), (⟨"CubeLegsModel", "firstOf", "(I)I"⟩, 29), (⟨"CubeLegsModel", "setExpected", "(I)V"⟩, 29), (⟨"CubeLegsModel", "addsDrawn", "(I)V"⟩, 29)]
theorem lw_r3 : ∀ q ∈ lw_privs_3, lw_okq q := List.forall_mem_cons.mpr ⟨lw_p32, List.forall_mem_cons.mpr ⟨lw_p33, List.forall_mem_cons.mpr ⟨lw_p34, List.forall_mem_cons.mpr ⟨lw_p35, List.forall_mem_cons.mpr ⟨lw_p36, List.forall_mem_cons.mpr ⟨lw_p37, List.forall_mem_cons.mpr ⟨lw_p38, List.forall_mem_cons.mpr ⟨lw_p39, List.forall_mem_cons.mpr ⟨lw_p40, List.forall_mem_cons.mpr ⟨lw_p41, List.forall_mem_cons.mpr ⟨lw_p42, List.forall_mem_cons.mpr ⟨lw_p43, List.forall_mem_cons.mpr ⟨lw_p44, List.forall_mem_cons.mpr ⟨lw_p45, List.forall_mem_cons.mpr ⟨lw_p46, List.forall_mem_cons.mpr ⟨lw_p47, fun _ h => absurd h List.not_mem_nil⟩⟩⟩⟩⟩⟩⟩⟩⟩⟩⟩⟩⟩⟩⟩⟩
theorem lw_p48 : lw_okq (⟨"CubeLegsModel", "tellsPart", "(I)V"⟩, 29) := ⟨⟨by decide +kernel, by decide +kernel⟩, List.mem_of_getElem? (i := 533) (by decide +kernel), List.mem_of_getElem? (i := 796) (by decide +kernel), List.mem_of_getElem? (i := 797) (by decide +kernel)⟩
theorem lw_p49 : lw_okq (⟨"CubeLegsModel", "choosesFor", "(I)V"⟩, 29) := ⟨⟨by decide +kernel, by decide +kernel⟩, List.mem_of_getElem? (i := 533) (by decide +kernel), List.mem_of_getElem? (i := 812) (by decide +kernel), List.mem_of_getElem? (i := 813) (by decide +kernel)⟩
theorem lw_p50 : lw_okq (⟨"CubeLegsModel", "squares", "()J"⟩, 29) := ⟨⟨by decide +kernel, by decide +kernel⟩, List.mem_of_getElem? (i := 533) (by decide +kernel), List.mem_of_getElem? (i := 816) (by decide +kernel), List.mem_of_getElem? (i := 817) (by decide +kernel)⟩
theorem lw_p51 : lw_okq (⟨"CubeLegsModel", "runTells", "(I)I"⟩, 29) := ⟨⟨by decide +kernel, by decide +kernel⟩, List.mem_of_getElem? (i := 533) (by decide +kernel), List.mem_of_getElem? (i := 824) (by decide +kernel), List.mem_of_getElem? (i := 825) (by decide +kernel)⟩
theorem lw_p52 : lw_okq (⟨"CubeLegsModel", "runs", "(II)V"⟩, 29) := ⟨⟨by decide +kernel, by decide +kernel⟩, List.mem_of_getElem? (i := 533) (by decide +kernel), List.mem_of_getElem? (i := 828) (by decide +kernel), List.mem_of_getElem? (i := 829) (by decide +kernel)⟩
theorem lw_p53 : lw_okq (⟨"CubeLegsModel", "allHome", "()Z"⟩, 29) := ⟨⟨by decide +kernel, by decide +kernel⟩, List.mem_of_getElem? (i := 533) (by decide +kernel), List.mem_of_getElem? (i := 832) (by decide +kernel), List.mem_of_getElem? (i := 833) (by decide +kernel)⟩
theorem lw_p54 : lw_okq (⟨"CubeLegsModel", "isHome", "(I)Z"⟩, 29) := ⟨⟨by decide +kernel, by decide +kernel⟩, List.mem_of_getElem? (i := 533) (by decide +kernel), List.mem_of_getElem? (i := 836) (by decide +kernel), List.mem_of_getElem? (i := 837) (by decide +kernel)⟩
theorem lw_p55 : lw_okq (⟨"CubeLegsModel", "goesTick", "(I)V"⟩, 29) := ⟨⟨by decide +kernel, by decide +kernel⟩, List.mem_of_getElem? (i := 533) (by decide +kernel), List.mem_of_getElem? (i := 840) (by decide +kernel), List.mem_of_getElem? (i := 841) (by decide +kernel)⟩
theorem lw_p56 : lw_okq (⟨"CubeLegsModel", "setGoing", "(I)V"⟩, 29) := ⟨⟨by decide +kernel, by decide +kernel⟩, List.mem_of_getElem? (i := 533) (by decide +kernel), List.mem_of_getElem? (i := 844) (by decide +kernel), List.mem_of_getElem? (i := 845) (by decide +kernel)⟩
theorem lw_p57 : lw_okq (⟨"CubeLegsModel", "isAhead", "(III)Z"⟩, 29) := ⟨⟨by decide +kernel, by decide +kernel⟩, List.mem_of_getElem? (i := 533) (by decide +kernel), List.mem_of_getElem? (i := 848) (by decide +kernel), List.mem_of_getElem? (i := 849) (by decide +kernel)⟩
theorem lw_p58 : lw_okq (⟨"CubeLegsModel", "goesThrough", "(Z)I"⟩, 29) := ⟨⟨by decide +kernel, by decide +kernel⟩, List.mem_of_getElem? (i := 533) (by decide +kernel), List.mem_of_getElem? (i := 876) (by decide +kernel), List.mem_of_getElem? (i := 877) (by decide +kernel)⟩
theorem lw_p59 : lw_okq (⟨"CubeLegsModel", "skips", "()V"⟩, 29) := ⟨⟨by decide +kernel, by decide +kernel⟩, List.mem_of_getElem? (i := 533) (by decide +kernel), List.mem_of_getElem? (i := 880) (by decide +kernel), List.mem_of_getElem? (i := 881) (by decide +kernel)⟩
theorem lw_p60 : lw_okq (⟨"CubeLegsModel", "here", "()I"⟩, 29) := ⟨⟨by decide +kernel, by decide +kernel⟩, List.mem_of_getElem? (i := 533) (by decide +kernel), List.mem_of_getElem? (i := 884) (by decide +kernel), List.mem_of_getElem? (i := 885) (by decide +kernel)⟩
theorem lw_p61 : lw_okq (⟨"CubeLegsModel", "readsParcel", "(Z)Z"⟩, 29) := ⟨⟨by decide +kernel, by decide +kernel⟩, List.mem_of_getElem? (i := 533) (by decide +kernel), List.mem_of_getElem? (i := 888) (by decide +kernel), List.mem_of_getElem? (i := 889) (by decide +kernel)⟩
theorem lw_p62 : lw_okq (⟨"CubeLegsModel", "number", "(I)Z"⟩, 29) := ⟨⟨by decide +kernel, by decide +kernel⟩, List.mem_of_getElem? (i := 533) (by decide +kernel), List.mem_of_getElem? (i := 892) (by decide +kernel), List.mem_of_getElem? (i := 893) (by decide +kernel)⟩
theorem lw_p63 : lw_okq (⟨"CubeLegsModel", "sign", "(I)Z"⟩, 29) := ⟨⟨by decide +kernel, by decide +kernel⟩, List.mem_of_getElem? (i := 533) (by decide +kernel), List.mem_of_getElem? (i := 896) (by decide +kernel), List.mem_of_getElem? (i := 897) (by decide +kernel)⟩
def lw_privs_4 : List (MethodName × Nat) := [(⟨"CubeLegsModel", "tellsPart", "(I)V"⟩, 29), (⟨"CubeLegsModel", "choosesFor", "(I)V"⟩, 29), (⟨"CubeLegsModel", "squares", "()J"⟩, 29), (⟨"CubeLegsModel", "runTells", "(I)I"⟩, 29), (⟨"CubeLegsModel", "runs", "(II)V"⟩, 29), (⟨"CubeLegsModel", "allHome", "()Z"⟩, 29), (⟨"CubeLegsModel", "isHome", "(I)Z"⟩, 29), (⟨"CubeLegsModel", "goesTick", "(I)V"⟩, 29), (⟨"CubeLegsModel", "setGoing", "(I)V"⟩, 29), (⟨"CubeLegsModel", "isAhead", "(III)Z"⟩, 29), (⟨"CubeLegsModel", "goesThrough", "(Z)I"⟩, 29), (⟨"CubeLegsModel", "skips", "()V"⟩, 29), (⟨"CubeLegsModel", "here", "()I"⟩, 29), (⟨"CubeLegsModel", "readsParcel", "(Z)Z"⟩, 29), (⟨"CubeLegsModel", "number", "(I)Z"⟩, 29), (⟨"CubeLegsModel", "sign", "(I)Z"⟩, 29)]
theorem lw_r4 : ∀ q ∈ lw_privs_4, lw_okq q := List.forall_mem_cons.mpr ⟨lw_p48, List.forall_mem_cons.mpr ⟨lw_p49, List.forall_mem_cons.mpr ⟨lw_p50, List.forall_mem_cons.mpr ⟨lw_p51, List.forall_mem_cons.mpr ⟨lw_p52, List.forall_mem_cons.mpr ⟨lw_p53, List.forall_mem_cons.mpr ⟨lw_p54, List.forall_mem_cons.mpr ⟨lw_p55, List.forall_mem_cons.mpr ⟨lw_p56, List.forall_mem_cons.mpr ⟨lw_p57, List.forall_mem_cons.mpr ⟨lw_p58, List.forall_mem_cons.mpr ⟨lw_p59, List.forall_mem_cons.mpr ⟨lw_p60, List.forall_mem_cons.mpr ⟨lw_p61, List.forall_mem_cons.mpr ⟨lw_p62, List.forall_mem_cons.mpr ⟨lw_p63, fun _ h => absurd h List.not_mem_nil⟩⟩⟩⟩⟩⟩⟩⟩⟩⟩⟩⟩⟩⟩⟩⟩
theorem lw_p64 : lw_okq (⟨"CubeLegsModel", "toldBy", "(I)I"⟩, 29) := ⟨⟨by decide +kernel, by decide +kernel⟩, List.mem_of_getElem? (i := 533) (by decide +kernel), List.mem_of_getElem? (i := 904) (by decide +kernel), List.mem_of_getElem? (i := 905) (by decide +kernel)⟩
def lw_privs_5 : List (MethodName × Nat) := [(⟨"CubeLegsModel", "toldBy", "(I)I"⟩, 29)]
theorem lw_r5 : ∀ q ∈ lw_privs_5, lw_okq q := List.forall_mem_cons.mpr ⟨lw_p64, fun _ h => absurd h List.not_mem_nil⟩
def lw_privs : List (MethodName × Nat) := lw_privs_1 ++ (lw_privs_2 ++ (lw_privs_3 ++ (lw_privs_4 ++ (lw_privs_5))))
def lw_tbl : List Cond := k2_sels lw_privs ++ tables_1
theorem lw_privs_ok : ∀ q ∈ lw_privs, lw_okq q := by
  show ∀ q ∈ lw_privs_1 ++ (lw_privs_2 ++ (lw_privs_3 ++ (lw_privs_4 ++ (lw_privs_5)))), lw_okq q
  exact List.forall_mem_append.mpr ⟨lw_r1, List.forall_mem_append.mpr ⟨lw_r2, List.forall_mem_append.mpr ⟨lw_r3, List.forall_mem_append.mpr ⟨lw_r4, lw_r5⟩⟩⟩⟩
end
section
def RX0 : String := "CubeLegs$History"
def TX0 : u_T := fun k => match k with
  | 0 => ("CubeLegs$History", "count", "I", false)
  | 1 => ("CubeLegs$History", "newest", "I", false)
  | _ => ("CubeLegs$History", "kept", "[LCubeLegs$Task;", true)
def tyX0 : Nat → FieldType := fun k => match k with
  | 0 => .int
  | 1 => .int
  | _ => .array (.object "CubeLegs$Task")
theorem nmX0 : ∀ a, a < 3 → ∀ b, b < 3 → a ≠ b → (TX0 a).2.1 ≠ (TX0 b).2.1 := by decide +kernel
theorem tyX0_ok : ∀ k, k < 3 → parseFieldDescriptor (TX0 k).2.2.1 = some (tyX0 k) := by decide +kernel
abbrev cX0_init : ByteArray := prog_2_method_1_code
def yX0_init : MethodName := ⟨RX0, "<init>", "()V"⟩
abbrev cX0_keep : ByteArray := prog_2_method_2_code
def yX0_keep : MethodName := ⟨RX0, "keep", "(LCubeLegs$Task;)V"⟩
abbrev cX0_restore : ByteArray := prog_2_method_3_code
def yX0_restore : MethodName := ⟨RX0, "restore", "(LCubeLegs$Task;)V"⟩
def RX1 : String := "CubeLegs$Loads"
def TX1 : u_T := fun k => match k with
  | _ => ("CubeLegs$Loads", "amounts", "[I", true)
def tyX1 : Nat → FieldType := fun k => match k with
  | _ => .array .int
theorem nmX1 : ∀ a, a < 1 → ∀ b, b < 1 → a ≠ b → (TX1 a).2.1 ≠ (TX1 b).2.1 := by decide +kernel
theorem tyX1_ok : ∀ k, k < 1 → parseFieldDescriptor (TX1 k).2.2.1 = some (tyX1 k) := by decide +kernel
abbrev cX1_init : ByteArray := prog_3_method_1_code
def yX1_init : MethodName := ⟨RX1, "<init>", "()V"⟩
abbrev cX1_empty : ByteArray := prog_3_method_2_code
def yX1_empty : MethodName := ⟨RX1, "empty", "()V"⟩
abbrev cX1_add : ByteArray := prog_3_method_3_code
def yX1_add : MethodName := ⟨RX1, "add", "(LCubeLegs$Ways;II)V"⟩
abbrev cX1_firstGreatest : ByteArray := prog_3_method_4_code
def yX1_firstGreatest : MethodName := ⟨RX1, "firstGreatest", "()I"⟩
abbrev cX1_squares : ByteArray := prog_3_method_5_code
def yX1_squares : MethodName := ⟨RX1, "squares", "()I"⟩
abbrev cX1_countAtLeast : ByteArray := prog_3_method_6_code
def yX1_countAtLeast : MethodName := ⟨RX1, "countAtLeast", "(ILCubeLegs$Task;)I"⟩
def RX2 : String := "CubeLegs$Reader"
def TX2 : u_T := fun k => match k with
  | 0 => ("CubeLegs$Reader", "size", "I", false)
  | 1 => ("CubeLegs$Reader", "fault", "I", false)
  | 2 => ("CubeLegs$Reader", "found", "I", false)
  | 3 => ("CubeLegs$Reader", "place", "I", false)
  | 4 => ("CubeLegs$Reader", "text", "[B", true)
  | _ => ("CubeLegs$Reader", "traits", "[I", true)
def tyX2 : Nat → FieldType := fun k => match k with
  | 0 => .int
  | 1 => .int
  | 2 => .int
  | 3 => .int
  | 4 => .array .byte
  | _ => .array .int
theorem nmX2 : ∀ a, a < 6 → ∀ b, b < 6 → a ≠ b → (TX2 a).2.1 ≠ (TX2 b).2.1 := by decide +kernel
theorem tyX2_ok : ∀ k, k < 6 → parseFieldDescriptor (TX2 k).2.2.1 = some (tyX2 k) := by decide +kernel
abbrev cX2_init : ByteArray := prog_4_method_1_code
def yX2_init : MethodName := ⟨RX2, "<init>", "()V"⟩
abbrev cX2_append : ByteArray := prog_4_method_2_code
def yX2_append : MethodName := ⟨RX2, "append", "(I)V"⟩
abbrev cX2_trait : ByteArray := prog_4_method_3_code
def yX2_trait : MethodName := ⟨RX2, "trait", "(II)I"⟩
abbrev cX2_read : ByteArray := prog_4_method_4_code
def yX2_read : MethodName := ⟨RX2, "read", "(II)V"⟩
abbrev cX2_readParcel : ByteArray := prog_4_method_5_code
def yX2_readParcel : MethodName := ⟨RX2, "readParcel", "(II)V"⟩
abbrev cX2_readNumber : ByteArray := prog_4_method_6_code
def yX2_readNumber : MethodName := ⟨RX2, "readNumber", "(I)I"⟩
abbrev cX2_takes : ByteArray := prog_4_method_7_code
def yX2_takes : MethodName := ⟨RX2, "takes", "(C)Z"⟩
abbrev cX2_need : ByteArray := prog_4_method_8_code
def yX2_need : MethodName := ⟨RX2, "need", "(C)V"⟩
abbrev cX2_skipBlanks : ByteArray := prog_4_method_9_code
def yX2_skipBlanks : MethodName := ⟨RX2, "skipBlanks", "()V"⟩
abbrev cX2_failAt : ByteArray := prog_4_method_10_code
def yX2_failAt : MethodName := ⟨RX2, "failAt", "(I)V"⟩
def RX3 : String := "CubeLegs$Task"
def TX3 : u_T := fun k => match k with
  | 0 => ("CubeLegs$Task", "sideCount", "I", false)
  | 1 => ("CubeLegs$Task", "order", "I", false)
  | 2 => ("CubeLegs$Task", "rule", "I", false)
  | 3 => ("CubeLegs$Task", "count", "I", false)
  | _ => ("CubeLegs$Task", "traits", "[I", true)
def tyX3 : Nat → FieldType := fun k => match k with
  | 0 => .int
  | 1 => .int
  | 2 => .int
  | 3 => .int
  | _ => .array .int
theorem nmX3 : ∀ a, a < 5 → ∀ b, b < 5 → a ≠ b → (TX3 a).2.1 ≠ (TX3 b).2.1 := by decide +kernel
theorem tyX3_ok : ∀ k, k < 5 → parseFieldDescriptor (TX3 k).2.2.1 = some (tyX3 k) := by decide +kernel
abbrev cX3_init : ByteArray := prog_5_method_1_code
def yX3_init : MethodName := ⟨RX3, "<init>", "()V"⟩
abbrev cX3_corners : ByteArray := prog_5_method_2_code
def yX3_corners : MethodName := ⟨RX3, "corners", "()I"⟩
abbrev cX3_has : ByteArray := prog_5_method_3_code
def yX3_has : MethodName := ⟨RX3, "has", "(I)Z"⟩
abbrev cX3_hasEdge : ByteArray := prog_5_method_4_code
def yX3_hasEdge : MethodName := ⟨RX3, "hasEdge", "(II)Z"⟩
abbrev cX3_allows : ByteArray := prog_5_method_5_code
def yX3_allows : MethodName := ⟨RX3, "allows", "(II)Z"⟩
abbrev cX3_trait : ByteArray := prog_5_method_6_code
def yX3_trait : MethodName := ⟨RX3, "trait", "(II)I"⟩
abbrev cX3_change : ByteArray := prog_5_method_7_code
def yX3_change : MethodName := ⟨RX3, "change", "(III)V"⟩
abbrev cX3_add : ByteArray := prog_5_method_8_code
def yX3_add : MethodName := ⟨RX3, "add", "(IIII)V"⟩
abbrev cX3_partner : ByteArray := prog_5_method_9_code
def yX3_partner : MethodName := ⟨RX3, "partner", "(II)I"⟩
abbrev cX3_take : ByteArray := prog_5_method_10_code
def yX3_take : MethodName := ⟨RX3, "take", "(LCubeLegs$Task;)V"⟩
def RX4 : String := "CubeLegs$Traffic"
def TX4 : u_T := fun k => match k with
  | 0 => ("CubeLegs$Traffic", "ticks", "I", false)
  | 1 => ("CubeLegs$Traffic", "mostWanting", "I", false)
  | 2 => ("CubeLegs$Traffic", "home", "[I", true)
  | 3 => ("CubeLegs$Traffic", "delay", "[I", true)
  | 4 => ("CubeLegs$Traffic", "gone", "[I", true)
  | 5 => ("CubeLegs$Traffic", "came", "[I", true)
  | 6 => ("CubeLegs$Traffic", "wanted", "[I", true)
  | 7 => ("CubeLegs$Traffic", "wanting", "[I", true)
  | _ => ("CubeLegs$Traffic", "winner", "[I", true)
def tyX4 : Nat → FieldType := fun k => match k with
  | 0 => .int
  | 1 => .int
  | 2 => .array .int
  | 3 => .array .int
  | 4 => .array .int
  | 5 => .array .int
  | 6 => .array .int
  | 7 => .array .int
  | _ => .array .int
theorem nmX4 : ∀ a, a < 9 → ∀ b, b < 9 → a ≠ b → (TX4 a).2.1 ≠ (TX4 b).2.1 := by decide +kernel
theorem tyX4_ok : ∀ k, k < 9 → parseFieldDescriptor (TX4 k).2.2.1 = some (tyX4 k) := by decide +kernel
abbrev cX4_init : ByteArray := prog_6_method_1_code
def yX4_init : MethodName := ⟨RX4, "<init>", "()V"⟩
abbrev cX4_flow : ByteArray := prog_6_method_2_code
def yX4_flow : MethodName := ⟨RX4, "flow", "(LCubeLegs$Task;LCubeLegs$Ways;II)V"⟩
abbrev cX4_look : ByteArray := prog_6_method_3_code
def yX4_look : MethodName := ⟨RX4, "look", "(LCubeLegs$Task;LCubeLegs$Ways;)Z"⟩
abbrev cX4_contest : ByteArray := prog_6_method_4_code
def yX4_contest : MethodName := ⟨RX4, "contest", "(LCubeLegs$Task;LCubeLegs$Ways;I)V"⟩
abbrev cX4_move : ByteArray := prog_6_method_5_code
def yX4_move : MethodName := ⟨RX4, "move", "(LCubeLegs$Task;I)V"⟩
abbrev cX4_isAhead : ByteArray := prog_6_method_6_code
def yX4_isAhead : MethodName := ⟨RX4, "isAhead", "(LCubeLegs$Task;LCubeLegs$Ways;III)Z"⟩
abbrev cX4_lead : ByteArray := prog_6_method_7_code
def yX4_lead : MethodName := ⟨RX4, "lead", "(LCubeLegs$Ways;III)I"⟩
abbrev cX4_legOf : ByteArray := prog_6_method_8_code
def yX4_legOf : MethodName := ⟨RX4, "legOf", "(LCubeLegs$Ways;I)I"⟩
abbrev cX4_delayOfAll : ByteArray := prog_6_method_9_code
def yX4_delayOfAll : MethodName := ⟨RX4, "delayOfAll", "(I)I"⟩
abbrev cX4_mostDelayed : ByteArray := prog_6_method_10_code
def yX4_mostDelayed : MethodName := ⟨RX4, "mostDelayed", "(I)I"⟩
def RX5 : String := "CubeLegs$Ways"
def TX5 : u_T := fun k => match k with
  | 0 => ("CubeLegs$Ways", "edgeCount", "[I", true)
  | 1 => ("CubeLegs$Ways", "firstLeg", "[I", true)
  | 2 => ("CubeLegs$Ways", "edges", "[I", true)
  | _ => ("CubeLegs$Ways", "edgeSets", "[J", true)
def tyX5 : Nat → FieldType := fun k => match k with
  | 0 => .array .int
  | 1 => .array .int
  | 2 => .array .int
  | _ => .array .long
theorem nmX5 : ∀ a, a < 4 → ∀ b, b < 4 → a ≠ b → (TX5 a).2.1 ≠ (TX5 b).2.1 := by decide +kernel
theorem tyX5_ok : ∀ k, k < 4 → parseFieldDescriptor (TX5 k).2.2.1 = some (tyX5 k) := by decide +kernel
abbrev cX5_init : ByteArray := prog_7_method_1_code
def yX5_init : MethodName := ⟨RX5, "<init>", "()V"⟩
abbrev cX5_follow : ByteArray := prog_7_method_2_code
def yX5_follow : MethodName := ⟨RX5, "follow", "(LCubeLegs$Task;)V"⟩
abbrev cX5_trace : ByteArray := prog_7_method_3_code
def yX5_trace : MethodName := ⟨RX5, "trace", "(LCubeLegs$Task;II)V"⟩
abbrev cX5_addLeg : ByteArray := prog_7_method_4_code
def yX5_addLeg : MethodName := ⟨RX5, "addLeg", "(LCubeLegs$Task;III)V"⟩
abbrev cX5_edge : ByteArray := prog_7_method_5_code
def yX5_edge : MethodName := ⟨RX5, "edge", "(II)I"⟩
abbrev cX5_cornerBehind : ByteArray := prog_7_method_6_code
def yX5_cornerBehind : MethodName := ⟨RX5, "cornerBehind", "(LCubeLegs$Task;II)I"⟩
abbrev cX5_meetings : ByteArray := prog_7_method_7_code
def yX5_meetings : MethodName := ⟨RX5, "meetings", "(II)I"⟩
def RX6 : String := "CubeLegs"
def TX6 : u_T := fun k => match k with
  | 0 => ("CubeLegs", "task", "LCubeLegs$Task;", true)
  | 1 => ("CubeLegs", "history", "LCubeLegs$History;", true)
  | 2 => ("CubeLegs", "ways", "LCubeLegs$Ways;", true)
  | 3 => ("CubeLegs", "tally", "LCubeLegs$Loads;", true)
  | 4 => ("CubeLegs", "traffic", "LCubeLegs$Traffic;", true)
  | 5 => ("CubeLegs", "reader", "LCubeLegs$Reader;", true)
  | 6 => ("CubeLegs", "refused", "[I", true)
  | 7 => ("CubeLegs", "above", "I", false)
  | _ => ("CubeLegs", "below", "I", false)
def tyX6 : Nat → FieldType := fun k => match k with
  | 0 => .object "CubeLegs$Task"
  | 1 => .object "CubeLegs$History"
  | 2 => .object "CubeLegs$Ways"
  | 3 => .object "CubeLegs$Loads"
  | 4 => .object "CubeLegs$Traffic"
  | 5 => .object "CubeLegs$Reader"
  | 6 => .array .int
  | 7 => .int
  | _ => .int
theorem nmX6 : ∀ a, a < 9 → ∀ b, b < 9 → a ≠ b → (TX6 a).2.1 ≠ (TX6 b).2.1 := by decide +kernel
theorem tyX6_ok : ∀ k, k < 9 → parseFieldDescriptor (TX6 k).2.2.1 = some (tyX6 k) := by decide +kernel
abbrev cX6_init : ByteArray := prog_1_method_1_code
def yX6_init : MethodName := ⟨RX6, "<init>", "()V"⟩
abbrev cX6_sides : ByteArray := prog_1_method_2_code
def yX6_sides : MethodName := ⟨RX6, "sides", "(I)I"⟩
abbrev cX6_parcel : ByteArray := prog_1_method_3_code
def yX6_parcel : MethodName := ⟨RX6, "parcel", "(IIII)I"⟩
abbrev cX6_sets : ByteArray := prog_1_method_4_code
def yX6_sets : MethodName := ⟨RX6, "sets", "(III)I"⟩
abbrev cX6_rules : ByteArray := prog_1_method_5_code
def yX6_rules : MethodName := ⟨RX6, "rules", "(II)I"⟩
abbrev cX6_empties : ByteArray := prog_1_method_6_code
def yX6_empties : MethodName := ⟨RX6, "empties", "()I"⟩
abbrev cX6_fills : ByteArray := prog_1_method_7_code
def yX6_fills : MethodName := ⟨RX6, "fills", "(II)I"⟩
abbrev cX6_of : ByteArray := prog_1_method_8_code
def yX6_of : MethodName := ⟨RX6, "of", "(II)I"⟩
abbrev cX6_step : ByteArray := prog_1_method_9_code
def yX6_step : MethodName := ⟨RX6, "step", "(II)I"⟩
abbrev cX6_load : ByteArray := prog_1_method_10_code
def yX6_load : MethodName := ⟨RX6, "load", "(II)I"⟩
abbrev cX6_loads : ByteArray := prog_1_method_11_code
def yX6_loads : MethodName := ⟨RX6, "loads", "(I)I"⟩
abbrev cX6_expected : ByteArray := prog_1_method_12_code
def yX6_expected : MethodName := ⟨RX6, "expected", "(III)I"⟩
abbrev cX6_part : ByteArray := prog_1_method_13_code
def yX6_part : MethodName := ⟨RX6, "part", "(I)I"⟩
abbrev cX6_greatest : ByteArray := prog_1_method_14_code
def yX6_greatest : MethodName := ⟨RX6, "greatest", "()I"⟩
abbrev cX6_chooses : ByteArray := prog_1_method_15_code
def yX6_chooses : MethodName := ⟨RX6, "chooses", "()I"⟩
abbrev cX6_run : ByteArray := prog_1_method_16_code
def yX6_run : MethodName := ⟨RX6, "run", "(I)I"⟩
abbrev cX6_ran : ByteArray := prog_1_method_17_code
def yX6_ran : MethodName := ⟨RX6, "ran", "(III)I"⟩
abbrev cX6_best : ByteArray := prog_1_method_18_code
def yX6_best : MethodName := ⟨RX6, "best", "(I)I"⟩
abbrev cX6_straight : ByteArray := prog_1_method_19_code
def yX6_straight : MethodName := ⟨RX6, "straight", "()I"⟩
abbrev cX6_type : ByteArray := prog_1_method_20_code
def yX6_type : MethodName := ⟨RX6, "type", "(I)I"⟩
abbrev cX6_clear : ByteArray := prog_1_method_21_code
def yX6_clear : MethodName := ⟨RX6, "clear", "()I"⟩
abbrev cX6_reads : ByteArray := prog_1_method_22_code
def yX6_reads : MethodName := ⟨RX6, "reads", "()I"⟩
abbrev cX6_back : ByteArray := prog_1_method_23_code
def yX6_back : MethodName := ⟨RX6, "back", "()I"⟩
abbrev cX6_told : ByteArray := prog_1_method_24_code
def yX6_told : MethodName := ⟨RX6, "told", "(I)I"⟩
abbrev cX6_digest : ByteArray := prog_1_method_25_code
def yX6_digest : MethodName := ⟨RX6, "digest", "()J"⟩
abbrev cX6_refuse : ByteArray := prog_1_method_26_code
def yX6_refuse : MethodName := ⟨RX6, "refuse", "(I)I"⟩
abbrev cX6_nameOf : ByteArray := prog_1_method_27_code
def yX6_nameOf : MethodName := ⟨RX6, "nameOf", "(I)I"⟩
abbrev cX6_factOf : ByteArray := prog_1_method_28_code
def yX6_factOf : MethodName := ⟨RX6, "factOf", "(II)I"⟩
abbrev cX6_tallyWays : ByteArray := prog_1_method_29_code
def yX6_tallyWays : MethodName := ⟨RX6, "tallyWays", "()V"⟩
abbrev cX6_tallyMean : ByteArray := prog_1_method_30_code
def yX6_tallyMean : MethodName := ⟨RX6, "tallyMean", "(I)V"⟩
abbrev cX6_addDrawn : ByteArray := prog_1_method_31_code
def yX6_addDrawn : MethodName := ⟨RX6, "addDrawn", "(II)V"⟩
abbrev cX6_chooseBetween : ByteArray := prog_1_method_32_code
def yX6_chooseBetween : MethodName := ⟨RX6, "chooseBetween", "(I)V"⟩
abbrev cX6_setFraction : ByteArray := prog_1_method_33_code
def yX6_setFraction : MethodName := ⟨RX6, "setFraction", "(I)V"⟩
abbrev cX6_loadsFact : ByteArray := prog_1_method_34_code
def yX6_loadsFact : MethodName := ⟨RX6, "loadsFact", "(I)I"⟩
abbrev cX6_runFact : ByteArray := prog_1_method_35_code
def yX6_runFact : MethodName := ⟨RX6, "runFact", "(I)I"⟩
def RX7 : String := "CubeLegsModel"
def TX7 : u_T := fun k => match k with
  | 0 => ("CubeLegsModel", "refused", "[I", true)
  | 1 => ("CubeLegsModel", "sides", "I", false)
  | 2 => ("CubeLegsModel", "many", "I", false)
  | 3 => ("CubeLegsModel", "rules", "[I", true)
  | 4 => ("CubeLegsModel", "from", "[I", true)
  | 5 => ("CubeLegsModel", "to", "[I", true)
  | 6 => ("CubeLegsModel", "between", "[I", true)
  | 7 => ("CubeLegsModel", "rank", "[I", true)
  | 8 => ("CubeLegsModel", "states", "I", false)
  | 9 => ("CubeLegsModel", "kept", "[I", true)
  | 10 => ("CubeLegsModel", "wayLong", "[I", true)
  | 11 => ("CubeLegsModel", "legLong", "[I", true)
  | 12 => ("CubeLegsModel", "way", "[I", true)
  | 13 => ("CubeLegsModel", "loads", "[I", true)
  | 14 => ("CubeLegsModel", "above", "I", false)
  | 15 => ("CubeLegsModel", "below", "I", false)
  | 16 => ("CubeLegsModel", "gone", "[I", true)
  | 17 => ("CubeLegsModel", "cameAt", "[I", true)
  | 18 => ("CubeLegsModel", "homeAt", "[I", true)
  | 19 => ("CubeLegsModel", "delay", "[I", true)
  | 20 => ("CubeLegsModel", "ticks", "I", false)
  | 21 => ("CubeLegsModel", "mostWanted", "I", false)
  | 22 => ("CubeLegsModel", "goes", "[I", true)
  | 23 => ("CubeLegsModel", "text", "[I", true)
  | 24 => ("CubeLegsModel", "size", "I", false)
  | 25 => ("CubeLegsModel", "readAt", "I", false)
  | 26 => ("CubeLegsModel", "tokenAt", "I", false)
  | 27 => ("CubeLegsModel", "readNumber", "I", false)
  | _ => ("CubeLegsModel", "readMany", "I", false)
def tyX7 : Nat → FieldType := fun k => match k with
  | 0 => .array .int
  | 1 => .int
  | 2 => .int
  | 3 => .array .int
  | 4 => .array .int
  | 5 => .array .int
  | 6 => .array .int
  | 7 => .array .int
  | 8 => .int
  | 9 => .array .int
  | 10 => .array .int
  | 11 => .array .int
  | 12 => .array .int
  | 13 => .array .int
  | 14 => .int
  | 15 => .int
  | 16 => .array .int
  | 17 => .array .int
  | 18 => .array .int
  | 19 => .array .int
  | 20 => .int
  | 21 => .int
  | 22 => .array .int
  | 23 => .array .int
  | 24 => .int
  | 25 => .int
  | 26 => .int
  | 27 => .int
  | _ => .int
theorem nmX7 : ∀ a, a < 29 → ∀ b, b < 29 → a ≠ b → (TX7 a).2.1 ≠ (TX7 b).2.1 := by decide +kernel
theorem tyX7_ok : ∀ k, k < 29 → parseFieldDescriptor (TX7 k).2.2.1 = some (tyX7 k) := by decide +kernel
abbrev cX7_init : ByteArray := prog_9_method_1_code
def yX7_init : MethodName := ⟨RX7, "<init>", "()V"⟩
abbrev cX7_bad : ByteArray := prog_9_method_2_code
def yX7_bad : MethodName := ⟨RX7, "bad", "()I"⟩
abbrev cX7_no : ByteArray := prog_9_method_3_code
def yX7_no : MethodName := ⟨RX7, "no", "()I"⟩
abbrev cX7_full : ByteArray := prog_9_method_4_code
def yX7_full : MethodName := ⟨RX7, "full", "()I"⟩
abbrev cX7_in : ByteArray := prog_9_method_5_code
def yX7_in : MethodName := ⟨RX7, "in", "(III)Z"⟩
abbrev cX7_corners : ByteArray := prog_9_method_6_code
def yX7_corners : MethodName := ⟨RX7, "corners", "()I"⟩
abbrev cX7_isCorner : ByteArray := prog_9_method_7_code
def yX7_isCorner : MethodName := ⟨RX7, "isCorner", "(I)Z"⟩
abbrev cX7_isParcel : ByteArray := prog_9_method_8_code
def yX7_isParcel : MethodName := ⟨RX7, "isParcel", "(I)Z"⟩
abbrev cX7_isRank : ByteArray := prog_9_method_9_code
def yX7_isRank : MethodName := ⟨RX7, "isRank", "(I)Z"⟩
abbrev cX7_leavesState : ByteArray := prog_9_method_10_code
def yX7_leavesState : MethodName := ⟨RX7, "leavesState", "()V"⟩
abbrev cX7_back : ByteArray := prog_9_method_11_code
def yX7_back : MethodName := ⟨RX7, "back", "()I"⟩
abbrev cX7_sides : ByteArray := prog_9_method_12_code
def yX7_sides : MethodName := ⟨RX7, "sides", "(I)I"⟩
abbrev cX7_comes : ByteArray := prog_9_method_13_code
def yX7_comes : MethodName := ⟨RX7, "comes", "(IIII)V"⟩
abbrev cX7_parcel : ByteArray := prog_9_method_14_code
def yX7_parcel : MethodName := ⟨RX7, "parcel", "(IIII)I"⟩
abbrev cX7_tells : ByteArray := prog_9_method_15_code
def yX7_tells : MethodName := ⟨RX7, "tells", "(II)I"⟩
abbrev cX7_sets : ByteArray := prog_9_method_16_code
def yX7_sets : MethodName := ⟨RX7, "sets", "(III)I"⟩
abbrev cX7_rules : ByteArray := prog_9_method_17_code
def yX7_rules : MethodName := ⟨RX7, "rules", "(II)I"⟩
abbrev cX7_empties : ByteArray := prog_9_method_18_code
def yX7_empties : MethodName := ⟨RX7, "empties", "()I"⟩
abbrev cX7_turned : ByteArray := prog_9_method_19_code
def yX7_turned : MethodName := ⟨RX7, "turned", "(I)I"⟩
abbrev cX7_fills : ByteArray := prog_9_method_20_code
def yX7_fills : MethodName := ⟨RX7, "fills", "(II)I"⟩
abbrev cX7_comesLeg : ByteArray := prog_9_method_21_code
def yX7_comesLeg : MethodName := ⟨RX7, "comesLeg", "(III)V"⟩
abbrev cX7_setWay : ByteArray := prog_9_method_22_code
def yX7_setWay : MethodName := ⟨RX7, "setWay", "(II)V"⟩
abbrev cX7_setWays : ByteArray := prog_9_method_23_code
def yX7_setWays : MethodName := ⟨RX7, "setWays", "()V"⟩
abbrev cX7_edgeOf : ByteArray := prog_9_method_24_code
def yX7_edgeOf : MethodName := ⟨RX7, "edgeOf", "(II)I"⟩
abbrev cX7_uses : ByteArray := prog_9_method_25_code
def yX7_uses : MethodName := ⟨RX7, "uses", "(II)Z"⟩
abbrev cX7_metBy : ByteArray := prog_9_method_26_code
def yX7_metBy : MethodName := ⟨RX7, "metBy", "(I)I"⟩
abbrev cX7_ofBy : ByteArray := prog_9_method_27_code
def yX7_ofBy : MethodName := ⟨RX7, "ofBy", "(II)I"⟩
abbrev cX7_of : ByteArray := prog_9_method_28_code
def yX7_of : MethodName := ⟨RX7, "of", "(II)I"⟩
abbrev cX7_step : ByteArray := prog_9_method_29_code
def yX7_step : MethodName := ⟨RX7, "step", "(II)I"⟩
abbrev cX7_noLoads : ByteArray := prog_9_method_30_code
def yX7_noLoads : MethodName := ⟨RX7, "noLoads", "()V"⟩
abbrev cX7_loadsBy : ByteArray := prog_9_method_31_code
def yX7_loadsBy : MethodName := ⟨RX7, "loadsBy", "(II)V"⟩
abbrev cX7_setLoads : ByteArray := prog_9_method_32_code
def yX7_setLoads : MethodName := ⟨RX7, "setLoads", "()V"⟩
abbrev cX7_isEdge : ByteArray := prog_9_method_33_code
def yX7_isEdge : MethodName := ⟨RX7, "isEdge", "(II)Z"⟩
abbrev cX7_load : ByteArray := prog_9_method_34_code
def yX7_load : MethodName := ⟨RX7, "load", "(II)I"⟩
abbrev cX7_most : ByteArray := prog_9_method_35_code
def yX7_most : MethodName := ⟨RX7, "most", "()I"⟩
abbrev cX7_firstOf : ByteArray := prog_9_method_36_code
def yX7_firstOf : MethodName := ⟨RX7, "firstOf", "(I)I"⟩
abbrev cX7_tenTimes : ByteArray := prog_9_method_37_code
def yX7_tenTimes : MethodName := ⟨RX7, "tenTimes", "(I)I"⟩
abbrev cX7_loadsTell : ByteArray := prog_9_method_38_code
def yX7_loadsTell : MethodName := ⟨RX7, "loadsTell", "(I)I"⟩
abbrev cX7_loads : ByteArray := prog_9_method_39_code
def yX7_loads : MethodName := ⟨RX7, "loads", "(I)I"⟩
abbrev cX7_tellsPart : ByteArray := prog_9_method_40_code
def yX7_tellsPart : MethodName := ⟨RX7, "tellsPart", "(I)V"⟩
abbrev cX7_addsDrawn : ByteArray := prog_9_method_41_code
def yX7_addsDrawn : MethodName := ⟨RX7, "addsDrawn", "(I)V"⟩
abbrev cX7_setExpected : ByteArray := prog_9_method_42_code
def yX7_setExpected : MethodName := ⟨RX7, "setExpected", "(I)V"⟩
abbrev cX7_expected : ByteArray := prog_9_method_43_code
def yX7_expected : MethodName := ⟨RX7, "expected", "(III)I"⟩
abbrev cX7_part : ByteArray := prog_9_method_44_code
def yX7_part : MethodName := ⟨RX7, "part", "(I)I"⟩
abbrev cX7_greatest : ByteArray := prog_9_method_45_code
def yX7_greatest : MethodName := ⟨RX7, "greatest", "()I"⟩
abbrev cX7_squares : ByteArray := prog_9_method_46_code
def yX7_squares : MethodName := ⟨RX7, "squares", "()J"⟩
abbrev cX7_choosesFor : ByteArray := prog_9_method_47_code
def yX7_choosesFor : MethodName := ⟨RX7, "choosesFor", "(I)V"⟩
abbrev cX7_chooses : ByteArray := prog_9_method_48_code
def yX7_chooses : MethodName := ⟨RX7, "chooses", "()I"⟩
abbrev cX7_isAhead : ByteArray := prog_9_method_49_code
def yX7_isAhead : MethodName := ⟨RX7, "isAhead", "(III)Z"⟩
abbrev cX7_isHome : ByteArray := prog_9_method_50_code
def yX7_isHome : MethodName := ⟨RX7, "isHome", "(I)Z"⟩
abbrev cX7_setGoing : ByteArray := prog_9_method_51_code
def yX7_setGoing : MethodName := ⟨RX7, "setGoing", "(I)V"⟩
abbrev cX7_goesTick : ByteArray := prog_9_method_52_code
def yX7_goesTick : MethodName := ⟨RX7, "goesTick", "(I)V"⟩
abbrev cX7_allHome : ByteArray := prog_9_method_53_code
def yX7_allHome : MethodName := ⟨RX7, "allHome", "()Z"⟩
abbrev cX7_runs : ByteArray := prog_9_method_54_code
def yX7_runs : MethodName := ⟨RX7, "runs", "(II)V"⟩
abbrev cX7_runTells : ByteArray := prog_9_method_55_code
def yX7_runTells : MethodName := ⟨RX7, "runTells", "(I)I"⟩
abbrev cX7_run : ByteArray := prog_9_method_56_code
def yX7_run : MethodName := ⟨RX7, "run", "(I)I"⟩
abbrev cX7_ran : ByteArray := prog_9_method_57_code
def yX7_ran : MethodName := ⟨RX7, "ran", "(III)I"⟩
abbrev cX7_best : ByteArray := prog_9_method_58_code
def yX7_best : MethodName := ⟨RX7, "best", "(I)I"⟩
abbrev cX7_straight : ByteArray := prog_9_method_59_code
def yX7_straight : MethodName := ⟨RX7, "straight", "()I"⟩
abbrev cX7_type : ByteArray := prog_9_method_60_code
def yX7_type : MethodName := ⟨RX7, "type", "(I)I"⟩
abbrev cX7_clear : ByteArray := prog_9_method_61_code
def yX7_clear : MethodName := ⟨RX7, "clear", "()I"⟩
abbrev cX7_here : ByteArray := prog_9_method_62_code
def yX7_here : MethodName := ⟨RX7, "here", "()I"⟩
abbrev cX7_skips : ByteArray := prog_9_method_63_code
def yX7_skips : MethodName := ⟨RX7, "skips", "()V"⟩
abbrev cX7_number : ByteArray := prog_9_method_64_code
def yX7_number : MethodName := ⟨RX7, "number", "(I)Z"⟩
abbrev cX7_sign : ByteArray := prog_9_method_65_code
def yX7_sign : MethodName := ⟨RX7, "sign", "(I)Z"⟩
abbrev cX7_readsParcel : ByteArray := prog_9_method_66_code
def yX7_readsParcel : MethodName := ⟨RX7, "readsParcel", "(Z)Z"⟩
abbrev cX7_goesThrough : ByteArray := prog_9_method_67_code
def yX7_goesThrough : MethodName := ⟨RX7, "goesThrough", "(Z)I"⟩
abbrev cX7_reads : ByteArray := prog_9_method_68_code
def yX7_reads : MethodName := ⟨RX7, "reads", "()I"⟩
abbrev cX7_toldBy : ByteArray := prog_9_method_69_code
def yX7_toldBy : MethodName := ⟨RX7, "toldBy", "(I)I"⟩
abbrev cX7_told : ByteArray := prog_9_method_70_code
def yX7_told : MethodName := ⟨RX7, "told", "(I)I"⟩
abbrev cX7_digest : ByteArray := prog_9_method_71_code
def yX7_digest : MethodName := ⟨RX7, "digest", "()J"⟩
def RJ9 : String := "java/lang/Math"
abbrev cJ9_max_7cf53 : ByteArray := prog_10_method_65_code
def yJ9_max_7cf53 : MethodName := ⟨RJ9, "max", "(II)I"⟩
abbrev cJ9_min_7cf53 : ByteArray := prog_10_method_69_code
def yJ9_min_7cf53 : MethodName := ⟨RJ9, "min", "(II)I"⟩
def RJ10 : String := "java/lang/System"
def RJ7 : String := "java/util/Arrays"
abbrev cJ7_fill_53178 : ByteArray := prog_12_method_103_code
def yJ7_fill_53178 : MethodName := ⟨RJ7, "fill", "([II)V"⟩
def RL : String := "CubeLegsLaw"
abbrev cL_law : ByteArray := code
def yL_law : MethodName := ⟨RL, "law", "([I)Z"⟩
abbrev vwCl : List vw_C := [(RX0, TX0, 3), (RX1, TX1, 1), (RX2, TX2, 6), (RX3, TX3, 5), (RX4, TX4, 9), (RX5, TX5, 4), (RX6, TX6, 9), (RX7, TX7, 29)]
end
section
theorem dX0_init_0 : decode cX0_init 0 = .ok (.aload_n 0, 1) := by decide +kernel
theorem dX0_init_1 : decode cX0_init 1 = .ok (.invokespecial 3, 3) := by decide +kernel
theorem dX0_init_4 : decode cX0_init 4 = .ok (.aload_n 0, 1) := by decide +kernel
theorem dX0_init_5 : decode cX0_init 5 = .ok (.iconst 0, 1) := by decide +kernel
theorem dX0_init_6 : decode cX0_init 6 = .ok (.putfield 9, 3) := by decide +kernel
theorem dX0_init_9 : decode cX0_init 9 = .ok (.aload_n 0, 1) := by decide +kernel
theorem dX0_init_10 : decode cX0_init 10 = .ok (.iconst 0, 1) := by decide +kernel
theorem dX0_init_11 : decode cX0_init 11 = .ok (.putfield 15, 3) := by decide +kernel
theorem dX0_init_14 : decode cX0_init 14 = .ok (.aload_n 0, 1) := by decide +kernel
theorem dX0_init_15 : decode cX0_init 15 = .ok (.bipush 6, 2) := by decide +kernel
theorem dX0_init_17 : decode cX0_init 17 = .ok (.anewarray 18, 3) := by decide +kernel
theorem dX0_init_20 : decode cX0_init 20 = .ok (.putfield 20, 3) := by decide +kernel
theorem dX0_init_23 : decode cX0_init 23 = .ok (.iconst 0, 1) := by decide +kernel
theorem dX0_init_24 : decode cX0_init 24 = .ok (.istore_n 1, 1) := by decide +kernel
theorem dX0_init_25 : decode cX0_init 25 = .ok (.iload_n 1, 1) := by decide +kernel
theorem dX0_init_26 : decode cX0_init 26 = .ok (.bipush 6, 2) := by decide +kernel
theorem dX0_init_28 : decode cX0_init 28 = .ok (.if_icmp .ge 22, 3) := by decide +kernel
theorem dX0_init_31 : decode cX0_init 31 = .ok (.aload_n 0, 1) := by decide +kernel
theorem dX0_init_32 : decode cX0_init 32 = .ok (.getfield 20, 3) := by decide +kernel
theorem dX0_init_35 : decode cX0_init 35 = .ok (.iload_n 1, 1) := by decide +kernel
theorem dX0_init_36 : decode cX0_init 36 = .ok (.new 18, 3) := by decide +kernel
theorem dX0_init_39 : decode cX0_init 39 = .ok (.dup, 1) := by decide +kernel
theorem dX0_init_40 : decode cX0_init 40 = .ok (.invokespecial 24, 3) := by decide +kernel
theorem dX0_init_43 : decode cX0_init 43 = .ok (.aastore, 1) := by decide +kernel
theorem dX0_init_44 : decode cX0_init 44 = .ok (.iinc 1 1, 3) := by decide +kernel
theorem dX0_init_47 : decode cX0_init 47 = .ok (.goto (-22), 3) := by decide +kernel
theorem dX0_init_50 : decode cX0_init 50 = .ok (.return_, 1) := by decide +kernel
theorem dX0_keep_0 : decode cX0_keep 0 = .ok (.aload_n 0, 1) := by decide +kernel
theorem dX0_keep_1 : decode cX0_keep 1 = .ok (.aload_n 0, 1) := by decide +kernel
theorem dX0_keep_2 : decode cX0_keep 2 = .ok (.getfield 15, 3) := by decide +kernel
theorem dX0_keep_5 : decode cX0_keep 5 = .ok (.iconst 1, 1) := by decide +kernel
theorem dX0_keep_6 : decode cX0_keep 6 = .ok (.iadd, 1) := by decide +kernel
theorem dX0_keep_7 : decode cX0_keep 7 = .ok (.bipush 6, 2) := by decide +kernel
theorem dX0_keep_9 : decode cX0_keep 9 = .ok (.irem, 1) := by decide +kernel
theorem dX0_keep_10 : decode cX0_keep 10 = .ok (.putfield 15, 3) := by decide +kernel
theorem dX0_keep_13 : decode cX0_keep 13 = .ok (.aload_n 0, 1) := by decide +kernel
theorem dX0_keep_14 : decode cX0_keep 14 = .ok (.getfield 20, 3) := by decide +kernel
theorem dX0_keep_17 : decode cX0_keep 17 = .ok (.aload_n 0, 1) := by decide +kernel
theorem dX0_keep_18 : decode cX0_keep 18 = .ok (.getfield 15, 3) := by decide +kernel
theorem dX0_keep_21 : decode cX0_keep 21 = .ok (.aaload, 1) := by decide +kernel
theorem dX0_keep_22 : decode cX0_keep 22 = .ok (.aload_n 1, 1) := by decide +kernel
theorem dX0_keep_23 : decode cX0_keep 23 = .ok (.invokevirtual 25, 3) := by decide +kernel
theorem dX0_keep_26 : decode cX0_keep 26 = .ok (.aload_n 0, 1) := by decide +kernel
theorem dX0_keep_27 : decode cX0_keep 27 = .ok (.aload_n 0, 1) := by decide +kernel
theorem dX0_keep_28 : decode cX0_keep 28 = .ok (.getfield 9, 3) := by decide +kernel
theorem dX0_keep_31 : decode cX0_keep 31 = .ok (.iconst 1, 1) := by decide +kernel
theorem dX0_keep_32 : decode cX0_keep 32 = .ok (.iadd, 1) := by decide +kernel
theorem dX0_keep_33 : decode cX0_keep 33 = .ok (.bipush 6, 2) := by decide +kernel
theorem dX0_keep_35 : decode cX0_keep 35 = .ok (.invokestatic 29, 3) := by decide +kernel
theorem dX0_keep_38 : decode cX0_keep 38 = .ok (.putfield 9, 3) := by decide +kernel
theorem dX0_keep_41 : decode cX0_keep 41 = .ok (.return_, 1) := by decide +kernel
theorem dX0_restore_0 : decode cX0_restore 0 = .ok (.aload_n 0, 1) := by decide +kernel
theorem dX0_restore_1 : decode cX0_restore 1 = .ok (.getfield 9, 3) := by decide +kernel
theorem dX0_restore_4 : decode cX0_restore 4 = .ok (.ifCond .ne 4, 3) := by decide +kernel
theorem dX0_restore_7 : decode cX0_restore 7 = .ok (.return_, 1) := by decide +kernel
theorem dX0_restore_8 : decode cX0_restore 8 = .ok (.aload_n 1, 1) := by decide +kernel
theorem dX0_restore_9 : decode cX0_restore 9 = .ok (.aload_n 0, 1) := by decide +kernel
theorem dX0_restore_10 : decode cX0_restore 10 = .ok (.getfield 20, 3) := by decide +kernel
theorem dX0_restore_13 : decode cX0_restore 13 = .ok (.aload_n 0, 1) := by decide +kernel
theorem dX0_restore_14 : decode cX0_restore 14 = .ok (.getfield 15, 3) := by decide +kernel
theorem dX0_restore_17 : decode cX0_restore 17 = .ok (.aaload, 1) := by decide +kernel
theorem dX0_restore_18 : decode cX0_restore 18 = .ok (.invokevirtual 25, 3) := by decide +kernel
theorem dX0_restore_21 : decode cX0_restore 21 = .ok (.aload_n 0, 1) := by decide +kernel
theorem dX0_restore_22 : decode cX0_restore 22 = .ok (.aload_n 0, 1) := by decide +kernel
theorem dX0_restore_23 : decode cX0_restore 23 = .ok (.getfield 15, 3) := by decide +kernel
theorem dX0_restore_26 : decode cX0_restore 26 = .ok (.bipush 6, 2) := by decide +kernel
theorem dX0_restore_28 : decode cX0_restore 28 = .ok (.iadd, 1) := by decide +kernel
theorem dX0_restore_29 : decode cX0_restore 29 = .ok (.iconst 1, 1) := by decide +kernel
theorem dX0_restore_30 : decode cX0_restore 30 = .ok (.isub, 1) := by decide +kernel
theorem dX0_restore_31 : decode cX0_restore 31 = .ok (.bipush 6, 2) := by decide +kernel
theorem dX0_restore_33 : decode cX0_restore 33 = .ok (.irem, 1) := by decide +kernel
theorem dX0_restore_34 : decode cX0_restore 34 = .ok (.putfield 15, 3) := by decide +kernel
theorem dX0_restore_37 : decode cX0_restore 37 = .ok (.aload_n 0, 1) := by decide +kernel
theorem dX0_restore_38 : decode cX0_restore 38 = .ok (.dup, 1) := by decide +kernel
theorem dX0_restore_39 : decode cX0_restore 39 = .ok (.getfield 9, 3) := by decide +kernel
theorem dX0_restore_42 : decode cX0_restore 42 = .ok (.iconst 1, 1) := by decide +kernel
theorem dX0_restore_43 : decode cX0_restore 43 = .ok (.isub, 1) := by decide +kernel
theorem dX0_restore_44 : decode cX0_restore 44 = .ok (.putfield 9, 3) := by decide +kernel
theorem dX0_restore_47 : decode cX0_restore 47 = .ok (.return_, 1) := by decide +kernel
theorem dX1_init_0 : decode cX1_init 0 = .ok (.aload_n 0, 1) := by decide +kernel
theorem dX1_init_1 : decode cX1_init 1 = .ok (.invokespecial 3, 3) := by decide +kernel
theorem dX1_init_4 : decode cX1_init 4 = .ok (.aload_n 0, 1) := by decide +kernel
theorem dX1_init_5 : decode cX1_init 5 = .ok (.bipush 64, 2) := by decide +kernel
theorem dX1_init_7 : decode cX1_init 7 = .ok (.newarray .int, 2) := by decide +kernel
theorem dX1_init_9 : decode cX1_init 9 = .ok (.putfield 9, 3) := by decide +kernel
theorem dX1_init_12 : decode cX1_init 12 = .ok (.return_, 1) := by decide +kernel
theorem dX1_empty_0 : decode cX1_empty 0 = .ok (.aload_n 0, 1) := by decide +kernel
theorem dX1_empty_1 : decode cX1_empty 1 = .ok (.getfield 9, 3) := by decide +kernel
theorem dX1_empty_4 : decode cX1_empty 4 = .ok (.iconst 0, 1) := by decide +kernel
theorem dX1_empty_5 : decode cX1_empty 5 = .ok (.invokestatic 15, 3) := by decide +kernel
theorem dX1_empty_8 : decode cX1_empty 8 = .ok (.return_, 1) := by decide +kernel
theorem dX1_add_0 : decode cX1_add 0 = .ok (.iconst 0, 1) := by decide +kernel
theorem dX1_add_1 : decode cX1_add 1 = .ok (.istore 4, 2) := by decide +kernel
theorem dX1_add_3 : decode cX1_add 3 = .ok (.iload 4, 2) := by decide +kernel
theorem dX1_add_5 : decode cX1_add 5 = .ok (.aload_n 1, 1) := by decide +kernel
theorem dX1_add_6 : decode cX1_add 6 = .ok (.getfield 21, 3) := by decide +kernel
theorem dX1_add_9 : decode cX1_add 9 = .ok (.iload_n 2, 1) := by decide +kernel
theorem dX1_add_10 : decode cX1_add 10 = .ok (.iaload, 1) := by decide +kernel
theorem dX1_add_11 : decode cX1_add 11 = .ok (.if_icmp .ge 25, 3) := by decide +kernel
theorem dX1_add_14 : decode cX1_add 14 = .ok (.aload_n 0, 1) := by decide +kernel
theorem dX1_add_15 : decode cX1_add 15 = .ok (.getfield 9, 3) := by decide +kernel
theorem dX1_add_18 : decode cX1_add 18 = .ok (.aload_n 1, 1) := by decide +kernel
theorem dX1_add_19 : decode cX1_add 19 = .ok (.iload_n 2, 1) := by decide +kernel
theorem dX1_add_20 : decode cX1_add 20 = .ok (.iload 4, 2) := by decide +kernel
theorem dX1_add_22 : decode cX1_add 22 = .ok (.invokevirtual 26, 3) := by decide +kernel
theorem dX1_add_25 : decode cX1_add 25 = .ok (.dup2, 1) := by decide +kernel
theorem dX1_add_26 : decode cX1_add 26 = .ok (.iaload, 1) := by decide +kernel
theorem dX1_add_27 : decode cX1_add 27 = .ok (.iload_n 3, 1) := by decide +kernel
theorem dX1_add_28 : decode cX1_add 28 = .ok (.iadd, 1) := by decide +kernel
theorem dX1_add_29 : decode cX1_add 29 = .ok (.iastore, 1) := by decide +kernel
theorem dX1_add_30 : decode cX1_add 30 = .ok (.iinc 4 1, 3) := by decide +kernel
theorem dX1_add_33 : decode cX1_add 33 = .ok (.goto (-30), 3) := by decide +kernel
theorem dX1_add_36 : decode cX1_add 36 = .ok (.return_, 1) := by decide +kernel
theorem dX1_firstGreatest_0 : decode cX1_firstGreatest 0 = .ok (.iconst 0, 1) := by decide +kernel
theorem dX1_firstGreatest_1 : decode cX1_firstGreatest 1 = .ok (.istore_n 1, 1) := by decide +kernel
theorem dX1_firstGreatest_2 : decode cX1_firstGreatest 2 = .ok (.iconst 1, 1) := by decide +kernel
theorem dX1_firstGreatest_3 : decode cX1_firstGreatest 3 = .ok (.istore_n 2, 1) := by decide +kernel
theorem dX1_firstGreatest_4 : decode cX1_firstGreatest 4 = .ok (.iload_n 2, 1) := by decide +kernel
theorem dX1_firstGreatest_5 : decode cX1_firstGreatest 5 = .ok (.bipush 64, 2) := by decide +kernel
theorem dX1_firstGreatest_7 : decode cX1_firstGreatest 7 = .ok (.if_icmp .ge 26, 3) := by decide +kernel
theorem dX1_firstGreatest_10 : decode cX1_firstGreatest 10 = .ok (.aload_n 0, 1) := by decide +kernel
theorem dX1_firstGreatest_11 : decode cX1_firstGreatest 11 = .ok (.getfield 9, 3) := by decide +kernel
theorem dX1_firstGreatest_14 : decode cX1_firstGreatest 14 = .ok (.iload_n 2, 1) := by decide +kernel
theorem dX1_firstGreatest_15 : decode cX1_firstGreatest 15 = .ok (.iaload, 1) := by decide +kernel
theorem dX1_firstGreatest_16 : decode cX1_firstGreatest 16 = .ok (.aload_n 0, 1) := by decide +kernel
theorem dX1_firstGreatest_17 : decode cX1_firstGreatest 17 = .ok (.getfield 9, 3) := by decide +kernel
theorem dX1_firstGreatest_20 : decode cX1_firstGreatest 20 = .ok (.iload_n 1, 1) := by decide +kernel
theorem dX1_firstGreatest_21 : decode cX1_firstGreatest 21 = .ok (.iaload, 1) := by decide +kernel
theorem dX1_firstGreatest_22 : decode cX1_firstGreatest 22 = .ok (.if_icmp .le 5, 3) := by decide +kernel
theorem dX1_firstGreatest_25 : decode cX1_firstGreatest 25 = .ok (.iload_n 2, 1) := by decide +kernel
theorem dX1_firstGreatest_26 : decode cX1_firstGreatest 26 = .ok (.istore_n 1, 1) := by decide +kernel
theorem dX1_firstGreatest_27 : decode cX1_firstGreatest 27 = .ok (.iinc 2 1, 3) := by decide +kernel
theorem dX1_firstGreatest_30 : decode cX1_firstGreatest 30 = .ok (.goto (-26), 3) := by decide +kernel
theorem dX1_firstGreatest_33 : decode cX1_firstGreatest 33 = .ok (.iload_n 1, 1) := by decide +kernel
theorem dX1_firstGreatest_34 : decode cX1_firstGreatest 34 = .ok (.ireturn, 1) := by decide +kernel
theorem dX1_squares_0 : decode cX1_squares 0 = .ok (.iconst 0, 1) := by decide +kernel
theorem dX1_squares_1 : decode cX1_squares 1 = .ok (.istore_n 1, 1) := by decide +kernel
theorem dX1_squares_2 : decode cX1_squares 2 = .ok (.iconst 0, 1) := by decide +kernel
theorem dX1_squares_3 : decode cX1_squares 3 = .ok (.istore_n 2, 1) := by decide +kernel
theorem dX1_squares_4 : decode cX1_squares 4 = .ok (.iload_n 2, 1) := by decide +kernel
theorem dX1_squares_5 : decode cX1_squares 5 = .ok (.bipush 64, 2) := by decide +kernel
theorem dX1_squares_7 : decode cX1_squares 7 = .ok (.if_icmp .ge 25, 3) := by decide +kernel
theorem dX1_squares_10 : decode cX1_squares 10 = .ok (.iload_n 1, 1) := by decide +kernel
theorem dX1_squares_11 : decode cX1_squares 11 = .ok (.aload_n 0, 1) := by decide +kernel
theorem dX1_squares_12 : decode cX1_squares 12 = .ok (.getfield 9, 3) := by decide +kernel
theorem dX1_squares_15 : decode cX1_squares 15 = .ok (.iload_n 2, 1) := by decide +kernel
theorem dX1_squares_16 : decode cX1_squares 16 = .ok (.iaload, 1) := by decide +kernel
theorem dX1_squares_17 : decode cX1_squares 17 = .ok (.aload_n 0, 1) := by decide +kernel
theorem dX1_squares_18 : decode cX1_squares 18 = .ok (.getfield 9, 3) := by decide +kernel
theorem dX1_squares_21 : decode cX1_squares 21 = .ok (.iload_n 2, 1) := by decide +kernel
theorem dX1_squares_22 : decode cX1_squares 22 = .ok (.iaload, 1) := by decide +kernel
theorem dX1_squares_23 : decode cX1_squares 23 = .ok (.imul, 1) := by decide +kernel
theorem dX1_squares_24 : decode cX1_squares 24 = .ok (.iadd, 1) := by decide +kernel
theorem dX1_squares_25 : decode cX1_squares 25 = .ok (.istore_n 1, 1) := by decide +kernel
theorem dX1_squares_26 : decode cX1_squares 26 = .ok (.iinc 2 1, 3) := by decide +kernel
theorem dX1_squares_29 : decode cX1_squares 29 = .ok (.goto (-25), 3) := by decide +kernel
theorem dX1_squares_32 : decode cX1_squares 32 = .ok (.iload_n 1, 1) := by decide +kernel
theorem dX1_squares_33 : decode cX1_squares 33 = .ok (.ireturn, 1) := by decide +kernel
theorem dX1_countAtLeast_0 : decode cX1_countAtLeast 0 = .ok (.iconst 0, 1) := by decide +kernel
theorem dX1_countAtLeast_1 : decode cX1_countAtLeast 1 = .ok (.istore_n 3, 1) := by decide +kernel
theorem dX1_countAtLeast_2 : decode cX1_countAtLeast 2 = .ok (.iconst 0, 1) := by decide +kernel
theorem dX1_countAtLeast_3 : decode cX1_countAtLeast 3 = .ok (.istore 4, 2) := by decide +kernel
theorem dX1_countAtLeast_5 : decode cX1_countAtLeast 5 = .ok (.iload 4, 2) := by decide +kernel
theorem dX1_countAtLeast_7 : decode cX1_countAtLeast 7 = .ok (.aload_n 2, 1) := by decide +kernel
theorem dX1_countAtLeast_8 : decode cX1_countAtLeast 8 = .ok (.invokevirtual 30, 3) := by decide +kernel
theorem dX1_countAtLeast_11 : decode cX1_countAtLeast 11 = .ok (.if_icmp .ge 46, 3) := by decide +kernel
theorem dX1_countAtLeast_14 : decode cX1_countAtLeast 14 = .ok (.iconst 0, 1) := by decide +kernel
theorem dX1_countAtLeast_15 : decode cX1_countAtLeast 15 = .ok (.istore 5, 2) := by decide +kernel
theorem dX1_countAtLeast_17 : decode cX1_countAtLeast 17 = .ok (.iload 5, 2) := by decide +kernel
theorem dX1_countAtLeast_19 : decode cX1_countAtLeast 19 = .ok (.aload_n 2, 1) := by decide +kernel
theorem dX1_countAtLeast_20 : decode cX1_countAtLeast 20 = .ok (.getfield 36, 3) := by decide +kernel
theorem dX1_countAtLeast_23 : decode cX1_countAtLeast 23 = .ok (.if_icmp .ge 28, 3) := by decide +kernel
theorem dX1_countAtLeast_26 : decode cX1_countAtLeast 26 = .ok (.aload_n 0, 1) := by decide +kernel
theorem dX1_countAtLeast_27 : decode cX1_countAtLeast 27 = .ok (.getfield 9, 3) := by decide +kernel
theorem dX1_countAtLeast_30 : decode cX1_countAtLeast 30 = .ok (.iload 4, 2) := by decide +kernel
theorem dX1_countAtLeast_32 : decode cX1_countAtLeast 32 = .ok (.iconst 4, 1) := by decide +kernel
theorem dX1_countAtLeast_33 : decode cX1_countAtLeast 33 = .ok (.imul, 1) := by decide +kernel
theorem dX1_countAtLeast_34 : decode cX1_countAtLeast 34 = .ok (.iload 5, 2) := by decide +kernel
theorem dX1_countAtLeast_36 : decode cX1_countAtLeast 36 = .ok (.iadd, 1) := by decide +kernel
theorem dX1_countAtLeast_37 : decode cX1_countAtLeast 37 = .ok (.iaload, 1) := by decide +kernel
theorem dX1_countAtLeast_38 : decode cX1_countAtLeast 38 = .ok (.iload_n 1, 1) := by decide +kernel
theorem dX1_countAtLeast_39 : decode cX1_countAtLeast 39 = .ok (.if_icmp .lt 6, 3) := by decide +kernel
theorem dX1_countAtLeast_42 : decode cX1_countAtLeast 42 = .ok (.iinc 3 1, 3) := by decide +kernel
theorem dX1_countAtLeast_45 : decode cX1_countAtLeast 45 = .ok (.iinc 5 1, 3) := by decide +kernel
theorem dX1_countAtLeast_48 : decode cX1_countAtLeast 48 = .ok (.goto (-31), 3) := by decide +kernel
theorem dX1_countAtLeast_51 : decode cX1_countAtLeast 51 = .ok (.iinc 4 1, 3) := by decide +kernel
theorem dX1_countAtLeast_54 : decode cX1_countAtLeast 54 = .ok (.goto (-49), 3) := by decide +kernel
theorem dX1_countAtLeast_57 : decode cX1_countAtLeast 57 = .ok (.iload_n 3, 1) := by decide +kernel
theorem dX1_countAtLeast_58 : decode cX1_countAtLeast 58 = .ok (.ireturn, 1) := by decide +kernel
theorem dX2_init_0 : decode cX2_init 0 = .ok (.aload_n 0, 1) := by decide +kernel
theorem dX2_init_1 : decode cX2_init 1 = .ok (.invokespecial 3, 3) := by decide +kernel
theorem dX2_init_4 : decode cX2_init 4 = .ok (.aload_n 0, 1) := by decide +kernel
theorem dX2_init_5 : decode cX2_init 5 = .ok (.iconst 0, 1) := by decide +kernel
theorem dX2_init_6 : decode cX2_init 6 = .ok (.putfield 9, 3) := by decide +kernel
theorem dX2_init_9 : decode cX2_init 9 = .ok (.aload_n 0, 1) := by decide +kernel
theorem dX2_init_10 : decode cX2_init 10 = .ok (.iconst (-1), 1) := by decide +kernel
theorem dX2_init_11 : decode cX2_init 11 = .ok (.putfield 15, 3) := by decide +kernel
theorem dX2_init_14 : decode cX2_init 14 = .ok (.aload_n 0, 1) := by decide +kernel
theorem dX2_init_15 : decode cX2_init 15 = .ok (.iconst 0, 1) := by decide +kernel
theorem dX2_init_16 : decode cX2_init 16 = .ok (.putfield 18, 3) := by decide +kernel
theorem dX2_init_19 : decode cX2_init 19 = .ok (.aload_n 0, 1) := by decide +kernel
theorem dX2_init_20 : decode cX2_init 20 = .ok (.iconst 0, 1) := by decide +kernel
theorem dX2_init_21 : decode cX2_init 21 = .ok (.putfield 21, 3) := by decide +kernel
theorem dX2_init_24 : decode cX2_init 24 = .ok (.aload_n 0, 1) := by decide +kernel
theorem dX2_init_25 : decode cX2_init 25 = .ok (.bipush 120, 2) := by decide +kernel
theorem dX2_init_27 : decode cX2_init 27 = .ok (.newarray .byte, 2) := by decide +kernel
theorem dX2_init_29 : decode cX2_init 29 = .ok (.putfield 24, 3) := by decide +kernel
theorem dX2_init_32 : decode cX2_init 32 = .ok (.aload_n 0, 1) := by decide +kernel
theorem dX2_init_33 : decode cX2_init 33 = .ok (.bipush 64, 2) := by decide +kernel
theorem dX2_init_35 : decode cX2_init 35 = .ok (.newarray .int, 2) := by decide +kernel
theorem dX2_init_37 : decode cX2_init 37 = .ok (.putfield 28, 3) := by decide +kernel
theorem dX2_init_40 : decode cX2_init 40 = .ok (.return_, 1) := by decide +kernel
theorem dX2_append_0 : decode cX2_append 0 = .ok (.aload_n 0, 1) := by decide +kernel
theorem dX2_append_1 : decode cX2_append 1 = .ok (.getfield 9, 3) := by decide +kernel
theorem dX2_append_4 : decode cX2_append 4 = .ok (.bipush 120, 2) := by decide +kernel
theorem dX2_append_6 : decode cX2_append 6 = .ok (.if_icmp .ge 24, 3) := by decide +kernel
theorem dX2_append_9 : decode cX2_append 9 = .ok (.aload_n 0, 1) := by decide +kernel
theorem dX2_append_10 : decode cX2_append 10 = .ok (.getfield 24, 3) := by decide +kernel
theorem dX2_append_13 : decode cX2_append 13 = .ok (.aload_n 0, 1) := by decide +kernel
theorem dX2_append_14 : decode cX2_append 14 = .ok (.getfield 9, 3) := by decide +kernel
theorem dX2_append_17 : decode cX2_append 17 = .ok (.iload_n 1, 1) := by decide +kernel
theorem dX2_append_18 : decode cX2_append 18 = .ok (.i2b, 1) := by decide +kernel
theorem dX2_append_19 : decode cX2_append 19 = .ok (.bastore, 1) := by decide +kernel
theorem dX2_append_20 : decode cX2_append 20 = .ok (.aload_n 0, 1) := by decide +kernel
theorem dX2_append_21 : decode cX2_append 21 = .ok (.dup, 1) := by decide +kernel
theorem dX2_append_22 : decode cX2_append 22 = .ok (.getfield 9, 3) := by decide +kernel
theorem dX2_append_25 : decode cX2_append 25 = .ok (.iconst 1, 1) := by decide +kernel
theorem dX2_append_26 : decode cX2_append 26 = .ok (.iadd, 1) := by decide +kernel
theorem dX2_append_27 : decode cX2_append 27 = .ok (.putfield 9, 3) := by decide +kernel
theorem dX2_append_30 : decode cX2_append 30 = .ok (.return_, 1) := by decide +kernel
theorem dX2_trait_0 : decode cX2_trait 0 = .ok (.aload_n 0, 1) := by decide +kernel
theorem dX2_trait_1 : decode cX2_trait 1 = .ok (.getfield 28, 3) := by decide +kernel
theorem dX2_trait_4 : decode cX2_trait 4 = .ok (.iload_n 1, 1) := by decide +kernel
theorem dX2_trait_5 : decode cX2_trait 5 = .ok (.iconst 4, 1) := by decide +kernel
theorem dX2_trait_6 : decode cX2_trait 6 = .ok (.imul, 1) := by decide +kernel
theorem dX2_trait_7 : decode cX2_trait 7 = .ok (.iload_n 2, 1) := by decide +kernel
theorem dX2_trait_8 : decode cX2_trait 8 = .ok (.iadd, 1) := by decide +kernel
theorem dX2_trait_9 : decode cX2_trait 9 = .ok (.iaload, 1) := by decide +kernel
theorem dX2_trait_10 : decode cX2_trait 10 = .ok (.ireturn, 1) := by decide +kernel
theorem dX2_read_0 : decode cX2_read 0 = .ok (.aload_n 0, 1) := by decide +kernel
theorem dX2_read_1 : decode cX2_read 1 = .ok (.iconst (-1), 1) := by decide +kernel
theorem dX2_read_2 : decode cX2_read 2 = .ok (.putfield 15, 3) := by decide +kernel
theorem dX2_read_5 : decode cX2_read 5 = .ok (.aload_n 0, 1) := by decide +kernel
theorem dX2_read_6 : decode cX2_read 6 = .ok (.iconst 0, 1) := by decide +kernel
theorem dX2_read_7 : decode cX2_read 7 = .ok (.putfield 18, 3) := by decide +kernel
theorem dX2_read_10 : decode cX2_read 10 = .ok (.aload_n 0, 1) := by decide +kernel
theorem dX2_read_11 : decode cX2_read 11 = .ok (.iconst 0, 1) := by decide +kernel
theorem dX2_read_12 : decode cX2_read 12 = .ok (.putfield 21, 3) := by decide +kernel
theorem dX2_read_15 : decode cX2_read 15 = .ok (.aload_n 0, 1) := by decide +kernel
theorem dX2_read_16 : decode cX2_read 16 = .ok (.invokevirtual 32, 3) := by decide +kernel
theorem dX2_read_19 : decode cX2_read 19 = .ok (.aload_n 0, 1) := by decide +kernel
theorem dX2_read_20 : decode cX2_read 20 = .ok (.getfield 21, 3) := by decide +kernel
theorem dX2_read_23 : decode cX2_read 23 = .ok (.aload_n 0, 1) := by decide +kernel
theorem dX2_read_24 : decode cX2_read 24 = .ok (.getfield 9, 3) := by decide +kernel
theorem dX2_read_27 : decode cX2_read 27 = .ok (.if_icmp .lt 11, 3) := by decide +kernel
theorem dX2_read_30 : decode cX2_read 30 = .ok (.aload_n 0, 1) := by decide +kernel
theorem dX2_read_31 : decode cX2_read 31 = .ok (.aload_n 0, 1) := by decide +kernel
theorem dX2_read_32 : decode cX2_read 32 = .ok (.getfield 9, 3) := by decide +kernel
theorem dX2_read_35 : decode cX2_read 35 = .ok (.invokevirtual 35, 3) := by decide +kernel
theorem dX2_read_38 : decode cX2_read 38 = .ok (.iconst 0, 1) := by decide +kernel
theorem dX2_read_39 : decode cX2_read 39 = .ok (.istore_n 3, 1) := by decide +kernel
theorem dX2_read_40 : decode cX2_read 40 = .ok (.iload_n 3, 1) := by decide +kernel
theorem dX2_read_41 : decode cX2_read 41 = .ok (.bipush 120, 2) := by decide +kernel
theorem dX2_read_43 : decode cX2_read 43 = .ok (.if_icmp .ge 38, 3) := by decide +kernel
theorem dX2_read_46 : decode cX2_read 46 = .ok (.aload_n 0, 1) := by decide +kernel
theorem dX2_read_47 : decode cX2_read 47 = .ok (.getfield 21, 3) := by decide +kernel
theorem dX2_read_50 : decode cX2_read 50 = .ok (.aload_n 0, 1) := by decide +kernel
theorem dX2_read_51 : decode cX2_read 51 = .ok (.getfield 9, 3) := by decide +kernel
theorem dX2_read_54 : decode cX2_read 54 = .ok (.if_icmp .ge 27, 3) := by decide +kernel
theorem dX2_read_57 : decode cX2_read 57 = .ok (.aload_n 0, 1) := by decide +kernel
theorem dX2_read_58 : decode cX2_read 58 = .ok (.getfield 15, 3) := by decide +kernel
theorem dX2_read_61 : decode cX2_read 61 = .ok (.iconst (-1), 1) := by decide +kernel
theorem dX2_read_62 : decode cX2_read 62 = .ok (.if_icmp .ne 19, 3) := by decide +kernel
theorem dX2_read_65 : decode cX2_read 65 = .ok (.aload_n 0, 1) := by decide +kernel
theorem dX2_read_66 : decode cX2_read 66 = .ok (.iload_n 1, 1) := by decide +kernel
theorem dX2_read_67 : decode cX2_read 67 = .ok (.iload_n 2, 1) := by decide +kernel
theorem dX2_read_68 : decode cX2_read 68 = .ok (.invokevirtual 39, 3) := by decide +kernel
theorem dX2_read_71 : decode cX2_read 71 = .ok (.aload_n 0, 1) := by decide +kernel
theorem dX2_read_72 : decode cX2_read 72 = .ok (.invokevirtual 32, 3) := by decide +kernel
theorem dX2_read_75 : decode cX2_read 75 = .ok (.iinc 3 1, 3) := by decide +kernel
theorem dX2_read_78 : decode cX2_read 78 = .ok (.goto (-38), 3) := by decide +kernel
theorem dX2_read_81 : decode cX2_read 81 = .ok (.return_, 1) := by decide +kernel
theorem dX2_readParcel_0 : decode cX2_readParcel 0 = .ok (.iload_n 1, 1) := by decide +kernel
theorem dX2_readParcel_1 : decode cX2_readParcel 1 = .ok (.aload_n 0, 1) := by decide +kernel
theorem dX2_readParcel_2 : decode cX2_readParcel 2 = .ok (.getfield 18, 3) := by decide +kernel
theorem dX2_readParcel_5 : decode cX2_readParcel 5 = .ok (.iadd, 1) := by decide +kernel
theorem dX2_readParcel_6 : decode cX2_readParcel 6 = .ok (.bipush 16, 2) := by decide +kernel
theorem dX2_readParcel_8 : decode cX2_readParcel 8 = .ok (.if_icmp .lt 12, 3) := by decide +kernel
theorem dX2_readParcel_11 : decode cX2_readParcel 11 = .ok (.aload_n 0, 1) := by decide +kernel
theorem dX2_readParcel_12 : decode cX2_readParcel 12 = .ok (.aload_n 0, 1) := by decide +kernel
theorem dX2_readParcel_13 : decode cX2_readParcel 13 = .ok (.getfield 21, 3) := by decide +kernel
theorem dX2_readParcel_16 : decode cX2_readParcel 16 = .ok (.invokevirtual 35, 3) := by decide +kernel
theorem dX2_readParcel_19 : decode cX2_readParcel 19 = .ok (.return_, 1) := by decide +kernel
theorem dX2_readParcel_20 : decode cX2_readParcel 20 = .ok (.aload_n 0, 1) := by decide +kernel
theorem dX2_readParcel_21 : decode cX2_readParcel 21 = .ok (.iload_n 2, 1) := by decide +kernel
theorem dX2_readParcel_22 : decode cX2_readParcel 22 = .ok (.invokevirtual 43, 3) := by decide +kernel
theorem dX2_readParcel_25 : decode cX2_readParcel 25 = .ok (.istore_n 3, 1) := by decide +kernel
theorem dX2_readParcel_26 : decode cX2_readParcel 26 = .ok (.aload_n 0, 1) := by decide +kernel
theorem dX2_readParcel_27 : decode cX2_readParcel 27 = .ok (.bipush 62, 2) := by decide +kernel
theorem dX2_readParcel_29 : decode cX2_readParcel 29 = .ok (.invokevirtual 47, 3) := by decide +kernel
theorem dX2_readParcel_32 : decode cX2_readParcel 32 = .ok (.aload_n 0, 1) := by decide +kernel
theorem dX2_readParcel_33 : decode cX2_readParcel 33 = .ok (.iload_n 2, 1) := by decide +kernel
theorem dX2_readParcel_34 : decode cX2_readParcel 34 = .ok (.invokevirtual 43, 3) := by decide +kernel
theorem dX2_readParcel_37 : decode cX2_readParcel 37 = .ok (.istore 4, 2) := by decide +kernel
theorem dX2_readParcel_39 : decode cX2_readParcel 39 = .ok (.aload_n 0, 1) := by decide +kernel
theorem dX2_readParcel_40 : decode cX2_readParcel 40 = .ok (.bipush 47, 2) := by decide +kernel
theorem dX2_readParcel_42 : decode cX2_readParcel 42 = .ok (.invokevirtual 51, 3) := by decide +kernel
theorem dX2_readParcel_45 : decode cX2_readParcel 45 = .ok (.ifCond .eq 11, 3) := by decide +kernel
theorem dX2_readParcel_48 : decode cX2_readParcel 48 = .ok (.aload_n 0, 1) := by decide +kernel
theorem dX2_readParcel_49 : decode cX2_readParcel 49 = .ok (.iload_n 2, 1) := by decide +kernel
theorem dX2_readParcel_50 : decode cX2_readParcel 50 = .ok (.invokevirtual 43, 3) := by decide +kernel
theorem dX2_readParcel_53 : decode cX2_readParcel 53 = .ok (.goto 4, 3) := by decide +kernel
theorem dX2_readParcel_56 : decode cX2_readParcel 56 = .ok (.iload_n 3, 1) := by decide +kernel
theorem dX2_readParcel_57 : decode cX2_readParcel 57 = .ok (.istore 5, 2) := by decide +kernel
theorem dX2_readParcel_59 : decode cX2_readParcel 59 = .ok (.aload_n 0, 1) := by decide +kernel
theorem dX2_readParcel_60 : decode cX2_readParcel 60 = .ok (.bipush 42, 2) := by decide +kernel
theorem dX2_readParcel_62 : decode cX2_readParcel 62 = .ok (.invokevirtual 51, 3) := by decide +kernel
theorem dX2_readParcel_65 : decode cX2_readParcel 65 = .ok (.ifCond .eq 12, 3) := by decide +kernel
theorem dX2_readParcel_68 : decode cX2_readParcel 68 = .ok (.aload_n 0, 1) := by decide +kernel
theorem dX2_readParcel_69 : decode cX2_readParcel 69 = .ok (.bipush 100, 2) := by decide +kernel
theorem dX2_readParcel_71 : decode cX2_readParcel 71 = .ok (.invokevirtual 43, 3) := by decide +kernel
theorem dX2_readParcel_74 : decode cX2_readParcel 74 = .ok (.goto 4, 3) := by decide +kernel
theorem dX2_readParcel_77 : decode cX2_readParcel 77 = .ok (.iconst 0, 1) := by decide +kernel
theorem dX2_readParcel_78 : decode cX2_readParcel 78 = .ok (.istore 6, 2) := by decide +kernel
theorem dX2_readParcel_80 : decode cX2_readParcel 80 = .ok (.aload_n 0, 1) := by decide +kernel
theorem dX2_readParcel_81 : decode cX2_readParcel 81 = .ok (.bipush 59, 2) := by decide +kernel
theorem dX2_readParcel_83 : decode cX2_readParcel 83 = .ok (.invokevirtual 47, 3) := by decide +kernel
theorem dX2_readParcel_86 : decode cX2_readParcel 86 = .ok (.aload_n 0, 1) := by decide +kernel
theorem dX2_readParcel_87 : decode cX2_readParcel 87 = .ok (.getfield 15, 3) := by decide +kernel
theorem dX2_readParcel_90 : decode cX2_readParcel 90 = .ok (.iconst (-1), 1) := by decide +kernel
theorem dX2_readParcel_91 : decode cX2_readParcel 91 = .ok (.if_icmp .ne 72, 3) := by decide +kernel
theorem dX2_readParcel_94 : decode cX2_readParcel 94 = .ok (.aload_n 0, 1) := by decide +kernel
theorem dX2_readParcel_95 : decode cX2_readParcel 95 = .ok (.getfield 28, 3) := by decide +kernel
theorem dX2_readParcel_98 : decode cX2_readParcel 98 = .ok (.aload_n 0, 1) := by decide +kernel
theorem dX2_readParcel_99 : decode cX2_readParcel 99 = .ok (.getfield 18, 3) := by decide +kernel
theorem dX2_readParcel_102 : decode cX2_readParcel 102 = .ok (.iconst 4, 1) := by decide +kernel
theorem dX2_readParcel_103 : decode cX2_readParcel 103 = .ok (.imul, 1) := by decide +kernel
theorem dX2_readParcel_104 : decode cX2_readParcel 104 = .ok (.iconst 0, 1) := by decide +kernel
theorem dX2_readParcel_105 : decode cX2_readParcel 105 = .ok (.iadd, 1) := by decide +kernel
theorem dX2_readParcel_106 : decode cX2_readParcel 106 = .ok (.iload_n 3, 1) := by decide +kernel
theorem dX2_readParcel_107 : decode cX2_readParcel 107 = .ok (.iastore, 1) := by decide +kernel
theorem dX2_readParcel_108 : decode cX2_readParcel 108 = .ok (.aload_n 0, 1) := by decide +kernel
theorem dX2_readParcel_109 : decode cX2_readParcel 109 = .ok (.getfield 28, 3) := by decide +kernel
theorem dX2_readParcel_112 : decode cX2_readParcel 112 = .ok (.aload_n 0, 1) := by decide +kernel
theorem dX2_readParcel_113 : decode cX2_readParcel 113 = .ok (.getfield 18, 3) := by decide +kernel
theorem dX2_readParcel_116 : decode cX2_readParcel 116 = .ok (.iconst 4, 1) := by decide +kernel
theorem dX2_readParcel_117 : decode cX2_readParcel 117 = .ok (.imul, 1) := by decide +kernel
theorem dX2_readParcel_118 : decode cX2_readParcel 118 = .ok (.iconst 1, 1) := by decide +kernel
theorem dX2_readParcel_119 : decode cX2_readParcel 119 = .ok (.iadd, 1) := by decide +kernel
theorem dX2_readParcel_120 : decode cX2_readParcel 120 = .ok (.iload 4, 2) := by decide +kernel
theorem dX2_readParcel_122 : decode cX2_readParcel 122 = .ok (.iastore, 1) := by decide +kernel
theorem dX2_readParcel_123 : decode cX2_readParcel 123 = .ok (.aload_n 0, 1) := by decide +kernel
theorem dX2_readParcel_124 : decode cX2_readParcel 124 = .ok (.getfield 28, 3) := by decide +kernel
theorem dX2_readParcel_127 : decode cX2_readParcel 127 = .ok (.aload_n 0, 1) := by decide +kernel
theorem dX2_readParcel_128 : decode cX2_readParcel 128 = .ok (.getfield 18, 3) := by decide +kernel
theorem dX2_readParcel_131 : decode cX2_readParcel 131 = .ok (.iconst 4, 1) := by decide +kernel
theorem dX2_readParcel_132 : decode cX2_readParcel 132 = .ok (.imul, 1) := by decide +kernel
theorem dX2_readParcel_133 : decode cX2_readParcel 133 = .ok (.iconst 2, 1) := by decide +kernel
theorem dX2_readParcel_134 : decode cX2_readParcel 134 = .ok (.iadd, 1) := by decide +kernel
theorem dX2_readParcel_135 : decode cX2_readParcel 135 = .ok (.iload 5, 2) := by decide +kernel
theorem dX2_readParcel_137 : decode cX2_readParcel 137 = .ok (.iastore, 1) := by decide +kernel
theorem dX2_readParcel_138 : decode cX2_readParcel 138 = .ok (.aload_n 0, 1) := by decide +kernel
theorem dX2_readParcel_139 : decode cX2_readParcel 139 = .ok (.getfield 28, 3) := by decide +kernel
theorem dX2_readParcel_142 : decode cX2_readParcel 142 = .ok (.aload_n 0, 1) := by decide +kernel
theorem dX2_readParcel_143 : decode cX2_readParcel 143 = .ok (.getfield 18, 3) := by decide +kernel
theorem dX2_readParcel_146 : decode cX2_readParcel 146 = .ok (.iconst 4, 1) := by decide +kernel
theorem dX2_readParcel_147 : decode cX2_readParcel 147 = .ok (.imul, 1) := by decide +kernel
theorem dX2_readParcel_148 : decode cX2_readParcel 148 = .ok (.iconst 3, 1) := by decide +kernel
theorem dX2_readParcel_149 : decode cX2_readParcel 149 = .ok (.iadd, 1) := by decide +kernel
theorem dX2_readParcel_150 : decode cX2_readParcel 150 = .ok (.iload 6, 2) := by decide +kernel
theorem dX2_readParcel_152 : decode cX2_readParcel 152 = .ok (.iastore, 1) := by decide +kernel
theorem dX2_readParcel_153 : decode cX2_readParcel 153 = .ok (.aload_n 0, 1) := by decide +kernel
theorem dX2_readParcel_154 : decode cX2_readParcel 154 = .ok (.dup, 1) := by decide +kernel
theorem dX2_readParcel_155 : decode cX2_readParcel 155 = .ok (.getfield 18, 3) := by decide +kernel
theorem dX2_readParcel_158 : decode cX2_readParcel 158 = .ok (.iconst 1, 1) := by decide +kernel
theorem dX2_readParcel_159 : decode cX2_readParcel 159 = .ok (.iadd, 1) := by decide +kernel
theorem dX2_readParcel_160 : decode cX2_readParcel 160 = .ok (.putfield 18, 3) := by decide +kernel
theorem dX2_readParcel_163 : decode cX2_readParcel 163 = .ok (.return_, 1) := by decide +kernel
theorem dX2_readNumber_0 : decode cX2_readNumber 0 = .ok (.aload_n 0, 1) := by decide +kernel
theorem dX2_readNumber_1 : decode cX2_readNumber 1 = .ok (.getfield 15, 3) := by decide +kernel
theorem dX2_readNumber_4 : decode cX2_readNumber 4 = .ok (.iconst (-1), 1) := by decide +kernel
theorem dX2_readNumber_5 : decode cX2_readNumber 5 = .ok (.if_icmp .eq 5, 3) := by decide +kernel
theorem dX2_readNumber_8 : decode cX2_readNumber 8 = .ok (.iconst 0, 1) := by decide +kernel
theorem dX2_readNumber_9 : decode cX2_readNumber 9 = .ok (.ireturn, 1) := by decide +kernel
theorem dX2_readNumber_10 : decode cX2_readNumber 10 = .ok (.aload_n 0, 1) := by decide +kernel
theorem dX2_readNumber_11 : decode cX2_readNumber 11 = .ok (.invokevirtual 32, 3) := by decide +kernel
theorem dX2_readNumber_14 : decode cX2_readNumber 14 = .ok (.aload_n 0, 1) := by decide +kernel
theorem dX2_readNumber_15 : decode cX2_readNumber 15 = .ok (.getfield 21, 3) := by decide +kernel
theorem dX2_readNumber_18 : decode cX2_readNumber 18 = .ok (.istore_n 2, 1) := by decide +kernel
theorem dX2_readNumber_19 : decode cX2_readNumber 19 = .ok (.iconst 0, 1) := by decide +kernel
theorem dX2_readNumber_20 : decode cX2_readNumber 20 = .ok (.istore_n 3, 1) := by decide +kernel
theorem dX2_readNumber_21 : decode cX2_readNumber 21 = .ok (.aload_n 0, 1) := by decide +kernel
theorem dX2_readNumber_22 : decode cX2_readNumber 22 = .ok (.getfield 21, 3) := by decide +kernel
theorem dX2_readNumber_25 : decode cX2_readNumber 25 = .ok (.aload_n 0, 1) := by decide +kernel
theorem dX2_readNumber_26 : decode cX2_readNumber 26 = .ok (.getfield 9, 3) := by decide +kernel
theorem dX2_readNumber_29 : decode cX2_readNumber 29 = .ok (.if_icmp .ge 66, 3) := by decide +kernel
theorem dX2_readNumber_32 : decode cX2_readNumber 32 = .ok (.aload_n 0, 1) := by decide +kernel
theorem dX2_readNumber_33 : decode cX2_readNumber 33 = .ok (.getfield 24, 3) := by decide +kernel
theorem dX2_readNumber_36 : decode cX2_readNumber 36 = .ok (.aload_n 0, 1) := by decide +kernel
theorem dX2_readNumber_37 : decode cX2_readNumber 37 = .ok (.getfield 21, 3) := by decide +kernel
theorem dX2_readNumber_40 : decode cX2_readNumber 40 = .ok (.baload, 1) := by decide +kernel
theorem dX2_readNumber_41 : decode cX2_readNumber 41 = .ok (.bipush 48, 2) := by decide +kernel
theorem dX2_readNumber_43 : decode cX2_readNumber 43 = .ok (.if_icmp .lt 52, 3) := by decide +kernel
theorem dX2_readNumber_46 : decode cX2_readNumber 46 = .ok (.aload_n 0, 1) := by decide +kernel
theorem dX2_readNumber_47 : decode cX2_readNumber 47 = .ok (.getfield 24, 3) := by decide +kernel
theorem dX2_readNumber_50 : decode cX2_readNumber 50 = .ok (.aload_n 0, 1) := by decide +kernel
theorem dX2_readNumber_51 : decode cX2_readNumber 51 = .ok (.getfield 21, 3) := by decide +kernel
theorem dX2_readNumber_54 : decode cX2_readNumber 54 = .ok (.baload, 1) := by decide +kernel
theorem dX2_readNumber_55 : decode cX2_readNumber 55 = .ok (.bipush 57, 2) := by decide +kernel
theorem dX2_readNumber_57 : decode cX2_readNumber 57 = .ok (.if_icmp .gt 38, 3) := by decide +kernel
theorem dX2_readNumber_60 : decode cX2_readNumber 60 = .ok (.bipush 10, 2) := by decide +kernel
theorem dX2_readNumber_62 : decode cX2_readNumber 62 = .ok (.iload_n 3, 1) := by decide +kernel
theorem dX2_readNumber_63 : decode cX2_readNumber 63 = .ok (.imul, 1) := by decide +kernel
theorem dX2_readNumber_64 : decode cX2_readNumber 64 = .ok (.aload_n 0, 1) := by decide +kernel
theorem dX2_readNumber_65 : decode cX2_readNumber 65 = .ok (.getfield 24, 3) := by decide +kernel
theorem dX2_readNumber_68 : decode cX2_readNumber 68 = .ok (.aload_n 0, 1) := by decide +kernel
theorem dX2_readNumber_69 : decode cX2_readNumber 69 = .ok (.getfield 21, 3) := by decide +kernel
theorem dX2_readNumber_72 : decode cX2_readNumber 72 = .ok (.baload, 1) := by decide +kernel
theorem dX2_readNumber_73 : decode cX2_readNumber 73 = .ok (.iadd, 1) := by decide +kernel
theorem dX2_readNumber_74 : decode cX2_readNumber 74 = .ok (.bipush 48, 2) := by decide +kernel
theorem dX2_readNumber_76 : decode cX2_readNumber 76 = .ok (.isub, 1) := by decide +kernel
theorem dX2_readNumber_77 : decode cX2_readNumber 77 = .ok (.iload_n 1, 1) := by decide +kernel
theorem dX2_readNumber_78 : decode cX2_readNumber 78 = .ok (.invokestatic 55, 3) := by decide +kernel
theorem dX2_readNumber_81 : decode cX2_readNumber 81 = .ok (.istore_n 3, 1) := by decide +kernel
theorem dX2_readNumber_82 : decode cX2_readNumber 82 = .ok (.aload_n 0, 1) := by decide +kernel
theorem dX2_readNumber_83 : decode cX2_readNumber 83 = .ok (.dup, 1) := by decide +kernel
theorem dX2_readNumber_84 : decode cX2_readNumber 84 = .ok (.getfield 21, 3) := by decide +kernel
theorem dX2_readNumber_87 : decode cX2_readNumber 87 = .ok (.iconst 1, 1) := by decide +kernel
theorem dX2_readNumber_88 : decode cX2_readNumber 88 = .ok (.iadd, 1) := by decide +kernel
theorem dX2_readNumber_89 : decode cX2_readNumber 89 = .ok (.putfield 21, 3) := by decide +kernel
theorem dX2_readNumber_92 : decode cX2_readNumber 92 = .ok (.goto (-71), 3) := by decide +kernel
theorem dX2_readNumber_95 : decode cX2_readNumber 95 = .ok (.aload_n 0, 1) := by decide +kernel
theorem dX2_readNumber_96 : decode cX2_readNumber 96 = .ok (.getfield 21, 3) := by decide +kernel
theorem dX2_readNumber_99 : decode cX2_readNumber 99 = .ok (.iload_n 2, 1) := by decide +kernel
theorem dX2_readNumber_100 : decode cX2_readNumber 100 = .ok (.if_icmp .eq 18, 3) := by decide +kernel
theorem dX2_readNumber_103 : decode cX2_readNumber 103 = .ok (.aload_n 0, 1) := by decide +kernel
theorem dX2_readNumber_104 : decode cX2_readNumber 104 = .ok (.getfield 21, 3) := by decide +kernel
theorem dX2_readNumber_107 : decode cX2_readNumber 107 = .ok (.iload_n 2, 1) := by decide +kernel
theorem dX2_readNumber_108 : decode cX2_readNumber 108 = .ok (.isub, 1) := by decide +kernel
theorem dX2_readNumber_109 : decode cX2_readNumber 109 = .ok (.iconst 2, 1) := by decide +kernel
theorem dX2_readNumber_110 : decode cX2_readNumber 110 = .ok (.if_icmp .gt 8, 3) := by decide +kernel
theorem dX2_readNumber_113 : decode cX2_readNumber 113 = .ok (.iload_n 3, 1) := by decide +kernel
theorem dX2_readNumber_114 : decode cX2_readNumber 114 = .ok (.iload_n 1, 1) := by decide +kernel
theorem dX2_readNumber_115 : decode cX2_readNumber 115 = .ok (.if_icmp .lt 8, 3) := by decide +kernel
theorem dX2_readNumber_118 : decode cX2_readNumber 118 = .ok (.aload_n 0, 1) := by decide +kernel
theorem dX2_readNumber_119 : decode cX2_readNumber 119 = .ok (.iload_n 2, 1) := by decide +kernel
theorem dX2_readNumber_120 : decode cX2_readNumber 120 = .ok (.invokevirtual 35, 3) := by decide +kernel
theorem dX2_readNumber_123 : decode cX2_readNumber 123 = .ok (.iload_n 3, 1) := by decide +kernel
theorem dX2_readNumber_124 : decode cX2_readNumber 124 = .ok (.ireturn, 1) := by decide +kernel
theorem dX2_takes_0 : decode cX2_takes 0 = .ok (.aload_n 0, 1) := by decide +kernel
theorem dX2_takes_1 : decode cX2_takes 1 = .ok (.getfield 15, 3) := by decide +kernel
theorem dX2_takes_4 : decode cX2_takes 4 = .ok (.iconst (-1), 1) := by decide +kernel
theorem dX2_takes_5 : decode cX2_takes 5 = .ok (.if_icmp .eq 5, 3) := by decide +kernel
theorem dX2_takes_8 : decode cX2_takes 8 = .ok (.iconst 0, 1) := by decide +kernel
theorem dX2_takes_9 : decode cX2_takes 9 = .ok (.ireturn, 1) := by decide +kernel
theorem dX2_takes_10 : decode cX2_takes 10 = .ok (.aload_n 0, 1) := by decide +kernel
theorem dX2_takes_11 : decode cX2_takes 11 = .ok (.invokevirtual 32, 3) := by decide +kernel
theorem dX2_takes_14 : decode cX2_takes 14 = .ok (.aload_n 0, 1) := by decide +kernel
theorem dX2_takes_15 : decode cX2_takes 15 = .ok (.getfield 21, 3) := by decide +kernel
theorem dX2_takes_18 : decode cX2_takes 18 = .ok (.aload_n 0, 1) := by decide +kernel
theorem dX2_takes_19 : decode cX2_takes 19 = .ok (.getfield 9, 3) := by decide +kernel
theorem dX2_takes_22 : decode cX2_takes 22 = .ok (.if_icmp .ge 28, 3) := by decide +kernel
theorem dX2_takes_25 : decode cX2_takes 25 = .ok (.aload_n 0, 1) := by decide +kernel
theorem dX2_takes_26 : decode cX2_takes 26 = .ok (.getfield 24, 3) := by decide +kernel
theorem dX2_takes_29 : decode cX2_takes 29 = .ok (.aload_n 0, 1) := by decide +kernel
theorem dX2_takes_30 : decode cX2_takes 30 = .ok (.getfield 21, 3) := by decide +kernel
theorem dX2_takes_33 : decode cX2_takes 33 = .ok (.baload, 1) := by decide +kernel
theorem dX2_takes_34 : decode cX2_takes 34 = .ok (.iload_n 1, 1) := by decide +kernel
theorem dX2_takes_35 : decode cX2_takes 35 = .ok (.if_icmp .ne 15, 3) := by decide +kernel
theorem dX2_takes_38 : decode cX2_takes 38 = .ok (.aload_n 0, 1) := by decide +kernel
theorem dX2_takes_39 : decode cX2_takes 39 = .ok (.dup, 1) := by decide +kernel
theorem dX2_takes_40 : decode cX2_takes 40 = .ok (.getfield 21, 3) := by decide +kernel
theorem dX2_takes_43 : decode cX2_takes 43 = .ok (.iconst 1, 1) := by decide +kernel
theorem dX2_takes_44 : decode cX2_takes 44 = .ok (.iadd, 1) := by decide +kernel
theorem dX2_takes_45 : decode cX2_takes 45 = .ok (.putfield 21, 3) := by decide +kernel
theorem dX2_takes_48 : decode cX2_takes 48 = .ok (.iconst 1, 1) := by decide +kernel
theorem dX2_takes_49 : decode cX2_takes 49 = .ok (.ireturn, 1) := by decide +kernel
theorem dX2_takes_50 : decode cX2_takes 50 = .ok (.iconst 0, 1) := by decide +kernel
theorem dX2_takes_51 : decode cX2_takes 51 = .ok (.ireturn, 1) := by decide +kernel
theorem dX2_need_0 : decode cX2_need 0 = .ok (.aload_n 0, 1) := by decide +kernel
theorem dX2_need_1 : decode cX2_need 1 = .ok (.iload_n 1, 1) := by decide +kernel
theorem dX2_need_2 : decode cX2_need 2 = .ok (.invokevirtual 51, 3) := by decide +kernel
theorem dX2_need_5 : decode cX2_need 5 = .ok (.ifCond .ne 11, 3) := by decide +kernel
theorem dX2_need_8 : decode cX2_need 8 = .ok (.aload_n 0, 1) := by decide +kernel
theorem dX2_need_9 : decode cX2_need 9 = .ok (.aload_n 0, 1) := by decide +kernel
theorem dX2_need_10 : decode cX2_need 10 = .ok (.getfield 21, 3) := by decide +kernel
theorem dX2_need_13 : decode cX2_need 13 = .ok (.invokevirtual 35, 3) := by decide +kernel
theorem dX2_need_16 : decode cX2_need 16 = .ok (.return_, 1) := by decide +kernel
theorem dX2_skipBlanks_0 : decode cX2_skipBlanks 0 = .ok (.aload_n 0, 1) := by decide +kernel
theorem dX2_skipBlanks_1 : decode cX2_skipBlanks 1 = .ok (.getfield 21, 3) := by decide +kernel
theorem dX2_skipBlanks_4 : decode cX2_skipBlanks 4 = .ok (.aload_n 0, 1) := by decide +kernel
theorem dX2_skipBlanks_5 : decode cX2_skipBlanks 5 = .ok (.getfield 9, 3) := by decide +kernel
theorem dX2_skipBlanks_8 : decode cX2_skipBlanks 8 = .ok (.if_icmp .ge 30, 3) := by decide +kernel
theorem dX2_skipBlanks_11 : decode cX2_skipBlanks 11 = .ok (.aload_n 0, 1) := by decide +kernel
theorem dX2_skipBlanks_12 : decode cX2_skipBlanks 12 = .ok (.getfield 24, 3) := by decide +kernel
theorem dX2_skipBlanks_15 : decode cX2_skipBlanks 15 = .ok (.aload_n 0, 1) := by decide +kernel
theorem dX2_skipBlanks_16 : decode cX2_skipBlanks 16 = .ok (.getfield 21, 3) := by decide +kernel
theorem dX2_skipBlanks_19 : decode cX2_skipBlanks 19 = .ok (.baload, 1) := by decide +kernel
theorem dX2_skipBlanks_20 : decode cX2_skipBlanks 20 = .ok (.bipush 32, 2) := by decide +kernel
theorem dX2_skipBlanks_22 : decode cX2_skipBlanks 22 = .ok (.if_icmp .ne 16, 3) := by decide +kernel
theorem dX2_skipBlanks_25 : decode cX2_skipBlanks 25 = .ok (.aload_n 0, 1) := by decide +kernel
theorem dX2_skipBlanks_26 : decode cX2_skipBlanks 26 = .ok (.dup, 1) := by decide +kernel
theorem dX2_skipBlanks_27 : decode cX2_skipBlanks 27 = .ok (.getfield 21, 3) := by decide +kernel
theorem dX2_skipBlanks_30 : decode cX2_skipBlanks 30 = .ok (.iconst 1, 1) := by decide +kernel
theorem dX2_skipBlanks_31 : decode cX2_skipBlanks 31 = .ok (.iadd, 1) := by decide +kernel
theorem dX2_skipBlanks_32 : decode cX2_skipBlanks 32 = .ok (.putfield 21, 3) := by decide +kernel
theorem dX2_skipBlanks_35 : decode cX2_skipBlanks 35 = .ok (.goto (-35), 3) := by decide +kernel
theorem dX2_skipBlanks_38 : decode cX2_skipBlanks 38 = .ok (.return_, 1) := by decide +kernel
theorem dX2_failAt_0 : decode cX2_failAt 0 = .ok (.aload_n 0, 1) := by decide +kernel
theorem dX2_failAt_1 : decode cX2_failAt 1 = .ok (.getfield 15, 3) := by decide +kernel
theorem dX2_failAt_4 : decode cX2_failAt 4 = .ok (.iconst (-1), 1) := by decide +kernel
theorem dX2_failAt_5 : decode cX2_failAt 5 = .ok (.if_icmp .ne 8, 3) := by decide +kernel
theorem dX2_failAt_8 : decode cX2_failAt 8 = .ok (.aload_n 0, 1) := by decide +kernel
theorem dX2_failAt_9 : decode cX2_failAt 9 = .ok (.iload_n 1, 1) := by decide +kernel
theorem dX2_failAt_10 : decode cX2_failAt 10 = .ok (.putfield 15, 3) := by decide +kernel
theorem dX2_failAt_13 : decode cX2_failAt 13 = .ok (.return_, 1) := by decide +kernel
theorem dX3_init_0 : decode cX3_init 0 = .ok (.aload_n 0, 1) := by decide +kernel
theorem dX3_init_1 : decode cX3_init 1 = .ok (.invokespecial 3, 3) := by decide +kernel
theorem dX3_init_4 : decode cX3_init 4 = .ok (.aload_n 0, 1) := by decide +kernel
theorem dX3_init_5 : decode cX3_init 5 = .ok (.iconst 3, 1) := by decide +kernel
theorem dX3_init_6 : decode cX3_init 6 = .ok (.putfield 9, 3) := by decide +kernel
theorem dX3_init_9 : decode cX3_init 9 = .ok (.aload_n 0, 1) := by decide +kernel
theorem dX3_init_10 : decode cX3_init 10 = .ok (.iconst 0, 1) := by decide +kernel
theorem dX3_init_11 : decode cX3_init 11 = .ok (.putfield 15, 3) := by decide +kernel
theorem dX3_init_14 : decode cX3_init 14 = .ok (.aload_n 0, 1) := by decide +kernel
theorem dX3_init_15 : decode cX3_init 15 = .ok (.iconst 0, 1) := by decide +kernel
theorem dX3_init_16 : decode cX3_init 16 = .ok (.putfield 18, 3) := by decide +kernel
theorem dX3_init_19 : decode cX3_init 19 = .ok (.aload_n 0, 1) := by decide +kernel
theorem dX3_init_20 : decode cX3_init 20 = .ok (.iconst 0, 1) := by decide +kernel
theorem dX3_init_21 : decode cX3_init 21 = .ok (.putfield 21, 3) := by decide +kernel
theorem dX3_init_24 : decode cX3_init 24 = .ok (.aload_n 0, 1) := by decide +kernel
theorem dX3_init_25 : decode cX3_init 25 = .ok (.bipush 64, 2) := by decide +kernel
theorem dX3_init_27 : decode cX3_init 27 = .ok (.newarray .int, 2) := by decide +kernel
theorem dX3_init_29 : decode cX3_init 29 = .ok (.putfield 24, 3) := by decide +kernel
theorem dX3_init_32 : decode cX3_init 32 = .ok (.return_, 1) := by decide +kernel
theorem dX3_corners_0 : decode cX3_corners 0 = .ok (.iconst 1, 1) := by decide +kernel
theorem dX3_corners_1 : decode cX3_corners 1 = .ok (.aload_n 0, 1) := by decide +kernel
theorem dX3_corners_2 : decode cX3_corners 2 = .ok (.getfield 9, 3) := by decide +kernel
theorem dX3_corners_5 : decode cX3_corners 5 = .ok (.ishl, 1) := by decide +kernel
theorem dX3_corners_6 : decode cX3_corners 6 = .ok (.ireturn, 1) := by decide +kernel
theorem dX3_has_0 : decode cX3_has 0 = .ok (.iload_n 1, 1) := by decide +kernel
theorem dX3_has_1 : decode cX3_has 1 = .ok (.ifCond .lt 15, 3) := by decide +kernel
theorem dX3_has_4 : decode cX3_has 4 = .ok (.iload_n 1, 1) := by decide +kernel
theorem dX3_has_5 : decode cX3_has 5 = .ok (.aload_n 0, 1) := by decide +kernel
theorem dX3_has_6 : decode cX3_has 6 = .ok (.getfield 21, 3) := by decide +kernel
theorem dX3_has_9 : decode cX3_has 9 = .ok (.if_icmp .ge 7, 3) := by decide +kernel
theorem dX3_has_12 : decode cX3_has 12 = .ok (.iconst 1, 1) := by decide +kernel
theorem dX3_has_13 : decode cX3_has 13 = .ok (.goto 4, 3) := by decide +kernel
theorem dX3_has_16 : decode cX3_has 16 = .ok (.iconst 0, 1) := by decide +kernel
theorem dX3_has_17 : decode cX3_has 17 = .ok (.ireturn, 1) := by decide +kernel
theorem dX3_hasEdge_0 : decode cX3_hasEdge 0 = .ok (.iload_n 1, 1) := by decide +kernel
theorem dX3_hasEdge_1 : decode cX3_hasEdge 1 = .ok (.ifCond .lt 27, 3) := by decide +kernel
theorem dX3_hasEdge_4 : decode cX3_hasEdge 4 = .ok (.iload_n 1, 1) := by decide +kernel
theorem dX3_hasEdge_5 : decode cX3_hasEdge 5 = .ok (.aload_n 0, 1) := by decide +kernel
theorem dX3_hasEdge_6 : decode cX3_hasEdge 6 = .ok (.invokevirtual 28, 3) := by decide +kernel
theorem dX3_hasEdge_9 : decode cX3_hasEdge 9 = .ok (.if_icmp .ge 19, 3) := by decide +kernel
theorem dX3_hasEdge_12 : decode cX3_hasEdge 12 = .ok (.iload_n 2, 1) := by decide +kernel
theorem dX3_hasEdge_13 : decode cX3_hasEdge 13 = .ok (.ifCond .lt 15, 3) := by decide +kernel
theorem dX3_hasEdge_16 : decode cX3_hasEdge 16 = .ok (.iload_n 2, 1) := by decide +kernel
theorem dX3_hasEdge_17 : decode cX3_hasEdge 17 = .ok (.aload_n 0, 1) := by decide +kernel
theorem dX3_hasEdge_18 : decode cX3_hasEdge 18 = .ok (.getfield 9, 3) := by decide +kernel
theorem dX3_hasEdge_21 : decode cX3_hasEdge 21 = .ok (.if_icmp .ge 7, 3) := by decide +kernel
theorem dX3_hasEdge_24 : decode cX3_hasEdge 24 = .ok (.iconst 1, 1) := by decide +kernel
theorem dX3_hasEdge_25 : decode cX3_hasEdge 25 = .ok (.goto 4, 3) := by decide +kernel
theorem dX3_hasEdge_28 : decode cX3_hasEdge 28 = .ok (.iconst 0, 1) := by decide +kernel
theorem dX3_hasEdge_29 : decode cX3_hasEdge 29 = .ok (.ireturn, 1) := by decide +kernel
theorem dX3_allows_0 : decode cX3_allows 0 = .ok (.iload_n 2, 1) := by decide +kernel
theorem dX3_allows_1 : decode cX3_allows 1 = .ok (.ifCond .lt 25, 3) := by decide +kernel
theorem dX3_allows_4 : decode cX3_allows 4 = .ok (.iload_n 2, 1) := by decide +kernel
theorem dX3_allows_5 : decode cX3_allows 5 = .ok (.iload_n 1, 1) := by decide +kernel
theorem dX3_allows_6 : decode cX3_allows 6 = .ok (.iconst 3, 1) := by decide +kernel
theorem dX3_allows_7 : decode cX3_allows 7 = .ok (.if_icmp .ne 8, 3) := by decide +kernel
theorem dX3_allows_10 : decode cX3_allows 10 = .ok (.bipush 100, 2) := by decide +kernel
theorem dX3_allows_12 : decode cX3_allows 12 = .ok (.goto 7, 3) := by decide +kernel
theorem dX3_allows_15 : decode cX3_allows 15 = .ok (.aload_n 0, 1) := by decide +kernel
theorem dX3_allows_16 : decode cX3_allows 16 = .ok (.invokevirtual 28, 3) := by decide +kernel
theorem dX3_allows_19 : decode cX3_allows 19 = .ok (.if_icmp .ge 7, 3) := by decide +kernel
theorem dX3_allows_22 : decode cX3_allows 22 = .ok (.iconst 1, 1) := by decide +kernel
theorem dX3_allows_23 : decode cX3_allows 23 = .ok (.goto 4, 3) := by decide +kernel
theorem dX3_allows_26 : decode cX3_allows 26 = .ok (.iconst 0, 1) := by decide +kernel
theorem dX3_allows_27 : decode cX3_allows 27 = .ok (.ireturn, 1) := by decide +kernel
theorem dX3_trait_0 : decode cX3_trait 0 = .ok (.aload_n 0, 1) := by decide +kernel
theorem dX3_trait_1 : decode cX3_trait 1 = .ok (.getfield 24, 3) := by decide +kernel
theorem dX3_trait_4 : decode cX3_trait 4 = .ok (.iload_n 1, 1) := by decide +kernel
theorem dX3_trait_5 : decode cX3_trait 5 = .ok (.iconst 4, 1) := by decide +kernel
theorem dX3_trait_6 : decode cX3_trait 6 = .ok (.imul, 1) := by decide +kernel
theorem dX3_trait_7 : decode cX3_trait 7 = .ok (.iload_n 2, 1) := by decide +kernel
theorem dX3_trait_8 : decode cX3_trait 8 = .ok (.iadd, 1) := by decide +kernel
theorem dX3_trait_9 : decode cX3_trait 9 = .ok (.iaload, 1) := by decide +kernel
theorem dX3_trait_10 : decode cX3_trait 10 = .ok (.ireturn, 1) := by decide +kernel
theorem dX3_change_0 : decode cX3_change 0 = .ok (.aload_n 0, 1) := by decide +kernel
theorem dX3_change_1 : decode cX3_change 1 = .ok (.getfield 24, 3) := by decide +kernel
theorem dX3_change_4 : decode cX3_change 4 = .ok (.iload_n 1, 1) := by decide +kernel
theorem dX3_change_5 : decode cX3_change 5 = .ok (.iconst 4, 1) := by decide +kernel
theorem dX3_change_6 : decode cX3_change 6 = .ok (.imul, 1) := by decide +kernel
theorem dX3_change_7 : decode cX3_change 7 = .ok (.iload_n 2, 1) := by decide +kernel
theorem dX3_change_8 : decode cX3_change 8 = .ok (.iadd, 1) := by decide +kernel
theorem dX3_change_9 : decode cX3_change 9 = .ok (.iload_n 3, 1) := by decide +kernel
theorem dX3_change_10 : decode cX3_change 10 = .ok (.iastore, 1) := by decide +kernel
theorem dX3_change_11 : decode cX3_change 11 = .ok (.return_, 1) := by decide +kernel
theorem dX3_add_0 : decode cX3_add 0 = .ok (.aload_n 0, 1) := by decide +kernel
theorem dX3_add_1 : decode cX3_add 1 = .ok (.getfield 21, 3) := by decide +kernel
theorem dX3_add_4 : decode cX3_add 4 = .ok (.bipush 16, 2) := by decide +kernel
theorem dX3_add_6 : decode cX3_add 6 = .ok (.if_icmp .lt 4, 3) := by decide +kernel
theorem dX3_add_9 : decode cX3_add 9 = .ok (.return_, 1) := by decide +kernel
theorem dX3_add_10 : decode cX3_add 10 = .ok (.aload_n 0, 1) := by decide +kernel
theorem dX3_add_11 : decode cX3_add 11 = .ok (.aload_n 0, 1) := by decide +kernel
theorem dX3_add_12 : decode cX3_add 12 = .ok (.getfield 21, 3) := by decide +kernel
theorem dX3_add_15 : decode cX3_add 15 = .ok (.iconst 0, 1) := by decide +kernel
theorem dX3_add_16 : decode cX3_add 16 = .ok (.iload_n 1, 1) := by decide +kernel
theorem dX3_add_17 : decode cX3_add 17 = .ok (.invokevirtual 32, 3) := by decide +kernel
theorem dX3_add_20 : decode cX3_add 20 = .ok (.aload_n 0, 1) := by decide +kernel
theorem dX3_add_21 : decode cX3_add 21 = .ok (.aload_n 0, 1) := by decide +kernel
theorem dX3_add_22 : decode cX3_add 22 = .ok (.getfield 21, 3) := by decide +kernel
theorem dX3_add_25 : decode cX3_add 25 = .ok (.iconst 1, 1) := by decide +kernel
theorem dX3_add_26 : decode cX3_add 26 = .ok (.iload_n 2, 1) := by decide +kernel
theorem dX3_add_27 : decode cX3_add 27 = .ok (.invokevirtual 32, 3) := by decide +kernel
theorem dX3_add_30 : decode cX3_add 30 = .ok (.aload_n 0, 1) := by decide +kernel
theorem dX3_add_31 : decode cX3_add 31 = .ok (.aload_n 0, 1) := by decide +kernel
theorem dX3_add_32 : decode cX3_add 32 = .ok (.getfield 21, 3) := by decide +kernel
theorem dX3_add_35 : decode cX3_add 35 = .ok (.iconst 2, 1) := by decide +kernel
theorem dX3_add_36 : decode cX3_add 36 = .ok (.iload_n 3, 1) := by decide +kernel
theorem dX3_add_37 : decode cX3_add 37 = .ok (.invokevirtual 32, 3) := by decide +kernel
theorem dX3_add_40 : decode cX3_add 40 = .ok (.aload_n 0, 1) := by decide +kernel
theorem dX3_add_41 : decode cX3_add 41 = .ok (.aload_n 0, 1) := by decide +kernel
theorem dX3_add_42 : decode cX3_add 42 = .ok (.getfield 21, 3) := by decide +kernel
theorem dX3_add_45 : decode cX3_add 45 = .ok (.iconst 3, 1) := by decide +kernel
theorem dX3_add_46 : decode cX3_add 46 = .ok (.iload 4, 2) := by decide +kernel
theorem dX3_add_48 : decode cX3_add 48 = .ok (.invokevirtual 32, 3) := by decide +kernel
theorem dX3_add_51 : decode cX3_add 51 = .ok (.aload_n 0, 1) := by decide +kernel
theorem dX3_add_52 : decode cX3_add 52 = .ok (.dup, 1) := by decide +kernel
theorem dX3_add_53 : decode cX3_add 53 = .ok (.getfield 21, 3) := by decide +kernel
theorem dX3_add_56 : decode cX3_add 56 = .ok (.iconst 1, 1) := by decide +kernel
theorem dX3_add_57 : decode cX3_add 57 = .ok (.iadd, 1) := by decide +kernel
theorem dX3_add_58 : decode cX3_add 58 = .ok (.putfield 21, 3) := by decide +kernel
theorem dX3_add_61 : decode cX3_add 61 = .ok (.return_, 1) := by decide +kernel
theorem dX3_partner_0 : decode cX3_partner 0 = .ok (.aload_n 0, 1) := by decide +kernel
theorem dX3_partner_1 : decode cX3_partner 1 = .ok (.invokevirtual 28, 3) := by decide +kernel
theorem dX3_partner_4 : decode cX3_partner 4 = .ok (.iconst 1, 1) := by decide +kernel
theorem dX3_partner_5 : decode cX3_partner 5 = .ok (.isub, 1) := by decide +kernel
theorem dX3_partner_6 : decode cX3_partner 6 = .ok (.istore_n 3, 1) := by decide +kernel
theorem dX3_partner_7 : decode cX3_partner 7 = .ok (.iload_n 2, 1) := by decide +kernel
theorem dX3_partner_8 : decode cX3_partner 8 = .ok (.ifCond .ne 7, 3) := by decide +kernel
theorem dX3_partner_11 : decode cX3_partner 11 = .ok (.iload_n 3, 1) := by decide +kernel
theorem dX3_partner_12 : decode cX3_partner 12 = .ok (.iload_n 1, 1) := by decide +kernel
theorem dX3_partner_13 : decode cX3_partner 13 = .ok (.isub, 1) := by decide +kernel
theorem dX3_partner_14 : decode cX3_partner 14 = .ok (.ireturn, 1) := by decide +kernel
theorem dX3_partner_15 : decode cX3_partner 15 = .ok (.iload_n 2, 1) := by decide +kernel
theorem dX3_partner_16 : decode cX3_partner 16 = .ok (.iconst 2, 1) := by decide +kernel
theorem dX3_partner_17 : decode cX3_partner 17 = .ok (.if_icmp .ne 16, 3) := by decide +kernel
theorem dX3_partner_20 : decode cX3_partner 20 = .ok (.iload_n 1, 1) := by decide +kernel
theorem dX3_partner_21 : decode cX3_partner 21 = .ok (.iload_n 3, 1) := by decide +kernel
theorem dX3_partner_22 : decode cX3_partner 22 = .ok (.if_icmp .ne 7, 3) := by decide +kernel
theorem dX3_partner_25 : decode cX3_partner 25 = .ok (.iconst 0, 1) := by decide +kernel
theorem dX3_partner_26 : decode cX3_partner 26 = .ok (.goto 6, 3) := by decide +kernel
theorem dX3_partner_29 : decode cX3_partner 29 = .ok (.iload_n 1, 1) := by decide +kernel
theorem dX3_partner_30 : decode cX3_partner 30 = .ok (.iconst 1, 1) := by decide +kernel
theorem dX3_partner_31 : decode cX3_partner 31 = .ok (.iadd, 1) := by decide +kernel
theorem dX3_partner_32 : decode cX3_partner 32 = .ok (.ireturn, 1) := by decide +kernel
theorem dX3_partner_33 : decode cX3_partner 33 = .ok (.iconst 0, 1) := by decide +kernel
theorem dX3_partner_34 : decode cX3_partner 34 = .ok (.istore 4, 2) := by decide +kernel
theorem dX3_partner_36 : decode cX3_partner 36 = .ok (.iconst 0, 1) := by decide +kernel
theorem dX3_partner_37 : decode cX3_partner 37 = .ok (.istore 5, 2) := by decide +kernel
theorem dX3_partner_39 : decode cX3_partner 39 = .ok (.iload 5, 2) := by decide +kernel
theorem dX3_partner_41 : decode cX3_partner 41 = .ok (.aload_n 0, 1) := by decide +kernel
theorem dX3_partner_42 : decode cX3_partner 42 = .ok (.getfield 9, 3) := by decide +kernel
theorem dX3_partner_45 : decode cX3_partner 45 = .ok (.if_icmp .ge 22, 3) := by decide +kernel
theorem dX3_partner_48 : decode cX3_partner 48 = .ok (.iconst 2, 1) := by decide +kernel
theorem dX3_partner_49 : decode cX3_partner 49 = .ok (.iload 4, 2) := by decide +kernel
theorem dX3_partner_51 : decode cX3_partner 51 = .ok (.imul, 1) := by decide +kernel
theorem dX3_partner_52 : decode cX3_partner 52 = .ok (.iload_n 1, 1) := by decide +kernel
theorem dX3_partner_53 : decode cX3_partner 53 = .ok (.iload 5, 2) := by decide +kernel
theorem dX3_partner_55 : decode cX3_partner 55 = .ok (.ishr, 1) := by decide +kernel
theorem dX3_partner_56 : decode cX3_partner 56 = .ok (.iconst 2, 1) := by decide +kernel
theorem dX3_partner_57 : decode cX3_partner 57 = .ok (.irem, 1) := by decide +kernel
theorem dX3_partner_58 : decode cX3_partner 58 = .ok (.iadd, 1) := by decide +kernel
theorem dX3_partner_59 : decode cX3_partner 59 = .ok (.istore 4, 2) := by decide +kernel
theorem dX3_partner_61 : decode cX3_partner 61 = .ok (.iinc 5 1, 3) := by decide +kernel
theorem dX3_partner_64 : decode cX3_partner 64 = .ok (.goto (-25), 3) := by decide +kernel
theorem dX3_partner_67 : decode cX3_partner 67 = .ok (.iload 4, 2) := by decide +kernel
theorem dX3_partner_69 : decode cX3_partner 69 = .ok (.ireturn, 1) := by decide +kernel
theorem dX3_take_0 : decode cX3_take 0 = .ok (.aload_n 0, 1) := by decide +kernel
theorem dX3_take_1 : decode cX3_take 1 = .ok (.aload_n 1, 1) := by decide +kernel
theorem dX3_take_2 : decode cX3_take 2 = .ok (.getfield 9, 3) := by decide +kernel
theorem dX3_take_5 : decode cX3_take 5 = .ok (.putfield 9, 3) := by decide +kernel
theorem dX3_take_8 : decode cX3_take 8 = .ok (.aload_n 0, 1) := by decide +kernel
theorem dX3_take_9 : decode cX3_take 9 = .ok (.aload_n 1, 1) := by decide +kernel
theorem dX3_take_10 : decode cX3_take 10 = .ok (.getfield 15, 3) := by decide +kernel
theorem dX3_take_13 : decode cX3_take 13 = .ok (.putfield 15, 3) := by decide +kernel
theorem dX3_take_16 : decode cX3_take 16 = .ok (.aload_n 0, 1) := by decide +kernel
theorem dX3_take_17 : decode cX3_take 17 = .ok (.aload_n 1, 1) := by decide +kernel
theorem dX3_take_18 : decode cX3_take 18 = .ok (.getfield 18, 3) := by decide +kernel
theorem dX3_take_21 : decode cX3_take 21 = .ok (.putfield 18, 3) := by decide +kernel
theorem dX3_take_24 : decode cX3_take 24 = .ok (.aload_n 0, 1) := by decide +kernel
theorem dX3_take_25 : decode cX3_take 25 = .ok (.aload_n 1, 1) := by decide +kernel
theorem dX3_take_26 : decode cX3_take 26 = .ok (.getfield 21, 3) := by decide +kernel
theorem dX3_take_29 : decode cX3_take 29 = .ok (.putfield 21, 3) := by decide +kernel
theorem dX3_take_32 : decode cX3_take 32 = .ok (.aload_n 1, 1) := by decide +kernel
theorem dX3_take_33 : decode cX3_take 33 = .ok (.getfield 24, 3) := by decide +kernel
theorem dX3_take_36 : decode cX3_take 36 = .ok (.iconst 0, 1) := by decide +kernel
theorem dX3_take_37 : decode cX3_take 37 = .ok (.aload_n 0, 1) := by decide +kernel
theorem dX3_take_38 : decode cX3_take 38 = .ok (.getfield 24, 3) := by decide +kernel
theorem dX3_take_41 : decode cX3_take 41 = .ok (.iconst 0, 1) := by decide +kernel
theorem dX3_take_42 : decode cX3_take 42 = .ok (.aload_n 0, 1) := by decide +kernel
theorem dX3_take_43 : decode cX3_take 43 = .ok (.getfield 24, 3) := by decide +kernel
theorem dX3_take_46 : decode cX3_take 46 = .ok (.arraylength, 1) := by decide +kernel
theorem dX3_take_47 : decode cX3_take 47 = .ok (.invokestatic 36, 3) := by decide +kernel
theorem dX3_take_50 : decode cX3_take 50 = .ok (.return_, 1) := by decide +kernel
theorem dX4_init_0 : decode cX4_init 0 = .ok (.aload_n 0, 1) := by decide +kernel
theorem dX4_init_1 : decode cX4_init 1 = .ok (.invokespecial 3, 3) := by decide +kernel
theorem dX4_init_4 : decode cX4_init 4 = .ok (.aload_n 0, 1) := by decide +kernel
theorem dX4_init_5 : decode cX4_init 5 = .ok (.bipush 16, 2) := by decide +kernel
theorem dX4_init_7 : decode cX4_init 7 = .ok (.newarray .int, 2) := by decide +kernel
theorem dX4_init_9 : decode cX4_init 9 = .ok (.putfield 9, 3) := by decide +kernel
theorem dX4_init_12 : decode cX4_init 12 = .ok (.aload_n 0, 1) := by decide +kernel
theorem dX4_init_13 : decode cX4_init 13 = .ok (.bipush 16, 2) := by decide +kernel
theorem dX4_init_15 : decode cX4_init 15 = .ok (.newarray .int, 2) := by decide +kernel
theorem dX4_init_17 : decode cX4_init 17 = .ok (.putfield 15, 3) := by decide +kernel
theorem dX4_init_20 : decode cX4_init 20 = .ok (.aload_n 0, 1) := by decide +kernel
theorem dX4_init_21 : decode cX4_init 21 = .ok (.bipush 16, 2) := by decide +kernel
theorem dX4_init_23 : decode cX4_init 23 = .ok (.newarray .int, 2) := by decide +kernel
theorem dX4_init_25 : decode cX4_init 25 = .ok (.putfield 18, 3) := by decide +kernel
theorem dX4_init_28 : decode cX4_init 28 = .ok (.aload_n 0, 1) := by decide +kernel
theorem dX4_init_29 : decode cX4_init 29 = .ok (.bipush 16, 2) := by decide +kernel
theorem dX4_init_31 : decode cX4_init 31 = .ok (.newarray .int, 2) := by decide +kernel
theorem dX4_init_33 : decode cX4_init 33 = .ok (.putfield 21, 3) := by decide +kernel
theorem dX4_init_36 : decode cX4_init 36 = .ok (.aload_n 0, 1) := by decide +kernel
theorem dX4_init_37 : decode cX4_init 37 = .ok (.bipush 16, 2) := by decide +kernel
theorem dX4_init_39 : decode cX4_init 39 = .ok (.newarray .int, 2) := by decide +kernel
theorem dX4_init_41 : decode cX4_init 41 = .ok (.putfield 24, 3) := by decide +kernel
theorem dX4_init_44 : decode cX4_init 44 = .ok (.aload_n 0, 1) := by decide +kernel
theorem dX4_init_45 : decode cX4_init 45 = .ok (.bipush 64, 2) := by decide +kernel
theorem dX4_init_47 : decode cX4_init 47 = .ok (.newarray .int, 2) := by decide +kernel
theorem dX4_init_49 : decode cX4_init 49 = .ok (.putfield 27, 3) := by decide +kernel
theorem dX4_init_52 : decode cX4_init 52 = .ok (.aload_n 0, 1) := by decide +kernel
theorem dX4_init_53 : decode cX4_init 53 = .ok (.bipush 64, 2) := by decide +kernel
theorem dX4_init_55 : decode cX4_init 55 = .ok (.newarray .int, 2) := by decide +kernel
theorem dX4_init_57 : decode cX4_init 57 = .ok (.putfield 30, 3) := by decide +kernel
theorem dX4_init_60 : decode cX4_init 60 = .ok (.return_, 1) := by decide +kernel
theorem dX4_flow_0 : decode cX4_flow 0 = .ok (.aload_n 0, 1) := by decide +kernel
theorem dX4_flow_1 : decode cX4_flow 1 = .ok (.iconst 0, 1) := by decide +kernel
theorem dX4_flow_2 : decode cX4_flow 2 = .ok (.putfield 33, 3) := by decide +kernel
theorem dX4_flow_5 : decode cX4_flow 5 = .ok (.aload_n 0, 1) := by decide +kernel
theorem dX4_flow_6 : decode cX4_flow 6 = .ok (.iconst 0, 1) := by decide +kernel
theorem dX4_flow_7 : decode cX4_flow 7 = .ok (.putfield 37, 3) := by decide +kernel
theorem dX4_flow_10 : decode cX4_flow 10 = .ok (.aload_n 0, 1) := by decide +kernel
theorem dX4_flow_11 : decode cX4_flow 11 = .ok (.getfield 9, 3) := by decide +kernel
theorem dX4_flow_14 : decode cX4_flow 14 = .ok (.iconst 0, 1) := by decide +kernel
theorem dX4_flow_15 : decode cX4_flow 15 = .ok (.invokestatic 40, 3) := by decide +kernel
theorem dX4_flow_18 : decode cX4_flow 18 = .ok (.aload_n 0, 1) := by decide +kernel
theorem dX4_flow_19 : decode cX4_flow 19 = .ok (.getfield 15, 3) := by decide +kernel
theorem dX4_flow_22 : decode cX4_flow 22 = .ok (.iconst 0, 1) := by decide +kernel
theorem dX4_flow_23 : decode cX4_flow 23 = .ok (.invokestatic 40, 3) := by decide +kernel
theorem dX4_flow_26 : decode cX4_flow 26 = .ok (.aload_n 0, 1) := by decide +kernel
theorem dX4_flow_27 : decode cX4_flow 27 = .ok (.getfield 18, 3) := by decide +kernel
theorem dX4_flow_30 : decode cX4_flow 30 = .ok (.iconst 0, 1) := by decide +kernel
theorem dX4_flow_31 : decode cX4_flow 31 = .ok (.invokestatic 40, 3) := by decide +kernel
theorem dX4_flow_34 : decode cX4_flow 34 = .ok (.aload_n 0, 1) := by decide +kernel
theorem dX4_flow_35 : decode cX4_flow 35 = .ok (.getfield 21, 3) := by decide +kernel
theorem dX4_flow_38 : decode cX4_flow 38 = .ok (.iconst 0, 1) := by decide +kernel
theorem dX4_flow_39 : decode cX4_flow 39 = .ok (.invokestatic 40, 3) := by decide +kernel
theorem dX4_flow_42 : decode cX4_flow 42 = .ok (.iconst 1, 1) := by decide +kernel
theorem dX4_flow_43 : decode cX4_flow 43 = .ok (.istore 5, 2) := by decide +kernel
theorem dX4_flow_45 : decode cX4_flow 45 = .ok (.iload 5, 2) := by decide +kernel
theorem dX4_flow_47 : decode cX4_flow 47 = .ok (.iload 4, 2) := by decide +kernel
theorem dX4_flow_49 : decode cX4_flow 49 = .ok (.if_icmp .gt 38, 3) := by decide +kernel
theorem dX4_flow_52 : decode cX4_flow 52 = .ok (.aload_n 0, 1) := by decide +kernel
theorem dX4_flow_53 : decode cX4_flow 53 = .ok (.aload_n 1, 1) := by decide +kernel
theorem dX4_flow_54 : decode cX4_flow 54 = .ok (.aload_n 2, 1) := by decide +kernel
theorem dX4_flow_55 : decode cX4_flow 55 = .ok (.invokevirtual 46, 3) := by decide +kernel
theorem dX4_flow_58 : decode cX4_flow 58 = .ok (.ifCond .eq 29, 3) := by decide +kernel
theorem dX4_flow_61 : decode cX4_flow 61 = .ok (.aload_n 0, 1) := by decide +kernel
theorem dX4_flow_62 : decode cX4_flow 62 = .ok (.aload_n 1, 1) := by decide +kernel
theorem dX4_flow_63 : decode cX4_flow 63 = .ok (.aload_n 2, 1) := by decide +kernel
theorem dX4_flow_64 : decode cX4_flow 64 = .ok (.iload_n 3, 1) := by decide +kernel
theorem dX4_flow_65 : decode cX4_flow 65 = .ok (.invokevirtual 50, 3) := by decide +kernel
theorem dX4_flow_68 : decode cX4_flow 68 = .ok (.aload_n 0, 1) := by decide +kernel
theorem dX4_flow_69 : decode cX4_flow 69 = .ok (.aload_n 1, 1) := by decide +kernel
theorem dX4_flow_70 : decode cX4_flow 70 = .ok (.iload 5, 2) := by decide +kernel
theorem dX4_flow_72 : decode cX4_flow 72 = .ok (.invokevirtual 54, 3) := by decide +kernel
theorem dX4_flow_75 : decode cX4_flow 75 = .ok (.aload_n 0, 1) := by decide +kernel
theorem dX4_flow_76 : decode cX4_flow 76 = .ok (.iload 5, 2) := by decide +kernel
theorem dX4_flow_78 : decode cX4_flow 78 = .ok (.putfield 33, 3) := by decide +kernel
theorem dX4_flow_81 : decode cX4_flow 81 = .ok (.iinc 5 1, 3) := by decide +kernel
theorem dX4_flow_84 : decode cX4_flow 84 = .ok (.goto (-39), 3) := by decide +kernel
theorem dX4_flow_87 : decode cX4_flow 87 = .ok (.return_, 1) := by decide +kernel
theorem dX4_look_0 : decode cX4_look 0 = .ok (.iconst 0, 1) := by decide +kernel
theorem dX4_look_1 : decode cX4_look 1 = .ok (.istore_n 3, 1) := by decide +kernel
theorem dX4_look_2 : decode cX4_look 2 = .ok (.iconst 0, 1) := by decide +kernel
theorem dX4_look_3 : decode cX4_look 3 = .ok (.istore 4, 2) := by decide +kernel
theorem dX4_look_5 : decode cX4_look 5 = .ok (.iload 4, 2) := by decide +kernel
theorem dX4_look_7 : decode cX4_look 7 = .ok (.aload_n 1, 1) := by decide +kernel
theorem dX4_look_8 : decode cX4_look 8 = .ok (.getfield 58, 3) := by decide +kernel
theorem dX4_look_11 : decode cX4_look 11 = .ok (.if_icmp .ge 76, 3) := by decide +kernel
theorem dX4_look_14 : decode cX4_look 14 = .ok (.aload_n 0, 1) := by decide +kernel
theorem dX4_look_15 : decode cX4_look 15 = .ok (.getfield 24, 3) := by decide +kernel
theorem dX4_look_18 : decode cX4_look 18 = .ok (.iload 4, 2) := by decide +kernel
theorem dX4_look_20 : decode cX4_look 20 = .ok (.iconst (-1), 1) := by decide +kernel
theorem dX4_look_21 : decode cX4_look 21 = .ok (.iastore, 1) := by decide +kernel
theorem dX4_look_22 : decode cX4_look 22 = .ok (.aload_n 0, 1) := by decide +kernel
theorem dX4_look_23 : decode cX4_look 23 = .ok (.getfield 18, 3) := by decide +kernel
theorem dX4_look_26 : decode cX4_look 26 = .ok (.iload 4, 2) := by decide +kernel
theorem dX4_look_28 : decode cX4_look 28 = .ok (.iaload, 1) := by decide +kernel
theorem dX4_look_29 : decode cX4_look 29 = .ok (.aload_n 2, 1) := by decide +kernel
theorem dX4_look_30 : decode cX4_look 30 = .ok (.getfield 63, 3) := by decide +kernel
theorem dX4_look_33 : decode cX4_look 33 = .ok (.iload 4, 2) := by decide +kernel
theorem dX4_look_35 : decode cX4_look 35 = .ok (.iaload, 1) := by decide +kernel
theorem dX4_look_36 : decode cX4_look 36 = .ok (.if_icmp .ge 45, 3) := by decide +kernel
theorem dX4_look_39 : decode cX4_look 39 = .ok (.aload_n 2, 1) := by decide +kernel
theorem dX4_look_40 : decode cX4_look 40 = .ok (.iload 4, 2) := by decide +kernel
theorem dX4_look_42 : decode cX4_look 42 = .ok (.aload_n 0, 1) := by decide +kernel
theorem dX4_look_43 : decode cX4_look 43 = .ok (.getfield 18, 3) := by decide +kernel
theorem dX4_look_46 : decode cX4_look 46 = .ok (.iload 4, 2) := by decide +kernel
theorem dX4_look_48 : decode cX4_look 48 = .ok (.iaload, 1) := by decide +kernel
theorem dX4_look_49 : decode cX4_look 49 = .ok (.invokevirtual 68, 3) := by decide +kernel
theorem dX4_look_52 : decode cX4_look 52 = .ok (.istore 5, 2) := by decide +kernel
theorem dX4_look_54 : decode cX4_look 54 = .ok (.aload_n 0, 1) := by decide +kernel
theorem dX4_look_55 : decode cX4_look 55 = .ok (.getfield 24, 3) := by decide +kernel
theorem dX4_look_58 : decode cX4_look 58 = .ok (.iload 4, 2) := by decide +kernel
theorem dX4_look_60 : decode cX4_look 60 = .ok (.iload 5, 2) := by decide +kernel
theorem dX4_look_62 : decode cX4_look 62 = .ok (.iastore, 1) := by decide +kernel
theorem dX4_look_63 : decode cX4_look 63 = .ok (.aload_n 0, 1) := by decide +kernel
theorem dX4_look_64 : decode cX4_look 64 = .ok (.getfield 27, 3) := by decide +kernel
theorem dX4_look_67 : decode cX4_look 67 = .ok (.iload 5, 2) := by decide +kernel
theorem dX4_look_69 : decode cX4_look 69 = .ok (.iconst 0, 1) := by decide +kernel
theorem dX4_look_70 : decode cX4_look 70 = .ok (.iastore, 1) := by decide +kernel
theorem dX4_look_71 : decode cX4_look 71 = .ok (.aload_n 0, 1) := by decide +kernel
theorem dX4_look_72 : decode cX4_look 72 = .ok (.getfield 30, 3) := by decide +kernel
theorem dX4_look_75 : decode cX4_look 75 = .ok (.iload 5, 2) := by decide +kernel
theorem dX4_look_77 : decode cX4_look 77 = .ok (.iconst (-1), 1) := by decide +kernel
theorem dX4_look_78 : decode cX4_look 78 = .ok (.iastore, 1) := by decide +kernel
theorem dX4_look_79 : decode cX4_look 79 = .ok (.iconst 1, 1) := by decide +kernel
theorem dX4_look_80 : decode cX4_look 80 = .ok (.istore_n 3, 1) := by decide +kernel
theorem dX4_look_81 : decode cX4_look 81 = .ok (.iinc 4 1, 3) := by decide +kernel
theorem dX4_look_84 : decode cX4_look 84 = .ok (.goto (-79), 3) := by decide +kernel
theorem dX4_look_87 : decode cX4_look 87 = .ok (.iload_n 3, 1) := by decide +kernel
theorem dX4_look_88 : decode cX4_look 88 = .ok (.ireturn, 1) := by decide +kernel
theorem dX4_contest_0 : decode cX4_contest 0 = .ok (.iconst 0, 1) := by decide +kernel
theorem dX4_contest_1 : decode cX4_contest 1 = .ok (.istore 4, 2) := by decide +kernel
theorem dX4_contest_3 : decode cX4_contest 3 = .ok (.iload 4, 2) := by decide +kernel
theorem dX4_contest_5 : decode cX4_contest 5 = .ok (.aload_n 1, 1) := by decide +kernel
theorem dX4_contest_6 : decode cX4_contest 6 = .ok (.getfield 58, 3) := by decide +kernel
theorem dX4_contest_9 : decode cX4_contest 9 = .ok (.if_icmp .ge 92, 3) := by decide +kernel
theorem dX4_contest_12 : decode cX4_contest 12 = .ok (.aload_n 0, 1) := by decide +kernel
theorem dX4_contest_13 : decode cX4_contest 13 = .ok (.getfield 24, 3) := by decide +kernel
theorem dX4_contest_16 : decode cX4_contest 16 = .ok (.iload 4, 2) := by decide +kernel
theorem dX4_contest_18 : decode cX4_contest 18 = .ok (.iaload, 1) := by decide +kernel
theorem dX4_contest_19 : decode cX4_contest 19 = .ok (.istore 5, 2) := by decide +kernel
theorem dX4_contest_21 : decode cX4_contest 21 = .ok (.iload 5, 2) := by decide +kernel
theorem dX4_contest_23 : decode cX4_contest 23 = .ok (.iconst (-1), 1) := by decide +kernel
theorem dX4_contest_24 : decode cX4_contest 24 = .ok (.if_icmp .eq 71, 3) := by decide +kernel
theorem dX4_contest_27 : decode cX4_contest 27 = .ok (.aload_n 0, 1) := by decide +kernel
theorem dX4_contest_28 : decode cX4_contest 28 = .ok (.getfield 27, 3) := by decide +kernel
theorem dX4_contest_31 : decode cX4_contest 31 = .ok (.iload 5, 2) := by decide +kernel
theorem dX4_contest_33 : decode cX4_contest 33 = .ok (.dup2, 1) := by decide +kernel
theorem dX4_contest_34 : decode cX4_contest 34 = .ok (.iaload, 1) := by decide +kernel
theorem dX4_contest_35 : decode cX4_contest 35 = .ok (.iconst 1, 1) := by decide +kernel
theorem dX4_contest_36 : decode cX4_contest 36 = .ok (.iadd, 1) := by decide +kernel
theorem dX4_contest_37 : decode cX4_contest 37 = .ok (.iastore, 1) := by decide +kernel
theorem dX4_contest_38 : decode cX4_contest 38 = .ok (.aload_n 0, 1) := by decide +kernel
theorem dX4_contest_39 : decode cX4_contest 39 = .ok (.aload_n 0, 1) := by decide +kernel
theorem dX4_contest_40 : decode cX4_contest 40 = .ok (.getfield 37, 3) := by decide +kernel
theorem dX4_contest_43 : decode cX4_contest 43 = .ok (.aload_n 0, 1) := by decide +kernel
theorem dX4_contest_44 : decode cX4_contest 44 = .ok (.getfield 27, 3) := by decide +kernel
theorem dX4_contest_47 : decode cX4_contest 47 = .ok (.iload 5, 2) := by decide +kernel
theorem dX4_contest_49 : decode cX4_contest 49 = .ok (.iaload, 1) := by decide +kernel
theorem dX4_contest_50 : decode cX4_contest 50 = .ok (.invokestatic 72, 3) := by decide +kernel
theorem dX4_contest_53 : decode cX4_contest 53 = .ok (.putfield 37, 3) := by decide +kernel
theorem dX4_contest_56 : decode cX4_contest 56 = .ok (.aload_n 0, 1) := by decide +kernel
theorem dX4_contest_57 : decode cX4_contest 57 = .ok (.getfield 30, 3) := by decide +kernel
theorem dX4_contest_60 : decode cX4_contest 60 = .ok (.iload 5, 2) := by decide +kernel
theorem dX4_contest_62 : decode cX4_contest 62 = .ok (.iaload, 1) := by decide +kernel
theorem dX4_contest_63 : decode cX4_contest 63 = .ok (.iconst (-1), 1) := by decide +kernel
theorem dX4_contest_64 : decode cX4_contest 64 = .ok (.if_icmp .eq 22, 3) := by decide +kernel
theorem dX4_contest_67 : decode cX4_contest 67 = .ok (.aload_n 0, 1) := by decide +kernel
theorem dX4_contest_68 : decode cX4_contest 68 = .ok (.aload_n 1, 1) := by decide +kernel
theorem dX4_contest_69 : decode cX4_contest 69 = .ok (.aload_n 2, 1) := by decide +kernel
theorem dX4_contest_70 : decode cX4_contest 70 = .ok (.iload_n 3, 1) := by decide +kernel
theorem dX4_contest_71 : decode cX4_contest 71 = .ok (.iload 4, 2) := by decide +kernel
theorem dX4_contest_73 : decode cX4_contest 73 = .ok (.aload_n 0, 1) := by decide +kernel
theorem dX4_contest_74 : decode cX4_contest 74 = .ok (.getfield 30, 3) := by decide +kernel
theorem dX4_contest_77 : decode cX4_contest 77 = .ok (.iload 5, 2) := by decide +kernel
theorem dX4_contest_79 : decode cX4_contest 79 = .ok (.iaload, 1) := by decide +kernel
theorem dX4_contest_80 : decode cX4_contest 80 = .ok (.invokevirtual 77, 3) := by decide +kernel
theorem dX4_contest_83 : decode cX4_contest 83 = .ok (.ifCond .eq 12, 3) := by decide +kernel
theorem dX4_contest_86 : decode cX4_contest 86 = .ok (.aload_n 0, 1) := by decide +kernel
theorem dX4_contest_87 : decode cX4_contest 87 = .ok (.getfield 30, 3) := by decide +kernel
theorem dX4_contest_90 : decode cX4_contest 90 = .ok (.iload 5, 2) := by decide +kernel
theorem dX4_contest_92 : decode cX4_contest 92 = .ok (.iload 4, 2) := by decide +kernel
theorem dX4_contest_94 : decode cX4_contest 94 = .ok (.iastore, 1) := by decide +kernel
theorem dX4_contest_95 : decode cX4_contest 95 = .ok (.iinc 4 1, 3) := by decide +kernel
theorem dX4_contest_98 : decode cX4_contest 98 = .ok (.goto (-95), 3) := by decide +kernel
theorem dX4_contest_101 : decode cX4_contest 101 = .ok (.return_, 1) := by decide +kernel
theorem dX4_move_0 : decode cX4_move 0 = .ok (.iconst 0, 1) := by decide +kernel
theorem dX4_move_1 : decode cX4_move 1 = .ok (.istore_n 3, 1) := by decide +kernel
theorem dX4_move_2 : decode cX4_move 2 = .ok (.iload_n 3, 1) := by decide +kernel
theorem dX4_move_3 : decode cX4_move 3 = .ok (.aload_n 1, 1) := by decide +kernel
theorem dX4_move_4 : decode cX4_move 4 = .ok (.getfield 58, 3) := by decide +kernel
theorem dX4_move_7 : decode cX4_move 7 = .ok (.if_icmp .ge 74, 3) := by decide +kernel
theorem dX4_move_10 : decode cX4_move 10 = .ok (.aload_n 0, 1) := by decide +kernel
theorem dX4_move_11 : decode cX4_move 11 = .ok (.getfield 24, 3) := by decide +kernel
theorem dX4_move_14 : decode cX4_move 14 = .ok (.iload_n 3, 1) := by decide +kernel
theorem dX4_move_15 : decode cX4_move 15 = .ok (.iaload, 1) := by decide +kernel
theorem dX4_move_16 : decode cX4_move 16 = .ok (.istore 4, 2) := by decide +kernel
theorem dX4_move_18 : decode cX4_move 18 = .ok (.iload 4, 2) := by decide +kernel
theorem dX4_move_20 : decode cX4_move 20 = .ok (.iconst (-1), 1) := by decide +kernel
theorem dX4_move_21 : decode cX4_move 21 = .ok (.if_icmp .ne 6, 3) := by decide +kernel
theorem dX4_move_24 : decode cX4_move 24 = .ok (.goto 51, 3) := by decide +kernel
theorem dX4_move_27 : decode cX4_move 27 = .ok (.aload_n 0, 1) := by decide +kernel
theorem dX4_move_28 : decode cX4_move 28 = .ok (.getfield 30, 3) := by decide +kernel
theorem dX4_move_31 : decode cX4_move 31 = .ok (.iload 4, 2) := by decide +kernel
theorem dX4_move_33 : decode cX4_move 33 = .ok (.iaload, 1) := by decide +kernel
theorem dX4_move_34 : decode cX4_move 34 = .ok (.iload_n 3, 1) := by decide +kernel
theorem dX4_move_35 : decode cX4_move 35 = .ok (.if_icmp .ne 30, 3) := by decide +kernel
theorem dX4_move_38 : decode cX4_move 38 = .ok (.aload_n 0, 1) := by decide +kernel
theorem dX4_move_39 : decode cX4_move 39 = .ok (.getfield 18, 3) := by decide +kernel
theorem dX4_move_42 : decode cX4_move 42 = .ok (.iload_n 3, 1) := by decide +kernel
theorem dX4_move_43 : decode cX4_move 43 = .ok (.dup2, 1) := by decide +kernel
theorem dX4_move_44 : decode cX4_move 44 = .ok (.iaload, 1) := by decide +kernel
theorem dX4_move_45 : decode cX4_move 45 = .ok (.iconst 1, 1) := by decide +kernel
theorem dX4_move_46 : decode cX4_move 46 = .ok (.iadd, 1) := by decide +kernel
theorem dX4_move_47 : decode cX4_move 47 = .ok (.iastore, 1) := by decide +kernel
theorem dX4_move_48 : decode cX4_move 48 = .ok (.aload_n 0, 1) := by decide +kernel
theorem dX4_move_49 : decode cX4_move 49 = .ok (.getfield 21, 3) := by decide +kernel
theorem dX4_move_52 : decode cX4_move 52 = .ok (.iload_n 3, 1) := by decide +kernel
theorem dX4_move_53 : decode cX4_move 53 = .ok (.iload_n 2, 1) := by decide +kernel
theorem dX4_move_54 : decode cX4_move 54 = .ok (.iastore, 1) := by decide +kernel
theorem dX4_move_55 : decode cX4_move 55 = .ok (.aload_n 0, 1) := by decide +kernel
theorem dX4_move_56 : decode cX4_move 56 = .ok (.getfield 9, 3) := by decide +kernel
theorem dX4_move_59 : decode cX4_move 59 = .ok (.iload_n 3, 1) := by decide +kernel
theorem dX4_move_60 : decode cX4_move 60 = .ok (.iload_n 2, 1) := by decide +kernel
theorem dX4_move_61 : decode cX4_move 61 = .ok (.iastore, 1) := by decide +kernel
theorem dX4_move_62 : decode cX4_move 62 = .ok (.goto 13, 3) := by decide +kernel
theorem dX4_move_65 : decode cX4_move 65 = .ok (.aload_n 0, 1) := by decide +kernel
theorem dX4_move_66 : decode cX4_move 66 = .ok (.getfield 15, 3) := by decide +kernel
theorem dX4_move_69 : decode cX4_move 69 = .ok (.iload_n 3, 1) := by decide +kernel
theorem dX4_move_70 : decode cX4_move 70 = .ok (.dup2, 1) := by decide +kernel
theorem dX4_move_71 : decode cX4_move 71 = .ok (.iaload, 1) := by decide +kernel
theorem dX4_move_72 : decode cX4_move 72 = .ok (.iconst 1, 1) := by decide +kernel
theorem dX4_move_73 : decode cX4_move 73 = .ok (.iadd, 1) := by decide +kernel
theorem dX4_move_74 : decode cX4_move 74 = .ok (.iastore, 1) := by decide +kernel
theorem dX4_move_75 : decode cX4_move 75 = .ok (.iinc 3 1, 3) := by decide +kernel
theorem dX4_move_78 : decode cX4_move 78 = .ok (.goto (-76), 3) := by decide +kernel
theorem dX4_move_81 : decode cX4_move 81 = .ok (.return_, 1) := by decide +kernel
theorem dX4_isAhead_0 : decode cX4_isAhead 0 = .ok (.aload_n 0, 1) := by decide +kernel
theorem dX4_isAhead_1 : decode cX4_isAhead 1 = .ok (.aload_n 2, 1) := by decide +kernel
theorem dX4_isAhead_2 : decode cX4_isAhead 2 = .ok (.iload_n 3, 1) := by decide +kernel
theorem dX4_isAhead_3 : decode cX4_isAhead 3 = .ok (.iload 4, 2) := by decide +kernel
theorem dX4_isAhead_5 : decode cX4_isAhead 5 = .ok (.iload 5, 2) := by decide +kernel
theorem dX4_isAhead_7 : decode cX4_isAhead 7 = .ok (.invokevirtual 81, 3) := by decide +kernel
theorem dX4_isAhead_10 : decode cX4_isAhead 10 = .ok (.istore 6, 2) := by decide +kernel
theorem dX4_isAhead_12 : decode cX4_isAhead 12 = .ok (.iload 6, 2) := by decide +kernel
theorem dX4_isAhead_14 : decode cX4_isAhead 14 = .ok (.ifCond .eq 14, 3) := by decide +kernel
theorem dX4_isAhead_17 : decode cX4_isAhead 17 = .ok (.iload 6, 2) := by decide +kernel
theorem dX4_isAhead_19 : decode cX4_isAhead 19 = .ok (.ifCond .le 7, 3) := by decide +kernel
theorem dX4_isAhead_22 : decode cX4_isAhead 22 = .ok (.iconst 1, 1) := by decide +kernel
theorem dX4_isAhead_23 : decode cX4_isAhead 23 = .ok (.goto 4, 3) := by decide +kernel
theorem dX4_isAhead_26 : decode cX4_isAhead 26 = .ok (.iconst 0, 1) := by decide +kernel
theorem dX4_isAhead_27 : decode cX4_isAhead 27 = .ok (.ireturn, 1) := by decide +kernel
theorem dX4_isAhead_28 : decode cX4_isAhead 28 = .ok (.aload_n 1, 1) := by decide +kernel
theorem dX4_isAhead_29 : decode cX4_isAhead 29 = .ok (.iload 4, 2) := by decide +kernel
theorem dX4_isAhead_31 : decode cX4_isAhead 31 = .ok (.iconst 3, 1) := by decide +kernel
theorem dX4_isAhead_32 : decode cX4_isAhead 32 = .ok (.invokevirtual 85, 3) := by decide +kernel
theorem dX4_isAhead_35 : decode cX4_isAhead 35 = .ok (.istore 7, 2) := by decide +kernel
theorem dX4_isAhead_37 : decode cX4_isAhead 37 = .ok (.aload_n 1, 1) := by decide +kernel
theorem dX4_isAhead_38 : decode cX4_isAhead 38 = .ok (.iload 5, 2) := by decide +kernel
theorem dX4_isAhead_40 : decode cX4_isAhead 40 = .ok (.iconst 3, 1) := by decide +kernel
theorem dX4_isAhead_41 : decode cX4_isAhead 41 = .ok (.invokevirtual 85, 3) := by decide +kernel
theorem dX4_isAhead_44 : decode cX4_isAhead 44 = .ok (.istore 8, 2) := by decide +kernel
theorem dX4_isAhead_46 : decode cX4_isAhead 46 = .ok (.iload 7, 2) := by decide +kernel
theorem dX4_isAhead_48 : decode cX4_isAhead 48 = .ok (.iload 8, 2) := by decide +kernel
theorem dX4_isAhead_50 : decode cX4_isAhead 50 = .ok (.if_icmp .eq 18, 3) := by decide +kernel
theorem dX4_isAhead_53 : decode cX4_isAhead 53 = .ok (.iload 7, 2) := by decide +kernel
theorem dX4_isAhead_55 : decode cX4_isAhead 55 = .ok (.iload 8, 2) := by decide +kernel
theorem dX4_isAhead_57 : decode cX4_isAhead 57 = .ok (.if_icmp .le 7, 3) := by decide +kernel
theorem dX4_isAhead_60 : decode cX4_isAhead 60 = .ok (.iconst 1, 1) := by decide +kernel
theorem dX4_isAhead_61 : decode cX4_isAhead 61 = .ok (.goto 19, 3) := by decide +kernel
theorem dX4_isAhead_64 : decode cX4_isAhead 64 = .ok (.iconst 0, 1) := by decide +kernel
theorem dX4_isAhead_65 : decode cX4_isAhead 65 = .ok (.goto 15, 3) := by decide +kernel
theorem dX4_isAhead_68 : decode cX4_isAhead 68 = .ok (.iload 4, 2) := by decide +kernel
theorem dX4_isAhead_70 : decode cX4_isAhead 70 = .ok (.iload 5, 2) := by decide +kernel
theorem dX4_isAhead_72 : decode cX4_isAhead 72 = .ok (.if_icmp .ge 7, 3) := by decide +kernel
theorem dX4_isAhead_75 : decode cX4_isAhead 75 = .ok (.iconst 1, 1) := by decide +kernel
theorem dX4_isAhead_76 : decode cX4_isAhead 76 = .ok (.goto 4, 3) := by decide +kernel
theorem dX4_isAhead_79 : decode cX4_isAhead 79 = .ok (.iconst 0, 1) := by decide +kernel
theorem dX4_isAhead_80 : decode cX4_isAhead 80 = .ok (.ireturn, 1) := by decide +kernel
theorem dX4_lead_0 : decode cX4_lead 0 = .ok (.iload_n 2, 1) := by decide +kernel
theorem dX4_lead_1 : decode cX4_lead 1 = .ok (.tableswitch 91 0 3 #[31, 91, 46, 76], 31) := by decide +kernel
theorem dX4_lead_32 : decode cX4_lead 32 = .ok (.aload_n 0, 1) := by decide +kernel
theorem dX4_lead_33 : decode cX4_lead 33 = .ok (.getfield 21, 3) := by decide +kernel
theorem dX4_lead_36 : decode cX4_lead 36 = .ok (.iload 4, 2) := by decide +kernel
theorem dX4_lead_38 : decode cX4_lead 38 = .ok (.iaload, 1) := by decide +kernel
theorem dX4_lead_39 : decode cX4_lead 39 = .ok (.aload_n 0, 1) := by decide +kernel
theorem dX4_lead_40 : decode cX4_lead 40 = .ok (.getfield 21, 3) := by decide +kernel
theorem dX4_lead_43 : decode cX4_lead 43 = .ok (.iload_n 3, 1) := by decide +kernel
theorem dX4_lead_44 : decode cX4_lead 44 = .ok (.iaload, 1) := by decide +kernel
theorem dX4_lead_45 : decode cX4_lead 45 = .ok (.isub, 1) := by decide +kernel
theorem dX4_lead_46 : decode cX4_lead 46 = .ok (.ireturn, 1) := by decide +kernel
theorem dX4_lead_47 : decode cX4_lead 47 = .ok (.aload_n 1, 1) := by decide +kernel
theorem dX4_lead_48 : decode cX4_lead 48 = .ok (.getfield 63, 3) := by decide +kernel
theorem dX4_lead_51 : decode cX4_lead 51 = .ok (.iload_n 3, 1) := by decide +kernel
theorem dX4_lead_52 : decode cX4_lead 52 = .ok (.iaload, 1) := by decide +kernel
theorem dX4_lead_53 : decode cX4_lead 53 = .ok (.aload_n 0, 1) := by decide +kernel
theorem dX4_lead_54 : decode cX4_lead 54 = .ok (.getfield 18, 3) := by decide +kernel
theorem dX4_lead_57 : decode cX4_lead 57 = .ok (.iload_n 3, 1) := by decide +kernel
theorem dX4_lead_58 : decode cX4_lead 58 = .ok (.iaload, 1) := by decide +kernel
theorem dX4_lead_59 : decode cX4_lead 59 = .ok (.isub, 1) := by decide +kernel
theorem dX4_lead_60 : decode cX4_lead 60 = .ok (.aload_n 1, 1) := by decide +kernel
theorem dX4_lead_61 : decode cX4_lead 61 = .ok (.getfield 63, 3) := by decide +kernel
theorem dX4_lead_64 : decode cX4_lead 64 = .ok (.iload 4, 2) := by decide +kernel
theorem dX4_lead_66 : decode cX4_lead 66 = .ok (.iaload, 1) := by decide +kernel
theorem dX4_lead_67 : decode cX4_lead 67 = .ok (.aload_n 0, 1) := by decide +kernel
theorem dX4_lead_68 : decode cX4_lead 68 = .ok (.getfield 18, 3) := by decide +kernel
theorem dX4_lead_71 : decode cX4_lead 71 = .ok (.iload 4, 2) := by decide +kernel
theorem dX4_lead_73 : decode cX4_lead 73 = .ok (.iaload, 1) := by decide +kernel
theorem dX4_lead_74 : decode cX4_lead 74 = .ok (.isub, 1) := by decide +kernel
theorem dX4_lead_75 : decode cX4_lead 75 = .ok (.isub, 1) := by decide +kernel
theorem dX4_lead_76 : decode cX4_lead 76 = .ok (.ireturn, 1) := by decide +kernel
theorem dX4_lead_77 : decode cX4_lead 77 = .ok (.aload_n 0, 1) := by decide +kernel
theorem dX4_lead_78 : decode cX4_lead 78 = .ok (.aload_n 1, 1) := by decide +kernel
theorem dX4_lead_79 : decode cX4_lead 79 = .ok (.iload_n 3, 1) := by decide +kernel
theorem dX4_lead_80 : decode cX4_lead 80 = .ok (.invokevirtual 88, 3) := by decide +kernel
theorem dX4_lead_83 : decode cX4_lead 83 = .ok (.aload_n 0, 1) := by decide +kernel
theorem dX4_lead_84 : decode cX4_lead 84 = .ok (.aload_n 1, 1) := by decide +kernel
theorem dX4_lead_85 : decode cX4_lead 85 = .ok (.iload 4, 2) := by decide +kernel
theorem dX4_lead_87 : decode cX4_lead 87 = .ok (.invokevirtual 88, 3) := by decide +kernel
theorem dX4_lead_90 : decode cX4_lead 90 = .ok (.isub, 1) := by decide +kernel
theorem dX4_lead_91 : decode cX4_lead 91 = .ok (.ireturn, 1) := by decide +kernel
theorem dX4_lead_92 : decode cX4_lead 92 = .ok (.iconst 0, 1) := by decide +kernel
theorem dX4_lead_93 : decode cX4_lead 93 = .ok (.ireturn, 1) := by decide +kernel
theorem dX4_legOf_0 : decode cX4_legOf 0 = .ok (.aload_n 0, 1) := by decide +kernel
theorem dX4_legOf_1 : decode cX4_legOf 1 = .ok (.getfield 18, 3) := by decide +kernel
theorem dX4_legOf_4 : decode cX4_legOf 4 = .ok (.iload_n 2, 1) := by decide +kernel
theorem dX4_legOf_5 : decode cX4_legOf 5 = .ok (.iaload, 1) := by decide +kernel
theorem dX4_legOf_6 : decode cX4_legOf 6 = .ok (.aload_n 1, 1) := by decide +kernel
theorem dX4_legOf_7 : decode cX4_legOf 7 = .ok (.getfield 92, 3) := by decide +kernel
theorem dX4_legOf_10 : decode cX4_legOf 10 = .ok (.iload_n 2, 1) := by decide +kernel
theorem dX4_legOf_11 : decode cX4_legOf 11 = .ok (.iaload, 1) := by decide +kernel
theorem dX4_legOf_12 : decode cX4_legOf 12 = .ok (.if_icmp .ge 7, 3) := by decide +kernel
theorem dX4_legOf_15 : decode cX4_legOf 15 = .ok (.iconst 1, 1) := by decide +kernel
theorem dX4_legOf_16 : decode cX4_legOf 16 = .ok (.goto 4, 3) := by decide +kernel
theorem dX4_legOf_19 : decode cX4_legOf 19 = .ok (.iconst 2, 1) := by decide +kernel
theorem dX4_legOf_20 : decode cX4_legOf 20 = .ok (.ireturn, 1) := by decide +kernel
theorem dX4_delayOfAll_0 : decode cX4_delayOfAll 0 = .ok (.iconst 0, 1) := by decide +kernel
theorem dX4_delayOfAll_1 : decode cX4_delayOfAll 1 = .ok (.istore_n 2, 1) := by decide +kernel
theorem dX4_delayOfAll_2 : decode cX4_delayOfAll 2 = .ok (.iconst 0, 1) := by decide +kernel
theorem dX4_delayOfAll_3 : decode cX4_delayOfAll 3 = .ok (.istore_n 3, 1) := by decide +kernel
theorem dX4_delayOfAll_4 : decode cX4_delayOfAll 4 = .ok (.iload_n 3, 1) := by decide +kernel
theorem dX4_delayOfAll_5 : decode cX4_delayOfAll 5 = .ok (.iload_n 1, 1) := by decide +kernel
theorem dX4_delayOfAll_6 : decode cX4_delayOfAll 6 = .ok (.if_icmp .ge 18, 3) := by decide +kernel
theorem dX4_delayOfAll_9 : decode cX4_delayOfAll 9 = .ok (.iload_n 2, 1) := by decide +kernel
theorem dX4_delayOfAll_10 : decode cX4_delayOfAll 10 = .ok (.aload_n 0, 1) := by decide +kernel
theorem dX4_delayOfAll_11 : decode cX4_delayOfAll 11 = .ok (.getfield 15, 3) := by decide +kernel
theorem dX4_delayOfAll_14 : decode cX4_delayOfAll 14 = .ok (.iload_n 3, 1) := by decide +kernel
theorem dX4_delayOfAll_15 : decode cX4_delayOfAll 15 = .ok (.iaload, 1) := by decide +kernel
theorem dX4_delayOfAll_16 : decode cX4_delayOfAll 16 = .ok (.iadd, 1) := by decide +kernel
theorem dX4_delayOfAll_17 : decode cX4_delayOfAll 17 = .ok (.istore_n 2, 1) := by decide +kernel
theorem dX4_delayOfAll_18 : decode cX4_delayOfAll 18 = .ok (.iinc 3 1, 3) := by decide +kernel
theorem dX4_delayOfAll_21 : decode cX4_delayOfAll 21 = .ok (.goto (-17), 3) := by decide +kernel
theorem dX4_delayOfAll_24 : decode cX4_delayOfAll 24 = .ok (.iload_n 2, 1) := by decide +kernel
theorem dX4_delayOfAll_25 : decode cX4_delayOfAll 25 = .ok (.ireturn, 1) := by decide +kernel
theorem dX4_mostDelayed_0 : decode cX4_mostDelayed 0 = .ok (.iconst (-1), 1) := by decide +kernel
theorem dX4_mostDelayed_1 : decode cX4_mostDelayed 1 = .ok (.istore_n 2, 1) := by decide +kernel
theorem dX4_mostDelayed_2 : decode cX4_mostDelayed 2 = .ok (.iconst 0, 1) := by decide +kernel
theorem dX4_mostDelayed_3 : decode cX4_mostDelayed 3 = .ok (.istore_n 3, 1) := by decide +kernel
theorem dX4_mostDelayed_4 : decode cX4_mostDelayed 4 = .ok (.iload_n 3, 1) := by decide +kernel
theorem dX4_mostDelayed_5 : decode cX4_mostDelayed 5 = .ok (.iload_n 1, 1) := by decide +kernel
theorem dX4_mostDelayed_6 : decode cX4_mostDelayed 6 = .ok (.if_icmp .ge 31, 3) := by decide +kernel
theorem dX4_mostDelayed_9 : decode cX4_mostDelayed 9 = .ok (.iload_n 2, 1) := by decide +kernel
theorem dX4_mostDelayed_10 : decode cX4_mostDelayed 10 = .ok (.iconst (-1), 1) := by decide +kernel
theorem dX4_mostDelayed_11 : decode cX4_mostDelayed 11 = .ok (.if_icmp .eq 18, 3) := by decide +kernel
theorem dX4_mostDelayed_14 : decode cX4_mostDelayed 14 = .ok (.aload_n 0, 1) := by decide +kernel
theorem dX4_mostDelayed_15 : decode cX4_mostDelayed 15 = .ok (.getfield 15, 3) := by decide +kernel
theorem dX4_mostDelayed_18 : decode cX4_mostDelayed 18 = .ok (.iload_n 3, 1) := by decide +kernel
theorem dX4_mostDelayed_19 : decode cX4_mostDelayed 19 = .ok (.iaload, 1) := by decide +kernel
theorem dX4_mostDelayed_20 : decode cX4_mostDelayed 20 = .ok (.aload_n 0, 1) := by decide +kernel
theorem dX4_mostDelayed_21 : decode cX4_mostDelayed 21 = .ok (.getfield 15, 3) := by decide +kernel
theorem dX4_mostDelayed_24 : decode cX4_mostDelayed 24 = .ok (.iload_n 2, 1) := by decide +kernel
theorem dX4_mostDelayed_25 : decode cX4_mostDelayed 25 = .ok (.iaload, 1) := by decide +kernel
theorem dX4_mostDelayed_26 : decode cX4_mostDelayed 26 = .ok (.if_icmp .le 5, 3) := by decide +kernel
theorem dX4_mostDelayed_29 : decode cX4_mostDelayed 29 = .ok (.iload_n 3, 1) := by decide +kernel
theorem dX4_mostDelayed_30 : decode cX4_mostDelayed 30 = .ok (.istore_n 2, 1) := by decide +kernel
theorem dX4_mostDelayed_31 : decode cX4_mostDelayed 31 = .ok (.iinc 3 1, 3) := by decide +kernel
theorem dX4_mostDelayed_34 : decode cX4_mostDelayed 34 = .ok (.goto (-30), 3) := by decide +kernel
theorem dX4_mostDelayed_37 : decode cX4_mostDelayed 37 = .ok (.iload_n 2, 1) := by decide +kernel
theorem dX4_mostDelayed_38 : decode cX4_mostDelayed 38 = .ok (.ireturn, 1) := by decide +kernel
theorem dX5_init_0 : decode cX5_init 0 = .ok (.aload_n 0, 1) := by decide +kernel
theorem dX5_init_1 : decode cX5_init 1 = .ok (.invokespecial 3, 3) := by decide +kernel
theorem dX5_init_4 : decode cX5_init 4 = .ok (.aload_n 0, 1) := by decide +kernel
theorem dX5_init_5 : decode cX5_init 5 = .ok (.bipush 16, 2) := by decide +kernel
theorem dX5_init_7 : decode cX5_init 7 = .ok (.newarray .int, 2) := by decide +kernel
theorem dX5_init_9 : decode cX5_init 9 = .ok (.putfield 9, 3) := by decide +kernel
theorem dX5_init_12 : decode cX5_init 12 = .ok (.aload_n 0, 1) := by decide +kernel
theorem dX5_init_13 : decode cX5_init 13 = .ok (.bipush 16, 2) := by decide +kernel
theorem dX5_init_15 : decode cX5_init 15 = .ok (.newarray .int, 2) := by decide +kernel
theorem dX5_init_17 : decode cX5_init 17 = .ok (.putfield 15, 3) := by decide +kernel
theorem dX5_init_20 : decode cX5_init 20 = .ok (.aload_n 0, 1) := by decide +kernel
theorem dX5_init_21 : decode cX5_init 21 = .ok (.sipush 128, 3) := by decide +kernel
theorem dX5_init_24 : decode cX5_init 24 = .ok (.newarray .int, 2) := by decide +kernel
theorem dX5_init_26 : decode cX5_init 26 = .ok (.putfield 18, 3) := by decide +kernel
theorem dX5_init_29 : decode cX5_init 29 = .ok (.aload_n 0, 1) := by decide +kernel
theorem dX5_init_30 : decode cX5_init 30 = .ok (.bipush 16, 2) := by decide +kernel
theorem dX5_init_32 : decode cX5_init 32 = .ok (.newarray .long, 2) := by decide +kernel
theorem dX5_init_34 : decode cX5_init 34 = .ok (.putfield 21, 3) := by decide +kernel
theorem dX5_init_37 : decode cX5_init 37 = .ok (.return_, 1) := by decide +kernel
theorem dX5_follow_0 : decode cX5_follow 0 = .ok (.iconst 0, 1) := by decide +kernel
theorem dX5_follow_1 : decode cX5_follow 1 = .ok (.istore_n 2, 1) := by decide +kernel
theorem dX5_follow_2 : decode cX5_follow 2 = .ok (.iload_n 2, 1) := by decide +kernel
theorem dX5_follow_3 : decode cX5_follow 3 = .ok (.aload_n 1, 1) := by decide +kernel
theorem dX5_follow_4 : decode cX5_follow 4 = .ok (.getfield 25, 3) := by decide +kernel
theorem dX5_follow_7 : decode cX5_follow 7 = .ok (.if_icmp .ge 21, 3) := by decide +kernel
theorem dX5_follow_10 : decode cX5_follow 10 = .ok (.aload_n 0, 1) := by decide +kernel
theorem dX5_follow_11 : decode cX5_follow 11 = .ok (.aload_n 1, 1) := by decide +kernel
theorem dX5_follow_12 : decode cX5_follow 12 = .ok (.iload_n 2, 1) := by decide +kernel
theorem dX5_follow_13 : decode cX5_follow 13 = .ok (.aload_n 1, 1) := by decide +kernel
theorem dX5_follow_14 : decode cX5_follow 14 = .ok (.iload_n 2, 1) := by decide +kernel
theorem dX5_follow_15 : decode cX5_follow 15 = .ok (.iconst 2, 1) := by decide +kernel
theorem dX5_follow_16 : decode cX5_follow 16 = .ok (.invokevirtual 31, 3) := by decide +kernel
theorem dX5_follow_19 : decode cX5_follow 19 = .ok (.invokevirtual 35, 3) := by decide +kernel
theorem dX5_follow_22 : decode cX5_follow 22 = .ok (.iinc 2 1, 3) := by decide +kernel
theorem dX5_follow_25 : decode cX5_follow 25 = .ok (.goto (-23), 3) := by decide +kernel
theorem dX5_follow_28 : decode cX5_follow 28 = .ok (.return_, 1) := by decide +kernel
theorem dX5_trace_0 : decode cX5_trace 0 = .ok (.aload_n 0, 1) := by decide +kernel
theorem dX5_trace_1 : decode cX5_trace 1 = .ok (.getfield 9, 3) := by decide +kernel
theorem dX5_trace_4 : decode cX5_trace 4 = .ok (.iload_n 2, 1) := by decide +kernel
theorem dX5_trace_5 : decode cX5_trace 5 = .ok (.iconst 0, 1) := by decide +kernel
theorem dX5_trace_6 : decode cX5_trace 6 = .ok (.iastore, 1) := by decide +kernel
theorem dX5_trace_7 : decode cX5_trace 7 = .ok (.aload_n 0, 1) := by decide +kernel
theorem dX5_trace_8 : decode cX5_trace 8 = .ok (.getfield 21, 3) := by decide +kernel
theorem dX5_trace_11 : decode cX5_trace 11 = .ok (.iload_n 2, 1) := by decide +kernel
theorem dX5_trace_12 : decode cX5_trace 12 = .ok (.lconst 0, 1) := by decide +kernel
theorem dX5_trace_13 : decode cX5_trace 13 = .ok (.lastore, 1) := by decide +kernel
theorem dX5_trace_14 : decode cX5_trace 14 = .ok (.aload_n 0, 1) := by decide +kernel
theorem dX5_trace_15 : decode cX5_trace 15 = .ok (.aload_n 1, 1) := by decide +kernel
theorem dX5_trace_16 : decode cX5_trace 16 = .ok (.iload_n 2, 1) := by decide +kernel
theorem dX5_trace_17 : decode cX5_trace 17 = .ok (.aload_n 1, 1) := by decide +kernel
theorem dX5_trace_18 : decode cX5_trace 18 = .ok (.iload_n 2, 1) := by decide +kernel
theorem dX5_trace_19 : decode cX5_trace 19 = .ok (.iconst 0, 1) := by decide +kernel
theorem dX5_trace_20 : decode cX5_trace 20 = .ok (.invokevirtual 31, 3) := by decide +kernel
theorem dX5_trace_23 : decode cX5_trace 23 = .ok (.iload_n 3, 1) := by decide +kernel
theorem dX5_trace_24 : decode cX5_trace 24 = .ok (.invokevirtual 39, 3) := by decide +kernel
theorem dX5_trace_27 : decode cX5_trace 27 = .ok (.aload_n 0, 1) := by decide +kernel
theorem dX5_trace_28 : decode cX5_trace 28 = .ok (.getfield 15, 3) := by decide +kernel
theorem dX5_trace_31 : decode cX5_trace 31 = .ok (.iload_n 2, 1) := by decide +kernel
theorem dX5_trace_32 : decode cX5_trace 32 = .ok (.aload_n 0, 1) := by decide +kernel
theorem dX5_trace_33 : decode cX5_trace 33 = .ok (.getfield 9, 3) := by decide +kernel
theorem dX5_trace_36 : decode cX5_trace 36 = .ok (.iload_n 2, 1) := by decide +kernel
theorem dX5_trace_37 : decode cX5_trace 37 = .ok (.iaload, 1) := by decide +kernel
theorem dX5_trace_38 : decode cX5_trace 38 = .ok (.iastore, 1) := by decide +kernel
theorem dX5_trace_39 : decode cX5_trace 39 = .ok (.aload_n 0, 1) := by decide +kernel
theorem dX5_trace_40 : decode cX5_trace 40 = .ok (.aload_n 1, 1) := by decide +kernel
theorem dX5_trace_41 : decode cX5_trace 41 = .ok (.iload_n 2, 1) := by decide +kernel
theorem dX5_trace_42 : decode cX5_trace 42 = .ok (.iload_n 3, 1) := by decide +kernel
theorem dX5_trace_43 : decode cX5_trace 43 = .ok (.aload_n 1, 1) := by decide +kernel
theorem dX5_trace_44 : decode cX5_trace 44 = .ok (.iload_n 2, 1) := by decide +kernel
theorem dX5_trace_45 : decode cX5_trace 45 = .ok (.iconst 1, 1) := by decide +kernel
theorem dX5_trace_46 : decode cX5_trace 46 = .ok (.invokevirtual 31, 3) := by decide +kernel
theorem dX5_trace_49 : decode cX5_trace 49 = .ok (.invokevirtual 39, 3) := by decide +kernel
theorem dX5_trace_52 : decode cX5_trace 52 = .ok (.return_, 1) := by decide +kernel
theorem dX5_addLeg_0 : decode cX5_addLeg 0 = .ok (.iload_n 3, 1) := by decide +kernel
theorem dX5_addLeg_1 : decode cX5_addLeg 1 = .ok (.istore 5, 2) := by decide +kernel
theorem dX5_addLeg_3 : decode cX5_addLeg 3 = .ok (.iconst 0, 1) := by decide +kernel
theorem dX5_addLeg_4 : decode cX5_addLeg 4 = .ok (.istore 6, 2) := by decide +kernel
theorem dX5_addLeg_6 : decode cX5_addLeg 6 = .ok (.iload 6, 2) := by decide +kernel
theorem dX5_addLeg_8 : decode cX5_addLeg 8 = .ok (.aload_n 1, 1) := by decide +kernel
theorem dX5_addLeg_9 : decode cX5_addLeg 9 = .ok (.getfield 43, 3) := by decide +kernel
theorem dX5_addLeg_12 : decode cX5_addLeg 12 = .ok (.if_icmp .ge 106, 3) := by decide +kernel
theorem dX5_addLeg_15 : decode cX5_addLeg 15 = .ok (.aload_n 1, 1) := by decide +kernel
theorem dX5_addLeg_16 : decode cX5_addLeg 16 = .ok (.getfield 46, 3) := by decide +kernel
theorem dX5_addLeg_19 : decode cX5_addLeg 19 = .ok (.ifCond .ne 8, 3) := by decide +kernel
theorem dX5_addLeg_22 : decode cX5_addLeg 22 = .ok (.iload 6, 2) := by decide +kernel
theorem dX5_addLeg_24 : decode cX5_addLeg 24 = .ok (.goto 12, 3) := by decide +kernel
theorem dX5_addLeg_27 : decode cX5_addLeg 27 = .ok (.aload_n 1, 1) := by decide +kernel
theorem dX5_addLeg_28 : decode cX5_addLeg 28 = .ok (.getfield 43, 3) := by decide +kernel
theorem dX5_addLeg_31 : decode cX5_addLeg 31 = .ok (.iconst 1, 1) := by decide +kernel
theorem dX5_addLeg_32 : decode cX5_addLeg 32 = .ok (.isub, 1) := by decide +kernel
theorem dX5_addLeg_33 : decode cX5_addLeg 33 = .ok (.iload 6, 2) := by decide +kernel
theorem dX5_addLeg_35 : decode cX5_addLeg 35 = .ok (.isub, 1) := by decide +kernel
theorem dX5_addLeg_36 : decode cX5_addLeg 36 = .ok (.istore 7, 2) := by decide +kernel
theorem dX5_addLeg_38 : decode cX5_addLeg 38 = .ok (.iconst 1, 1) := by decide +kernel
theorem dX5_addLeg_39 : decode cX5_addLeg 39 = .ok (.iload 7, 2) := by decide +kernel
theorem dX5_addLeg_41 : decode cX5_addLeg 41 = .ok (.ishl, 1) := by decide +kernel
theorem dX5_addLeg_42 : decode cX5_addLeg 42 = .ok (.istore 8, 2) := by decide +kernel
theorem dX5_addLeg_44 : decode cX5_addLeg 44 = .ok (.iload 5, 2) := by decide +kernel
theorem dX5_addLeg_46 : decode cX5_addLeg 46 = .ok (.iload 4, 2) := by decide +kernel
theorem dX5_addLeg_48 : decode cX5_addLeg 48 = .ok (.ixor, 1) := by decide +kernel
theorem dX5_addLeg_49 : decode cX5_addLeg 49 = .ok (.iload 8, 2) := by decide +kernel
theorem dX5_addLeg_51 : decode cX5_addLeg 51 = .ok (.iand, 1) := by decide +kernel
theorem dX5_addLeg_52 : decode cX5_addLeg 52 = .ok (.ifCond .eq 60, 3) := by decide +kernel
theorem dX5_addLeg_55 : decode cX5_addLeg 55 = .ok (.iload 5, 2) := by decide +kernel
theorem dX5_addLeg_57 : decode cX5_addLeg 57 = .ok (.iconst 4, 1) := by decide +kernel
theorem dX5_addLeg_58 : decode cX5_addLeg 58 = .ok (.imul, 1) := by decide +kernel
theorem dX5_addLeg_59 : decode cX5_addLeg 59 = .ok (.iload 7, 2) := by decide +kernel
theorem dX5_addLeg_61 : decode cX5_addLeg 61 = .ok (.iadd, 1) := by decide +kernel
theorem dX5_addLeg_62 : decode cX5_addLeg 62 = .ok (.istore 9, 2) := by decide +kernel
theorem dX5_addLeg_64 : decode cX5_addLeg 64 = .ok (.aload_n 0, 1) := by decide +kernel
theorem dX5_addLeg_65 : decode cX5_addLeg 65 = .ok (.getfield 18, 3) := by decide +kernel
theorem dX5_addLeg_68 : decode cX5_addLeg 68 = .ok (.iload_n 2, 1) := by decide +kernel
theorem dX5_addLeg_69 : decode cX5_addLeg 69 = .ok (.bipush 8, 2) := by decide +kernel
theorem dX5_addLeg_71 : decode cX5_addLeg 71 = .ok (.imul, 1) := by decide +kernel
theorem dX5_addLeg_72 : decode cX5_addLeg 72 = .ok (.aload_n 0, 1) := by decide +kernel
theorem dX5_addLeg_73 : decode cX5_addLeg 73 = .ok (.getfield 9, 3) := by decide +kernel
theorem dX5_addLeg_76 : decode cX5_addLeg 76 = .ok (.iload_n 2, 1) := by decide +kernel
theorem dX5_addLeg_77 : decode cX5_addLeg 77 = .ok (.iaload, 1) := by decide +kernel
theorem dX5_addLeg_78 : decode cX5_addLeg 78 = .ok (.iadd, 1) := by decide +kernel
theorem dX5_addLeg_79 : decode cX5_addLeg 79 = .ok (.iload 9, 2) := by decide +kernel
theorem dX5_addLeg_81 : decode cX5_addLeg 81 = .ok (.iastore, 1) := by decide +kernel
theorem dX5_addLeg_82 : decode cX5_addLeg 82 = .ok (.aload_n 0, 1) := by decide +kernel
theorem dX5_addLeg_83 : decode cX5_addLeg 83 = .ok (.getfield 21, 3) := by decide +kernel
theorem dX5_addLeg_86 : decode cX5_addLeg 86 = .ok (.iload_n 2, 1) := by decide +kernel
theorem dX5_addLeg_87 : decode cX5_addLeg 87 = .ok (.dup2, 1) := by decide +kernel
theorem dX5_addLeg_88 : decode cX5_addLeg 88 = .ok (.laload, 1) := by decide +kernel
theorem dX5_addLeg_89 : decode cX5_addLeg 89 = .ok (.lconst 1, 1) := by decide +kernel
theorem dX5_addLeg_90 : decode cX5_addLeg 90 = .ok (.iload 9, 2) := by decide +kernel
theorem dX5_addLeg_92 : decode cX5_addLeg 92 = .ok (.lshl, 1) := by decide +kernel
theorem dX5_addLeg_93 : decode cX5_addLeg 93 = .ok (.lor, 1) := by decide +kernel
theorem dX5_addLeg_94 : decode cX5_addLeg 94 = .ok (.lastore, 1) := by decide +kernel
theorem dX5_addLeg_95 : decode cX5_addLeg 95 = .ok (.aload_n 0, 1) := by decide +kernel
theorem dX5_addLeg_96 : decode cX5_addLeg 96 = .ok (.getfield 9, 3) := by decide +kernel
theorem dX5_addLeg_99 : decode cX5_addLeg 99 = .ok (.iload_n 2, 1) := by decide +kernel
theorem dX5_addLeg_100 : decode cX5_addLeg 100 = .ok (.dup2, 1) := by decide +kernel
theorem dX5_addLeg_101 : decode cX5_addLeg 101 = .ok (.iaload, 1) := by decide +kernel
theorem dX5_addLeg_102 : decode cX5_addLeg 102 = .ok (.iconst 1, 1) := by decide +kernel
theorem dX5_addLeg_103 : decode cX5_addLeg 103 = .ok (.iadd, 1) := by decide +kernel
theorem dX5_addLeg_104 : decode cX5_addLeg 104 = .ok (.iastore, 1) := by decide +kernel
theorem dX5_addLeg_105 : decode cX5_addLeg 105 = .ok (.iload 5, 2) := by decide +kernel
theorem dX5_addLeg_107 : decode cX5_addLeg 107 = .ok (.iload 8, 2) := by decide +kernel
theorem dX5_addLeg_109 : decode cX5_addLeg 109 = .ok (.ixor, 1) := by decide +kernel
theorem dX5_addLeg_110 : decode cX5_addLeg 110 = .ok (.istore 5, 2) := by decide +kernel
theorem dX5_addLeg_112 : decode cX5_addLeg 112 = .ok (.iinc 6 1, 3) := by decide +kernel
theorem dX5_addLeg_115 : decode cX5_addLeg 115 = .ok (.goto (-109), 3) := by decide +kernel
theorem dX5_addLeg_118 : decode cX5_addLeg 118 = .ok (.return_, 1) := by decide +kernel
theorem dX5_edge_0 : decode cX5_edge 0 = .ok (.aload_n 0, 1) := by decide +kernel
theorem dX5_edge_1 : decode cX5_edge 1 = .ok (.getfield 18, 3) := by decide +kernel
theorem dX5_edge_4 : decode cX5_edge 4 = .ok (.iload_n 1, 1) := by decide +kernel
theorem dX5_edge_5 : decode cX5_edge 5 = .ok (.bipush 8, 2) := by decide +kernel
theorem dX5_edge_7 : decode cX5_edge 7 = .ok (.imul, 1) := by decide +kernel
theorem dX5_edge_8 : decode cX5_edge 8 = .ok (.iload_n 2, 1) := by decide +kernel
theorem dX5_edge_9 : decode cX5_edge 9 = .ok (.iadd, 1) := by decide +kernel
theorem dX5_edge_10 : decode cX5_edge 10 = .ok (.iaload, 1) := by decide +kernel
theorem dX5_edge_11 : decode cX5_edge 11 = .ok (.ireturn, 1) := by decide +kernel
theorem dX5_cornerBehind_0 : decode cX5_cornerBehind 0 = .ok (.iload_n 3, 1) := by decide +kernel
theorem dX5_cornerBehind_1 : decode cX5_cornerBehind 1 = .ok (.aload_n 0, 1) := by decide +kernel
theorem dX5_cornerBehind_2 : decode cX5_cornerBehind 2 = .ok (.getfield 9, 3) := by decide +kernel
theorem dX5_cornerBehind_5 : decode cX5_cornerBehind 5 = .ok (.iload_n 2, 1) := by decide +kernel
theorem dX5_cornerBehind_6 : decode cX5_cornerBehind 6 = .ok (.iaload, 1) := by decide +kernel
theorem dX5_cornerBehind_7 : decode cX5_cornerBehind 7 = .ok (.if_icmp .ge 14, 3) := by decide +kernel
theorem dX5_cornerBehind_10 : decode cX5_cornerBehind 10 = .ok (.aload_n 0, 1) := by decide +kernel
theorem dX5_cornerBehind_11 : decode cX5_cornerBehind 11 = .ok (.iload_n 2, 1) := by decide +kernel
theorem dX5_cornerBehind_12 : decode cX5_cornerBehind 12 = .ok (.iload_n 3, 1) := by decide +kernel
theorem dX5_cornerBehind_13 : decode cX5_cornerBehind 13 = .ok (.invokevirtual 49, 3) := by decide +kernel
theorem dX5_cornerBehind_16 : decode cX5_cornerBehind 16 = .ok (.iconst 4, 1) := by decide +kernel
theorem dX5_cornerBehind_17 : decode cX5_cornerBehind 17 = .ok (.idiv, 1) := by decide +kernel
theorem dX5_cornerBehind_18 : decode cX5_cornerBehind 18 = .ok (.goto 9, 3) := by decide +kernel
theorem dX5_cornerBehind_21 : decode cX5_cornerBehind 21 = .ok (.aload_n 1, 1) := by decide +kernel
theorem dX5_cornerBehind_22 : decode cX5_cornerBehind 22 = .ok (.iload_n 2, 1) := by decide +kernel
theorem dX5_cornerBehind_23 : decode cX5_cornerBehind 23 = .ok (.iconst 1, 1) := by decide +kernel
theorem dX5_cornerBehind_24 : decode cX5_cornerBehind 24 = .ok (.invokevirtual 31, 3) := by decide +kernel
theorem dX5_cornerBehind_27 : decode cX5_cornerBehind 27 = .ok (.ireturn, 1) := by decide +kernel
theorem dX5_meetings_0 : decode cX5_meetings 0 = .ok (.iconst 0, 1) := by decide +kernel
theorem dX5_meetings_1 : decode cX5_meetings 1 = .ok (.istore_n 3, 1) := by decide +kernel
theorem dX5_meetings_2 : decode cX5_meetings 2 = .ok (.iconst 0, 1) := by decide +kernel
theorem dX5_meetings_3 : decode cX5_meetings 3 = .ok (.istore 4, 2) := by decide +kernel
theorem dX5_meetings_5 : decode cX5_meetings 5 = .ok (.iload 4, 2) := by decide +kernel
theorem dX5_meetings_7 : decode cX5_meetings 7 = .ok (.iload_n 2, 1) := by decide +kernel
theorem dX5_meetings_8 : decode cX5_meetings 8 = .ok (.if_icmp .ge 37, 3) := by decide +kernel
theorem dX5_meetings_11 : decode cX5_meetings 11 = .ok (.iload 4, 2) := by decide +kernel
theorem dX5_meetings_13 : decode cX5_meetings 13 = .ok (.iload_n 1, 1) := by decide +kernel
theorem dX5_meetings_14 : decode cX5_meetings 14 = .ok (.if_icmp .eq 25, 3) := by decide +kernel
theorem dX5_meetings_17 : decode cX5_meetings 17 = .ok (.aload_n 0, 1) := by decide +kernel
theorem dX5_meetings_18 : decode cX5_meetings 18 = .ok (.getfield 21, 3) := by decide +kernel
theorem dX5_meetings_21 : decode cX5_meetings 21 = .ok (.iload 4, 2) := by decide +kernel
theorem dX5_meetings_23 : decode cX5_meetings 23 = .ok (.laload, 1) := by decide +kernel
theorem dX5_meetings_24 : decode cX5_meetings 24 = .ok (.aload_n 0, 1) := by decide +kernel
theorem dX5_meetings_25 : decode cX5_meetings 25 = .ok (.getfield 21, 3) := by decide +kernel
theorem dX5_meetings_28 : decode cX5_meetings 28 = .ok (.iload_n 1, 1) := by decide +kernel
theorem dX5_meetings_29 : decode cX5_meetings 29 = .ok (.laload, 1) := by decide +kernel
theorem dX5_meetings_30 : decode cX5_meetings 30 = .ok (.land, 1) := by decide +kernel
theorem dX5_meetings_31 : decode cX5_meetings 31 = .ok (.lconst 0, 1) := by decide +kernel
theorem dX5_meetings_32 : decode cX5_meetings 32 = .ok (.lcmp, 1) := by decide +kernel
theorem dX5_meetings_33 : decode cX5_meetings 33 = .ok (.ifCond .eq 6, 3) := by decide +kernel
theorem dX5_meetings_36 : decode cX5_meetings 36 = .ok (.iinc 3 1, 3) := by decide +kernel
theorem dX5_meetings_39 : decode cX5_meetings 39 = .ok (.iinc 4 1, 3) := by decide +kernel
theorem dX5_meetings_42 : decode cX5_meetings 42 = .ok (.goto (-37), 3) := by decide +kernel
theorem dX5_meetings_45 : decode cX5_meetings 45 = .ok (.iload_n 3, 1) := by decide +kernel
theorem dX5_meetings_46 : decode cX5_meetings 46 = .ok (.ireturn, 1) := by decide +kernel
theorem dX6_init_0 : decode cX6_init 0 = .ok (.aload_n 0, 1) := by decide +kernel
theorem dX6_init_1 : decode cX6_init 1 = .ok (.invokespecial 1, 3) := by decide +kernel
theorem dX6_init_4 : decode cX6_init 4 = .ok (.aload_n 0, 1) := by decide +kernel
theorem dX6_init_5 : decode cX6_init 5 = .ok (.new 7, 3) := by decide +kernel
theorem dX6_init_8 : decode cX6_init 8 = .ok (.dup, 1) := by decide +kernel
theorem dX6_init_9 : decode cX6_init 9 = .ok (.invokespecial 9, 3) := by decide +kernel
theorem dX6_init_12 : decode cX6_init 12 = .ok (.putfield 10, 3) := by decide +kernel
theorem dX6_init_15 : decode cX6_init 15 = .ok (.aload_n 0, 1) := by decide +kernel
theorem dX6_init_16 : decode cX6_init 16 = .ok (.new 16, 3) := by decide +kernel
theorem dX6_init_19 : decode cX6_init 19 = .ok (.dup, 1) := by decide +kernel
theorem dX6_init_20 : decode cX6_init 20 = .ok (.invokespecial 18, 3) := by decide +kernel
theorem dX6_init_23 : decode cX6_init 23 = .ok (.putfield 19, 3) := by decide +kernel
theorem dX6_init_26 : decode cX6_init 26 = .ok (.aload_n 0, 1) := by decide +kernel
theorem dX6_init_27 : decode cX6_init 27 = .ok (.new 23, 3) := by decide +kernel
theorem dX6_init_30 : decode cX6_init 30 = .ok (.dup, 1) := by decide +kernel
theorem dX6_init_31 : decode cX6_init 31 = .ok (.invokespecial 25, 3) := by decide +kernel
theorem dX6_init_34 : decode cX6_init 34 = .ok (.putfield 26, 3) := by decide +kernel
theorem dX6_init_37 : decode cX6_init 37 = .ok (.aload_n 0, 1) := by decide +kernel
theorem dX6_init_38 : decode cX6_init 38 = .ok (.new 30, 3) := by decide +kernel
theorem dX6_init_41 : decode cX6_init 41 = .ok (.dup, 1) := by decide +kernel
theorem dX6_init_42 : decode cX6_init 42 = .ok (.invokespecial 32, 3) := by decide +kernel
theorem dX6_init_45 : decode cX6_init 45 = .ok (.putfield 33, 3) := by decide +kernel
theorem dX6_init_48 : decode cX6_init 48 = .ok (.aload_n 0, 1) := by decide +kernel
theorem dX6_init_49 : decode cX6_init 49 = .ok (.new 37, 3) := by decide +kernel
theorem dX6_init_52 : decode cX6_init 52 = .ok (.dup, 1) := by decide +kernel
theorem dX6_init_53 : decode cX6_init 53 = .ok (.invokespecial 39, 3) := by decide +kernel
theorem dX6_init_56 : decode cX6_init 56 = .ok (.putfield 40, 3) := by decide +kernel
theorem dX6_init_59 : decode cX6_init 59 = .ok (.aload_n 0, 1) := by decide +kernel
theorem dX6_init_60 : decode cX6_init 60 = .ok (.new 44, 3) := by decide +kernel
theorem dX6_init_63 : decode cX6_init 63 = .ok (.dup, 1) := by decide +kernel
theorem dX6_init_64 : decode cX6_init 64 = .ok (.invokespecial 46, 3) := by decide +kernel
theorem dX6_init_67 : decode cX6_init 67 = .ok (.putfield 47, 3) := by decide +kernel
theorem dX6_init_70 : decode cX6_init 70 = .ok (.aload_n 0, 1) := by decide +kernel
theorem dX6_init_71 : decode cX6_init 71 = .ok (.iconst 3, 1) := by decide +kernel
theorem dX6_init_72 : decode cX6_init 72 = .ok (.newarray .int, 2) := by decide +kernel
theorem dX6_init_74 : decode cX6_init 74 = .ok (.putfield 51, 3) := by decide +kernel
theorem dX6_init_77 : decode cX6_init 77 = .ok (.aload_n 0, 1) := by decide +kernel
theorem dX6_init_78 : decode cX6_init 78 = .ok (.iconst 0, 1) := by decide +kernel
theorem dX6_init_79 : decode cX6_init 79 = .ok (.putfield 55, 3) := by decide +kernel
theorem dX6_init_82 : decode cX6_init 82 = .ok (.aload_n 0, 1) := by decide +kernel
theorem dX6_init_83 : decode cX6_init 83 = .ok (.iconst 1, 1) := by decide +kernel
theorem dX6_init_84 : decode cX6_init 84 = .ok (.putfield 59, 3) := by decide +kernel
theorem dX6_init_87 : decode cX6_init 87 = .ok (.return_, 1) := by decide +kernel
theorem dX6_sides_0 : decode cX6_sides 0 = .ok (.iload_n 1, 1) := by decide +kernel
theorem dX6_sides_1 : decode cX6_sides 1 = .ok (.iconst 1, 1) := by decide +kernel
theorem dX6_sides_2 : decode cX6_sides 2 = .ok (.if_icmp .lt 8, 3) := by decide +kernel
theorem dX6_sides_5 : decode cX6_sides 5 = .ok (.iload_n 1, 1) := by decide +kernel
theorem dX6_sides_6 : decode cX6_sides 6 = .ok (.iconst 4, 1) := by decide +kernel
theorem dX6_sides_7 : decode cX6_sides 7 = .ok (.if_icmp .le 10, 3) := by decide +kernel
theorem dX6_sides_10 : decode cX6_sides 10 = .ok (.aload_n 0, 1) := by decide +kernel
theorem dX6_sides_11 : decode cX6_sides 11 = .ok (.bipush (-2), 2) := by decide +kernel
theorem dX6_sides_13 : decode cX6_sides 13 = .ok (.invokevirtual 62, 3) := by decide +kernel
theorem dX6_sides_16 : decode cX6_sides 16 = .ok (.ireturn, 1) := by decide +kernel
theorem dX6_sides_17 : decode cX6_sides 17 = .ok (.aload_n 0, 1) := by decide +kernel
theorem dX6_sides_18 : decode cX6_sides 18 = .ok (.getfield 19, 3) := by decide +kernel
theorem dX6_sides_21 : decode cX6_sides 21 = .ok (.aload_n 0, 1) := by decide +kernel
theorem dX6_sides_22 : decode cX6_sides 22 = .ok (.getfield 10, 3) := by decide +kernel
theorem dX6_sides_25 : decode cX6_sides 25 = .ok (.invokevirtual 66, 3) := by decide +kernel
theorem dX6_sides_28 : decode cX6_sides 28 = .ok (.aload_n 0, 1) := by decide +kernel
theorem dX6_sides_29 : decode cX6_sides 29 = .ok (.getfield 10, 3) := by decide +kernel
theorem dX6_sides_32 : decode cX6_sides 32 = .ok (.getfield 70, 3) := by decide +kernel
theorem dX6_sides_35 : decode cX6_sides 35 = .ok (.istore_n 2, 1) := by decide +kernel
theorem dX6_sides_36 : decode cX6_sides 36 = .ok (.aload_n 0, 1) := by decide +kernel
theorem dX6_sides_37 : decode cX6_sides 37 = .ok (.getfield 10, 3) := by decide +kernel
theorem dX6_sides_40 : decode cX6_sides 40 = .ok (.iload_n 1, 1) := by decide +kernel
theorem dX6_sides_41 : decode cX6_sides 41 = .ok (.putfield 70, 3) := by decide +kernel
theorem dX6_sides_44 : decode cX6_sides 44 = .ok (.aload_n 0, 1) := by decide +kernel
theorem dX6_sides_45 : decode cX6_sides 45 = .ok (.getfield 10, 3) := by decide +kernel
theorem dX6_sides_48 : decode cX6_sides 48 = .ok (.iconst 0, 1) := by decide +kernel
theorem dX6_sides_49 : decode cX6_sides 49 = .ok (.putfield 73, 3) := by decide +kernel
theorem dX6_sides_52 : decode cX6_sides 52 = .ok (.iload_n 2, 1) := by decide +kernel
theorem dX6_sides_53 : decode cX6_sides 53 = .ok (.ireturn, 1) := by decide +kernel
theorem dX6_parcel_0 : decode cX6_parcel 0 = .ok (.aload_n 0, 1) := by decide +kernel
theorem dX6_parcel_1 : decode cX6_parcel 1 = .ok (.getfield 10, 3) := by decide +kernel
theorem dX6_parcel_4 : decode cX6_parcel 4 = .ok (.iconst 0, 1) := by decide +kernel
theorem dX6_parcel_5 : decode cX6_parcel 5 = .ok (.iload_n 1, 1) := by decide +kernel
theorem dX6_parcel_6 : decode cX6_parcel 6 = .ok (.invokevirtual 76, 3) := by decide +kernel
theorem dX6_parcel_9 : decode cX6_parcel 9 = .ok (.ifCond .eq 40, 3) := by decide +kernel
theorem dX6_parcel_12 : decode cX6_parcel 12 = .ok (.aload_n 0, 1) := by decide +kernel
theorem dX6_parcel_13 : decode cX6_parcel 13 = .ok (.getfield 10, 3) := by decide +kernel
theorem dX6_parcel_16 : decode cX6_parcel 16 = .ok (.iconst 1, 1) := by decide +kernel
theorem dX6_parcel_17 : decode cX6_parcel 17 = .ok (.iload_n 2, 1) := by decide +kernel
theorem dX6_parcel_18 : decode cX6_parcel 18 = .ok (.invokevirtual 76, 3) := by decide +kernel
theorem dX6_parcel_21 : decode cX6_parcel 21 = .ok (.ifCond .eq 28, 3) := by decide +kernel
theorem dX6_parcel_24 : decode cX6_parcel 24 = .ok (.aload_n 0, 1) := by decide +kernel
theorem dX6_parcel_25 : decode cX6_parcel 25 = .ok (.getfield 10, 3) := by decide +kernel
theorem dX6_parcel_28 : decode cX6_parcel 28 = .ok (.iconst 2, 1) := by decide +kernel
theorem dX6_parcel_29 : decode cX6_parcel 29 = .ok (.iload_n 3, 1) := by decide +kernel
theorem dX6_parcel_30 : decode cX6_parcel 30 = .ok (.invokevirtual 76, 3) := by decide +kernel
theorem dX6_parcel_33 : decode cX6_parcel 33 = .ok (.ifCond .eq 16, 3) := by decide +kernel
theorem dX6_parcel_36 : decode cX6_parcel 36 = .ok (.aload_n 0, 1) := by decide +kernel
theorem dX6_parcel_37 : decode cX6_parcel 37 = .ok (.getfield 10, 3) := by decide +kernel
theorem dX6_parcel_40 : decode cX6_parcel 40 = .ok (.iconst 3, 1) := by decide +kernel
theorem dX6_parcel_41 : decode cX6_parcel 41 = .ok (.iload 4, 2) := by decide +kernel
theorem dX6_parcel_43 : decode cX6_parcel 43 = .ok (.invokevirtual 76, 3) := by decide +kernel
theorem dX6_parcel_46 : decode cX6_parcel 46 = .ok (.ifCond .ne 10, 3) := by decide +kernel
theorem dX6_parcel_49 : decode cX6_parcel 49 = .ok (.aload_n 0, 1) := by decide +kernel
theorem dX6_parcel_50 : decode cX6_parcel 50 = .ok (.bipush (-2), 2) := by decide +kernel
theorem dX6_parcel_52 : decode cX6_parcel 52 = .ok (.invokevirtual 62, 3) := by decide +kernel
theorem dX6_parcel_55 : decode cX6_parcel 55 = .ok (.ireturn, 1) := by decide +kernel
theorem dX6_parcel_56 : decode cX6_parcel 56 = .ok (.aload_n 0, 1) := by decide +kernel
theorem dX6_parcel_57 : decode cX6_parcel 57 = .ok (.getfield 10, 3) := by decide +kernel
theorem dX6_parcel_60 : decode cX6_parcel 60 = .ok (.getfield 73, 3) := by decide +kernel
theorem dX6_parcel_63 : decode cX6_parcel 63 = .ok (.bipush 16, 2) := by decide +kernel
theorem dX6_parcel_65 : decode cX6_parcel 65 = .ok (.if_icmp .lt 10, 3) := by decide +kernel
theorem dX6_parcel_68 : decode cX6_parcel 68 = .ok (.aload_n 0, 1) := by decide +kernel
theorem dX6_parcel_69 : decode cX6_parcel 69 = .ok (.bipush (-4), 2) := by decide +kernel
theorem dX6_parcel_71 : decode cX6_parcel 71 = .ok (.invokevirtual 62, 3) := by decide +kernel
theorem dX6_parcel_74 : decode cX6_parcel 74 = .ok (.ireturn, 1) := by decide +kernel
theorem dX6_parcel_75 : decode cX6_parcel 75 = .ok (.aload_n 0, 1) := by decide +kernel
theorem dX6_parcel_76 : decode cX6_parcel 76 = .ok (.getfield 19, 3) := by decide +kernel
theorem dX6_parcel_79 : decode cX6_parcel 79 = .ok (.aload_n 0, 1) := by decide +kernel
theorem dX6_parcel_80 : decode cX6_parcel 80 = .ok (.getfield 10, 3) := by decide +kernel
theorem dX6_parcel_83 : decode cX6_parcel 83 = .ok (.invokevirtual 66, 3) := by decide +kernel
end
section
theorem dX6_parcel_86 : decode cX6_parcel 86 = .ok (.aload_n 0, 1) := by decide +kernel
theorem dX6_parcel_87 : decode cX6_parcel 87 = .ok (.getfield 10, 3) := by decide +kernel
theorem dX6_parcel_90 : decode cX6_parcel 90 = .ok (.iload_n 1, 1) := by decide +kernel
theorem dX6_parcel_91 : decode cX6_parcel 91 = .ok (.iload_n 2, 1) := by decide +kernel
theorem dX6_parcel_92 : decode cX6_parcel 92 = .ok (.iload_n 3, 1) := by decide +kernel
theorem dX6_parcel_93 : decode cX6_parcel 93 = .ok (.iload 4, 2) := by decide +kernel
theorem dX6_parcel_95 : decode cX6_parcel 95 = .ok (.invokevirtual 80, 3) := by decide +kernel
theorem dX6_parcel_98 : decode cX6_parcel 98 = .ok (.aload_n 0, 1) := by decide +kernel
theorem dX6_parcel_99 : decode cX6_parcel 99 = .ok (.getfield 10, 3) := by decide +kernel
theorem dX6_parcel_102 : decode cX6_parcel 102 = .ok (.getfield 73, 3) := by decide +kernel
theorem dX6_parcel_105 : decode cX6_parcel 105 = .ok (.iconst 1, 1) := by decide +kernel
theorem dX6_parcel_106 : decode cX6_parcel 106 = .ok (.isub, 1) := by decide +kernel
theorem dX6_parcel_107 : decode cX6_parcel 107 = .ok (.ireturn, 1) := by decide +kernel
theorem dX6_sets_0 : decode cX6_sets 0 = .ok (.aload_n 0, 1) := by decide +kernel
theorem dX6_sets_1 : decode cX6_sets 1 = .ok (.getfield 10, 3) := by decide +kernel
theorem dX6_sets_4 : decode cX6_sets 4 = .ok (.iload_n 1, 1) := by decide +kernel
theorem dX6_sets_5 : decode cX6_sets 5 = .ok (.invokevirtual 84, 3) := by decide +kernel
theorem dX6_sets_8 : decode cX6_sets 8 = .ok (.ifCond .eq 24, 3) := by decide +kernel
theorem dX6_sets_11 : decode cX6_sets 11 = .ok (.iload_n 2, 1) := by decide +kernel
theorem dX6_sets_12 : decode cX6_sets 12 = .ok (.ifCond .lt 20, 3) := by decide +kernel
theorem dX6_sets_15 : decode cX6_sets 15 = .ok (.iload_n 2, 1) := by decide +kernel
theorem dX6_sets_16 : decode cX6_sets 16 = .ok (.iconst 4, 1) := by decide +kernel
theorem dX6_sets_17 : decode cX6_sets 17 = .ok (.if_icmp .ge 15, 3) := by decide +kernel
theorem dX6_sets_20 : decode cX6_sets 20 = .ok (.aload_n 0, 1) := by decide +kernel
theorem dX6_sets_21 : decode cX6_sets 21 = .ok (.getfield 10, 3) := by decide +kernel
theorem dX6_sets_24 : decode cX6_sets 24 = .ok (.iload_n 2, 1) := by decide +kernel
theorem dX6_sets_25 : decode cX6_sets 25 = .ok (.iload_n 3, 1) := by decide +kernel
theorem dX6_sets_26 : decode cX6_sets 26 = .ok (.invokevirtual 76, 3) := by decide +kernel
theorem dX6_sets_29 : decode cX6_sets 29 = .ok (.ifCond .ne 10, 3) := by decide +kernel
theorem dX6_sets_32 : decode cX6_sets 32 = .ok (.aload_n 0, 1) := by decide +kernel
theorem dX6_sets_33 : decode cX6_sets 33 = .ok (.bipush (-2), 2) := by decide +kernel
theorem dX6_sets_35 : decode cX6_sets 35 = .ok (.invokevirtual 62, 3) := by decide +kernel
theorem dX6_sets_38 : decode cX6_sets 38 = .ok (.ireturn, 1) := by decide +kernel
theorem dX6_sets_39 : decode cX6_sets 39 = .ok (.aload_n 0, 1) := by decide +kernel
theorem dX6_sets_40 : decode cX6_sets 40 = .ok (.getfield 19, 3) := by decide +kernel
theorem dX6_sets_43 : decode cX6_sets 43 = .ok (.aload_n 0, 1) := by decide +kernel
theorem dX6_sets_44 : decode cX6_sets 44 = .ok (.getfield 10, 3) := by decide +kernel
theorem dX6_sets_47 : decode cX6_sets 47 = .ok (.invokevirtual 66, 3) := by decide +kernel
theorem dX6_sets_50 : decode cX6_sets 50 = .ok (.aload_n 0, 1) := by decide +kernel
theorem dX6_sets_51 : decode cX6_sets 51 = .ok (.getfield 10, 3) := by decide +kernel
theorem dX6_sets_54 : decode cX6_sets 54 = .ok (.iload_n 1, 1) := by decide +kernel
theorem dX6_sets_55 : decode cX6_sets 55 = .ok (.iload_n 2, 1) := by decide +kernel
theorem dX6_sets_56 : decode cX6_sets 56 = .ok (.invokevirtual 88, 3) := by decide +kernel
theorem dX6_sets_59 : decode cX6_sets 59 = .ok (.istore 4, 2) := by decide +kernel
theorem dX6_sets_61 : decode cX6_sets 61 = .ok (.aload_n 0, 1) := by decide +kernel
theorem dX6_sets_62 : decode cX6_sets 62 = .ok (.getfield 10, 3) := by decide +kernel
theorem dX6_sets_65 : decode cX6_sets 65 = .ok (.iload_n 1, 1) := by decide +kernel
theorem dX6_sets_66 : decode cX6_sets 66 = .ok (.iload_n 2, 1) := by decide +kernel
theorem dX6_sets_67 : decode cX6_sets 67 = .ok (.iload_n 3, 1) := by decide +kernel
theorem dX6_sets_68 : decode cX6_sets 68 = .ok (.invokevirtual 92, 3) := by decide +kernel
theorem dX6_sets_71 : decode cX6_sets 71 = .ok (.iload 4, 2) := by decide +kernel
theorem dX6_sets_73 : decode cX6_sets 73 = .ok (.ireturn, 1) := by decide +kernel
theorem dX6_rules_0 : decode cX6_rules 0 = .ok (.iload_n 1, 1) := by decide +kernel
theorem dX6_rules_1 : decode cX6_rules 1 = .ok (.ifCond .ne 16, 3) := by decide +kernel
theorem dX6_rules_4 : decode cX6_rules 4 = .ok (.iload_n 2, 1) := by decide +kernel
theorem dX6_rules_5 : decode cX6_rules 5 = .ok (.ifCond .lt 12, 3) := by decide +kernel
theorem dX6_rules_8 : decode cX6_rules 8 = .ok (.iload_n 2, 1) := by decide +kernel
theorem dX6_rules_9 : decode cX6_rules 9 = .ok (.iconst 2, 1) := by decide +kernel
theorem dX6_rules_10 : decode cX6_rules 10 = .ok (.if_icmp .ge 7, 3) := by decide +kernel
theorem dX6_rules_13 : decode cX6_rules 13 = .ok (.iconst 1, 1) := by decide +kernel
theorem dX6_rules_14 : decode cX6_rules 14 = .ok (.goto 4, 3) := by decide +kernel
theorem dX6_rules_17 : decode cX6_rules 17 = .ok (.iconst 0, 1) := by decide +kernel
theorem dX6_rules_18 : decode cX6_rules 18 = .ok (.istore_n 3, 1) := by decide +kernel
theorem dX6_rules_19 : decode cX6_rules 19 = .ok (.iload_n 1, 1) := by decide +kernel
theorem dX6_rules_20 : decode cX6_rules 20 = .ok (.iconst 1, 1) := by decide +kernel
theorem dX6_rules_21 : decode cX6_rules 21 = .ok (.if_icmp .ne 16, 3) := by decide +kernel
theorem dX6_rules_24 : decode cX6_rules 24 = .ok (.iload_n 2, 1) := by decide +kernel
theorem dX6_rules_25 : decode cX6_rules 25 = .ok (.ifCond .lt 12, 3) := by decide +kernel
theorem dX6_rules_28 : decode cX6_rules 28 = .ok (.iload_n 2, 1) := by decide +kernel
theorem dX6_rules_29 : decode cX6_rules 29 = .ok (.iconst 4, 1) := by decide +kernel
theorem dX6_rules_30 : decode cX6_rules 30 = .ok (.if_icmp .ge 7, 3) := by decide +kernel
theorem dX6_rules_33 : decode cX6_rules 33 = .ok (.iconst 1, 1) := by decide +kernel
theorem dX6_rules_34 : decode cX6_rules 34 = .ok (.goto 4, 3) := by decide +kernel
theorem dX6_rules_37 : decode cX6_rules 37 = .ok (.iconst 0, 1) := by decide +kernel
theorem dX6_rules_38 : decode cX6_rules 38 = .ok (.istore 4, 2) := by decide +kernel
theorem dX6_rules_40 : decode cX6_rules 40 = .ok (.iload_n 3, 1) := by decide +kernel
theorem dX6_rules_41 : decode cX6_rules 41 = .ok (.ifCond .ne 15, 3) := by decide +kernel
theorem dX6_rules_44 : decode cX6_rules 44 = .ok (.iload 4, 2) := by decide +kernel
theorem dX6_rules_46 : decode cX6_rules 46 = .ok (.ifCond .ne 10, 3) := by decide +kernel
theorem dX6_rules_49 : decode cX6_rules 49 = .ok (.aload_n 0, 1) := by decide +kernel
theorem dX6_rules_50 : decode cX6_rules 50 = .ok (.bipush (-2), 2) := by decide +kernel
theorem dX6_rules_52 : decode cX6_rules 52 = .ok (.invokevirtual 62, 3) := by decide +kernel
theorem dX6_rules_55 : decode cX6_rules 55 = .ok (.ireturn, 1) := by decide +kernel
theorem dX6_rules_56 : decode cX6_rules 56 = .ok (.aload_n 0, 1) := by decide +kernel
theorem dX6_rules_57 : decode cX6_rules 57 = .ok (.getfield 19, 3) := by decide +kernel
theorem dX6_rules_60 : decode cX6_rules 60 = .ok (.aload_n 0, 1) := by decide +kernel
theorem dX6_rules_61 : decode cX6_rules 61 = .ok (.getfield 10, 3) := by decide +kernel
theorem dX6_rules_64 : decode cX6_rules 64 = .ok (.invokevirtual 66, 3) := by decide +kernel
theorem dX6_rules_67 : decode cX6_rules 67 = .ok (.iload_n 3, 1) := by decide +kernel
theorem dX6_rules_68 : decode cX6_rules 68 = .ok (.ifCond .eq 13, 3) := by decide +kernel
theorem dX6_rules_71 : decode cX6_rules 71 = .ok (.aload_n 0, 1) := by decide +kernel
theorem dX6_rules_72 : decode cX6_rules 72 = .ok (.getfield 10, 3) := by decide +kernel
theorem dX6_rules_75 : decode cX6_rules 75 = .ok (.getfield 96, 3) := by decide +kernel
theorem dX6_rules_78 : decode cX6_rules 78 = .ok (.goto 10, 3) := by decide +kernel
theorem dX6_rules_81 : decode cX6_rules 81 = .ok (.aload_n 0, 1) := by decide +kernel
theorem dX6_rules_82 : decode cX6_rules 82 = .ok (.getfield 10, 3) := by decide +kernel
theorem dX6_rules_85 : decode cX6_rules 85 = .ok (.getfield 99, 3) := by decide +kernel
theorem dX6_rules_88 : decode cX6_rules 88 = .ok (.istore 5, 2) := by decide +kernel
theorem dX6_rules_90 : decode cX6_rules 90 = .ok (.iload_n 3, 1) := by decide +kernel
theorem dX6_rules_91 : decode cX6_rules 91 = .ok (.ifCond .eq 14, 3) := by decide +kernel
theorem dX6_rules_94 : decode cX6_rules 94 = .ok (.aload_n 0, 1) := by decide +kernel
theorem dX6_rules_95 : decode cX6_rules 95 = .ok (.getfield 10, 3) := by decide +kernel
theorem dX6_rules_98 : decode cX6_rules 98 = .ok (.iload_n 2, 1) := by decide +kernel
theorem dX6_rules_99 : decode cX6_rules 99 = .ok (.putfield 96, 3) := by decide +kernel
theorem dX6_rules_102 : decode cX6_rules 102 = .ok (.goto 11, 3) := by decide +kernel
theorem dX6_rules_105 : decode cX6_rules 105 = .ok (.aload_n 0, 1) := by decide +kernel
theorem dX6_rules_106 : decode cX6_rules 106 = .ok (.getfield 10, 3) := by decide +kernel
theorem dX6_rules_109 : decode cX6_rules 109 = .ok (.iload_n 2, 1) := by decide +kernel
theorem dX6_rules_110 : decode cX6_rules 110 = .ok (.putfield 99, 3) := by decide +kernel
theorem dX6_rules_113 : decode cX6_rules 113 = .ok (.iload 5, 2) := by decide +kernel
theorem dX6_rules_115 : decode cX6_rules 115 = .ok (.ireturn, 1) := by decide +kernel
theorem dX6_empties_0 : decode cX6_empties 0 = .ok (.aload_n 0, 1) := by decide +kernel
theorem dX6_empties_1 : decode cX6_empties 1 = .ok (.getfield 19, 3) := by decide +kernel
theorem dX6_empties_4 : decode cX6_empties 4 = .ok (.aload_n 0, 1) := by decide +kernel
theorem dX6_empties_5 : decode cX6_empties 5 = .ok (.getfield 10, 3) := by decide +kernel
theorem dX6_empties_8 : decode cX6_empties 8 = .ok (.invokevirtual 66, 3) := by decide +kernel
theorem dX6_empties_11 : decode cX6_empties 11 = .ok (.aload_n 0, 1) := by decide +kernel
theorem dX6_empties_12 : decode cX6_empties 12 = .ok (.getfield 10, 3) := by decide +kernel
theorem dX6_empties_15 : decode cX6_empties 15 = .ok (.getfield 73, 3) := by decide +kernel
theorem dX6_empties_18 : decode cX6_empties 18 = .ok (.istore_n 1, 1) := by decide +kernel
theorem dX6_empties_19 : decode cX6_empties 19 = .ok (.aload_n 0, 1) := by decide +kernel
theorem dX6_empties_20 : decode cX6_empties 20 = .ok (.getfield 10, 3) := by decide +kernel
theorem dX6_empties_23 : decode cX6_empties 23 = .ok (.iconst 0, 1) := by decide +kernel
theorem dX6_empties_24 : decode cX6_empties 24 = .ok (.putfield 73, 3) := by decide +kernel
theorem dX6_empties_27 : decode cX6_empties 27 = .ok (.iload_n 1, 1) := by decide +kernel
theorem dX6_empties_28 : decode cX6_empties 28 = .ok (.ireturn, 1) := by decide +kernel
theorem dX6_fills_0 : decode cX6_fills 0 = .ok (.iload_n 1, 1) := by decide +kernel
theorem dX6_fills_1 : decode cX6_fills 1 = .ok (.ifCond .lt 18, 3) := by decide +kernel
theorem dX6_fills_4 : decode cX6_fills 4 = .ok (.iload_n 1, 1) := by decide +kernel
theorem dX6_fills_5 : decode cX6_fills 5 = .ok (.iconst 3, 1) := by decide +kernel
theorem dX6_fills_6 : decode cX6_fills 6 = .ok (.if_icmp .gt 13, 3) := by decide +kernel
theorem dX6_fills_9 : decode cX6_fills 9 = .ok (.iload_n 2, 1) := by decide +kernel
theorem dX6_fills_10 : decode cX6_fills 10 = .ok (.ifCond .lt 9, 3) := by decide +kernel
theorem dX6_fills_13 : decode cX6_fills 13 = .ok (.iload_n 2, 1) := by decide +kernel
theorem dX6_fills_14 : decode cX6_fills 14 = .ok (.ldc 102, 2) := by decide +kernel
theorem dX6_fills_16 : decode cX6_fills 16 = .ok (.if_icmp .le 10, 3) := by decide +kernel
theorem dX6_fills_19 : decode cX6_fills 19 = .ok (.aload_n 0, 1) := by decide +kernel
theorem dX6_fills_20 : decode cX6_fills 20 = .ok (.bipush (-2), 2) := by decide +kernel
theorem dX6_fills_22 : decode cX6_fills 22 = .ok (.invokevirtual 62, 3) := by decide +kernel
theorem dX6_fills_25 : decode cX6_fills 25 = .ok (.ireturn, 1) := by decide +kernel
theorem dX6_fills_26 : decode cX6_fills 26 = .ok (.aload_n 0, 1) := by decide +kernel
theorem dX6_fills_27 : decode cX6_fills 27 = .ok (.getfield 19, 3) := by decide +kernel
theorem dX6_fills_30 : decode cX6_fills 30 = .ok (.aload_n 0, 1) := by decide +kernel
theorem dX6_fills_31 : decode cX6_fills 31 = .ok (.getfield 10, 3) := by decide +kernel
theorem dX6_fills_34 : decode cX6_fills 34 = .ok (.invokevirtual 66, 3) := by decide +kernel
theorem dX6_fills_37 : decode cX6_fills 37 = .ok (.aload_n 0, 1) := by decide +kernel
theorem dX6_fills_38 : decode cX6_fills 38 = .ok (.getfield 10, 3) := by decide +kernel
theorem dX6_fills_41 : decode cX6_fills 41 = .ok (.iconst 0, 1) := by decide +kernel
theorem dX6_fills_42 : decode cX6_fills 42 = .ok (.putfield 73, 3) := by decide +kernel
theorem dX6_fills_45 : decode cX6_fills 45 = .ok (.aload_n 0, 1) := by decide +kernel
theorem dX6_fills_46 : decode cX6_fills 46 = .ok (.getfield 10, 3) := by decide +kernel
theorem dX6_fills_49 : decode cX6_fills 49 = .ok (.invokevirtual 103, 3) := by decide +kernel
theorem dX6_fills_52 : decode cX6_fills 52 = .ok (.istore_n 3, 1) := by decide +kernel
theorem dX6_fills_53 : decode cX6_fills 53 = .ok (.iload_n 2, 1) := by decide +kernel
theorem dX6_fills_54 : decode cX6_fills 54 = .ok (.i2l, 1) := by decide +kernel
theorem dX6_fills_55 : decode cX6_fills 55 = .ok (.lstore 4, 2) := by decide +kernel
theorem dX6_fills_57 : decode cX6_fills 57 = .ok (.iconst 0, 1) := by decide +kernel
theorem dX6_fills_58 : decode cX6_fills 58 = .ok (.istore 6, 2) := by decide +kernel
theorem dX6_fills_60 : decode cX6_fills 60 = .ok (.iload 6, 2) := by decide +kernel
theorem dX6_fills_62 : decode cX6_fills 62 = .ok (.iload_n 3, 1) := by decide +kernel
theorem dX6_fills_63 : decode cX6_fills 63 = .ok (.if_icmp .ge 87, 3) := by decide +kernel
theorem dX6_fills_66 : decode cX6_fills 66 = .ok (.lload 4, 2) := by decide +kernel
theorem dX6_fills_68 : decode cX6_fills 68 = .ok (.ldc2_w 107, 3) := by decide +kernel
theorem dX6_fills_71 : decode cX6_fills 71 = .ok (.lmul, 1) := by decide +kernel
theorem dX6_fills_72 : decode cX6_fills 72 = .ok (.ldc2_w 109, 3) := by decide +kernel
theorem dX6_fills_75 : decode cX6_fills 75 = .ok (.ladd, 1) := by decide +kernel
theorem dX6_fills_76 : decode cX6_fills 76 = .ok (.ldc2_w 111, 3) := by decide +kernel
theorem dX6_fills_79 : decode cX6_fills 79 = .ok (.lrem, 1) := by decide +kernel
theorem dX6_fills_80 : decode cX6_fills 80 = .ok (.lstore 4, 2) := by decide +kernel
theorem dX6_fills_82 : decode cX6_fills 82 = .ok (.iload_n 1, 1) := by decide +kernel
theorem dX6_fills_83 : decode cX6_fills 83 = .ok (.iconst 3, 1) := by decide +kernel
theorem dX6_fills_84 : decode cX6_fills 84 = .ok (.if_icmp .ne 16, 3) := by decide +kernel
theorem dX6_fills_87 : decode cX6_fills 87 = .ok (.lload 4, 2) := by decide +kernel
theorem dX6_fills_89 : decode cX6_fills 89 = .ok (.ldc2_w 113, 3) := by decide +kernel
theorem dX6_fills_92 : decode cX6_fills 92 = .ok (.ldiv, 1) := by decide +kernel
theorem dX6_fills_93 : decode cX6_fills 93 = .ok (.iload_n 3, 1) := by decide +kernel
theorem dX6_fills_94 : decode cX6_fills 94 = .ok (.i2l, 1) := by decide +kernel
theorem dX6_fills_95 : decode cX6_fills 95 = .ok (.lrem, 1) := by decide +kernel
theorem dX6_fills_96 : decode cX6_fills 96 = .ok (.l2i, 1) := by decide +kernel
theorem dX6_fills_97 : decode cX6_fills 97 = .ok (.goto 13, 3) := by decide +kernel
theorem dX6_fills_100 : decode cX6_fills 100 = .ok (.aload_n 0, 1) := by decide +kernel
theorem dX6_fills_101 : decode cX6_fills 101 = .ok (.getfield 10, 3) := by decide +kernel
theorem dX6_fills_104 : decode cX6_fills 104 = .ok (.iload 6, 2) := by decide +kernel
theorem dX6_fills_106 : decode cX6_fills 106 = .ok (.iload_n 1, 1) := by decide +kernel
theorem dX6_fills_107 : decode cX6_fills 107 = .ok (.invokevirtual 115, 3) := by decide +kernel
theorem dX6_fills_110 : decode cX6_fills 110 = .ok (.istore 7, 2) := by decide +kernel
theorem dX6_fills_112 : decode cX6_fills 112 = .ok (.aload_n 0, 1) := by decide +kernel
theorem dX6_fills_113 : decode cX6_fills 113 = .ok (.getfield 10, 3) := by decide +kernel
theorem dX6_fills_116 : decode cX6_fills 116 = .ok (.iload 6, 2) := by decide +kernel
theorem dX6_fills_118 : decode cX6_fills 118 = .ok (.iload 7, 2) := by decide +kernel
theorem dX6_fills_120 : decode cX6_fills 120 = .ok (.lload 4, 2) := by decide +kernel
theorem dX6_fills_122 : decode cX6_fills 122 = .ok (.ldc2_w 118, 3) := by decide +kernel
theorem dX6_fills_125 : decode cX6_fills 125 = .ok (.ldiv, 1) := by decide +kernel
theorem dX6_fills_126 : decode cX6_fills 126 = .ok (.iload_n 3, 1) := by decide +kernel
theorem dX6_fills_127 : decode cX6_fills 127 = .ok (.i2l, 1) := by decide +kernel
theorem dX6_fills_128 : decode cX6_fills 128 = .ok (.lrem, 1) := by decide +kernel
theorem dX6_fills_129 : decode cX6_fills 129 = .ok (.l2i, 1) := by decide +kernel
theorem dX6_fills_130 : decode cX6_fills 130 = .ok (.lload 4, 2) := by decide +kernel
theorem dX6_fills_132 : decode cX6_fills 132 = .ok (.ldc2_w 120, 3) := by decide +kernel
theorem dX6_fills_135 : decode cX6_fills 135 = .ok (.ldiv, 1) := by decide +kernel
theorem dX6_fills_136 : decode cX6_fills 136 = .ok (.ldc2_w 122, 3) := by decide +kernel
theorem dX6_fills_139 : decode cX6_fills 139 = .ok (.lrem, 1) := by decide +kernel
theorem dX6_fills_140 : decode cX6_fills 140 = .ok (.l2i, 1) := by decide +kernel
theorem dX6_fills_141 : decode cX6_fills 141 = .ok (.invokevirtual 80, 3) := by decide +kernel
theorem dX6_fills_144 : decode cX6_fills 144 = .ok (.iinc 6 1, 3) := by decide +kernel
theorem dX6_fills_147 : decode cX6_fills 147 = .ok (.goto (-87), 3) := by decide +kernel
theorem dX6_fills_150 : decode cX6_fills 150 = .ok (.aload_n 0, 1) := by decide +kernel
theorem dX6_fills_151 : decode cX6_fills 151 = .ok (.getfield 10, 3) := by decide +kernel
theorem dX6_fills_154 : decode cX6_fills 154 = .ok (.getfield 73, 3) := by decide +kernel
theorem dX6_fills_157 : decode cX6_fills 157 = .ok (.ireturn, 1) := by decide +kernel
theorem dX6_of_0 : decode cX6_of 0 = .ok (.aload_n 0, 1) := by decide +kernel
theorem dX6_of_1 : decode cX6_of 1 = .ok (.getfield 10, 3) := by decide +kernel
theorem dX6_of_4 : decode cX6_of 4 = .ok (.iload_n 1, 1) := by decide +kernel
theorem dX6_of_5 : decode cX6_of 5 = .ok (.invokevirtual 84, 3) := by decide +kernel
theorem dX6_of_8 : decode cX6_of 8 = .ok (.ifCond .eq 12, 3) := by decide +kernel
theorem dX6_of_11 : decode cX6_of 11 = .ok (.iload_n 2, 1) := by decide +kernel
theorem dX6_of_12 : decode cX6_of 12 = .ok (.ifCond .lt 8, 3) := by decide +kernel
theorem dX6_of_15 : decode cX6_of 15 = .ok (.iload_n 2, 1) := by decide +kernel
theorem dX6_of_16 : decode cX6_of 16 = .ok (.iconst 5, 1) := by decide +kernel
theorem dX6_of_17 : decode cX6_of 17 = .ok (.if_icmp .le 10, 3) := by decide +kernel
theorem dX6_of_20 : decode cX6_of 20 = .ok (.aload_n 0, 1) := by decide +kernel
theorem dX6_of_21 : decode cX6_of 21 = .ok (.bipush (-2), 2) := by decide +kernel
theorem dX6_of_23 : decode cX6_of 23 = .ok (.invokevirtual 62, 3) := by decide +kernel
theorem dX6_of_26 : decode cX6_of 26 = .ok (.ireturn, 1) := by decide +kernel
theorem dX6_of_27 : decode cX6_of 27 = .ok (.aload_n 0, 1) := by decide +kernel
theorem dX6_of_28 : decode cX6_of 28 = .ok (.getfield 26, 3) := by decide +kernel
theorem dX6_of_31 : decode cX6_of 31 = .ok (.aload_n 0, 1) := by decide +kernel
theorem dX6_of_32 : decode cX6_of 32 = .ok (.getfield 10, 3) := by decide +kernel
theorem dX6_of_35 : decode cX6_of 35 = .ok (.invokevirtual 124, 3) := by decide +kernel
theorem dX6_of_38 : decode cX6_of 38 = .ok (.aload_n 0, 1) := by decide +kernel
theorem dX6_of_39 : decode cX6_of 39 = .ok (.iload_n 1, 1) := by decide +kernel
theorem dX6_of_40 : decode cX6_of 40 = .ok (.iload_n 2, 1) := by decide +kernel
theorem dX6_of_41 : decode cX6_of 41 = .ok (.invokevirtual 127, 3) := by decide +kernel
theorem dX6_of_44 : decode cX6_of 44 = .ok (.ireturn, 1) := by decide +kernel
theorem dX6_step_0 : decode cX6_step 0 = .ok (.aload_n 0, 1) := by decide +kernel
theorem dX6_step_1 : decode cX6_step 1 = .ok (.getfield 10, 3) := by decide +kernel
theorem dX6_step_4 : decode cX6_step 4 = .ok (.iload_n 1, 1) := by decide +kernel
theorem dX6_step_5 : decode cX6_step 5 = .ok (.invokevirtual 84, 3) := by decide +kernel
theorem dX6_step_8 : decode cX6_step 8 = .ok (.ifCond .eq 7, 3) := by decide +kernel
theorem dX6_step_11 : decode cX6_step 11 = .ok (.iload_n 2, 1) := by decide +kernel
theorem dX6_step_12 : decode cX6_step 12 = .ok (.ifCond .ge 10, 3) := by decide +kernel
theorem dX6_step_15 : decode cX6_step 15 = .ok (.aload_n 0, 1) := by decide +kernel
theorem dX6_step_16 : decode cX6_step 16 = .ok (.bipush (-2), 2) := by decide +kernel
theorem dX6_step_18 : decode cX6_step 18 = .ok (.invokevirtual 62, 3) := by decide +kernel
theorem dX6_step_21 : decode cX6_step 21 = .ok (.ireturn, 1) := by decide +kernel
theorem dX6_step_22 : decode cX6_step 22 = .ok (.aload_n 0, 1) := by decide +kernel
theorem dX6_step_23 : decode cX6_step 23 = .ok (.getfield 26, 3) := by decide +kernel
theorem dX6_step_26 : decode cX6_step 26 = .ok (.aload_n 0, 1) := by decide +kernel
theorem dX6_step_27 : decode cX6_step 27 = .ok (.getfield 10, 3) := by decide +kernel
theorem dX6_step_30 : decode cX6_step 30 = .ok (.invokevirtual 124, 3) := by decide +kernel
theorem dX6_step_33 : decode cX6_step 33 = .ok (.iload_n 2, 1) := by decide +kernel
theorem dX6_step_34 : decode cX6_step 34 = .ok (.aload_n 0, 1) := by decide +kernel
theorem dX6_step_35 : decode cX6_step 35 = .ok (.getfield 26, 3) := by decide +kernel
theorem dX6_step_38 : decode cX6_step 38 = .ok (.getfield 130, 3) := by decide +kernel
theorem dX6_step_41 : decode cX6_step 41 = .ok (.iload_n 1, 1) := by decide +kernel
theorem dX6_step_42 : decode cX6_step 42 = .ok (.iaload, 1) := by decide +kernel
theorem dX6_step_43 : decode cX6_step 43 = .ok (.if_icmp .le 8, 3) := by decide +kernel
theorem dX6_step_46 : decode cX6_step 46 = .ok (.bipush (-5), 2) := by decide +kernel
theorem dX6_step_48 : decode cX6_step 48 = .ok (.goto 16, 3) := by decide +kernel
theorem dX6_step_51 : decode cX6_step 51 = .ok (.aload_n 0, 1) := by decide +kernel
theorem dX6_step_52 : decode cX6_step 52 = .ok (.getfield 26, 3) := by decide +kernel
theorem dX6_step_55 : decode cX6_step 55 = .ok (.aload_n 0, 1) := by decide +kernel
theorem dX6_step_56 : decode cX6_step 56 = .ok (.getfield 10, 3) := by decide +kernel
theorem dX6_step_59 : decode cX6_step 59 = .ok (.iload_n 1, 1) := by decide +kernel
theorem dX6_step_60 : decode cX6_step 60 = .ok (.iload_n 2, 1) := by decide +kernel
theorem dX6_step_61 : decode cX6_step 61 = .ok (.invokevirtual 133, 3) := by decide +kernel
theorem dX6_step_64 : decode cX6_step 64 = .ok (.ireturn, 1) := by decide +kernel
theorem dX6_load_0 : decode cX6_load 0 = .ok (.aload_n 0, 1) := by decide +kernel
theorem dX6_load_1 : decode cX6_load 1 = .ok (.getfield 10, 3) := by decide +kernel
theorem dX6_load_4 : decode cX6_load 4 = .ok (.iload_n 1, 1) := by decide +kernel
theorem dX6_load_5 : decode cX6_load 5 = .ok (.iload_n 2, 1) := by decide +kernel
theorem dX6_load_6 : decode cX6_load 6 = .ok (.invokevirtual 137, 3) := by decide +kernel
theorem dX6_load_9 : decode cX6_load 9 = .ok (.ifCond .ne 10, 3) := by decide +kernel
theorem dX6_load_12 : decode cX6_load 12 = .ok (.aload_n 0, 1) := by decide +kernel
theorem dX6_load_13 : decode cX6_load 13 = .ok (.bipush (-2), 2) := by decide +kernel
theorem dX6_load_15 : decode cX6_load 15 = .ok (.invokevirtual 62, 3) := by decide +kernel
theorem dX6_load_18 : decode cX6_load 18 = .ok (.ireturn, 1) := by decide +kernel
theorem dX6_load_19 : decode cX6_load 19 = .ok (.aload_n 0, 1) := by decide +kernel
theorem dX6_load_20 : decode cX6_load 20 = .ok (.invokevirtual 140, 3) := by decide +kernel
theorem dX6_load_23 : decode cX6_load 23 = .ok (.aload_n 0, 1) := by decide +kernel
theorem dX6_load_24 : decode cX6_load 24 = .ok (.getfield 33, 3) := by decide +kernel
theorem dX6_load_27 : decode cX6_load 27 = .ok (.getfield 143, 3) := by decide +kernel
theorem dX6_load_30 : decode cX6_load 30 = .ok (.iload_n 1, 1) := by decide +kernel
theorem dX6_load_31 : decode cX6_load 31 = .ok (.iconst 4, 1) := by decide +kernel
theorem dX6_load_32 : decode cX6_load 32 = .ok (.imul, 1) := by decide +kernel
theorem dX6_load_33 : decode cX6_load 33 = .ok (.iload_n 2, 1) := by decide +kernel
theorem dX6_load_34 : decode cX6_load 34 = .ok (.iadd, 1) := by decide +kernel
theorem dX6_load_35 : decode cX6_load 35 = .ok (.iaload, 1) := by decide +kernel
theorem dX6_load_36 : decode cX6_load 36 = .ok (.ireturn, 1) := by decide +kernel
theorem dX6_loads_0 : decode cX6_loads 0 = .ok (.iload_n 1, 1) := by decide +kernel
theorem dX6_loads_1 : decode cX6_loads 1 = .ok (.ifCond .lt 8, 3) := by decide +kernel
theorem dX6_loads_4 : decode cX6_loads 4 = .ok (.iload_n 1, 1) := by decide +kernel
theorem dX6_loads_5 : decode cX6_loads 5 = .ok (.iconst 3, 1) := by decide +kernel
theorem dX6_loads_6 : decode cX6_loads 6 = .ok (.if_icmp .le 10, 3) := by decide +kernel
theorem dX6_loads_9 : decode cX6_loads 9 = .ok (.aload_n 0, 1) := by decide +kernel
theorem dX6_loads_10 : decode cX6_loads 10 = .ok (.bipush (-2), 2) := by decide +kernel
theorem dX6_loads_12 : decode cX6_loads 12 = .ok (.invokevirtual 62, 3) := by decide +kernel
theorem dX6_loads_15 : decode cX6_loads 15 = .ok (.ireturn, 1) := by decide +kernel
theorem dX6_loads_16 : decode cX6_loads 16 = .ok (.aload_n 0, 1) := by decide +kernel
theorem dX6_loads_17 : decode cX6_loads 17 = .ok (.invokevirtual 140, 3) := by decide +kernel
theorem dX6_loads_20 : decode cX6_loads 20 = .ok (.aload_n 0, 1) := by decide +kernel
theorem dX6_loads_21 : decode cX6_loads 21 = .ok (.iload_n 1, 1) := by decide +kernel
theorem dX6_loads_22 : decode cX6_loads 22 = .ok (.invokevirtual 146, 3) := by decide +kernel
theorem dX6_loads_25 : decode cX6_loads 25 = .ok (.ireturn, 1) := by decide +kernel
theorem dX6_expected_0 : decode cX6_expected 0 = .ok (.aload_n 0, 1) := by decide +kernel
theorem dX6_expected_1 : decode cX6_expected 1 = .ok (.getfield 10, 3) := by decide +kernel
theorem dX6_expected_4 : decode cX6_expected 4 = .ok (.iload_n 1, 1) := by decide +kernel
theorem dX6_expected_5 : decode cX6_expected 5 = .ok (.iload_n 2, 1) := by decide +kernel
theorem dX6_expected_6 : decode cX6_expected 6 = .ok (.invokevirtual 137, 3) := by decide +kernel
theorem dX6_expected_9 : decode cX6_expected 9 = .ok (.ifCond .eq 13, 3) := by decide +kernel
theorem dX6_expected_12 : decode cX6_expected 12 = .ok (.iload_n 3, 1) := by decide +kernel
theorem dX6_expected_13 : decode cX6_expected 13 = .ok (.ifCond .lt 9, 3) := by decide +kernel
theorem dX6_expected_16 : decode cX6_expected 16 = .ok (.iload_n 3, 1) := by decide +kernel
theorem dX6_expected_17 : decode cX6_expected 17 = .ok (.bipush 16, 2) := by decide +kernel
theorem dX6_expected_19 : decode cX6_expected 19 = .ok (.if_icmp .le 10, 3) := by decide +kernel
theorem dX6_expected_22 : decode cX6_expected 22 = .ok (.aload_n 0, 1) := by decide +kernel
theorem dX6_expected_23 : decode cX6_expected 23 = .ok (.bipush (-2), 2) := by decide +kernel
theorem dX6_expected_25 : decode cX6_expected 25 = .ok (.invokevirtual 62, 3) := by decide +kernel
theorem dX6_expected_28 : decode cX6_expected 28 = .ok (.ireturn, 1) := by decide +kernel
theorem dX6_expected_29 : decode cX6_expected 29 = .ok (.aload_n 0, 1) := by decide +kernel
theorem dX6_expected_30 : decode cX6_expected 30 = .ok (.iload_n 3, 1) := by decide +kernel
theorem dX6_expected_31 : decode cX6_expected 31 = .ok (.invokevirtual 149, 3) := by decide +kernel
theorem dX6_expected_34 : decode cX6_expected 34 = .ok (.aload_n 0, 1) := by decide +kernel
theorem dX6_expected_35 : decode cX6_expected 35 = .ok (.aload_n 0, 1) := by decide +kernel
theorem dX6_expected_36 : decode cX6_expected 36 = .ok (.getfield 33, 3) := by decide +kernel
theorem dX6_expected_39 : decode cX6_expected 39 = .ok (.getfield 143, 3) := by decide +kernel
theorem dX6_expected_42 : decode cX6_expected 42 = .ok (.iload_n 1, 1) := by decide +kernel
theorem dX6_expected_43 : decode cX6_expected 43 = .ok (.iconst 4, 1) := by decide +kernel
theorem dX6_expected_44 : decode cX6_expected 44 = .ok (.imul, 1) := by decide +kernel
theorem dX6_expected_45 : decode cX6_expected 45 = .ok (.iload_n 2, 1) := by decide +kernel
theorem dX6_expected_46 : decode cX6_expected 46 = .ok (.iadd, 1) := by decide +kernel
theorem dX6_expected_47 : decode cX6_expected 47 = .ok (.iaload, 1) := by decide +kernel
theorem dX6_expected_48 : decode cX6_expected 48 = .ok (.invokevirtual 153, 3) := by decide +kernel
theorem dX6_expected_51 : decode cX6_expected 51 = .ok (.iconst 1, 1) := by decide +kernel
theorem dX6_expected_52 : decode cX6_expected 52 = .ok (.ireturn, 1) := by decide +kernel
theorem dX6_part_0 : decode cX6_part 0 = .ok (.iload_n 1, 1) := by decide +kernel
theorem dX6_part_1 : decode cX6_part 1 = .ok (.ifCond .lt 8, 3) := by decide +kernel
theorem dX6_part_4 : decode cX6_part 4 = .ok (.iload_n 1, 1) := by decide +kernel
theorem dX6_part_5 : decode cX6_part 5 = .ok (.iconst 1, 1) := by decide +kernel
theorem dX6_part_6 : decode cX6_part 6 = .ok (.if_icmp .le 10, 3) := by decide +kernel
theorem dX6_part_9 : decode cX6_part 9 = .ok (.aload_n 0, 1) := by decide +kernel
theorem dX6_part_10 : decode cX6_part 10 = .ok (.bipush (-2), 2) := by decide +kernel
theorem dX6_part_12 : decode cX6_part 12 = .ok (.invokevirtual 62, 3) := by decide +kernel
theorem dX6_part_15 : decode cX6_part 15 = .ok (.ireturn, 1) := by decide +kernel
theorem dX6_part_16 : decode cX6_part 16 = .ok (.iload_n 1, 1) := by decide +kernel
theorem dX6_part_17 : decode cX6_part 17 = .ok (.ifCond .ne 10, 3) := by decide +kernel
theorem dX6_part_20 : decode cX6_part 20 = .ok (.aload_n 0, 1) := by decide +kernel
theorem dX6_part_21 : decode cX6_part 21 = .ok (.getfield 55, 3) := by decide +kernel
theorem dX6_part_24 : decode cX6_part 24 = .ok (.goto 7, 3) := by decide +kernel
theorem dX6_part_27 : decode cX6_part 27 = .ok (.aload_n 0, 1) := by decide +kernel
theorem dX6_part_28 : decode cX6_part 28 = .ok (.getfield 59, 3) := by decide +kernel
theorem dX6_part_31 : decode cX6_part 31 = .ok (.ireturn, 1) := by decide +kernel
theorem dX6_greatest_0 : decode cX6_greatest 0 = .ok (.aload_n 0, 1) := by decide +kernel
theorem dX6_greatest_1 : decode cX6_greatest 1 = .ok (.getfield 10, 3) := by decide +kernel
theorem dX6_greatest_4 : decode cX6_greatest 4 = .ok (.getfield 73, 3) := by decide +kernel
theorem dX6_greatest_7 : decode cX6_greatest 7 = .ok (.ifCond .ne 10, 3) := by decide +kernel
theorem dX6_greatest_10 : decode cX6_greatest 10 = .ok (.aload_n 0, 1) := by decide +kernel
theorem dX6_greatest_11 : decode cX6_greatest 11 = .ok (.bipush (-3), 2) := by decide +kernel
theorem dX6_greatest_13 : decode cX6_greatest 13 = .ok (.invokevirtual 62, 3) := by decide +kernel
theorem dX6_greatest_16 : decode cX6_greatest 16 = .ok (.ireturn, 1) := by decide +kernel
theorem dX6_greatest_17 : decode cX6_greatest 17 = .ok (.aload_n 0, 1) := by decide +kernel
theorem dX6_greatest_18 : decode cX6_greatest 18 = .ok (.iconst 0, 1) := by decide +kernel
theorem dX6_greatest_19 : decode cX6_greatest 19 = .ok (.invokevirtual 149, 3) := by decide +kernel
theorem dX6_greatest_22 : decode cX6_greatest 22 = .ok (.aload_n 0, 1) := by decide +kernel
theorem dX6_greatest_23 : decode cX6_greatest 23 = .ok (.getfield 33, 3) := by decide +kernel
theorem dX6_greatest_26 : decode cX6_greatest 26 = .ok (.invokevirtual 156, 3) := by decide +kernel
theorem dX6_greatest_29 : decode cX6_greatest 29 = .ok (.istore_n 1, 1) := by decide +kernel
theorem dX6_greatest_30 : decode cX6_greatest 30 = .ok (.aload_n 0, 1) := by decide +kernel
theorem dX6_greatest_31 : decode cX6_greatest 31 = .ok (.aload_n 0, 1) := by decide +kernel
theorem dX6_greatest_32 : decode cX6_greatest 32 = .ok (.getfield 33, 3) := by decide +kernel
theorem dX6_greatest_35 : decode cX6_greatest 35 = .ok (.getfield 143, 3) := by decide +kernel
theorem dX6_greatest_38 : decode cX6_greatest 38 = .ok (.iload_n 1, 1) := by decide +kernel
theorem dX6_greatest_39 : decode cX6_greatest 39 = .ok (.iaload, 1) := by decide +kernel
theorem dX6_greatest_40 : decode cX6_greatest 40 = .ok (.invokevirtual 153, 3) := by decide +kernel
theorem dX6_greatest_43 : decode cX6_greatest 43 = .ok (.iload_n 1, 1) := by decide +kernel
theorem dX6_greatest_44 : decode cX6_greatest 44 = .ok (.invokestatic 159, 3) := by decide +kernel
theorem dX6_greatest_47 : decode cX6_greatest 47 = .ok (.ireturn, 1) := by decide +kernel
theorem dX6_chooses_0 : decode cX6_chooses 0 = .ok (.aload_n 0, 1) := by decide +kernel
theorem dX6_chooses_1 : decode cX6_chooses 1 = .ok (.getfield 10, 3) := by decide +kernel
theorem dX6_chooses_4 : decode cX6_chooses 4 = .ok (.getfield 73, 3) := by decide +kernel
theorem dX6_chooses_7 : decode cX6_chooses 7 = .ok (.ifCond .ne 10, 3) := by decide +kernel
theorem dX6_chooses_10 : decode cX6_chooses 10 = .ok (.aload_n 0, 1) := by decide +kernel
theorem dX6_chooses_11 : decode cX6_chooses 11 = .ok (.bipush (-3), 2) := by decide +kernel
theorem dX6_chooses_13 : decode cX6_chooses 13 = .ok (.invokevirtual 62, 3) := by decide +kernel
theorem dX6_chooses_16 : decode cX6_chooses 16 = .ok (.ireturn, 1) := by decide +kernel
theorem dX6_chooses_17 : decode cX6_chooses 17 = .ok (.aload_n 0, 1) := by decide +kernel
theorem dX6_chooses_18 : decode cX6_chooses 18 = .ok (.getfield 19, 3) := by decide +kernel
theorem dX6_chooses_21 : decode cX6_chooses 21 = .ok (.aload_n 0, 1) := by decide +kernel
theorem dX6_chooses_22 : decode cX6_chooses 22 = .ok (.getfield 10, 3) := by decide +kernel
theorem dX6_chooses_25 : decode cX6_chooses 25 = .ok (.invokevirtual 66, 3) := by decide +kernel
theorem dX6_chooses_28 : decode cX6_chooses 28 = .ok (.aload_n 0, 1) := by decide +kernel
theorem dX6_chooses_29 : decode cX6_chooses 29 = .ok (.iconst 0, 1) := by decide +kernel
theorem dX6_chooses_30 : decode cX6_chooses 30 = .ok (.invokevirtual 149, 3) := by decide +kernel
theorem dX6_chooses_33 : decode cX6_chooses 33 = .ok (.iconst 0, 1) := by decide +kernel
theorem dX6_chooses_34 : decode cX6_chooses 34 = .ok (.istore_n 1, 1) := by decide +kernel
theorem dX6_chooses_35 : decode cX6_chooses 35 = .ok (.iload_n 1, 1) := by decide +kernel
theorem dX6_chooses_36 : decode cX6_chooses 36 = .ok (.aload_n 0, 1) := by decide +kernel
theorem dX6_chooses_37 : decode cX6_chooses 37 = .ok (.getfield 10, 3) := by decide +kernel
theorem dX6_chooses_40 : decode cX6_chooses 40 = .ok (.getfield 73, 3) := by decide +kernel
theorem dX6_chooses_43 : decode cX6_chooses 43 = .ok (.if_icmp .ge 14, 3) := by decide +kernel
theorem dX6_chooses_46 : decode cX6_chooses 46 = .ok (.aload_n 0, 1) := by decide +kernel
theorem dX6_chooses_47 : decode cX6_chooses 47 = .ok (.iload_n 1, 1) := by decide +kernel
theorem dX6_chooses_48 : decode cX6_chooses 48 = .ok (.invokevirtual 162, 3) := by decide +kernel
theorem dX6_chooses_51 : decode cX6_chooses 51 = .ok (.iinc 1 1, 3) := by decide +kernel
theorem dX6_chooses_54 : decode cX6_chooses 54 = .ok (.goto (-19), 3) := by decide +kernel
theorem dX6_chooses_57 : decode cX6_chooses 57 = .ok (.aload_n 0, 1) := by decide +kernel
theorem dX6_chooses_58 : decode cX6_chooses 58 = .ok (.invokevirtual 140, 3) := by decide +kernel
theorem dX6_chooses_61 : decode cX6_chooses 61 = .ok (.aload_n 0, 1) := by decide +kernel
theorem dX6_chooses_62 : decode cX6_chooses 62 = .ok (.iconst 0, 1) := by decide +kernel
theorem dX6_chooses_63 : decode cX6_chooses 63 = .ok (.invokevirtual 146, 3) := by decide +kernel
theorem dX6_chooses_66 : decode cX6_chooses 66 = .ok (.ireturn, 1) := by decide +kernel
theorem dX6_run_0 : decode cX6_run 0 = .ok (.iload_n 1, 1) := by decide +kernel
theorem dX6_run_1 : decode cX6_run 1 = .ok (.ifCond .lt 8, 3) := by decide +kernel
theorem dX6_run_4 : decode cX6_run 4 = .ok (.iload_n 1, 1) := by decide +kernel
theorem dX6_run_5 : decode cX6_run 5 = .ok (.iconst 4, 1) := by decide +kernel
theorem dX6_run_6 : decode cX6_run 6 = .ok (.if_icmp .le 10, 3) := by decide +kernel
theorem dX6_run_9 : decode cX6_run 9 = .ok (.aload_n 0, 1) := by decide +kernel
theorem dX6_run_10 : decode cX6_run 10 = .ok (.bipush (-2), 2) := by decide +kernel
theorem dX6_run_12 : decode cX6_run 12 = .ok (.invokevirtual 62, 3) := by decide +kernel
theorem dX6_run_15 : decode cX6_run 15 = .ok (.ireturn, 1) := by decide +kernel
theorem dX6_run_16 : decode cX6_run 16 = .ok (.aload_n 0, 1) := by decide +kernel
theorem dX6_run_17 : decode cX6_run 17 = .ok (.getfield 26, 3) := by decide +kernel
theorem dX6_run_20 : decode cX6_run 20 = .ok (.aload_n 0, 1) := by decide +kernel
theorem dX6_run_21 : decode cX6_run 21 = .ok (.getfield 10, 3) := by decide +kernel
theorem dX6_run_24 : decode cX6_run 24 = .ok (.invokevirtual 124, 3) := by decide +kernel
theorem dX6_run_27 : decode cX6_run 27 = .ok (.aload_n 0, 1) := by decide +kernel
theorem dX6_run_28 : decode cX6_run 28 = .ok (.getfield 40, 3) := by decide +kernel
theorem dX6_run_31 : decode cX6_run 31 = .ok (.aload_n 0, 1) := by decide +kernel
theorem dX6_run_32 : decode cX6_run 32 = .ok (.getfield 10, 3) := by decide +kernel
theorem dX6_run_35 : decode cX6_run 35 = .ok (.aload_n 0, 1) := by decide +kernel
theorem dX6_run_36 : decode cX6_run 36 = .ok (.getfield 26, 3) := by decide +kernel
theorem dX6_run_39 : decode cX6_run 39 = .ok (.aload_n 0, 1) := by decide +kernel
theorem dX6_run_40 : decode cX6_run 40 = .ok (.getfield 10, 3) := by decide +kernel
theorem dX6_run_43 : decode cX6_run 43 = .ok (.getfield 99, 3) := by decide +kernel
theorem dX6_run_46 : decode cX6_run 46 = .ok (.sipush 400, 3) := by decide +kernel
theorem dX6_run_49 : decode cX6_run 49 = .ok (.invokevirtual 165, 3) := by decide +kernel
theorem dX6_run_52 : decode cX6_run 52 = .ok (.aload_n 0, 1) := by decide +kernel
theorem dX6_run_53 : decode cX6_run 53 = .ok (.iload_n 1, 1) := by decide +kernel
theorem dX6_run_54 : decode cX6_run 54 = .ok (.invokevirtual 169, 3) := by decide +kernel
theorem dX6_run_57 : decode cX6_run 57 = .ok (.ireturn, 1) := by decide +kernel
theorem dX6_ran_0 : decode cX6_ran 0 = .ok (.aload_n 0, 1) := by decide +kernel
theorem dX6_ran_1 : decode cX6_ran 1 = .ok (.getfield 10, 3) := by decide +kernel
theorem dX6_ran_4 : decode cX6_ran 4 = .ok (.iload_n 1, 1) := by decide +kernel
theorem dX6_ran_5 : decode cX6_ran 5 = .ok (.invokevirtual 84, 3) := by decide +kernel
theorem dX6_ran_8 : decode cX6_ran 8 = .ok (.ifCond .eq 12, 3) := by decide +kernel
theorem dX6_ran_11 : decode cX6_ran 11 = .ok (.iload_n 2, 1) := by decide +kernel
theorem dX6_ran_12 : decode cX6_ran 12 = .ok (.ifCond .lt 8, 3) := by decide +kernel
theorem dX6_ran_15 : decode cX6_ran 15 = .ok (.iload_n 2, 1) := by decide +kernel
theorem dX6_ran_16 : decode cX6_ran 16 = .ok (.iconst 2, 1) := by decide +kernel
theorem dX6_ran_17 : decode cX6_ran 17 = .ok (.if_icmp .le 10, 3) := by decide +kernel
theorem dX6_ran_20 : decode cX6_ran 20 = .ok (.aload_n 0, 1) := by decide +kernel
theorem dX6_ran_21 : decode cX6_ran 21 = .ok (.bipush (-2), 2) := by decide +kernel
theorem dX6_ran_23 : decode cX6_ran 23 = .ok (.invokevirtual 62, 3) := by decide +kernel
theorem dX6_ran_26 : decode cX6_ran 26 = .ok (.ireturn, 1) := by decide +kernel
theorem dX6_ran_27 : decode cX6_ran 27 = .ok (.iload_n 2, 1) := by decide +kernel
theorem dX6_ran_28 : decode cX6_ran 28 = .ok (.iconst 2, 1) := by decide +kernel
theorem dX6_ran_29 : decode cX6_ran 29 = .ok (.if_icmp .ne 21, 3) := by decide +kernel
theorem dX6_ran_32 : decode cX6_ran 32 = .ok (.iload_n 3, 1) := by decide +kernel
theorem dX6_ran_33 : decode cX6_ran 33 = .ok (.ifCond .lt 10, 3) := by decide +kernel
theorem dX6_ran_36 : decode cX6_ran 36 = .ok (.iload_n 3, 1) := by decide +kernel
theorem dX6_ran_37 : decode cX6_ran 37 = .ok (.sipush 400, 3) := by decide +kernel
theorem dX6_ran_40 : decode cX6_ran 40 = .ok (.if_icmp .le 10, 3) := by decide +kernel
theorem dX6_ran_43 : decode cX6_ran 43 = .ok (.aload_n 0, 1) := by decide +kernel
theorem dX6_ran_44 : decode cX6_ran 44 = .ok (.bipush (-2), 2) := by decide +kernel
theorem dX6_ran_46 : decode cX6_ran 46 = .ok (.invokevirtual 62, 3) := by decide +kernel
theorem dX6_ran_49 : decode cX6_ran 49 = .ok (.ireturn, 1) := by decide +kernel
theorem dX6_ran_50 : decode cX6_ran 50 = .ok (.aload_n 0, 1) := by decide +kernel
theorem dX6_ran_51 : decode cX6_ran 51 = .ok (.getfield 26, 3) := by decide +kernel
theorem dX6_ran_54 : decode cX6_ran 54 = .ok (.aload_n 0, 1) := by decide +kernel
theorem dX6_ran_55 : decode cX6_ran 55 = .ok (.getfield 10, 3) := by decide +kernel
theorem dX6_ran_58 : decode cX6_ran 58 = .ok (.invokevirtual 124, 3) := by decide +kernel
theorem dX6_ran_61 : decode cX6_ran 61 = .ok (.aload_n 0, 1) := by decide +kernel
theorem dX6_ran_62 : decode cX6_ran 62 = .ok (.getfield 40, 3) := by decide +kernel
theorem dX6_ran_65 : decode cX6_ran 65 = .ok (.aload_n 0, 1) := by decide +kernel
theorem dX6_ran_66 : decode cX6_ran 66 = .ok (.getfield 10, 3) := by decide +kernel
theorem dX6_ran_69 : decode cX6_ran 69 = .ok (.aload_n 0, 1) := by decide +kernel
theorem dX6_ran_70 : decode cX6_ran 70 = .ok (.getfield 26, 3) := by decide +kernel
theorem dX6_ran_73 : decode cX6_ran 73 = .ok (.aload_n 0, 1) := by decide +kernel
theorem dX6_ran_74 : decode cX6_ran 74 = .ok (.getfield 10, 3) := by decide +kernel
theorem dX6_ran_77 : decode cX6_ran 77 = .ok (.getfield 99, 3) := by decide +kernel
theorem dX6_ran_80 : decode cX6_ran 80 = .ok (.iload_n 2, 1) := by decide +kernel
theorem dX6_ran_81 : decode cX6_ran 81 = .ok (.iconst 2, 1) := by decide +kernel
theorem dX6_ran_82 : decode cX6_ran 82 = .ok (.if_icmp .ne 7, 3) := by decide +kernel
theorem dX6_ran_85 : decode cX6_ran 85 = .ok (.iload_n 3, 1) := by decide +kernel
theorem dX6_ran_86 : decode cX6_ran 86 = .ok (.goto 6, 3) := by decide +kernel
theorem dX6_ran_89 : decode cX6_ran 89 = .ok (.sipush 400, 3) := by decide +kernel
theorem dX6_ran_92 : decode cX6_ran 92 = .ok (.invokevirtual 165, 3) := by decide +kernel
theorem dX6_ran_95 : decode cX6_ran 95 = .ok (.iload_n 2, 1) := by decide +kernel
theorem dX6_ran_96 : decode cX6_ran 96 = .ok (.lookupswitch 48 #[(0, 28), (1, 38)], 28) := by decide +kernel
theorem dX6_ran_124 : decode cX6_ran 124 = .ok (.aload_n 0, 1) := by decide +kernel
theorem dX6_ran_125 : decode cX6_ran 125 = .ok (.getfield 40, 3) := by decide +kernel
theorem dX6_ran_128 : decode cX6_ran 128 = .ok (.getfield 172, 3) := by decide +kernel
theorem dX6_ran_131 : decode cX6_ran 131 = .ok (.iload_n 1, 1) := by decide +kernel
theorem dX6_ran_132 : decode cX6_ran 132 = .ok (.iaload, 1) := by decide +kernel
theorem dX6_ran_133 : decode cX6_ran 133 = .ok (.ireturn, 1) := by decide +kernel
theorem dX6_ran_134 : decode cX6_ran 134 = .ok (.aload_n 0, 1) := by decide +kernel
theorem dX6_ran_135 : decode cX6_ran 135 = .ok (.getfield 40, 3) := by decide +kernel
theorem dX6_ran_138 : decode cX6_ran 138 = .ok (.getfield 175, 3) := by decide +kernel
theorem dX6_ran_141 : decode cX6_ran 141 = .ok (.iload_n 1, 1) := by decide +kernel
theorem dX6_ran_142 : decode cX6_ran 142 = .ok (.iaload, 1) := by decide +kernel
theorem dX6_ran_143 : decode cX6_ran 143 = .ok (.ireturn, 1) := by decide +kernel
theorem dX6_ran_144 : decode cX6_ran 144 = .ok (.aload_n 0, 1) := by decide +kernel
theorem dX6_ran_145 : decode cX6_ran 145 = .ok (.getfield 26, 3) := by decide +kernel
theorem dX6_ran_148 : decode cX6_ran 148 = .ok (.aload_n 0, 1) := by decide +kernel
theorem dX6_ran_149 : decode cX6_ran 149 = .ok (.getfield 10, 3) := by decide +kernel
theorem dX6_ran_152 : decode cX6_ran 152 = .ok (.iload_n 1, 1) := by decide +kernel
theorem dX6_ran_153 : decode cX6_ran 153 = .ok (.aload_n 0, 1) := by decide +kernel
theorem dX6_ran_154 : decode cX6_ran 154 = .ok (.getfield 40, 3) := by decide +kernel
theorem dX6_ran_157 : decode cX6_ran 157 = .ok (.getfield 178, 3) := by decide +kernel
theorem dX6_ran_160 : decode cX6_ran 160 = .ok (.iload_n 1, 1) := by decide +kernel
theorem dX6_ran_161 : decode cX6_ran 161 = .ok (.iaload, 1) := by decide +kernel
theorem dX6_ran_162 : decode cX6_ran 162 = .ok (.invokevirtual 133, 3) := by decide +kernel
theorem dX6_ran_165 : decode cX6_ran 165 = .ok (.ireturn, 1) := by decide +kernel
theorem dX6_best_0 : decode cX6_best 0 = .ok (.iload_n 1, 1) := by decide +kernel
theorem dX6_best_1 : decode cX6_best 1 = .ok (.ifCond .lt 8, 3) := by decide +kernel
theorem dX6_best_4 : decode cX6_best 4 = .ok (.iload_n 1, 1) := by decide +kernel
theorem dX6_best_5 : decode cX6_best 5 = .ok (.iconst 1, 1) := by decide +kernel
theorem dX6_best_6 : decode cX6_best 6 = .ok (.if_icmp .le 10, 3) := by decide +kernel
theorem dX6_best_9 : decode cX6_best 9 = .ok (.aload_n 0, 1) := by decide +kernel
theorem dX6_best_10 : decode cX6_best 10 = .ok (.bipush (-2), 2) := by decide +kernel
theorem dX6_best_12 : decode cX6_best 12 = .ok (.invokevirtual 62, 3) := by decide +kernel
theorem dX6_best_15 : decode cX6_best 15 = .ok (.ireturn, 1) := by decide +kernel
theorem dX6_best_16 : decode cX6_best 16 = .ok (.aload_n 0, 1) := by decide +kernel
theorem dX6_best_17 : decode cX6_best 17 = .ok (.getfield 26, 3) := by decide +kernel
theorem dX6_best_20 : decode cX6_best 20 = .ok (.aload_n 0, 1) := by decide +kernel
theorem dX6_best_21 : decode cX6_best 21 = .ok (.getfield 10, 3) := by decide +kernel
theorem dX6_best_24 : decode cX6_best 24 = .ok (.invokevirtual 124, 3) := by decide +kernel
theorem dX6_best_27 : decode cX6_best 27 = .ok (.iconst 0, 1) := by decide +kernel
theorem dX6_best_28 : decode cX6_best 28 = .ok (.istore_n 2, 1) := by decide +kernel
theorem dX6_best_29 : decode cX6_best 29 = .ok (.sipush 400, 3) := by decide +kernel
theorem dX6_best_32 : decode cX6_best 32 = .ok (.istore_n 3, 1) := by decide +kernel
theorem dX6_best_33 : decode cX6_best 33 = .ok (.iconst 0, 1) := by decide +kernel
theorem dX6_best_34 : decode cX6_best 34 = .ok (.istore 4, 2) := by decide +kernel
theorem dX6_best_36 : decode cX6_best 36 = .ok (.iload 4, 2) := by decide +kernel
theorem dX6_best_38 : decode cX6_best 38 = .ok (.iconst 4, 1) := by decide +kernel
theorem dX6_best_39 : decode cX6_best 39 = .ok (.if_icmp .ge 51, 3) := by decide +kernel
theorem dX6_best_42 : decode cX6_best 42 = .ok (.aload_n 0, 1) := by decide +kernel
theorem dX6_best_43 : decode cX6_best 43 = .ok (.getfield 40, 3) := by decide +kernel
theorem dX6_best_46 : decode cX6_best 46 = .ok (.aload_n 0, 1) := by decide +kernel
theorem dX6_best_47 : decode cX6_best 47 = .ok (.getfield 10, 3) := by decide +kernel
theorem dX6_best_50 : decode cX6_best 50 = .ok (.aload_n 0, 1) := by decide +kernel
theorem dX6_best_51 : decode cX6_best 51 = .ok (.getfield 26, 3) := by decide +kernel
theorem dX6_best_54 : decode cX6_best 54 = .ok (.iload 4, 2) := by decide +kernel
theorem dX6_best_56 : decode cX6_best 56 = .ok (.sipush 400, 3) := by decide +kernel
theorem dX6_best_59 : decode cX6_best 59 = .ok (.invokevirtual 165, 3) := by decide +kernel
theorem dX6_best_62 : decode cX6_best 62 = .ok (.aload_n 0, 1) := by decide +kernel
theorem dX6_best_63 : decode cX6_best 63 = .ok (.getfield 40, 3) := by decide +kernel
theorem dX6_best_66 : decode cX6_best 66 = .ok (.getfield 181, 3) := by decide +kernel
theorem dX6_best_69 : decode cX6_best 69 = .ok (.iload_n 3, 1) := by decide +kernel
theorem dX6_best_70 : decode cX6_best 70 = .ok (.if_icmp .ge 14, 3) := by decide +kernel
theorem dX6_best_73 : decode cX6_best 73 = .ok (.aload_n 0, 1) := by decide +kernel
theorem dX6_best_74 : decode cX6_best 74 = .ok (.getfield 40, 3) := by decide +kernel
theorem dX6_best_77 : decode cX6_best 77 = .ok (.getfield 181, 3) := by decide +kernel
theorem dX6_best_80 : decode cX6_best 80 = .ok (.istore_n 3, 1) := by decide +kernel
theorem dX6_best_81 : decode cX6_best 81 = .ok (.iload 4, 2) := by decide +kernel
theorem dX6_best_83 : decode cX6_best 83 = .ok (.istore_n 2, 1) := by decide +kernel
theorem dX6_best_84 : decode cX6_best 84 = .ok (.iinc 4 1, 3) := by decide +kernel
theorem dX6_best_87 : decode cX6_best 87 = .ok (.goto (-51), 3) := by decide +kernel
theorem dX6_best_90 : decode cX6_best 90 = .ok (.iload_n 1, 1) := by decide +kernel
theorem dX6_best_91 : decode cX6_best 91 = .ok (.ifCond .ne 7, 3) := by decide +kernel
theorem dX6_best_94 : decode cX6_best 94 = .ok (.iload_n 2, 1) := by decide +kernel
theorem dX6_best_95 : decode cX6_best 95 = .ok (.goto 4, 3) := by decide +kernel
theorem dX6_best_98 : decode cX6_best 98 = .ok (.iload_n 3, 1) := by decide +kernel
theorem dX6_best_99 : decode cX6_best 99 = .ok (.ireturn, 1) := by decide +kernel
theorem dX6_straight_0 : decode cX6_straight 0 = .ok (.aload_n 0, 1) := by decide +kernel
theorem dX6_straight_1 : decode cX6_straight 1 = .ok (.getfield 33, 3) := by decide +kernel
theorem dX6_straight_4 : decode cX6_straight 4 = .ok (.invokevirtual 184, 3) := by decide +kernel
theorem dX6_straight_7 : decode cX6_straight 7 = .ok (.iconst 0, 1) := by decide +kernel
theorem dX6_straight_8 : decode cX6_straight 8 = .ok (.istore_n 1, 1) := by decide +kernel
theorem dX6_straight_9 : decode cX6_straight 9 = .ok (.iload_n 1, 1) := by decide +kernel
theorem dX6_straight_10 : decode cX6_straight 10 = .ok (.aload_n 0, 1) := by decide +kernel
theorem dX6_straight_11 : decode cX6_straight 11 = .ok (.getfield 10, 3) := by decide +kernel
theorem dX6_straight_14 : decode cX6_straight 14 = .ok (.getfield 73, 3) := by decide +kernel
theorem dX6_straight_17 : decode cX6_straight 17 = .ok (.if_icmp .ge 43, 3) := by decide +kernel
theorem dX6_straight_20 : decode cX6_straight 20 = .ok (.aload_n 0, 1) := by decide +kernel
theorem dX6_straight_21 : decode cX6_straight 21 = .ok (.getfield 26, 3) := by decide +kernel
theorem dX6_straight_24 : decode cX6_straight 24 = .ok (.aload_n 0, 1) := by decide +kernel
theorem dX6_straight_25 : decode cX6_straight 25 = .ok (.getfield 10, 3) := by decide +kernel
theorem dX6_straight_28 : decode cX6_straight 28 = .ok (.iload_n 1, 1) := by decide +kernel
theorem dX6_straight_29 : decode cX6_straight 29 = .ok (.aload_n 0, 1) := by decide +kernel
theorem dX6_straight_30 : decode cX6_straight 30 = .ok (.getfield 10, 3) := by decide +kernel
theorem dX6_straight_33 : decode cX6_straight 33 = .ok (.iload_n 1, 1) := by decide +kernel
theorem dX6_straight_34 : decode cX6_straight 34 = .ok (.iconst 0, 1) := by decide +kernel
theorem dX6_straight_35 : decode cX6_straight 35 = .ok (.invokevirtual 88, 3) := by decide +kernel
theorem dX6_straight_38 : decode cX6_straight 38 = .ok (.invokevirtual 187, 3) := by decide +kernel
theorem dX6_straight_41 : decode cX6_straight 41 = .ok (.aload_n 0, 1) := by decide +kernel
theorem dX6_straight_42 : decode cX6_straight 42 = .ok (.getfield 33, 3) := by decide +kernel
theorem dX6_straight_45 : decode cX6_straight 45 = .ok (.aload_n 0, 1) := by decide +kernel
theorem dX6_straight_46 : decode cX6_straight 46 = .ok (.getfield 26, 3) := by decide +kernel
theorem dX6_straight_49 : decode cX6_straight 49 = .ok (.iload_n 1, 1) := by decide +kernel
theorem dX6_straight_50 : decode cX6_straight 50 = .ok (.iconst 1, 1) := by decide +kernel
theorem dX6_straight_51 : decode cX6_straight 51 = .ok (.invokevirtual 191, 3) := by decide +kernel
theorem dX6_straight_54 : decode cX6_straight 54 = .ok (.iinc 1 1, 3) := by decide +kernel
theorem dX6_straight_57 : decode cX6_straight 57 = .ok (.goto (-48), 3) := by decide +kernel
theorem dX6_straight_60 : decode cX6_straight 60 = .ok (.aload_n 0, 1) := by decide +kernel
theorem dX6_straight_61 : decode cX6_straight 61 = .ok (.iconst 0, 1) := by decide +kernel
theorem dX6_straight_62 : decode cX6_straight 62 = .ok (.invokevirtual 146, 3) := by decide +kernel
theorem dX6_straight_65 : decode cX6_straight 65 = .ok (.ireturn, 1) := by decide +kernel
theorem dX6_type_0 : decode cX6_type 0 = .ok (.iload_n 1, 1) := by decide +kernel
theorem dX6_type_1 : decode cX6_type 1 = .ok (.ifCond .lt 10, 3) := by decide +kernel
theorem dX6_type_4 : decode cX6_type 4 = .ok (.iload_n 1, 1) := by decide +kernel
theorem dX6_type_5 : decode cX6_type 5 = .ok (.sipush 128, 3) := by decide +kernel
theorem dX6_type_8 : decode cX6_type 8 = .ok (.if_icmp .lt 10, 3) := by decide +kernel
theorem dX6_type_11 : decode cX6_type 11 = .ok (.aload_n 0, 1) := by decide +kernel
theorem dX6_type_12 : decode cX6_type 12 = .ok (.bipush (-2), 2) := by decide +kernel
theorem dX6_type_14 : decode cX6_type 14 = .ok (.invokevirtual 62, 3) := by decide +kernel
theorem dX6_type_17 : decode cX6_type 17 = .ok (.ireturn, 1) := by decide +kernel
theorem dX6_type_18 : decode cX6_type 18 = .ok (.aload_n 0, 1) := by decide +kernel
theorem dX6_type_19 : decode cX6_type 19 = .ok (.getfield 47, 3) := by decide +kernel
theorem dX6_type_22 : decode cX6_type 22 = .ok (.getfield 194, 3) := by decide +kernel
theorem dX6_type_25 : decode cX6_type 25 = .ok (.bipush 120, 2) := by decide +kernel
theorem dX6_type_27 : decode cX6_type 27 = .ok (.if_icmp .lt 10, 3) := by decide +kernel
theorem dX6_type_30 : decode cX6_type 30 = .ok (.aload_n 0, 1) := by decide +kernel
theorem dX6_type_31 : decode cX6_type 31 = .ok (.bipush (-4), 2) := by decide +kernel
theorem dX6_type_33 : decode cX6_type 33 = .ok (.invokevirtual 62, 3) := by decide +kernel
theorem dX6_type_36 : decode cX6_type 36 = .ok (.ireturn, 1) := by decide +kernel
theorem dX6_type_37 : decode cX6_type 37 = .ok (.aload_n 0, 1) := by decide +kernel
theorem dX6_type_38 : decode cX6_type 38 = .ok (.getfield 47, 3) := by decide +kernel
theorem dX6_type_41 : decode cX6_type 41 = .ok (.iload_n 1, 1) := by decide +kernel
theorem dX6_type_42 : decode cX6_type 42 = .ok (.invokevirtual 197, 3) := by decide +kernel
theorem dX6_type_45 : decode cX6_type 45 = .ok (.aload_n 0, 1) := by decide +kernel
theorem dX6_type_46 : decode cX6_type 46 = .ok (.getfield 47, 3) := by decide +kernel
theorem dX6_type_49 : decode cX6_type 49 = .ok (.getfield 194, 3) := by decide +kernel
theorem dX6_type_52 : decode cX6_type 52 = .ok (.ireturn, 1) := by decide +kernel
theorem dX6_clear_0 : decode cX6_clear 0 = .ok (.aload_n 0, 1) := by decide +kernel
theorem dX6_clear_1 : decode cX6_clear 1 = .ok (.getfield 47, 3) := by decide +kernel
theorem dX6_clear_4 : decode cX6_clear 4 = .ok (.getfield 194, 3) := by decide +kernel
theorem dX6_clear_7 : decode cX6_clear 7 = .ok (.istore_n 1, 1) := by decide +kernel
theorem dX6_clear_8 : decode cX6_clear 8 = .ok (.aload_n 0, 1) := by decide +kernel
theorem dX6_clear_9 : decode cX6_clear 9 = .ok (.getfield 47, 3) := by decide +kernel
theorem dX6_clear_12 : decode cX6_clear 12 = .ok (.iconst 0, 1) := by decide +kernel
theorem dX6_clear_13 : decode cX6_clear 13 = .ok (.putfield 194, 3) := by decide +kernel
theorem dX6_clear_16 : decode cX6_clear 16 = .ok (.iload_n 1, 1) := by decide +kernel
theorem dX6_clear_17 : decode cX6_clear 17 = .ok (.ireturn, 1) := by decide +kernel
theorem dX6_reads_0 : decode cX6_reads 0 = .ok (.aload_n 0, 1) := by decide +kernel
theorem dX6_reads_1 : decode cX6_reads 1 = .ok (.getfield 47, 3) := by decide +kernel
theorem dX6_reads_4 : decode cX6_reads 4 = .ok (.aload_n 0, 1) := by decide +kernel
theorem dX6_reads_5 : decode cX6_reads 5 = .ok (.getfield 10, 3) := by decide +kernel
theorem dX6_reads_8 : decode cX6_reads 8 = .ok (.getfield 73, 3) := by decide +kernel
theorem dX6_reads_11 : decode cX6_reads 11 = .ok (.aload_n 0, 1) := by decide +kernel
theorem dX6_reads_12 : decode cX6_reads 12 = .ok (.getfield 10, 3) := by decide +kernel
theorem dX6_reads_15 : decode cX6_reads 15 = .ok (.invokevirtual 103, 3) := by decide +kernel
theorem dX6_reads_18 : decode cX6_reads 18 = .ok (.invokevirtual 200, 3) := by decide +kernel
theorem dX6_reads_21 : decode cX6_reads 21 = .ok (.aload_n 0, 1) := by decide +kernel
theorem dX6_reads_22 : decode cX6_reads 22 = .ok (.getfield 47, 3) := by decide +kernel
theorem dX6_reads_25 : decode cX6_reads 25 = .ok (.getfield 204, 3) := by decide +kernel
theorem dX6_reads_28 : decode cX6_reads 28 = .ok (.iconst (-1), 1) := by decide +kernel
theorem dX6_reads_29 : decode cX6_reads 29 = .ok (.if_icmp .eq 14, 3) := by decide +kernel
theorem dX6_reads_32 : decode cX6_reads 32 = .ok (.bipush (-10), 2) := by decide +kernel
theorem dX6_reads_34 : decode cX6_reads 34 = .ok (.aload_n 0, 1) := by decide +kernel
theorem dX6_reads_35 : decode cX6_reads 35 = .ok (.getfield 47, 3) := by decide +kernel
theorem dX6_reads_38 : decode cX6_reads 38 = .ok (.getfield 204, 3) := by decide +kernel
theorem dX6_reads_41 : decode cX6_reads 41 = .ok (.isub, 1) := by decide +kernel
theorem dX6_reads_42 : decode cX6_reads 42 = .ok (.ireturn, 1) := by decide +kernel
theorem dX6_reads_43 : decode cX6_reads 43 = .ok (.aload_n 0, 1) := by decide +kernel
theorem dX6_reads_44 : decode cX6_reads 44 = .ok (.getfield 19, 3) := by decide +kernel
theorem dX6_reads_47 : decode cX6_reads 47 = .ok (.aload_n 0, 1) := by decide +kernel
theorem dX6_reads_48 : decode cX6_reads 48 = .ok (.getfield 10, 3) := by decide +kernel
theorem dX6_reads_51 : decode cX6_reads 51 = .ok (.invokevirtual 66, 3) := by decide +kernel
theorem dX6_reads_54 : decode cX6_reads 54 = .ok (.iconst 0, 1) := by decide +kernel
theorem dX6_reads_55 : decode cX6_reads 55 = .ok (.istore_n 1, 1) := by decide +kernel
theorem dX6_reads_56 : decode cX6_reads 56 = .ok (.iload_n 1, 1) := by decide +kernel
theorem dX6_reads_57 : decode cX6_reads 57 = .ok (.aload_n 0, 1) := by decide +kernel
theorem dX6_reads_58 : decode cX6_reads 58 = .ok (.getfield 47, 3) := by decide +kernel
theorem dX6_reads_61 : decode cX6_reads 61 = .ok (.getfield 207, 3) := by decide +kernel
theorem dX6_reads_64 : decode cX6_reads 64 = .ok (.if_icmp .ge 52, 3) := by decide +kernel
theorem dX6_reads_67 : decode cX6_reads 67 = .ok (.aload_n 0, 1) := by decide +kernel
theorem dX6_reads_68 : decode cX6_reads 68 = .ok (.getfield 10, 3) := by decide +kernel
theorem dX6_reads_71 : decode cX6_reads 71 = .ok (.aload_n 0, 1) := by decide +kernel
theorem dX6_reads_72 : decode cX6_reads 72 = .ok (.getfield 47, 3) := by decide +kernel
theorem dX6_reads_75 : decode cX6_reads 75 = .ok (.iload_n 1, 1) := by decide +kernel
theorem dX6_reads_76 : decode cX6_reads 76 = .ok (.iconst 0, 1) := by decide +kernel
theorem dX6_reads_77 : decode cX6_reads 77 = .ok (.invokevirtual 210, 3) := by decide +kernel
theorem dX6_reads_80 : decode cX6_reads 80 = .ok (.aload_n 0, 1) := by decide +kernel
theorem dX6_reads_81 : decode cX6_reads 81 = .ok (.getfield 47, 3) := by decide +kernel
theorem dX6_reads_84 : decode cX6_reads 84 = .ok (.iload_n 1, 1) := by decide +kernel
theorem dX6_reads_85 : decode cX6_reads 85 = .ok (.iconst 1, 1) := by decide +kernel
theorem dX6_reads_86 : decode cX6_reads 86 = .ok (.invokevirtual 210, 3) := by decide +kernel
theorem dX6_reads_89 : decode cX6_reads 89 = .ok (.aload_n 0, 1) := by decide +kernel
theorem dX6_reads_90 : decode cX6_reads 90 = .ok (.getfield 47, 3) := by decide +kernel
theorem dX6_reads_93 : decode cX6_reads 93 = .ok (.iload_n 1, 1) := by decide +kernel
theorem dX6_reads_94 : decode cX6_reads 94 = .ok (.iconst 2, 1) := by decide +kernel
theorem dX6_reads_95 : decode cX6_reads 95 = .ok (.invokevirtual 210, 3) := by decide +kernel
theorem dX6_reads_98 : decode cX6_reads 98 = .ok (.aload_n 0, 1) := by decide +kernel
theorem dX6_reads_99 : decode cX6_reads 99 = .ok (.getfield 47, 3) := by decide +kernel
theorem dX6_reads_102 : decode cX6_reads 102 = .ok (.iload_n 1, 1) := by decide +kernel
theorem dX6_reads_103 : decode cX6_reads 103 = .ok (.iconst 3, 1) := by decide +kernel
theorem dX6_reads_104 : decode cX6_reads 104 = .ok (.invokevirtual 210, 3) := by decide +kernel
theorem dX6_reads_107 : decode cX6_reads 107 = .ok (.invokevirtual 80, 3) := by decide +kernel
theorem dX6_reads_110 : decode cX6_reads 110 = .ok (.iinc 1 1, 3) := by decide +kernel
theorem dX6_reads_113 : decode cX6_reads 113 = .ok (.goto (-57), 3) := by decide +kernel
theorem dX6_reads_116 : decode cX6_reads 116 = .ok (.aload_n 0, 1) := by decide +kernel
theorem dX6_reads_117 : decode cX6_reads 117 = .ok (.getfield 47, 3) := by decide +kernel
theorem dX6_reads_120 : decode cX6_reads 120 = .ok (.getfield 207, 3) := by decide +kernel
theorem dX6_reads_123 : decode cX6_reads 123 = .ok (.ireturn, 1) := by decide +kernel
theorem dX6_back_0 : decode cX6_back 0 = .ok (.aload_n 0, 1) := by decide +kernel
theorem dX6_back_1 : decode cX6_back 1 = .ok (.getfield 19, 3) := by decide +kernel
theorem dX6_back_4 : decode cX6_back 4 = .ok (.getfield 211, 3) := by decide +kernel
theorem dX6_back_7 : decode cX6_back 7 = .ok (.ifCond .ne 10, 3) := by decide +kernel
theorem dX6_back_10 : decode cX6_back 10 = .ok (.aload_n 0, 1) := by decide +kernel
theorem dX6_back_11 : decode cX6_back 11 = .ok (.bipush (-3), 2) := by decide +kernel
theorem dX6_back_13 : decode cX6_back 13 = .ok (.invokevirtual 62, 3) := by decide +kernel
theorem dX6_back_16 : decode cX6_back 16 = .ok (.ireturn, 1) := by decide +kernel
theorem dX6_back_17 : decode cX6_back 17 = .ok (.aload_n 0, 1) := by decide +kernel
theorem dX6_back_18 : decode cX6_back 18 = .ok (.getfield 19, 3) := by decide +kernel
theorem dX6_back_21 : decode cX6_back 21 = .ok (.aload_n 0, 1) := by decide +kernel
theorem dX6_back_22 : decode cX6_back 22 = .ok (.getfield 10, 3) := by decide +kernel
theorem dX6_back_25 : decode cX6_back 25 = .ok (.invokevirtual 212, 3) := by decide +kernel
theorem dX6_back_28 : decode cX6_back 28 = .ok (.aload_n 0, 1) := by decide +kernel
theorem dX6_back_29 : decode cX6_back 29 = .ok (.getfield 19, 3) := by decide +kernel
theorem dX6_back_32 : decode cX6_back 32 = .ok (.getfield 211, 3) := by decide +kernel
theorem dX6_back_35 : decode cX6_back 35 = .ok (.ireturn, 1) := by decide +kernel
theorem dX6_told_0 : decode cX6_told 0 = .ok (.iload_n 1, 1) := by decide +kernel
theorem dX6_told_1 : decode cX6_told 1 = .ok (.ifCond .lt 9, 3) := by decide +kernel
theorem dX6_told_4 : decode cX6_told 4 = .ok (.iload_n 1, 1) := by decide +kernel
theorem dX6_told_5 : decode cX6_told 5 = .ok (.bipush 8, 2) := by decide +kernel
theorem dX6_told_7 : decode cX6_told 7 = .ok (.if_icmp .le 10, 3) := by decide +kernel
theorem dX6_told_10 : decode cX6_told 10 = .ok (.aload_n 0, 1) := by decide +kernel
theorem dX6_told_11 : decode cX6_told 11 = .ok (.bipush (-2), 2) := by decide +kernel
theorem dX6_told_13 : decode cX6_told 13 = .ok (.invokevirtual 62, 3) := by decide +kernel
theorem dX6_told_16 : decode cX6_told 16 = .ok (.ireturn, 1) := by decide +kernel
theorem dX6_told_17 : decode cX6_told 17 = .ok (.iload_n 1, 1) := by decide +kernel
theorem dX6_told_18 : decode cX6_told 18 = .ok (.tableswitch 86 3 8 #[38, 46, 54, 62, 70, 78], 38) := by decide +kernel
theorem dX6_told_56 : decode cX6_told 56 = .ok (.aload_n 0, 1) := by decide +kernel
theorem dX6_told_57 : decode cX6_told 57 = .ok (.getfield 47, 3) := by decide +kernel
theorem dX6_told_60 : decode cX6_told 60 = .ok (.getfield 194, 3) := by decide +kernel
theorem dX6_told_63 : decode cX6_told 63 = .ok (.ireturn, 1) := by decide +kernel
theorem dX6_told_64 : decode cX6_told 64 = .ok (.aload_n 0, 1) := by decide +kernel
theorem dX6_told_65 : decode cX6_told 65 = .ok (.getfield 10, 3) := by decide +kernel
theorem dX6_told_68 : decode cX6_told 68 = .ok (.getfield 70, 3) := by decide +kernel
theorem dX6_told_71 : decode cX6_told 71 = .ok (.ireturn, 1) := by decide +kernel
theorem dX6_told_72 : decode cX6_told 72 = .ok (.aload_n 0, 1) := by decide +kernel
theorem dX6_told_73 : decode cX6_told 73 = .ok (.getfield 10, 3) := by decide +kernel
theorem dX6_told_76 : decode cX6_told 76 = .ok (.getfield 73, 3) := by decide +kernel
theorem dX6_told_79 : decode cX6_told 79 = .ok (.ireturn, 1) := by decide +kernel
theorem dX6_told_80 : decode cX6_told 80 = .ok (.aload_n 0, 1) := by decide +kernel
theorem dX6_told_81 : decode cX6_told 81 = .ok (.getfield 10, 3) := by decide +kernel
theorem dX6_told_84 : decode cX6_told 84 = .ok (.getfield 96, 3) := by decide +kernel
theorem dX6_told_87 : decode cX6_told 87 = .ok (.ireturn, 1) := by decide +kernel
theorem dX6_told_88 : decode cX6_told 88 = .ok (.aload_n 0, 1) := by decide +kernel
theorem dX6_told_89 : decode cX6_told 89 = .ok (.getfield 10, 3) := by decide +kernel
theorem dX6_told_92 : decode cX6_told 92 = .ok (.getfield 99, 3) := by decide +kernel
theorem dX6_told_95 : decode cX6_told 95 = .ok (.ireturn, 1) := by decide +kernel
theorem dX6_told_96 : decode cX6_told 96 = .ok (.aload_n 0, 1) := by decide +kernel
theorem dX6_told_97 : decode cX6_told 97 = .ok (.getfield 19, 3) := by decide +kernel
theorem dX6_told_100 : decode cX6_told 100 = .ok (.getfield 211, 3) := by decide +kernel
theorem dX6_told_103 : decode cX6_told 103 = .ok (.ireturn, 1) := by decide +kernel
theorem dX6_told_104 : decode cX6_told 104 = .ok (.aload_n 0, 1) := by decide +kernel
theorem dX6_told_105 : decode cX6_told 105 = .ok (.getfield 51, 3) := by decide +kernel
theorem dX6_told_108 : decode cX6_told 108 = .ok (.iload_n 1, 1) := by decide +kernel
theorem dX6_told_109 : decode cX6_told 109 = .ok (.iaload, 1) := by decide +kernel
theorem dX6_told_110 : decode cX6_told 110 = .ok (.ireturn, 1) := by decide +kernel
theorem dX6_digest_0 : decode cX6_digest 0 = .ok (.ldc2_w 215, 3) := by decide +kernel
theorem dX6_digest_3 : decode cX6_digest 3 = .ok (.lstore_n 1, 1) := by decide +kernel
theorem dX6_digest_4 : decode cX6_digest 4 = .ok (.iconst 0, 1) := by decide +kernel
theorem dX6_digest_5 : decode cX6_digest 5 = .ok (.istore_n 3, 1) := by decide +kernel
theorem dX6_digest_6 : decode cX6_digest 6 = .ok (.iload_n 3, 1) := by decide +kernel
theorem dX6_digest_7 : decode cX6_digest 7 = .ok (.bipush 8, 2) := by decide +kernel
theorem dX6_digest_9 : decode cX6_digest 9 = .ok (.if_icmp .gt 22, 3) := by decide +kernel
theorem dX6_digest_12 : decode cX6_digest 12 = .ok (.ldc2_w 217, 3) := by decide +kernel
theorem dX6_digest_15 : decode cX6_digest 15 = .ok (.lload_n 1, 1) := by decide +kernel
theorem dX6_digest_16 : decode cX6_digest 16 = .ok (.lmul, 1) := by decide +kernel
theorem dX6_digest_17 : decode cX6_digest 17 = .ok (.aload_n 0, 1) := by decide +kernel
theorem dX6_digest_18 : decode cX6_digest 18 = .ok (.iload_n 3, 1) := by decide +kernel
theorem dX6_digest_19 : decode cX6_digest 19 = .ok (.invokevirtual 219, 3) := by decide +kernel
theorem dX6_digest_22 : decode cX6_digest 22 = .ok (.i2l, 1) := by decide +kernel
theorem dX6_digest_23 : decode cX6_digest 23 = .ok (.ladd, 1) := by decide +kernel
theorem dX6_digest_24 : decode cX6_digest 24 = .ok (.lstore_n 1, 1) := by decide +kernel
theorem dX6_digest_25 : decode cX6_digest 25 = .ok (.iinc 3 1, 3) := by decide +kernel
theorem dX6_digest_28 : decode cX6_digest 28 = .ok (.goto (-22), 3) := by decide +kernel
theorem dX6_digest_31 : decode cX6_digest 31 = .ok (.aload_n 0, 1) := by decide +kernel
theorem dX6_digest_32 : decode cX6_digest 32 = .ok (.invokevirtual 140, 3) := by decide +kernel
theorem dX6_digest_35 : decode cX6_digest 35 = .ok (.iconst 0, 1) := by decide +kernel
theorem dX6_digest_36 : decode cX6_digest 36 = .ok (.istore_n 3, 1) := by decide +kernel
theorem dX6_digest_37 : decode cX6_digest 37 = .ok (.iload_n 3, 1) := by decide +kernel
theorem dX6_digest_38 : decode cX6_digest 38 = .ok (.aload_n 0, 1) := by decide +kernel
theorem dX6_digest_39 : decode cX6_digest 39 = .ok (.getfield 10, 3) := by decide +kernel
theorem dX6_digest_42 : decode cX6_digest 42 = .ok (.getfield 73, 3) := by decide +kernel
theorem dX6_digest_45 : decode cX6_digest 45 = .ok (.if_icmp .ge 39, 3) := by decide +kernel
theorem dX6_digest_48 : decode cX6_digest 48 = .ok (.iconst 0, 1) := by decide +kernel
theorem dX6_digest_49 : decode cX6_digest 49 = .ok (.istore 4, 2) := by decide +kernel
theorem dX6_digest_51 : decode cX6_digest 51 = .ok (.iload 4, 2) := by decide +kernel
theorem dX6_digest_53 : decode cX6_digest 53 = .ok (.iconst 5, 1) := by decide +kernel
theorem dX6_digest_54 : decode cX6_digest 54 = .ok (.if_icmp .gt 24, 3) := by decide +kernel
theorem dX6_digest_57 : decode cX6_digest 57 = .ok (.ldc2_w 217, 3) := by decide +kernel
theorem dX6_digest_60 : decode cX6_digest 60 = .ok (.lload_n 1, 1) := by decide +kernel
theorem dX6_digest_61 : decode cX6_digest 61 = .ok (.lmul, 1) := by decide +kernel
theorem dX6_digest_62 : decode cX6_digest 62 = .ok (.aload_n 0, 1) := by decide +kernel
theorem dX6_digest_63 : decode cX6_digest 63 = .ok (.iload_n 3, 1) := by decide +kernel
theorem dX6_digest_64 : decode cX6_digest 64 = .ok (.iload 4, 2) := by decide +kernel
theorem dX6_digest_66 : decode cX6_digest 66 = .ok (.invokevirtual 127, 3) := by decide +kernel
theorem dX6_digest_69 : decode cX6_digest 69 = .ok (.i2l, 1) := by decide +kernel
theorem dX6_digest_70 : decode cX6_digest 70 = .ok (.ladd, 1) := by decide +kernel
theorem dX6_digest_71 : decode cX6_digest 71 = .ok (.lstore_n 1, 1) := by decide +kernel
theorem dX6_digest_72 : decode cX6_digest 72 = .ok (.iinc 4 1, 3) := by decide +kernel
theorem dX6_digest_75 : decode cX6_digest 75 = .ok (.goto (-24), 3) := by decide +kernel
theorem dX6_digest_78 : decode cX6_digest 78 = .ok (.iinc 3 1, 3) := by decide +kernel
theorem dX6_digest_81 : decode cX6_digest 81 = .ok (.goto (-44), 3) := by decide +kernel
theorem dX6_digest_84 : decode cX6_digest 84 = .ok (.ldc2_w 217, 3) := by decide +kernel
theorem dX6_digest_87 : decode cX6_digest 87 = .ok (.lload_n 1, 1) := by decide +kernel
theorem dX6_digest_88 : decode cX6_digest 88 = .ok (.lmul, 1) := by decide +kernel
theorem dX6_digest_89 : decode cX6_digest 89 = .ok (.aload_n 0, 1) := by decide +kernel
theorem dX6_digest_90 : decode cX6_digest 90 = .ok (.getfield 55, 3) := by decide +kernel
theorem dX6_digest_93 : decode cX6_digest 93 = .ok (.i2l, 1) := by decide +kernel
theorem dX6_digest_94 : decode cX6_digest 94 = .ok (.ladd, 1) := by decide +kernel
theorem dX6_digest_95 : decode cX6_digest 95 = .ok (.lstore_n 1, 1) := by decide +kernel
theorem dX6_digest_96 : decode cX6_digest 96 = .ok (.ldc2_w 217, 3) := by decide +kernel
theorem dX6_digest_99 : decode cX6_digest 99 = .ok (.lload_n 1, 1) := by decide +kernel
theorem dX6_digest_100 : decode cX6_digest 100 = .ok (.lmul, 1) := by decide +kernel
theorem dX6_digest_101 : decode cX6_digest 101 = .ok (.aload_n 0, 1) := by decide +kernel
theorem dX6_digest_102 : decode cX6_digest 102 = .ok (.getfield 59, 3) := by decide +kernel
theorem dX6_digest_105 : decode cX6_digest 105 = .ok (.i2l, 1) := by decide +kernel
theorem dX6_digest_106 : decode cX6_digest 106 = .ok (.ladd, 1) := by decide +kernel
theorem dX6_digest_107 : decode cX6_digest 107 = .ok (.lstore_n 1, 1) := by decide +kernel
theorem dX6_digest_108 : decode cX6_digest 108 = .ok (.iconst 0, 1) := by decide +kernel
theorem dX6_digest_109 : decode cX6_digest 109 = .ok (.istore_n 3, 1) := by decide +kernel
theorem dX6_digest_110 : decode cX6_digest 110 = .ok (.iload_n 3, 1) := by decide +kernel
theorem dX6_digest_111 : decode cX6_digest 111 = .ok (.iconst 2, 1) := by decide +kernel
theorem dX6_digest_112 : decode cX6_digest 112 = .ok (.if_icmp .gt 22, 3) := by decide +kernel
theorem dX6_digest_115 : decode cX6_digest 115 = .ok (.ldc2_w 217, 3) := by decide +kernel
theorem dX6_digest_118 : decode cX6_digest 118 = .ok (.lload_n 1, 1) := by decide +kernel
theorem dX6_digest_119 : decode cX6_digest 119 = .ok (.lmul, 1) := by decide +kernel
theorem dX6_digest_120 : decode cX6_digest 120 = .ok (.aload_n 0, 1) := by decide +kernel
theorem dX6_digest_121 : decode cX6_digest 121 = .ok (.iload_n 3, 1) := by decide +kernel
theorem dX6_digest_122 : decode cX6_digest 122 = .ok (.invokevirtual 146, 3) := by decide +kernel
theorem dX6_digest_125 : decode cX6_digest 125 = .ok (.i2l, 1) := by decide +kernel
theorem dX6_digest_126 : decode cX6_digest 126 = .ok (.ladd, 1) := by decide +kernel
theorem dX6_digest_127 : decode cX6_digest 127 = .ok (.lstore_n 1, 1) := by decide +kernel
theorem dX6_digest_128 : decode cX6_digest 128 = .ok (.iinc 3 1, 3) := by decide +kernel
theorem dX6_digest_131 : decode cX6_digest 131 = .ok (.goto (-21), 3) := by decide +kernel
theorem dX6_digest_134 : decode cX6_digest 134 = .ok (.aload_n 0, 1) := by decide +kernel
theorem dX6_digest_135 : decode cX6_digest 135 = .ok (.getfield 40, 3) := by decide +kernel
theorem dX6_digest_138 : decode cX6_digest 138 = .ok (.aload_n 0, 1) := by decide +kernel
theorem dX6_digest_139 : decode cX6_digest 139 = .ok (.getfield 10, 3) := by decide +kernel
theorem dX6_digest_142 : decode cX6_digest 142 = .ok (.aload_n 0, 1) := by decide +kernel
theorem dX6_digest_143 : decode cX6_digest 143 = .ok (.getfield 26, 3) := by decide +kernel
theorem dX6_digest_146 : decode cX6_digest 146 = .ok (.aload_n 0, 1) := by decide +kernel
theorem dX6_digest_147 : decode cX6_digest 147 = .ok (.getfield 10, 3) := by decide +kernel
theorem dX6_digest_150 : decode cX6_digest 150 = .ok (.getfield 99, 3) := by decide +kernel
theorem dX6_digest_153 : decode cX6_digest 153 = .ok (.sipush 400, 3) := by decide +kernel
theorem dX6_digest_156 : decode cX6_digest 156 = .ok (.invokevirtual 165, 3) := by decide +kernel
theorem dX6_digest_159 : decode cX6_digest 159 = .ok (.iconst 0, 1) := by decide +kernel
theorem dX6_digest_160 : decode cX6_digest 160 = .ok (.istore_n 3, 1) := by decide +kernel
theorem dX6_digest_161 : decode cX6_digest 161 = .ok (.iload_n 3, 1) := by decide +kernel
theorem dX6_digest_162 : decode cX6_digest 162 = .ok (.iconst 2, 1) := by decide +kernel
theorem dX6_digest_163 : decode cX6_digest 163 = .ok (.if_icmp .gt 22, 3) := by decide +kernel
theorem dX6_digest_166 : decode cX6_digest 166 = .ok (.ldc2_w 217, 3) := by decide +kernel
theorem dX6_digest_169 : decode cX6_digest 169 = .ok (.lload_n 1, 1) := by decide +kernel
theorem dX6_digest_170 : decode cX6_digest 170 = .ok (.lmul, 1) := by decide +kernel
theorem dX6_digest_171 : decode cX6_digest 171 = .ok (.aload_n 0, 1) := by decide +kernel
theorem dX6_digest_172 : decode cX6_digest 172 = .ok (.iload_n 3, 1) := by decide +kernel
theorem dX6_digest_173 : decode cX6_digest 173 = .ok (.invokevirtual 169, 3) := by decide +kernel
theorem dX6_digest_176 : decode cX6_digest 176 = .ok (.i2l, 1) := by decide +kernel
theorem dX6_digest_177 : decode cX6_digest 177 = .ok (.ladd, 1) := by decide +kernel
theorem dX6_digest_178 : decode cX6_digest 178 = .ok (.lstore_n 1, 1) := by decide +kernel
theorem dX6_digest_179 : decode cX6_digest 179 = .ok (.iinc 3 1, 3) := by decide +kernel
theorem dX6_digest_182 : decode cX6_digest 182 = .ok (.goto (-21), 3) := by decide +kernel
theorem dX6_digest_185 : decode cX6_digest 185 = .ok (.lload_n 1, 1) := by decide +kernel
theorem dX6_digest_186 : decode cX6_digest 186 = .ok (.lreturn, 1) := by decide +kernel
theorem dX6_refuse_0 : decode cX6_refuse 0 = .ok (.bipush (-2), 2) := by decide +kernel
theorem dX6_refuse_2 : decode cX6_refuse 2 = .ok (.iload_n 1, 1) := by decide +kernel
theorem dX6_refuse_3 : decode cX6_refuse 3 = .ok (.isub, 1) := by decide +kernel
theorem dX6_refuse_4 : decode cX6_refuse 4 = .ok (.istore_n 2, 1) := by decide +kernel
theorem dX6_refuse_5 : decode cX6_refuse 5 = .ok (.iload_n 2, 1) := by decide +kernel
theorem dX6_refuse_6 : decode cX6_refuse 6 = .ok (.ifCond .lt 22, 3) := by decide +kernel
theorem dX6_refuse_9 : decode cX6_refuse 9 = .ok (.iload_n 2, 1) := by decide +kernel
theorem dX6_refuse_10 : decode cX6_refuse 10 = .ok (.aload_n 0, 1) := by decide +kernel
theorem dX6_refuse_11 : decode cX6_refuse 11 = .ok (.getfield 51, 3) := by decide +kernel
theorem dX6_refuse_14 : decode cX6_refuse 14 = .ok (.arraylength, 1) := by decide +kernel
theorem dX6_refuse_15 : decode cX6_refuse 15 = .ok (.if_icmp .ge 13, 3) := by decide +kernel
theorem dX6_refuse_18 : decode cX6_refuse 18 = .ok (.aload_n 0, 1) := by decide +kernel
theorem dX6_refuse_19 : decode cX6_refuse 19 = .ok (.getfield 51, 3) := by decide +kernel
theorem dX6_refuse_22 : decode cX6_refuse 22 = .ok (.iload_n 2, 1) := by decide +kernel
theorem dX6_refuse_23 : decode cX6_refuse 23 = .ok (.dup2, 1) := by decide +kernel
theorem dX6_refuse_24 : decode cX6_refuse 24 = .ok (.iaload, 1) := by decide +kernel
theorem dX6_refuse_25 : decode cX6_refuse 25 = .ok (.iconst 1, 1) := by decide +kernel
theorem dX6_refuse_26 : decode cX6_refuse 26 = .ok (.iadd, 1) := by decide +kernel
theorem dX6_refuse_27 : decode cX6_refuse 27 = .ok (.iastore, 1) := by decide +kernel
theorem dX6_refuse_28 : decode cX6_refuse 28 = .ok (.iload_n 1, 1) := by decide +kernel
theorem dX6_refuse_29 : decode cX6_refuse 29 = .ok (.ireturn, 1) := by decide +kernel
theorem dX6_nameOf_0 : decode cX6_nameOf 0 = .ok (.iload_n 0, 1) := by decide +kernel
theorem dX6_nameOf_1 : decode cX6_nameOf 1 = .ok (.iconst 4, 1) := by decide +kernel
theorem dX6_nameOf_2 : decode cX6_nameOf 2 = .ok (.idiv, 1) := by decide +kernel
theorem dX6_nameOf_3 : decode cX6_nameOf 3 = .ok (.bipush 10, 2) := by decide +kernel
theorem dX6_nameOf_5 : decode cX6_nameOf 5 = .ok (.imul, 1) := by decide +kernel
theorem dX6_nameOf_6 : decode cX6_nameOf 6 = .ok (.iload_n 0, 1) := by decide +kernel
theorem dX6_nameOf_7 : decode cX6_nameOf 7 = .ok (.iconst 4, 1) := by decide +kernel
theorem dX6_nameOf_8 : decode cX6_nameOf 8 = .ok (.irem, 1) := by decide +kernel
theorem dX6_nameOf_9 : decode cX6_nameOf 9 = .ok (.iadd, 1) := by decide +kernel
theorem dX6_nameOf_10 : decode cX6_nameOf 10 = .ok (.ireturn, 1) := by decide +kernel
theorem dX6_factOf_0 : decode cX6_factOf 0 = .ok (.iload_n 2, 1) := by decide +kernel
theorem dX6_factOf_1 : decode cX6_factOf 1 = .ok (.lookupswitch 53 #[(4, 27), (5, 37)], 27) := by decide +kernel
theorem dX6_factOf_28 : decode cX6_factOf 28 = .ok (.aload_n 0, 1) := by decide +kernel
theorem dX6_factOf_29 : decode cX6_factOf 29 = .ok (.getfield 26, 3) := by decide +kernel
theorem dX6_factOf_32 : decode cX6_factOf 32 = .ok (.getfield 130, 3) := by decide +kernel
theorem dX6_factOf_35 : decode cX6_factOf 35 = .ok (.iload_n 1, 1) := by decide +kernel
theorem dX6_factOf_36 : decode cX6_factOf 36 = .ok (.iaload, 1) := by decide +kernel
theorem dX6_factOf_37 : decode cX6_factOf 37 = .ok (.ireturn, 1) := by decide +kernel
theorem dX6_factOf_38 : decode cX6_factOf 38 = .ok (.aload_n 0, 1) := by decide +kernel
theorem dX6_factOf_39 : decode cX6_factOf 39 = .ok (.getfield 26, 3) := by decide +kernel
theorem dX6_factOf_42 : decode cX6_factOf 42 = .ok (.iload_n 1, 1) := by decide +kernel
theorem dX6_factOf_43 : decode cX6_factOf 43 = .ok (.aload_n 0, 1) := by decide +kernel
theorem dX6_factOf_44 : decode cX6_factOf 44 = .ok (.getfield 10, 3) := by decide +kernel
theorem dX6_factOf_47 : decode cX6_factOf 47 = .ok (.getfield 73, 3) := by decide +kernel
theorem dX6_factOf_50 : decode cX6_factOf 50 = .ok (.invokevirtual 222, 3) := by decide +kernel
theorem dX6_factOf_53 : decode cX6_factOf 53 = .ok (.ireturn, 1) := by decide +kernel
theorem dX6_factOf_54 : decode cX6_factOf 54 = .ok (.aload_n 0, 1) := by decide +kernel
theorem dX6_factOf_55 : decode cX6_factOf 55 = .ok (.getfield 10, 3) := by decide +kernel
theorem dX6_factOf_58 : decode cX6_factOf 58 = .ok (.iload_n 1, 1) := by decide +kernel
theorem dX6_factOf_59 : decode cX6_factOf 59 = .ok (.iload_n 2, 1) := by decide +kernel
theorem dX6_factOf_60 : decode cX6_factOf 60 = .ok (.invokevirtual 88, 3) := by decide +kernel
theorem dX6_factOf_63 : decode cX6_factOf 63 = .ok (.ireturn, 1) := by decide +kernel
theorem dX6_tallyWays_0 : decode cX6_tallyWays 0 = .ok (.aload_n 0, 1) := by decide +kernel
theorem dX6_tallyWays_1 : decode cX6_tallyWays 1 = .ok (.getfield 26, 3) := by decide +kernel
theorem dX6_tallyWays_4 : decode cX6_tallyWays 4 = .ok (.aload_n 0, 1) := by decide +kernel
theorem dX6_tallyWays_5 : decode cX6_tallyWays 5 = .ok (.getfield 10, 3) := by decide +kernel
theorem dX6_tallyWays_8 : decode cX6_tallyWays 8 = .ok (.invokevirtual 124, 3) := by decide +kernel
theorem dX6_tallyWays_11 : decode cX6_tallyWays 11 = .ok (.aload_n 0, 1) := by decide +kernel
theorem dX6_tallyWays_12 : decode cX6_tallyWays 12 = .ok (.getfield 33, 3) := by decide +kernel
theorem dX6_tallyWays_15 : decode cX6_tallyWays 15 = .ok (.invokevirtual 184, 3) := by decide +kernel
theorem dX6_tallyWays_18 : decode cX6_tallyWays 18 = .ok (.iconst 0, 1) := by decide +kernel
theorem dX6_tallyWays_19 : decode cX6_tallyWays 19 = .ok (.istore_n 1, 1) := by decide +kernel
theorem dX6_tallyWays_20 : decode cX6_tallyWays 20 = .ok (.iload_n 1, 1) := by decide +kernel
theorem dX6_tallyWays_21 : decode cX6_tallyWays 21 = .ok (.aload_n 0, 1) := by decide +kernel
theorem dX6_tallyWays_22 : decode cX6_tallyWays 22 = .ok (.getfield 10, 3) := by decide +kernel
theorem dX6_tallyWays_25 : decode cX6_tallyWays 25 = .ok (.getfield 73, 3) := by decide +kernel
theorem dX6_tallyWays_28 : decode cX6_tallyWays 28 = .ok (.if_icmp .ge 22, 3) := by decide +kernel
theorem dX6_tallyWays_31 : decode cX6_tallyWays 31 = .ok (.aload_n 0, 1) := by decide +kernel
theorem dX6_tallyWays_32 : decode cX6_tallyWays 32 = .ok (.getfield 33, 3) := by decide +kernel
theorem dX6_tallyWays_35 : decode cX6_tallyWays 35 = .ok (.aload_n 0, 1) := by decide +kernel
theorem dX6_tallyWays_36 : decode cX6_tallyWays 36 = .ok (.getfield 26, 3) := by decide +kernel
theorem dX6_tallyWays_39 : decode cX6_tallyWays 39 = .ok (.iload_n 1, 1) := by decide +kernel
theorem dX6_tallyWays_40 : decode cX6_tallyWays 40 = .ok (.iconst 1, 1) := by decide +kernel
theorem dX6_tallyWays_41 : decode cX6_tallyWays 41 = .ok (.invokevirtual 191, 3) := by decide +kernel
theorem dX6_tallyWays_44 : decode cX6_tallyWays 44 = .ok (.iinc 1 1, 3) := by decide +kernel
theorem dX6_tallyWays_47 : decode cX6_tallyWays 47 = .ok (.goto (-27), 3) := by decide +kernel
theorem dX6_tallyWays_50 : decode cX6_tallyWays 50 = .ok (.return_, 1) := by decide +kernel
theorem dX6_tallyMean_0 : decode cX6_tallyMean 0 = .ok (.aload_n 0, 1) := by decide +kernel
theorem dX6_tallyMean_1 : decode cX6_tallyMean 1 = .ok (.getfield 33, 3) := by decide +kernel
theorem dX6_tallyMean_4 : decode cX6_tallyMean 4 = .ok (.invokevirtual 184, 3) := by decide +kernel
theorem dX6_tallyMean_7 : decode cX6_tallyMean 7 = .ok (.iconst 0, 1) := by decide +kernel
theorem dX6_tallyMean_8 : decode cX6_tallyMean 8 = .ok (.istore_n 2, 1) := by decide +kernel
theorem dX6_tallyMean_9 : decode cX6_tallyMean 9 = .ok (.iload_n 2, 1) := by decide +kernel
theorem dX6_tallyMean_10 : decode cX6_tallyMean 10 = .ok (.aload_n 0, 1) := by decide +kernel
theorem dX6_tallyMean_11 : decode cX6_tallyMean 11 = .ok (.getfield 10, 3) := by decide +kernel
theorem dX6_tallyMean_14 : decode cX6_tallyMean 14 = .ok (.getfield 73, 3) := by decide +kernel
theorem dX6_tallyMean_17 : decode cX6_tallyMean 17 = .ok (.if_icmp .ge 63, 3) := by decide +kernel
theorem dX6_tallyMean_20 : decode cX6_tallyMean 20 = .ok (.iload_n 2, 1) := by decide +kernel
theorem dX6_tallyMean_21 : decode cX6_tallyMean 21 = .ok (.iload_n 1, 1) := by decide +kernel
theorem dX6_tallyMean_22 : decode cX6_tallyMean 22 = .ok (.if_icmp .ge 46, 3) := by decide +kernel
theorem dX6_tallyMean_25 : decode cX6_tallyMean 25 = .ok (.aload_n 0, 1) := by decide +kernel
theorem dX6_tallyMean_26 : decode cX6_tallyMean 26 = .ok (.getfield 26, 3) := by decide +kernel
theorem dX6_tallyMean_29 : decode cX6_tallyMean 29 = .ok (.aload_n 0, 1) := by decide +kernel
theorem dX6_tallyMean_30 : decode cX6_tallyMean 30 = .ok (.getfield 10, 3) := by decide +kernel
theorem dX6_tallyMean_33 : decode cX6_tallyMean 33 = .ok (.iload_n 2, 1) := by decide +kernel
theorem dX6_tallyMean_34 : decode cX6_tallyMean 34 = .ok (.aload_n 0, 1) := by decide +kernel
theorem dX6_tallyMean_35 : decode cX6_tallyMean 35 = .ok (.getfield 10, 3) := by decide +kernel
theorem dX6_tallyMean_38 : decode cX6_tallyMean 38 = .ok (.iload_n 2, 1) := by decide +kernel
theorem dX6_tallyMean_39 : decode cX6_tallyMean 39 = .ok (.iconst 2, 1) := by decide +kernel
theorem dX6_tallyMean_40 : decode cX6_tallyMean 40 = .ok (.invokevirtual 88, 3) := by decide +kernel
theorem dX6_tallyMean_43 : decode cX6_tallyMean 43 = .ok (.invokevirtual 187, 3) := by decide +kernel
theorem dX6_tallyMean_46 : decode cX6_tallyMean 46 = .ok (.aload_n 0, 1) := by decide +kernel
theorem dX6_tallyMean_47 : decode cX6_tallyMean 47 = .ok (.getfield 33, 3) := by decide +kernel
theorem dX6_tallyMean_50 : decode cX6_tallyMean 50 = .ok (.aload_n 0, 1) := by decide +kernel
theorem dX6_tallyMean_51 : decode cX6_tallyMean 51 = .ok (.getfield 26, 3) := by decide +kernel
theorem dX6_tallyMean_54 : decode cX6_tallyMean 54 = .ok (.iload_n 2, 1) := by decide +kernel
theorem dX6_tallyMean_55 : decode cX6_tallyMean 55 = .ok (.aload_n 0, 1) := by decide +kernel
theorem dX6_tallyMean_56 : decode cX6_tallyMean 56 = .ok (.getfield 10, 3) := by decide +kernel
theorem dX6_tallyMean_59 : decode cX6_tallyMean 59 = .ok (.invokevirtual 103, 3) := by decide +kernel
theorem dX6_tallyMean_62 : decode cX6_tallyMean 62 = .ok (.invokevirtual 191, 3) := by decide +kernel
theorem dX6_tallyMean_65 : decode cX6_tallyMean 65 = .ok (.goto 9, 3) := by decide +kernel
theorem dX6_tallyMean_68 : decode cX6_tallyMean 68 = .ok (.aload_n 0, 1) := by decide +kernel
theorem dX6_tallyMean_69 : decode cX6_tallyMean 69 = .ok (.iload_n 2, 1) := by decide +kernel
theorem dX6_tallyMean_70 : decode cX6_tallyMean 70 = .ok (.iconst 1, 1) := by decide +kernel
theorem dX6_tallyMean_71 : decode cX6_tallyMean 71 = .ok (.invokevirtual 225, 3) := by decide +kernel
theorem dX6_tallyMean_74 : decode cX6_tallyMean 74 = .ok (.iinc 2 1, 3) := by decide +kernel
theorem dX6_tallyMean_77 : decode cX6_tallyMean 77 = .ok (.goto (-68), 3) := by decide +kernel
theorem dX6_tallyMean_80 : decode cX6_tallyMean 80 = .ok (.return_, 1) := by decide +kernel
theorem dX6_addDrawn_0 : decode cX6_addDrawn 0 = .ok (.aload_n 0, 1) := by decide +kernel
theorem dX6_addDrawn_1 : decode cX6_addDrawn 1 = .ok (.getfield 10, 3) := by decide +kernel
theorem dX6_addDrawn_4 : decode cX6_addDrawn 4 = .ok (.invokevirtual 103, 3) := by decide +kernel
theorem dX6_addDrawn_7 : decode cX6_addDrawn 7 = .ok (.istore_n 3, 1) := by decide +kernel
theorem dX6_addDrawn_8 : decode cX6_addDrawn 8 = .ok (.iconst 0, 1) := by decide +kernel
theorem dX6_addDrawn_9 : decode cX6_addDrawn 9 = .ok (.istore 4, 2) := by decide +kernel
theorem dX6_addDrawn_11 : decode cX6_addDrawn 11 = .ok (.iload 4, 2) := by decide +kernel
theorem dX6_addDrawn_13 : decode cX6_addDrawn 13 = .ok (.iload_n 3, 1) := by decide +kernel
theorem dX6_addDrawn_14 : decode cX6_addDrawn 14 = .ok (.if_icmp .ge 36, 3) := by decide +kernel
theorem dX6_addDrawn_17 : decode cX6_addDrawn 17 = .ok (.aload_n 0, 1) := by decide +kernel
theorem dX6_addDrawn_18 : decode cX6_addDrawn 18 = .ok (.getfield 26, 3) := by decide +kernel
theorem dX6_addDrawn_21 : decode cX6_addDrawn 21 = .ok (.aload_n 0, 1) := by decide +kernel
theorem dX6_addDrawn_22 : decode cX6_addDrawn 22 = .ok (.getfield 10, 3) := by decide +kernel
theorem dX6_addDrawn_25 : decode cX6_addDrawn 25 = .ok (.iload_n 1, 1) := by decide +kernel
theorem dX6_addDrawn_26 : decode cX6_addDrawn 26 = .ok (.iload 4, 2) := by decide +kernel
theorem dX6_addDrawn_28 : decode cX6_addDrawn 28 = .ok (.invokevirtual 187, 3) := by decide +kernel
theorem dX6_addDrawn_31 : decode cX6_addDrawn 31 = .ok (.aload_n 0, 1) := by decide +kernel
theorem dX6_addDrawn_32 : decode cX6_addDrawn 32 = .ok (.getfield 33, 3) := by decide +kernel
theorem dX6_addDrawn_35 : decode cX6_addDrawn 35 = .ok (.aload_n 0, 1) := by decide +kernel
theorem dX6_addDrawn_36 : decode cX6_addDrawn 36 = .ok (.getfield 26, 3) := by decide +kernel
theorem dX6_addDrawn_39 : decode cX6_addDrawn 39 = .ok (.iload_n 1, 1) := by decide +kernel
theorem dX6_addDrawn_40 : decode cX6_addDrawn 40 = .ok (.iload_n 2, 1) := by decide +kernel
theorem dX6_addDrawn_41 : decode cX6_addDrawn 41 = .ok (.invokevirtual 191, 3) := by decide +kernel
theorem dX6_addDrawn_44 : decode cX6_addDrawn 44 = .ok (.iinc 4 1, 3) := by decide +kernel
theorem dX6_addDrawn_47 : decode cX6_addDrawn 47 = .ok (.goto (-36), 3) := by decide +kernel
theorem dX6_addDrawn_50 : decode cX6_addDrawn 50 = .ok (.return_, 1) := by decide +kernel
theorem dX6_chooseBetween_0 : decode cX6_chooseBetween 0 = .ok (.aload_n 0, 1) := by decide +kernel
theorem dX6_chooseBetween_1 : decode cX6_chooseBetween 1 = .ok (.iload_n 1, 1) := by decide +kernel
theorem dX6_chooseBetween_2 : decode cX6_chooseBetween 2 = .ok (.iconst (-1), 1) := by decide +kernel
theorem dX6_chooseBetween_3 : decode cX6_chooseBetween 3 = .ok (.invokevirtual 225, 3) := by decide +kernel
theorem dX6_chooseBetween_6 : decode cX6_chooseBetween 6 = .ok (.aload_n 0, 1) := by decide +kernel
theorem dX6_chooseBetween_7 : decode cX6_chooseBetween 7 = .ok (.getfield 10, 3) := by decide +kernel
theorem dX6_chooseBetween_10 : decode cX6_chooseBetween 10 = .ok (.invokevirtual 103, 3) := by decide +kernel
theorem dX6_chooseBetween_13 : decode cX6_chooseBetween 13 = .ok (.istore_n 2, 1) := by decide +kernel
theorem dX6_chooseBetween_14 : decode cX6_chooseBetween 14 = .ok (.iconst 0, 1) := by decide +kernel
theorem dX6_chooseBetween_15 : decode cX6_chooseBetween 15 = .ok (.istore_n 3, 1) := by decide +kernel
theorem dX6_chooseBetween_16 : decode cX6_chooseBetween 16 = .ok (.ldc 230, 2) := by decide +kernel
theorem dX6_chooseBetween_18 : decode cX6_chooseBetween 18 = .ok (.istore 4, 2) := by decide +kernel
theorem dX6_chooseBetween_20 : decode cX6_chooseBetween 20 = .ok (.ldc 230, 2) := by decide +kernel
theorem dX6_chooseBetween_22 : decode cX6_chooseBetween 22 = .ok (.istore 5, 2) := by decide +kernel
theorem dX6_chooseBetween_24 : decode cX6_chooseBetween 24 = .ok (.iconst 0, 1) := by decide +kernel
theorem dX6_chooseBetween_25 : decode cX6_chooseBetween 25 = .ok (.istore 6, 2) := by decide +kernel
theorem dX6_chooseBetween_27 : decode cX6_chooseBetween 27 = .ok (.iload 6, 2) := by decide +kernel
theorem dX6_chooseBetween_29 : decode cX6_chooseBetween 29 = .ok (.iload_n 2, 1) := by decide +kernel
theorem dX6_chooseBetween_30 : decode cX6_chooseBetween 30 = .ok (.if_icmp .ge 108, 3) := by decide +kernel
theorem dX6_chooseBetween_33 : decode cX6_chooseBetween 33 = .ok (.aload_n 0, 1) := by decide +kernel
theorem dX6_chooseBetween_34 : decode cX6_chooseBetween 34 = .ok (.getfield 26, 3) := by decide +kernel
theorem dX6_chooseBetween_37 : decode cX6_chooseBetween 37 = .ok (.aload_n 0, 1) := by decide +kernel
theorem dX6_chooseBetween_38 : decode cX6_chooseBetween 38 = .ok (.getfield 10, 3) := by decide +kernel
theorem dX6_chooseBetween_41 : decode cX6_chooseBetween 41 = .ok (.iload_n 1, 1) := by decide +kernel
theorem dX6_chooseBetween_42 : decode cX6_chooseBetween 42 = .ok (.iload 6, 2) := by decide +kernel
theorem dX6_chooseBetween_44 : decode cX6_chooseBetween 44 = .ok (.invokevirtual 187, 3) := by decide +kernel
theorem dX6_chooseBetween_47 : decode cX6_chooseBetween 47 = .ok (.aload_n 0, 1) := by decide +kernel
theorem dX6_chooseBetween_48 : decode cX6_chooseBetween 48 = .ok (.getfield 33, 3) := by decide +kernel
theorem dX6_chooseBetween_51 : decode cX6_chooseBetween 51 = .ok (.aload_n 0, 1) := by decide +kernel
theorem dX6_chooseBetween_52 : decode cX6_chooseBetween 52 = .ok (.getfield 26, 3) := by decide +kernel
theorem dX6_chooseBetween_55 : decode cX6_chooseBetween 55 = .ok (.iload_n 1, 1) := by decide +kernel
theorem dX6_chooseBetween_56 : decode cX6_chooseBetween 56 = .ok (.iload_n 2, 1) := by decide +kernel
theorem dX6_chooseBetween_57 : decode cX6_chooseBetween 57 = .ok (.invokevirtual 191, 3) := by decide +kernel
theorem dX6_chooseBetween_60 : decode cX6_chooseBetween 60 = .ok (.aload_n 0, 1) := by decide +kernel
theorem dX6_chooseBetween_61 : decode cX6_chooseBetween 61 = .ok (.getfield 33, 3) := by decide +kernel
theorem dX6_chooseBetween_64 : decode cX6_chooseBetween 64 = .ok (.getfield 143, 3) := by decide +kernel
theorem dX6_chooseBetween_67 : decode cX6_chooseBetween 67 = .ok (.aload_n 0, 1) := by decide +kernel
theorem dX6_chooseBetween_68 : decode cX6_chooseBetween 68 = .ok (.getfield 33, 3) := by decide +kernel
theorem dX6_chooseBetween_71 : decode cX6_chooseBetween 71 = .ok (.invokevirtual 156, 3) := by decide +kernel
theorem dX6_chooseBetween_74 : decode cX6_chooseBetween 74 = .ok (.iaload, 1) := by decide +kernel
theorem dX6_chooseBetween_75 : decode cX6_chooseBetween 75 = .ok (.istore 7, 2) := by decide +kernel
theorem dX6_chooseBetween_77 : decode cX6_chooseBetween 77 = .ok (.aload_n 0, 1) := by decide +kernel
theorem dX6_chooseBetween_78 : decode cX6_chooseBetween 78 = .ok (.getfield 33, 3) := by decide +kernel
theorem dX6_chooseBetween_81 : decode cX6_chooseBetween 81 = .ok (.invokevirtual 231, 3) := by decide +kernel
theorem dX6_chooseBetween_84 : decode cX6_chooseBetween 84 = .ok (.istore 8, 2) := by decide +kernel
theorem dX6_chooseBetween_86 : decode cX6_chooseBetween 86 = .ok (.iload 7, 2) := by decide +kernel
theorem dX6_chooseBetween_88 : decode cX6_chooseBetween 88 = .ok (.iload 4, 2) := by decide +kernel
theorem dX6_chooseBetween_90 : decode cX6_chooseBetween 90 = .ok (.if_icmp .lt 17, 3) := by decide +kernel
theorem dX6_chooseBetween_93 : decode cX6_chooseBetween 93 = .ok (.iload 7, 2) := by decide +kernel
theorem dX6_chooseBetween_95 : decode cX6_chooseBetween 95 = .ok (.iload 4, 2) := by decide +kernel
theorem dX6_chooseBetween_97 : decode cX6_chooseBetween 97 = .ok (.if_icmp .ne 21, 3) := by decide +kernel
theorem dX6_chooseBetween_100 : decode cX6_chooseBetween 100 = .ok (.iload 8, 2) := by decide +kernel
theorem dX6_chooseBetween_102 : decode cX6_chooseBetween 102 = .ok (.iload 5, 2) := by decide +kernel
theorem dX6_chooseBetween_104 : decode cX6_chooseBetween 104 = .ok (.if_icmp .ge 14, 3) := by decide +kernel
theorem dX6_chooseBetween_107 : decode cX6_chooseBetween 107 = .ok (.iload 6, 2) := by decide +kernel
theorem dX6_chooseBetween_109 : decode cX6_chooseBetween 109 = .ok (.istore_n 3, 1) := by decide +kernel
theorem dX6_chooseBetween_110 : decode cX6_chooseBetween 110 = .ok (.iload 7, 2) := by decide +kernel
theorem dX6_chooseBetween_112 : decode cX6_chooseBetween 112 = .ok (.istore 4, 2) := by decide +kernel
theorem dX6_chooseBetween_114 : decode cX6_chooseBetween 114 = .ok (.iload 8, 2) := by decide +kernel
theorem dX6_chooseBetween_116 : decode cX6_chooseBetween 116 = .ok (.istore 5, 2) := by decide +kernel
theorem dX6_chooseBetween_118 : decode cX6_chooseBetween 118 = .ok (.aload_n 0, 1) := by decide +kernel
theorem dX6_chooseBetween_119 : decode cX6_chooseBetween 119 = .ok (.getfield 33, 3) := by decide +kernel
theorem dX6_chooseBetween_122 : decode cX6_chooseBetween 122 = .ok (.aload_n 0, 1) := by decide +kernel
theorem dX6_chooseBetween_123 : decode cX6_chooseBetween 123 = .ok (.getfield 26, 3) := by decide +kernel
theorem dX6_chooseBetween_126 : decode cX6_chooseBetween 126 = .ok (.iload_n 1, 1) := by decide +kernel
theorem dX6_chooseBetween_127 : decode cX6_chooseBetween 127 = .ok (.iload_n 2, 1) := by decide +kernel
theorem dX6_chooseBetween_128 : decode cX6_chooseBetween 128 = .ok (.ineg, 1) := by decide +kernel
theorem dX6_chooseBetween_129 : decode cX6_chooseBetween 129 = .ok (.invokevirtual 191, 3) := by decide +kernel
theorem dX6_chooseBetween_132 : decode cX6_chooseBetween 132 = .ok (.iinc 6 1, 3) := by decide +kernel
theorem dX6_chooseBetween_135 : decode cX6_chooseBetween 135 = .ok (.goto (-108), 3) := by decide +kernel
theorem dX6_chooseBetween_138 : decode cX6_chooseBetween 138 = .ok (.aload_n 0, 1) := by decide +kernel
theorem dX6_chooseBetween_139 : decode cX6_chooseBetween 139 = .ok (.getfield 10, 3) := by decide +kernel
theorem dX6_chooseBetween_142 : decode cX6_chooseBetween 142 = .ok (.iload_n 1, 1) := by decide +kernel
theorem dX6_chooseBetween_143 : decode cX6_chooseBetween 143 = .ok (.iconst 2, 1) := by decide +kernel
theorem dX6_chooseBetween_144 : decode cX6_chooseBetween 144 = .ok (.iload_n 3, 1) := by decide +kernel
theorem dX6_chooseBetween_145 : decode cX6_chooseBetween 145 = .ok (.invokevirtual 92, 3) := by decide +kernel
theorem dX6_chooseBetween_148 : decode cX6_chooseBetween 148 = .ok (.aload_n 0, 1) := by decide +kernel
theorem dX6_chooseBetween_149 : decode cX6_chooseBetween 149 = .ok (.getfield 26, 3) := by decide +kernel
theorem dX6_chooseBetween_152 : decode cX6_chooseBetween 152 = .ok (.aload_n 0, 1) := by decide +kernel
theorem dX6_chooseBetween_153 : decode cX6_chooseBetween 153 = .ok (.getfield 10, 3) := by decide +kernel
theorem dX6_chooseBetween_156 : decode cX6_chooseBetween 156 = .ok (.iload_n 1, 1) := by decide +kernel
theorem dX6_chooseBetween_157 : decode cX6_chooseBetween 157 = .ok (.iload_n 3, 1) := by decide +kernel
theorem dX6_chooseBetween_158 : decode cX6_chooseBetween 158 = .ok (.invokevirtual 187, 3) := by decide +kernel
theorem dX6_chooseBetween_161 : decode cX6_chooseBetween 161 = .ok (.aload_n 0, 1) := by decide +kernel
theorem dX6_chooseBetween_162 : decode cX6_chooseBetween 162 = .ok (.getfield 33, 3) := by decide +kernel
theorem dX6_chooseBetween_165 : decode cX6_chooseBetween 165 = .ok (.aload_n 0, 1) := by decide +kernel
theorem dX6_chooseBetween_166 : decode cX6_chooseBetween 166 = .ok (.getfield 26, 3) := by decide +kernel
theorem dX6_chooseBetween_169 : decode cX6_chooseBetween 169 = .ok (.iload_n 1, 1) := by decide +kernel
theorem dX6_chooseBetween_170 : decode cX6_chooseBetween 170 = .ok (.iload_n 2, 1) := by decide +kernel
theorem dX6_chooseBetween_171 : decode cX6_chooseBetween 171 = .ok (.invokevirtual 191, 3) := by decide +kernel
theorem dX6_chooseBetween_174 : decode cX6_chooseBetween 174 = .ok (.return_, 1) := by decide +kernel
theorem dX6_setFraction_0 : decode cX6_setFraction 0 = .ok (.aload_n 0, 1) := by decide +kernel
theorem dX6_setFraction_1 : decode cX6_setFraction 1 = .ok (.iload_n 1, 1) := by decide +kernel
theorem dX6_setFraction_2 : decode cX6_setFraction 2 = .ok (.putfield 55, 3) := by decide +kernel
theorem dX6_setFraction_5 : decode cX6_setFraction 5 = .ok (.aload_n 0, 1) := by decide +kernel
theorem dX6_setFraction_6 : decode cX6_setFraction 6 = .ok (.aload_n 0, 1) := by decide +kernel
theorem dX6_setFraction_7 : decode cX6_setFraction 7 = .ok (.getfield 10, 3) := by decide +kernel
theorem dX6_setFraction_10 : decode cX6_setFraction 10 = .ok (.invokevirtual 103, 3) := by decide +kernel
theorem dX6_setFraction_13 : decode cX6_setFraction 13 = .ok (.putfield 59, 3) := by decide +kernel
theorem dX6_setFraction_16 : decode cX6_setFraction 16 = .ok (.iconst 0, 1) := by decide +kernel
theorem dX6_setFraction_17 : decode cX6_setFraction 17 = .ok (.istore_n 2, 1) := by decide +kernel
theorem dX6_setFraction_18 : decode cX6_setFraction 18 = .ok (.iload_n 2, 1) := by decide +kernel
theorem dX6_setFraction_19 : decode cX6_setFraction 19 = .ok (.iconst 4, 1) := by decide +kernel
theorem dX6_setFraction_20 : decode cX6_setFraction 20 = .ok (.if_icmp .ge 46, 3) := by decide +kernel
theorem dX6_setFraction_23 : decode cX6_setFraction 23 = .ok (.aload_n 0, 1) := by decide +kernel
theorem dX6_setFraction_24 : decode cX6_setFraction 24 = .ok (.getfield 59, 3) := by decide +kernel
theorem dX6_setFraction_27 : decode cX6_setFraction 27 = .ok (.iconst 1, 1) := by decide +kernel
theorem dX6_setFraction_28 : decode cX6_setFraction 28 = .ok (.if_icmp .le 38, 3) := by decide +kernel
theorem dX6_setFraction_31 : decode cX6_setFraction 31 = .ok (.aload_n 0, 1) := by decide +kernel
theorem dX6_setFraction_32 : decode cX6_setFraction 32 = .ok (.getfield 55, 3) := by decide +kernel
theorem dX6_setFraction_35 : decode cX6_setFraction 35 = .ok (.iconst 2, 1) := by decide +kernel
theorem dX6_setFraction_36 : decode cX6_setFraction 36 = .ok (.irem, 1) := by decide +kernel
theorem dX6_setFraction_37 : decode cX6_setFraction 37 = .ok (.ifCond .ne 29, 3) := by decide +kernel
theorem dX6_setFraction_40 : decode cX6_setFraction 40 = .ok (.aload_n 0, 1) := by decide +kernel
theorem dX6_setFraction_41 : decode cX6_setFraction 41 = .ok (.dup, 1) := by decide +kernel
theorem dX6_setFraction_42 : decode cX6_setFraction 42 = .ok (.getfield 55, 3) := by decide +kernel
theorem dX6_setFraction_45 : decode cX6_setFraction 45 = .ok (.iconst 2, 1) := by decide +kernel
theorem dX6_setFraction_46 : decode cX6_setFraction 46 = .ok (.idiv, 1) := by decide +kernel
theorem dX6_setFraction_47 : decode cX6_setFraction 47 = .ok (.putfield 55, 3) := by decide +kernel
theorem dX6_setFraction_50 : decode cX6_setFraction 50 = .ok (.aload_n 0, 1) := by decide +kernel
theorem dX6_setFraction_51 : decode cX6_setFraction 51 = .ok (.dup, 1) := by decide +kernel
theorem dX6_setFraction_52 : decode cX6_setFraction 52 = .ok (.getfield 59, 3) := by decide +kernel
theorem dX6_setFraction_55 : decode cX6_setFraction 55 = .ok (.iconst 2, 1) := by decide +kernel
theorem dX6_setFraction_56 : decode cX6_setFraction 56 = .ok (.idiv, 1) := by decide +kernel
theorem dX6_setFraction_57 : decode cX6_setFraction 57 = .ok (.putfield 59, 3) := by decide +kernel
theorem dX6_setFraction_60 : decode cX6_setFraction 60 = .ok (.iinc 2 1, 3) := by decide +kernel
theorem dX6_setFraction_63 : decode cX6_setFraction 63 = .ok (.goto (-45), 3) := by decide +kernel
theorem dX6_setFraction_66 : decode cX6_setFraction 66 = .ok (.return_, 1) := by decide +kernel
theorem dX6_loadsFact_0 : decode cX6_loadsFact 0 = .ok (.aload_n 0, 1) := by decide +kernel
theorem dX6_loadsFact_1 : decode cX6_loadsFact 1 = .ok (.getfield 33, 3) := by decide +kernel
theorem dX6_loadsFact_4 : decode cX6_loadsFact 4 = .ok (.invokevirtual 156, 3) := by decide +kernel
theorem dX6_loadsFact_7 : decode cX6_loadsFact 7 = .ok (.istore_n 2, 1) := by decide +kernel
theorem dX6_loadsFact_8 : decode cX6_loadsFact 8 = .ok (.aload_n 0, 1) := by decide +kernel
theorem dX6_loadsFact_9 : decode cX6_loadsFact 9 = .ok (.getfield 33, 3) := by decide +kernel
theorem dX6_loadsFact_12 : decode cX6_loadsFact 12 = .ok (.getfield 143, 3) := by decide +kernel
theorem dX6_loadsFact_15 : decode cX6_loadsFact 15 = .ok (.iload_n 2, 1) := by decide +kernel
theorem dX6_loadsFact_16 : decode cX6_loadsFact 16 = .ok (.iaload, 1) := by decide +kernel
theorem dX6_loadsFact_17 : decode cX6_loadsFact 17 = .ok (.istore_n 3, 1) := by decide +kernel
theorem dX6_loadsFact_18 : decode cX6_loadsFact 18 = .ok (.iload_n 1, 1) := by decide +kernel
theorem dX6_loadsFact_19 : decode cX6_loadsFact 19 = .ok (.tableswitch 53 0 2 #[25, 27, 40], 25) := by decide +kernel
theorem dX6_loadsFact_44 : decode cX6_loadsFact 44 = .ok (.iload_n 3, 1) := by decide +kernel
theorem dX6_loadsFact_45 : decode cX6_loadsFact 45 = .ok (.ireturn, 1) := by decide +kernel
theorem dX6_loadsFact_46 : decode cX6_loadsFact 46 = .ok (.aload_n 0, 1) := by decide +kernel
theorem dX6_loadsFact_47 : decode cX6_loadsFact 47 = .ok (.getfield 33, 3) := by decide +kernel
theorem dX6_loadsFact_50 : decode cX6_loadsFact 50 = .ok (.iload_n 3, 1) := by decide +kernel
theorem dX6_loadsFact_51 : decode cX6_loadsFact 51 = .ok (.aload_n 0, 1) := by decide +kernel
theorem dX6_loadsFact_52 : decode cX6_loadsFact 52 = .ok (.getfield 10, 3) := by decide +kernel
theorem dX6_loadsFact_55 : decode cX6_loadsFact 55 = .ok (.invokevirtual 234, 3) := by decide +kernel
theorem dX6_loadsFact_58 : decode cX6_loadsFact 58 = .ok (.ireturn, 1) := by decide +kernel
theorem dX6_loadsFact_59 : decode cX6_loadsFact 59 = .ok (.aload_n 0, 1) := by decide +kernel
theorem dX6_loadsFact_60 : decode cX6_loadsFact 60 = .ok (.getfield 33, 3) := by decide +kernel
theorem dX6_loadsFact_63 : decode cX6_loadsFact 63 = .ok (.iconst 1, 1) := by decide +kernel
theorem dX6_loadsFact_64 : decode cX6_loadsFact 64 = .ok (.aload_n 0, 1) := by decide +kernel
theorem dX6_loadsFact_65 : decode cX6_loadsFact 65 = .ok (.getfield 10, 3) := by decide +kernel
theorem dX6_loadsFact_68 : decode cX6_loadsFact 68 = .ok (.invokevirtual 234, 3) := by decide +kernel
theorem dX6_loadsFact_71 : decode cX6_loadsFact 71 = .ok (.ireturn, 1) := by decide +kernel
theorem dX6_loadsFact_72 : decode cX6_loadsFact 72 = .ok (.iload_n 3, 1) := by decide +kernel
theorem dX6_loadsFact_73 : decode cX6_loadsFact 73 = .ok (.ifCond .ne 7, 3) := by decide +kernel
theorem dX6_loadsFact_76 : decode cX6_loadsFact 76 = .ok (.iconst (-1), 1) := by decide +kernel
theorem dX6_loadsFact_77 : decode cX6_loadsFact 77 = .ok (.goto 7, 3) := by decide +kernel
theorem dX6_loadsFact_80 : decode cX6_loadsFact 80 = .ok (.iload_n 2, 1) := by decide +kernel
theorem dX6_loadsFact_81 : decode cX6_loadsFact 81 = .ok (.invokestatic 159, 3) := by decide +kernel
theorem dX6_loadsFact_84 : decode cX6_loadsFact 84 = .ok (.ireturn, 1) := by decide +kernel
theorem dX6_runFact_0 : decode cX6_runFact 0 = .ok (.aload_n 0, 1) := by decide +kernel
theorem dX6_runFact_1 : decode cX6_runFact 1 = .ok (.getfield 40, 3) := by decide +kernel
theorem dX6_runFact_4 : decode cX6_runFact 4 = .ok (.aload_n 0, 1) := by decide +kernel
theorem dX6_runFact_5 : decode cX6_runFact 5 = .ok (.getfield 10, 3) := by decide +kernel
theorem dX6_runFact_8 : decode cX6_runFact 8 = .ok (.getfield 73, 3) := by decide +kernel
theorem dX6_runFact_11 : decode cX6_runFact 11 = .ok (.invokevirtual 238, 3) := by decide +kernel
theorem dX6_runFact_14 : decode cX6_runFact 14 = .ok (.istore_n 2, 1) := by decide +kernel
theorem dX6_runFact_15 : decode cX6_runFact 15 = .ok (.iload_n 1, 1) := by decide +kernel
theorem dX6_runFact_16 : decode cX6_runFact 16 = .ok (.tableswitch 76 0 3 #[32, 40, 55, 74], 32) := by decide +kernel
theorem dX6_runFact_48 : decode cX6_runFact 48 = .ok (.aload_n 0, 1) := by decide +kernel
theorem dX6_runFact_49 : decode cX6_runFact 49 = .ok (.getfield 40, 3) := by decide +kernel
theorem dX6_runFact_52 : decode cX6_runFact 52 = .ok (.getfield 181, 3) := by decide +kernel
theorem dX6_runFact_55 : decode cX6_runFact 55 = .ok (.ireturn, 1) := by decide +kernel
theorem dX6_runFact_56 : decode cX6_runFact 56 = .ok (.aload_n 0, 1) := by decide +kernel
theorem dX6_runFact_57 : decode cX6_runFact 57 = .ok (.getfield 40, 3) := by decide +kernel
theorem dX6_runFact_60 : decode cX6_runFact 60 = .ok (.aload_n 0, 1) := by decide +kernel
theorem dX6_runFact_61 : decode cX6_runFact 61 = .ok (.getfield 10, 3) := by decide +kernel
theorem dX6_runFact_64 : decode cX6_runFact 64 = .ok (.getfield 73, 3) := by decide +kernel
theorem dX6_runFact_67 : decode cX6_runFact 67 = .ok (.invokevirtual 241, 3) := by decide +kernel
theorem dX6_runFact_70 : decode cX6_runFact 70 = .ok (.ireturn, 1) := by decide +kernel
theorem dX6_runFact_71 : decode cX6_runFact 71 = .ok (.iload_n 2, 1) := by decide +kernel
theorem dX6_runFact_72 : decode cX6_runFact 72 = .ok (.iconst (-1), 1) := by decide +kernel
theorem dX6_runFact_73 : decode cX6_runFact 73 = .ok (.if_icmp .ne 7, 3) := by decide +kernel
theorem dX6_runFact_76 : decode cX6_runFact 76 = .ok (.iconst 0, 1) := by decide +kernel
theorem dX6_runFact_77 : decode cX6_runFact 77 = .ok (.goto 12, 3) := by decide +kernel
theorem dX6_runFact_80 : decode cX6_runFact 80 = .ok (.aload_n 0, 1) := by decide +kernel
theorem dX6_runFact_81 : decode cX6_runFact 81 = .ok (.getfield 40, 3) := by decide +kernel
theorem dX6_runFact_84 : decode cX6_runFact 84 = .ok (.getfield 175, 3) := by decide +kernel
theorem dX6_runFact_87 : decode cX6_runFact 87 = .ok (.iload_n 2, 1) := by decide +kernel
theorem dX6_runFact_88 : decode cX6_runFact 88 = .ok (.iaload, 1) := by decide +kernel
theorem dX6_runFact_89 : decode cX6_runFact 89 = .ok (.ireturn, 1) := by decide +kernel
theorem dX6_runFact_90 : decode cX6_runFact 90 = .ok (.iload_n 2, 1) := by decide +kernel
theorem dX6_runFact_91 : decode cX6_runFact 91 = .ok (.ireturn, 1) := by decide +kernel
theorem dX6_runFact_92 : decode cX6_runFact 92 = .ok (.aload_n 0, 1) := by decide +kernel
theorem dX6_runFact_93 : decode cX6_runFact 93 = .ok (.getfield 40, 3) := by decide +kernel
theorem dX6_runFact_96 : decode cX6_runFact 96 = .ok (.getfield 244, 3) := by decide +kernel
theorem dX6_runFact_99 : decode cX6_runFact 99 = .ok (.ireturn, 1) := by decide +kernel
theorem dX7_init_0 : decode cX7_init 0 = .ok (.aload_n 0, 1) := by decide +kernel
theorem dX7_init_1 : decode cX7_init 1 = .ok (.invokespecial 1, 3) := by decide +kernel
theorem dX7_init_4 : decode cX7_init 4 = .ok (.aload_n 0, 1) := by decide +kernel
theorem dX7_init_5 : decode cX7_init 5 = .ok (.iconst 3, 1) := by decide +kernel
theorem dX7_init_6 : decode cX7_init 6 = .ok (.newarray .int, 2) := by decide +kernel
theorem dX7_init_8 : decode cX7_init 8 = .ok (.putfield 7, 3) := by decide +kernel
theorem dX7_init_11 : decode cX7_init 11 = .ok (.aload_n 0, 1) := by decide +kernel
theorem dX7_init_12 : decode cX7_init 12 = .ok (.iconst 3, 1) := by decide +kernel
theorem dX7_init_13 : decode cX7_init 13 = .ok (.putfield 13, 3) := by decide +kernel
theorem dX7_init_16 : decode cX7_init 16 = .ok (.aload_n 0, 1) := by decide +kernel
theorem dX7_init_17 : decode cX7_init 17 = .ok (.iconst 2, 1) := by decide +kernel
theorem dX7_init_18 : decode cX7_init 18 = .ok (.newarray .int, 2) := by decide +kernel
theorem dX7_init_20 : decode cX7_init 20 = .ok (.putfield 17, 3) := by decide +kernel
theorem dX7_init_23 : decode cX7_init 23 = .ok (.aload_n 0, 1) := by decide +kernel
theorem dX7_init_24 : decode cX7_init 24 = .ok (.bipush 16, 2) := by decide +kernel
theorem dX7_init_26 : decode cX7_init 26 = .ok (.newarray .int, 2) := by decide +kernel
theorem dX7_init_28 : decode cX7_init 28 = .ok (.putfield 20, 3) := by decide +kernel
theorem dX7_init_31 : decode cX7_init 31 = .ok (.aload_n 0, 1) := by decide +kernel
theorem dX7_init_32 : decode cX7_init 32 = .ok (.bipush 16, 2) := by decide +kernel
theorem dX7_init_34 : decode cX7_init 34 = .ok (.newarray .int, 2) := by decide +kernel
theorem dX7_init_36 : decode cX7_init 36 = .ok (.putfield 23, 3) := by decide +kernel
theorem dX7_init_39 : decode cX7_init 39 = .ok (.aload_n 0, 1) := by decide +kernel
theorem dX7_init_40 : decode cX7_init 40 = .ok (.bipush 16, 2) := by decide +kernel
theorem dX7_init_42 : decode cX7_init 42 = .ok (.newarray .int, 2) := by decide +kernel
theorem dX7_init_44 : decode cX7_init 44 = .ok (.putfield 26, 3) := by decide +kernel
theorem dX7_init_47 : decode cX7_init 47 = .ok (.aload_n 0, 1) := by decide +kernel
theorem dX7_init_48 : decode cX7_init 48 = .ok (.bipush 16, 2) := by decide +kernel
theorem dX7_init_50 : decode cX7_init 50 = .ok (.newarray .int, 2) := by decide +kernel
theorem dX7_init_52 : decode cX7_init 52 = .ok (.putfield 29, 3) := by decide +kernel
theorem dX7_init_55 : decode cX7_init 55 = .ok (.aload_n 0, 1) := by decide +kernel
theorem dX7_init_56 : decode cX7_init 56 = .ok (.sipush 408, 3) := by decide +kernel
theorem dX7_init_59 : decode cX7_init 59 = .ok (.newarray .int, 2) := by decide +kernel
theorem dX7_init_61 : decode cX7_init 61 = .ok (.putfield 32, 3) := by decide +kernel
theorem dX7_init_64 : decode cX7_init 64 = .ok (.aload_n 0, 1) := by decide +kernel
theorem dX7_init_65 : decode cX7_init 65 = .ok (.bipush 16, 2) := by decide +kernel
theorem dX7_init_67 : decode cX7_init 67 = .ok (.newarray .int, 2) := by decide +kernel
theorem dX7_init_69 : decode cX7_init 69 = .ok (.putfield 35, 3) := by decide +kernel
theorem dX7_init_72 : decode cX7_init 72 = .ok (.aload_n 0, 1) := by decide +kernel
theorem dX7_init_73 : decode cX7_init 73 = .ok (.bipush 16, 2) := by decide +kernel
theorem dX7_init_75 : decode cX7_init 75 = .ok (.newarray .int, 2) := by decide +kernel
theorem dX7_init_77 : decode cX7_init 77 = .ok (.putfield 38, 3) := by decide +kernel
theorem dX7_init_80 : decode cX7_init 80 = .ok (.aload_n 0, 1) := by decide +kernel
theorem dX7_init_81 : decode cX7_init 81 = .ok (.sipush 144, 3) := by decide +kernel
theorem dX7_init_84 : decode cX7_init 84 = .ok (.newarray .int, 2) := by decide +kernel
theorem dX7_init_86 : decode cX7_init 86 = .ok (.putfield 41, 3) := by decide +kernel
theorem dX7_init_89 : decode cX7_init 89 = .ok (.aload_n 0, 1) := by decide +kernel
theorem dX7_init_90 : decode cX7_init 90 = .ok (.bipush 64, 2) := by decide +kernel
theorem dX7_init_92 : decode cX7_init 92 = .ok (.newarray .int, 2) := by decide +kernel
theorem dX7_init_94 : decode cX7_init 94 = .ok (.putfield 44, 3) := by decide +kernel
theorem dX7_init_97 : decode cX7_init 97 = .ok (.aload_n 0, 1) := by decide +kernel
theorem dX7_init_98 : decode cX7_init 98 = .ok (.iconst 1, 1) := by decide +kernel
theorem dX7_init_99 : decode cX7_init 99 = .ok (.putfield 47, 3) := by decide +kernel
theorem dX7_init_102 : decode cX7_init 102 = .ok (.aload_n 0, 1) := by decide +kernel
theorem dX7_init_103 : decode cX7_init 103 = .ok (.bipush 16, 2) := by decide +kernel
theorem dX7_init_105 : decode cX7_init 105 = .ok (.newarray .int, 2) := by decide +kernel
theorem dX7_init_107 : decode cX7_init 107 = .ok (.putfield 50, 3) := by decide +kernel
theorem dX7_init_110 : decode cX7_init 110 = .ok (.aload_n 0, 1) := by decide +kernel
theorem dX7_init_111 : decode cX7_init 111 = .ok (.bipush 16, 2) := by decide +kernel
theorem dX7_init_113 : decode cX7_init 113 = .ok (.newarray .int, 2) := by decide +kernel
theorem dX7_init_115 : decode cX7_init 115 = .ok (.putfield 53, 3) := by decide +kernel
theorem dX7_init_118 : decode cX7_init 118 = .ok (.aload_n 0, 1) := by decide +kernel
theorem dX7_init_119 : decode cX7_init 119 = .ok (.bipush 16, 2) := by decide +kernel
theorem dX7_init_121 : decode cX7_init 121 = .ok (.newarray .int, 2) := by decide +kernel
theorem dX7_init_123 : decode cX7_init 123 = .ok (.putfield 56, 3) := by decide +kernel
theorem dX7_init_126 : decode cX7_init 126 = .ok (.aload_n 0, 1) := by decide +kernel
theorem dX7_init_127 : decode cX7_init 127 = .ok (.bipush 16, 2) := by decide +kernel
theorem dX7_init_129 : decode cX7_init 129 = .ok (.newarray .int, 2) := by decide +kernel
theorem dX7_init_131 : decode cX7_init 131 = .ok (.putfield 59, 3) := by decide +kernel
theorem dX7_init_134 : decode cX7_init 134 = .ok (.aload_n 0, 1) := by decide +kernel
theorem dX7_init_135 : decode cX7_init 135 = .ok (.bipush 16, 2) := by decide +kernel
theorem dX7_init_137 : decode cX7_init 137 = .ok (.newarray .int, 2) := by decide +kernel
theorem dX7_init_139 : decode cX7_init 139 = .ok (.putfield 62, 3) := by decide +kernel
theorem dX7_init_142 : decode cX7_init 142 = .ok (.aload_n 0, 1) := by decide +kernel
theorem dX7_init_143 : decode cX7_init 143 = .ok (.bipush 120, 2) := by decide +kernel
theorem dX7_init_145 : decode cX7_init 145 = .ok (.newarray .int, 2) := by decide +kernel
theorem dX7_init_147 : decode cX7_init 147 = .ok (.putfield 65, 3) := by decide +kernel
theorem dX7_init_150 : decode cX7_init 150 = .ok (.return_, 1) := by decide +kernel
theorem dX7_bad_0 : decode cX7_bad 0 = .ok (.aload_n 0, 1) := by decide +kernel
theorem dX7_bad_1 : decode cX7_bad 1 = .ok (.getfield 7, 3) := by decide +kernel
theorem dX7_bad_4 : decode cX7_bad 4 = .ok (.iconst 0, 1) := by decide +kernel
theorem dX7_bad_5 : decode cX7_bad 5 = .ok (.dup2, 1) := by decide +kernel
theorem dX7_bad_6 : decode cX7_bad 6 = .ok (.iaload, 1) := by decide +kernel
theorem dX7_bad_7 : decode cX7_bad 7 = .ok (.iconst 1, 1) := by decide +kernel
theorem dX7_bad_8 : decode cX7_bad 8 = .ok (.iadd, 1) := by decide +kernel
theorem dX7_bad_9 : decode cX7_bad 9 = .ok (.iastore, 1) := by decide +kernel
theorem dX7_bad_10 : decode cX7_bad 10 = .ok (.bipush (-2), 2) := by decide +kernel
theorem dX7_bad_12 : decode cX7_bad 12 = .ok (.ireturn, 1) := by decide +kernel
theorem dX7_no_0 : decode cX7_no 0 = .ok (.aload_n 0, 1) := by decide +kernel
theorem dX7_no_1 : decode cX7_no 1 = .ok (.getfield 7, 3) := by decide +kernel
theorem dX7_no_4 : decode cX7_no 4 = .ok (.iconst 1, 1) := by decide +kernel
theorem dX7_no_5 : decode cX7_no 5 = .ok (.dup2, 1) := by decide +kernel
theorem dX7_no_6 : decode cX7_no 6 = .ok (.iaload, 1) := by decide +kernel
theorem dX7_no_7 : decode cX7_no 7 = .ok (.iconst 1, 1) := by decide +kernel
theorem dX7_no_8 : decode cX7_no 8 = .ok (.iadd, 1) := by decide +kernel
theorem dX7_no_9 : decode cX7_no 9 = .ok (.iastore, 1) := by decide +kernel
theorem dX7_no_10 : decode cX7_no 10 = .ok (.bipush (-3), 2) := by decide +kernel
theorem dX7_no_12 : decode cX7_no 12 = .ok (.ireturn, 1) := by decide +kernel
theorem dX7_full_0 : decode cX7_full 0 = .ok (.aload_n 0, 1) := by decide +kernel
theorem dX7_full_1 : decode cX7_full 1 = .ok (.getfield 7, 3) := by decide +kernel
theorem dX7_full_4 : decode cX7_full 4 = .ok (.iconst 2, 1) := by decide +kernel
theorem dX7_full_5 : decode cX7_full 5 = .ok (.dup2, 1) := by decide +kernel
theorem dX7_full_6 : decode cX7_full 6 = .ok (.iaload, 1) := by decide +kernel
theorem dX7_full_7 : decode cX7_full 7 = .ok (.iconst 1, 1) := by decide +kernel
theorem dX7_full_8 : decode cX7_full 8 = .ok (.iadd, 1) := by decide +kernel
theorem dX7_full_9 : decode cX7_full 9 = .ok (.iastore, 1) := by decide +kernel
theorem dX7_full_10 : decode cX7_full 10 = .ok (.bipush (-4), 2) := by decide +kernel
theorem dX7_full_12 : decode cX7_full 12 = .ok (.ireturn, 1) := by decide +kernel
theorem dX7_in_0 : decode cX7_in 0 = .ok (.iload_n 0, 1) := by decide +kernel
theorem dX7_in_1 : decode cX7_in 1 = .ok (.iload_n 1, 1) := by decide +kernel
theorem dX7_in_2 : decode cX7_in 2 = .ok (.if_icmp .lt 12, 3) := by decide +kernel
theorem dX7_in_5 : decode cX7_in 5 = .ok (.iload_n 0, 1) := by decide +kernel
theorem dX7_in_6 : decode cX7_in 6 = .ok (.iload_n 2, 1) := by decide +kernel
theorem dX7_in_7 : decode cX7_in 7 = .ok (.if_icmp .gt 7, 3) := by decide +kernel
theorem dX7_in_10 : decode cX7_in 10 = .ok (.iconst 1, 1) := by decide +kernel
theorem dX7_in_11 : decode cX7_in 11 = .ok (.goto 4, 3) := by decide +kernel
theorem dX7_in_14 : decode cX7_in 14 = .ok (.iconst 0, 1) := by decide +kernel
theorem dX7_in_15 : decode cX7_in 15 = .ok (.ireturn, 1) := by decide +kernel
theorem dX7_corners_0 : decode cX7_corners 0 = .ok (.iconst 1, 1) := by decide +kernel
theorem dX7_corners_1 : decode cX7_corners 1 = .ok (.aload_n 0, 1) := by decide +kernel
theorem dX7_corners_2 : decode cX7_corners 2 = .ok (.getfield 13, 3) := by decide +kernel
theorem dX7_corners_5 : decode cX7_corners 5 = .ok (.ishl, 1) := by decide +kernel
theorem dX7_corners_6 : decode cX7_corners 6 = .ok (.ireturn, 1) := by decide +kernel
theorem dX7_isCorner_0 : decode cX7_isCorner 0 = .ok (.iload_n 1, 1) := by decide +kernel
theorem dX7_isCorner_1 : decode cX7_isCorner 1 = .ok (.iconst 0, 1) := by decide +kernel
theorem dX7_isCorner_2 : decode cX7_isCorner 2 = .ok (.aload_n 0, 1) := by decide +kernel
theorem dX7_isCorner_3 : decode cX7_isCorner 3 = .ok (.invokevirtual 68, 3) := by decide +kernel
theorem dX7_isCorner_6 : decode cX7_isCorner 6 = .ok (.iconst 1, 1) := by decide +kernel
theorem dX7_isCorner_7 : decode cX7_isCorner 7 = .ok (.isub, 1) := by decide +kernel
theorem dX7_isCorner_8 : decode cX7_isCorner 8 = .ok (.invokestatic 72, 3) := by decide +kernel
theorem dX7_isCorner_11 : decode cX7_isCorner 11 = .ok (.ireturn, 1) := by decide +kernel
theorem dX7_isParcel_0 : decode cX7_isParcel 0 = .ok (.iload_n 1, 1) := by decide +kernel
theorem dX7_isParcel_1 : decode cX7_isParcel 1 = .ok (.iconst 0, 1) := by decide +kernel
theorem dX7_isParcel_2 : decode cX7_isParcel 2 = .ok (.aload_n 0, 1) := by decide +kernel
theorem dX7_isParcel_3 : decode cX7_isParcel 3 = .ok (.getfield 76, 3) := by decide +kernel
theorem dX7_isParcel_6 : decode cX7_isParcel 6 = .ok (.iconst 1, 1) := by decide +kernel
theorem dX7_isParcel_7 : decode cX7_isParcel 7 = .ok (.isub, 1) := by decide +kernel
theorem dX7_isParcel_8 : decode cX7_isParcel 8 = .ok (.invokestatic 72, 3) := by decide +kernel
theorem dX7_isParcel_11 : decode cX7_isParcel 11 = .ok (.ireturn, 1) := by decide +kernel
theorem dX7_isRank_0 : decode cX7_isRank 0 = .ok (.iload_n 0, 1) := by decide +kernel
theorem dX7_isRank_1 : decode cX7_isRank 1 = .ok (.iconst 0, 1) := by decide +kernel
theorem dX7_isRank_2 : decode cX7_isRank 2 = .ok (.bipush 99, 2) := by decide +kernel
theorem dX7_isRank_4 : decode cX7_isRank 4 = .ok (.invokestatic 72, 3) := by decide +kernel
theorem dX7_isRank_7 : decode cX7_isRank 7 = .ok (.ireturn, 1) := by decide +kernel
theorem dX7_leavesState_0 : decode cX7_leavesState 0 = .ok (.aload_n 0, 1) := by decide +kernel
theorem dX7_leavesState_1 : decode cX7_leavesState 1 = .ok (.getfield 79, 3) := by decide +kernel
theorem dX7_leavesState_4 : decode cX7_leavesState 4 = .ok (.bipush 6, 2) := by decide +kernel
theorem dX7_leavesState_6 : decode cX7_leavesState 6 = .ok (.if_icmp .ne 43, 3) := by decide +kernel
theorem dX7_leavesState_9 : decode cX7_leavesState 9 = .ok (.iconst 0, 1) := by decide +kernel
theorem dX7_leavesState_10 : decode cX7_leavesState 10 = .ok (.istore_n 1, 1) := by decide +kernel
theorem dX7_leavesState_11 : decode cX7_leavesState 11 = .ok (.iload_n 1, 1) := by decide +kernel
theorem dX7_leavesState_12 : decode cX7_leavesState 12 = .ok (.sipush 340, 3) := by decide +kernel
theorem dX7_leavesState_15 : decode cX7_leavesState 15 = .ok (.if_icmp .ge 24, 3) := by decide +kernel
theorem dX7_leavesState_18 : decode cX7_leavesState 18 = .ok (.aload_n 0, 1) := by decide +kernel
theorem dX7_leavesState_19 : decode cX7_leavesState 19 = .ok (.getfield 32, 3) := by decide +kernel
theorem dX7_leavesState_22 : decode cX7_leavesState 22 = .ok (.iload_n 1, 1) := by decide +kernel
theorem dX7_leavesState_23 : decode cX7_leavesState 23 = .ok (.aload_n 0, 1) := by decide +kernel
theorem dX7_leavesState_24 : decode cX7_leavesState 24 = .ok (.getfield 32, 3) := by decide +kernel
theorem dX7_leavesState_27 : decode cX7_leavesState 27 = .ok (.iload_n 1, 1) := by decide +kernel
theorem dX7_leavesState_28 : decode cX7_leavesState 28 = .ok (.bipush 68, 2) := by decide +kernel
theorem dX7_leavesState_30 : decode cX7_leavesState 30 = .ok (.iadd, 1) := by decide +kernel
theorem dX7_leavesState_31 : decode cX7_leavesState 31 = .ok (.iaload, 1) := by decide +kernel
theorem dX7_leavesState_32 : decode cX7_leavesState 32 = .ok (.iastore, 1) := by decide +kernel
theorem dX7_leavesState_33 : decode cX7_leavesState 33 = .ok (.iinc 1 1, 3) := by decide +kernel
theorem dX7_leavesState_36 : decode cX7_leavesState 36 = .ok (.goto (-25), 3) := by decide +kernel
theorem dX7_leavesState_39 : decode cX7_leavesState 39 = .ok (.aload_n 0, 1) := by decide +kernel
theorem dX7_leavesState_40 : decode cX7_leavesState 40 = .ok (.dup, 1) := by decide +kernel
theorem dX7_leavesState_41 : decode cX7_leavesState 41 = .ok (.getfield 79, 3) := by decide +kernel
theorem dX7_leavesState_44 : decode cX7_leavesState 44 = .ok (.iconst 1, 1) := by decide +kernel
theorem dX7_leavesState_45 : decode cX7_leavesState 45 = .ok (.isub, 1) := by decide +kernel
theorem dX7_leavesState_46 : decode cX7_leavesState 46 = .ok (.putfield 79, 3) := by decide +kernel
theorem dX7_leavesState_49 : decode cX7_leavesState 49 = .ok (.bipush 68, 2) := by decide +kernel
theorem dX7_leavesState_51 : decode cX7_leavesState 51 = .ok (.aload_n 0, 1) := by decide +kernel
theorem dX7_leavesState_52 : decode cX7_leavesState 52 = .ok (.getfield 79, 3) := by decide +kernel
theorem dX7_leavesState_55 : decode cX7_leavesState 55 = .ok (.imul, 1) := by decide +kernel
theorem dX7_leavesState_56 : decode cX7_leavesState 56 = .ok (.istore_n 1, 1) := by decide +kernel
theorem dX7_leavesState_57 : decode cX7_leavesState 57 = .ok (.aload_n 0, 1) := by decide +kernel
theorem dX7_leavesState_58 : decode cX7_leavesState 58 = .ok (.getfield 32, 3) := by decide +kernel
theorem dX7_leavesState_61 : decode cX7_leavesState 61 = .ok (.iload_n 1, 1) := by decide +kernel
theorem dX7_leavesState_62 : decode cX7_leavesState 62 = .ok (.aload_n 0, 1) := by decide +kernel
theorem dX7_leavesState_63 : decode cX7_leavesState 63 = .ok (.getfield 13, 3) := by decide +kernel
theorem dX7_leavesState_66 : decode cX7_leavesState 66 = .ok (.iastore, 1) := by decide +kernel
theorem dX7_leavesState_67 : decode cX7_leavesState 67 = .ok (.aload_n 0, 1) := by decide +kernel
theorem dX7_leavesState_68 : decode cX7_leavesState 68 = .ok (.getfield 32, 3) := by decide +kernel
theorem dX7_leavesState_71 : decode cX7_leavesState 71 = .ok (.iload_n 1, 1) := by decide +kernel
theorem dX7_leavesState_72 : decode cX7_leavesState 72 = .ok (.iconst 1, 1) := by decide +kernel
theorem dX7_leavesState_73 : decode cX7_leavesState 73 = .ok (.iadd, 1) := by decide +kernel
theorem dX7_leavesState_74 : decode cX7_leavesState 74 = .ok (.aload_n 0, 1) := by decide +kernel
theorem dX7_leavesState_75 : decode cX7_leavesState 75 = .ok (.getfield 76, 3) := by decide +kernel
theorem dX7_leavesState_78 : decode cX7_leavesState 78 = .ok (.iastore, 1) := by decide +kernel
theorem dX7_leavesState_79 : decode cX7_leavesState 79 = .ok (.aload_n 0, 1) := by decide +kernel
theorem dX7_leavesState_80 : decode cX7_leavesState 80 = .ok (.getfield 32, 3) := by decide +kernel
theorem dX7_leavesState_83 : decode cX7_leavesState 83 = .ok (.iload_n 1, 1) := by decide +kernel
theorem dX7_leavesState_84 : decode cX7_leavesState 84 = .ok (.iconst 2, 1) := by decide +kernel
theorem dX7_leavesState_85 : decode cX7_leavesState 85 = .ok (.iadd, 1) := by decide +kernel
theorem dX7_leavesState_86 : decode cX7_leavesState 86 = .ok (.aload_n 0, 1) := by decide +kernel
theorem dX7_leavesState_87 : decode cX7_leavesState 87 = .ok (.getfield 17, 3) := by decide +kernel
end
section
theorem dX7_leavesState_90 : decode cX7_leavesState 90 = .ok (.iconst 0, 1) := by decide +kernel
theorem dX7_leavesState_91 : decode cX7_leavesState 91 = .ok (.iaload, 1) := by decide +kernel
theorem dX7_leavesState_92 : decode cX7_leavesState 92 = .ok (.iastore, 1) := by decide +kernel
theorem dX7_leavesState_93 : decode cX7_leavesState 93 = .ok (.aload_n 0, 1) := by decide +kernel
theorem dX7_leavesState_94 : decode cX7_leavesState 94 = .ok (.getfield 32, 3) := by decide +kernel
theorem dX7_leavesState_97 : decode cX7_leavesState 97 = .ok (.iload_n 1, 1) := by decide +kernel
theorem dX7_leavesState_98 : decode cX7_leavesState 98 = .ok (.iconst 3, 1) := by decide +kernel
theorem dX7_leavesState_99 : decode cX7_leavesState 99 = .ok (.iadd, 1) := by decide +kernel
theorem dX7_leavesState_100 : decode cX7_leavesState 100 = .ok (.aload_n 0, 1) := by decide +kernel
theorem dX7_leavesState_101 : decode cX7_leavesState 101 = .ok (.getfield 17, 3) := by decide +kernel
theorem dX7_leavesState_104 : decode cX7_leavesState 104 = .ok (.iconst 1, 1) := by decide +kernel
theorem dX7_leavesState_105 : decode cX7_leavesState 105 = .ok (.iaload, 1) := by decide +kernel
theorem dX7_leavesState_106 : decode cX7_leavesState 106 = .ok (.iastore, 1) := by decide +kernel
theorem dX7_leavesState_107 : decode cX7_leavesState 107 = .ok (.iconst 0, 1) := by decide +kernel
theorem dX7_leavesState_108 : decode cX7_leavesState 108 = .ok (.istore_n 2, 1) := by decide +kernel
theorem dX7_leavesState_109 : decode cX7_leavesState 109 = .ok (.iload_n 2, 1) := by decide +kernel
theorem dX7_leavesState_110 : decode cX7_leavesState 110 = .ok (.bipush 16, 2) := by decide +kernel
theorem dX7_leavesState_112 : decode cX7_leavesState 112 = .ok (.if_icmp .ge 76, 3) := by decide +kernel
theorem dX7_leavesState_115 : decode cX7_leavesState 115 = .ok (.aload_n 0, 1) := by decide +kernel
theorem dX7_leavesState_116 : decode cX7_leavesState 116 = .ok (.getfield 32, 3) := by decide +kernel
theorem dX7_leavesState_119 : decode cX7_leavesState 119 = .ok (.iload_n 1, 1) := by decide +kernel
theorem dX7_leavesState_120 : decode cX7_leavesState 120 = .ok (.iconst 4, 1) := by decide +kernel
theorem dX7_leavesState_121 : decode cX7_leavesState 121 = .ok (.iadd, 1) := by decide +kernel
theorem dX7_leavesState_122 : decode cX7_leavesState 122 = .ok (.iload_n 2, 1) := by decide +kernel
theorem dX7_leavesState_123 : decode cX7_leavesState 123 = .ok (.iadd, 1) := by decide +kernel
theorem dX7_leavesState_124 : decode cX7_leavesState 124 = .ok (.aload_n 0, 1) := by decide +kernel
theorem dX7_leavesState_125 : decode cX7_leavesState 125 = .ok (.getfield 20, 3) := by decide +kernel
theorem dX7_leavesState_128 : decode cX7_leavesState 128 = .ok (.iload_n 2, 1) := by decide +kernel
theorem dX7_leavesState_129 : decode cX7_leavesState 129 = .ok (.iaload, 1) := by decide +kernel
theorem dX7_leavesState_130 : decode cX7_leavesState 130 = .ok (.iastore, 1) := by decide +kernel
theorem dX7_leavesState_131 : decode cX7_leavesState 131 = .ok (.aload_n 0, 1) := by decide +kernel
theorem dX7_leavesState_132 : decode cX7_leavesState 132 = .ok (.getfield 32, 3) := by decide +kernel
theorem dX7_leavesState_135 : decode cX7_leavesState 135 = .ok (.iload_n 1, 1) := by decide +kernel
theorem dX7_leavesState_136 : decode cX7_leavesState 136 = .ok (.bipush 20, 2) := by decide +kernel
theorem dX7_leavesState_138 : decode cX7_leavesState 138 = .ok (.iadd, 1) := by decide +kernel
theorem dX7_leavesState_139 : decode cX7_leavesState 139 = .ok (.iload_n 2, 1) := by decide +kernel
theorem dX7_leavesState_140 : decode cX7_leavesState 140 = .ok (.iadd, 1) := by decide +kernel
theorem dX7_leavesState_141 : decode cX7_leavesState 141 = .ok (.aload_n 0, 1) := by decide +kernel
theorem dX7_leavesState_142 : decode cX7_leavesState 142 = .ok (.getfield 23, 3) := by decide +kernel
theorem dX7_leavesState_145 : decode cX7_leavesState 145 = .ok (.iload_n 2, 1) := by decide +kernel
theorem dX7_leavesState_146 : decode cX7_leavesState 146 = .ok (.iaload, 1) := by decide +kernel
theorem dX7_leavesState_147 : decode cX7_leavesState 147 = .ok (.iastore, 1) := by decide +kernel
theorem dX7_leavesState_148 : decode cX7_leavesState 148 = .ok (.aload_n 0, 1) := by decide +kernel
theorem dX7_leavesState_149 : decode cX7_leavesState 149 = .ok (.getfield 32, 3) := by decide +kernel
theorem dX7_leavesState_152 : decode cX7_leavesState 152 = .ok (.iload_n 1, 1) := by decide +kernel
theorem dX7_leavesState_153 : decode cX7_leavesState 153 = .ok (.bipush 36, 2) := by decide +kernel
theorem dX7_leavesState_155 : decode cX7_leavesState 155 = .ok (.iadd, 1) := by decide +kernel
theorem dX7_leavesState_156 : decode cX7_leavesState 156 = .ok (.iload_n 2, 1) := by decide +kernel
theorem dX7_leavesState_157 : decode cX7_leavesState 157 = .ok (.iadd, 1) := by decide +kernel
theorem dX7_leavesState_158 : decode cX7_leavesState 158 = .ok (.aload_n 0, 1) := by decide +kernel
theorem dX7_leavesState_159 : decode cX7_leavesState 159 = .ok (.getfield 26, 3) := by decide +kernel
theorem dX7_leavesState_162 : decode cX7_leavesState 162 = .ok (.iload_n 2, 1) := by decide +kernel
theorem dX7_leavesState_163 : decode cX7_leavesState 163 = .ok (.iaload, 1) := by decide +kernel
theorem dX7_leavesState_164 : decode cX7_leavesState 164 = .ok (.iastore, 1) := by decide +kernel
theorem dX7_leavesState_165 : decode cX7_leavesState 165 = .ok (.aload_n 0, 1) := by decide +kernel
theorem dX7_leavesState_166 : decode cX7_leavesState 166 = .ok (.getfield 32, 3) := by decide +kernel
theorem dX7_leavesState_169 : decode cX7_leavesState 169 = .ok (.iload_n 1, 1) := by decide +kernel
theorem dX7_leavesState_170 : decode cX7_leavesState 170 = .ok (.bipush 52, 2) := by decide +kernel
theorem dX7_leavesState_172 : decode cX7_leavesState 172 = .ok (.iadd, 1) := by decide +kernel
theorem dX7_leavesState_173 : decode cX7_leavesState 173 = .ok (.iload_n 2, 1) := by decide +kernel
theorem dX7_leavesState_174 : decode cX7_leavesState 174 = .ok (.iadd, 1) := by decide +kernel
theorem dX7_leavesState_175 : decode cX7_leavesState 175 = .ok (.aload_n 0, 1) := by decide +kernel
theorem dX7_leavesState_176 : decode cX7_leavesState 176 = .ok (.getfield 29, 3) := by decide +kernel
theorem dX7_leavesState_179 : decode cX7_leavesState 179 = .ok (.iload_n 2, 1) := by decide +kernel
theorem dX7_leavesState_180 : decode cX7_leavesState 180 = .ok (.iaload, 1) := by decide +kernel
theorem dX7_leavesState_181 : decode cX7_leavesState 181 = .ok (.iastore, 1) := by decide +kernel
theorem dX7_leavesState_182 : decode cX7_leavesState 182 = .ok (.iinc 2 1, 3) := by decide +kernel
theorem dX7_leavesState_185 : decode cX7_leavesState 185 = .ok (.goto (-76), 3) := by decide +kernel
theorem dX7_leavesState_188 : decode cX7_leavesState 188 = .ok (.aload_n 0, 1) := by decide +kernel
theorem dX7_leavesState_189 : decode cX7_leavesState 189 = .ok (.dup, 1) := by decide +kernel
theorem dX7_leavesState_190 : decode cX7_leavesState 190 = .ok (.getfield 79, 3) := by decide +kernel
theorem dX7_leavesState_193 : decode cX7_leavesState 193 = .ok (.iconst 1, 1) := by decide +kernel
theorem dX7_leavesState_194 : decode cX7_leavesState 194 = .ok (.iadd, 1) := by decide +kernel
theorem dX7_leavesState_195 : decode cX7_leavesState 195 = .ok (.putfield 79, 3) := by decide +kernel
theorem dX7_leavesState_198 : decode cX7_leavesState 198 = .ok (.return_, 1) := by decide +kernel
theorem dX7_back_0 : decode cX7_back 0 = .ok (.aload_n 0, 1) := by decide +kernel
theorem dX7_back_1 : decode cX7_back 1 = .ok (.getfield 79, 3) := by decide +kernel
theorem dX7_back_4 : decode cX7_back 4 = .ok (.ifCond .ne 8, 3) := by decide +kernel
theorem dX7_back_7 : decode cX7_back 7 = .ok (.aload_n 0, 1) := by decide +kernel
theorem dX7_back_8 : decode cX7_back 8 = .ok (.invokevirtual 82, 3) := by decide +kernel
theorem dX7_back_11 : decode cX7_back 11 = .ok (.ireturn, 1) := by decide +kernel
theorem dX7_back_12 : decode cX7_back 12 = .ok (.aload_n 0, 1) := by decide +kernel
theorem dX7_back_13 : decode cX7_back 13 = .ok (.dup, 1) := by decide +kernel
theorem dX7_back_14 : decode cX7_back 14 = .ok (.getfield 79, 3) := by decide +kernel
theorem dX7_back_17 : decode cX7_back 17 = .ok (.iconst 1, 1) := by decide +kernel
theorem dX7_back_18 : decode cX7_back 18 = .ok (.isub, 1) := by decide +kernel
theorem dX7_back_19 : decode cX7_back 19 = .ok (.putfield 79, 3) := by decide +kernel
theorem dX7_back_22 : decode cX7_back 22 = .ok (.bipush 68, 2) := by decide +kernel
theorem dX7_back_24 : decode cX7_back 24 = .ok (.aload_n 0, 1) := by decide +kernel
theorem dX7_back_25 : decode cX7_back 25 = .ok (.getfield 79, 3) := by decide +kernel
theorem dX7_back_28 : decode cX7_back 28 = .ok (.imul, 1) := by decide +kernel
theorem dX7_back_29 : decode cX7_back 29 = .ok (.istore_n 1, 1) := by decide +kernel
theorem dX7_back_30 : decode cX7_back 30 = .ok (.aload_n 0, 1) := by decide +kernel
theorem dX7_back_31 : decode cX7_back 31 = .ok (.aload_n 0, 1) := by decide +kernel
theorem dX7_back_32 : decode cX7_back 32 = .ok (.getfield 32, 3) := by decide +kernel
theorem dX7_back_35 : decode cX7_back 35 = .ok (.iload_n 1, 1) := by decide +kernel
theorem dX7_back_36 : decode cX7_back 36 = .ok (.iaload, 1) := by decide +kernel
theorem dX7_back_37 : decode cX7_back 37 = .ok (.putfield 13, 3) := by decide +kernel
theorem dX7_back_40 : decode cX7_back 40 = .ok (.aload_n 0, 1) := by decide +kernel
theorem dX7_back_41 : decode cX7_back 41 = .ok (.aload_n 0, 1) := by decide +kernel
theorem dX7_back_42 : decode cX7_back 42 = .ok (.getfield 32, 3) := by decide +kernel
theorem dX7_back_45 : decode cX7_back 45 = .ok (.iload_n 1, 1) := by decide +kernel
theorem dX7_back_46 : decode cX7_back 46 = .ok (.iconst 1, 1) := by decide +kernel
theorem dX7_back_47 : decode cX7_back 47 = .ok (.iadd, 1) := by decide +kernel
theorem dX7_back_48 : decode cX7_back 48 = .ok (.iaload, 1) := by decide +kernel
theorem dX7_back_49 : decode cX7_back 49 = .ok (.putfield 76, 3) := by decide +kernel
theorem dX7_back_52 : decode cX7_back 52 = .ok (.aload_n 0, 1) := by decide +kernel
theorem dX7_back_53 : decode cX7_back 53 = .ok (.getfield 17, 3) := by decide +kernel
theorem dX7_back_56 : decode cX7_back 56 = .ok (.iconst 0, 1) := by decide +kernel
theorem dX7_back_57 : decode cX7_back 57 = .ok (.aload_n 0, 1) := by decide +kernel
theorem dX7_back_58 : decode cX7_back 58 = .ok (.getfield 32, 3) := by decide +kernel
theorem dX7_back_61 : decode cX7_back 61 = .ok (.iload_n 1, 1) := by decide +kernel
theorem dX7_back_62 : decode cX7_back 62 = .ok (.iconst 2, 1) := by decide +kernel
theorem dX7_back_63 : decode cX7_back 63 = .ok (.iadd, 1) := by decide +kernel
theorem dX7_back_64 : decode cX7_back 64 = .ok (.iaload, 1) := by decide +kernel
theorem dX7_back_65 : decode cX7_back 65 = .ok (.iastore, 1) := by decide +kernel
theorem dX7_back_66 : decode cX7_back 66 = .ok (.aload_n 0, 1) := by decide +kernel
theorem dX7_back_67 : decode cX7_back 67 = .ok (.getfield 17, 3) := by decide +kernel
theorem dX7_back_70 : decode cX7_back 70 = .ok (.iconst 1, 1) := by decide +kernel
theorem dX7_back_71 : decode cX7_back 71 = .ok (.aload_n 0, 1) := by decide +kernel
theorem dX7_back_72 : decode cX7_back 72 = .ok (.getfield 32, 3) := by decide +kernel
theorem dX7_back_75 : decode cX7_back 75 = .ok (.iload_n 1, 1) := by decide +kernel
theorem dX7_back_76 : decode cX7_back 76 = .ok (.iconst 3, 1) := by decide +kernel
theorem dX7_back_77 : decode cX7_back 77 = .ok (.iadd, 1) := by decide +kernel
theorem dX7_back_78 : decode cX7_back 78 = .ok (.iaload, 1) := by decide +kernel
theorem dX7_back_79 : decode cX7_back 79 = .ok (.iastore, 1) := by decide +kernel
theorem dX7_back_80 : decode cX7_back 80 = .ok (.iconst 0, 1) := by decide +kernel
theorem dX7_back_81 : decode cX7_back 81 = .ok (.istore_n 2, 1) := by decide +kernel
theorem dX7_back_82 : decode cX7_back 82 = .ok (.iload_n 2, 1) := by decide +kernel
theorem dX7_back_83 : decode cX7_back 83 = .ok (.bipush 16, 2) := by decide +kernel
theorem dX7_back_85 : decode cX7_back 85 = .ok (.if_icmp .ge 76, 3) := by decide +kernel
theorem dX7_back_88 : decode cX7_back 88 = .ok (.aload_n 0, 1) := by decide +kernel
theorem dX7_back_89 : decode cX7_back 89 = .ok (.getfield 20, 3) := by decide +kernel
theorem dX7_back_92 : decode cX7_back 92 = .ok (.iload_n 2, 1) := by decide +kernel
theorem dX7_back_93 : decode cX7_back 93 = .ok (.aload_n 0, 1) := by decide +kernel
theorem dX7_back_94 : decode cX7_back 94 = .ok (.getfield 32, 3) := by decide +kernel
theorem dX7_back_97 : decode cX7_back 97 = .ok (.iload_n 1, 1) := by decide +kernel
theorem dX7_back_98 : decode cX7_back 98 = .ok (.iconst 4, 1) := by decide +kernel
theorem dX7_back_99 : decode cX7_back 99 = .ok (.iadd, 1) := by decide +kernel
theorem dX7_back_100 : decode cX7_back 100 = .ok (.iload_n 2, 1) := by decide +kernel
theorem dX7_back_101 : decode cX7_back 101 = .ok (.iadd, 1) := by decide +kernel
theorem dX7_back_102 : decode cX7_back 102 = .ok (.iaload, 1) := by decide +kernel
theorem dX7_back_103 : decode cX7_back 103 = .ok (.iastore, 1) := by decide +kernel
theorem dX7_back_104 : decode cX7_back 104 = .ok (.aload_n 0, 1) := by decide +kernel
theorem dX7_back_105 : decode cX7_back 105 = .ok (.getfield 23, 3) := by decide +kernel
theorem dX7_back_108 : decode cX7_back 108 = .ok (.iload_n 2, 1) := by decide +kernel
theorem dX7_back_109 : decode cX7_back 109 = .ok (.aload_n 0, 1) := by decide +kernel
theorem dX7_back_110 : decode cX7_back 110 = .ok (.getfield 32, 3) := by decide +kernel
theorem dX7_back_113 : decode cX7_back 113 = .ok (.iload_n 1, 1) := by decide +kernel
theorem dX7_back_114 : decode cX7_back 114 = .ok (.bipush 20, 2) := by decide +kernel
theorem dX7_back_116 : decode cX7_back 116 = .ok (.iadd, 1) := by decide +kernel
theorem dX7_back_117 : decode cX7_back 117 = .ok (.iload_n 2, 1) := by decide +kernel
theorem dX7_back_118 : decode cX7_back 118 = .ok (.iadd, 1) := by decide +kernel
theorem dX7_back_119 : decode cX7_back 119 = .ok (.iaload, 1) := by decide +kernel
theorem dX7_back_120 : decode cX7_back 120 = .ok (.iastore, 1) := by decide +kernel
theorem dX7_back_121 : decode cX7_back 121 = .ok (.aload_n 0, 1) := by decide +kernel
theorem dX7_back_122 : decode cX7_back 122 = .ok (.getfield 26, 3) := by decide +kernel
theorem dX7_back_125 : decode cX7_back 125 = .ok (.iload_n 2, 1) := by decide +kernel
theorem dX7_back_126 : decode cX7_back 126 = .ok (.aload_n 0, 1) := by decide +kernel
theorem dX7_back_127 : decode cX7_back 127 = .ok (.getfield 32, 3) := by decide +kernel
theorem dX7_back_130 : decode cX7_back 130 = .ok (.iload_n 1, 1) := by decide +kernel
theorem dX7_back_131 : decode cX7_back 131 = .ok (.bipush 36, 2) := by decide +kernel
theorem dX7_back_133 : decode cX7_back 133 = .ok (.iadd, 1) := by decide +kernel
theorem dX7_back_134 : decode cX7_back 134 = .ok (.iload_n 2, 1) := by decide +kernel
theorem dX7_back_135 : decode cX7_back 135 = .ok (.iadd, 1) := by decide +kernel
theorem dX7_back_136 : decode cX7_back 136 = .ok (.iaload, 1) := by decide +kernel
theorem dX7_back_137 : decode cX7_back 137 = .ok (.iastore, 1) := by decide +kernel
theorem dX7_back_138 : decode cX7_back 138 = .ok (.aload_n 0, 1) := by decide +kernel
theorem dX7_back_139 : decode cX7_back 139 = .ok (.getfield 29, 3) := by decide +kernel
theorem dX7_back_142 : decode cX7_back 142 = .ok (.iload_n 2, 1) := by decide +kernel
theorem dX7_back_143 : decode cX7_back 143 = .ok (.aload_n 0, 1) := by decide +kernel
theorem dX7_back_144 : decode cX7_back 144 = .ok (.getfield 32, 3) := by decide +kernel
theorem dX7_back_147 : decode cX7_back 147 = .ok (.iload_n 1, 1) := by decide +kernel
theorem dX7_back_148 : decode cX7_back 148 = .ok (.bipush 52, 2) := by decide +kernel
theorem dX7_back_150 : decode cX7_back 150 = .ok (.iadd, 1) := by decide +kernel
theorem dX7_back_151 : decode cX7_back 151 = .ok (.iload_n 2, 1) := by decide +kernel
theorem dX7_back_152 : decode cX7_back 152 = .ok (.iadd, 1) := by decide +kernel
theorem dX7_back_153 : decode cX7_back 153 = .ok (.iaload, 1) := by decide +kernel
theorem dX7_back_154 : decode cX7_back 154 = .ok (.iastore, 1) := by decide +kernel
theorem dX7_back_155 : decode cX7_back 155 = .ok (.iinc 2 1, 3) := by decide +kernel
theorem dX7_back_158 : decode cX7_back 158 = .ok (.goto (-76), 3) := by decide +kernel
theorem dX7_back_161 : decode cX7_back 161 = .ok (.aload_n 0, 1) := by decide +kernel
theorem dX7_back_162 : decode cX7_back 162 = .ok (.getfield 79, 3) := by decide +kernel
theorem dX7_back_165 : decode cX7_back 165 = .ok (.ireturn, 1) := by decide +kernel
theorem dX7_sides_0 : decode cX7_sides 0 = .ok (.iload_n 1, 1) := by decide +kernel
theorem dX7_sides_1 : decode cX7_sides 1 = .ok (.iconst 1, 1) := by decide +kernel
theorem dX7_sides_2 : decode cX7_sides 2 = .ok (.iconst 4, 1) := by decide +kernel
theorem dX7_sides_3 : decode cX7_sides 3 = .ok (.invokestatic 72, 3) := by decide +kernel
theorem dX7_sides_6 : decode cX7_sides 6 = .ok (.ifCond .ne 8, 3) := by decide +kernel
theorem dX7_sides_9 : decode cX7_sides 9 = .ok (.aload_n 0, 1) := by decide +kernel
theorem dX7_sides_10 : decode cX7_sides 10 = .ok (.invokevirtual 85, 3) := by decide +kernel
theorem dX7_sides_13 : decode cX7_sides 13 = .ok (.ireturn, 1) := by decide +kernel
theorem dX7_sides_14 : decode cX7_sides 14 = .ok (.aload_n 0, 1) := by decide +kernel
theorem dX7_sides_15 : decode cX7_sides 15 = .ok (.invokevirtual 88, 3) := by decide +kernel
theorem dX7_sides_18 : decode cX7_sides 18 = .ok (.aload_n 0, 1) := by decide +kernel
theorem dX7_sides_19 : decode cX7_sides 19 = .ok (.getfield 13, 3) := by decide +kernel
theorem dX7_sides_22 : decode cX7_sides 22 = .ok (.istore_n 2, 1) := by decide +kernel
theorem dX7_sides_23 : decode cX7_sides 23 = .ok (.aload_n 0, 1) := by decide +kernel
theorem dX7_sides_24 : decode cX7_sides 24 = .ok (.iload_n 1, 1) := by decide +kernel
theorem dX7_sides_25 : decode cX7_sides 25 = .ok (.putfield 13, 3) := by decide +kernel
theorem dX7_sides_28 : decode cX7_sides 28 = .ok (.aload_n 0, 1) := by decide +kernel
theorem dX7_sides_29 : decode cX7_sides 29 = .ok (.iconst 0, 1) := by decide +kernel
theorem dX7_sides_30 : decode cX7_sides 30 = .ok (.putfield 76, 3) := by decide +kernel
theorem dX7_sides_33 : decode cX7_sides 33 = .ok (.iload_n 2, 1) := by decide +kernel
theorem dX7_sides_34 : decode cX7_sides 34 = .ok (.ireturn, 1) := by decide +kernel
theorem dX7_comes_0 : decode cX7_comes 0 = .ok (.aload_n 0, 1) := by decide +kernel
theorem dX7_comes_1 : decode cX7_comes 1 = .ok (.getfield 20, 3) := by decide +kernel
theorem dX7_comes_4 : decode cX7_comes 4 = .ok (.aload_n 0, 1) := by decide +kernel
theorem dX7_comes_5 : decode cX7_comes 5 = .ok (.getfield 76, 3) := by decide +kernel
theorem dX7_comes_8 : decode cX7_comes 8 = .ok (.iload_n 1, 1) := by decide +kernel
theorem dX7_comes_9 : decode cX7_comes 9 = .ok (.iastore, 1) := by decide +kernel
theorem dX7_comes_10 : decode cX7_comes 10 = .ok (.aload_n 0, 1) := by decide +kernel
theorem dX7_comes_11 : decode cX7_comes 11 = .ok (.getfield 23, 3) := by decide +kernel
theorem dX7_comes_14 : decode cX7_comes 14 = .ok (.aload_n 0, 1) := by decide +kernel
theorem dX7_comes_15 : decode cX7_comes 15 = .ok (.getfield 76, 3) := by decide +kernel
theorem dX7_comes_18 : decode cX7_comes 18 = .ok (.iload_n 2, 1) := by decide +kernel
theorem dX7_comes_19 : decode cX7_comes 19 = .ok (.iastore, 1) := by decide +kernel
theorem dX7_comes_20 : decode cX7_comes 20 = .ok (.aload_n 0, 1) := by decide +kernel
theorem dX7_comes_21 : decode cX7_comes 21 = .ok (.getfield 26, 3) := by decide +kernel
theorem dX7_comes_24 : decode cX7_comes 24 = .ok (.aload_n 0, 1) := by decide +kernel
theorem dX7_comes_25 : decode cX7_comes 25 = .ok (.getfield 76, 3) := by decide +kernel
theorem dX7_comes_28 : decode cX7_comes 28 = .ok (.iload_n 3, 1) := by decide +kernel
theorem dX7_comes_29 : decode cX7_comes 29 = .ok (.iastore, 1) := by decide +kernel
theorem dX7_comes_30 : decode cX7_comes 30 = .ok (.aload_n 0, 1) := by decide +kernel
theorem dX7_comes_31 : decode cX7_comes 31 = .ok (.getfield 29, 3) := by decide +kernel
theorem dX7_comes_34 : decode cX7_comes 34 = .ok (.aload_n 0, 1) := by decide +kernel
theorem dX7_comes_35 : decode cX7_comes 35 = .ok (.getfield 76, 3) := by decide +kernel
theorem dX7_comes_38 : decode cX7_comes 38 = .ok (.iload 4, 2) := by decide +kernel
theorem dX7_comes_40 : decode cX7_comes 40 = .ok (.iastore, 1) := by decide +kernel
theorem dX7_comes_41 : decode cX7_comes 41 = .ok (.aload_n 0, 1) := by decide +kernel
theorem dX7_comes_42 : decode cX7_comes 42 = .ok (.dup, 1) := by decide +kernel
theorem dX7_comes_43 : decode cX7_comes 43 = .ok (.getfield 76, 3) := by decide +kernel
theorem dX7_comes_46 : decode cX7_comes 46 = .ok (.iconst 1, 1) := by decide +kernel
theorem dX7_comes_47 : decode cX7_comes 47 = .ok (.iadd, 1) := by decide +kernel
theorem dX7_comes_48 : decode cX7_comes 48 = .ok (.putfield 76, 3) := by decide +kernel
theorem dX7_comes_51 : decode cX7_comes 51 = .ok (.return_, 1) := by decide +kernel
theorem dX7_parcel_0 : decode cX7_parcel 0 = .ok (.aload_n 0, 1) := by decide +kernel
theorem dX7_parcel_1 : decode cX7_parcel 1 = .ok (.iload_n 1, 1) := by decide +kernel
theorem dX7_parcel_2 : decode cX7_parcel 2 = .ok (.invokevirtual 91, 3) := by decide +kernel
theorem dX7_parcel_5 : decode cX7_parcel 5 = .ok (.ifCond .eq 27, 3) := by decide +kernel
theorem dX7_parcel_8 : decode cX7_parcel 8 = .ok (.aload_n 0, 1) := by decide +kernel
theorem dX7_parcel_9 : decode cX7_parcel 9 = .ok (.iload_n 2, 1) := by decide +kernel
theorem dX7_parcel_10 : decode cX7_parcel 10 = .ok (.invokevirtual 91, 3) := by decide +kernel
theorem dX7_parcel_13 : decode cX7_parcel 13 = .ok (.ifCond .eq 19, 3) := by decide +kernel
theorem dX7_parcel_16 : decode cX7_parcel 16 = .ok (.aload_n 0, 1) := by decide +kernel
theorem dX7_parcel_17 : decode cX7_parcel 17 = .ok (.iload_n 3, 1) := by decide +kernel
theorem dX7_parcel_18 : decode cX7_parcel 18 = .ok (.invokevirtual 91, 3) := by decide +kernel
theorem dX7_parcel_21 : decode cX7_parcel 21 = .ok (.ifCond .eq 11, 3) := by decide +kernel
theorem dX7_parcel_24 : decode cX7_parcel 24 = .ok (.iload 4, 2) := by decide +kernel
theorem dX7_parcel_26 : decode cX7_parcel 26 = .ok (.invokestatic 95, 3) := by decide +kernel
theorem dX7_parcel_29 : decode cX7_parcel 29 = .ok (.ifCond .ne 8, 3) := by decide +kernel
theorem dX7_parcel_32 : decode cX7_parcel 32 = .ok (.aload_n 0, 1) := by decide +kernel
theorem dX7_parcel_33 : decode cX7_parcel 33 = .ok (.invokevirtual 85, 3) := by decide +kernel
theorem dX7_parcel_36 : decode cX7_parcel 36 = .ok (.ireturn, 1) := by decide +kernel
theorem dX7_parcel_37 : decode cX7_parcel 37 = .ok (.aload_n 0, 1) := by decide +kernel
theorem dX7_parcel_38 : decode cX7_parcel 38 = .ok (.getfield 76, 3) := by decide +kernel
theorem dX7_parcel_41 : decode cX7_parcel 41 = .ok (.bipush 16, 2) := by decide +kernel
theorem dX7_parcel_43 : decode cX7_parcel 43 = .ok (.if_icmp .ne 8, 3) := by decide +kernel
theorem dX7_parcel_46 : decode cX7_parcel 46 = .ok (.aload_n 0, 1) := by decide +kernel
theorem dX7_parcel_47 : decode cX7_parcel 47 = .ok (.invokevirtual 98, 3) := by decide +kernel
theorem dX7_parcel_50 : decode cX7_parcel 50 = .ok (.ireturn, 1) := by decide +kernel
theorem dX7_parcel_51 : decode cX7_parcel 51 = .ok (.aload_n 0, 1) := by decide +kernel
theorem dX7_parcel_52 : decode cX7_parcel 52 = .ok (.invokevirtual 88, 3) := by decide +kernel
theorem dX7_parcel_55 : decode cX7_parcel 55 = .ok (.aload_n 0, 1) := by decide +kernel
theorem dX7_parcel_56 : decode cX7_parcel 56 = .ok (.iload_n 1, 1) := by decide +kernel
theorem dX7_parcel_57 : decode cX7_parcel 57 = .ok (.iload_n 2, 1) := by decide +kernel
theorem dX7_parcel_58 : decode cX7_parcel 58 = .ok (.iload_n 3, 1) := by decide +kernel
theorem dX7_parcel_59 : decode cX7_parcel 59 = .ok (.iload 4, 2) := by decide +kernel
theorem dX7_parcel_61 : decode cX7_parcel 61 = .ok (.invokevirtual 101, 3) := by decide +kernel
theorem dX7_parcel_64 : decode cX7_parcel 64 = .ok (.aload_n 0, 1) := by decide +kernel
theorem dX7_parcel_65 : decode cX7_parcel 65 = .ok (.getfield 76, 3) := by decide +kernel
theorem dX7_parcel_68 : decode cX7_parcel 68 = .ok (.iconst 1, 1) := by decide +kernel
theorem dX7_parcel_69 : decode cX7_parcel 69 = .ok (.isub, 1) := by decide +kernel
theorem dX7_parcel_70 : decode cX7_parcel 70 = .ok (.ireturn, 1) := by decide +kernel
theorem dX7_tells_0 : decode cX7_tells 0 = .ok (.iload_n 2, 1) := by decide +kernel
theorem dX7_tells_1 : decode cX7_tells 1 = .ok (.ifCond .ne 12, 3) := by decide +kernel
theorem dX7_tells_4 : decode cX7_tells 4 = .ok (.aload_n 0, 1) := by decide +kernel
theorem dX7_tells_5 : decode cX7_tells 5 = .ok (.getfield 20, 3) := by decide +kernel
theorem dX7_tells_8 : decode cX7_tells 8 = .ok (.iload_n 1, 1) := by decide +kernel
theorem dX7_tells_9 : decode cX7_tells 9 = .ok (.iaload, 1) := by decide +kernel
theorem dX7_tells_10 : decode cX7_tells 10 = .ok (.goto 37, 3) := by decide +kernel
theorem dX7_tells_13 : decode cX7_tells 13 = .ok (.iload_n 2, 1) := by decide +kernel
theorem dX7_tells_14 : decode cX7_tells 14 = .ok (.iconst 1, 1) := by decide +kernel
theorem dX7_tells_15 : decode cX7_tells 15 = .ok (.if_icmp .ne 12, 3) := by decide +kernel
theorem dX7_tells_18 : decode cX7_tells 18 = .ok (.aload_n 0, 1) := by decide +kernel
theorem dX7_tells_19 : decode cX7_tells 19 = .ok (.getfield 23, 3) := by decide +kernel
theorem dX7_tells_22 : decode cX7_tells 22 = .ok (.iload_n 1, 1) := by decide +kernel
theorem dX7_tells_23 : decode cX7_tells 23 = .ok (.iaload, 1) := by decide +kernel
theorem dX7_tells_24 : decode cX7_tells 24 = .ok (.goto 23, 3) := by decide +kernel
theorem dX7_tells_27 : decode cX7_tells 27 = .ok (.iload_n 2, 1) := by decide +kernel
theorem dX7_tells_28 : decode cX7_tells 28 = .ok (.iconst 2, 1) := by decide +kernel
theorem dX7_tells_29 : decode cX7_tells 29 = .ok (.if_icmp .ne 12, 3) := by decide +kernel
theorem dX7_tells_32 : decode cX7_tells 32 = .ok (.aload_n 0, 1) := by decide +kernel
theorem dX7_tells_33 : decode cX7_tells 33 = .ok (.getfield 26, 3) := by decide +kernel
theorem dX7_tells_36 : decode cX7_tells 36 = .ok (.iload_n 1, 1) := by decide +kernel
theorem dX7_tells_37 : decode cX7_tells 37 = .ok (.iaload, 1) := by decide +kernel
theorem dX7_tells_38 : decode cX7_tells 38 = .ok (.goto 9, 3) := by decide +kernel
theorem dX7_tells_41 : decode cX7_tells 41 = .ok (.aload_n 0, 1) := by decide +kernel
theorem dX7_tells_42 : decode cX7_tells 42 = .ok (.getfield 29, 3) := by decide +kernel
theorem dX7_tells_45 : decode cX7_tells 45 = .ok (.iload_n 1, 1) := by decide +kernel
theorem dX7_tells_46 : decode cX7_tells 46 = .ok (.iaload, 1) := by decide +kernel
theorem dX7_tells_47 : decode cX7_tells 47 = .ok (.ireturn, 1) := by decide +kernel
theorem dX7_sets_0 : decode cX7_sets 0 = .ok (.aload_n 0, 1) := by decide +kernel
theorem dX7_sets_1 : decode cX7_sets 1 = .ok (.iload_n 1, 1) := by decide +kernel
theorem dX7_sets_2 : decode cX7_sets 2 = .ok (.invokevirtual 105, 3) := by decide +kernel
theorem dX7_sets_5 : decode cX7_sets 5 = .ok (.ifCond .eq 35, 3) := by decide +kernel
theorem dX7_sets_8 : decode cX7_sets 8 = .ok (.iload_n 2, 1) := by decide +kernel
theorem dX7_sets_9 : decode cX7_sets 9 = .ok (.iconst 0, 1) := by decide +kernel
theorem dX7_sets_10 : decode cX7_sets 10 = .ok (.iconst 3, 1) := by decide +kernel
theorem dX7_sets_11 : decode cX7_sets 11 = .ok (.invokestatic 72, 3) := by decide +kernel
theorem dX7_sets_14 : decode cX7_sets 14 = .ok (.ifCond .eq 26, 3) := by decide +kernel
theorem dX7_sets_17 : decode cX7_sets 17 = .ok (.iload_n 2, 1) := by decide +kernel
theorem dX7_sets_18 : decode cX7_sets 18 = .ok (.iconst 3, 1) := by decide +kernel
theorem dX7_sets_19 : decode cX7_sets 19 = .ok (.if_icmp .ne 13, 3) := by decide +kernel
theorem dX7_sets_22 : decode cX7_sets 22 = .ok (.iload_n 3, 1) := by decide +kernel
theorem dX7_sets_23 : decode cX7_sets 23 = .ok (.invokestatic 95, 3) := by decide +kernel
theorem dX7_sets_26 : decode cX7_sets 26 = .ok (.ifCond .eq 14, 3) := by decide +kernel
theorem dX7_sets_29 : decode cX7_sets 29 = .ok (.goto 16, 3) := by decide +kernel
theorem dX7_sets_32 : decode cX7_sets 32 = .ok (.aload_n 0, 1) := by decide +kernel
theorem dX7_sets_33 : decode cX7_sets 33 = .ok (.iload_n 3, 1) := by decide +kernel
theorem dX7_sets_34 : decode cX7_sets 34 = .ok (.invokevirtual 91, 3) := by decide +kernel
theorem dX7_sets_37 : decode cX7_sets 37 = .ok (.ifCond .ne 8, 3) := by decide +kernel
theorem dX7_sets_40 : decode cX7_sets 40 = .ok (.aload_n 0, 1) := by decide +kernel
theorem dX7_sets_41 : decode cX7_sets 41 = .ok (.invokevirtual 85, 3) := by decide +kernel
theorem dX7_sets_44 : decode cX7_sets 44 = .ok (.ireturn, 1) := by decide +kernel
theorem dX7_sets_45 : decode cX7_sets 45 = .ok (.aload_n 0, 1) := by decide +kernel
theorem dX7_sets_46 : decode cX7_sets 46 = .ok (.invokevirtual 88, 3) := by decide +kernel
theorem dX7_sets_49 : decode cX7_sets 49 = .ok (.aload_n 0, 1) := by decide +kernel
theorem dX7_sets_50 : decode cX7_sets 50 = .ok (.iload_n 1, 1) := by decide +kernel
theorem dX7_sets_51 : decode cX7_sets 51 = .ok (.iload_n 2, 1) := by decide +kernel
theorem dX7_sets_52 : decode cX7_sets 52 = .ok (.invokevirtual 108, 3) := by decide +kernel
theorem dX7_sets_55 : decode cX7_sets 55 = .ok (.istore 4, 2) := by decide +kernel
theorem dX7_sets_57 : decode cX7_sets 57 = .ok (.aload_n 0, 1) := by decide +kernel
theorem dX7_sets_58 : decode cX7_sets 58 = .ok (.getfield 20, 3) := by decide +kernel
theorem dX7_sets_61 : decode cX7_sets 61 = .ok (.iload_n 1, 1) := by decide +kernel
theorem dX7_sets_62 : decode cX7_sets 62 = .ok (.iload_n 2, 1) := by decide +kernel
theorem dX7_sets_63 : decode cX7_sets 63 = .ok (.ifCond .ne 7, 3) := by decide +kernel
theorem dX7_sets_66 : decode cX7_sets 66 = .ok (.iload_n 3, 1) := by decide +kernel
theorem dX7_sets_67 : decode cX7_sets 67 = .ok (.goto 9, 3) := by decide +kernel
theorem dX7_sets_70 : decode cX7_sets 70 = .ok (.aload_n 0, 1) := by decide +kernel
theorem dX7_sets_71 : decode cX7_sets 71 = .ok (.getfield 20, 3) := by decide +kernel
theorem dX7_sets_74 : decode cX7_sets 74 = .ok (.iload_n 1, 1) := by decide +kernel
theorem dX7_sets_75 : decode cX7_sets 75 = .ok (.iaload, 1) := by decide +kernel
theorem dX7_sets_76 : decode cX7_sets 76 = .ok (.iastore, 1) := by decide +kernel
theorem dX7_sets_77 : decode cX7_sets 77 = .ok (.aload_n 0, 1) := by decide +kernel
theorem dX7_sets_78 : decode cX7_sets 78 = .ok (.getfield 23, 3) := by decide +kernel
theorem dX7_sets_81 : decode cX7_sets 81 = .ok (.iload_n 1, 1) := by decide +kernel
theorem dX7_sets_82 : decode cX7_sets 82 = .ok (.iload_n 2, 1) := by decide +kernel
theorem dX7_sets_83 : decode cX7_sets 83 = .ok (.iconst 1, 1) := by decide +kernel
theorem dX7_sets_84 : decode cX7_sets 84 = .ok (.if_icmp .ne 7, 3) := by decide +kernel
theorem dX7_sets_87 : decode cX7_sets 87 = .ok (.iload_n 3, 1) := by decide +kernel
theorem dX7_sets_88 : decode cX7_sets 88 = .ok (.goto 9, 3) := by decide +kernel
theorem dX7_sets_91 : decode cX7_sets 91 = .ok (.aload_n 0, 1) := by decide +kernel
theorem dX7_sets_92 : decode cX7_sets 92 = .ok (.getfield 23, 3) := by decide +kernel
theorem dX7_sets_95 : decode cX7_sets 95 = .ok (.iload_n 1, 1) := by decide +kernel
theorem dX7_sets_96 : decode cX7_sets 96 = .ok (.iaload, 1) := by decide +kernel
theorem dX7_sets_97 : decode cX7_sets 97 = .ok (.iastore, 1) := by decide +kernel
theorem dX7_sets_98 : decode cX7_sets 98 = .ok (.aload_n 0, 1) := by decide +kernel
theorem dX7_sets_99 : decode cX7_sets 99 = .ok (.getfield 26, 3) := by decide +kernel
theorem dX7_sets_102 : decode cX7_sets 102 = .ok (.iload_n 1, 1) := by decide +kernel
theorem dX7_sets_103 : decode cX7_sets 103 = .ok (.iload_n 2, 1) := by decide +kernel
theorem dX7_sets_104 : decode cX7_sets 104 = .ok (.iconst 2, 1) := by decide +kernel
theorem dX7_sets_105 : decode cX7_sets 105 = .ok (.if_icmp .ne 7, 3) := by decide +kernel
theorem dX7_sets_108 : decode cX7_sets 108 = .ok (.iload_n 3, 1) := by decide +kernel
theorem dX7_sets_109 : decode cX7_sets 109 = .ok (.goto 9, 3) := by decide +kernel
theorem dX7_sets_112 : decode cX7_sets 112 = .ok (.aload_n 0, 1) := by decide +kernel
theorem dX7_sets_113 : decode cX7_sets 113 = .ok (.getfield 26, 3) := by decide +kernel
theorem dX7_sets_116 : decode cX7_sets 116 = .ok (.iload_n 1, 1) := by decide +kernel
theorem dX7_sets_117 : decode cX7_sets 117 = .ok (.iaload, 1) := by decide +kernel
theorem dX7_sets_118 : decode cX7_sets 118 = .ok (.iastore, 1) := by decide +kernel
theorem dX7_sets_119 : decode cX7_sets 119 = .ok (.aload_n 0, 1) := by decide +kernel
theorem dX7_sets_120 : decode cX7_sets 120 = .ok (.getfield 29, 3) := by decide +kernel
theorem dX7_sets_123 : decode cX7_sets 123 = .ok (.iload_n 1, 1) := by decide +kernel
theorem dX7_sets_124 : decode cX7_sets 124 = .ok (.iload_n 2, 1) := by decide +kernel
theorem dX7_sets_125 : decode cX7_sets 125 = .ok (.iconst 3, 1) := by decide +kernel
theorem dX7_sets_126 : decode cX7_sets 126 = .ok (.if_icmp .ne 7, 3) := by decide +kernel
theorem dX7_sets_129 : decode cX7_sets 129 = .ok (.iload_n 3, 1) := by decide +kernel
theorem dX7_sets_130 : decode cX7_sets 130 = .ok (.goto 9, 3) := by decide +kernel
theorem dX7_sets_133 : decode cX7_sets 133 = .ok (.aload_n 0, 1) := by decide +kernel
theorem dX7_sets_134 : decode cX7_sets 134 = .ok (.getfield 29, 3) := by decide +kernel
theorem dX7_sets_137 : decode cX7_sets 137 = .ok (.iload_n 1, 1) := by decide +kernel
theorem dX7_sets_138 : decode cX7_sets 138 = .ok (.iaload, 1) := by decide +kernel
theorem dX7_sets_139 : decode cX7_sets 139 = .ok (.iastore, 1) := by decide +kernel
theorem dX7_sets_140 : decode cX7_sets 140 = .ok (.iload 4, 2) := by decide +kernel
theorem dX7_sets_142 : decode cX7_sets 142 = .ok (.ireturn, 1) := by decide +kernel
theorem dX7_rules_0 : decode cX7_rules 0 = .ok (.iload_n 1, 1) := by decide +kernel
theorem dX7_rules_1 : decode cX7_rules 1 = .ok (.iconst 0, 1) := by decide +kernel
theorem dX7_rules_2 : decode cX7_rules 2 = .ok (.iconst 1, 1) := by decide +kernel
theorem dX7_rules_3 : decode cX7_rules 3 = .ok (.invokestatic 72, 3) := by decide +kernel
theorem dX7_rules_6 : decode cX7_rules 6 = .ok (.ifCond .eq 20, 3) := by decide +kernel
theorem dX7_rules_9 : decode cX7_rules 9 = .ok (.iload_n 2, 1) := by decide +kernel
theorem dX7_rules_10 : decode cX7_rules 10 = .ok (.iconst 0, 1) := by decide +kernel
theorem dX7_rules_11 : decode cX7_rules 11 = .ok (.iload_n 1, 1) := by decide +kernel
theorem dX7_rules_12 : decode cX7_rules 12 = .ok (.ifCond .ne 7, 3) := by decide +kernel
theorem dX7_rules_15 : decode cX7_rules 15 = .ok (.iconst 1, 1) := by decide +kernel
theorem dX7_rules_16 : decode cX7_rules 16 = .ok (.goto 4, 3) := by decide +kernel
theorem dX7_rules_19 : decode cX7_rules 19 = .ok (.iconst 3, 1) := by decide +kernel
theorem dX7_rules_20 : decode cX7_rules 20 = .ok (.invokestatic 72, 3) := by decide +kernel
theorem dX7_rules_23 : decode cX7_rules 23 = .ok (.ifCond .ne 8, 3) := by decide +kernel
theorem dX7_rules_26 : decode cX7_rules 26 = .ok (.aload_n 0, 1) := by decide +kernel
theorem dX7_rules_27 : decode cX7_rules 27 = .ok (.invokevirtual 85, 3) := by decide +kernel
theorem dX7_rules_30 : decode cX7_rules 30 = .ok (.ireturn, 1) := by decide +kernel
theorem dX7_rules_31 : decode cX7_rules 31 = .ok (.aload_n 0, 1) := by decide +kernel
theorem dX7_rules_32 : decode cX7_rules 32 = .ok (.invokevirtual 88, 3) := by decide +kernel
theorem dX7_rules_35 : decode cX7_rules 35 = .ok (.aload_n 0, 1) := by decide +kernel
theorem dX7_rules_36 : decode cX7_rules 36 = .ok (.getfield 17, 3) := by decide +kernel
theorem dX7_rules_39 : decode cX7_rules 39 = .ok (.iload_n 1, 1) := by decide +kernel
theorem dX7_rules_40 : decode cX7_rules 40 = .ok (.iaload, 1) := by decide +kernel
theorem dX7_rules_41 : decode cX7_rules 41 = .ok (.istore_n 3, 1) := by decide +kernel
theorem dX7_rules_42 : decode cX7_rules 42 = .ok (.aload_n 0, 1) := by decide +kernel
theorem dX7_rules_43 : decode cX7_rules 43 = .ok (.getfield 17, 3) := by decide +kernel
theorem dX7_rules_46 : decode cX7_rules 46 = .ok (.iload_n 1, 1) := by decide +kernel
theorem dX7_rules_47 : decode cX7_rules 47 = .ok (.iload_n 2, 1) := by decide +kernel
theorem dX7_rules_48 : decode cX7_rules 48 = .ok (.iastore, 1) := by decide +kernel
theorem dX7_rules_49 : decode cX7_rules 49 = .ok (.iload_n 3, 1) := by decide +kernel
theorem dX7_rules_50 : decode cX7_rules 50 = .ok (.ireturn, 1) := by decide +kernel
theorem dX7_empties_0 : decode cX7_empties 0 = .ok (.aload_n 0, 1) := by decide +kernel
theorem dX7_empties_1 : decode cX7_empties 1 = .ok (.invokevirtual 88, 3) := by decide +kernel
theorem dX7_empties_4 : decode cX7_empties 4 = .ok (.aload_n 0, 1) := by decide +kernel
theorem dX7_empties_5 : decode cX7_empties 5 = .ok (.getfield 76, 3) := by decide +kernel
theorem dX7_empties_8 : decode cX7_empties 8 = .ok (.istore_n 1, 1) := by decide +kernel
theorem dX7_empties_9 : decode cX7_empties 9 = .ok (.aload_n 0, 1) := by decide +kernel
theorem dX7_empties_10 : decode cX7_empties 10 = .ok (.iconst 0, 1) := by decide +kernel
theorem dX7_empties_11 : decode cX7_empties 11 = .ok (.putfield 76, 3) := by decide +kernel
theorem dX7_empties_14 : decode cX7_empties 14 = .ok (.iload_n 1, 1) := by decide +kernel
theorem dX7_empties_15 : decode cX7_empties 15 = .ok (.ireturn, 1) := by decide +kernel
theorem dX7_turned_0 : decode cX7_turned 0 = .ok (.iconst 0, 1) := by decide +kernel
theorem dX7_turned_1 : decode cX7_turned 1 = .ok (.istore_n 2, 1) := by decide +kernel
theorem dX7_turned_2 : decode cX7_turned 2 = .ok (.iconst 0, 1) := by decide +kernel
theorem dX7_turned_3 : decode cX7_turned 3 = .ok (.istore_n 3, 1) := by decide +kernel
theorem dX7_turned_4 : decode cX7_turned 4 = .ok (.iload_n 3, 1) := by decide +kernel
theorem dX7_turned_5 : decode cX7_turned 5 = .ok (.aload_n 0, 1) := by decide +kernel
theorem dX7_turned_6 : decode cX7_turned 6 = .ok (.getfield 13, 3) := by decide +kernel
theorem dX7_turned_9 : decode cX7_turned 9 = .ok (.if_icmp .ge 26, 3) := by decide +kernel
theorem dX7_turned_12 : decode cX7_turned 12 = .ok (.iload_n 2, 1) := by decide +kernel
theorem dX7_turned_13 : decode cX7_turned 13 = .ok (.iload_n 1, 1) := by decide +kernel
theorem dX7_turned_14 : decode cX7_turned 14 = .ok (.iload_n 3, 1) := by decide +kernel
theorem dX7_turned_15 : decode cX7_turned 15 = .ok (.ishr, 1) := by decide +kernel
theorem dX7_turned_16 : decode cX7_turned 16 = .ok (.iconst 1, 1) := by decide +kernel
theorem dX7_turned_17 : decode cX7_turned 17 = .ok (.iand, 1) := by decide +kernel
theorem dX7_turned_18 : decode cX7_turned 18 = .ok (.aload_n 0, 1) := by decide +kernel
theorem dX7_turned_19 : decode cX7_turned 19 = .ok (.getfield 13, 3) := by decide +kernel
theorem dX7_turned_22 : decode cX7_turned 22 = .ok (.iconst 1, 1) := by decide +kernel
theorem dX7_turned_23 : decode cX7_turned 23 = .ok (.isub, 1) := by decide +kernel
theorem dX7_turned_24 : decode cX7_turned 24 = .ok (.iload_n 3, 1) := by decide +kernel
theorem dX7_turned_25 : decode cX7_turned 25 = .ok (.isub, 1) := by decide +kernel
theorem dX7_turned_26 : decode cX7_turned 26 = .ok (.ishl, 1) := by decide +kernel
theorem dX7_turned_27 : decode cX7_turned 27 = .ok (.ior, 1) := by decide +kernel
theorem dX7_turned_28 : decode cX7_turned 28 = .ok (.istore_n 2, 1) := by decide +kernel
theorem dX7_turned_29 : decode cX7_turned 29 = .ok (.iinc 3 1, 3) := by decide +kernel
theorem dX7_turned_32 : decode cX7_turned 32 = .ok (.goto (-28), 3) := by decide +kernel
theorem dX7_turned_35 : decode cX7_turned 35 = .ok (.iload_n 2, 1) := by decide +kernel
theorem dX7_turned_36 : decode cX7_turned 36 = .ok (.ireturn, 1) := by decide +kernel
theorem dX7_fills_0 : decode cX7_fills 0 = .ok (.iload_n 1, 1) := by decide +kernel
theorem dX7_fills_1 : decode cX7_fills 1 = .ok (.iconst 0, 1) := by decide +kernel
theorem dX7_fills_2 : decode cX7_fills 2 = .ok (.iconst 3, 1) := by decide +kernel
theorem dX7_fills_3 : decode cX7_fills 3 = .ok (.invokestatic 72, 3) := by decide +kernel
theorem dX7_fills_6 : decode cX7_fills 6 = .ok (.ifCond .eq 13, 3) := by decide +kernel
theorem dX7_fills_9 : decode cX7_fills 9 = .ok (.iload_n 2, 1) := by decide +kernel
theorem dX7_fills_10 : decode cX7_fills 10 = .ok (.iconst 0, 1) := by decide +kernel
theorem dX7_fills_11 : decode cX7_fills 11 = .ok (.ldc 112, 2) := by decide +kernel
theorem dX7_fills_13 : decode cX7_fills 13 = .ok (.invokestatic 72, 3) := by decide +kernel
theorem dX7_fills_16 : decode cX7_fills 16 = .ok (.ifCond .ne 8, 3) := by decide +kernel
theorem dX7_fills_19 : decode cX7_fills 19 = .ok (.aload_n 0, 1) := by decide +kernel
theorem dX7_fills_20 : decode cX7_fills 20 = .ok (.invokevirtual 85, 3) := by decide +kernel
theorem dX7_fills_23 : decode cX7_fills 23 = .ok (.ireturn, 1) := by decide +kernel
theorem dX7_fills_24 : decode cX7_fills 24 = .ok (.aload_n 0, 1) := by decide +kernel
theorem dX7_fills_25 : decode cX7_fills 25 = .ok (.invokevirtual 88, 3) := by decide +kernel
theorem dX7_fills_28 : decode cX7_fills 28 = .ok (.aload_n 0, 1) := by decide +kernel
theorem dX7_fills_29 : decode cX7_fills 29 = .ok (.invokevirtual 68, 3) := by decide +kernel
theorem dX7_fills_32 : decode cX7_fills 32 = .ok (.istore_n 3, 1) := by decide +kernel
theorem dX7_fills_33 : decode cX7_fills 33 = .ok (.aload_n 0, 1) := by decide +kernel
theorem dX7_fills_34 : decode cX7_fills 34 = .ok (.iconst 0, 1) := by decide +kernel
theorem dX7_fills_35 : decode cX7_fills 35 = .ok (.putfield 76, 3) := by decide +kernel
theorem dX7_fills_38 : decode cX7_fills 38 = .ok (.iload_n 2, 1) := by decide +kernel
theorem dX7_fills_39 : decode cX7_fills 39 = .ok (.i2l, 1) := by decide +kernel
theorem dX7_fills_40 : decode cX7_fills 40 = .ok (.lstore 4, 2) := by decide +kernel
theorem dX7_fills_42 : decode cX7_fills 42 = .ok (.iconst 0, 1) := by decide +kernel
theorem dX7_fills_43 : decode cX7_fills 43 = .ok (.istore 6, 2) := by decide +kernel
theorem dX7_fills_45 : decode cX7_fills 45 = .ok (.iload 6, 2) := by decide +kernel
theorem dX7_fills_47 : decode cX7_fills 47 = .ok (.iload_n 3, 1) := by decide +kernel
theorem dX7_fills_48 : decode cX7_fills 48 = .ok (.if_icmp .ge 107, 3) := by decide +kernel
theorem dX7_fills_51 : decode cX7_fills 51 = .ok (.lload 4, 2) := by decide +kernel
theorem dX7_fills_53 : decode cX7_fills 53 = .ok (.ldc2_w 113, 3) := by decide +kernel
theorem dX7_fills_56 : decode cX7_fills 56 = .ok (.lmul, 1) := by decide +kernel
theorem dX7_fills_57 : decode cX7_fills 57 = .ok (.ldc2_w 115, 3) := by decide +kernel
theorem dX7_fills_60 : decode cX7_fills 60 = .ok (.ladd, 1) := by decide +kernel
theorem dX7_fills_61 : decode cX7_fills 61 = .ok (.ldc2_w 117, 3) := by decide +kernel
theorem dX7_fills_64 : decode cX7_fills 64 = .ok (.lrem, 1) := by decide +kernel
theorem dX7_fills_65 : decode cX7_fills 65 = .ok (.lstore 4, 2) := by decide +kernel
theorem dX7_fills_67 : decode cX7_fills 67 = .ok (.iload_n 1, 1) := by decide +kernel
theorem dX7_fills_68 : decode cX7_fills 68 = .ok (.ifCond .ne 12, 3) := by decide +kernel
theorem dX7_fills_71 : decode cX7_fills 71 = .ok (.iload_n 3, 1) := by decide +kernel
theorem dX7_fills_72 : decode cX7_fills 72 = .ok (.iconst 1, 1) := by decide +kernel
theorem dX7_fills_73 : decode cX7_fills 73 = .ok (.isub, 1) := by decide +kernel
theorem dX7_fills_74 : decode cX7_fills 74 = .ok (.iload 6, 2) := by decide +kernel
theorem dX7_fills_76 : decode cX7_fills 76 = .ok (.isub, 1) := by decide +kernel
theorem dX7_fills_77 : decode cX7_fills 77 = .ok (.goto 41, 3) := by decide +kernel
theorem dX7_fills_80 : decode cX7_fills 80 = .ok (.iload_n 1, 1) := by decide +kernel
theorem dX7_fills_81 : decode cX7_fills 81 = .ok (.iconst 1, 1) := by decide +kernel
theorem dX7_fills_82 : decode cX7_fills 82 = .ok (.if_icmp .ne 12, 3) := by decide +kernel
theorem dX7_fills_85 : decode cX7_fills 85 = .ok (.aload_n 0, 1) := by decide +kernel
theorem dX7_fills_86 : decode cX7_fills 86 = .ok (.iload 6, 2) := by decide +kernel
theorem dX7_fills_88 : decode cX7_fills 88 = .ok (.invokevirtual 119, 3) := by decide +kernel
theorem dX7_fills_91 : decode cX7_fills 91 = .ok (.goto 27, 3) := by decide +kernel
theorem dX7_fills_94 : decode cX7_fills 94 = .ok (.iload_n 1, 1) := by decide +kernel
theorem dX7_fills_95 : decode cX7_fills 95 = .ok (.iconst 2, 1) := by decide +kernel
theorem dX7_fills_96 : decode cX7_fills 96 = .ok (.if_icmp .ne 12, 3) := by decide +kernel
theorem dX7_fills_99 : decode cX7_fills 99 = .ok (.iload 6, 2) := by decide +kernel
theorem dX7_fills_101 : decode cX7_fills 101 = .ok (.iconst 1, 1) := by decide +kernel
theorem dX7_fills_102 : decode cX7_fills 102 = .ok (.iadd, 1) := by decide +kernel
theorem dX7_fills_103 : decode cX7_fills 103 = .ok (.iload_n 3, 1) := by decide +kernel
theorem dX7_fills_104 : decode cX7_fills 104 = .ok (.irem, 1) := by decide +kernel
theorem dX7_fills_105 : decode cX7_fills 105 = .ok (.goto 13, 3) := by decide +kernel
theorem dX7_fills_108 : decode cX7_fills 108 = .ok (.lload 4, 2) := by decide +kernel
theorem dX7_fills_110 : decode cX7_fills 110 = .ok (.ldc2_w 123, 3) := by decide +kernel
theorem dX7_fills_113 : decode cX7_fills 113 = .ok (.ldiv, 1) := by decide +kernel
theorem dX7_fills_114 : decode cX7_fills 114 = .ok (.iload_n 3, 1) := by decide +kernel
theorem dX7_fills_115 : decode cX7_fills 115 = .ok (.i2l, 1) := by decide +kernel
theorem dX7_fills_116 : decode cX7_fills 116 = .ok (.lrem, 1) := by decide +kernel
theorem dX7_fills_117 : decode cX7_fills 117 = .ok (.l2i, 1) := by decide +kernel
theorem dX7_fills_118 : decode cX7_fills 118 = .ok (.istore 7, 2) := by decide +kernel
theorem dX7_fills_120 : decode cX7_fills 120 = .ok (.aload_n 0, 1) := by decide +kernel
theorem dX7_fills_121 : decode cX7_fills 121 = .ok (.iload 6, 2) := by decide +kernel
theorem dX7_fills_123 : decode cX7_fills 123 = .ok (.iload 7, 2) := by decide +kernel
theorem dX7_fills_125 : decode cX7_fills 125 = .ok (.lload 4, 2) := by decide +kernel
theorem dX7_fills_127 : decode cX7_fills 127 = .ok (.ldc2_w 125, 3) := by decide +kernel
theorem dX7_fills_130 : decode cX7_fills 130 = .ok (.ldiv, 1) := by decide +kernel
theorem dX7_fills_131 : decode cX7_fills 131 = .ok (.iload_n 3, 1) := by decide +kernel
theorem dX7_fills_132 : decode cX7_fills 132 = .ok (.i2l, 1) := by decide +kernel
theorem dX7_fills_133 : decode cX7_fills 133 = .ok (.lrem, 1) := by decide +kernel
theorem dX7_fills_134 : decode cX7_fills 134 = .ok (.l2i, 1) := by decide +kernel
theorem dX7_fills_135 : decode cX7_fills 135 = .ok (.lload 4, 2) := by decide +kernel
theorem dX7_fills_137 : decode cX7_fills 137 = .ok (.ldc2_w 127, 3) := by decide +kernel
theorem dX7_fills_140 : decode cX7_fills 140 = .ok (.ldiv, 1) := by decide +kernel
theorem dX7_fills_141 : decode cX7_fills 141 = .ok (.ldc2_w 129, 3) := by decide +kernel
theorem dX7_fills_144 : decode cX7_fills 144 = .ok (.lrem, 1) := by decide +kernel
theorem dX7_fills_145 : decode cX7_fills 145 = .ok (.l2i, 1) := by decide +kernel
theorem dX7_fills_146 : decode cX7_fills 146 = .ok (.invokevirtual 101, 3) := by decide +kernel
theorem dX7_fills_149 : decode cX7_fills 149 = .ok (.iinc 6 1, 3) := by decide +kernel
theorem dX7_fills_152 : decode cX7_fills 152 = .ok (.goto (-107), 3) := by decide +kernel
theorem dX7_fills_155 : decode cX7_fills 155 = .ok (.aload_n 0, 1) := by decide +kernel
theorem dX7_fills_156 : decode cX7_fills 156 = .ok (.getfield 76, 3) := by decide +kernel
theorem dX7_fills_159 : decode cX7_fills 159 = .ok (.ireturn, 1) := by decide +kernel
theorem dX7_comesLeg_0 : decode cX7_comesLeg 0 = .ok (.iload_n 2, 1) := by decide +kernel
theorem dX7_comesLeg_1 : decode cX7_comesLeg 1 = .ok (.istore 4, 2) := by decide +kernel
theorem dX7_comesLeg_3 : decode cX7_comesLeg 3 = .ok (.iconst 0, 1) := by decide +kernel
theorem dX7_comesLeg_4 : decode cX7_comesLeg 4 = .ok (.istore 5, 2) := by decide +kernel
theorem dX7_comesLeg_6 : decode cX7_comesLeg 6 = .ok (.iload 5, 2) := by decide +kernel
theorem dX7_comesLeg_8 : decode cX7_comesLeg 8 = .ok (.aload_n 0, 1) := by decide +kernel
theorem dX7_comesLeg_9 : decode cX7_comesLeg 9 = .ok (.getfield 13, 3) := by decide +kernel
theorem dX7_comesLeg_12 : decode cX7_comesLeg 12 = .ok (.if_icmp .ge 84, 3) := by decide +kernel
theorem dX7_comesLeg_15 : decode cX7_comesLeg 15 = .ok (.aload_n 0, 1) := by decide +kernel
theorem dX7_comesLeg_16 : decode cX7_comesLeg 16 = .ok (.getfield 17, 3) := by decide +kernel
theorem dX7_comesLeg_19 : decode cX7_comesLeg 19 = .ok (.iconst 0, 1) := by decide +kernel
theorem dX7_comesLeg_20 : decode cX7_comesLeg 20 = .ok (.iaload, 1) := by decide +kernel
theorem dX7_comesLeg_21 : decode cX7_comesLeg 21 = .ok (.ifCond .ne 8, 3) := by decide +kernel
theorem dX7_comesLeg_24 : decode cX7_comesLeg 24 = .ok (.iload 5, 2) := by decide +kernel
theorem dX7_comesLeg_26 : decode cX7_comesLeg 26 = .ok (.goto 12, 3) := by decide +kernel
theorem dX7_comesLeg_29 : decode cX7_comesLeg 29 = .ok (.aload_n 0, 1) := by decide +kernel
theorem dX7_comesLeg_30 : decode cX7_comesLeg 30 = .ok (.getfield 13, 3) := by decide +kernel
theorem dX7_comesLeg_33 : decode cX7_comesLeg 33 = .ok (.iconst 1, 1) := by decide +kernel
theorem dX7_comesLeg_34 : decode cX7_comesLeg 34 = .ok (.isub, 1) := by decide +kernel
theorem dX7_comesLeg_35 : decode cX7_comesLeg 35 = .ok (.iload 5, 2) := by decide +kernel
theorem dX7_comesLeg_37 : decode cX7_comesLeg 37 = .ok (.isub, 1) := by decide +kernel
theorem dX7_comesLeg_38 : decode cX7_comesLeg 38 = .ok (.istore 6, 2) := by decide +kernel
theorem dX7_comesLeg_40 : decode cX7_comesLeg 40 = .ok (.iload 4, 2) := by decide +kernel
theorem dX7_comesLeg_42 : decode cX7_comesLeg 42 = .ok (.iload_n 3, 1) := by decide +kernel
theorem dX7_comesLeg_43 : decode cX7_comesLeg 43 = .ok (.ixor, 1) := by decide +kernel
theorem dX7_comesLeg_44 : decode cX7_comesLeg 44 = .ok (.iload 6, 2) := by decide +kernel
theorem dX7_comesLeg_46 : decode cX7_comesLeg 46 = .ok (.ishr, 1) := by decide +kernel
theorem dX7_comesLeg_47 : decode cX7_comesLeg 47 = .ok (.iconst 1, 1) := by decide +kernel
theorem dX7_comesLeg_48 : decode cX7_comesLeg 48 = .ok (.iand, 1) := by decide +kernel
theorem dX7_comesLeg_49 : decode cX7_comesLeg 49 = .ok (.iconst 1, 1) := by decide +kernel
theorem dX7_comesLeg_50 : decode cX7_comesLeg 50 = .ok (.if_icmp .ne 40, 3) := by decide +kernel
theorem dX7_comesLeg_53 : decode cX7_comesLeg 53 = .ok (.iload 4, 2) := by decide +kernel
theorem dX7_comesLeg_55 : decode cX7_comesLeg 55 = .ok (.iconst 1, 1) := by decide +kernel
theorem dX7_comesLeg_56 : decode cX7_comesLeg 56 = .ok (.iload 6, 2) := by decide +kernel
theorem dX7_comesLeg_58 : decode cX7_comesLeg 58 = .ok (.ishl, 1) := by decide +kernel
theorem dX7_comesLeg_59 : decode cX7_comesLeg 59 = .ok (.ixor, 1) := by decide +kernel
theorem dX7_comesLeg_60 : decode cX7_comesLeg 60 = .ok (.istore 4, 2) := by decide +kernel
theorem dX7_comesLeg_62 : decode cX7_comesLeg 62 = .ok (.aload_n 0, 1) := by decide +kernel
theorem dX7_comesLeg_63 : decode cX7_comesLeg 63 = .ok (.getfield 35, 3) := by decide +kernel
theorem dX7_comesLeg_66 : decode cX7_comesLeg 66 = .ok (.iload_n 1, 1) := by decide +kernel
theorem dX7_comesLeg_67 : decode cX7_comesLeg 67 = .ok (.dup2, 1) := by decide +kernel
theorem dX7_comesLeg_68 : decode cX7_comesLeg 68 = .ok (.iaload, 1) := by decide +kernel
theorem dX7_comesLeg_69 : decode cX7_comesLeg 69 = .ok (.iconst 1, 1) := by decide +kernel
theorem dX7_comesLeg_70 : decode cX7_comesLeg 70 = .ok (.iadd, 1) := by decide +kernel
theorem dX7_comesLeg_71 : decode cX7_comesLeg 71 = .ok (.iastore, 1) := by decide +kernel
theorem dX7_comesLeg_72 : decode cX7_comesLeg 72 = .ok (.aload_n 0, 1) := by decide +kernel
theorem dX7_comesLeg_73 : decode cX7_comesLeg 73 = .ok (.getfield 41, 3) := by decide +kernel
theorem dX7_comesLeg_76 : decode cX7_comesLeg 76 = .ok (.bipush 9, 2) := by decide +kernel
theorem dX7_comesLeg_78 : decode cX7_comesLeg 78 = .ok (.iload_n 1, 1) := by decide +kernel
theorem dX7_comesLeg_79 : decode cX7_comesLeg 79 = .ok (.imul, 1) := by decide +kernel
theorem dX7_comesLeg_80 : decode cX7_comesLeg 80 = .ok (.aload_n 0, 1) := by decide +kernel
theorem dX7_comesLeg_81 : decode cX7_comesLeg 81 = .ok (.getfield 35, 3) := by decide +kernel
theorem dX7_comesLeg_84 : decode cX7_comesLeg 84 = .ok (.iload_n 1, 1) := by decide +kernel
theorem dX7_comesLeg_85 : decode cX7_comesLeg 85 = .ok (.iaload, 1) := by decide +kernel
theorem dX7_comesLeg_86 : decode cX7_comesLeg 86 = .ok (.iadd, 1) := by decide +kernel
theorem dX7_comesLeg_87 : decode cX7_comesLeg 87 = .ok (.iload 4, 2) := by decide +kernel
theorem dX7_comesLeg_89 : decode cX7_comesLeg 89 = .ok (.iastore, 1) := by decide +kernel
theorem dX7_comesLeg_90 : decode cX7_comesLeg 90 = .ok (.iinc 5 1, 3) := by decide +kernel
theorem dX7_comesLeg_93 : decode cX7_comesLeg 93 = .ok (.goto (-87), 3) := by decide +kernel
theorem dX7_comesLeg_96 : decode cX7_comesLeg 96 = .ok (.return_, 1) := by decide +kernel
theorem dX7_setWay_0 : decode cX7_setWay 0 = .ok (.aload_n 0, 1) := by decide +kernel
theorem dX7_setWay_1 : decode cX7_setWay 1 = .ok (.getfield 35, 3) := by decide +kernel
theorem dX7_setWay_4 : decode cX7_setWay 4 = .ok (.iload_n 1, 1) := by decide +kernel
theorem dX7_setWay_5 : decode cX7_setWay 5 = .ok (.iconst 0, 1) := by decide +kernel
theorem dX7_setWay_6 : decode cX7_setWay 6 = .ok (.iastore, 1) := by decide +kernel
theorem dX7_setWay_7 : decode cX7_setWay 7 = .ok (.aload_n 0, 1) := by decide +kernel
theorem dX7_setWay_8 : decode cX7_setWay 8 = .ok (.getfield 41, 3) := by decide +kernel
theorem dX7_setWay_11 : decode cX7_setWay 11 = .ok (.bipush 9, 2) := by decide +kernel
theorem dX7_setWay_13 : decode cX7_setWay 13 = .ok (.iload_n 1, 1) := by decide +kernel
theorem dX7_setWay_14 : decode cX7_setWay 14 = .ok (.imul, 1) := by decide +kernel
theorem dX7_setWay_15 : decode cX7_setWay 15 = .ok (.aload_n 0, 1) := by decide +kernel
theorem dX7_setWay_16 : decode cX7_setWay 16 = .ok (.getfield 20, 3) := by decide +kernel
theorem dX7_setWay_19 : decode cX7_setWay 19 = .ok (.iload_n 1, 1) := by decide +kernel
theorem dX7_setWay_20 : decode cX7_setWay 20 = .ok (.iaload, 1) := by decide +kernel
theorem dX7_setWay_21 : decode cX7_setWay 21 = .ok (.iastore, 1) := by decide +kernel
theorem dX7_setWay_22 : decode cX7_setWay 22 = .ok (.aload_n 0, 1) := by decide +kernel
theorem dX7_setWay_23 : decode cX7_setWay 23 = .ok (.iload_n 1, 1) := by decide +kernel
theorem dX7_setWay_24 : decode cX7_setWay 24 = .ok (.aload_n 0, 1) := by decide +kernel
theorem dX7_setWay_25 : decode cX7_setWay 25 = .ok (.getfield 20, 3) := by decide +kernel
theorem dX7_setWay_28 : decode cX7_setWay 28 = .ok (.iload_n 1, 1) := by decide +kernel
theorem dX7_setWay_29 : decode cX7_setWay 29 = .ok (.iaload, 1) := by decide +kernel
theorem dX7_setWay_30 : decode cX7_setWay 30 = .ok (.iload_n 2, 1) := by decide +kernel
theorem dX7_setWay_31 : decode cX7_setWay 31 = .ok (.invokevirtual 131, 3) := by decide +kernel
theorem dX7_setWay_34 : decode cX7_setWay 34 = .ok (.aload_n 0, 1) := by decide +kernel
theorem dX7_setWay_35 : decode cX7_setWay 35 = .ok (.getfield 38, 3) := by decide +kernel
theorem dX7_setWay_38 : decode cX7_setWay 38 = .ok (.iload_n 1, 1) := by decide +kernel
theorem dX7_setWay_39 : decode cX7_setWay 39 = .ok (.aload_n 0, 1) := by decide +kernel
theorem dX7_setWay_40 : decode cX7_setWay 40 = .ok (.getfield 35, 3) := by decide +kernel
theorem dX7_setWay_43 : decode cX7_setWay 43 = .ok (.iload_n 1, 1) := by decide +kernel
theorem dX7_setWay_44 : decode cX7_setWay 44 = .ok (.iaload, 1) := by decide +kernel
theorem dX7_setWay_45 : decode cX7_setWay 45 = .ok (.iastore, 1) := by decide +kernel
theorem dX7_setWay_46 : decode cX7_setWay 46 = .ok (.aload_n 0, 1) := by decide +kernel
theorem dX7_setWay_47 : decode cX7_setWay 47 = .ok (.iload_n 1, 1) := by decide +kernel
theorem dX7_setWay_48 : decode cX7_setWay 48 = .ok (.iload_n 2, 1) := by decide +kernel
theorem dX7_setWay_49 : decode cX7_setWay 49 = .ok (.aload_n 0, 1) := by decide +kernel
theorem dX7_setWay_50 : decode cX7_setWay 50 = .ok (.getfield 23, 3) := by decide +kernel
theorem dX7_setWay_53 : decode cX7_setWay 53 = .ok (.iload_n 1, 1) := by decide +kernel
theorem dX7_setWay_54 : decode cX7_setWay 54 = .ok (.iaload, 1) := by decide +kernel
theorem dX7_setWay_55 : decode cX7_setWay 55 = .ok (.invokevirtual 131, 3) := by decide +kernel
theorem dX7_setWay_58 : decode cX7_setWay 58 = .ok (.return_, 1) := by decide +kernel
theorem dX7_setWays_0 : decode cX7_setWays 0 = .ok (.iconst 0, 1) := by decide +kernel
theorem dX7_setWays_1 : decode cX7_setWays 1 = .ok (.istore_n 1, 1) := by decide +kernel
theorem dX7_setWays_2 : decode cX7_setWays 2 = .ok (.iload_n 1, 1) := by decide +kernel
theorem dX7_setWays_3 : decode cX7_setWays 3 = .ok (.aload_n 0, 1) := by decide +kernel
theorem dX7_setWays_4 : decode cX7_setWays 4 = .ok (.getfield 76, 3) := by decide +kernel
theorem dX7_setWays_7 : decode cX7_setWays 7 = .ok (.if_icmp .ge 20, 3) := by decide +kernel
theorem dX7_setWays_10 : decode cX7_setWays 10 = .ok (.aload_n 0, 1) := by decide +kernel
theorem dX7_setWays_11 : decode cX7_setWays 11 = .ok (.iload_n 1, 1) := by decide +kernel
theorem dX7_setWays_12 : decode cX7_setWays 12 = .ok (.aload_n 0, 1) := by decide +kernel
theorem dX7_setWays_13 : decode cX7_setWays 13 = .ok (.getfield 26, 3) := by decide +kernel
theorem dX7_setWays_16 : decode cX7_setWays 16 = .ok (.iload_n 1, 1) := by decide +kernel
theorem dX7_setWays_17 : decode cX7_setWays 17 = .ok (.iaload, 1) := by decide +kernel
theorem dX7_setWays_18 : decode cX7_setWays 18 = .ok (.invokevirtual 135, 3) := by decide +kernel
theorem dX7_setWays_21 : decode cX7_setWays 21 = .ok (.iinc 1 1, 3) := by decide +kernel
theorem dX7_setWays_24 : decode cX7_setWays 24 = .ok (.goto (-22), 3) := by decide +kernel
theorem dX7_setWays_27 : decode cX7_setWays 27 = .ok (.return_, 1) := by decide +kernel
theorem dX7_edgeOf_0 : decode cX7_edgeOf 0 = .ok (.aload_n 0, 1) := by decide +kernel
theorem dX7_edgeOf_1 : decode cX7_edgeOf 1 = .ok (.getfield 41, 3) := by decide +kernel
theorem dX7_edgeOf_4 : decode cX7_edgeOf 4 = .ok (.bipush 9, 2) := by decide +kernel
theorem dX7_edgeOf_6 : decode cX7_edgeOf 6 = .ok (.iload_n 1, 1) := by decide +kernel
theorem dX7_edgeOf_7 : decode cX7_edgeOf 7 = .ok (.imul, 1) := by decide +kernel
theorem dX7_edgeOf_8 : decode cX7_edgeOf 8 = .ok (.iload_n 2, 1) := by decide +kernel
theorem dX7_edgeOf_9 : decode cX7_edgeOf 9 = .ok (.iadd, 1) := by decide +kernel
theorem dX7_edgeOf_10 : decode cX7_edgeOf 10 = .ok (.iaload, 1) := by decide +kernel
theorem dX7_edgeOf_11 : decode cX7_edgeOf 11 = .ok (.istore_n 3, 1) := by decide +kernel
theorem dX7_edgeOf_12 : decode cX7_edgeOf 12 = .ok (.iload_n 3, 1) := by decide +kernel
theorem dX7_edgeOf_13 : decode cX7_edgeOf 13 = .ok (.aload_n 0, 1) := by decide +kernel
theorem dX7_edgeOf_14 : decode cX7_edgeOf 14 = .ok (.getfield 41, 3) := by decide +kernel
theorem dX7_edgeOf_17 : decode cX7_edgeOf 17 = .ok (.bipush 9, 2) := by decide +kernel
theorem dX7_edgeOf_19 : decode cX7_edgeOf 19 = .ok (.iload_n 1, 1) := by decide +kernel
theorem dX7_edgeOf_20 : decode cX7_edgeOf 20 = .ok (.imul, 1) := by decide +kernel
theorem dX7_edgeOf_21 : decode cX7_edgeOf 21 = .ok (.iload_n 2, 1) := by decide +kernel
theorem dX7_edgeOf_22 : decode cX7_edgeOf 22 = .ok (.iadd, 1) := by decide +kernel
theorem dX7_edgeOf_23 : decode cX7_edgeOf 23 = .ok (.iconst 1, 1) := by decide +kernel
theorem dX7_edgeOf_24 : decode cX7_edgeOf 24 = .ok (.iadd, 1) := by decide +kernel
theorem dX7_edgeOf_25 : decode cX7_edgeOf 25 = .ok (.iaload, 1) := by decide +kernel
theorem dX7_edgeOf_26 : decode cX7_edgeOf 26 = .ok (.ixor, 1) := by decide +kernel
theorem dX7_edgeOf_27 : decode cX7_edgeOf 27 = .ok (.istore 4, 2) := by decide +kernel
theorem dX7_edgeOf_29 : decode cX7_edgeOf 29 = .ok (.iconst 4, 1) := by decide +kernel
theorem dX7_edgeOf_30 : decode cX7_edgeOf 30 = .ok (.iload_n 3, 1) := by decide +kernel
theorem dX7_edgeOf_31 : decode cX7_edgeOf 31 = .ok (.imul, 1) := by decide +kernel
theorem dX7_edgeOf_32 : decode cX7_edgeOf 32 = .ok (.iload 4, 2) := by decide +kernel
theorem dX7_edgeOf_34 : decode cX7_edgeOf 34 = .ok (.iconst 1, 1) := by decide +kernel
theorem dX7_edgeOf_35 : decode cX7_edgeOf 35 = .ok (.if_icmp .ne 7, 3) := by decide +kernel
theorem dX7_edgeOf_38 : decode cX7_edgeOf 38 = .ok (.iconst 0, 1) := by decide +kernel
theorem dX7_edgeOf_39 : decode cX7_edgeOf 39 = .ok (.goto 24, 3) := by decide +kernel
theorem dX7_edgeOf_42 : decode cX7_edgeOf 42 = .ok (.iload 4, 2) := by decide +kernel
theorem dX7_edgeOf_44 : decode cX7_edgeOf 44 = .ok (.iconst 2, 1) := by decide +kernel
theorem dX7_edgeOf_45 : decode cX7_edgeOf 45 = .ok (.if_icmp .ne 7, 3) := by decide +kernel
theorem dX7_edgeOf_48 : decode cX7_edgeOf 48 = .ok (.iconst 1, 1) := by decide +kernel
theorem dX7_edgeOf_49 : decode cX7_edgeOf 49 = .ok (.goto 14, 3) := by decide +kernel
theorem dX7_edgeOf_52 : decode cX7_edgeOf 52 = .ok (.iload 4, 2) := by decide +kernel
theorem dX7_edgeOf_54 : decode cX7_edgeOf 54 = .ok (.iconst 4, 1) := by decide +kernel
theorem dX7_edgeOf_55 : decode cX7_edgeOf 55 = .ok (.if_icmp .ne 7, 3) := by decide +kernel
theorem dX7_edgeOf_58 : decode cX7_edgeOf 58 = .ok (.iconst 2, 1) := by decide +kernel
theorem dX7_edgeOf_59 : decode cX7_edgeOf 59 = .ok (.goto 4, 3) := by decide +kernel
theorem dX7_edgeOf_62 : decode cX7_edgeOf 62 = .ok (.iconst 3, 1) := by decide +kernel
theorem dX7_edgeOf_63 : decode cX7_edgeOf 63 = .ok (.iadd, 1) := by decide +kernel
theorem dX7_edgeOf_64 : decode cX7_edgeOf 64 = .ok (.ireturn, 1) := by decide +kernel
theorem dX7_uses_0 : decode cX7_uses 0 = .ok (.iconst 0, 1) := by decide +kernel
theorem dX7_uses_1 : decode cX7_uses 1 = .ok (.istore_n 3, 1) := by decide +kernel
theorem dX7_uses_2 : decode cX7_uses 2 = .ok (.iconst 0, 1) := by decide +kernel
theorem dX7_uses_3 : decode cX7_uses 3 = .ok (.istore 4, 2) := by decide +kernel
theorem dX7_uses_5 : decode cX7_uses 5 = .ok (.iload 4, 2) := by decide +kernel
theorem dX7_uses_7 : decode cX7_uses 7 = .ok (.aload_n 0, 1) := by decide +kernel
theorem dX7_uses_8 : decode cX7_uses 8 = .ok (.getfield 35, 3) := by decide +kernel
theorem dX7_uses_11 : decode cX7_uses 11 = .ok (.iload_n 1, 1) := by decide +kernel
theorem dX7_uses_12 : decode cX7_uses 12 = .ok (.iaload, 1) := by decide +kernel
theorem dX7_uses_13 : decode cX7_uses 13 = .ok (.if_icmp .ge 30, 3) := by decide +kernel
theorem dX7_uses_16 : decode cX7_uses 16 = .ok (.iload_n 3, 1) := by decide +kernel
theorem dX7_uses_17 : decode cX7_uses 17 = .ok (.ifCond .ne 14, 3) := by decide +kernel
theorem dX7_uses_20 : decode cX7_uses 20 = .ok (.aload_n 0, 1) := by decide +kernel
theorem dX7_uses_21 : decode cX7_uses 21 = .ok (.iload_n 1, 1) := by decide +kernel
theorem dX7_uses_22 : decode cX7_uses 22 = .ok (.iload 4, 2) := by decide +kernel
theorem dX7_uses_24 : decode cX7_uses 24 = .ok (.invokevirtual 139, 3) := by decide +kernel
theorem dX7_uses_27 : decode cX7_uses 27 = .ok (.iload_n 2, 1) := by decide +kernel
theorem dX7_uses_28 : decode cX7_uses 28 = .ok (.if_icmp .ne 7, 3) := by decide +kernel
theorem dX7_uses_31 : decode cX7_uses 31 = .ok (.iconst 1, 1) := by decide +kernel
theorem dX7_uses_32 : decode cX7_uses 32 = .ok (.goto 4, 3) := by decide +kernel
theorem dX7_uses_35 : decode cX7_uses 35 = .ok (.iconst 0, 1) := by decide +kernel
theorem dX7_uses_36 : decode cX7_uses 36 = .ok (.istore_n 3, 1) := by decide +kernel
theorem dX7_uses_37 : decode cX7_uses 37 = .ok (.iinc 4 1, 3) := by decide +kernel
theorem dX7_uses_40 : decode cX7_uses 40 = .ok (.goto (-35), 3) := by decide +kernel
theorem dX7_uses_43 : decode cX7_uses 43 = .ok (.iload_n 3, 1) := by decide +kernel
theorem dX7_uses_44 : decode cX7_uses 44 = .ok (.ireturn, 1) := by decide +kernel
theorem dX7_metBy_0 : decode cX7_metBy 0 = .ok (.iconst 0, 1) := by decide +kernel
theorem dX7_metBy_1 : decode cX7_metBy 1 = .ok (.istore_n 2, 1) := by decide +kernel
theorem dX7_metBy_2 : decode cX7_metBy 2 = .ok (.iconst 0, 1) := by decide +kernel
theorem dX7_metBy_3 : decode cX7_metBy 3 = .ok (.istore_n 3, 1) := by decide +kernel
theorem dX7_metBy_4 : decode cX7_metBy 4 = .ok (.iload_n 3, 1) := by decide +kernel
theorem dX7_metBy_5 : decode cX7_metBy 5 = .ok (.aload_n 0, 1) := by decide +kernel
theorem dX7_metBy_6 : decode cX7_metBy 6 = .ok (.getfield 76, 3) := by decide +kernel
theorem dX7_metBy_9 : decode cX7_metBy 9 = .ok (.if_icmp .ge 77, 3) := by decide +kernel
theorem dX7_metBy_12 : decode cX7_metBy 12 = .ok (.iconst 0, 1) := by decide +kernel
theorem dX7_metBy_13 : decode cX7_metBy 13 = .ok (.istore 4, 2) := by decide +kernel
theorem dX7_metBy_15 : decode cX7_metBy 15 = .ok (.iconst 0, 1) := by decide +kernel
theorem dX7_metBy_16 : decode cX7_metBy 16 = .ok (.istore 5, 2) := by decide +kernel
theorem dX7_metBy_18 : decode cX7_metBy 18 = .ok (.iload 5, 2) := by decide +kernel
theorem dX7_metBy_20 : decode cX7_metBy 20 = .ok (.aload_n 0, 1) := by decide +kernel
theorem dX7_metBy_21 : decode cX7_metBy 21 = .ok (.getfield 35, 3) := by decide +kernel
theorem dX7_metBy_24 : decode cX7_metBy 24 = .ok (.iload_n 1, 1) := by decide +kernel
theorem dX7_metBy_25 : decode cX7_metBy 25 = .ok (.iaload, 1) := by decide +kernel
theorem dX7_metBy_26 : decode cX7_metBy 26 = .ok (.if_icmp .ge 36, 3) := by decide +kernel
theorem dX7_metBy_29 : decode cX7_metBy 29 = .ok (.iload 4, 2) := by decide +kernel
theorem dX7_metBy_31 : decode cX7_metBy 31 = .ok (.ifCond .ne 18, 3) := by decide +kernel
theorem dX7_metBy_34 : decode cX7_metBy 34 = .ok (.aload_n 0, 1) := by decide +kernel
theorem dX7_metBy_35 : decode cX7_metBy 35 = .ok (.iload_n 3, 1) := by decide +kernel
theorem dX7_metBy_36 : decode cX7_metBy 36 = .ok (.aload_n 0, 1) := by decide +kernel
theorem dX7_metBy_37 : decode cX7_metBy 37 = .ok (.iload_n 1, 1) := by decide +kernel
theorem dX7_metBy_38 : decode cX7_metBy 38 = .ok (.iload 5, 2) := by decide +kernel
theorem dX7_metBy_40 : decode cX7_metBy 40 = .ok (.invokevirtual 139, 3) := by decide +kernel
theorem dX7_metBy_43 : decode cX7_metBy 43 = .ok (.invokevirtual 142, 3) := by decide +kernel
theorem dX7_metBy_46 : decode cX7_metBy 46 = .ok (.ifCond .eq 7, 3) := by decide +kernel
theorem dX7_metBy_49 : decode cX7_metBy 49 = .ok (.iconst 1, 1) := by decide +kernel
theorem dX7_metBy_50 : decode cX7_metBy 50 = .ok (.goto 4, 3) := by decide +kernel
theorem dX7_metBy_53 : decode cX7_metBy 53 = .ok (.iconst 0, 1) := by decide +kernel
theorem dX7_metBy_54 : decode cX7_metBy 54 = .ok (.istore 4, 2) := by decide +kernel
theorem dX7_metBy_56 : decode cX7_metBy 56 = .ok (.iinc 5 1, 3) := by decide +kernel
theorem dX7_metBy_59 : decode cX7_metBy 59 = .ok (.goto (-41), 3) := by decide +kernel
theorem dX7_metBy_62 : decode cX7_metBy 62 = .ok (.iload_n 2, 1) := by decide +kernel
theorem dX7_metBy_63 : decode cX7_metBy 63 = .ok (.iload 4, 2) := by decide +kernel
theorem dX7_metBy_65 : decode cX7_metBy 65 = .ok (.ifCond .eq 12, 3) := by decide +kernel
theorem dX7_metBy_68 : decode cX7_metBy 68 = .ok (.iload_n 3, 1) := by decide +kernel
theorem dX7_metBy_69 : decode cX7_metBy 69 = .ok (.iload_n 1, 1) := by decide +kernel
theorem dX7_metBy_70 : decode cX7_metBy 70 = .ok (.if_icmp .eq 7, 3) := by decide +kernel
theorem dX7_metBy_73 : decode cX7_metBy 73 = .ok (.iconst 1, 1) := by decide +kernel
theorem dX7_metBy_74 : decode cX7_metBy 74 = .ok (.goto 4, 3) := by decide +kernel
theorem dX7_metBy_77 : decode cX7_metBy 77 = .ok (.iconst 0, 1) := by decide +kernel
theorem dX7_metBy_78 : decode cX7_metBy 78 = .ok (.iadd, 1) := by decide +kernel
theorem dX7_metBy_79 : decode cX7_metBy 79 = .ok (.istore_n 2, 1) := by decide +kernel
theorem dX7_metBy_80 : decode cX7_metBy 80 = .ok (.iinc 3 1, 3) := by decide +kernel
theorem dX7_metBy_83 : decode cX7_metBy 83 = .ok (.goto (-79), 3) := by decide +kernel
theorem dX7_metBy_86 : decode cX7_metBy 86 = .ok (.iload_n 2, 1) := by decide +kernel
theorem dX7_metBy_87 : decode cX7_metBy 87 = .ok (.ireturn, 1) := by decide +kernel
theorem dX7_ofBy_0 : decode cX7_ofBy 0 = .ok (.iload_n 2, 1) := by decide +kernel
theorem dX7_ofBy_1 : decode cX7_ofBy 1 = .ok (.iconst 4, 1) := by decide +kernel
theorem dX7_ofBy_2 : decode cX7_ofBy 2 = .ok (.if_icmp .ge 10, 3) := by decide +kernel
theorem dX7_ofBy_5 : decode cX7_ofBy 5 = .ok (.aload_n 0, 1) := by decide +kernel
theorem dX7_ofBy_6 : decode cX7_ofBy 6 = .ok (.iload_n 1, 1) := by decide +kernel
theorem dX7_ofBy_7 : decode cX7_ofBy 7 = .ok (.iload_n 2, 1) := by decide +kernel
theorem dX7_ofBy_8 : decode cX7_ofBy 8 = .ok (.invokevirtual 108, 3) := by decide +kernel
theorem dX7_ofBy_11 : decode cX7_ofBy 11 = .ok (.ireturn, 1) := by decide +kernel
theorem dX7_ofBy_12 : decode cX7_ofBy 12 = .ok (.aload_n 0, 1) := by decide +kernel
theorem dX7_ofBy_13 : decode cX7_ofBy 13 = .ok (.invokevirtual 146, 3) := by decide +kernel
theorem dX7_ofBy_16 : decode cX7_ofBy 16 = .ok (.iload_n 2, 1) := by decide +kernel
theorem dX7_ofBy_17 : decode cX7_ofBy 17 = .ok (.iconst 4, 1) := by decide +kernel
theorem dX7_ofBy_18 : decode cX7_ofBy 18 = .ok (.if_icmp .ne 12, 3) := by decide +kernel
theorem dX7_ofBy_21 : decode cX7_ofBy 21 = .ok (.aload_n 0, 1) := by decide +kernel
theorem dX7_ofBy_22 : decode cX7_ofBy 22 = .ok (.getfield 35, 3) := by decide +kernel
theorem dX7_ofBy_25 : decode cX7_ofBy 25 = .ok (.iload_n 1, 1) := by decide +kernel
theorem dX7_ofBy_26 : decode cX7_ofBy 26 = .ok (.iaload, 1) := by decide +kernel
theorem dX7_ofBy_27 : decode cX7_ofBy 27 = .ok (.goto 8, 3) := by decide +kernel
theorem dX7_ofBy_30 : decode cX7_ofBy 30 = .ok (.aload_n 0, 1) := by decide +kernel
theorem dX7_ofBy_31 : decode cX7_ofBy 31 = .ok (.iload_n 1, 1) := by decide +kernel
theorem dX7_ofBy_32 : decode cX7_ofBy 32 = .ok (.invokevirtual 149, 3) := by decide +kernel
theorem dX7_ofBy_35 : decode cX7_ofBy 35 = .ok (.ireturn, 1) := by decide +kernel
theorem dX7_of_0 : decode cX7_of 0 = .ok (.aload_n 0, 1) := by decide +kernel
theorem dX7_of_1 : decode cX7_of 1 = .ok (.iload_n 1, 1) := by decide +kernel
theorem dX7_of_2 : decode cX7_of 2 = .ok (.invokevirtual 105, 3) := by decide +kernel
theorem dX7_of_5 : decode cX7_of 5 = .ok (.ifCond .eq 21, 3) := by decide +kernel
theorem dX7_of_8 : decode cX7_of 8 = .ok (.iload_n 2, 1) := by decide +kernel
theorem dX7_of_9 : decode cX7_of 9 = .ok (.iconst 0, 1) := by decide +kernel
theorem dX7_of_10 : decode cX7_of 10 = .ok (.iconst 5, 1) := by decide +kernel
theorem dX7_of_11 : decode cX7_of 11 = .ok (.invokestatic 72, 3) := by decide +kernel
theorem dX7_of_14 : decode cX7_of 14 = .ok (.ifCond .eq 12, 3) := by decide +kernel
theorem dX7_of_17 : decode cX7_of 17 = .ok (.aload_n 0, 1) := by decide +kernel
theorem dX7_of_18 : decode cX7_of 18 = .ok (.iload_n 1, 1) := by decide +kernel
theorem dX7_of_19 : decode cX7_of 19 = .ok (.iload_n 2, 1) := by decide +kernel
theorem dX7_of_20 : decode cX7_of 20 = .ok (.invokevirtual 152, 3) := by decide +kernel
theorem dX7_of_23 : decode cX7_of 23 = .ok (.goto 7, 3) := by decide +kernel
theorem dX7_of_26 : decode cX7_of 26 = .ok (.aload_n 0, 1) := by decide +kernel
theorem dX7_of_27 : decode cX7_of 27 = .ok (.invokevirtual 85, 3) := by decide +kernel
theorem dX7_of_30 : decode cX7_of 30 = .ok (.ireturn, 1) := by decide +kernel
theorem dX7_step_0 : decode cX7_step 0 = .ok (.aload_n 0, 1) := by decide +kernel
theorem dX7_step_1 : decode cX7_step 1 = .ok (.iload_n 1, 1) := by decide +kernel
theorem dX7_step_2 : decode cX7_step 2 = .ok (.invokevirtual 105, 3) := by decide +kernel
theorem dX7_step_5 : decode cX7_step 5 = .ok (.ifCond .eq 7, 3) := by decide +kernel
theorem dX7_step_8 : decode cX7_step 8 = .ok (.iload_n 2, 1) := by decide +kernel
theorem dX7_step_9 : decode cX7_step 9 = .ok (.ifCond .ge 8, 3) := by decide +kernel
theorem dX7_step_12 : decode cX7_step 12 = .ok (.aload_n 0, 1) := by decide +kernel
theorem dX7_step_13 : decode cX7_step 13 = .ok (.invokevirtual 85, 3) := by decide +kernel
theorem dX7_step_16 : decode cX7_step 16 = .ok (.ireturn, 1) := by decide +kernel
theorem dX7_step_17 : decode cX7_step 17 = .ok (.aload_n 0, 1) := by decide +kernel
theorem dX7_step_18 : decode cX7_step 18 = .ok (.invokevirtual 146, 3) := by decide +kernel
theorem dX7_step_21 : decode cX7_step 21 = .ok (.iload_n 2, 1) := by decide +kernel
theorem dX7_step_22 : decode cX7_step 22 = .ok (.aload_n 0, 1) := by decide +kernel
theorem dX7_step_23 : decode cX7_step 23 = .ok (.getfield 35, 3) := by decide +kernel
theorem dX7_step_26 : decode cX7_step 26 = .ok (.iload_n 1, 1) := by decide +kernel
theorem dX7_step_27 : decode cX7_step 27 = .ok (.iaload, 1) := by decide +kernel
theorem dX7_step_28 : decode cX7_step 28 = .ok (.if_icmp .gt 17, 3) := by decide +kernel
theorem dX7_step_31 : decode cX7_step 31 = .ok (.aload_n 0, 1) := by decide +kernel
theorem dX7_step_32 : decode cX7_step 32 = .ok (.getfield 41, 3) := by decide +kernel
theorem dX7_step_35 : decode cX7_step 35 = .ok (.bipush 9, 2) := by decide +kernel
theorem dX7_step_37 : decode cX7_step 37 = .ok (.iload_n 1, 1) := by decide +kernel
theorem dX7_step_38 : decode cX7_step 38 = .ok (.imul, 1) := by decide +kernel
theorem dX7_step_39 : decode cX7_step 39 = .ok (.iload_n 2, 1) := by decide +kernel
theorem dX7_step_40 : decode cX7_step 40 = .ok (.iadd, 1) := by decide +kernel
theorem dX7_step_41 : decode cX7_step 41 = .ok (.iaload, 1) := by decide +kernel
theorem dX7_step_42 : decode cX7_step 42 = .ok (.goto 5, 3) := by decide +kernel
theorem dX7_step_45 : decode cX7_step 45 = .ok (.bipush (-5), 2) := by decide +kernel
theorem dX7_step_47 : decode cX7_step 47 = .ok (.ireturn, 1) := by decide +kernel
theorem dX7_noLoads_0 : decode cX7_noLoads 0 = .ok (.iconst 0, 1) := by decide +kernel
theorem dX7_noLoads_1 : decode cX7_noLoads 1 = .ok (.istore_n 1, 1) := by decide +kernel
theorem dX7_noLoads_2 : decode cX7_noLoads 2 = .ok (.iload_n 1, 1) := by decide +kernel
theorem dX7_noLoads_3 : decode cX7_noLoads 3 = .ok (.bipush 64, 2) := by decide +kernel
theorem dX7_noLoads_5 : decode cX7_noLoads 5 = .ok (.if_icmp .ge 16, 3) := by decide +kernel
theorem dX7_noLoads_8 : decode cX7_noLoads 8 = .ok (.aload_n 0, 1) := by decide +kernel
theorem dX7_noLoads_9 : decode cX7_noLoads 9 = .ok (.getfield 44, 3) := by decide +kernel
theorem dX7_noLoads_12 : decode cX7_noLoads 12 = .ok (.iload_n 1, 1) := by decide +kernel
theorem dX7_noLoads_13 : decode cX7_noLoads 13 = .ok (.iconst 0, 1) := by decide +kernel
theorem dX7_noLoads_14 : decode cX7_noLoads 14 = .ok (.iastore, 1) := by decide +kernel
theorem dX7_noLoads_15 : decode cX7_noLoads 15 = .ok (.iinc 1 1, 3) := by decide +kernel
theorem dX7_noLoads_18 : decode cX7_noLoads 18 = .ok (.goto (-16), 3) := by decide +kernel
theorem dX7_noLoads_21 : decode cX7_noLoads 21 = .ok (.return_, 1) := by decide +kernel
theorem dX7_loadsBy_0 : decode cX7_loadsBy 0 = .ok (.iconst 0, 1) := by decide +kernel
theorem dX7_loadsBy_1 : decode cX7_loadsBy 1 = .ok (.istore_n 3, 1) := by decide +kernel
theorem dX7_loadsBy_2 : decode cX7_loadsBy 2 = .ok (.iload_n 3, 1) := by decide +kernel
theorem dX7_loadsBy_3 : decode cX7_loadsBy 3 = .ok (.aload_n 0, 1) := by decide +kernel
theorem dX7_loadsBy_4 : decode cX7_loadsBy 4 = .ok (.getfield 35, 3) := by decide +kernel
theorem dX7_loadsBy_7 : decode cX7_loadsBy 7 = .ok (.iload_n 1, 1) := by decide +kernel
theorem dX7_loadsBy_8 : decode cX7_loadsBy 8 = .ok (.iaload, 1) := by decide +kernel
theorem dX7_loadsBy_9 : decode cX7_loadsBy 9 = .ok (.if_icmp .ge 24, 3) := by decide +kernel
theorem dX7_loadsBy_12 : decode cX7_loadsBy 12 = .ok (.aload_n 0, 1) := by decide +kernel
theorem dX7_loadsBy_13 : decode cX7_loadsBy 13 = .ok (.getfield 44, 3) := by decide +kernel
theorem dX7_loadsBy_16 : decode cX7_loadsBy 16 = .ok (.aload_n 0, 1) := by decide +kernel
theorem dX7_loadsBy_17 : decode cX7_loadsBy 17 = .ok (.iload_n 1, 1) := by decide +kernel
theorem dX7_loadsBy_18 : decode cX7_loadsBy 18 = .ok (.iload_n 3, 1) := by decide +kernel
theorem dX7_loadsBy_19 : decode cX7_loadsBy 19 = .ok (.invokevirtual 139, 3) := by decide +kernel
theorem dX7_loadsBy_22 : decode cX7_loadsBy 22 = .ok (.dup2, 1) := by decide +kernel
theorem dX7_loadsBy_23 : decode cX7_loadsBy 23 = .ok (.iaload, 1) := by decide +kernel
theorem dX7_loadsBy_24 : decode cX7_loadsBy 24 = .ok (.iload_n 2, 1) := by decide +kernel
theorem dX7_loadsBy_25 : decode cX7_loadsBy 25 = .ok (.iadd, 1) := by decide +kernel
theorem dX7_loadsBy_26 : decode cX7_loadsBy 26 = .ok (.iastore, 1) := by decide +kernel
theorem dX7_loadsBy_27 : decode cX7_loadsBy 27 = .ok (.iinc 3 1, 3) := by decide +kernel
theorem dX7_loadsBy_30 : decode cX7_loadsBy 30 = .ok (.goto (-28), 3) := by decide +kernel
theorem dX7_loadsBy_33 : decode cX7_loadsBy 33 = .ok (.return_, 1) := by decide +kernel
theorem dX7_setLoads_0 : decode cX7_setLoads 0 = .ok (.aload_n 0, 1) := by decide +kernel
theorem dX7_setLoads_1 : decode cX7_setLoads 1 = .ok (.invokevirtual 146, 3) := by decide +kernel
theorem dX7_setLoads_4 : decode cX7_setLoads 4 = .ok (.aload_n 0, 1) := by decide +kernel
theorem dX7_setLoads_5 : decode cX7_setLoads 5 = .ok (.invokevirtual 155, 3) := by decide +kernel
theorem dX7_setLoads_8 : decode cX7_setLoads 8 = .ok (.iconst 0, 1) := by decide +kernel
theorem dX7_setLoads_9 : decode cX7_setLoads 9 = .ok (.istore_n 1, 1) := by decide +kernel
theorem dX7_setLoads_10 : decode cX7_setLoads 10 = .ok (.iload_n 1, 1) := by decide +kernel
theorem dX7_setLoads_11 : decode cX7_setLoads 11 = .ok (.aload_n 0, 1) := by decide +kernel
theorem dX7_setLoads_12 : decode cX7_setLoads 12 = .ok (.getfield 76, 3) := by decide +kernel
theorem dX7_setLoads_15 : decode cX7_setLoads 15 = .ok (.if_icmp .ge 15, 3) := by decide +kernel
theorem dX7_setLoads_18 : decode cX7_setLoads 18 = .ok (.aload_n 0, 1) := by decide +kernel
theorem dX7_setLoads_19 : decode cX7_setLoads 19 = .ok (.iload_n 1, 1) := by decide +kernel
theorem dX7_setLoads_20 : decode cX7_setLoads 20 = .ok (.iconst 1, 1) := by decide +kernel
theorem dX7_setLoads_21 : decode cX7_setLoads 21 = .ok (.invokevirtual 158, 3) := by decide +kernel
theorem dX7_setLoads_24 : decode cX7_setLoads 24 = .ok (.iinc 1 1, 3) := by decide +kernel
theorem dX7_setLoads_27 : decode cX7_setLoads 27 = .ok (.goto (-17), 3) := by decide +kernel
theorem dX7_setLoads_30 : decode cX7_setLoads 30 = .ok (.return_, 1) := by decide +kernel
theorem dX7_isEdge_0 : decode cX7_isEdge 0 = .ok (.aload_n 0, 1) := by decide +kernel
theorem dX7_isEdge_1 : decode cX7_isEdge 1 = .ok (.iload_n 1, 1) := by decide +kernel
theorem dX7_isEdge_2 : decode cX7_isEdge 2 = .ok (.invokevirtual 91, 3) := by decide +kernel
theorem dX7_isEdge_5 : decode cX7_isEdge 5 = .ok (.ifCond .eq 21, 3) := by decide +kernel
theorem dX7_isEdge_8 : decode cX7_isEdge 8 = .ok (.iload_n 2, 1) := by decide +kernel
theorem dX7_isEdge_9 : decode cX7_isEdge 9 = .ok (.iconst 0, 1) := by decide +kernel
theorem dX7_isEdge_10 : decode cX7_isEdge 10 = .ok (.aload_n 0, 1) := by decide +kernel
theorem dX7_isEdge_11 : decode cX7_isEdge 11 = .ok (.getfield 13, 3) := by decide +kernel
theorem dX7_isEdge_14 : decode cX7_isEdge 14 = .ok (.iconst 1, 1) := by decide +kernel
theorem dX7_isEdge_15 : decode cX7_isEdge 15 = .ok (.isub, 1) := by decide +kernel
theorem dX7_isEdge_16 : decode cX7_isEdge 16 = .ok (.invokestatic 72, 3) := by decide +kernel
theorem dX7_isEdge_19 : decode cX7_isEdge 19 = .ok (.ifCond .eq 7, 3) := by decide +kernel
theorem dX7_isEdge_22 : decode cX7_isEdge 22 = .ok (.iconst 1, 1) := by decide +kernel
theorem dX7_isEdge_23 : decode cX7_isEdge 23 = .ok (.goto 4, 3) := by decide +kernel
theorem dX7_isEdge_26 : decode cX7_isEdge 26 = .ok (.iconst 0, 1) := by decide +kernel
theorem dX7_isEdge_27 : decode cX7_isEdge 27 = .ok (.ireturn, 1) := by decide +kernel
theorem dX7_load_0 : decode cX7_load 0 = .ok (.aload_n 0, 1) := by decide +kernel
theorem dX7_load_1 : decode cX7_load 1 = .ok (.iload_n 1, 1) := by decide +kernel
theorem dX7_load_2 : decode cX7_load 2 = .ok (.iload_n 2, 1) := by decide +kernel
theorem dX7_load_3 : decode cX7_load 3 = .ok (.invokevirtual 161, 3) := by decide +kernel
theorem dX7_load_6 : decode cX7_load 6 = .ok (.ifCond .ne 8, 3) := by decide +kernel
theorem dX7_load_9 : decode cX7_load 9 = .ok (.aload_n 0, 1) := by decide +kernel
theorem dX7_load_10 : decode cX7_load 10 = .ok (.invokevirtual 85, 3) := by decide +kernel
theorem dX7_load_13 : decode cX7_load 13 = .ok (.ireturn, 1) := by decide +kernel
theorem dX7_load_14 : decode cX7_load 14 = .ok (.aload_n 0, 1) := by decide +kernel
theorem dX7_load_15 : decode cX7_load 15 = .ok (.invokevirtual 164, 3) := by decide +kernel
theorem dX7_load_18 : decode cX7_load 18 = .ok (.aload_n 0, 1) := by decide +kernel
theorem dX7_load_19 : decode cX7_load 19 = .ok (.getfield 44, 3) := by decide +kernel
theorem dX7_load_22 : decode cX7_load 22 = .ok (.iconst 4, 1) := by decide +kernel
theorem dX7_load_23 : decode cX7_load 23 = .ok (.iload_n 1, 1) := by decide +kernel
theorem dX7_load_24 : decode cX7_load 24 = .ok (.imul, 1) := by decide +kernel
theorem dX7_load_25 : decode cX7_load 25 = .ok (.iload_n 2, 1) := by decide +kernel
theorem dX7_load_26 : decode cX7_load 26 = .ok (.iadd, 1) := by decide +kernel
theorem dX7_load_27 : decode cX7_load 27 = .ok (.iaload, 1) := by decide +kernel
theorem dX7_load_28 : decode cX7_load 28 = .ok (.ireturn, 1) := by decide +kernel
theorem dX7_most_0 : decode cX7_most 0 = .ok (.iconst 0, 1) := by decide +kernel
theorem dX7_most_1 : decode cX7_most 1 = .ok (.istore_n 1, 1) := by decide +kernel
theorem dX7_most_2 : decode cX7_most 2 = .ok (.iconst 0, 1) := by decide +kernel
theorem dX7_most_3 : decode cX7_most 3 = .ok (.istore_n 2, 1) := by decide +kernel
theorem dX7_most_4 : decode cX7_most 4 = .ok (.iload_n 2, 1) := by decide +kernel
theorem dX7_most_5 : decode cX7_most 5 = .ok (.bipush 64, 2) := by decide +kernel
theorem dX7_most_7 : decode cX7_most 7 = .ok (.if_icmp .ge 30, 3) := by decide +kernel
theorem dX7_most_10 : decode cX7_most 10 = .ok (.aload_n 0, 1) := by decide +kernel
theorem dX7_most_11 : decode cX7_most 11 = .ok (.getfield 44, 3) := by decide +kernel
theorem dX7_most_14 : decode cX7_most 14 = .ok (.iload_n 2, 1) := by decide +kernel
theorem dX7_most_15 : decode cX7_most 15 = .ok (.iaload, 1) := by decide +kernel
theorem dX7_most_16 : decode cX7_most 16 = .ok (.iload_n 1, 1) := by decide +kernel
theorem dX7_most_17 : decode cX7_most 17 = .ok (.if_icmp .le 12, 3) := by decide +kernel
theorem dX7_most_20 : decode cX7_most 20 = .ok (.aload_n 0, 1) := by decide +kernel
theorem dX7_most_21 : decode cX7_most 21 = .ok (.getfield 44, 3) := by decide +kernel
theorem dX7_most_24 : decode cX7_most 24 = .ok (.iload_n 2, 1) := by decide +kernel
theorem dX7_most_25 : decode cX7_most 25 = .ok (.iaload, 1) := by decide +kernel
theorem dX7_most_26 : decode cX7_most 26 = .ok (.goto 4, 3) := by decide +kernel
theorem dX7_most_29 : decode cX7_most 29 = .ok (.iload_n 1, 1) := by decide +kernel
theorem dX7_most_30 : decode cX7_most 30 = .ok (.istore_n 1, 1) := by decide +kernel
theorem dX7_most_31 : decode cX7_most 31 = .ok (.iinc 2 1, 3) := by decide +kernel
theorem dX7_most_34 : decode cX7_most 34 = .ok (.goto (-30), 3) := by decide +kernel
theorem dX7_most_37 : decode cX7_most 37 = .ok (.iload_n 1, 1) := by decide +kernel
theorem dX7_most_38 : decode cX7_most 38 = .ok (.ireturn, 1) := by decide +kernel
theorem dX7_firstOf_0 : decode cX7_firstOf 0 = .ok (.iconst (-1), 1) := by decide +kernel
theorem dX7_firstOf_1 : decode cX7_firstOf 1 = .ok (.istore_n 2, 1) := by decide +kernel
theorem dX7_firstOf_2 : decode cX7_firstOf 2 = .ok (.bipush 63, 2) := by decide +kernel
theorem dX7_firstOf_4 : decode cX7_firstOf 4 = .ok (.istore_n 3, 1) := by decide +kernel
theorem dX7_firstOf_5 : decode cX7_firstOf 5 = .ok (.iload_n 3, 1) := by decide +kernel
theorem dX7_firstOf_6 : decode cX7_firstOf 6 = .ok (.ifCond .lt 38, 3) := by decide +kernel
theorem dX7_firstOf_9 : decode cX7_firstOf 9 = .ok (.aload_n 0, 1) := by decide +kernel
theorem dX7_firstOf_10 : decode cX7_firstOf 10 = .ok (.iload_n 3, 1) := by decide +kernel
theorem dX7_firstOf_11 : decode cX7_firstOf 11 = .ok (.iconst 4, 1) := by decide +kernel
theorem dX7_firstOf_12 : decode cX7_firstOf 12 = .ok (.idiv, 1) := by decide +kernel
theorem dX7_firstOf_13 : decode cX7_firstOf 13 = .ok (.iload_n 3, 1) := by decide +kernel
theorem dX7_firstOf_14 : decode cX7_firstOf 14 = .ok (.iconst 4, 1) := by decide +kernel
theorem dX7_firstOf_15 : decode cX7_firstOf 15 = .ok (.irem, 1) := by decide +kernel
theorem dX7_firstOf_16 : decode cX7_firstOf 16 = .ok (.invokevirtual 161, 3) := by decide +kernel
theorem dX7_firstOf_19 : decode cX7_firstOf 19 = .ok (.ifCond .eq 17, 3) := by decide +kernel
theorem dX7_firstOf_22 : decode cX7_firstOf 22 = .ok (.aload_n 0, 1) := by decide +kernel
theorem dX7_firstOf_23 : decode cX7_firstOf 23 = .ok (.getfield 44, 3) := by decide +kernel
theorem dX7_firstOf_26 : decode cX7_firstOf 26 = .ok (.iload_n 3, 1) := by decide +kernel
theorem dX7_firstOf_27 : decode cX7_firstOf 27 = .ok (.iaload, 1) := by decide +kernel
theorem dX7_firstOf_28 : decode cX7_firstOf 28 = .ok (.iload_n 1, 1) := by decide +kernel
theorem dX7_firstOf_29 : decode cX7_firstOf 29 = .ok (.if_icmp .ne 7, 3) := by decide +kernel
theorem dX7_firstOf_32 : decode cX7_firstOf 32 = .ok (.iload_n 3, 1) := by decide +kernel
theorem dX7_firstOf_33 : decode cX7_firstOf 33 = .ok (.goto 4, 3) := by decide +kernel
theorem dX7_firstOf_36 : decode cX7_firstOf 36 = .ok (.iload_n 2, 1) := by decide +kernel
theorem dX7_firstOf_37 : decode cX7_firstOf 37 = .ok (.istore_n 2, 1) := by decide +kernel
theorem dX7_firstOf_38 : decode cX7_firstOf 38 = .ok (.iinc 3 (-1), 3) := by decide +kernel
theorem dX7_firstOf_41 : decode cX7_firstOf 41 = .ok (.goto (-36), 3) := by decide +kernel
theorem dX7_firstOf_44 : decode cX7_firstOf 44 = .ok (.iload_n 2, 1) := by decide +kernel
theorem dX7_firstOf_45 : decode cX7_firstOf 45 = .ok (.ireturn, 1) := by decide +kernel
theorem dX7_tenTimes_0 : decode cX7_tenTimes 0 = .ok (.iload_n 0, 1) := by decide +kernel
theorem dX7_tenTimes_1 : decode cX7_tenTimes 1 = .ok (.iconst (-1), 1) := by decide +kernel
theorem dX7_tenTimes_2 : decode cX7_tenTimes 2 = .ok (.if_icmp .ne 7, 3) := by decide +kernel
theorem dX7_tenTimes_5 : decode cX7_tenTimes 5 = .ok (.iconst (-1), 1) := by decide +kernel
theorem dX7_tenTimes_6 : decode cX7_tenTimes 6 = .ok (.goto 13, 3) := by decide +kernel
theorem dX7_tenTimes_9 : decode cX7_tenTimes 9 = .ok (.bipush 10, 2) := by decide +kernel
theorem dX7_tenTimes_11 : decode cX7_tenTimes 11 = .ok (.iload_n 0, 1) := by decide +kernel
theorem dX7_tenTimes_12 : decode cX7_tenTimes 12 = .ok (.iconst 4, 1) := by decide +kernel
theorem dX7_tenTimes_13 : decode cX7_tenTimes 13 = .ok (.idiv, 1) := by decide +kernel
theorem dX7_tenTimes_14 : decode cX7_tenTimes 14 = .ok (.imul, 1) := by decide +kernel
theorem dX7_tenTimes_15 : decode cX7_tenTimes 15 = .ok (.iload_n 0, 1) := by decide +kernel
theorem dX7_tenTimes_16 : decode cX7_tenTimes 16 = .ok (.iconst 4, 1) := by decide +kernel
theorem dX7_tenTimes_17 : decode cX7_tenTimes 17 = .ok (.irem, 1) := by decide +kernel
theorem dX7_tenTimes_18 : decode cX7_tenTimes 18 = .ok (.iadd, 1) := by decide +kernel
theorem dX7_tenTimes_19 : decode cX7_tenTimes 19 = .ok (.ireturn, 1) := by decide +kernel
theorem dX7_loadsTell_0 : decode cX7_loadsTell 0 = .ok (.aload_n 0, 1) := by decide +kernel
theorem dX7_loadsTell_1 : decode cX7_loadsTell 1 = .ok (.invokevirtual 164, 3) := by decide +kernel
theorem dX7_loadsTell_4 : decode cX7_loadsTell 4 = .ok (.aload_n 0, 1) := by decide +kernel
theorem dX7_loadsTell_5 : decode cX7_loadsTell 5 = .ok (.invokevirtual 167, 3) := by decide +kernel
theorem dX7_loadsTell_8 : decode cX7_loadsTell 8 = .ok (.istore_n 2, 1) := by decide +kernel
theorem dX7_loadsTell_9 : decode cX7_loadsTell 9 = .ok (.iconst 0, 1) := by decide +kernel
theorem dX7_loadsTell_10 : decode cX7_loadsTell 10 = .ok (.istore_n 3, 1) := by decide +kernel
theorem dX7_loadsTell_11 : decode cX7_loadsTell 11 = .ok (.iconst 0, 1) := by decide +kernel
theorem dX7_loadsTell_12 : decode cX7_loadsTell 12 = .ok (.istore 4, 2) := by decide +kernel
theorem dX7_loadsTell_14 : decode cX7_loadsTell 14 = .ok (.iconst 0, 1) := by decide +kernel
theorem dX7_loadsTell_15 : decode cX7_loadsTell 15 = .ok (.istore 5, 2) := by decide +kernel
theorem dX7_loadsTell_17 : decode cX7_loadsTell 17 = .ok (.iload 5, 2) := by decide +kernel
theorem dX7_loadsTell_19 : decode cX7_loadsTell 19 = .ok (.bipush 64, 2) := by decide +kernel
theorem dX7_loadsTell_21 : decode cX7_loadsTell 21 = .ok (.if_icmp .ge 63, 3) := by decide +kernel
theorem dX7_loadsTell_24 : decode cX7_loadsTell 24 = .ok (.iload_n 3, 1) := by decide +kernel
theorem dX7_loadsTell_25 : decode cX7_loadsTell 25 = .ok (.aload_n 0, 1) := by decide +kernel
theorem dX7_loadsTell_26 : decode cX7_loadsTell 26 = .ok (.iload 5, 2) := by decide +kernel
theorem dX7_loadsTell_28 : decode cX7_loadsTell 28 = .ok (.iconst 4, 1) := by decide +kernel
theorem dX7_loadsTell_29 : decode cX7_loadsTell 29 = .ok (.idiv, 1) := by decide +kernel
theorem dX7_loadsTell_30 : decode cX7_loadsTell 30 = .ok (.iload 5, 2) := by decide +kernel
theorem dX7_loadsTell_32 : decode cX7_loadsTell 32 = .ok (.iconst 4, 1) := by decide +kernel
theorem dX7_loadsTell_33 : decode cX7_loadsTell 33 = .ok (.irem, 1) := by decide +kernel
theorem dX7_loadsTell_34 : decode cX7_loadsTell 34 = .ok (.invokevirtual 161, 3) := by decide +kernel
theorem dX7_loadsTell_37 : decode cX7_loadsTell 37 = .ok (.ifCond .eq 18, 3) := by decide +kernel
theorem dX7_loadsTell_40 : decode cX7_loadsTell 40 = .ok (.aload_n 0, 1) := by decide +kernel
theorem dX7_loadsTell_41 : decode cX7_loadsTell 41 = .ok (.getfield 44, 3) := by decide +kernel
theorem dX7_loadsTell_44 : decode cX7_loadsTell 44 = .ok (.iload 5, 2) := by decide +kernel
theorem dX7_loadsTell_46 : decode cX7_loadsTell 46 = .ok (.iaload, 1) := by decide +kernel
theorem dX7_loadsTell_47 : decode cX7_loadsTell 47 = .ok (.iload_n 2, 1) := by decide +kernel
theorem dX7_loadsTell_48 : decode cX7_loadsTell 48 = .ok (.if_icmp .ne 7, 3) := by decide +kernel
theorem dX7_loadsTell_51 : decode cX7_loadsTell 51 = .ok (.iconst 1, 1) := by decide +kernel
theorem dX7_loadsTell_52 : decode cX7_loadsTell 52 = .ok (.goto 4, 3) := by decide +kernel
theorem dX7_loadsTell_55 : decode cX7_loadsTell 55 = .ok (.iconst 0, 1) := by decide +kernel
theorem dX7_loadsTell_56 : decode cX7_loadsTell 56 = .ok (.iadd, 1) := by decide +kernel
theorem dX7_loadsTell_57 : decode cX7_loadsTell 57 = .ok (.istore_n 3, 1) := by decide +kernel
theorem dX7_loadsTell_58 : decode cX7_loadsTell 58 = .ok (.iload 4, 2) := by decide +kernel
theorem dX7_loadsTell_60 : decode cX7_loadsTell 60 = .ok (.aload_n 0, 1) := by decide +kernel
theorem dX7_loadsTell_61 : decode cX7_loadsTell 61 = .ok (.getfield 44, 3) := by decide +kernel
theorem dX7_loadsTell_64 : decode cX7_loadsTell 64 = .ok (.iload 5, 2) := by decide +kernel
theorem dX7_loadsTell_66 : decode cX7_loadsTell 66 = .ok (.iaload, 1) := by decide +kernel
theorem dX7_loadsTell_67 : decode cX7_loadsTell 67 = .ok (.ifCond .le 7, 3) := by decide +kernel
theorem dX7_loadsTell_70 : decode cX7_loadsTell 70 = .ok (.iconst 1, 1) := by decide +kernel
theorem dX7_loadsTell_71 : decode cX7_loadsTell 71 = .ok (.goto 4, 3) := by decide +kernel
theorem dX7_loadsTell_74 : decode cX7_loadsTell 74 = .ok (.iconst 0, 1) := by decide +kernel
theorem dX7_loadsTell_75 : decode cX7_loadsTell 75 = .ok (.iadd, 1) := by decide +kernel
theorem dX7_loadsTell_76 : decode cX7_loadsTell 76 = .ok (.istore 4, 2) := by decide +kernel
theorem dX7_loadsTell_78 : decode cX7_loadsTell 78 = .ok (.iinc 5 1, 3) := by decide +kernel
theorem dX7_loadsTell_81 : decode cX7_loadsTell 81 = .ok (.goto (-64), 3) := by decide +kernel
theorem dX7_loadsTell_84 : decode cX7_loadsTell 84 = .ok (.iload_n 1, 1) := by decide +kernel
theorem dX7_loadsTell_85 : decode cX7_loadsTell 85 = .ok (.ifCond .ne 7, 3) := by decide +kernel
theorem dX7_loadsTell_88 : decode cX7_loadsTell 88 = .ok (.iload_n 2, 1) := by decide +kernel
theorem dX7_loadsTell_89 : decode cX7_loadsTell 89 = .ok (.goto 38, 3) := by decide +kernel
theorem dX7_loadsTell_92 : decode cX7_loadsTell 92 = .ok (.iload_n 1, 1) := by decide +kernel
theorem dX7_loadsTell_93 : decode cX7_loadsTell 93 = .ok (.iconst 1, 1) := by decide +kernel
theorem dX7_loadsTell_94 : decode cX7_loadsTell 94 = .ok (.if_icmp .ne 7, 3) := by decide +kernel
theorem dX7_loadsTell_97 : decode cX7_loadsTell 97 = .ok (.iload_n 3, 1) := by decide +kernel
theorem dX7_loadsTell_98 : decode cX7_loadsTell 98 = .ok (.goto 29, 3) := by decide +kernel
theorem dX7_loadsTell_101 : decode cX7_loadsTell 101 = .ok (.iload_n 1, 1) := by decide +kernel
theorem dX7_loadsTell_102 : decode cX7_loadsTell 102 = .ok (.iconst 2, 1) := by decide +kernel
theorem dX7_loadsTell_103 : decode cX7_loadsTell 103 = .ok (.if_icmp .ne 8, 3) := by decide +kernel
theorem dX7_loadsTell_106 : decode cX7_loadsTell 106 = .ok (.iload 4, 2) := by decide +kernel
theorem dX7_loadsTell_108 : decode cX7_loadsTell 108 = .ok (.goto 19, 3) := by decide +kernel
theorem dX7_loadsTell_111 : decode cX7_loadsTell 111 = .ok (.iload_n 2, 1) := by decide +kernel
theorem dX7_loadsTell_112 : decode cX7_loadsTell 112 = .ok (.ifCond .ne 7, 3) := by decide +kernel
theorem dX7_loadsTell_115 : decode cX7_loadsTell 115 = .ok (.iconst (-1), 1) := by decide +kernel
theorem dX7_loadsTell_116 : decode cX7_loadsTell 116 = .ok (.goto 11, 3) := by decide +kernel
theorem dX7_loadsTell_119 : decode cX7_loadsTell 119 = .ok (.aload_n 0, 1) := by decide +kernel
theorem dX7_loadsTell_120 : decode cX7_loadsTell 120 = .ok (.iload_n 2, 1) := by decide +kernel
theorem dX7_loadsTell_121 : decode cX7_loadsTell 121 = .ok (.invokevirtual 170, 3) := by decide +kernel
theorem dX7_loadsTell_124 : decode cX7_loadsTell 124 = .ok (.invokestatic 173, 3) := by decide +kernel
theorem dX7_loadsTell_127 : decode cX7_loadsTell 127 = .ok (.ireturn, 1) := by decide +kernel
theorem dX7_loads_0 : decode cX7_loads 0 = .ok (.iload_n 1, 1) := by decide +kernel
theorem dX7_loads_1 : decode cX7_loads 1 = .ok (.iconst 0, 1) := by decide +kernel
theorem dX7_loads_2 : decode cX7_loads 2 = .ok (.iconst 3, 1) := by decide +kernel
theorem dX7_loads_3 : decode cX7_loads 3 = .ok (.invokestatic 72, 3) := by decide +kernel
theorem dX7_loads_6 : decode cX7_loads 6 = .ok (.ifCond .eq 11, 3) := by decide +kernel
theorem dX7_loads_9 : decode cX7_loads 9 = .ok (.aload_n 0, 1) := by decide +kernel
theorem dX7_loads_10 : decode cX7_loads 10 = .ok (.iload_n 1, 1) := by decide +kernel
theorem dX7_loads_11 : decode cX7_loads 11 = .ok (.invokevirtual 176, 3) := by decide +kernel
theorem dX7_loads_14 : decode cX7_loads 14 = .ok (.goto 7, 3) := by decide +kernel
theorem dX7_loads_17 : decode cX7_loads 17 = .ok (.aload_n 0, 1) := by decide +kernel
theorem dX7_loads_18 : decode cX7_loads 18 = .ok (.invokevirtual 85, 3) := by decide +kernel
theorem dX7_loads_21 : decode cX7_loads 21 = .ok (.ireturn, 1) := by decide +kernel
theorem dX7_tellsPart_0 : decode cX7_tellsPart 0 = .ok (.iload_n 1, 1) := by decide +kernel
theorem dX7_tellsPart_1 : decode cX7_tellsPart 1 = .ok (.istore_n 2, 1) := by decide +kernel
theorem dX7_tellsPart_2 : decode cX7_tellsPart 2 = .ok (.aload_n 0, 1) := by decide +kernel
theorem dX7_tellsPart_3 : decode cX7_tellsPart 3 = .ok (.invokevirtual 68, 3) := by decide +kernel
theorem dX7_tellsPart_6 : decode cX7_tellsPart 6 = .ok (.istore_n 3, 1) := by decide +kernel
theorem dX7_tellsPart_7 : decode cX7_tellsPart 7 = .ok (.iload_n 3, 1) := by decide +kernel
theorem dX7_tellsPart_8 : decode cX7_tellsPart 8 = .ok (.ifCond .eq 16, 3) := by decide +kernel
theorem dX7_tellsPart_11 : decode cX7_tellsPart 11 = .ok (.iload_n 2, 1) := by decide +kernel
theorem dX7_tellsPart_12 : decode cX7_tellsPart 12 = .ok (.iload_n 3, 1) := by decide +kernel
theorem dX7_tellsPart_13 : decode cX7_tellsPart 13 = .ok (.irem, 1) := by decide +kernel
theorem dX7_tellsPart_14 : decode cX7_tellsPart 14 = .ok (.istore 4, 2) := by decide +kernel
theorem dX7_tellsPart_16 : decode cX7_tellsPart 16 = .ok (.iload_n 3, 1) := by decide +kernel
theorem dX7_tellsPart_17 : decode cX7_tellsPart 17 = .ok (.istore_n 2, 1) := by decide +kernel
theorem dX7_tellsPart_18 : decode cX7_tellsPart 18 = .ok (.iload 4, 2) := by decide +kernel
theorem dX7_tellsPart_20 : decode cX7_tellsPart 20 = .ok (.istore_n 3, 1) := by decide +kernel
theorem dX7_tellsPart_21 : decode cX7_tellsPart 21 = .ok (.goto (-14), 3) := by decide +kernel
theorem dX7_tellsPart_24 : decode cX7_tellsPart 24 = .ok (.aload_n 0, 1) := by decide +kernel
theorem dX7_tellsPart_25 : decode cX7_tellsPart 25 = .ok (.iload_n 1, 1) := by decide +kernel
theorem dX7_tellsPart_26 : decode cX7_tellsPart 26 = .ok (.iload_n 2, 1) := by decide +kernel
theorem dX7_tellsPart_27 : decode cX7_tellsPart 27 = .ok (.idiv, 1) := by decide +kernel
theorem dX7_tellsPart_28 : decode cX7_tellsPart 28 = .ok (.putfield 179, 3) := by decide +kernel
theorem dX7_tellsPart_31 : decode cX7_tellsPart 31 = .ok (.aload_n 0, 1) := by decide +kernel
theorem dX7_tellsPart_32 : decode cX7_tellsPart 32 = .ok (.aload_n 0, 1) := by decide +kernel
theorem dX7_tellsPart_33 : decode cX7_tellsPart 33 = .ok (.invokevirtual 68, 3) := by decide +kernel
theorem dX7_tellsPart_36 : decode cX7_tellsPart 36 = .ok (.iload_n 2, 1) := by decide +kernel
theorem dX7_tellsPart_37 : decode cX7_tellsPart 37 = .ok (.idiv, 1) := by decide +kernel
theorem dX7_tellsPart_38 : decode cX7_tellsPart 38 = .ok (.putfield 47, 3) := by decide +kernel
theorem dX7_tellsPart_41 : decode cX7_tellsPart 41 = .ok (.return_, 1) := by decide +kernel
theorem dX7_addsDrawn_0 : decode cX7_addsDrawn 0 = .ok (.iconst 0, 1) := by decide +kernel
theorem dX7_addsDrawn_1 : decode cX7_addsDrawn 1 = .ok (.istore_n 2, 1) := by decide +kernel
theorem dX7_addsDrawn_2 : decode cX7_addsDrawn 2 = .ok (.iload_n 2, 1) := by decide +kernel
theorem dX7_addsDrawn_3 : decode cX7_addsDrawn 3 = .ok (.aload_n 0, 1) := by decide +kernel
theorem dX7_addsDrawn_4 : decode cX7_addsDrawn 4 = .ok (.invokevirtual 68, 3) := by decide +kernel
theorem dX7_addsDrawn_7 : decode cX7_addsDrawn 7 = .ok (.if_icmp .ge 21, 3) := by decide +kernel
theorem dX7_addsDrawn_10 : decode cX7_addsDrawn 10 = .ok (.aload_n 0, 1) := by decide +kernel
theorem dX7_addsDrawn_11 : decode cX7_addsDrawn 11 = .ok (.iload_n 1, 1) := by decide +kernel
theorem dX7_addsDrawn_12 : decode cX7_addsDrawn 12 = .ok (.iload_n 2, 1) := by decide +kernel
theorem dX7_addsDrawn_13 : decode cX7_addsDrawn 13 = .ok (.invokevirtual 135, 3) := by decide +kernel
theorem dX7_addsDrawn_16 : decode cX7_addsDrawn 16 = .ok (.aload_n 0, 1) := by decide +kernel
theorem dX7_addsDrawn_17 : decode cX7_addsDrawn 17 = .ok (.iload_n 1, 1) := by decide +kernel
theorem dX7_addsDrawn_18 : decode cX7_addsDrawn 18 = .ok (.iconst 1, 1) := by decide +kernel
theorem dX7_addsDrawn_19 : decode cX7_addsDrawn 19 = .ok (.invokevirtual 158, 3) := by decide +kernel
theorem dX7_addsDrawn_22 : decode cX7_addsDrawn 22 = .ok (.iinc 2 1, 3) := by decide +kernel
theorem dX7_addsDrawn_25 : decode cX7_addsDrawn 25 = .ok (.goto (-23), 3) := by decide +kernel
theorem dX7_addsDrawn_28 : decode cX7_addsDrawn 28 = .ok (.aload_n 0, 1) := by decide +kernel
theorem dX7_addsDrawn_29 : decode cX7_addsDrawn 29 = .ok (.iload_n 1, 1) := by decide +kernel
theorem dX7_addsDrawn_30 : decode cX7_addsDrawn 30 = .ok (.aload_n 0, 1) := by decide +kernel
theorem dX7_addsDrawn_31 : decode cX7_addsDrawn 31 = .ok (.getfield 26, 3) := by decide +kernel
theorem dX7_addsDrawn_34 : decode cX7_addsDrawn 34 = .ok (.iload_n 1, 1) := by decide +kernel
theorem dX7_addsDrawn_35 : decode cX7_addsDrawn 35 = .ok (.iaload, 1) := by decide +kernel
theorem dX7_addsDrawn_36 : decode cX7_addsDrawn 36 = .ok (.invokevirtual 135, 3) := by decide +kernel
theorem dX7_addsDrawn_39 : decode cX7_addsDrawn 39 = .ok (.return_, 1) := by decide +kernel
theorem dX7_setExpected_0 : decode cX7_setExpected 0 = .ok (.aload_n 0, 1) := by decide +kernel
theorem dX7_setExpected_1 : decode cX7_setExpected 1 = .ok (.invokevirtual 146, 3) := by decide +kernel
theorem dX7_setExpected_4 : decode cX7_setExpected 4 = .ok (.aload_n 0, 1) := by decide +kernel
theorem dX7_setExpected_5 : decode cX7_setExpected 5 = .ok (.invokevirtual 155, 3) := by decide +kernel
theorem dX7_setExpected_8 : decode cX7_setExpected 8 = .ok (.iconst 0, 1) := by decide +kernel
theorem dX7_setExpected_9 : decode cX7_setExpected 9 = .ok (.istore_n 2, 1) := by decide +kernel
theorem dX7_setExpected_10 : decode cX7_setExpected 10 = .ok (.iload_n 2, 1) := by decide +kernel
theorem dX7_setExpected_11 : decode cX7_setExpected 11 = .ok (.aload_n 0, 1) := by decide +kernel
theorem dX7_setExpected_12 : decode cX7_setExpected 12 = .ok (.getfield 76, 3) := by decide +kernel
theorem dX7_setExpected_15 : decode cX7_setExpected 15 = .ok (.if_icmp .ge 31, 3) := by decide +kernel
theorem dX7_setExpected_18 : decode cX7_setExpected 18 = .ok (.iload_n 2, 1) := by decide +kernel
theorem dX7_setExpected_19 : decode cX7_setExpected 19 = .ok (.iload_n 1, 1) := by decide +kernel
theorem dX7_setExpected_20 : decode cX7_setExpected 20 = .ok (.if_icmp .ge 15, 3) := by decide +kernel
theorem dX7_setExpected_23 : decode cX7_setExpected 23 = .ok (.aload_n 0, 1) := by decide +kernel
theorem dX7_setExpected_24 : decode cX7_setExpected 24 = .ok (.iload_n 2, 1) := by decide +kernel
theorem dX7_setExpected_25 : decode cX7_setExpected 25 = .ok (.aload_n 0, 1) := by decide +kernel
theorem dX7_setExpected_26 : decode cX7_setExpected 26 = .ok (.invokevirtual 68, 3) := by decide +kernel
theorem dX7_setExpected_29 : decode cX7_setExpected 29 = .ok (.invokevirtual 158, 3) := by decide +kernel
theorem dX7_setExpected_32 : decode cX7_setExpected 32 = .ok (.goto 8, 3) := by decide +kernel
theorem dX7_setExpected_35 : decode cX7_setExpected 35 = .ok (.aload_n 0, 1) := by decide +kernel
theorem dX7_setExpected_36 : decode cX7_setExpected 36 = .ok (.iload_n 2, 1) := by decide +kernel
theorem dX7_setExpected_37 : decode cX7_setExpected 37 = .ok (.invokevirtual 182, 3) := by decide +kernel
theorem dX7_setExpected_40 : decode cX7_setExpected 40 = .ok (.iinc 2 1, 3) := by decide +kernel
theorem dX7_setExpected_43 : decode cX7_setExpected 43 = .ok (.goto (-33), 3) := by decide +kernel
theorem dX7_setExpected_46 : decode cX7_setExpected 46 = .ok (.return_, 1) := by decide +kernel
theorem dX7_expected_0 : decode cX7_expected 0 = .ok (.aload_n 0, 1) := by decide +kernel
theorem dX7_expected_1 : decode cX7_expected 1 = .ok (.iload_n 1, 1) := by decide +kernel
theorem dX7_expected_2 : decode cX7_expected 2 = .ok (.iload_n 2, 1) := by decide +kernel
theorem dX7_expected_3 : decode cX7_expected 3 = .ok (.invokevirtual 161, 3) := by decide +kernel
theorem dX7_expected_6 : decode cX7_expected 6 = .ok (.ifCond .eq 13, 3) := by decide +kernel
theorem dX7_expected_9 : decode cX7_expected 9 = .ok (.iload_n 3, 1) := by decide +kernel
theorem dX7_expected_10 : decode cX7_expected 10 = .ok (.iconst 0, 1) := by decide +kernel
theorem dX7_expected_11 : decode cX7_expected 11 = .ok (.bipush 16, 2) := by decide +kernel
theorem dX7_expected_13 : decode cX7_expected 13 = .ok (.invokestatic 72, 3) := by decide +kernel
theorem dX7_expected_16 : decode cX7_expected 16 = .ok (.ifCond .ne 8, 3) := by decide +kernel
theorem dX7_expected_19 : decode cX7_expected 19 = .ok (.aload_n 0, 1) := by decide +kernel
theorem dX7_expected_20 : decode cX7_expected 20 = .ok (.invokevirtual 85, 3) := by decide +kernel
theorem dX7_expected_23 : decode cX7_expected 23 = .ok (.ireturn, 1) := by decide +kernel
theorem dX7_expected_24 : decode cX7_expected 24 = .ok (.aload_n 0, 1) := by decide +kernel
theorem dX7_expected_25 : decode cX7_expected 25 = .ok (.iload_n 3, 1) := by decide +kernel
theorem dX7_expected_26 : decode cX7_expected 26 = .ok (.invokevirtual 186, 3) := by decide +kernel
theorem dX7_expected_29 : decode cX7_expected 29 = .ok (.aload_n 0, 1) := by decide +kernel
theorem dX7_expected_30 : decode cX7_expected 30 = .ok (.aload_n 0, 1) := by decide +kernel
theorem dX7_expected_31 : decode cX7_expected 31 = .ok (.getfield 44, 3) := by decide +kernel
theorem dX7_expected_34 : decode cX7_expected 34 = .ok (.iconst 4, 1) := by decide +kernel
theorem dX7_expected_35 : decode cX7_expected 35 = .ok (.iload_n 1, 1) := by decide +kernel
theorem dX7_expected_36 : decode cX7_expected 36 = .ok (.imul, 1) := by decide +kernel
theorem dX7_expected_37 : decode cX7_expected 37 = .ok (.iload_n 2, 1) := by decide +kernel
theorem dX7_expected_38 : decode cX7_expected 38 = .ok (.iadd, 1) := by decide +kernel
theorem dX7_expected_39 : decode cX7_expected 39 = .ok (.iaload, 1) := by decide +kernel
theorem dX7_expected_40 : decode cX7_expected 40 = .ok (.invokevirtual 189, 3) := by decide +kernel
theorem dX7_expected_43 : decode cX7_expected 43 = .ok (.iconst 1, 1) := by decide +kernel
theorem dX7_expected_44 : decode cX7_expected 44 = .ok (.ireturn, 1) := by decide +kernel
theorem dX7_part_0 : decode cX7_part 0 = .ok (.iload_n 1, 1) := by decide +kernel
theorem dX7_part_1 : decode cX7_part 1 = .ok (.iconst 0, 1) := by decide +kernel
theorem dX7_part_2 : decode cX7_part 2 = .ok (.iconst 1, 1) := by decide +kernel
theorem dX7_part_3 : decode cX7_part 3 = .ok (.invokestatic 72, 3) := by decide +kernel
theorem dX7_part_6 : decode cX7_part 6 = .ok (.ifCond .ne 8, 3) := by decide +kernel
theorem dX7_part_9 : decode cX7_part 9 = .ok (.aload_n 0, 1) := by decide +kernel
theorem dX7_part_10 : decode cX7_part 10 = .ok (.invokevirtual 85, 3) := by decide +kernel
theorem dX7_part_13 : decode cX7_part 13 = .ok (.ireturn, 1) := by decide +kernel
theorem dX7_part_14 : decode cX7_part 14 = .ok (.iload_n 1, 1) := by decide +kernel
theorem dX7_part_15 : decode cX7_part 15 = .ok (.ifCond .ne 10, 3) := by decide +kernel
theorem dX7_part_18 : decode cX7_part 18 = .ok (.aload_n 0, 1) := by decide +kernel
theorem dX7_part_19 : decode cX7_part 19 = .ok (.getfield 179, 3) := by decide +kernel
theorem dX7_part_22 : decode cX7_part 22 = .ok (.goto 7, 3) := by decide +kernel
theorem dX7_part_25 : decode cX7_part 25 = .ok (.aload_n 0, 1) := by decide +kernel
theorem dX7_part_26 : decode cX7_part 26 = .ok (.getfield 47, 3) := by decide +kernel
theorem dX7_part_29 : decode cX7_part 29 = .ok (.ireturn, 1) := by decide +kernel
theorem dX7_greatest_0 : decode cX7_greatest 0 = .ok (.aload_n 0, 1) := by decide +kernel
theorem dX7_greatest_1 : decode cX7_greatest 1 = .ok (.getfield 76, 3) := by decide +kernel
theorem dX7_greatest_4 : decode cX7_greatest 4 = .ok (.ifCond .ne 8, 3) := by decide +kernel
theorem dX7_greatest_7 : decode cX7_greatest 7 = .ok (.aload_n 0, 1) := by decide +kernel
theorem dX7_greatest_8 : decode cX7_greatest 8 = .ok (.invokevirtual 82, 3) := by decide +kernel
theorem dX7_greatest_11 : decode cX7_greatest 11 = .ok (.ireturn, 1) := by decide +kernel
theorem dX7_greatest_12 : decode cX7_greatest 12 = .ok (.aload_n 0, 1) := by decide +kernel
theorem dX7_greatest_13 : decode cX7_greatest 13 = .ok (.iconst 0, 1) := by decide +kernel
theorem dX7_greatest_14 : decode cX7_greatest 14 = .ok (.invokevirtual 186, 3) := by decide +kernel
theorem dX7_greatest_17 : decode cX7_greatest 17 = .ok (.aload_n 0, 1) := by decide +kernel
theorem dX7_greatest_18 : decode cX7_greatest 18 = .ok (.invokevirtual 167, 3) := by decide +kernel
theorem dX7_greatest_21 : decode cX7_greatest 21 = .ok (.istore_n 1, 1) := by decide +kernel
theorem dX7_greatest_22 : decode cX7_greatest 22 = .ok (.aload_n 0, 1) := by decide +kernel
theorem dX7_greatest_23 : decode cX7_greatest 23 = .ok (.iload_n 1, 1) := by decide +kernel
theorem dX7_greatest_24 : decode cX7_greatest 24 = .ok (.invokevirtual 189, 3) := by decide +kernel
theorem dX7_greatest_27 : decode cX7_greatest 27 = .ok (.aload_n 0, 1) := by decide +kernel
theorem dX7_greatest_28 : decode cX7_greatest 28 = .ok (.iload_n 1, 1) := by decide +kernel
theorem dX7_greatest_29 : decode cX7_greatest 29 = .ok (.invokevirtual 170, 3) := by decide +kernel
theorem dX7_greatest_32 : decode cX7_greatest 32 = .ok (.invokestatic 173, 3) := by decide +kernel
theorem dX7_greatest_35 : decode cX7_greatest 35 = .ok (.ireturn, 1) := by decide +kernel
theorem dX7_squares_0 : decode cX7_squares 0 = .ok (.lconst 0, 1) := by decide +kernel
theorem dX7_squares_1 : decode cX7_squares 1 = .ok (.lstore_n 1, 1) := by decide +kernel
theorem dX7_squares_2 : decode cX7_squares 2 = .ok (.iconst 0, 1) := by decide +kernel
theorem dX7_squares_3 : decode cX7_squares 3 = .ok (.istore_n 3, 1) := by decide +kernel
theorem dX7_squares_4 : decode cX7_squares 4 = .ok (.iload_n 3, 1) := by decide +kernel
theorem dX7_squares_5 : decode cX7_squares 5 = .ok (.bipush 64, 2) := by decide +kernel
theorem dX7_squares_7 : decode cX7_squares 7 = .ok (.if_icmp .ge 27, 3) := by decide +kernel
theorem dX7_squares_10 : decode cX7_squares 10 = .ok (.lload_n 1, 1) := by decide +kernel
theorem dX7_squares_11 : decode cX7_squares 11 = .ok (.aload_n 0, 1) := by decide +kernel
theorem dX7_squares_12 : decode cX7_squares 12 = .ok (.getfield 44, 3) := by decide +kernel
theorem dX7_squares_15 : decode cX7_squares 15 = .ok (.iload_n 3, 1) := by decide +kernel
theorem dX7_squares_16 : decode cX7_squares 16 = .ok (.iaload, 1) := by decide +kernel
theorem dX7_squares_17 : decode cX7_squares 17 = .ok (.i2l, 1) := by decide +kernel
theorem dX7_squares_18 : decode cX7_squares 18 = .ok (.aload_n 0, 1) := by decide +kernel
theorem dX7_squares_19 : decode cX7_squares 19 = .ok (.getfield 44, 3) := by decide +kernel
theorem dX7_squares_22 : decode cX7_squares 22 = .ok (.iload_n 3, 1) := by decide +kernel
theorem dX7_squares_23 : decode cX7_squares 23 = .ok (.iaload, 1) := by decide +kernel
theorem dX7_squares_24 : decode cX7_squares 24 = .ok (.i2l, 1) := by decide +kernel
theorem dX7_squares_25 : decode cX7_squares 25 = .ok (.lmul, 1) := by decide +kernel
theorem dX7_squares_26 : decode cX7_squares 26 = .ok (.ladd, 1) := by decide +kernel
theorem dX7_squares_27 : decode cX7_squares 27 = .ok (.lstore_n 1, 1) := by decide +kernel
theorem dX7_squares_28 : decode cX7_squares 28 = .ok (.iinc 3 1, 3) := by decide +kernel
theorem dX7_squares_31 : decode cX7_squares 31 = .ok (.goto (-27), 3) := by decide +kernel
theorem dX7_squares_34 : decode cX7_squares 34 = .ok (.lload_n 1, 1) := by decide +kernel
theorem dX7_squares_35 : decode cX7_squares 35 = .ok (.lreturn, 1) := by decide +kernel
theorem dX7_choosesFor_0 : decode cX7_choosesFor 0 = .ok (.iconst 0, 1) := by decide +kernel
theorem dX7_choosesFor_1 : decode cX7_choosesFor 1 = .ok (.istore_n 2, 1) := by decide +kernel
theorem dX7_choosesFor_2 : decode cX7_choosesFor 2 = .ok (.iconst 0, 1) := by decide +kernel
theorem dX7_choosesFor_3 : decode cX7_choosesFor 3 = .ok (.istore_n 3, 1) := by decide +kernel
theorem dX7_choosesFor_4 : decode cX7_choosesFor 4 = .ok (.lconst 0, 1) := by decide +kernel
theorem dX7_choosesFor_5 : decode cX7_choosesFor 5 = .ok (.lstore 4, 2) := by decide +kernel
theorem dX7_choosesFor_7 : decode cX7_choosesFor 7 = .ok (.iconst 0, 1) := by decide +kernel
theorem dX7_choosesFor_8 : decode cX7_choosesFor 8 = .ok (.istore 6, 2) := by decide +kernel
theorem dX7_choosesFor_10 : decode cX7_choosesFor 10 = .ok (.iload 6, 2) := by decide +kernel
theorem dX7_choosesFor_12 : decode cX7_choosesFor 12 = .ok (.aload_n 0, 1) := by decide +kernel
theorem dX7_choosesFor_13 : decode cX7_choosesFor 13 = .ok (.invokevirtual 68, 3) := by decide +kernel
theorem dX7_choosesFor_16 : decode cX7_choosesFor 16 = .ok (.if_icmp .ge 71, 3) := by decide +kernel
theorem dX7_choosesFor_19 : decode cX7_choosesFor 19 = .ok (.aload_n 0, 1) := by decide +kernel
theorem dX7_choosesFor_20 : decode cX7_choosesFor 20 = .ok (.getfield 26, 3) := by decide +kernel
theorem dX7_choosesFor_23 : decode cX7_choosesFor 23 = .ok (.iload_n 1, 1) := by decide +kernel
theorem dX7_choosesFor_24 : decode cX7_choosesFor 24 = .ok (.iload 6, 2) := by decide +kernel
theorem dX7_choosesFor_26 : decode cX7_choosesFor 26 = .ok (.iastore, 1) := by decide +kernel
theorem dX7_choosesFor_27 : decode cX7_choosesFor 27 = .ok (.aload_n 0, 1) := by decide +kernel
theorem dX7_choosesFor_28 : decode cX7_choosesFor 28 = .ok (.iload_n 1, 1) := by decide +kernel
theorem dX7_choosesFor_29 : decode cX7_choosesFor 29 = .ok (.iconst 1, 1) := by decide +kernel
theorem dX7_choosesFor_30 : decode cX7_choosesFor 30 = .ok (.iadd, 1) := by decide +kernel
theorem dX7_choosesFor_31 : decode cX7_choosesFor 31 = .ok (.invokevirtual 186, 3) := by decide +kernel
theorem dX7_choosesFor_34 : decode cX7_choosesFor 34 = .ok (.aload_n 0, 1) := by decide +kernel
theorem dX7_choosesFor_35 : decode cX7_choosesFor 35 = .ok (.invokevirtual 167, 3) := by decide +kernel
theorem dX7_choosesFor_38 : decode cX7_choosesFor 38 = .ok (.istore 7, 2) := by decide +kernel
theorem dX7_choosesFor_40 : decode cX7_choosesFor 40 = .ok (.aload_n 0, 1) := by decide +kernel
theorem dX7_choosesFor_41 : decode cX7_choosesFor 41 = .ok (.invokevirtual 192, 3) := by decide +kernel
theorem dX7_choosesFor_44 : decode cX7_choosesFor 44 = .ok (.lstore 8, 2) := by decide +kernel
theorem dX7_choosesFor_46 : decode cX7_choosesFor 46 = .ok (.iload 6, 2) := by decide +kernel
theorem dX7_choosesFor_48 : decode cX7_choosesFor 48 = .ok (.ifCond .eq 23, 3) := by decide +kernel
theorem dX7_choosesFor_51 : decode cX7_choosesFor 51 = .ok (.iload 7, 2) := by decide +kernel
theorem dX7_choosesFor_53 : decode cX7_choosesFor 53 = .ok (.iload_n 3, 1) := by decide +kernel
theorem dX7_choosesFor_54 : decode cX7_choosesFor 54 = .ok (.if_icmp .lt 17, 3) := by decide +kernel
theorem dX7_choosesFor_57 : decode cX7_choosesFor 57 = .ok (.iload 7, 2) := by decide +kernel
theorem dX7_choosesFor_59 : decode cX7_choosesFor 59 = .ok (.iload_n 3, 1) := by decide +kernel
theorem dX7_choosesFor_60 : decode cX7_choosesFor 60 = .ok (.if_icmp .ne 21, 3) := by decide +kernel
theorem dX7_choosesFor_63 : decode cX7_choosesFor 63 = .ok (.lload 8, 2) := by decide +kernel
theorem dX7_choosesFor_65 : decode cX7_choosesFor 65 = .ok (.lload 4, 2) := by decide +kernel
theorem dX7_choosesFor_67 : decode cX7_choosesFor 67 = .ok (.lcmp, 1) := by decide +kernel
theorem dX7_choosesFor_68 : decode cX7_choosesFor 68 = .ok (.ifCond .ge 13, 3) := by decide +kernel
theorem dX7_choosesFor_71 : decode cX7_choosesFor 71 = .ok (.iload 6, 2) := by decide +kernel
theorem dX7_choosesFor_73 : decode cX7_choosesFor 73 = .ok (.istore_n 2, 1) := by decide +kernel
theorem dX7_choosesFor_74 : decode cX7_choosesFor 74 = .ok (.iload 7, 2) := by decide +kernel
theorem dX7_choosesFor_76 : decode cX7_choosesFor 76 = .ok (.istore_n 3, 1) := by decide +kernel
theorem dX7_choosesFor_77 : decode cX7_choosesFor 77 = .ok (.lload 8, 2) := by decide +kernel
theorem dX7_choosesFor_79 : decode cX7_choosesFor 79 = .ok (.lstore 4, 2) := by decide +kernel
theorem dX7_choosesFor_81 : decode cX7_choosesFor 81 = .ok (.iinc 6 1, 3) := by decide +kernel
theorem dX7_choosesFor_84 : decode cX7_choosesFor 84 = .ok (.goto (-74), 3) := by decide +kernel
theorem dX7_choosesFor_87 : decode cX7_choosesFor 87 = .ok (.aload_n 0, 1) := by decide +kernel
theorem dX7_choosesFor_88 : decode cX7_choosesFor 88 = .ok (.getfield 26, 3) := by decide +kernel
theorem dX7_choosesFor_91 : decode cX7_choosesFor 91 = .ok (.iload_n 1, 1) := by decide +kernel
theorem dX7_choosesFor_92 : decode cX7_choosesFor 92 = .ok (.iload_n 2, 1) := by decide +kernel
theorem dX7_choosesFor_93 : decode cX7_choosesFor 93 = .ok (.iastore, 1) := by decide +kernel
theorem dX7_choosesFor_94 : decode cX7_choosesFor 94 = .ok (.return_, 1) := by decide +kernel
theorem dX7_chooses_0 : decode cX7_chooses 0 = .ok (.aload_n 0, 1) := by decide +kernel
theorem dX7_chooses_1 : decode cX7_chooses 1 = .ok (.getfield 76, 3) := by decide +kernel
theorem dX7_chooses_4 : decode cX7_chooses 4 = .ok (.ifCond .ne 8, 3) := by decide +kernel
theorem dX7_chooses_7 : decode cX7_chooses 7 = .ok (.aload_n 0, 1) := by decide +kernel
theorem dX7_chooses_8 : decode cX7_chooses 8 = .ok (.invokevirtual 82, 3) := by decide +kernel
theorem dX7_chooses_11 : decode cX7_chooses 11 = .ok (.ireturn, 1) := by decide +kernel
theorem dX7_chooses_12 : decode cX7_chooses 12 = .ok (.aload_n 0, 1) := by decide +kernel
theorem dX7_chooses_13 : decode cX7_chooses 13 = .ok (.invokevirtual 88, 3) := by decide +kernel
theorem dX7_chooses_16 : decode cX7_chooses 16 = .ok (.iconst 0, 1) := by decide +kernel
theorem dX7_chooses_17 : decode cX7_chooses 17 = .ok (.istore_n 1, 1) := by decide +kernel
theorem dX7_chooses_18 : decode cX7_chooses 18 = .ok (.iload_n 1, 1) := by decide +kernel
theorem dX7_chooses_19 : decode cX7_chooses 19 = .ok (.aload_n 0, 1) := by decide +kernel
theorem dX7_chooses_20 : decode cX7_chooses 20 = .ok (.getfield 76, 3) := by decide +kernel
theorem dX7_chooses_23 : decode cX7_chooses 23 = .ok (.if_icmp .ge 14, 3) := by decide +kernel
theorem dX7_chooses_26 : decode cX7_chooses 26 = .ok (.aload_n 0, 1) := by decide +kernel
theorem dX7_chooses_27 : decode cX7_chooses 27 = .ok (.iload_n 1, 1) := by decide +kernel
theorem dX7_chooses_28 : decode cX7_chooses 28 = .ok (.invokevirtual 196, 3) := by decide +kernel
theorem dX7_chooses_31 : decode cX7_chooses 31 = .ok (.iinc 1 1, 3) := by decide +kernel
theorem dX7_chooses_34 : decode cX7_chooses 34 = .ok (.goto (-16), 3) := by decide +kernel
theorem dX7_chooses_37 : decode cX7_chooses 37 = .ok (.aload_n 0, 1) := by decide +kernel
theorem dX7_chooses_38 : decode cX7_chooses 38 = .ok (.invokevirtual 164, 3) := by decide +kernel
theorem dX7_chooses_41 : decode cX7_chooses 41 = .ok (.aload_n 0, 1) := by decide +kernel
theorem dX7_chooses_42 : decode cX7_chooses 42 = .ok (.invokevirtual 167, 3) := by decide +kernel
theorem dX7_chooses_45 : decode cX7_chooses 45 = .ok (.ireturn, 1) := by decide +kernel
theorem dX7_isAhead_0 : decode cX7_isAhead 0 = .ok (.iconst 0, 1) := by decide +kernel
theorem dX7_isAhead_1 : decode cX7_isAhead 1 = .ok (.istore 4, 2) := by decide +kernel
theorem dX7_isAhead_3 : decode cX7_isAhead 3 = .ok (.iload_n 3, 1) := by decide +kernel
theorem dX7_isAhead_4 : decode cX7_isAhead 4 = .ok (.ifCond .ne 21, 3) := by decide +kernel
theorem dX7_isAhead_7 : decode cX7_isAhead 7 = .ok (.aload_n 0, 1) := by decide +kernel
theorem dX7_isAhead_8 : decode cX7_isAhead 8 = .ok (.getfield 53, 3) := by decide +kernel
theorem dX7_isAhead_11 : decode cX7_isAhead 11 = .ok (.iload_n 2, 1) := by decide +kernel
theorem dX7_isAhead_12 : decode cX7_isAhead 12 = .ok (.iaload, 1) := by decide +kernel
theorem dX7_isAhead_13 : decode cX7_isAhead 13 = .ok (.aload_n 0, 1) := by decide +kernel
theorem dX7_isAhead_14 : decode cX7_isAhead 14 = .ok (.getfield 53, 3) := by decide +kernel
theorem dX7_isAhead_17 : decode cX7_isAhead 17 = .ok (.iload_n 1, 1) := by decide +kernel
theorem dX7_isAhead_18 : decode cX7_isAhead 18 = .ok (.iaload, 1) := by decide +kernel
theorem dX7_isAhead_19 : decode cX7_isAhead 19 = .ok (.isub, 1) := by decide +kernel
theorem dX7_isAhead_20 : decode cX7_isAhead 20 = .ok (.istore 4, 2) := by decide +kernel
theorem dX7_isAhead_22 : decode cX7_isAhead 22 = .ok (.goto 88, 3) := by decide +kernel
theorem dX7_isAhead_25 : decode cX7_isAhead 25 = .ok (.iload_n 3, 1) := by decide +kernel
theorem dX7_isAhead_26 : decode cX7_isAhead 26 = .ok (.iconst 2, 1) := by decide +kernel
theorem dX7_isAhead_27 : decode cX7_isAhead 27 = .ok (.if_icmp .ne 35, 3) := by decide +kernel
theorem dX7_isAhead_30 : decode cX7_isAhead 30 = .ok (.aload_n 0, 1) := by decide +kernel
theorem dX7_isAhead_31 : decode cX7_isAhead 31 = .ok (.getfield 35, 3) := by decide +kernel
theorem dX7_isAhead_34 : decode cX7_isAhead 34 = .ok (.iload_n 1, 1) := by decide +kernel
theorem dX7_isAhead_35 : decode cX7_isAhead 35 = .ok (.iaload, 1) := by decide +kernel
theorem dX7_isAhead_36 : decode cX7_isAhead 36 = .ok (.aload_n 0, 1) := by decide +kernel
theorem dX7_isAhead_37 : decode cX7_isAhead 37 = .ok (.getfield 50, 3) := by decide +kernel
theorem dX7_isAhead_40 : decode cX7_isAhead 40 = .ok (.iload_n 1, 1) := by decide +kernel
theorem dX7_isAhead_41 : decode cX7_isAhead 41 = .ok (.iaload, 1) := by decide +kernel
theorem dX7_isAhead_42 : decode cX7_isAhead 42 = .ok (.isub, 1) := by decide +kernel
theorem dX7_isAhead_43 : decode cX7_isAhead 43 = .ok (.aload_n 0, 1) := by decide +kernel
theorem dX7_isAhead_44 : decode cX7_isAhead 44 = .ok (.getfield 35, 3) := by decide +kernel
theorem dX7_isAhead_47 : decode cX7_isAhead 47 = .ok (.iload_n 2, 1) := by decide +kernel
theorem dX7_isAhead_48 : decode cX7_isAhead 48 = .ok (.iaload, 1) := by decide +kernel
theorem dX7_isAhead_49 : decode cX7_isAhead 49 = .ok (.isub, 1) := by decide +kernel
theorem dX7_isAhead_50 : decode cX7_isAhead 50 = .ok (.aload_n 0, 1) := by decide +kernel
theorem dX7_isAhead_51 : decode cX7_isAhead 51 = .ok (.getfield 50, 3) := by decide +kernel
theorem dX7_isAhead_54 : decode cX7_isAhead 54 = .ok (.iload_n 2, 1) := by decide +kernel
theorem dX7_isAhead_55 : decode cX7_isAhead 55 = .ok (.iaload, 1) := by decide +kernel
theorem dX7_isAhead_56 : decode cX7_isAhead 56 = .ok (.iadd, 1) := by decide +kernel
theorem dX7_isAhead_57 : decode cX7_isAhead 57 = .ok (.istore 4, 2) := by decide +kernel
theorem dX7_isAhead_59 : decode cX7_isAhead 59 = .ok (.goto 51, 3) := by decide +kernel
theorem dX7_isAhead_62 : decode cX7_isAhead 62 = .ok (.iload_n 3, 1) := by decide +kernel
theorem dX7_isAhead_63 : decode cX7_isAhead 63 = .ok (.iconst 3, 1) := by decide +kernel
theorem dX7_isAhead_64 : decode cX7_isAhead 64 = .ok (.if_icmp .ne 46, 3) := by decide +kernel
theorem dX7_isAhead_67 : decode cX7_isAhead 67 = .ok (.aload_n 0, 1) := by decide +kernel
theorem dX7_isAhead_68 : decode cX7_isAhead 68 = .ok (.getfield 50, 3) := by decide +kernel
theorem dX7_isAhead_71 : decode cX7_isAhead 71 = .ok (.iload_n 1, 1) := by decide +kernel
theorem dX7_isAhead_72 : decode cX7_isAhead 72 = .ok (.iaload, 1) := by decide +kernel
theorem dX7_isAhead_73 : decode cX7_isAhead 73 = .ok (.aload_n 0, 1) := by decide +kernel
theorem dX7_isAhead_74 : decode cX7_isAhead 74 = .ok (.getfield 38, 3) := by decide +kernel
theorem dX7_isAhead_77 : decode cX7_isAhead 77 = .ok (.iload_n 1, 1) := by decide +kernel
theorem dX7_isAhead_78 : decode cX7_isAhead 78 = .ok (.iaload, 1) := by decide +kernel
theorem dX7_isAhead_79 : decode cX7_isAhead 79 = .ok (.if_icmp .lt 7, 3) := by decide +kernel
theorem dX7_isAhead_82 : decode cX7_isAhead 82 = .ok (.iconst 1, 1) := by decide +kernel
theorem dX7_isAhead_83 : decode cX7_isAhead 83 = .ok (.goto 4, 3) := by decide +kernel
theorem dX7_isAhead_86 : decode cX7_isAhead 86 = .ok (.iconst 0, 1) := by decide +kernel
theorem dX7_isAhead_87 : decode cX7_isAhead 87 = .ok (.aload_n 0, 1) := by decide +kernel
theorem dX7_isAhead_88 : decode cX7_isAhead 88 = .ok (.getfield 50, 3) := by decide +kernel
theorem dX7_isAhead_91 : decode cX7_isAhead 91 = .ok (.iload_n 2, 1) := by decide +kernel
theorem dX7_isAhead_92 : decode cX7_isAhead 92 = .ok (.iaload, 1) := by decide +kernel
theorem dX7_isAhead_93 : decode cX7_isAhead 93 = .ok (.aload_n 0, 1) := by decide +kernel
theorem dX7_isAhead_94 : decode cX7_isAhead 94 = .ok (.getfield 38, 3) := by decide +kernel
theorem dX7_isAhead_97 : decode cX7_isAhead 97 = .ok (.iload_n 2, 1) := by decide +kernel
theorem dX7_isAhead_98 : decode cX7_isAhead 98 = .ok (.iaload, 1) := by decide +kernel
theorem dX7_isAhead_99 : decode cX7_isAhead 99 = .ok (.if_icmp .lt 7, 3) := by decide +kernel
theorem dX7_isAhead_102 : decode cX7_isAhead 102 = .ok (.iconst 1, 1) := by decide +kernel
theorem dX7_isAhead_103 : decode cX7_isAhead 103 = .ok (.goto 4, 3) := by decide +kernel
theorem dX7_isAhead_106 : decode cX7_isAhead 106 = .ok (.iconst 0, 1) := by decide +kernel
theorem dX7_isAhead_107 : decode cX7_isAhead 107 = .ok (.isub, 1) := by decide +kernel
theorem dX7_isAhead_108 : decode cX7_isAhead 108 = .ok (.istore 4, 2) := by decide +kernel
theorem dX7_isAhead_110 : decode cX7_isAhead 110 = .ok (.iload 4, 2) := by decide +kernel
theorem dX7_isAhead_112 : decode cX7_isAhead 112 = .ok (.ifCond .ne 19, 3) := by decide +kernel
theorem dX7_isAhead_115 : decode cX7_isAhead 115 = .ok (.aload_n 0, 1) := by decide +kernel
theorem dX7_isAhead_116 : decode cX7_isAhead 116 = .ok (.getfield 29, 3) := by decide +kernel
theorem dX7_isAhead_119 : decode cX7_isAhead 119 = .ok (.iload_n 1, 1) := by decide +kernel
end
section
theorem dX7_isAhead_120 : decode cX7_isAhead 120 = .ok (.iaload, 1) := by decide +kernel
theorem dX7_isAhead_121 : decode cX7_isAhead 121 = .ok (.aload_n 0, 1) := by decide +kernel
theorem dX7_isAhead_122 : decode cX7_isAhead 122 = .ok (.getfield 29, 3) := by decide +kernel
theorem dX7_isAhead_125 : decode cX7_isAhead 125 = .ok (.iload_n 2, 1) := by decide +kernel
theorem dX7_isAhead_126 : decode cX7_isAhead 126 = .ok (.iaload, 1) := by decide +kernel
theorem dX7_isAhead_127 : decode cX7_isAhead 127 = .ok (.isub, 1) := by decide +kernel
theorem dX7_isAhead_128 : decode cX7_isAhead 128 = .ok (.goto 5, 3) := by decide +kernel
theorem dX7_isAhead_131 : decode cX7_isAhead 131 = .ok (.iload 4, 2) := by decide +kernel
theorem dX7_isAhead_133 : decode cX7_isAhead 133 = .ok (.istore 4, 2) := by decide +kernel
theorem dX7_isAhead_135 : decode cX7_isAhead 135 = .ok (.iload 4, 2) := by decide +kernel
theorem dX7_isAhead_137 : decode cX7_isAhead 137 = .ok (.ifCond .ne 16, 3) := by decide +kernel
theorem dX7_isAhead_140 : decode cX7_isAhead 140 = .ok (.iload_n 1, 1) := by decide +kernel
theorem dX7_isAhead_141 : decode cX7_isAhead 141 = .ok (.iload_n 2, 1) := by decide +kernel
theorem dX7_isAhead_142 : decode cX7_isAhead 142 = .ok (.if_icmp .ge 7, 3) := by decide +kernel
theorem dX7_isAhead_145 : decode cX7_isAhead 145 = .ok (.iconst 1, 1) := by decide +kernel
theorem dX7_isAhead_146 : decode cX7_isAhead 146 = .ok (.goto 17, 3) := by decide +kernel
theorem dX7_isAhead_149 : decode cX7_isAhead 149 = .ok (.iconst 0, 1) := by decide +kernel
theorem dX7_isAhead_150 : decode cX7_isAhead 150 = .ok (.goto 13, 3) := by decide +kernel
theorem dX7_isAhead_153 : decode cX7_isAhead 153 = .ok (.iload 4, 2) := by decide +kernel
theorem dX7_isAhead_155 : decode cX7_isAhead 155 = .ok (.ifCond .le 7, 3) := by decide +kernel
theorem dX7_isAhead_158 : decode cX7_isAhead 158 = .ok (.iconst 1, 1) := by decide +kernel
theorem dX7_isAhead_159 : decode cX7_isAhead 159 = .ok (.goto 4, 3) := by decide +kernel
theorem dX7_isAhead_162 : decode cX7_isAhead 162 = .ok (.iconst 0, 1) := by decide +kernel
theorem dX7_isAhead_163 : decode cX7_isAhead 163 = .ok (.ireturn, 1) := by decide +kernel
theorem dX7_isHome_0 : decode cX7_isHome 0 = .ok (.aload_n 0, 1) := by decide +kernel
theorem dX7_isHome_1 : decode cX7_isHome 1 = .ok (.getfield 50, 3) := by decide +kernel
theorem dX7_isHome_4 : decode cX7_isHome 4 = .ok (.iload_n 1, 1) := by decide +kernel
theorem dX7_isHome_5 : decode cX7_isHome 5 = .ok (.iaload, 1) := by decide +kernel
theorem dX7_isHome_6 : decode cX7_isHome 6 = .ok (.aload_n 0, 1) := by decide +kernel
theorem dX7_isHome_7 : decode cX7_isHome 7 = .ok (.getfield 35, 3) := by decide +kernel
theorem dX7_isHome_10 : decode cX7_isHome 10 = .ok (.iload_n 1, 1) := by decide +kernel
theorem dX7_isHome_11 : decode cX7_isHome 11 = .ok (.iaload, 1) := by decide +kernel
theorem dX7_isHome_12 : decode cX7_isHome 12 = .ok (.if_icmp .ne 7, 3) := by decide +kernel
theorem dX7_isHome_15 : decode cX7_isHome 15 = .ok (.iconst 1, 1) := by decide +kernel
theorem dX7_isHome_16 : decode cX7_isHome 16 = .ok (.goto 4, 3) := by decide +kernel
theorem dX7_isHome_19 : decode cX7_isHome 19 = .ok (.iconst 0, 1) := by decide +kernel
theorem dX7_isHome_20 : decode cX7_isHome 20 = .ok (.ireturn, 1) := by decide +kernel
theorem dX7_setGoing_0 : decode cX7_setGoing 0 = .ok (.iconst 0, 1) := by decide +kernel
theorem dX7_setGoing_1 : decode cX7_setGoing 1 = .ok (.istore_n 2, 1) := by decide +kernel
theorem dX7_setGoing_2 : decode cX7_setGoing 2 = .ok (.iload_n 2, 1) := by decide +kernel
theorem dX7_setGoing_3 : decode cX7_setGoing 3 = .ok (.aload_n 0, 1) := by decide +kernel
theorem dX7_setGoing_4 : decode cX7_setGoing 4 = .ok (.getfield 76, 3) := by decide +kernel
theorem dX7_setGoing_7 : decode cX7_setGoing 7 = .ok (.if_icmp .ge 156, 3) := by decide +kernel
theorem dX7_setGoing_10 : decode cX7_setGoing 10 = .ok (.aload_n 0, 1) := by decide +kernel
theorem dX7_setGoing_11 : decode cX7_setGoing 11 = .ok (.getfield 62, 3) := by decide +kernel
theorem dX7_setGoing_14 : decode cX7_setGoing 14 = .ok (.iload_n 2, 1) := by decide +kernel
theorem dX7_setGoing_15 : decode cX7_setGoing 15 = .ok (.iconst 0, 1) := by decide +kernel
theorem dX7_setGoing_16 : decode cX7_setGoing 16 = .ok (.iastore, 1) := by decide +kernel
theorem dX7_setGoing_17 : decode cX7_setGoing 17 = .ok (.aload_n 0, 1) := by decide +kernel
theorem dX7_setGoing_18 : decode cX7_setGoing 18 = .ok (.iload_n 2, 1) := by decide +kernel
theorem dX7_setGoing_19 : decode cX7_setGoing 19 = .ok (.invokevirtual 199, 3) := by decide +kernel
theorem dX7_setGoing_22 : decode cX7_setGoing 22 = .ok (.ifCond .ne 135, 3) := by decide +kernel
theorem dX7_setGoing_25 : decode cX7_setGoing 25 = .ok (.aload_n 0, 1) := by decide +kernel
theorem dX7_setGoing_26 : decode cX7_setGoing 26 = .ok (.iload_n 2, 1) := by decide +kernel
theorem dX7_setGoing_27 : decode cX7_setGoing 27 = .ok (.aload_n 0, 1) := by decide +kernel
theorem dX7_setGoing_28 : decode cX7_setGoing 28 = .ok (.getfield 50, 3) := by decide +kernel
theorem dX7_setGoing_31 : decode cX7_setGoing 31 = .ok (.iload_n 2, 1) := by decide +kernel
theorem dX7_setGoing_32 : decode cX7_setGoing 32 = .ok (.iaload, 1) := by decide +kernel
theorem dX7_setGoing_33 : decode cX7_setGoing 33 = .ok (.invokevirtual 139, 3) := by decide +kernel
theorem dX7_setGoing_36 : decode cX7_setGoing 36 = .ok (.istore_n 3, 1) := by decide +kernel
theorem dX7_setGoing_37 : decode cX7_setGoing 37 = .ok (.iconst 1, 1) := by decide +kernel
theorem dX7_setGoing_38 : decode cX7_setGoing 38 = .ok (.istore 4, 2) := by decide +kernel
theorem dX7_setGoing_40 : decode cX7_setGoing 40 = .ok (.iconst 0, 1) := by decide +kernel
theorem dX7_setGoing_41 : decode cX7_setGoing 41 = .ok (.istore 5, 2) := by decide +kernel
theorem dX7_setGoing_43 : decode cX7_setGoing 43 = .ok (.iconst 0, 1) := by decide +kernel
theorem dX7_setGoing_44 : decode cX7_setGoing 44 = .ok (.istore 6, 2) := by decide +kernel
theorem dX7_setGoing_46 : decode cX7_setGoing 46 = .ok (.iload 6, 2) := by decide +kernel
theorem dX7_setGoing_48 : decode cX7_setGoing 48 = .ok (.aload_n 0, 1) := by decide +kernel
theorem dX7_setGoing_49 : decode cX7_setGoing 49 = .ok (.getfield 76, 3) := by decide +kernel
theorem dX7_setGoing_52 : decode cX7_setGoing 52 = .ok (.if_icmp .ge 67, 3) := by decide +kernel
theorem dX7_setGoing_55 : decode cX7_setGoing 55 = .ok (.aload_n 0, 1) := by decide +kernel
theorem dX7_setGoing_56 : decode cX7_setGoing 56 = .ok (.iload 6, 2) := by decide +kernel
theorem dX7_setGoing_58 : decode cX7_setGoing 58 = .ok (.invokevirtual 199, 3) := by decide +kernel
theorem dX7_setGoing_61 : decode cX7_setGoing 61 = .ok (.ifCond .ne 52, 3) := by decide +kernel
theorem dX7_setGoing_64 : decode cX7_setGoing 64 = .ok (.aload_n 0, 1) := by decide +kernel
theorem dX7_setGoing_65 : decode cX7_setGoing 65 = .ok (.iload 6, 2) := by decide +kernel
theorem dX7_setGoing_67 : decode cX7_setGoing 67 = .ok (.aload_n 0, 1) := by decide +kernel
theorem dX7_setGoing_68 : decode cX7_setGoing 68 = .ok (.getfield 50, 3) := by decide +kernel
theorem dX7_setGoing_71 : decode cX7_setGoing 71 = .ok (.iload 6, 2) := by decide +kernel
theorem dX7_setGoing_73 : decode cX7_setGoing 73 = .ok (.iaload, 1) := by decide +kernel
theorem dX7_setGoing_74 : decode cX7_setGoing 74 = .ok (.invokevirtual 139, 3) := by decide +kernel
theorem dX7_setGoing_77 : decode cX7_setGoing 77 = .ok (.iload_n 3, 1) := by decide +kernel
theorem dX7_setGoing_78 : decode cX7_setGoing 78 = .ok (.if_icmp .ne 35, 3) := by decide +kernel
theorem dX7_setGoing_81 : decode cX7_setGoing 81 = .ok (.iinc 5 1, 3) := by decide +kernel
theorem dX7_setGoing_84 : decode cX7_setGoing 84 = .ok (.iload 4, 2) := by decide +kernel
theorem dX7_setGoing_86 : decode cX7_setGoing 86 = .ok (.ifCond .eq 24, 3) := by decide +kernel
theorem dX7_setGoing_89 : decode cX7_setGoing 89 = .ok (.iload 6, 2) := by decide +kernel
theorem dX7_setGoing_91 : decode cX7_setGoing 91 = .ok (.iload_n 2, 1) := by decide +kernel
theorem dX7_setGoing_92 : decode cX7_setGoing 92 = .ok (.if_icmp .eq 14, 3) := by decide +kernel
theorem dX7_setGoing_95 : decode cX7_setGoing 95 = .ok (.aload_n 0, 1) := by decide +kernel
theorem dX7_setGoing_96 : decode cX7_setGoing 96 = .ok (.iload_n 2, 1) := by decide +kernel
theorem dX7_setGoing_97 : decode cX7_setGoing 97 = .ok (.iload 6, 2) := by decide +kernel
theorem dX7_setGoing_99 : decode cX7_setGoing 99 = .ok (.iload_n 1, 1) := by decide +kernel
theorem dX7_setGoing_100 : decode cX7_setGoing 100 = .ok (.invokevirtual 202, 3) := by decide +kernel
theorem dX7_setGoing_103 : decode cX7_setGoing 103 = .ok (.ifCond .eq 7, 3) := by decide +kernel
theorem dX7_setGoing_106 : decode cX7_setGoing 106 = .ok (.iconst 1, 1) := by decide +kernel
theorem dX7_setGoing_107 : decode cX7_setGoing 107 = .ok (.goto 4, 3) := by decide +kernel
theorem dX7_setGoing_110 : decode cX7_setGoing 110 = .ok (.iconst 0, 1) := by decide +kernel
theorem dX7_setGoing_111 : decode cX7_setGoing 111 = .ok (.istore 4, 2) := by decide +kernel
theorem dX7_setGoing_113 : decode cX7_setGoing 113 = .ok (.iinc 6 1, 3) := by decide +kernel
theorem dX7_setGoing_116 : decode cX7_setGoing 116 = .ok (.goto (-70), 3) := by decide +kernel
theorem dX7_setGoing_119 : decode cX7_setGoing 119 = .ok (.aload_n 0, 1) := by decide +kernel
theorem dX7_setGoing_120 : decode cX7_setGoing 120 = .ok (.getfield 62, 3) := by decide +kernel
theorem dX7_setGoing_123 : decode cX7_setGoing 123 = .ok (.iload_n 2, 1) := by decide +kernel
theorem dX7_setGoing_124 : decode cX7_setGoing 124 = .ok (.iload 4, 2) := by decide +kernel
theorem dX7_setGoing_126 : decode cX7_setGoing 126 = .ok (.ifCond .eq 7, 3) := by decide +kernel
theorem dX7_setGoing_129 : decode cX7_setGoing 129 = .ok (.iconst 1, 1) := by decide +kernel
theorem dX7_setGoing_130 : decode cX7_setGoing 130 = .ok (.goto 4, 3) := by decide +kernel
theorem dX7_setGoing_133 : decode cX7_setGoing 133 = .ok (.iconst 0, 1) := by decide +kernel
theorem dX7_setGoing_134 : decode cX7_setGoing 134 = .ok (.iastore, 1) := by decide +kernel
theorem dX7_setGoing_135 : decode cX7_setGoing 135 = .ok (.aload_n 0, 1) := by decide +kernel
theorem dX7_setGoing_136 : decode cX7_setGoing 136 = .ok (.iload 5, 2) := by decide +kernel
theorem dX7_setGoing_138 : decode cX7_setGoing 138 = .ok (.aload_n 0, 1) := by decide +kernel
theorem dX7_setGoing_139 : decode cX7_setGoing 139 = .ok (.getfield 205, 3) := by decide +kernel
theorem dX7_setGoing_142 : decode cX7_setGoing 142 = .ok (.if_icmp .le 8, 3) := by decide +kernel
theorem dX7_setGoing_145 : decode cX7_setGoing 145 = .ok (.iload 5, 2) := by decide +kernel
theorem dX7_setGoing_147 : decode cX7_setGoing 147 = .ok (.goto 7, 3) := by decide +kernel
theorem dX7_setGoing_150 : decode cX7_setGoing 150 = .ok (.aload_n 0, 1) := by decide +kernel
theorem dX7_setGoing_151 : decode cX7_setGoing 151 = .ok (.getfield 205, 3) := by decide +kernel
theorem dX7_setGoing_154 : decode cX7_setGoing 154 = .ok (.putfield 205, 3) := by decide +kernel
theorem dX7_setGoing_157 : decode cX7_setGoing 157 = .ok (.iinc 2 1, 3) := by decide +kernel
theorem dX7_setGoing_160 : decode cX7_setGoing 160 = .ok (.goto (-158), 3) := by decide +kernel
theorem dX7_setGoing_163 : decode cX7_setGoing 163 = .ok (.return_, 1) := by decide +kernel
theorem dX7_goesTick_0 : decode cX7_goesTick 0 = .ok (.aload_n 0, 1) := by decide +kernel
theorem dX7_goesTick_1 : decode cX7_goesTick 1 = .ok (.dup, 1) := by decide +kernel
theorem dX7_goesTick_2 : decode cX7_goesTick 2 = .ok (.getfield 208, 3) := by decide +kernel
theorem dX7_goesTick_5 : decode cX7_goesTick 5 = .ok (.iconst 1, 1) := by decide +kernel
theorem dX7_goesTick_6 : decode cX7_goesTick 6 = .ok (.iadd, 1) := by decide +kernel
theorem dX7_goesTick_7 : decode cX7_goesTick 7 = .ok (.putfield 208, 3) := by decide +kernel
theorem dX7_goesTick_10 : decode cX7_goesTick 10 = .ok (.aload_n 0, 1) := by decide +kernel
theorem dX7_goesTick_11 : decode cX7_goesTick 11 = .ok (.iload_n 1, 1) := by decide +kernel
theorem dX7_goesTick_12 : decode cX7_goesTick 12 = .ok (.invokevirtual 211, 3) := by decide +kernel
theorem dX7_goesTick_15 : decode cX7_goesTick 15 = .ok (.iconst 0, 1) := by decide +kernel
theorem dX7_goesTick_16 : decode cX7_goesTick 16 = .ok (.istore_n 2, 1) := by decide +kernel
theorem dX7_goesTick_17 : decode cX7_goesTick 17 = .ok (.iload_n 2, 1) := by decide +kernel
theorem dX7_goesTick_18 : decode cX7_goesTick 18 = .ok (.aload_n 0, 1) := by decide +kernel
theorem dX7_goesTick_19 : decode cX7_goesTick 19 = .ok (.getfield 76, 3) := by decide +kernel
theorem dX7_goesTick_22 : decode cX7_goesTick 22 = .ok (.if_icmp .ge 70, 3) := by decide +kernel
theorem dX7_goesTick_25 : decode cX7_goesTick 25 = .ok (.aload_n 0, 1) := by decide +kernel
theorem dX7_goesTick_26 : decode cX7_goesTick 26 = .ok (.iload_n 2, 1) := by decide +kernel
theorem dX7_goesTick_27 : decode cX7_goesTick 27 = .ok (.invokevirtual 199, 3) := by decide +kernel
theorem dX7_goesTick_30 : decode cX7_goesTick 30 = .ok (.ifCond .ne 56, 3) := by decide +kernel
theorem dX7_goesTick_33 : decode cX7_goesTick 33 = .ok (.aload_n 0, 1) := by decide +kernel
theorem dX7_goesTick_34 : decode cX7_goesTick 34 = .ok (.getfield 62, 3) := by decide +kernel
theorem dX7_goesTick_37 : decode cX7_goesTick 37 = .ok (.iload_n 2, 1) := by decide +kernel
theorem dX7_goesTick_38 : decode cX7_goesTick 38 = .ok (.iaload, 1) := by decide +kernel
theorem dX7_goesTick_39 : decode cX7_goesTick 39 = .ok (.iconst 1, 1) := by decide +kernel
theorem dX7_goesTick_40 : decode cX7_goesTick 40 = .ok (.if_icmp .ne 36, 3) := by decide +kernel
theorem dX7_goesTick_43 : decode cX7_goesTick 43 = .ok (.aload_n 0, 1) := by decide +kernel
theorem dX7_goesTick_44 : decode cX7_goesTick 44 = .ok (.getfield 50, 3) := by decide +kernel
theorem dX7_goesTick_47 : decode cX7_goesTick 47 = .ok (.iload_n 2, 1) := by decide +kernel
theorem dX7_goesTick_48 : decode cX7_goesTick 48 = .ok (.dup2, 1) := by decide +kernel
theorem dX7_goesTick_49 : decode cX7_goesTick 49 = .ok (.iaload, 1) := by decide +kernel
theorem dX7_goesTick_50 : decode cX7_goesTick 50 = .ok (.iconst 1, 1) := by decide +kernel
theorem dX7_goesTick_51 : decode cX7_goesTick 51 = .ok (.iadd, 1) := by decide +kernel
theorem dX7_goesTick_52 : decode cX7_goesTick 52 = .ok (.iastore, 1) := by decide +kernel
theorem dX7_goesTick_53 : decode cX7_goesTick 53 = .ok (.aload_n 0, 1) := by decide +kernel
theorem dX7_goesTick_54 : decode cX7_goesTick 54 = .ok (.getfield 53, 3) := by decide +kernel
theorem dX7_goesTick_57 : decode cX7_goesTick 57 = .ok (.iload_n 2, 1) := by decide +kernel
theorem dX7_goesTick_58 : decode cX7_goesTick 58 = .ok (.aload_n 0, 1) := by decide +kernel
theorem dX7_goesTick_59 : decode cX7_goesTick 59 = .ok (.getfield 208, 3) := by decide +kernel
theorem dX7_goesTick_62 : decode cX7_goesTick 62 = .ok (.iastore, 1) := by decide +kernel
theorem dX7_goesTick_63 : decode cX7_goesTick 63 = .ok (.aload_n 0, 1) := by decide +kernel
theorem dX7_goesTick_64 : decode cX7_goesTick 64 = .ok (.getfield 56, 3) := by decide +kernel
theorem dX7_goesTick_67 : decode cX7_goesTick 67 = .ok (.iload_n 2, 1) := by decide +kernel
theorem dX7_goesTick_68 : decode cX7_goesTick 68 = .ok (.aload_n 0, 1) := by decide +kernel
theorem dX7_goesTick_69 : decode cX7_goesTick 69 = .ok (.getfield 208, 3) := by decide +kernel
theorem dX7_goesTick_72 : decode cX7_goesTick 72 = .ok (.iastore, 1) := by decide +kernel
theorem dX7_goesTick_73 : decode cX7_goesTick 73 = .ok (.goto 13, 3) := by decide +kernel
theorem dX7_goesTick_76 : decode cX7_goesTick 76 = .ok (.aload_n 0, 1) := by decide +kernel
theorem dX7_goesTick_77 : decode cX7_goesTick 77 = .ok (.getfield 59, 3) := by decide +kernel
theorem dX7_goesTick_80 : decode cX7_goesTick 80 = .ok (.iload_n 2, 1) := by decide +kernel
theorem dX7_goesTick_81 : decode cX7_goesTick 81 = .ok (.dup2, 1) := by decide +kernel
theorem dX7_goesTick_82 : decode cX7_goesTick 82 = .ok (.iaload, 1) := by decide +kernel
theorem dX7_goesTick_83 : decode cX7_goesTick 83 = .ok (.iconst 1, 1) := by decide +kernel
theorem dX7_goesTick_84 : decode cX7_goesTick 84 = .ok (.iadd, 1) := by decide +kernel
theorem dX7_goesTick_85 : decode cX7_goesTick 85 = .ok (.iastore, 1) := by decide +kernel
theorem dX7_goesTick_86 : decode cX7_goesTick 86 = .ok (.iinc 2 1, 3) := by decide +kernel
theorem dX7_goesTick_89 : decode cX7_goesTick 89 = .ok (.goto (-72), 3) := by decide +kernel
theorem dX7_goesTick_92 : decode cX7_goesTick 92 = .ok (.return_, 1) := by decide +kernel
theorem dX7_allHome_0 : decode cX7_allHome 0 = .ok (.iconst 1, 1) := by decide +kernel
theorem dX7_allHome_1 : decode cX7_allHome 1 = .ok (.istore_n 1, 1) := by decide +kernel
theorem dX7_allHome_2 : decode cX7_allHome 2 = .ok (.iconst 0, 1) := by decide +kernel
theorem dX7_allHome_3 : decode cX7_allHome 3 = .ok (.istore_n 2, 1) := by decide +kernel
theorem dX7_allHome_4 : decode cX7_allHome 4 = .ok (.iload_n 2, 1) := by decide +kernel
theorem dX7_allHome_5 : decode cX7_allHome 5 = .ok (.aload_n 0, 1) := by decide +kernel
theorem dX7_allHome_6 : decode cX7_allHome 6 = .ok (.getfield 76, 3) := by decide +kernel
theorem dX7_allHome_9 : decode cX7_allHome 9 = .ok (.if_icmp .ge 27, 3) := by decide +kernel
theorem dX7_allHome_12 : decode cX7_allHome 12 = .ok (.iload_n 1, 1) := by decide +kernel
theorem dX7_allHome_13 : decode cX7_allHome 13 = .ok (.ifCond .eq 15, 3) := by decide +kernel
theorem dX7_allHome_16 : decode cX7_allHome 16 = .ok (.aload_n 0, 1) := by decide +kernel
theorem dX7_allHome_17 : decode cX7_allHome 17 = .ok (.iload_n 2, 1) := by decide +kernel
theorem dX7_allHome_18 : decode cX7_allHome 18 = .ok (.invokevirtual 199, 3) := by decide +kernel
theorem dX7_allHome_21 : decode cX7_allHome 21 = .ok (.ifCond .eq 7, 3) := by decide +kernel
theorem dX7_allHome_24 : decode cX7_allHome 24 = .ok (.iconst 1, 1) := by decide +kernel
theorem dX7_allHome_25 : decode cX7_allHome 25 = .ok (.goto 4, 3) := by decide +kernel
theorem dX7_allHome_28 : decode cX7_allHome 28 = .ok (.iconst 0, 1) := by decide +kernel
theorem dX7_allHome_29 : decode cX7_allHome 29 = .ok (.istore_n 1, 1) := by decide +kernel
theorem dX7_allHome_30 : decode cX7_allHome 30 = .ok (.iinc 2 1, 3) := by decide +kernel
theorem dX7_allHome_33 : decode cX7_allHome 33 = .ok (.goto (-29), 3) := by decide +kernel
theorem dX7_allHome_36 : decode cX7_allHome 36 = .ok (.iload_n 1, 1) := by decide +kernel
theorem dX7_allHome_37 : decode cX7_allHome 37 = .ok (.ireturn, 1) := by decide +kernel
theorem dX7_runs_0 : decode cX7_runs 0 = .ok (.aload_n 0, 1) := by decide +kernel
theorem dX7_runs_1 : decode cX7_runs 1 = .ok (.invokevirtual 146, 3) := by decide +kernel
theorem dX7_runs_4 : decode cX7_runs 4 = .ok (.aload_n 0, 1) := by decide +kernel
theorem dX7_runs_5 : decode cX7_runs 5 = .ok (.iconst 0, 1) := by decide +kernel
theorem dX7_runs_6 : decode cX7_runs 6 = .ok (.putfield 208, 3) := by decide +kernel
theorem dX7_runs_9 : decode cX7_runs 9 = .ok (.aload_n 0, 1) := by decide +kernel
theorem dX7_runs_10 : decode cX7_runs 10 = .ok (.iconst 0, 1) := by decide +kernel
theorem dX7_runs_11 : decode cX7_runs 11 = .ok (.putfield 205, 3) := by decide +kernel
theorem dX7_runs_14 : decode cX7_runs 14 = .ok (.iconst 0, 1) := by decide +kernel
theorem dX7_runs_15 : decode cX7_runs 15 = .ok (.istore_n 3, 1) := by decide +kernel
theorem dX7_runs_16 : decode cX7_runs 16 = .ok (.iload_n 3, 1) := by decide +kernel
theorem dX7_runs_17 : decode cX7_runs 17 = .ok (.aload_n 0, 1) := by decide +kernel
theorem dX7_runs_18 : decode cX7_runs 18 = .ok (.getfield 76, 3) := by decide +kernel
theorem dX7_runs_21 : decode cX7_runs 21 = .ok (.if_icmp .ge 37, 3) := by decide +kernel
theorem dX7_runs_24 : decode cX7_runs 24 = .ok (.aload_n 0, 1) := by decide +kernel
theorem dX7_runs_25 : decode cX7_runs 25 = .ok (.getfield 50, 3) := by decide +kernel
theorem dX7_runs_28 : decode cX7_runs 28 = .ok (.iload_n 3, 1) := by decide +kernel
theorem dX7_runs_29 : decode cX7_runs 29 = .ok (.iconst 0, 1) := by decide +kernel
theorem dX7_runs_30 : decode cX7_runs 30 = .ok (.iastore, 1) := by decide +kernel
theorem dX7_runs_31 : decode cX7_runs 31 = .ok (.aload_n 0, 1) := by decide +kernel
theorem dX7_runs_32 : decode cX7_runs 32 = .ok (.getfield 53, 3) := by decide +kernel
theorem dX7_runs_35 : decode cX7_runs 35 = .ok (.iload_n 3, 1) := by decide +kernel
theorem dX7_runs_36 : decode cX7_runs 36 = .ok (.iconst 0, 1) := by decide +kernel
theorem dX7_runs_37 : decode cX7_runs 37 = .ok (.iastore, 1) := by decide +kernel
theorem dX7_runs_38 : decode cX7_runs 38 = .ok (.aload_n 0, 1) := by decide +kernel
theorem dX7_runs_39 : decode cX7_runs 39 = .ok (.getfield 56, 3) := by decide +kernel
theorem dX7_runs_42 : decode cX7_runs 42 = .ok (.iload_n 3, 1) := by decide +kernel
theorem dX7_runs_43 : decode cX7_runs 43 = .ok (.iconst 0, 1) := by decide +kernel
theorem dX7_runs_44 : decode cX7_runs 44 = .ok (.iastore, 1) := by decide +kernel
theorem dX7_runs_45 : decode cX7_runs 45 = .ok (.aload_n 0, 1) := by decide +kernel
theorem dX7_runs_46 : decode cX7_runs 46 = .ok (.getfield 59, 3) := by decide +kernel
theorem dX7_runs_49 : decode cX7_runs 49 = .ok (.iload_n 3, 1) := by decide +kernel
theorem dX7_runs_50 : decode cX7_runs 50 = .ok (.iconst 0, 1) := by decide +kernel
theorem dX7_runs_51 : decode cX7_runs 51 = .ok (.iastore, 1) := by decide +kernel
theorem dX7_runs_52 : decode cX7_runs 52 = .ok (.iinc 3 1, 3) := by decide +kernel
theorem dX7_runs_55 : decode cX7_runs 55 = .ok (.goto (-39), 3) := by decide +kernel
theorem dX7_runs_58 : decode cX7_runs 58 = .ok (.aload_n 0, 1) := by decide +kernel
theorem dX7_runs_59 : decode cX7_runs 59 = .ok (.getfield 208, 3) := by decide +kernel
theorem dX7_runs_62 : decode cX7_runs 62 = .ok (.iload_n 2, 1) := by decide +kernel
theorem dX7_runs_63 : decode cX7_runs 63 = .ok (.if_icmp .ge 18, 3) := by decide +kernel
theorem dX7_runs_66 : decode cX7_runs 66 = .ok (.aload_n 0, 1) := by decide +kernel
theorem dX7_runs_67 : decode cX7_runs 67 = .ok (.invokevirtual 214, 3) := by decide +kernel
theorem dX7_runs_70 : decode cX7_runs 70 = .ok (.ifCond .ne 11, 3) := by decide +kernel
theorem dX7_runs_73 : decode cX7_runs 73 = .ok (.aload_n 0, 1) := by decide +kernel
theorem dX7_runs_74 : decode cX7_runs 74 = .ok (.iload_n 1, 1) := by decide +kernel
theorem dX7_runs_75 : decode cX7_runs 75 = .ok (.invokevirtual 218, 3) := by decide +kernel
theorem dX7_runs_78 : decode cX7_runs 78 = .ok (.goto (-20), 3) := by decide +kernel
theorem dX7_runs_81 : decode cX7_runs 81 = .ok (.return_, 1) := by decide +kernel
theorem dX7_runTells_0 : decode cX7_runTells 0 = .ok (.aload_n 0, 1) := by decide +kernel
theorem dX7_runTells_1 : decode cX7_runTells 1 = .ok (.aload_n 0, 1) := by decide +kernel
theorem dX7_runTells_2 : decode cX7_runTells 2 = .ok (.getfield 17, 3) := by decide +kernel
theorem dX7_runTells_5 : decode cX7_runTells 5 = .ok (.iconst 1, 1) := by decide +kernel
theorem dX7_runTells_6 : decode cX7_runTells 6 = .ok (.iaload, 1) := by decide +kernel
theorem dX7_runTells_7 : decode cX7_runTells 7 = .ok (.sipush 9999, 3) := by decide +kernel
theorem dX7_runTells_10 : decode cX7_runTells 10 = .ok (.invokevirtual 221, 3) := by decide +kernel
theorem dX7_runTells_13 : decode cX7_runTells 13 = .ok (.iconst 0, 1) := by decide +kernel
theorem dX7_runTells_14 : decode cX7_runTells 14 = .ok (.istore_n 2, 1) := by decide +kernel
theorem dX7_runTells_15 : decode cX7_runTells 15 = .ok (.iconst 0, 1) := by decide +kernel
theorem dX7_runTells_16 : decode cX7_runTells 16 = .ok (.istore_n 3, 1) := by decide +kernel
theorem dX7_runTells_17 : decode cX7_runTells 17 = .ok (.aload_n 0, 1) := by decide +kernel
theorem dX7_runTells_18 : decode cX7_runTells 18 = .ok (.getfield 76, 3) := by decide +kernel
theorem dX7_runTells_21 : decode cX7_runTells 21 = .ok (.ifCond .ne 7, 3) := by decide +kernel
theorem dX7_runTells_24 : decode cX7_runTells 24 = .ok (.iconst (-1), 1) := by decide +kernel
theorem dX7_runTells_25 : decode cX7_runTells 25 = .ok (.goto 4, 3) := by decide +kernel
theorem dX7_runTells_28 : decode cX7_runTells 28 = .ok (.iconst 0, 1) := by decide +kernel
theorem dX7_runTells_29 : decode cX7_runTells 29 = .ok (.istore 4, 2) := by decide +kernel
theorem dX7_runTells_31 : decode cX7_runTells 31 = .ok (.iconst 0, 1) := by decide +kernel
theorem dX7_runTells_32 : decode cX7_runTells 32 = .ok (.istore 5, 2) := by decide +kernel
theorem dX7_runTells_34 : decode cX7_runTells 34 = .ok (.iload 5, 2) := by decide +kernel
theorem dX7_runTells_36 : decode cX7_runTells 36 = .ok (.aload_n 0, 1) := by decide +kernel
theorem dX7_runTells_37 : decode cX7_runTells 37 = .ok (.getfield 76, 3) := by decide +kernel
theorem dX7_runTells_40 : decode cX7_runTells 40 = .ok (.if_icmp .ge 62, 3) := by decide +kernel
theorem dX7_runTells_43 : decode cX7_runTells 43 = .ok (.iload_n 2, 1) := by decide +kernel
theorem dX7_runTells_44 : decode cX7_runTells 44 = .ok (.aload_n 0, 1) := by decide +kernel
theorem dX7_runTells_45 : decode cX7_runTells 45 = .ok (.getfield 59, 3) := by decide +kernel
theorem dX7_runTells_48 : decode cX7_runTells 48 = .ok (.iload 5, 2) := by decide +kernel
theorem dX7_runTells_50 : decode cX7_runTells 50 = .ok (.iaload, 1) := by decide +kernel
theorem dX7_runTells_51 : decode cX7_runTells 51 = .ok (.iadd, 1) := by decide +kernel
theorem dX7_runTells_52 : decode cX7_runTells 52 = .ok (.istore_n 2, 1) := by decide +kernel
theorem dX7_runTells_53 : decode cX7_runTells 53 = .ok (.aload_n 0, 1) := by decide +kernel
theorem dX7_runTells_54 : decode cX7_runTells 54 = .ok (.getfield 59, 3) := by decide +kernel
theorem dX7_runTells_57 : decode cX7_runTells 57 = .ok (.iload 5, 2) := by decide +kernel
theorem dX7_runTells_59 : decode cX7_runTells 59 = .ok (.iaload, 1) := by decide +kernel
theorem dX7_runTells_60 : decode cX7_runTells 60 = .ok (.iload_n 3, 1) := by decide +kernel
theorem dX7_runTells_61 : decode cX7_runTells 61 = .ok (.if_icmp .le 8, 3) := by decide +kernel
theorem dX7_runTells_64 : decode cX7_runTells 64 = .ok (.iload 5, 2) := by decide +kernel
theorem dX7_runTells_66 : decode cX7_runTells 66 = .ok (.goto 5, 3) := by decide +kernel
theorem dX7_runTells_69 : decode cX7_runTells 69 = .ok (.iload 4, 2) := by decide +kernel
theorem dX7_runTells_71 : decode cX7_runTells 71 = .ok (.istore 4, 2) := by decide +kernel
theorem dX7_runTells_73 : decode cX7_runTells 73 = .ok (.aload_n 0, 1) := by decide +kernel
theorem dX7_runTells_74 : decode cX7_runTells 74 = .ok (.getfield 59, 3) := by decide +kernel
theorem dX7_runTells_77 : decode cX7_runTells 77 = .ok (.iload 5, 2) := by decide +kernel
theorem dX7_runTells_79 : decode cX7_runTells 79 = .ok (.iaload, 1) := by decide +kernel
theorem dX7_runTells_80 : decode cX7_runTells 80 = .ok (.iload_n 3, 1) := by decide +kernel
theorem dX7_runTells_81 : decode cX7_runTells 81 = .ok (.if_icmp .le 13, 3) := by decide +kernel
theorem dX7_runTells_84 : decode cX7_runTells 84 = .ok (.aload_n 0, 1) := by decide +kernel
theorem dX7_runTells_85 : decode cX7_runTells 85 = .ok (.getfield 59, 3) := by decide +kernel
theorem dX7_runTells_88 : decode cX7_runTells 88 = .ok (.iload 5, 2) := by decide +kernel
theorem dX7_runTells_90 : decode cX7_runTells 90 = .ok (.iaload, 1) := by decide +kernel
theorem dX7_runTells_91 : decode cX7_runTells 91 = .ok (.goto 4, 3) := by decide +kernel
theorem dX7_runTells_94 : decode cX7_runTells 94 = .ok (.iload_n 3, 1) := by decide +kernel
theorem dX7_runTells_95 : decode cX7_runTells 95 = .ok (.istore_n 3, 1) := by decide +kernel
theorem dX7_runTells_96 : decode cX7_runTells 96 = .ok (.iinc 5 1, 3) := by decide +kernel
theorem dX7_runTells_99 : decode cX7_runTells 99 = .ok (.goto (-65), 3) := by decide +kernel
theorem dX7_runTells_102 : decode cX7_runTells 102 = .ok (.iload_n 1, 1) := by decide +kernel
theorem dX7_runTells_103 : decode cX7_runTells 103 = .ok (.ifCond .ne 10, 3) := by decide +kernel
theorem dX7_runTells_106 : decode cX7_runTells 106 = .ok (.aload_n 0, 1) := by decide +kernel
theorem dX7_runTells_107 : decode cX7_runTells 107 = .ok (.getfield 208, 3) := by decide +kernel
theorem dX7_runTells_110 : decode cX7_runTells 110 = .ok (.goto 35, 3) := by decide +kernel
theorem dX7_runTells_113 : decode cX7_runTells 113 = .ok (.iload_n 1, 1) := by decide +kernel
theorem dX7_runTells_114 : decode cX7_runTells 114 = .ok (.iconst 1, 1) := by decide +kernel
theorem dX7_runTells_115 : decode cX7_runTells 115 = .ok (.if_icmp .ne 7, 3) := by decide +kernel
theorem dX7_runTells_118 : decode cX7_runTells 118 = .ok (.iload_n 2, 1) := by decide +kernel
theorem dX7_runTells_119 : decode cX7_runTells 119 = .ok (.goto 26, 3) := by decide +kernel
theorem dX7_runTells_122 : decode cX7_runTells 122 = .ok (.iload_n 1, 1) := by decide +kernel
theorem dX7_runTells_123 : decode cX7_runTells 123 = .ok (.iconst 2, 1) := by decide +kernel
theorem dX7_runTells_124 : decode cX7_runTells 124 = .ok (.if_icmp .ne 7, 3) := by decide +kernel
theorem dX7_runTells_127 : decode cX7_runTells 127 = .ok (.iload_n 3, 1) := by decide +kernel
theorem dX7_runTells_128 : decode cX7_runTells 128 = .ok (.goto 17, 3) := by decide +kernel
theorem dX7_runTells_131 : decode cX7_runTells 131 = .ok (.iload_n 1, 1) := by decide +kernel
theorem dX7_runTells_132 : decode cX7_runTells 132 = .ok (.iconst 3, 1) := by decide +kernel
theorem dX7_runTells_133 : decode cX7_runTells 133 = .ok (.if_icmp .ne 8, 3) := by decide +kernel
theorem dX7_runTells_136 : decode cX7_runTells 136 = .ok (.iload 4, 2) := by decide +kernel
theorem dX7_runTells_138 : decode cX7_runTells 138 = .ok (.goto 7, 3) := by decide +kernel
theorem dX7_runTells_141 : decode cX7_runTells 141 = .ok (.aload_n 0, 1) := by decide +kernel
theorem dX7_runTells_142 : decode cX7_runTells 142 = .ok (.getfield 205, 3) := by decide +kernel
theorem dX7_runTells_145 : decode cX7_runTells 145 = .ok (.ireturn, 1) := by decide +kernel
theorem dX7_run_0 : decode cX7_run 0 = .ok (.iload_n 1, 1) := by decide +kernel
theorem dX7_run_1 : decode cX7_run 1 = .ok (.iconst 0, 1) := by decide +kernel
theorem dX7_run_2 : decode cX7_run 2 = .ok (.iconst 4, 1) := by decide +kernel
theorem dX7_run_3 : decode cX7_run 3 = .ok (.invokestatic 72, 3) := by decide +kernel
theorem dX7_run_6 : decode cX7_run 6 = .ok (.ifCond .eq 11, 3) := by decide +kernel
theorem dX7_run_9 : decode cX7_run 9 = .ok (.aload_n 0, 1) := by decide +kernel
theorem dX7_run_10 : decode cX7_run 10 = .ok (.iload_n 1, 1) := by decide +kernel
theorem dX7_run_11 : decode cX7_run 11 = .ok (.invokevirtual 224, 3) := by decide +kernel
theorem dX7_run_14 : decode cX7_run 14 = .ok (.goto 7, 3) := by decide +kernel
theorem dX7_run_17 : decode cX7_run 17 = .ok (.aload_n 0, 1) := by decide +kernel
theorem dX7_run_18 : decode cX7_run 18 = .ok (.invokevirtual 85, 3) := by decide +kernel
theorem dX7_run_21 : decode cX7_run 21 = .ok (.ireturn, 1) := by decide +kernel
theorem dX7_ran_0 : decode cX7_ran 0 = .ok (.aload_n 0, 1) := by decide +kernel
theorem dX7_ran_1 : decode cX7_ran 1 = .ok (.iload_n 1, 1) := by decide +kernel
theorem dX7_ran_2 : decode cX7_ran 2 = .ok (.invokevirtual 105, 3) := by decide +kernel
theorem dX7_ran_5 : decode cX7_ran 5 = .ok (.ifCond .eq 28, 3) := by decide +kernel
theorem dX7_ran_8 : decode cX7_ran 8 = .ok (.iload_n 2, 1) := by decide +kernel
theorem dX7_ran_9 : decode cX7_ran 9 = .ok (.iconst 0, 1) := by decide +kernel
theorem dX7_ran_10 : decode cX7_ran 10 = .ok (.iconst 2, 1) := by decide +kernel
theorem dX7_ran_11 : decode cX7_ran 11 = .ok (.invokestatic 72, 3) := by decide +kernel
theorem dX7_ran_14 : decode cX7_ran 14 = .ok (.ifCond .eq 19, 3) := by decide +kernel
theorem dX7_ran_17 : decode cX7_ran 17 = .ok (.iload_n 2, 1) := by decide +kernel
theorem dX7_ran_18 : decode cX7_ran 18 = .ok (.iconst 2, 1) := by decide +kernel
theorem dX7_ran_19 : decode cX7_ran 19 = .ok (.if_icmp .ne 19, 3) := by decide +kernel
theorem dX7_ran_22 : decode cX7_ran 22 = .ok (.iload_n 3, 1) := by decide +kernel
theorem dX7_ran_23 : decode cX7_ran 23 = .ok (.iconst 0, 1) := by decide +kernel
theorem dX7_ran_24 : decode cX7_ran 24 = .ok (.sipush 400, 3) := by decide +kernel
theorem dX7_ran_27 : decode cX7_ran 27 = .ok (.invokestatic 72, 3) := by decide +kernel
theorem dX7_ran_30 : decode cX7_ran 30 = .ok (.ifCond .ne 8, 3) := by decide +kernel
theorem dX7_ran_33 : decode cX7_ran 33 = .ok (.aload_n 0, 1) := by decide +kernel
theorem dX7_ran_34 : decode cX7_ran 34 = .ok (.invokevirtual 85, 3) := by decide +kernel
theorem dX7_ran_37 : decode cX7_ran 37 = .ok (.ireturn, 1) := by decide +kernel
theorem dX7_ran_38 : decode cX7_ran 38 = .ok (.aload_n 0, 1) := by decide +kernel
theorem dX7_ran_39 : decode cX7_ran 39 = .ok (.aload_n 0, 1) := by decide +kernel
theorem dX7_ran_40 : decode cX7_ran 40 = .ok (.getfield 17, 3) := by decide +kernel
theorem dX7_ran_43 : decode cX7_ran 43 = .ok (.iconst 1, 1) := by decide +kernel
theorem dX7_ran_44 : decode cX7_ran 44 = .ok (.iaload, 1) := by decide +kernel
theorem dX7_ran_45 : decode cX7_ran 45 = .ok (.iload_n 2, 1) := by decide +kernel
theorem dX7_ran_46 : decode cX7_ran 46 = .ok (.iconst 2, 1) := by decide +kernel
theorem dX7_ran_47 : decode cX7_ran 47 = .ok (.if_icmp .ne 7, 3) := by decide +kernel
theorem dX7_ran_50 : decode cX7_ran 50 = .ok (.iload_n 3, 1) := by decide +kernel
theorem dX7_ran_51 : decode cX7_ran 51 = .ok (.goto 6, 3) := by decide +kernel
theorem dX7_ran_54 : decode cX7_ran 54 = .ok (.sipush 9999, 3) := by decide +kernel
theorem dX7_ran_57 : decode cX7_ran 57 = .ok (.invokevirtual 221, 3) := by decide +kernel
theorem dX7_ran_60 : decode cX7_ran 60 = .ok (.iload_n 2, 1) := by decide +kernel
theorem dX7_ran_61 : decode cX7_ran 61 = .ok (.ifCond .ne 12, 3) := by decide +kernel
theorem dX7_ran_64 : decode cX7_ran 64 = .ok (.aload_n 0, 1) := by decide +kernel
theorem dX7_ran_65 : decode cX7_ran 65 = .ok (.getfield 56, 3) := by decide +kernel
theorem dX7_ran_68 : decode cX7_ran 68 = .ok (.iload_n 1, 1) := by decide +kernel
theorem dX7_ran_69 : decode cX7_ran 69 = .ok (.iaload, 1) := by decide +kernel
theorem dX7_ran_70 : decode cX7_ran 70 = .ok (.goto 33, 3) := by decide +kernel
theorem dX7_ran_73 : decode cX7_ran 73 = .ok (.iload_n 2, 1) := by decide +kernel
theorem dX7_ran_74 : decode cX7_ran 74 = .ok (.iconst 1, 1) := by decide +kernel
theorem dX7_ran_75 : decode cX7_ran 75 = .ok (.if_icmp .ne 12, 3) := by decide +kernel
theorem dX7_ran_78 : decode cX7_ran 78 = .ok (.aload_n 0, 1) := by decide +kernel
theorem dX7_ran_79 : decode cX7_ran 79 = .ok (.getfield 59, 3) := by decide +kernel
theorem dX7_ran_82 : decode cX7_ran 82 = .ok (.iload_n 1, 1) := by decide +kernel
theorem dX7_ran_83 : decode cX7_ran 83 = .ok (.iaload, 1) := by decide +kernel
theorem dX7_ran_84 : decode cX7_ran 84 = .ok (.goto 19, 3) := by decide +kernel
theorem dX7_ran_87 : decode cX7_ran 87 = .ok (.aload_n 0, 1) := by decide +kernel
theorem dX7_ran_88 : decode cX7_ran 88 = .ok (.getfield 41, 3) := by decide +kernel
theorem dX7_ran_91 : decode cX7_ran 91 = .ok (.bipush 9, 2) := by decide +kernel
theorem dX7_ran_93 : decode cX7_ran 93 = .ok (.iload_n 1, 1) := by decide +kernel
theorem dX7_ran_94 : decode cX7_ran 94 = .ok (.imul, 1) := by decide +kernel
theorem dX7_ran_95 : decode cX7_ran 95 = .ok (.aload_n 0, 1) := by decide +kernel
theorem dX7_ran_96 : decode cX7_ran 96 = .ok (.getfield 50, 3) := by decide +kernel
theorem dX7_ran_99 : decode cX7_ran 99 = .ok (.iload_n 1, 1) := by decide +kernel
theorem dX7_ran_100 : decode cX7_ran 100 = .ok (.iaload, 1) := by decide +kernel
theorem dX7_ran_101 : decode cX7_ran 101 = .ok (.iadd, 1) := by decide +kernel
theorem dX7_ran_102 : decode cX7_ran 102 = .ok (.iaload, 1) := by decide +kernel
theorem dX7_ran_103 : decode cX7_ran 103 = .ok (.ireturn, 1) := by decide +kernel
theorem dX7_best_0 : decode cX7_best 0 = .ok (.iload_n 1, 1) := by decide +kernel
theorem dX7_best_1 : decode cX7_best 1 = .ok (.iconst 0, 1) := by decide +kernel
theorem dX7_best_2 : decode cX7_best 2 = .ok (.iconst 1, 1) := by decide +kernel
theorem dX7_best_3 : decode cX7_best 3 = .ok (.invokestatic 72, 3) := by decide +kernel
theorem dX7_best_6 : decode cX7_best 6 = .ok (.ifCond .ne 8, 3) := by decide +kernel
theorem dX7_best_9 : decode cX7_best 9 = .ok (.aload_n 0, 1) := by decide +kernel
theorem dX7_best_10 : decode cX7_best 10 = .ok (.invokevirtual 85, 3) := by decide +kernel
theorem dX7_best_13 : decode cX7_best 13 = .ok (.ireturn, 1) := by decide +kernel
theorem dX7_best_14 : decode cX7_best 14 = .ok (.iconst 0, 1) := by decide +kernel
theorem dX7_best_15 : decode cX7_best 15 = .ok (.istore_n 2, 1) := by decide +kernel
theorem dX7_best_16 : decode cX7_best 16 = .ok (.iconst 0, 1) := by decide +kernel
theorem dX7_best_17 : decode cX7_best 17 = .ok (.istore_n 3, 1) := by decide +kernel
theorem dX7_best_18 : decode cX7_best 18 = .ok (.iconst 0, 1) := by decide +kernel
theorem dX7_best_19 : decode cX7_best 19 = .ok (.istore 4, 2) := by decide +kernel
theorem dX7_best_21 : decode cX7_best 21 = .ok (.iload 4, 2) := by decide +kernel
theorem dX7_best_23 : decode cX7_best 23 = .ok (.iconst 4, 1) := by decide +kernel
theorem dX7_best_24 : decode cX7_best 24 = .ok (.if_icmp .ge 60, 3) := by decide +kernel
theorem dX7_best_27 : decode cX7_best 27 = .ok (.aload_n 0, 1) := by decide +kernel
theorem dX7_best_28 : decode cX7_best 28 = .ok (.iload 4, 2) := by decide +kernel
theorem dX7_best_30 : decode cX7_best 30 = .ok (.sipush 9999, 3) := by decide +kernel
theorem dX7_best_33 : decode cX7_best 33 = .ok (.invokevirtual 221, 3) := by decide +kernel
theorem dX7_best_36 : decode cX7_best 36 = .ok (.iload 4, 2) := by decide +kernel
theorem dX7_best_38 : decode cX7_best 38 = .ok (.ifCond .eq 11, 3) := by decide +kernel
theorem dX7_best_41 : decode cX7_best 41 = .ok (.aload_n 0, 1) := by decide +kernel
theorem dX7_best_42 : decode cX7_best 42 = .ok (.getfield 208, 3) := by decide +kernel
theorem dX7_best_45 : decode cX7_best 45 = .ok (.iload_n 3, 1) := by decide +kernel
theorem dX7_best_46 : decode cX7_best 46 = .ok (.if_icmp .ge 8, 3) := by decide +kernel
theorem dX7_best_49 : decode cX7_best 49 = .ok (.iload 4, 2) := by decide +kernel
theorem dX7_best_51 : decode cX7_best 51 = .ok (.goto 4, 3) := by decide +kernel
theorem dX7_best_54 : decode cX7_best 54 = .ok (.iload_n 2, 1) := by decide +kernel
theorem dX7_best_55 : decode cX7_best 55 = .ok (.istore_n 2, 1) := by decide +kernel
theorem dX7_best_56 : decode cX7_best 56 = .ok (.iload 4, 2) := by decide +kernel
theorem dX7_best_58 : decode cX7_best 58 = .ok (.ifCond .eq 11, 3) := by decide +kernel
theorem dX7_best_61 : decode cX7_best 61 = .ok (.aload_n 0, 1) := by decide +kernel
theorem dX7_best_62 : decode cX7_best 62 = .ok (.getfield 208, 3) := by decide +kernel
theorem dX7_best_65 : decode cX7_best 65 = .ok (.iload_n 3, 1) := by decide +kernel
theorem dX7_best_66 : decode cX7_best 66 = .ok (.if_icmp .ge 10, 3) := by decide +kernel
theorem dX7_best_69 : decode cX7_best 69 = .ok (.aload_n 0, 1) := by decide +kernel
theorem dX7_best_70 : decode cX7_best 70 = .ok (.getfield 208, 3) := by decide +kernel
theorem dX7_best_73 : decode cX7_best 73 = .ok (.goto 4, 3) := by decide +kernel
theorem dX7_best_76 : decode cX7_best 76 = .ok (.iload_n 3, 1) := by decide +kernel
theorem dX7_best_77 : decode cX7_best 77 = .ok (.istore_n 3, 1) := by decide +kernel
theorem dX7_best_78 : decode cX7_best 78 = .ok (.iinc 4 1, 3) := by decide +kernel
theorem dX7_best_81 : decode cX7_best 81 = .ok (.goto (-60), 3) := by decide +kernel
theorem dX7_best_84 : decode cX7_best 84 = .ok (.iload_n 1, 1) := by decide +kernel
theorem dX7_best_85 : decode cX7_best 85 = .ok (.ifCond .ne 7, 3) := by decide +kernel
theorem dX7_best_88 : decode cX7_best 88 = .ok (.iload_n 2, 1) := by decide +kernel
theorem dX7_best_89 : decode cX7_best 89 = .ok (.goto 4, 3) := by decide +kernel
theorem dX7_best_92 : decode cX7_best 92 = .ok (.iload_n 3, 1) := by decide +kernel
theorem dX7_best_93 : decode cX7_best 93 = .ok (.ireturn, 1) := by decide +kernel
theorem dX7_straight_0 : decode cX7_straight 0 = .ok (.aload_n 0, 1) := by decide +kernel
theorem dX7_straight_1 : decode cX7_straight 1 = .ok (.invokevirtual 155, 3) := by decide +kernel
theorem dX7_straight_4 : decode cX7_straight 4 = .ok (.iconst 0, 1) := by decide +kernel
theorem dX7_straight_5 : decode cX7_straight 5 = .ok (.istore_n 1, 1) := by decide +kernel
theorem dX7_straight_6 : decode cX7_straight 6 = .ok (.iload_n 1, 1) := by decide +kernel
theorem dX7_straight_7 : decode cX7_straight 7 = .ok (.aload_n 0, 1) := by decide +kernel
theorem dX7_straight_8 : decode cX7_straight 8 = .ok (.getfield 76, 3) := by decide +kernel
theorem dX7_straight_11 : decode cX7_straight 11 = .ok (.if_icmp .ge 26, 3) := by decide +kernel
theorem dX7_straight_14 : decode cX7_straight 14 = .ok (.aload_n 0, 1) := by decide +kernel
theorem dX7_straight_15 : decode cX7_straight 15 = .ok (.iload_n 1, 1) := by decide +kernel
theorem dX7_straight_16 : decode cX7_straight 16 = .ok (.aload_n 0, 1) := by decide +kernel
theorem dX7_straight_17 : decode cX7_straight 17 = .ok (.getfield 20, 3) := by decide +kernel
theorem dX7_straight_20 : decode cX7_straight 20 = .ok (.iload_n 1, 1) := by decide +kernel
theorem dX7_straight_21 : decode cX7_straight 21 = .ok (.iaload, 1) := by decide +kernel
theorem dX7_straight_22 : decode cX7_straight 22 = .ok (.invokevirtual 135, 3) := by decide +kernel
theorem dX7_straight_25 : decode cX7_straight 25 = .ok (.aload_n 0, 1) := by decide +kernel
theorem dX7_straight_26 : decode cX7_straight 26 = .ok (.iload_n 1, 1) := by decide +kernel
theorem dX7_straight_27 : decode cX7_straight 27 = .ok (.iconst 1, 1) := by decide +kernel
theorem dX7_straight_28 : decode cX7_straight 28 = .ok (.invokevirtual 158, 3) := by decide +kernel
theorem dX7_straight_31 : decode cX7_straight 31 = .ok (.iinc 1 1, 3) := by decide +kernel
theorem dX7_straight_34 : decode cX7_straight 34 = .ok (.goto (-28), 3) := by decide +kernel
theorem dX7_straight_37 : decode cX7_straight 37 = .ok (.aload_n 0, 1) := by decide +kernel
theorem dX7_straight_38 : decode cX7_straight 38 = .ok (.invokevirtual 167, 3) := by decide +kernel
theorem dX7_straight_41 : decode cX7_straight 41 = .ok (.ireturn, 1) := by decide +kernel
theorem dX7_type_0 : decode cX7_type 0 = .ok (.iload_n 1, 1) := by decide +kernel
theorem dX7_type_1 : decode cX7_type 1 = .ok (.iconst 0, 1) := by decide +kernel
theorem dX7_type_2 : decode cX7_type 2 = .ok (.bipush 127, 2) := by decide +kernel
theorem dX7_type_4 : decode cX7_type 4 = .ok (.invokestatic 72, 3) := by decide +kernel
theorem dX7_type_7 : decode cX7_type 7 = .ok (.ifCond .ne 8, 3) := by decide +kernel
theorem dX7_type_10 : decode cX7_type 10 = .ok (.aload_n 0, 1) := by decide +kernel
theorem dX7_type_11 : decode cX7_type 11 = .ok (.invokevirtual 85, 3) := by decide +kernel
theorem dX7_type_14 : decode cX7_type 14 = .ok (.ireturn, 1) := by decide +kernel
theorem dX7_type_15 : decode cX7_type 15 = .ok (.aload_n 0, 1) := by decide +kernel
theorem dX7_type_16 : decode cX7_type 16 = .ok (.getfield 227, 3) := by decide +kernel
theorem dX7_type_19 : decode cX7_type 19 = .ok (.bipush 120, 2) := by decide +kernel
theorem dX7_type_21 : decode cX7_type 21 = .ok (.if_icmp .ne 8, 3) := by decide +kernel
theorem dX7_type_24 : decode cX7_type 24 = .ok (.aload_n 0, 1) := by decide +kernel
theorem dX7_type_25 : decode cX7_type 25 = .ok (.invokevirtual 98, 3) := by decide +kernel
theorem dX7_type_28 : decode cX7_type 28 = .ok (.ireturn, 1) := by decide +kernel
theorem dX7_type_29 : decode cX7_type 29 = .ok (.aload_n 0, 1) := by decide +kernel
theorem dX7_type_30 : decode cX7_type 30 = .ok (.getfield 65, 3) := by decide +kernel
theorem dX7_type_33 : decode cX7_type 33 = .ok (.aload_n 0, 1) := by decide +kernel
theorem dX7_type_34 : decode cX7_type 34 = .ok (.getfield 227, 3) := by decide +kernel
theorem dX7_type_37 : decode cX7_type 37 = .ok (.iload_n 1, 1) := by decide +kernel
theorem dX7_type_38 : decode cX7_type 38 = .ok (.iastore, 1) := by decide +kernel
theorem dX7_type_39 : decode cX7_type 39 = .ok (.aload_n 0, 1) := by decide +kernel
theorem dX7_type_40 : decode cX7_type 40 = .ok (.dup, 1) := by decide +kernel
theorem dX7_type_41 : decode cX7_type 41 = .ok (.getfield 227, 3) := by decide +kernel
theorem dX7_type_44 : decode cX7_type 44 = .ok (.iconst 1, 1) := by decide +kernel
theorem dX7_type_45 : decode cX7_type 45 = .ok (.iadd, 1) := by decide +kernel
theorem dX7_type_46 : decode cX7_type 46 = .ok (.putfield 227, 3) := by decide +kernel
theorem dX7_type_49 : decode cX7_type 49 = .ok (.aload_n 0, 1) := by decide +kernel
theorem dX7_type_50 : decode cX7_type 50 = .ok (.getfield 227, 3) := by decide +kernel
theorem dX7_type_53 : decode cX7_type 53 = .ok (.ireturn, 1) := by decide +kernel
theorem dX7_clear_0 : decode cX7_clear 0 = .ok (.aload_n 0, 1) := by decide +kernel
theorem dX7_clear_1 : decode cX7_clear 1 = .ok (.getfield 227, 3) := by decide +kernel
theorem dX7_clear_4 : decode cX7_clear 4 = .ok (.istore_n 1, 1) := by decide +kernel
theorem dX7_clear_5 : decode cX7_clear 5 = .ok (.aload_n 0, 1) := by decide +kernel
theorem dX7_clear_6 : decode cX7_clear 6 = .ok (.iconst 0, 1) := by decide +kernel
theorem dX7_clear_7 : decode cX7_clear 7 = .ok (.putfield 227, 3) := by decide +kernel
theorem dX7_clear_10 : decode cX7_clear 10 = .ok (.iload_n 1, 1) := by decide +kernel
theorem dX7_clear_11 : decode cX7_clear 11 = .ok (.ireturn, 1) := by decide +kernel
theorem dX7_here_0 : decode cX7_here 0 = .ok (.aload_n 0, 1) := by decide +kernel
theorem dX7_here_1 : decode cX7_here 1 = .ok (.getfield 230, 3) := by decide +kernel
theorem dX7_here_4 : decode cX7_here 4 = .ok (.aload_n 0, 1) := by decide +kernel
theorem dX7_here_5 : decode cX7_here 5 = .ok (.getfield 227, 3) := by decide +kernel
theorem dX7_here_8 : decode cX7_here 8 = .ok (.if_icmp .ge 15, 3) := by decide +kernel
theorem dX7_here_11 : decode cX7_here 11 = .ok (.aload_n 0, 1) := by decide +kernel
theorem dX7_here_12 : decode cX7_here 12 = .ok (.getfield 65, 3) := by decide +kernel
theorem dX7_here_15 : decode cX7_here 15 = .ok (.aload_n 0, 1) := by decide +kernel
theorem dX7_here_16 : decode cX7_here 16 = .ok (.getfield 230, 3) := by decide +kernel
theorem dX7_here_19 : decode cX7_here 19 = .ok (.iaload, 1) := by decide +kernel
theorem dX7_here_20 : decode cX7_here 20 = .ok (.goto 4, 3) := by decide +kernel
theorem dX7_here_23 : decode cX7_here 23 = .ok (.iconst (-1), 1) := by decide +kernel
theorem dX7_here_24 : decode cX7_here 24 = .ok (.ireturn, 1) := by decide +kernel
theorem dX7_skips_0 : decode cX7_skips 0 = .ok (.aload_n 0, 1) := by decide +kernel
theorem dX7_skips_1 : decode cX7_skips 1 = .ok (.invokevirtual 233, 3) := by decide +kernel
theorem dX7_skips_4 : decode cX7_skips 4 = .ok (.bipush 32, 2) := by decide +kernel
theorem dX7_skips_6 : decode cX7_skips 6 = .ok (.if_icmp .ne 16, 3) := by decide +kernel
theorem dX7_skips_9 : decode cX7_skips 9 = .ok (.aload_n 0, 1) := by decide +kernel
theorem dX7_skips_10 : decode cX7_skips 10 = .ok (.dup, 1) := by decide +kernel
theorem dX7_skips_11 : decode cX7_skips 11 = .ok (.getfield 230, 3) := by decide +kernel
theorem dX7_skips_14 : decode cX7_skips 14 = .ok (.iconst 1, 1) := by decide +kernel
theorem dX7_skips_15 : decode cX7_skips 15 = .ok (.iadd, 1) := by decide +kernel
theorem dX7_skips_16 : decode cX7_skips 16 = .ok (.putfield 230, 3) := by decide +kernel
theorem dX7_skips_19 : decode cX7_skips 19 = .ok (.goto (-19), 3) := by decide +kernel
theorem dX7_skips_22 : decode cX7_skips 22 = .ok (.aload_n 0, 1) := by decide +kernel
theorem dX7_skips_23 : decode cX7_skips 23 = .ok (.aload_n 0, 1) := by decide +kernel
theorem dX7_skips_24 : decode cX7_skips 24 = .ok (.getfield 230, 3) := by decide +kernel
theorem dX7_skips_27 : decode cX7_skips 27 = .ok (.putfield 236, 3) := by decide +kernel
theorem dX7_skips_30 : decode cX7_skips 30 = .ok (.return_, 1) := by decide +kernel
theorem dX7_number_0 : decode cX7_number 0 = .ok (.aload_n 0, 1) := by decide +kernel
theorem dX7_number_1 : decode cX7_number 1 = .ok (.invokevirtual 239, 3) := by decide +kernel
theorem dX7_number_4 : decode cX7_number 4 = .ok (.iconst 0, 1) := by decide +kernel
theorem dX7_number_5 : decode cX7_number 5 = .ok (.istore_n 2, 1) := by decide +kernel
theorem dX7_number_6 : decode cX7_number 6 = .ok (.iconst 0, 1) := by decide +kernel
theorem dX7_number_7 : decode cX7_number 7 = .ok (.istore_n 3, 1) := by decide +kernel
theorem dX7_number_8 : decode cX7_number 8 = .ok (.aload_n 0, 1) := by decide +kernel
theorem dX7_number_9 : decode cX7_number 9 = .ok (.invokevirtual 233, 3) := by decide +kernel
theorem dX7_number_12 : decode cX7_number 12 = .ok (.bipush 48, 2) := by decide +kernel
theorem dX7_number_14 : decode cX7_number 14 = .ok (.bipush 57, 2) := by decide +kernel
theorem dX7_number_16 : decode cX7_number 16 = .ok (.invokestatic 72, 3) := by decide +kernel
theorem dX7_number_19 : decode cX7_number 19 = .ok (.ifCond .eq 41, 3) := by decide +kernel
theorem dX7_number_22 : decode cX7_number 22 = .ok (.iload_n 2, 1) := by decide +kernel
theorem dX7_number_23 : decode cX7_number 23 = .ok (.iconst 2, 1) := by decide +kernel
theorem dX7_number_24 : decode cX7_number 24 = .ok (.if_icmp .ge 18, 3) := by decide +kernel
theorem dX7_number_27 : decode cX7_number 27 = .ok (.bipush 10, 2) := by decide +kernel
theorem dX7_number_29 : decode cX7_number 29 = .ok (.iload_n 3, 1) := by decide +kernel
theorem dX7_number_30 : decode cX7_number 30 = .ok (.imul, 1) := by decide +kernel
theorem dX7_number_31 : decode cX7_number 31 = .ok (.aload_n 0, 1) := by decide +kernel
theorem dX7_number_32 : decode cX7_number 32 = .ok (.invokevirtual 233, 3) := by decide +kernel
theorem dX7_number_35 : decode cX7_number 35 = .ok (.iadd, 1) := by decide +kernel
theorem dX7_number_36 : decode cX7_number 36 = .ok (.bipush 48, 2) := by decide +kernel
theorem dX7_number_38 : decode cX7_number 38 = .ok (.isub, 1) := by decide +kernel
theorem dX7_number_39 : decode cX7_number 39 = .ok (.goto 4, 3) := by decide +kernel
theorem dX7_number_42 : decode cX7_number 42 = .ok (.iload_n 3, 1) := by decide +kernel
theorem dX7_number_43 : decode cX7_number 43 = .ok (.istore_n 3, 1) := by decide +kernel
theorem dX7_number_44 : decode cX7_number 44 = .ok (.iinc 2 1, 3) := by decide +kernel
theorem dX7_number_47 : decode cX7_number 47 = .ok (.aload_n 0, 1) := by decide +kernel
theorem dX7_number_48 : decode cX7_number 48 = .ok (.dup, 1) := by decide +kernel
theorem dX7_number_49 : decode cX7_number 49 = .ok (.getfield 230, 3) := by decide +kernel
theorem dX7_number_52 : decode cX7_number 52 = .ok (.iconst 1, 1) := by decide +kernel
theorem dX7_number_53 : decode cX7_number 53 = .ok (.iadd, 1) := by decide +kernel
theorem dX7_number_54 : decode cX7_number 54 = .ok (.putfield 230, 3) := by decide +kernel
theorem dX7_number_57 : decode cX7_number 57 = .ok (.goto (-49), 3) := by decide +kernel
theorem dX7_number_60 : decode cX7_number 60 = .ok (.aload_n 0, 1) := by decide +kernel
theorem dX7_number_61 : decode cX7_number 61 = .ok (.iload_n 3, 1) := by decide +kernel
theorem dX7_number_62 : decode cX7_number 62 = .ok (.putfield 242, 3) := by decide +kernel
theorem dX7_number_65 : decode cX7_number 65 = .ok (.iload_n 2, 1) := by decide +kernel
theorem dX7_number_66 : decode cX7_number 66 = .ok (.iconst 1, 1) := by decide +kernel
theorem dX7_number_67 : decode cX7_number 67 = .ok (.iconst 2, 1) := by decide +kernel
theorem dX7_number_68 : decode cX7_number 68 = .ok (.invokestatic 72, 3) := by decide +kernel
theorem dX7_number_71 : decode cX7_number 71 = .ok (.ifCond .eq 12, 3) := by decide +kernel
theorem dX7_number_74 : decode cX7_number 74 = .ok (.iload_n 3, 1) := by decide +kernel
theorem dX7_number_75 : decode cX7_number 75 = .ok (.iload_n 1, 1) := by decide +kernel
theorem dX7_number_76 : decode cX7_number 76 = .ok (.if_icmp .gt 7, 3) := by decide +kernel
theorem dX7_number_79 : decode cX7_number 79 = .ok (.iconst 1, 1) := by decide +kernel
theorem dX7_number_80 : decode cX7_number 80 = .ok (.goto 4, 3) := by decide +kernel
theorem dX7_number_83 : decode cX7_number 83 = .ok (.iconst 0, 1) := by decide +kernel
theorem dX7_number_84 : decode cX7_number 84 = .ok (.ireturn, 1) := by decide +kernel
theorem dX7_sign_0 : decode cX7_sign 0 = .ok (.aload_n 0, 1) := by decide +kernel
theorem dX7_sign_1 : decode cX7_sign 1 = .ok (.invokevirtual 239, 3) := by decide +kernel
theorem dX7_sign_4 : decode cX7_sign 4 = .ok (.aload_n 0, 1) := by decide +kernel
theorem dX7_sign_5 : decode cX7_sign 5 = .ok (.invokevirtual 233, 3) := by decide +kernel
theorem dX7_sign_8 : decode cX7_sign 8 = .ok (.iload_n 1, 1) := by decide +kernel
theorem dX7_sign_9 : decode cX7_sign 9 = .ok (.if_icmp .eq 5, 3) := by decide +kernel
theorem dX7_sign_12 : decode cX7_sign 12 = .ok (.iconst 0, 1) := by decide +kernel
theorem dX7_sign_13 : decode cX7_sign 13 = .ok (.ireturn, 1) := by decide +kernel
theorem dX7_sign_14 : decode cX7_sign 14 = .ok (.aload_n 0, 1) := by decide +kernel
theorem dX7_sign_15 : decode cX7_sign 15 = .ok (.dup, 1) := by decide +kernel
theorem dX7_sign_16 : decode cX7_sign 16 = .ok (.getfield 230, 3) := by decide +kernel
theorem dX7_sign_19 : decode cX7_sign 19 = .ok (.iconst 1, 1) := by decide +kernel
theorem dX7_sign_20 : decode cX7_sign 20 = .ok (.iadd, 1) := by decide +kernel
theorem dX7_sign_21 : decode cX7_sign 21 = .ok (.putfield 230, 3) := by decide +kernel
theorem dX7_sign_24 : decode cX7_sign 24 = .ok (.iconst 1, 1) := by decide +kernel
theorem dX7_sign_25 : decode cX7_sign 25 = .ok (.ireturn, 1) := by decide +kernel
theorem dX7_readsParcel_0 : decode cX7_readsParcel 0 = .ok (.aload_n 0, 1) := by decide +kernel
theorem dX7_readsParcel_1 : decode cX7_readsParcel 1 = .ok (.invokevirtual 239, 3) := by decide +kernel
theorem dX7_readsParcel_4 : decode cX7_readsParcel 4 = .ok (.aload_n 0, 1) := by decide +kernel
theorem dX7_readsParcel_5 : decode cX7_readsParcel 5 = .ok (.getfield 245, 3) := by decide +kernel
theorem dX7_readsParcel_8 : decode cX7_readsParcel 8 = .ok (.bipush 16, 2) := by decide +kernel
theorem dX7_readsParcel_10 : decode cX7_readsParcel 10 = .ok (.if_icmp .eq 16, 3) := by decide +kernel
theorem dX7_readsParcel_13 : decode cX7_readsParcel 13 = .ok (.aload_n 0, 1) := by decide +kernel
theorem dX7_readsParcel_14 : decode cX7_readsParcel 14 = .ok (.aload_n 0, 1) := by decide +kernel
theorem dX7_readsParcel_15 : decode cX7_readsParcel 15 = .ok (.invokevirtual 68, 3) := by decide +kernel
theorem dX7_readsParcel_18 : decode cX7_readsParcel 18 = .ok (.iconst 1, 1) := by decide +kernel
theorem dX7_readsParcel_19 : decode cX7_readsParcel 19 = .ok (.isub, 1) := by decide +kernel
theorem dX7_readsParcel_20 : decode cX7_readsParcel 20 = .ok (.invokevirtual 248, 3) := by decide +kernel
theorem dX7_readsParcel_23 : decode cX7_readsParcel 23 = .ok (.ifCond .ne 5, 3) := by decide +kernel
theorem dX7_readsParcel_26 : decode cX7_readsParcel 26 = .ok (.iconst 0, 1) := by decide +kernel
theorem dX7_readsParcel_27 : decode cX7_readsParcel 27 = .ok (.ireturn, 1) := by decide +kernel
theorem dX7_readsParcel_28 : decode cX7_readsParcel 28 = .ok (.aload_n 0, 1) := by decide +kernel
theorem dX7_readsParcel_29 : decode cX7_readsParcel 29 = .ok (.getfield 242, 3) := by decide +kernel
theorem dX7_readsParcel_32 : decode cX7_readsParcel 32 = .ok (.istore_n 2, 1) := by decide +kernel
theorem dX7_readsParcel_33 : decode cX7_readsParcel 33 = .ok (.aload_n 0, 1) := by decide +kernel
theorem dX7_readsParcel_34 : decode cX7_readsParcel 34 = .ok (.bipush 62, 2) := by decide +kernel
theorem dX7_readsParcel_36 : decode cX7_readsParcel 36 = .ok (.invokevirtual 251, 3) := by decide +kernel
theorem dX7_readsParcel_39 : decode cX7_readsParcel 39 = .ok (.ifCond .eq 16, 3) := by decide +kernel
theorem dX7_readsParcel_42 : decode cX7_readsParcel 42 = .ok (.aload_n 0, 1) := by decide +kernel
theorem dX7_readsParcel_43 : decode cX7_readsParcel 43 = .ok (.aload_n 0, 1) := by decide +kernel
theorem dX7_readsParcel_44 : decode cX7_readsParcel 44 = .ok (.invokevirtual 68, 3) := by decide +kernel
theorem dX7_readsParcel_47 : decode cX7_readsParcel 47 = .ok (.iconst 1, 1) := by decide +kernel
theorem dX7_readsParcel_48 : decode cX7_readsParcel 48 = .ok (.isub, 1) := by decide +kernel
theorem dX7_readsParcel_49 : decode cX7_readsParcel 49 = .ok (.invokevirtual 248, 3) := by decide +kernel
theorem dX7_readsParcel_52 : decode cX7_readsParcel 52 = .ok (.ifCond .ne 5, 3) := by decide +kernel
theorem dX7_readsParcel_55 : decode cX7_readsParcel 55 = .ok (.iconst 0, 1) := by decide +kernel
theorem dX7_readsParcel_56 : decode cX7_readsParcel 56 = .ok (.ireturn, 1) := by decide +kernel
theorem dX7_readsParcel_57 : decode cX7_readsParcel 57 = .ok (.aload_n 0, 1) := by decide +kernel
theorem dX7_readsParcel_58 : decode cX7_readsParcel 58 = .ok (.getfield 242, 3) := by decide +kernel
theorem dX7_readsParcel_61 : decode cX7_readsParcel 61 = .ok (.istore_n 3, 1) := by decide +kernel
theorem dX7_readsParcel_62 : decode cX7_readsParcel 62 = .ok (.iload_n 2, 1) := by decide +kernel
theorem dX7_readsParcel_63 : decode cX7_readsParcel 63 = .ok (.istore 4, 2) := by decide +kernel
theorem dX7_readsParcel_65 : decode cX7_readsParcel 65 = .ok (.iconst 0, 1) := by decide +kernel
theorem dX7_readsParcel_66 : decode cX7_readsParcel 66 = .ok (.istore 5, 2) := by decide +kernel
theorem dX7_readsParcel_68 : decode cX7_readsParcel 68 = .ok (.aload_n 0, 1) := by decide +kernel
theorem dX7_readsParcel_69 : decode cX7_readsParcel 69 = .ok (.bipush 47, 2) := by decide +kernel
theorem dX7_readsParcel_71 : decode cX7_readsParcel 71 = .ok (.invokevirtual 251, 3) := by decide +kernel
theorem dX7_readsParcel_74 : decode cX7_readsParcel 74 = .ok (.ifCond .eq 24, 3) := by decide +kernel
theorem dX7_readsParcel_77 : decode cX7_readsParcel 77 = .ok (.aload_n 0, 1) := by decide +kernel
theorem dX7_readsParcel_78 : decode cX7_readsParcel 78 = .ok (.aload_n 0, 1) := by decide +kernel
theorem dX7_readsParcel_79 : decode cX7_readsParcel 79 = .ok (.invokevirtual 68, 3) := by decide +kernel
theorem dX7_readsParcel_82 : decode cX7_readsParcel 82 = .ok (.iconst 1, 1) := by decide +kernel
theorem dX7_readsParcel_83 : decode cX7_readsParcel 83 = .ok (.isub, 1) := by decide +kernel
theorem dX7_readsParcel_84 : decode cX7_readsParcel 84 = .ok (.invokevirtual 248, 3) := by decide +kernel
theorem dX7_readsParcel_87 : decode cX7_readsParcel 87 = .ok (.ifCond .ne 5, 3) := by decide +kernel
theorem dX7_readsParcel_90 : decode cX7_readsParcel 90 = .ok (.iconst 0, 1) := by decide +kernel
theorem dX7_readsParcel_91 : decode cX7_readsParcel 91 = .ok (.ireturn, 1) := by decide +kernel
theorem dX7_readsParcel_92 : decode cX7_readsParcel 92 = .ok (.aload_n 0, 1) := by decide +kernel
theorem dX7_readsParcel_93 : decode cX7_readsParcel 93 = .ok (.getfield 242, 3) := by decide +kernel
theorem dX7_readsParcel_96 : decode cX7_readsParcel 96 = .ok (.istore 4, 2) := by decide +kernel
theorem dX7_readsParcel_98 : decode cX7_readsParcel 98 = .ok (.aload_n 0, 1) := by decide +kernel
theorem dX7_readsParcel_99 : decode cX7_readsParcel 99 = .ok (.bipush 42, 2) := by decide +kernel
theorem dX7_readsParcel_101 : decode cX7_readsParcel 101 = .ok (.invokevirtual 251, 3) := by decide +kernel
theorem dX7_readsParcel_104 : decode cX7_readsParcel 104 = .ok (.ifCond .eq 20, 3) := by decide +kernel
theorem dX7_readsParcel_107 : decode cX7_readsParcel 107 = .ok (.aload_n 0, 1) := by decide +kernel
theorem dX7_readsParcel_108 : decode cX7_readsParcel 108 = .ok (.bipush 99, 2) := by decide +kernel
theorem dX7_readsParcel_110 : decode cX7_readsParcel 110 = .ok (.invokevirtual 248, 3) := by decide +kernel
theorem dX7_readsParcel_113 : decode cX7_readsParcel 113 = .ok (.ifCond .ne 5, 3) := by decide +kernel
theorem dX7_readsParcel_116 : decode cX7_readsParcel 116 = .ok (.iconst 0, 1) := by decide +kernel
theorem dX7_readsParcel_117 : decode cX7_readsParcel 117 = .ok (.ireturn, 1) := by decide +kernel
theorem dX7_readsParcel_118 : decode cX7_readsParcel 118 = .ok (.aload_n 0, 1) := by decide +kernel
theorem dX7_readsParcel_119 : decode cX7_readsParcel 119 = .ok (.getfield 242, 3) := by decide +kernel
theorem dX7_readsParcel_122 : decode cX7_readsParcel 122 = .ok (.istore 5, 2) := by decide +kernel
theorem dX7_readsParcel_124 : decode cX7_readsParcel 124 = .ok (.aload_n 0, 1) := by decide +kernel
theorem dX7_readsParcel_125 : decode cX7_readsParcel 125 = .ok (.bipush 59, 2) := by decide +kernel
theorem dX7_readsParcel_127 : decode cX7_readsParcel 127 = .ok (.invokevirtual 251, 3) := by decide +kernel
theorem dX7_readsParcel_130 : decode cX7_readsParcel 130 = .ok (.ifCond .ne 5, 3) := by decide +kernel
theorem dX7_readsParcel_133 : decode cX7_readsParcel 133 = .ok (.iconst 0, 1) := by decide +kernel
theorem dX7_readsParcel_134 : decode cX7_readsParcel 134 = .ok (.ireturn, 1) := by decide +kernel
theorem dX7_readsParcel_135 : decode cX7_readsParcel 135 = .ok (.aload_n 0, 1) := by decide +kernel
theorem dX7_readsParcel_136 : decode cX7_readsParcel 136 = .ok (.dup, 1) := by decide +kernel
theorem dX7_readsParcel_137 : decode cX7_readsParcel 137 = .ok (.getfield 245, 3) := by decide +kernel
theorem dX7_readsParcel_140 : decode cX7_readsParcel 140 = .ok (.iconst 1, 1) := by decide +kernel
theorem dX7_readsParcel_141 : decode cX7_readsParcel 141 = .ok (.iadd, 1) := by decide +kernel
theorem dX7_readsParcel_142 : decode cX7_readsParcel 142 = .ok (.putfield 245, 3) := by decide +kernel
theorem dX7_readsParcel_145 : decode cX7_readsParcel 145 = .ok (.iload_n 1, 1) := by decide +kernel
theorem dX7_readsParcel_146 : decode cX7_readsParcel 146 = .ok (.ifCond .eq 13, 3) := by decide +kernel
theorem dX7_readsParcel_149 : decode cX7_readsParcel 149 = .ok (.aload_n 0, 1) := by decide +kernel
theorem dX7_readsParcel_150 : decode cX7_readsParcel 150 = .ok (.iload_n 2, 1) := by decide +kernel
theorem dX7_readsParcel_151 : decode cX7_readsParcel 151 = .ok (.iload_n 3, 1) := by decide +kernel
theorem dX7_readsParcel_152 : decode cX7_readsParcel 152 = .ok (.iload 4, 2) := by decide +kernel
theorem dX7_readsParcel_154 : decode cX7_readsParcel 154 = .ok (.iload 5, 2) := by decide +kernel
theorem dX7_readsParcel_156 : decode cX7_readsParcel 156 = .ok (.invokevirtual 101, 3) := by decide +kernel
theorem dX7_readsParcel_159 : decode cX7_readsParcel 159 = .ok (.iconst 1, 1) := by decide +kernel
theorem dX7_readsParcel_160 : decode cX7_readsParcel 160 = .ok (.ireturn, 1) := by decide +kernel
theorem dX7_goesThrough_0 : decode cX7_goesThrough 0 = .ok (.aload_n 0, 1) := by decide +kernel
theorem dX7_goesThrough_1 : decode cX7_goesThrough 1 = .ok (.iconst 0, 1) := by decide +kernel
theorem dX7_goesThrough_2 : decode cX7_goesThrough 2 = .ok (.putfield 230, 3) := by decide +kernel
theorem dX7_goesThrough_5 : decode cX7_goesThrough 5 = .ok (.aload_n 0, 1) := by decide +kernel
theorem dX7_goesThrough_6 : decode cX7_goesThrough 6 = .ok (.aload_n 0, 1) := by decide +kernel
theorem dX7_goesThrough_7 : decode cX7_goesThrough 7 = .ok (.getfield 76, 3) := by decide +kernel
theorem dX7_goesThrough_10 : decode cX7_goesThrough 10 = .ok (.putfield 245, 3) := by decide +kernel
theorem dX7_goesThrough_13 : decode cX7_goesThrough 13 = .ok (.aload_n 0, 1) := by decide +kernel
theorem dX7_goesThrough_14 : decode cX7_goesThrough 14 = .ok (.getfield 76, 3) := by decide +kernel
theorem dX7_goesThrough_17 : decode cX7_goesThrough 17 = .ok (.istore_n 2, 1) := by decide +kernel
theorem dX7_goesThrough_18 : decode cX7_goesThrough 18 = .ok (.aload_n 0, 1) := by decide +kernel
theorem dX7_goesThrough_19 : decode cX7_goesThrough 19 = .ok (.invokevirtual 239, 3) := by decide +kernel
theorem dX7_goesThrough_22 : decode cX7_goesThrough 22 = .ok (.aload_n 0, 1) := by decide +kernel
theorem dX7_goesThrough_23 : decode cX7_goesThrough 23 = .ok (.getfield 230, 3) := by decide +kernel
theorem dX7_goesThrough_26 : decode cX7_goesThrough 26 = .ok (.aload_n 0, 1) := by decide +kernel
theorem dX7_goesThrough_27 : decode cX7_goesThrough 27 = .ok (.getfield 227, 3) := by decide +kernel
theorem dX7_goesThrough_30 : decode cX7_goesThrough 30 = .ok (.if_icmp .ne 11, 3) := by decide +kernel
theorem dX7_goesThrough_33 : decode cX7_goesThrough 33 = .ok (.bipush (-10), 2) := by decide +kernel
theorem dX7_goesThrough_35 : decode cX7_goesThrough 35 = .ok (.aload_n 0, 1) := by decide +kernel
theorem dX7_goesThrough_36 : decode cX7_goesThrough 36 = .ok (.getfield 227, 3) := by decide +kernel
theorem dX7_goesThrough_39 : decode cX7_goesThrough 39 = .ok (.isub, 1) := by decide +kernel
theorem dX7_goesThrough_40 : decode cX7_goesThrough 40 = .ok (.ireturn, 1) := by decide +kernel
theorem dX7_goesThrough_41 : decode cX7_goesThrough 41 = .ok (.aload_n 0, 1) := by decide +kernel
theorem dX7_goesThrough_42 : decode cX7_goesThrough 42 = .ok (.getfield 230, 3) := by decide +kernel
theorem dX7_goesThrough_45 : decode cX7_goesThrough 45 = .ok (.aload_n 0, 1) := by decide +kernel
theorem dX7_goesThrough_46 : decode cX7_goesThrough 46 = .ok (.getfield 227, 3) := by decide +kernel
theorem dX7_goesThrough_49 : decode cX7_goesThrough 49 = .ok (.if_icmp .ge 26, 3) := by decide +kernel
theorem dX7_goesThrough_52 : decode cX7_goesThrough 52 = .ok (.aload_n 0, 1) := by decide +kernel
theorem dX7_goesThrough_53 : decode cX7_goesThrough 53 = .ok (.iload_n 1, 1) := by decide +kernel
theorem dX7_goesThrough_54 : decode cX7_goesThrough 54 = .ok (.invokevirtual 254, 3) := by decide +kernel
theorem dX7_goesThrough_57 : decode cX7_goesThrough 57 = .ok (.ifCond .ne 11, 3) := by decide +kernel
theorem dX7_goesThrough_60 : decode cX7_goesThrough 60 = .ok (.bipush (-10), 2) := by decide +kernel
theorem dX7_goesThrough_62 : decode cX7_goesThrough 62 = .ok (.aload_n 0, 1) := by decide +kernel
theorem dX7_goesThrough_63 : decode cX7_goesThrough 63 = .ok (.getfield 236, 3) := by decide +kernel
theorem dX7_goesThrough_66 : decode cX7_goesThrough 66 = .ok (.isub, 1) := by decide +kernel
theorem dX7_goesThrough_67 : decode cX7_goesThrough 67 = .ok (.ireturn, 1) := by decide +kernel
theorem dX7_goesThrough_68 : decode cX7_goesThrough 68 = .ok (.aload_n 0, 1) := by decide +kernel
theorem dX7_goesThrough_69 : decode cX7_goesThrough 69 = .ok (.invokevirtual 239, 3) := by decide +kernel
theorem dX7_goesThrough_72 : decode cX7_goesThrough 72 = .ok (.goto (-31), 3) := by decide +kernel
theorem dX7_goesThrough_75 : decode cX7_goesThrough 75 = .ok (.aload_n 0, 1) := by decide +kernel
theorem dX7_goesThrough_76 : decode cX7_goesThrough 76 = .ok (.getfield 245, 3) := by decide +kernel
theorem dX7_goesThrough_79 : decode cX7_goesThrough 79 = .ok (.iload_n 2, 1) := by decide +kernel
theorem dX7_goesThrough_80 : decode cX7_goesThrough 80 = .ok (.isub, 1) := by decide +kernel
theorem dX7_goesThrough_81 : decode cX7_goesThrough 81 = .ok (.ireturn, 1) := by decide +kernel
theorem dX7_reads_0 : decode cX7_reads 0 = .ok (.aload_n 0, 1) := by decide +kernel
theorem dX7_reads_1 : decode cX7_reads 1 = .ok (.iconst 0, 1) := by decide +kernel
theorem dX7_reads_2 : decode cX7_reads 2 = .ok (.invokevirtual 258, 3) := by decide +kernel
theorem dX7_reads_5 : decode cX7_reads 5 = .ok (.istore_n 1, 1) := by decide +kernel
theorem dX7_reads_6 : decode cX7_reads 6 = .ok (.iload_n 1, 1) := by decide +kernel
theorem dX7_reads_7 : decode cX7_reads 7 = .ok (.ifCond .ge 5, 3) := by decide +kernel
theorem dX7_reads_10 : decode cX7_reads 10 = .ok (.iload_n 1, 1) := by decide +kernel
theorem dX7_reads_11 : decode cX7_reads 11 = .ok (.ireturn, 1) := by decide +kernel
theorem dX7_reads_12 : decode cX7_reads 12 = .ok (.aload_n 0, 1) := by decide +kernel
theorem dX7_reads_13 : decode cX7_reads 13 = .ok (.invokevirtual 88, 3) := by decide +kernel
theorem dX7_reads_16 : decode cX7_reads 16 = .ok (.aload_n 0, 1) := by decide +kernel
theorem dX7_reads_17 : decode cX7_reads 17 = .ok (.iconst 1, 1) := by decide +kernel
theorem dX7_reads_18 : decode cX7_reads 18 = .ok (.invokevirtual 258, 3) := by decide +kernel
theorem dX7_reads_21 : decode cX7_reads 21 = .ok (.ireturn, 1) := by decide +kernel
theorem dX7_toldBy_0 : decode cX7_toldBy 0 = .ok (.iload_n 1, 1) := by decide +kernel
theorem dX7_toldBy_1 : decode cX7_toldBy 1 = .ok (.iconst 3, 1) := by decide +kernel
theorem dX7_toldBy_2 : decode cX7_toldBy 2 = .ok (.if_icmp .ge 12, 3) := by decide +kernel
theorem dX7_toldBy_5 : decode cX7_toldBy 5 = .ok (.aload_n 0, 1) := by decide +kernel
theorem dX7_toldBy_6 : decode cX7_toldBy 6 = .ok (.getfield 7, 3) := by decide +kernel
theorem dX7_toldBy_9 : decode cX7_toldBy 9 = .ok (.iload_n 1, 1) := by decide +kernel
theorem dX7_toldBy_10 : decode cX7_toldBy 10 = .ok (.iaload, 1) := by decide +kernel
theorem dX7_toldBy_11 : decode cX7_toldBy 11 = .ok (.goto 61, 3) := by decide +kernel
theorem dX7_toldBy_14 : decode cX7_toldBy 14 = .ok (.iload_n 1, 1) := by decide +kernel
theorem dX7_toldBy_15 : decode cX7_toldBy 15 = .ok (.iconst 3, 1) := by decide +kernel
theorem dX7_toldBy_16 : decode cX7_toldBy 16 = .ok (.if_icmp .ne 10, 3) := by decide +kernel
theorem dX7_toldBy_19 : decode cX7_toldBy 19 = .ok (.aload_n 0, 1) := by decide +kernel
theorem dX7_toldBy_20 : decode cX7_toldBy 20 = .ok (.getfield 227, 3) := by decide +kernel
theorem dX7_toldBy_23 : decode cX7_toldBy 23 = .ok (.goto 49, 3) := by decide +kernel
theorem dX7_toldBy_26 : decode cX7_toldBy 26 = .ok (.iload_n 1, 1) := by decide +kernel
theorem dX7_toldBy_27 : decode cX7_toldBy 27 = .ok (.iconst 4, 1) := by decide +kernel
theorem dX7_toldBy_28 : decode cX7_toldBy 28 = .ok (.if_icmp .ne 10, 3) := by decide +kernel
theorem dX7_toldBy_31 : decode cX7_toldBy 31 = .ok (.aload_n 0, 1) := by decide +kernel
theorem dX7_toldBy_32 : decode cX7_toldBy 32 = .ok (.getfield 13, 3) := by decide +kernel
theorem dX7_toldBy_35 : decode cX7_toldBy 35 = .ok (.goto 37, 3) := by decide +kernel
theorem dX7_toldBy_38 : decode cX7_toldBy 38 = .ok (.iload_n 1, 1) := by decide +kernel
theorem dX7_toldBy_39 : decode cX7_toldBy 39 = .ok (.iconst 5, 1) := by decide +kernel
theorem dX7_toldBy_40 : decode cX7_toldBy 40 = .ok (.if_icmp .ne 10, 3) := by decide +kernel
theorem dX7_toldBy_43 : decode cX7_toldBy 43 = .ok (.aload_n 0, 1) := by decide +kernel
theorem dX7_toldBy_44 : decode cX7_toldBy 44 = .ok (.getfield 76, 3) := by decide +kernel
theorem dX7_toldBy_47 : decode cX7_toldBy 47 = .ok (.goto 25, 3) := by decide +kernel
theorem dX7_toldBy_50 : decode cX7_toldBy 50 = .ok (.iload_n 1, 1) := by decide +kernel
theorem dX7_toldBy_51 : decode cX7_toldBy 51 = .ok (.bipush 8, 2) := by decide +kernel
theorem dX7_toldBy_53 : decode cX7_toldBy 53 = .ok (.if_icmp .ne 10, 3) := by decide +kernel
theorem dX7_toldBy_56 : decode cX7_toldBy 56 = .ok (.aload_n 0, 1) := by decide +kernel
theorem dX7_toldBy_57 : decode cX7_toldBy 57 = .ok (.getfield 79, 3) := by decide +kernel
theorem dX7_toldBy_60 : decode cX7_toldBy 60 = .ok (.goto 12, 3) := by decide +kernel
theorem dX7_toldBy_63 : decode cX7_toldBy 63 = .ok (.aload_n 0, 1) := by decide +kernel
theorem dX7_toldBy_64 : decode cX7_toldBy 64 = .ok (.getfield 17, 3) := by decide +kernel
theorem dX7_toldBy_67 : decode cX7_toldBy 67 = .ok (.iload_n 1, 1) := by decide +kernel
theorem dX7_toldBy_68 : decode cX7_toldBy 68 = .ok (.bipush 6, 2) := by decide +kernel
theorem dX7_toldBy_70 : decode cX7_toldBy 70 = .ok (.isub, 1) := by decide +kernel
theorem dX7_toldBy_71 : decode cX7_toldBy 71 = .ok (.iaload, 1) := by decide +kernel
theorem dX7_toldBy_72 : decode cX7_toldBy 72 = .ok (.ireturn, 1) := by decide +kernel
theorem dX7_told_0 : decode cX7_told 0 = .ok (.iload_n 1, 1) := by decide +kernel
theorem dX7_told_1 : decode cX7_told 1 = .ok (.iconst 0, 1) := by decide +kernel
theorem dX7_told_2 : decode cX7_told 2 = .ok (.bipush 8, 2) := by decide +kernel
theorem dX7_told_4 : decode cX7_told 4 = .ok (.invokestatic 72, 3) := by decide +kernel
theorem dX7_told_7 : decode cX7_told 7 = .ok (.ifCond .eq 11, 3) := by decide +kernel
theorem dX7_told_10 : decode cX7_told 10 = .ok (.aload_n 0, 1) := by decide +kernel
theorem dX7_told_11 : decode cX7_told 11 = .ok (.iload_n 1, 1) := by decide +kernel
theorem dX7_told_12 : decode cX7_told 12 = .ok (.invokevirtual 262, 3) := by decide +kernel
theorem dX7_told_15 : decode cX7_told 15 = .ok (.goto 7, 3) := by decide +kernel
theorem dX7_told_18 : decode cX7_told 18 = .ok (.aload_n 0, 1) := by decide +kernel
theorem dX7_told_19 : decode cX7_told 19 = .ok (.invokevirtual 85, 3) := by decide +kernel
theorem dX7_told_22 : decode cX7_told 22 = .ok (.ireturn, 1) := by decide +kernel
theorem dX7_digest_0 : decode cX7_digest 0 = .ok (.ldc2_w 265, 3) := by decide +kernel
theorem dX7_digest_3 : decode cX7_digest 3 = .ok (.lstore_n 1, 1) := by decide +kernel
theorem dX7_digest_4 : decode cX7_digest 4 = .ok (.iconst 0, 1) := by decide +kernel
theorem dX7_digest_5 : decode cX7_digest 5 = .ok (.istore_n 3, 1) := by decide +kernel
theorem dX7_digest_6 : decode cX7_digest 6 = .ok (.iload_n 3, 1) := by decide +kernel
theorem dX7_digest_7 : decode cX7_digest 7 = .ok (.bipush 9, 2) := by decide +kernel
theorem dX7_digest_9 : decode cX7_digest 9 = .ok (.if_icmp .ge 22, 3) := by decide +kernel
theorem dX7_digest_12 : decode cX7_digest 12 = .ok (.ldc2_w 267, 3) := by decide +kernel
theorem dX7_digest_15 : decode cX7_digest 15 = .ok (.lload_n 1, 1) := by decide +kernel
theorem dX7_digest_16 : decode cX7_digest 16 = .ok (.lmul, 1) := by decide +kernel
theorem dX7_digest_17 : decode cX7_digest 17 = .ok (.aload_n 0, 1) := by decide +kernel
theorem dX7_digest_18 : decode cX7_digest 18 = .ok (.iload_n 3, 1) := by decide +kernel
theorem dX7_digest_19 : decode cX7_digest 19 = .ok (.invokevirtual 262, 3) := by decide +kernel
theorem dX7_digest_22 : decode cX7_digest 22 = .ok (.i2l, 1) := by decide +kernel
theorem dX7_digest_23 : decode cX7_digest 23 = .ok (.ladd, 1) := by decide +kernel
theorem dX7_digest_24 : decode cX7_digest 24 = .ok (.lstore_n 1, 1) := by decide +kernel
theorem dX7_digest_25 : decode cX7_digest 25 = .ok (.iinc 3 1, 3) := by decide +kernel
theorem dX7_digest_28 : decode cX7_digest 28 = .ok (.goto (-22), 3) := by decide +kernel
theorem dX7_digest_31 : decode cX7_digest 31 = .ok (.iconst 0, 1) := by decide +kernel
theorem dX7_digest_32 : decode cX7_digest 32 = .ok (.istore_n 3, 1) := by decide +kernel
theorem dX7_digest_33 : decode cX7_digest 33 = .ok (.iload_n 3, 1) := by decide +kernel
theorem dX7_digest_34 : decode cX7_digest 34 = .ok (.aload_n 0, 1) := by decide +kernel
theorem dX7_digest_35 : decode cX7_digest 35 = .ok (.getfield 76, 3) := by decide +kernel
theorem dX7_digest_38 : decode cX7_digest 38 = .ok (.if_icmp .ge 40, 3) := by decide +kernel
theorem dX7_digest_41 : decode cX7_digest 41 = .ok (.iconst 0, 1) := by decide +kernel
theorem dX7_digest_42 : decode cX7_digest 42 = .ok (.istore 4, 2) := by decide +kernel
theorem dX7_digest_44 : decode cX7_digest 44 = .ok (.iload 4, 2) := by decide +kernel
theorem dX7_digest_46 : decode cX7_digest 46 = .ok (.bipush 6, 2) := by decide +kernel
theorem dX7_digest_48 : decode cX7_digest 48 = .ok (.if_icmp .ge 24, 3) := by decide +kernel
theorem dX7_digest_51 : decode cX7_digest 51 = .ok (.ldc2_w 267, 3) := by decide +kernel
theorem dX7_digest_54 : decode cX7_digest 54 = .ok (.lload_n 1, 1) := by decide +kernel
theorem dX7_digest_55 : decode cX7_digest 55 = .ok (.lmul, 1) := by decide +kernel
theorem dX7_digest_56 : decode cX7_digest 56 = .ok (.aload_n 0, 1) := by decide +kernel
theorem dX7_digest_57 : decode cX7_digest 57 = .ok (.iload_n 3, 1) := by decide +kernel
theorem dX7_digest_58 : decode cX7_digest 58 = .ok (.iload 4, 2) := by decide +kernel
theorem dX7_digest_60 : decode cX7_digest 60 = .ok (.invokevirtual 152, 3) := by decide +kernel
theorem dX7_digest_63 : decode cX7_digest 63 = .ok (.i2l, 1) := by decide +kernel
theorem dX7_digest_64 : decode cX7_digest 64 = .ok (.ladd, 1) := by decide +kernel
theorem dX7_digest_65 : decode cX7_digest 65 = .ok (.lstore_n 1, 1) := by decide +kernel
theorem dX7_digest_66 : decode cX7_digest 66 = .ok (.iinc 4 1, 3) := by decide +kernel
theorem dX7_digest_69 : decode cX7_digest 69 = .ok (.goto (-25), 3) := by decide +kernel
theorem dX7_digest_72 : decode cX7_digest 72 = .ok (.iinc 3 1, 3) := by decide +kernel
theorem dX7_digest_75 : decode cX7_digest 75 = .ok (.goto (-42), 3) := by decide +kernel
theorem dX7_digest_78 : decode cX7_digest 78 = .ok (.ldc2_w 267, 3) := by decide +kernel
theorem dX7_digest_81 : decode cX7_digest 81 = .ok (.lload_n 1, 1) := by decide +kernel
theorem dX7_digest_82 : decode cX7_digest 82 = .ok (.lmul, 1) := by decide +kernel
theorem dX7_digest_83 : decode cX7_digest 83 = .ok (.aload_n 0, 1) := by decide +kernel
theorem dX7_digest_84 : decode cX7_digest 84 = .ok (.getfield 179, 3) := by decide +kernel
theorem dX7_digest_87 : decode cX7_digest 87 = .ok (.i2l, 1) := by decide +kernel
theorem dX7_digest_88 : decode cX7_digest 88 = .ok (.ladd, 1) := by decide +kernel
theorem dX7_digest_89 : decode cX7_digest 89 = .ok (.lstore_n 1, 1) := by decide +kernel
theorem dX7_digest_90 : decode cX7_digest 90 = .ok (.ldc2_w 267, 3) := by decide +kernel
theorem dX7_digest_93 : decode cX7_digest 93 = .ok (.lload_n 1, 1) := by decide +kernel
theorem dX7_digest_94 : decode cX7_digest 94 = .ok (.lmul, 1) := by decide +kernel
theorem dX7_digest_95 : decode cX7_digest 95 = .ok (.aload_n 0, 1) := by decide +kernel
theorem dX7_digest_96 : decode cX7_digest 96 = .ok (.getfield 47, 3) := by decide +kernel
theorem dX7_digest_99 : decode cX7_digest 99 = .ok (.i2l, 1) := by decide +kernel
theorem dX7_digest_100 : decode cX7_digest 100 = .ok (.ladd, 1) := by decide +kernel
theorem dX7_digest_101 : decode cX7_digest 101 = .ok (.lstore_n 1, 1) := by decide +kernel
theorem dX7_digest_102 : decode cX7_digest 102 = .ok (.iconst 0, 1) := by decide +kernel
theorem dX7_digest_103 : decode cX7_digest 103 = .ok (.istore_n 3, 1) := by decide +kernel
theorem dX7_digest_104 : decode cX7_digest 104 = .ok (.iload_n 3, 1) := by decide +kernel
theorem dX7_digest_105 : decode cX7_digest 105 = .ok (.iconst 3, 1) := by decide +kernel
theorem dX7_digest_106 : decode cX7_digest 106 = .ok (.if_icmp .ge 22, 3) := by decide +kernel
theorem dX7_digest_109 : decode cX7_digest 109 = .ok (.ldc2_w 267, 3) := by decide +kernel
theorem dX7_digest_112 : decode cX7_digest 112 = .ok (.lload_n 1, 1) := by decide +kernel
theorem dX7_digest_113 : decode cX7_digest 113 = .ok (.lmul, 1) := by decide +kernel
theorem dX7_digest_114 : decode cX7_digest 114 = .ok (.aload_n 0, 1) := by decide +kernel
theorem dX7_digest_115 : decode cX7_digest 115 = .ok (.iload_n 3, 1) := by decide +kernel
theorem dX7_digest_116 : decode cX7_digest 116 = .ok (.invokevirtual 176, 3) := by decide +kernel
theorem dX7_digest_119 : decode cX7_digest 119 = .ok (.i2l, 1) := by decide +kernel
theorem dX7_digest_120 : decode cX7_digest 120 = .ok (.ladd, 1) := by decide +kernel
theorem dX7_digest_121 : decode cX7_digest 121 = .ok (.lstore_n 1, 1) := by decide +kernel
theorem dX7_digest_122 : decode cX7_digest 122 = .ok (.iinc 3 1, 3) := by decide +kernel
theorem dX7_digest_125 : decode cX7_digest 125 = .ok (.goto (-21), 3) := by decide +kernel
theorem dX7_digest_128 : decode cX7_digest 128 = .ok (.iconst 0, 1) := by decide +kernel
theorem dX7_digest_129 : decode cX7_digest 129 = .ok (.istore_n 3, 1) := by decide +kernel
theorem dX7_digest_130 : decode cX7_digest 130 = .ok (.iload_n 3, 1) := by decide +kernel
theorem dX7_digest_131 : decode cX7_digest 131 = .ok (.iconst 3, 1) := by decide +kernel
theorem dX7_digest_132 : decode cX7_digest 132 = .ok (.if_icmp .ge 22, 3) := by decide +kernel
theorem dX7_digest_135 : decode cX7_digest 135 = .ok (.ldc2_w 267, 3) := by decide +kernel
theorem dX7_digest_138 : decode cX7_digest 138 = .ok (.lload_n 1, 1) := by decide +kernel
theorem dX7_digest_139 : decode cX7_digest 139 = .ok (.lmul, 1) := by decide +kernel
theorem dX7_digest_140 : decode cX7_digest 140 = .ok (.aload_n 0, 1) := by decide +kernel
theorem dX7_digest_141 : decode cX7_digest 141 = .ok (.iload_n 3, 1) := by decide +kernel
theorem dX7_digest_142 : decode cX7_digest 142 = .ok (.invokevirtual 224, 3) := by decide +kernel
theorem dX7_digest_145 : decode cX7_digest 145 = .ok (.i2l, 1) := by decide +kernel
theorem dX7_digest_146 : decode cX7_digest 146 = .ok (.ladd, 1) := by decide +kernel
theorem dX7_digest_147 : decode cX7_digest 147 = .ok (.lstore_n 1, 1) := by decide +kernel
theorem dX7_digest_148 : decode cX7_digest 148 = .ok (.iinc 3 1, 3) := by decide +kernel
theorem dX7_digest_151 : decode cX7_digest 151 = .ok (.goto (-21), 3) := by decide +kernel
theorem dX7_digest_154 : decode cX7_digest 154 = .ok (.lload_n 1, 1) := by decide +kernel
theorem dX7_digest_155 : decode cX7_digest 155 = .ok (.lreturn, 1) := by decide +kernel
theorem dJ9_max_7cf53_0 : decode cJ9_max_7cf53 0 = .ok (.iload_n 0, 1) := by decide +kernel
theorem dJ9_max_7cf53_1 : decode cJ9_max_7cf53 1 = .ok (.iload_n 1, 1) := by decide +kernel
theorem dJ9_max_7cf53_2 : decode cJ9_max_7cf53 2 = .ok (.if_icmp .lt 7, 3) := by decide +kernel
theorem dJ9_max_7cf53_5 : decode cJ9_max_7cf53 5 = .ok (.iload_n 0, 1) := by decide +kernel
theorem dJ9_max_7cf53_6 : decode cJ9_max_7cf53 6 = .ok (.goto 4, 3) := by decide +kernel
theorem dJ9_max_7cf53_9 : decode cJ9_max_7cf53 9 = .ok (.iload_n 1, 1) := by decide +kernel
theorem dJ9_max_7cf53_10 : decode cJ9_max_7cf53 10 = .ok (.ireturn, 1) := by decide +kernel
theorem dJ9_min_7cf53_0 : decode cJ9_min_7cf53 0 = .ok (.iload_n 0, 1) := by decide +kernel
theorem dJ9_min_7cf53_1 : decode cJ9_min_7cf53 1 = .ok (.iload_n 1, 1) := by decide +kernel
theorem dJ9_min_7cf53_2 : decode cJ9_min_7cf53 2 = .ok (.if_icmp .gt 7, 3) := by decide +kernel
theorem dJ9_min_7cf53_5 : decode cJ9_min_7cf53 5 = .ok (.iload_n 0, 1) := by decide +kernel
theorem dJ9_min_7cf53_6 : decode cJ9_min_7cf53 6 = .ok (.goto 4, 3) := by decide +kernel
theorem dJ9_min_7cf53_9 : decode cJ9_min_7cf53 9 = .ok (.iload_n 1, 1) := by decide +kernel
theorem dJ9_min_7cf53_10 : decode cJ9_min_7cf53 10 = .ok (.ireturn, 1) := by decide +kernel
theorem dJ7_fill_53178_0 : decode cJ7_fill_53178 0 = .ok (.iconst 0, 1) := by decide +kernel
theorem dJ7_fill_53178_1 : decode cJ7_fill_53178 1 = .ok (.istore_n 2, 1) := by decide +kernel
theorem dJ7_fill_53178_2 : decode cJ7_fill_53178 2 = .ok (.aload_n 0, 1) := by decide +kernel
theorem dJ7_fill_53178_3 : decode cJ7_fill_53178 3 = .ok (.arraylength, 1) := by decide +kernel
theorem dJ7_fill_53178_4 : decode cJ7_fill_53178 4 = .ok (.istore_n 3, 1) := by decide +kernel
theorem dJ7_fill_53178_5 : decode cJ7_fill_53178 5 = .ok (.iload_n 2, 1) := by decide +kernel
theorem dJ7_fill_53178_6 : decode cJ7_fill_53178 6 = .ok (.iload_n 3, 1) := by decide +kernel
theorem dJ7_fill_53178_7 : decode cJ7_fill_53178 7 = .ok (.if_icmp .ge 13, 3) := by decide +kernel
theorem dJ7_fill_53178_10 : decode cJ7_fill_53178 10 = .ok (.aload_n 0, 1) := by decide +kernel
theorem dJ7_fill_53178_11 : decode cJ7_fill_53178 11 = .ok (.iload_n 2, 1) := by decide +kernel
theorem dJ7_fill_53178_12 : decode cJ7_fill_53178 12 = .ok (.iload_n 1, 1) := by decide +kernel
theorem dJ7_fill_53178_13 : decode cJ7_fill_53178 13 = .ok (.iastore, 1) := by decide +kernel
theorem dJ7_fill_53178_14 : decode cJ7_fill_53178 14 = .ok (.iinc 2 1, 3) := by decide +kernel
theorem dJ7_fill_53178_17 : decode cJ7_fill_53178 17 = .ok (.goto (-12), 3) := by decide +kernel
theorem dJ7_fill_53178_20 : decode cJ7_fill_53178 20 = .ok (.return_, 1) := by decide +kernel
theorem dL_law_0 : decode cL_law 0 = .ok (.new 7, 3) := by decide +kernel
theorem dL_law_3 : decode cL_law 3 = .ok (.dup, 1) := by decide +kernel
theorem dL_law_4 : decode cL_law 4 = .ok (.invokespecial 9, 3) := by decide +kernel
theorem dL_law_7 : decode cL_law 7 = .ok (.astore_n 1, 1) := by decide +kernel
theorem dL_law_8 : decode cL_law 8 = .ok (.new 10, 3) := by decide +kernel
theorem dL_law_11 : decode cL_law 11 = .ok (.dup, 1) := by decide +kernel
theorem dL_law_12 : decode cL_law 12 = .ok (.invokespecial 12, 3) := by decide +kernel
theorem dL_law_15 : decode cL_law 15 = .ok (.astore_n 2, 1) := by decide +kernel
theorem dL_law_16 : decode cL_law 16 = .ok (.iconst 0, 1) := by decide +kernel
theorem dL_law_17 : decode cL_law 17 = .ok (.istore_n 3, 1) := by decide +kernel
theorem dL_law_18 : decode cL_law 18 = .ok (.iload_n 3, 1) := by decide +kernel
theorem dL_law_19 : decode cL_law 19 = .ok (.aload_n 0, 1) := by decide +kernel
theorem dL_law_20 : decode cL_law 20 = .ok (.arraylength, 1) := by decide +kernel
theorem dL_law_21 : decode cL_law 21 = .ok (.iconst 5, 1) := by decide +kernel
theorem dL_law_22 : decode cL_law 22 = .ok (.isub, 1) := by decide +kernel
theorem dL_law_23 : decode cL_law 23 = .ok (.if_icmp .gt 740, 3) := by decide +kernel
theorem dL_law_26 : decode cL_law 26 = .ok (.aload_n 0, 1) := by decide +kernel
theorem dL_law_27 : decode cL_law 27 = .ok (.iload_n 3, 1) := by decide +kernel
theorem dL_law_28 : decode cL_law 28 = .ok (.iaload, 1) := by decide +kernel
theorem dL_law_29 : decode cL_law 29 = .ok (.bipush 31, 2) := by decide +kernel
theorem dL_law_31 : decode cL_law 31 = .ok (.iand, 1) := by decide +kernel
theorem dL_law_32 : decode cL_law 32 = .ok (.tableswitch 725 0 23 #[112, 135, 188, 231, 264, 277, 310, 343, 376, 409, 432, 475, 498, 511, 524, 547, 590, 613, 626, 649, 662, 675, 688, 711], 112) := by decide +kernel
theorem dL_law_144 : decode cL_law 144 = .ok (.aload_n 1, 1) := by decide +kernel
theorem dL_law_145 : decode cL_law 145 = .ok (.aload_n 0, 1) := by decide +kernel
theorem dL_law_146 : decode cL_law 146 = .ok (.iload_n 3, 1) := by decide +kernel
theorem dL_law_147 : decode cL_law 147 = .ok (.iconst 1, 1) := by decide +kernel
theorem dL_law_148 : decode cL_law 148 = .ok (.iadd, 1) := by decide +kernel
theorem dL_law_149 : decode cL_law 149 = .ok (.iaload, 1) := by decide +kernel
theorem dL_law_150 : decode cL_law 150 = .ok (.invokevirtual 13, 3) := by decide +kernel
theorem dL_law_153 : decode cL_law 153 = .ok (.aload_n 2, 1) := by decide +kernel
theorem dL_law_154 : decode cL_law 154 = .ok (.aload_n 0, 1) := by decide +kernel
theorem dL_law_155 : decode cL_law 155 = .ok (.iload_n 3, 1) := by decide +kernel
theorem dL_law_156 : decode cL_law 156 = .ok (.iconst 1, 1) := by decide +kernel
theorem dL_law_157 : decode cL_law 157 = .ok (.iadd, 1) := by decide +kernel
theorem dL_law_158 : decode cL_law 158 = .ok (.iaload, 1) := by decide +kernel
theorem dL_law_159 : decode cL_law 159 = .ok (.invokevirtual 17, 3) := by decide +kernel
theorem dL_law_162 : decode cL_law 162 = .ok (.if_icmp .eq 595, 3) := by decide +kernel
theorem dL_law_165 : decode cL_law 165 = .ok (.iconst 0, 1) := by decide +kernel
theorem dL_law_166 : decode cL_law 166 = .ok (.ireturn, 1) := by decide +kernel
theorem dL_law_167 : decode cL_law 167 = .ok (.aload_n 1, 1) := by decide +kernel
theorem dL_law_168 : decode cL_law 168 = .ok (.aload_n 0, 1) := by decide +kernel
theorem dL_law_169 : decode cL_law 169 = .ok (.iload_n 3, 1) := by decide +kernel
theorem dL_law_170 : decode cL_law 170 = .ok (.iconst 1, 1) := by decide +kernel
theorem dL_law_171 : decode cL_law 171 = .ok (.iadd, 1) := by decide +kernel
theorem dL_law_172 : decode cL_law 172 = .ok (.iaload, 1) := by decide +kernel
theorem dL_law_173 : decode cL_law 173 = .ok (.aload_n 0, 1) := by decide +kernel
theorem dL_law_174 : decode cL_law 174 = .ok (.iload_n 3, 1) := by decide +kernel
theorem dL_law_175 : decode cL_law 175 = .ok (.iconst 2, 1) := by decide +kernel
theorem dL_law_176 : decode cL_law 176 = .ok (.iadd, 1) := by decide +kernel
theorem dL_law_177 : decode cL_law 177 = .ok (.iaload, 1) := by decide +kernel
theorem dL_law_178 : decode cL_law 178 = .ok (.aload_n 0, 1) := by decide +kernel
theorem dL_law_179 : decode cL_law 179 = .ok (.iload_n 3, 1) := by decide +kernel
theorem dL_law_180 : decode cL_law 180 = .ok (.iconst 3, 1) := by decide +kernel
theorem dL_law_181 : decode cL_law 181 = .ok (.iadd, 1) := by decide +kernel
theorem dL_law_182 : decode cL_law 182 = .ok (.iaload, 1) := by decide +kernel
theorem dL_law_183 : decode cL_law 183 = .ok (.aload_n 0, 1) := by decide +kernel
theorem dL_law_184 : decode cL_law 184 = .ok (.iload_n 3, 1) := by decide +kernel
theorem dL_law_185 : decode cL_law 185 = .ok (.iconst 4, 1) := by decide +kernel
theorem dL_law_186 : decode cL_law 186 = .ok (.iadd, 1) := by decide +kernel
theorem dL_law_187 : decode cL_law 187 = .ok (.iaload, 1) := by decide +kernel
theorem dL_law_188 : decode cL_law 188 = .ok (.invokevirtual 18, 3) := by decide +kernel
theorem dL_law_191 : decode cL_law 191 = .ok (.aload_n 2, 1) := by decide +kernel
theorem dL_law_192 : decode cL_law 192 = .ok (.aload_n 0, 1) := by decide +kernel
theorem dL_law_193 : decode cL_law 193 = .ok (.iload_n 3, 1) := by decide +kernel
theorem dL_law_194 : decode cL_law 194 = .ok (.iconst 1, 1) := by decide +kernel
theorem dL_law_195 : decode cL_law 195 = .ok (.iadd, 1) := by decide +kernel
theorem dL_law_196 : decode cL_law 196 = .ok (.iaload, 1) := by decide +kernel
theorem dL_law_197 : decode cL_law 197 = .ok (.aload_n 0, 1) := by decide +kernel
theorem dL_law_198 : decode cL_law 198 = .ok (.iload_n 3, 1) := by decide +kernel
theorem dL_law_199 : decode cL_law 199 = .ok (.iconst 2, 1) := by decide +kernel
theorem dL_law_200 : decode cL_law 200 = .ok (.iadd, 1) := by decide +kernel
theorem dL_law_201 : decode cL_law 201 = .ok (.iaload, 1) := by decide +kernel
theorem dL_law_202 : decode cL_law 202 = .ok (.aload_n 0, 1) := by decide +kernel
theorem dL_law_203 : decode cL_law 203 = .ok (.iload_n 3, 1) := by decide +kernel
theorem dL_law_204 : decode cL_law 204 = .ok (.iconst 3, 1) := by decide +kernel
theorem dL_law_205 : decode cL_law 205 = .ok (.iadd, 1) := by decide +kernel
theorem dL_law_206 : decode cL_law 206 = .ok (.iaload, 1) := by decide +kernel
theorem dL_law_207 : decode cL_law 207 = .ok (.aload_n 0, 1) := by decide +kernel
theorem dL_law_208 : decode cL_law 208 = .ok (.iload_n 3, 1) := by decide +kernel
theorem dL_law_209 : decode cL_law 209 = .ok (.iconst 4, 1) := by decide +kernel
theorem dL_law_210 : decode cL_law 210 = .ok (.iadd, 1) := by decide +kernel
theorem dL_law_211 : decode cL_law 211 = .ok (.iaload, 1) := by decide +kernel
theorem dL_law_212 : decode cL_law 212 = .ok (.invokevirtual 22, 3) := by decide +kernel
theorem dL_law_215 : decode cL_law 215 = .ok (.if_icmp .eq 542, 3) := by decide +kernel
theorem dL_law_218 : decode cL_law 218 = .ok (.iconst 0, 1) := by decide +kernel
theorem dL_law_219 : decode cL_law 219 = .ok (.ireturn, 1) := by decide +kernel
theorem dL_law_220 : decode cL_law 220 = .ok (.aload_n 1, 1) := by decide +kernel
theorem dL_law_221 : decode cL_law 221 = .ok (.aload_n 0, 1) := by decide +kernel
theorem dL_law_222 : decode cL_law 222 = .ok (.iload_n 3, 1) := by decide +kernel
theorem dL_law_223 : decode cL_law 223 = .ok (.iconst 1, 1) := by decide +kernel
theorem dL_law_224 : decode cL_law 224 = .ok (.iadd, 1) := by decide +kernel
theorem dL_law_225 : decode cL_law 225 = .ok (.iaload, 1) := by decide +kernel
theorem dL_law_226 : decode cL_law 226 = .ok (.aload_n 0, 1) := by decide +kernel
theorem dL_law_227 : decode cL_law 227 = .ok (.iload_n 3, 1) := by decide +kernel
theorem dL_law_228 : decode cL_law 228 = .ok (.iconst 2, 1) := by decide +kernel
theorem dL_law_229 : decode cL_law 229 = .ok (.iadd, 1) := by decide +kernel
theorem dL_law_230 : decode cL_law 230 = .ok (.iaload, 1) := by decide +kernel
theorem dL_law_231 : decode cL_law 231 = .ok (.aload_n 0, 1) := by decide +kernel
theorem dL_law_232 : decode cL_law 232 = .ok (.iload_n 3, 1) := by decide +kernel
theorem dL_law_233 : decode cL_law 233 = .ok (.iconst 3, 1) := by decide +kernel
theorem dL_law_234 : decode cL_law 234 = .ok (.iadd, 1) := by decide +kernel
theorem dL_law_235 : decode cL_law 235 = .ok (.iaload, 1) := by decide +kernel
theorem dL_law_236 : decode cL_law 236 = .ok (.invokevirtual 23, 3) := by decide +kernel
theorem dL_law_239 : decode cL_law 239 = .ok (.aload_n 2, 1) := by decide +kernel
theorem dL_law_240 : decode cL_law 240 = .ok (.aload_n 0, 1) := by decide +kernel
theorem dL_law_241 : decode cL_law 241 = .ok (.iload_n 3, 1) := by decide +kernel
theorem dL_law_242 : decode cL_law 242 = .ok (.iconst 1, 1) := by decide +kernel
theorem dL_law_243 : decode cL_law 243 = .ok (.iadd, 1) := by decide +kernel
theorem dL_law_244 : decode cL_law 244 = .ok (.iaload, 1) := by decide +kernel
theorem dL_law_245 : decode cL_law 245 = .ok (.aload_n 0, 1) := by decide +kernel
theorem dL_law_246 : decode cL_law 246 = .ok (.iload_n 3, 1) := by decide +kernel
theorem dL_law_247 : decode cL_law 247 = .ok (.iconst 2, 1) := by decide +kernel
theorem dL_law_248 : decode cL_law 248 = .ok (.iadd, 1) := by decide +kernel
theorem dL_law_249 : decode cL_law 249 = .ok (.iaload, 1) := by decide +kernel
theorem dL_law_250 : decode cL_law 250 = .ok (.aload_n 0, 1) := by decide +kernel
theorem dL_law_251 : decode cL_law 251 = .ok (.iload_n 3, 1) := by decide +kernel
theorem dL_law_252 : decode cL_law 252 = .ok (.iconst 3, 1) := by decide +kernel
theorem dL_law_253 : decode cL_law 253 = .ok (.iadd, 1) := by decide +kernel
theorem dL_law_254 : decode cL_law 254 = .ok (.iaload, 1) := by decide +kernel
theorem dL_law_255 : decode cL_law 255 = .ok (.invokevirtual 27, 3) := by decide +kernel
theorem dL_law_258 : decode cL_law 258 = .ok (.if_icmp .eq 499, 3) := by decide +kernel
theorem dL_law_261 : decode cL_law 261 = .ok (.iconst 0, 1) := by decide +kernel
theorem dL_law_262 : decode cL_law 262 = .ok (.ireturn, 1) := by decide +kernel
theorem dL_law_263 : decode cL_law 263 = .ok (.aload_n 1, 1) := by decide +kernel
theorem dL_law_264 : decode cL_law 264 = .ok (.aload_n 0, 1) := by decide +kernel
theorem dL_law_265 : decode cL_law 265 = .ok (.iload_n 3, 1) := by decide +kernel
theorem dL_law_266 : decode cL_law 266 = .ok (.iconst 1, 1) := by decide +kernel
theorem dL_law_267 : decode cL_law 267 = .ok (.iadd, 1) := by decide +kernel
theorem dL_law_268 : decode cL_law 268 = .ok (.iaload, 1) := by decide +kernel
theorem dL_law_269 : decode cL_law 269 = .ok (.aload_n 0, 1) := by decide +kernel
theorem dL_law_270 : decode cL_law 270 = .ok (.iload_n 3, 1) := by decide +kernel
theorem dL_law_271 : decode cL_law 271 = .ok (.iconst 2, 1) := by decide +kernel
theorem dL_law_272 : decode cL_law 272 = .ok (.iadd, 1) := by decide +kernel
theorem dL_law_273 : decode cL_law 273 = .ok (.iaload, 1) := by decide +kernel
theorem dL_law_274 : decode cL_law 274 = .ok (.invokevirtual 28, 3) := by decide +kernel
theorem dL_law_277 : decode cL_law 277 = .ok (.aload_n 2, 1) := by decide +kernel
theorem dL_law_278 : decode cL_law 278 = .ok (.aload_n 0, 1) := by decide +kernel
theorem dL_law_279 : decode cL_law 279 = .ok (.iload_n 3, 1) := by decide +kernel
theorem dL_law_280 : decode cL_law 280 = .ok (.iconst 1, 1) := by decide +kernel
theorem dL_law_281 : decode cL_law 281 = .ok (.iadd, 1) := by decide +kernel
theorem dL_law_282 : decode cL_law 282 = .ok (.iaload, 1) := by decide +kernel
theorem dL_law_283 : decode cL_law 283 = .ok (.aload_n 0, 1) := by decide +kernel
theorem dL_law_284 : decode cL_law 284 = .ok (.iload_n 3, 1) := by decide +kernel
theorem dL_law_285 : decode cL_law 285 = .ok (.iconst 2, 1) := by decide +kernel
theorem dL_law_286 : decode cL_law 286 = .ok (.iadd, 1) := by decide +kernel
theorem dL_law_287 : decode cL_law 287 = .ok (.iaload, 1) := by decide +kernel
theorem dL_law_288 : decode cL_law 288 = .ok (.invokevirtual 32, 3) := by decide +kernel
theorem dL_law_291 : decode cL_law 291 = .ok (.if_icmp .eq 466, 3) := by decide +kernel
theorem dL_law_294 : decode cL_law 294 = .ok (.iconst 0, 1) := by decide +kernel
theorem dL_law_295 : decode cL_law 295 = .ok (.ireturn, 1) := by decide +kernel
theorem dL_law_296 : decode cL_law 296 = .ok (.aload_n 1, 1) := by decide +kernel
theorem dL_law_297 : decode cL_law 297 = .ok (.invokevirtual 33, 3) := by decide +kernel
theorem dL_law_300 : decode cL_law 300 = .ok (.aload_n 2, 1) := by decide +kernel
theorem dL_law_301 : decode cL_law 301 = .ok (.invokevirtual 37, 3) := by decide +kernel
theorem dL_law_304 : decode cL_law 304 = .ok (.if_icmp .eq 453, 3) := by decide +kernel
theorem dL_law_307 : decode cL_law 307 = .ok (.iconst 0, 1) := by decide +kernel
theorem dL_law_308 : decode cL_law 308 = .ok (.ireturn, 1) := by decide +kernel
theorem dL_law_309 : decode cL_law 309 = .ok (.aload_n 1, 1) := by decide +kernel
theorem dL_law_310 : decode cL_law 310 = .ok (.aload_n 0, 1) := by decide +kernel
theorem dL_law_311 : decode cL_law 311 = .ok (.iload_n 3, 1) := by decide +kernel
theorem dL_law_312 : decode cL_law 312 = .ok (.iconst 1, 1) := by decide +kernel
theorem dL_law_313 : decode cL_law 313 = .ok (.iadd, 1) := by decide +kernel
theorem dL_law_314 : decode cL_law 314 = .ok (.iaload, 1) := by decide +kernel
theorem dL_law_315 : decode cL_law 315 = .ok (.aload_n 0, 1) := by decide +kernel
theorem dL_law_316 : decode cL_law 316 = .ok (.iload_n 3, 1) := by decide +kernel
theorem dL_law_317 : decode cL_law 317 = .ok (.iconst 2, 1) := by decide +kernel
theorem dL_law_318 : decode cL_law 318 = .ok (.iadd, 1) := by decide +kernel
theorem dL_law_319 : decode cL_law 319 = .ok (.iaload, 1) := by decide +kernel
theorem dL_law_320 : decode cL_law 320 = .ok (.invokevirtual 38, 3) := by decide +kernel
theorem dL_law_323 : decode cL_law 323 = .ok (.aload_n 2, 1) := by decide +kernel
theorem dL_law_324 : decode cL_law 324 = .ok (.aload_n 0, 1) := by decide +kernel
theorem dL_law_325 : decode cL_law 325 = .ok (.iload_n 3, 1) := by decide +kernel
theorem dL_law_326 : decode cL_law 326 = .ok (.iconst 1, 1) := by decide +kernel
theorem dL_law_327 : decode cL_law 327 = .ok (.iadd, 1) := by decide +kernel
theorem dL_law_328 : decode cL_law 328 = .ok (.iaload, 1) := by decide +kernel
theorem dL_law_329 : decode cL_law 329 = .ok (.aload_n 0, 1) := by decide +kernel
theorem dL_law_330 : decode cL_law 330 = .ok (.iload_n 3, 1) := by decide +kernel
theorem dL_law_331 : decode cL_law 331 = .ok (.iconst 2, 1) := by decide +kernel
theorem dL_law_332 : decode cL_law 332 = .ok (.iadd, 1) := by decide +kernel
theorem dL_law_333 : decode cL_law 333 = .ok (.iaload, 1) := by decide +kernel
theorem dL_law_334 : decode cL_law 334 = .ok (.invokevirtual 41, 3) := by decide +kernel
theorem dL_law_337 : decode cL_law 337 = .ok (.if_icmp .eq 420, 3) := by decide +kernel
theorem dL_law_340 : decode cL_law 340 = .ok (.iconst 0, 1) := by decide +kernel
theorem dL_law_341 : decode cL_law 341 = .ok (.ireturn, 1) := by decide +kernel
theorem dL_law_342 : decode cL_law 342 = .ok (.aload_n 1, 1) := by decide +kernel
theorem dL_law_343 : decode cL_law 343 = .ok (.aload_n 0, 1) := by decide +kernel
theorem dL_law_344 : decode cL_law 344 = .ok (.iload_n 3, 1) := by decide +kernel
theorem dL_law_345 : decode cL_law 345 = .ok (.iconst 1, 1) := by decide +kernel
theorem dL_law_346 : decode cL_law 346 = .ok (.iadd, 1) := by decide +kernel
theorem dL_law_347 : decode cL_law 347 = .ok (.iaload, 1) := by decide +kernel
theorem dL_law_348 : decode cL_law 348 = .ok (.aload_n 0, 1) := by decide +kernel
theorem dL_law_349 : decode cL_law 349 = .ok (.iload_n 3, 1) := by decide +kernel
theorem dL_law_350 : decode cL_law 350 = .ok (.iconst 2, 1) := by decide +kernel
theorem dL_law_351 : decode cL_law 351 = .ok (.iadd, 1) := by decide +kernel
theorem dL_law_352 : decode cL_law 352 = .ok (.iaload, 1) := by decide +kernel
theorem dL_law_353 : decode cL_law 353 = .ok (.invokevirtual 42, 3) := by decide +kernel
theorem dL_law_356 : decode cL_law 356 = .ok (.aload_n 2, 1) := by decide +kernel
theorem dL_law_357 : decode cL_law 357 = .ok (.aload_n 0, 1) := by decide +kernel
theorem dL_law_358 : decode cL_law 358 = .ok (.iload_n 3, 1) := by decide +kernel
theorem dL_law_359 : decode cL_law 359 = .ok (.iconst 1, 1) := by decide +kernel
theorem dL_law_360 : decode cL_law 360 = .ok (.iadd, 1) := by decide +kernel
theorem dL_law_361 : decode cL_law 361 = .ok (.iaload, 1) := by decide +kernel
theorem dL_law_362 : decode cL_law 362 = .ok (.aload_n 0, 1) := by decide +kernel
theorem dL_law_363 : decode cL_law 363 = .ok (.iload_n 3, 1) := by decide +kernel
theorem dL_law_364 : decode cL_law 364 = .ok (.iconst 2, 1) := by decide +kernel
theorem dL_law_365 : decode cL_law 365 = .ok (.iadd, 1) := by decide +kernel
theorem dL_law_366 : decode cL_law 366 = .ok (.iaload, 1) := by decide +kernel
theorem dL_law_367 : decode cL_law 367 = .ok (.invokevirtual 45, 3) := by decide +kernel
theorem dL_law_370 : decode cL_law 370 = .ok (.if_icmp .eq 387, 3) := by decide +kernel
theorem dL_law_373 : decode cL_law 373 = .ok (.iconst 0, 1) := by decide +kernel
theorem dL_law_374 : decode cL_law 374 = .ok (.ireturn, 1) := by decide +kernel
theorem dL_law_375 : decode cL_law 375 = .ok (.aload_n 1, 1) := by decide +kernel
theorem dL_law_376 : decode cL_law 376 = .ok (.aload_n 0, 1) := by decide +kernel
theorem dL_law_377 : decode cL_law 377 = .ok (.iload_n 3, 1) := by decide +kernel
theorem dL_law_378 : decode cL_law 378 = .ok (.iconst 1, 1) := by decide +kernel
theorem dL_law_379 : decode cL_law 379 = .ok (.iadd, 1) := by decide +kernel
theorem dL_law_380 : decode cL_law 380 = .ok (.iaload, 1) := by decide +kernel
theorem dL_law_381 : decode cL_law 381 = .ok (.aload_n 0, 1) := by decide +kernel
theorem dL_law_382 : decode cL_law 382 = .ok (.iload_n 3, 1) := by decide +kernel
theorem dL_law_383 : decode cL_law 383 = .ok (.iconst 2, 1) := by decide +kernel
theorem dL_law_384 : decode cL_law 384 = .ok (.iadd, 1) := by decide +kernel
theorem dL_law_385 : decode cL_law 385 = .ok (.iaload, 1) := by decide +kernel
theorem dL_law_386 : decode cL_law 386 = .ok (.invokevirtual 46, 3) := by decide +kernel
theorem dL_law_389 : decode cL_law 389 = .ok (.aload_n 2, 1) := by decide +kernel
theorem dL_law_390 : decode cL_law 390 = .ok (.aload_n 0, 1) := by decide +kernel
theorem dL_law_391 : decode cL_law 391 = .ok (.iload_n 3, 1) := by decide +kernel
theorem dL_law_392 : decode cL_law 392 = .ok (.iconst 1, 1) := by decide +kernel
theorem dL_law_393 : decode cL_law 393 = .ok (.iadd, 1) := by decide +kernel
theorem dL_law_394 : decode cL_law 394 = .ok (.iaload, 1) := by decide +kernel
theorem dL_law_395 : decode cL_law 395 = .ok (.aload_n 0, 1) := by decide +kernel
theorem dL_law_396 : decode cL_law 396 = .ok (.iload_n 3, 1) := by decide +kernel
theorem dL_law_397 : decode cL_law 397 = .ok (.iconst 2, 1) := by decide +kernel
theorem dL_law_398 : decode cL_law 398 = .ok (.iadd, 1) := by decide +kernel
theorem dL_law_399 : decode cL_law 399 = .ok (.iaload, 1) := by decide +kernel
theorem dL_law_400 : decode cL_law 400 = .ok (.invokevirtual 49, 3) := by decide +kernel
theorem dL_law_403 : decode cL_law 403 = .ok (.if_icmp .eq 354, 3) := by decide +kernel
theorem dL_law_406 : decode cL_law 406 = .ok (.iconst 0, 1) := by decide +kernel
theorem dL_law_407 : decode cL_law 407 = .ok (.ireturn, 1) := by decide +kernel
theorem dL_law_408 : decode cL_law 408 = .ok (.aload_n 1, 1) := by decide +kernel
theorem dL_law_409 : decode cL_law 409 = .ok (.aload_n 0, 1) := by decide +kernel
theorem dL_law_410 : decode cL_law 410 = .ok (.iload_n 3, 1) := by decide +kernel
theorem dL_law_411 : decode cL_law 411 = .ok (.iconst 1, 1) := by decide +kernel
theorem dL_law_412 : decode cL_law 412 = .ok (.iadd, 1) := by decide +kernel
theorem dL_law_413 : decode cL_law 413 = .ok (.iaload, 1) := by decide +kernel
theorem dL_law_414 : decode cL_law 414 = .ok (.aload_n 0, 1) := by decide +kernel
theorem dL_law_415 : decode cL_law 415 = .ok (.iload_n 3, 1) := by decide +kernel
theorem dL_law_416 : decode cL_law 416 = .ok (.iconst 2, 1) := by decide +kernel
theorem dL_law_417 : decode cL_law 417 = .ok (.iadd, 1) := by decide +kernel
theorem dL_law_418 : decode cL_law 418 = .ok (.iaload, 1) := by decide +kernel
theorem dL_law_419 : decode cL_law 419 = .ok (.invokevirtual 50, 3) := by decide +kernel
theorem dL_law_422 : decode cL_law 422 = .ok (.aload_n 2, 1) := by decide +kernel
theorem dL_law_423 : decode cL_law 423 = .ok (.aload_n 0, 1) := by decide +kernel
theorem dL_law_424 : decode cL_law 424 = .ok (.iload_n 3, 1) := by decide +kernel
theorem dL_law_425 : decode cL_law 425 = .ok (.iconst 1, 1) := by decide +kernel
theorem dL_law_426 : decode cL_law 426 = .ok (.iadd, 1) := by decide +kernel
theorem dL_law_427 : decode cL_law 427 = .ok (.iaload, 1) := by decide +kernel
theorem dL_law_428 : decode cL_law 428 = .ok (.aload_n 0, 1) := by decide +kernel
theorem dL_law_429 : decode cL_law 429 = .ok (.iload_n 3, 1) := by decide +kernel
theorem dL_law_430 : decode cL_law 430 = .ok (.iconst 2, 1) := by decide +kernel
theorem dL_law_431 : decode cL_law 431 = .ok (.iadd, 1) := by decide +kernel
theorem dL_law_432 : decode cL_law 432 = .ok (.iaload, 1) := by decide +kernel
theorem dL_law_433 : decode cL_law 433 = .ok (.invokevirtual 53, 3) := by decide +kernel
theorem dL_law_436 : decode cL_law 436 = .ok (.if_icmp .eq 321, 3) := by decide +kernel
theorem dL_law_439 : decode cL_law 439 = .ok (.iconst 0, 1) := by decide +kernel
theorem dL_law_440 : decode cL_law 440 = .ok (.ireturn, 1) := by decide +kernel
theorem dL_law_441 : decode cL_law 441 = .ok (.aload_n 1, 1) := by decide +kernel
theorem dL_law_442 : decode cL_law 442 = .ok (.aload_n 0, 1) := by decide +kernel
theorem dL_law_443 : decode cL_law 443 = .ok (.iload_n 3, 1) := by decide +kernel
theorem dL_law_444 : decode cL_law 444 = .ok (.iconst 1, 1) := by decide +kernel
theorem dL_law_445 : decode cL_law 445 = .ok (.iadd, 1) := by decide +kernel
theorem dL_law_446 : decode cL_law 446 = .ok (.iaload, 1) := by decide +kernel
theorem dL_law_447 : decode cL_law 447 = .ok (.invokevirtual 54, 3) := by decide +kernel
theorem dL_law_450 : decode cL_law 450 = .ok (.aload_n 2, 1) := by decide +kernel
theorem dL_law_451 : decode cL_law 451 = .ok (.aload_n 0, 1) := by decide +kernel
theorem dL_law_452 : decode cL_law 452 = .ok (.iload_n 3, 1) := by decide +kernel
theorem dL_law_453 : decode cL_law 453 = .ok (.iconst 1, 1) := by decide +kernel
theorem dL_law_454 : decode cL_law 454 = .ok (.iadd, 1) := by decide +kernel
theorem dL_law_455 : decode cL_law 455 = .ok (.iaload, 1) := by decide +kernel
theorem dL_law_456 : decode cL_law 456 = .ok (.invokevirtual 57, 3) := by decide +kernel
theorem dL_law_459 : decode cL_law 459 = .ok (.if_icmp .eq 298, 3) := by decide +kernel
theorem dL_law_462 : decode cL_law 462 = .ok (.iconst 0, 1) := by decide +kernel
theorem dL_law_463 : decode cL_law 463 = .ok (.ireturn, 1) := by decide +kernel
theorem dL_law_464 : decode cL_law 464 = .ok (.aload_n 1, 1) := by decide +kernel
theorem dL_law_465 : decode cL_law 465 = .ok (.aload_n 0, 1) := by decide +kernel
theorem dL_law_466 : decode cL_law 466 = .ok (.iload_n 3, 1) := by decide +kernel
theorem dL_law_467 : decode cL_law 467 = .ok (.iconst 1, 1) := by decide +kernel
theorem dL_law_468 : decode cL_law 468 = .ok (.iadd, 1) := by decide +kernel
theorem dL_law_469 : decode cL_law 469 = .ok (.iaload, 1) := by decide +kernel
theorem dL_law_470 : decode cL_law 470 = .ok (.aload_n 0, 1) := by decide +kernel
theorem dL_law_471 : decode cL_law 471 = .ok (.iload_n 3, 1) := by decide +kernel
theorem dL_law_472 : decode cL_law 472 = .ok (.iconst 2, 1) := by decide +kernel
theorem dL_law_473 : decode cL_law 473 = .ok (.iadd, 1) := by decide +kernel
theorem dL_law_474 : decode cL_law 474 = .ok (.iaload, 1) := by decide +kernel
theorem dL_law_475 : decode cL_law 475 = .ok (.aload_n 0, 1) := by decide +kernel
theorem dL_law_476 : decode cL_law 476 = .ok (.iload_n 3, 1) := by decide +kernel
theorem dL_law_477 : decode cL_law 477 = .ok (.iconst 3, 1) := by decide +kernel
theorem dL_law_478 : decode cL_law 478 = .ok (.iadd, 1) := by decide +kernel
theorem dL_law_479 : decode cL_law 479 = .ok (.iaload, 1) := by decide +kernel
theorem dL_law_480 : decode cL_law 480 = .ok (.invokevirtual 58, 3) := by decide +kernel
theorem dL_law_483 : decode cL_law 483 = .ok (.aload_n 2, 1) := by decide +kernel
theorem dL_law_484 : decode cL_law 484 = .ok (.aload_n 0, 1) := by decide +kernel
theorem dL_law_485 : decode cL_law 485 = .ok (.iload_n 3, 1) := by decide +kernel
theorem dL_law_486 : decode cL_law 486 = .ok (.iconst 1, 1) := by decide +kernel
theorem dL_law_487 : decode cL_law 487 = .ok (.iadd, 1) := by decide +kernel
theorem dL_law_488 : decode cL_law 488 = .ok (.iaload, 1) := by decide +kernel
theorem dL_law_489 : decode cL_law 489 = .ok (.aload_n 0, 1) := by decide +kernel
theorem dL_law_490 : decode cL_law 490 = .ok (.iload_n 3, 1) := by decide +kernel
theorem dL_law_491 : decode cL_law 491 = .ok (.iconst 2, 1) := by decide +kernel
theorem dL_law_492 : decode cL_law 492 = .ok (.iadd, 1) := by decide +kernel
theorem dL_law_493 : decode cL_law 493 = .ok (.iaload, 1) := by decide +kernel
theorem dL_law_494 : decode cL_law 494 = .ok (.aload_n 0, 1) := by decide +kernel
theorem dL_law_495 : decode cL_law 495 = .ok (.iload_n 3, 1) := by decide +kernel
theorem dL_law_496 : decode cL_law 496 = .ok (.iconst 3, 1) := by decide +kernel
theorem dL_law_497 : decode cL_law 497 = .ok (.iadd, 1) := by decide +kernel
theorem dL_law_498 : decode cL_law 498 = .ok (.iaload, 1) := by decide +kernel
theorem dL_law_499 : decode cL_law 499 = .ok (.invokevirtual 61, 3) := by decide +kernel
theorem dL_law_502 : decode cL_law 502 = .ok (.if_icmp .eq 255, 3) := by decide +kernel
theorem dL_law_505 : decode cL_law 505 = .ok (.iconst 0, 1) := by decide +kernel
theorem dL_law_506 : decode cL_law 506 = .ok (.ireturn, 1) := by decide +kernel
theorem dL_law_507 : decode cL_law 507 = .ok (.aload_n 1, 1) := by decide +kernel
theorem dL_law_508 : decode cL_law 508 = .ok (.aload_n 0, 1) := by decide +kernel
theorem dL_law_509 : decode cL_law 509 = .ok (.iload_n 3, 1) := by decide +kernel
theorem dL_law_510 : decode cL_law 510 = .ok (.iconst 1, 1) := by decide +kernel
theorem dL_law_511 : decode cL_law 511 = .ok (.iadd, 1) := by decide +kernel
theorem dL_law_512 : decode cL_law 512 = .ok (.iaload, 1) := by decide +kernel
theorem dL_law_513 : decode cL_law 513 = .ok (.invokevirtual 62, 3) := by decide +kernel
theorem dL_law_516 : decode cL_law 516 = .ok (.aload_n 2, 1) := by decide +kernel
theorem dL_law_517 : decode cL_law 517 = .ok (.aload_n 0, 1) := by decide +kernel
theorem dL_law_518 : decode cL_law 518 = .ok (.iload_n 3, 1) := by decide +kernel
theorem dL_law_519 : decode cL_law 519 = .ok (.iconst 1, 1) := by decide +kernel
theorem dL_law_520 : decode cL_law 520 = .ok (.iadd, 1) := by decide +kernel
theorem dL_law_521 : decode cL_law 521 = .ok (.iaload, 1) := by decide +kernel
theorem dL_law_522 : decode cL_law 522 = .ok (.invokevirtual 65, 3) := by decide +kernel
theorem dL_law_525 : decode cL_law 525 = .ok (.if_icmp .eq 232, 3) := by decide +kernel
theorem dL_law_528 : decode cL_law 528 = .ok (.iconst 0, 1) := by decide +kernel
theorem dL_law_529 : decode cL_law 529 = .ok (.ireturn, 1) := by decide +kernel
theorem dL_law_530 : decode cL_law 530 = .ok (.aload_n 1, 1) := by decide +kernel
theorem dL_law_531 : decode cL_law 531 = .ok (.invokevirtual 66, 3) := by decide +kernel
theorem dL_law_534 : decode cL_law 534 = .ok (.aload_n 2, 1) := by decide +kernel
theorem dL_law_535 : decode cL_law 535 = .ok (.invokevirtual 69, 3) := by decide +kernel
theorem dL_law_538 : decode cL_law 538 = .ok (.if_icmp .eq 219, 3) := by decide +kernel
theorem dL_law_541 : decode cL_law 541 = .ok (.iconst 0, 1) := by decide +kernel
theorem dL_law_542 : decode cL_law 542 = .ok (.ireturn, 1) := by decide +kernel
theorem dL_law_543 : decode cL_law 543 = .ok (.aload_n 1, 1) := by decide +kernel
theorem dL_law_544 : decode cL_law 544 = .ok (.invokevirtual 70, 3) := by decide +kernel
theorem dL_law_547 : decode cL_law 547 = .ok (.aload_n 2, 1) := by decide +kernel
theorem dL_law_548 : decode cL_law 548 = .ok (.invokevirtual 73, 3) := by decide +kernel
theorem dL_law_551 : decode cL_law 551 = .ok (.if_icmp .eq 206, 3) := by decide +kernel
theorem dL_law_554 : decode cL_law 554 = .ok (.iconst 0, 1) := by decide +kernel
theorem dL_law_555 : decode cL_law 555 = .ok (.ireturn, 1) := by decide +kernel
theorem dL_law_556 : decode cL_law 556 = .ok (.aload_n 1, 1) := by decide +kernel
theorem dL_law_557 : decode cL_law 557 = .ok (.aload_n 0, 1) := by decide +kernel
theorem dL_law_558 : decode cL_law 558 = .ok (.iload_n 3, 1) := by decide +kernel
theorem dL_law_559 : decode cL_law 559 = .ok (.iconst 1, 1) := by decide +kernel
theorem dL_law_560 : decode cL_law 560 = .ok (.iadd, 1) := by decide +kernel
theorem dL_law_561 : decode cL_law 561 = .ok (.iaload, 1) := by decide +kernel
theorem dL_law_562 : decode cL_law 562 = .ok (.invokevirtual 74, 3) := by decide +kernel
theorem dL_law_565 : decode cL_law 565 = .ok (.aload_n 2, 1) := by decide +kernel
theorem dL_law_566 : decode cL_law 566 = .ok (.aload_n 0, 1) := by decide +kernel
theorem dL_law_567 : decode cL_law 567 = .ok (.iload_n 3, 1) := by decide +kernel
theorem dL_law_568 : decode cL_law 568 = .ok (.iconst 1, 1) := by decide +kernel
theorem dL_law_569 : decode cL_law 569 = .ok (.iadd, 1) := by decide +kernel
theorem dL_law_570 : decode cL_law 570 = .ok (.iaload, 1) := by decide +kernel
theorem dL_law_571 : decode cL_law 571 = .ok (.invokevirtual 77, 3) := by decide +kernel
theorem dL_law_574 : decode cL_law 574 = .ok (.if_icmp .eq 183, 3) := by decide +kernel
theorem dL_law_577 : decode cL_law 577 = .ok (.iconst 0, 1) := by decide +kernel
theorem dL_law_578 : decode cL_law 578 = .ok (.ireturn, 1) := by decide +kernel
theorem dL_law_579 : decode cL_law 579 = .ok (.aload_n 1, 1) := by decide +kernel
theorem dL_law_580 : decode cL_law 580 = .ok (.aload_n 0, 1) := by decide +kernel
theorem dL_law_581 : decode cL_law 581 = .ok (.iload_n 3, 1) := by decide +kernel
theorem dL_law_582 : decode cL_law 582 = .ok (.iconst 1, 1) := by decide +kernel
theorem dL_law_583 : decode cL_law 583 = .ok (.iadd, 1) := by decide +kernel
theorem dL_law_584 : decode cL_law 584 = .ok (.iaload, 1) := by decide +kernel
theorem dL_law_585 : decode cL_law 585 = .ok (.aload_n 0, 1) := by decide +kernel
theorem dL_law_586 : decode cL_law 586 = .ok (.iload_n 3, 1) := by decide +kernel
theorem dL_law_587 : decode cL_law 587 = .ok (.iconst 2, 1) := by decide +kernel
theorem dL_law_588 : decode cL_law 588 = .ok (.iadd, 1) := by decide +kernel
theorem dL_law_589 : decode cL_law 589 = .ok (.iaload, 1) := by decide +kernel
theorem dL_law_590 : decode cL_law 590 = .ok (.aload_n 0, 1) := by decide +kernel
theorem dL_law_591 : decode cL_law 591 = .ok (.iload_n 3, 1) := by decide +kernel
theorem dL_law_592 : decode cL_law 592 = .ok (.iconst 3, 1) := by decide +kernel
theorem dL_law_593 : decode cL_law 593 = .ok (.iadd, 1) := by decide +kernel
theorem dL_law_594 : decode cL_law 594 = .ok (.iaload, 1) := by decide +kernel
theorem dL_law_595 : decode cL_law 595 = .ok (.invokevirtual 78, 3) := by decide +kernel
theorem dL_law_598 : decode cL_law 598 = .ok (.aload_n 2, 1) := by decide +kernel
theorem dL_law_599 : decode cL_law 599 = .ok (.aload_n 0, 1) := by decide +kernel
theorem dL_law_600 : decode cL_law 600 = .ok (.iload_n 3, 1) := by decide +kernel
theorem dL_law_601 : decode cL_law 601 = .ok (.iconst 1, 1) := by decide +kernel
theorem dL_law_602 : decode cL_law 602 = .ok (.iadd, 1) := by decide +kernel
theorem dL_law_603 : decode cL_law 603 = .ok (.iaload, 1) := by decide +kernel
theorem dL_law_604 : decode cL_law 604 = .ok (.aload_n 0, 1) := by decide +kernel
theorem dL_law_605 : decode cL_law 605 = .ok (.iload_n 3, 1) := by decide +kernel
theorem dL_law_606 : decode cL_law 606 = .ok (.iconst 2, 1) := by decide +kernel
theorem dL_law_607 : decode cL_law 607 = .ok (.iadd, 1) := by decide +kernel
theorem dL_law_608 : decode cL_law 608 = .ok (.iaload, 1) := by decide +kernel
theorem dL_law_609 : decode cL_law 609 = .ok (.aload_n 0, 1) := by decide +kernel
theorem dL_law_610 : decode cL_law 610 = .ok (.iload_n 3, 1) := by decide +kernel
theorem dL_law_611 : decode cL_law 611 = .ok (.iconst 3, 1) := by decide +kernel
theorem dL_law_612 : decode cL_law 612 = .ok (.iadd, 1) := by decide +kernel
theorem dL_law_613 : decode cL_law 613 = .ok (.iaload, 1) := by decide +kernel
theorem dL_law_614 : decode cL_law 614 = .ok (.invokevirtual 81, 3) := by decide +kernel
theorem dL_law_617 : decode cL_law 617 = .ok (.if_icmp .eq 140, 3) := by decide +kernel
theorem dL_law_620 : decode cL_law 620 = .ok (.iconst 0, 1) := by decide +kernel
theorem dL_law_621 : decode cL_law 621 = .ok (.ireturn, 1) := by decide +kernel
theorem dL_law_622 : decode cL_law 622 = .ok (.aload_n 1, 1) := by decide +kernel
theorem dL_law_623 : decode cL_law 623 = .ok (.aload_n 0, 1) := by decide +kernel
theorem dL_law_624 : decode cL_law 624 = .ok (.iload_n 3, 1) := by decide +kernel
theorem dL_law_625 : decode cL_law 625 = .ok (.iconst 1, 1) := by decide +kernel
theorem dL_law_626 : decode cL_law 626 = .ok (.iadd, 1) := by decide +kernel
theorem dL_law_627 : decode cL_law 627 = .ok (.iaload, 1) := by decide +kernel
theorem dL_law_628 : decode cL_law 628 = .ok (.invokevirtual 82, 3) := by decide +kernel
theorem dL_law_631 : decode cL_law 631 = .ok (.aload_n 2, 1) := by decide +kernel
theorem dL_law_632 : decode cL_law 632 = .ok (.aload_n 0, 1) := by decide +kernel
theorem dL_law_633 : decode cL_law 633 = .ok (.iload_n 3, 1) := by decide +kernel
theorem dL_law_634 : decode cL_law 634 = .ok (.iconst 1, 1) := by decide +kernel
theorem dL_law_635 : decode cL_law 635 = .ok (.iadd, 1) := by decide +kernel
theorem dL_law_636 : decode cL_law 636 = .ok (.iaload, 1) := by decide +kernel
theorem dL_law_637 : decode cL_law 637 = .ok (.invokevirtual 85, 3) := by decide +kernel
theorem dL_law_640 : decode cL_law 640 = .ok (.if_icmp .eq 117, 3) := by decide +kernel
theorem dL_law_643 : decode cL_law 643 = .ok (.iconst 0, 1) := by decide +kernel
theorem dL_law_644 : decode cL_law 644 = .ok (.ireturn, 1) := by decide +kernel
theorem dL_law_645 : decode cL_law 645 = .ok (.aload_n 1, 1) := by decide +kernel
theorem dL_law_646 : decode cL_law 646 = .ok (.invokevirtual 86, 3) := by decide +kernel
theorem dL_law_649 : decode cL_law 649 = .ok (.aload_n 2, 1) := by decide +kernel
theorem dL_law_650 : decode cL_law 650 = .ok (.invokevirtual 89, 3) := by decide +kernel
theorem dL_law_653 : decode cL_law 653 = .ok (.if_icmp .eq 104, 3) := by decide +kernel
theorem dL_law_656 : decode cL_law 656 = .ok (.iconst 0, 1) := by decide +kernel
theorem dL_law_657 : decode cL_law 657 = .ok (.ireturn, 1) := by decide +kernel
theorem dL_law_658 : decode cL_law 658 = .ok (.aload_n 1, 1) := by decide +kernel
theorem dL_law_659 : decode cL_law 659 = .ok (.aload_n 0, 1) := by decide +kernel
theorem dL_law_660 : decode cL_law 660 = .ok (.iload_n 3, 1) := by decide +kernel
theorem dL_law_661 : decode cL_law 661 = .ok (.iconst 1, 1) := by decide +kernel
theorem dL_law_662 : decode cL_law 662 = .ok (.iadd, 1) := by decide +kernel
theorem dL_law_663 : decode cL_law 663 = .ok (.iaload, 1) := by decide +kernel
theorem dL_law_664 : decode cL_law 664 = .ok (.invokevirtual 90, 3) := by decide +kernel
theorem dL_law_667 : decode cL_law 667 = .ok (.aload_n 2, 1) := by decide +kernel
theorem dL_law_668 : decode cL_law 668 = .ok (.aload_n 0, 1) := by decide +kernel
theorem dL_law_669 : decode cL_law 669 = .ok (.iload_n 3, 1) := by decide +kernel
theorem dL_law_670 : decode cL_law 670 = .ok (.iconst 1, 1) := by decide +kernel
theorem dL_law_671 : decode cL_law 671 = .ok (.iadd, 1) := by decide +kernel
theorem dL_law_672 : decode cL_law 672 = .ok (.iaload, 1) := by decide +kernel
theorem dL_law_673 : decode cL_law 673 = .ok (.invokevirtual 93, 3) := by decide +kernel
theorem dL_law_676 : decode cL_law 676 = .ok (.if_icmp .eq 81, 3) := by decide +kernel
theorem dL_law_679 : decode cL_law 679 = .ok (.iconst 0, 1) := by decide +kernel
theorem dL_law_680 : decode cL_law 680 = .ok (.ireturn, 1) := by decide +kernel
theorem dL_law_681 : decode cL_law 681 = .ok (.aload_n 1, 1) := by decide +kernel
theorem dL_law_682 : decode cL_law 682 = .ok (.invokevirtual 94, 3) := by decide +kernel
theorem dL_law_685 : decode cL_law 685 = .ok (.aload_n 2, 1) := by decide +kernel
theorem dL_law_686 : decode cL_law 686 = .ok (.invokevirtual 97, 3) := by decide +kernel
theorem dL_law_689 : decode cL_law 689 = .ok (.if_icmp .eq 68, 3) := by decide +kernel
theorem dL_law_692 : decode cL_law 692 = .ok (.iconst 0, 1) := by decide +kernel
theorem dL_law_693 : decode cL_law 693 = .ok (.ireturn, 1) := by decide +kernel
theorem dL_law_694 : decode cL_law 694 = .ok (.aload_n 1, 1) := by decide +kernel
theorem dL_law_695 : decode cL_law 695 = .ok (.invokevirtual 98, 3) := by decide +kernel
theorem dL_law_698 : decode cL_law 698 = .ok (.aload_n 2, 1) := by decide +kernel
theorem dL_law_699 : decode cL_law 699 = .ok (.invokevirtual 101, 3) := by decide +kernel
theorem dL_law_702 : decode cL_law 702 = .ok (.if_icmp .eq 55, 3) := by decide +kernel
theorem dL_law_705 : decode cL_law 705 = .ok (.iconst 0, 1) := by decide +kernel
theorem dL_law_706 : decode cL_law 706 = .ok (.ireturn, 1) := by decide +kernel
theorem dL_law_707 : decode cL_law 707 = .ok (.aload_n 1, 1) := by decide +kernel
theorem dL_law_708 : decode cL_law 708 = .ok (.invokevirtual 102, 3) := by decide +kernel
theorem dL_law_711 : decode cL_law 711 = .ok (.aload_n 2, 1) := by decide +kernel
theorem dL_law_712 : decode cL_law 712 = .ok (.invokevirtual 105, 3) := by decide +kernel
theorem dL_law_715 : decode cL_law 715 = .ok (.if_icmp .eq 42, 3) := by decide +kernel
theorem dL_law_718 : decode cL_law 718 = .ok (.iconst 0, 1) := by decide +kernel
theorem dL_law_719 : decode cL_law 719 = .ok (.ireturn, 1) := by decide +kernel
theorem dL_law_720 : decode cL_law 720 = .ok (.aload_n 1, 1) := by decide +kernel
theorem dL_law_721 : decode cL_law 721 = .ok (.aload_n 0, 1) := by decide +kernel
theorem dL_law_722 : decode cL_law 722 = .ok (.iload_n 3, 1) := by decide +kernel
theorem dL_law_723 : decode cL_law 723 = .ok (.iconst 1, 1) := by decide +kernel
theorem dL_law_724 : decode cL_law 724 = .ok (.iadd, 1) := by decide +kernel
theorem dL_law_725 : decode cL_law 725 = .ok (.iaload, 1) := by decide +kernel
theorem dL_law_726 : decode cL_law 726 = .ok (.invokevirtual 106, 3) := by decide +kernel
theorem dL_law_729 : decode cL_law 729 = .ok (.aload_n 2, 1) := by decide +kernel
end
section
theorem dL_law_730 : decode cL_law 730 = .ok (.aload_n 0, 1) := by decide +kernel
theorem dL_law_731 : decode cL_law 731 = .ok (.iload_n 3, 1) := by decide +kernel
theorem dL_law_732 : decode cL_law 732 = .ok (.iconst 1, 1) := by decide +kernel
theorem dL_law_733 : decode cL_law 733 = .ok (.iadd, 1) := by decide +kernel
theorem dL_law_734 : decode cL_law 734 = .ok (.iaload, 1) := by decide +kernel
theorem dL_law_735 : decode cL_law 735 = .ok (.invokevirtual 109, 3) := by decide +kernel
theorem dL_law_738 : decode cL_law 738 = .ok (.if_icmp .eq 19, 3) := by decide +kernel
theorem dL_law_741 : decode cL_law 741 = .ok (.iconst 0, 1) := by decide +kernel
theorem dL_law_742 : decode cL_law 742 = .ok (.ireturn, 1) := by decide +kernel
theorem dL_law_743 : decode cL_law 743 = .ok (.aload_n 1, 1) := by decide +kernel
theorem dL_law_744 : decode cL_law 744 = .ok (.invokevirtual 110, 3) := by decide +kernel
theorem dL_law_747 : decode cL_law 747 = .ok (.aload_n 2, 1) := by decide +kernel
theorem dL_law_748 : decode cL_law 748 = .ok (.invokevirtual 114, 3) := by decide +kernel
theorem dL_law_751 : decode cL_law 751 = .ok (.lcmp, 1) := by decide +kernel
theorem dL_law_752 : decode cL_law 752 = .ok (.ifCond .eq 5, 3) := by decide +kernel
theorem dL_law_755 : decode cL_law 755 = .ok (.iconst 0, 1) := by decide +kernel
theorem dL_law_756 : decode cL_law 756 = .ok (.ireturn, 1) := by decide +kernel
theorem dL_law_757 : decode cL_law 757 = .ok (.iinc 3 5, 3) := by decide +kernel
theorem dL_law_760 : decode cL_law 760 = .ok (.goto (-742), 3) := by decide +kernel
theorem dL_law_763 : decode cL_law 763 = .ok (.iconst 1, 1) := by decide +kernel
theorem dL_law_764 : decode cL_law 764 = .ok (.ireturn, 1) := by decide +kernel
end
section
/-! The state of a world as numbers: fields, rows of ints, one row of longs; reads and writes; checks; joining of answers; loops by fuel. -/
abbrev St : Type := (Nat → Int32) × (Nat → Nat → Int32) × (Nat → Int64)
def gF (S : St) (k : Nat) : Int32 := S.1 k
def pF (S : St) (k : Nat) (v : Int32) : St := (fun j => if j = k then v else S.1 j, S.2)
def aR (S : St) (k : Nat) : Nat → Int32 := S.2.1 k
def aE (S : St) : Nat → Int64 := S.2.2
def gR (S : St) (k : Nat) (i : Int32) : Int32 := S.2.1 k i.toNatClampNeg
def pR (S : St) (k : Nat) (i v : Int32) : St := (S.1, fun j => if j = k then upd (S.2.1 k) i.toNatClampNeg v else S.2.1 j, S.2.2)
def gE (S : St) (i : Int32) : Int64 := S.2.2 i.toNatClampNeg
def pE (S : St) (i : Int32) (v : Int64) : St := (S.1, S.2.1, vp_updL S.2.2 i.toNatClampNeg v)
def pC (S : St) (d s : Nat) : St := (S.1, fun j => if j = d then va_cpy (S.2.1 s) (S.2.1 d) 0 0 64 else S.2.1 j, S.2.2)
def chk {α : Type} (i : Int32) (n : Nat) (k : Option α) : Option α := if i < 0 ∨ n ≤ i.toNatClampNeg then none else k
theorem chk_some {α : Type} {i : Int32} {n : Nat} {k : Option α} {o : α} (h : chk i n k = some o) : vp_in i n ∧ k = some o := by
  unfold chk at h
  by_cases hc : i < 0 ∨ n ≤ i.toNatClampNeg
  · rw [if_pos hc] at h; cases h
  · rw [if_neg hc] at h; exact ⟨hc, h⟩
theorem chk_ok {α : Type} {i : Int32} {n : Nat} {k : Option α} (h : vp_in i n) : chk i n k = k := if_neg h
def nz {α : Type} (y : Int32) (k : Option α) : Option α := if y = 0 then none else k
theorem nz_some {α : Type} {y : Int32} {k : Option α} {o : α} (h : nz y k = some o) : ¬ y = 0 ∧ k = some o := by
  unfold nz at h
  by_cases hc : y = 0
  · rw [if_pos hc] at h; cases h
  · rw [if_neg hc] at h; exact ⟨hc, h⟩
def nzl {α : Type} (y : Int64) (k : Option α) : Option α := if y = 0 then none else k
theorem nzl_some {α : Type} {y : Int64} {k : Option α} {o : α} (h : nzl y k = some o) : ¬ y = 0 ∧ k = some o := by
  unfold nzl at h
  by_cases hc : y = 0
  · rw [if_pos hc] at h; cases h
  · rw [if_neg hc] at h; exact ⟨hc, h⟩
def zb {α : Type} (v : Int32) (k : Option α) : Option α := if v = 0 ∨ v = 1 then k else none
theorem zb_some {α : Type} {v : Int32} {k : Option α} {o : α} (h : zb v k = some o) : narrow .boolean (.int v) = .int v ∧ k = some o := by
  unfold zb at h
  by_cases hc : v = 0 ∨ v = 1
  · rw [if_pos hc] at h
    refine ⟨?_, h⟩
    rcases hc with rfl | rfl <;> rfl
  · rw [if_neg hc] at h; cases h
theorem ip {α : Type} {P : Prop} {inst : Decidable P} {a b o : α} (h : P) (e : @ite α P inst a b = o) : a = o := by rw [if_pos h] at e; exact e
theorem inn {α : Type} {P : Prop} {inst : Decidable P} {a b o : α} (h : ¬ P) (e : @ite α P inst a b = o) : b = o := by rw [if_neg h] at e; exact e
theorem in_lit {i : Int32} {n : Nat} (h : decide (¬ (i < 0 ∨ n ≤ i.toNatClampNeg)) = true) : vp_in i n := by
  have h2 : ¬ (i < 0 ∨ n ≤ i.toNatClampNeg) := of_decide_eq_true h
  exact h2
theorem kc6 {i : Int32} (h : vp_in i 6) : i.toNatClampNeg = 0 ∨ i.toNatClampNeg = 1 ∨ i.toNatClampNeg = 2 ∨ i.toNatClampNeg = 3 ∨ i.toNatClampNeg = 4 ∨ i.toNatClampNeg = 5 := by
  have hlt : i.toNatClampNeg < 6 := Nat.not_le.mp fun q => h (Or.inr q)
  omega
def rto {α : Type} (o : Option Int32) (f : Int32 → Option α) (k : Option α) : Option α := match o with
  | some r => f r
  | none => k
theorem rto_none {α : Type} {f : Int32 → Option α} {k : Option α} {o : α} (h : rto none f k = some o) : k = some o := h
def bq1 {A1 B : Type} (o : Option A1) (k : A1 → Option B) : Option B := match o with
  | some a1 => k a1
  | none => none
theorem bq1_some {A1 B : Type} {o : Option A1} {k : A1 → Option B} {r : B} (h : bq1 o k = some r) : ∃ a1, o = some a1 ∧ k a1 = some r := by
  cases o with
  | none => cases h
  | some a => exact ⟨a, rfl, h⟩
def bq2 {A1 A2 B : Type} (o : Option (A1 × A2)) (k : A1 → A2 → Option B) : Option B := match o with
  | some (a1, a2) => k a1 a2
  | none => none
theorem bq2_some {A1 A2 B : Type} {o : Option (A1 × A2)} {k : A1 → A2 → Option B} {r : B} (h : bq2 o k = some r) : ∃ a1 a2, o = some (a1, a2) ∧ k a1 a2 = some r := by
  cases o with
  | none => cases h
  | some a => exact ⟨a.1, a.2, rfl, h⟩
def bq3 {A1 A2 A3 B : Type} (o : Option (A1 × A2 × A3)) (k : A1 → A2 → A3 → Option B) : Option B := match o with
  | some (a1, a2, a3) => k a1 a2 a3
  | none => none
theorem bq3_some {A1 A2 A3 B : Type} {o : Option (A1 × A2 × A3)} {k : A1 → A2 → A3 → Option B} {r : B} (h : bq3 o k = some r) : ∃ a1 a2 a3, o = some (a1, a2, a3) ∧ k a1 a2 a3 = some r := by
  cases o with
  | none => cases h
  | some a => exact ⟨a.1, a.2.1, a.2.2, rfl, h⟩
def bq4 {A1 A2 A3 A4 B : Type} (o : Option (A1 × A2 × A3 × A4)) (k : A1 → A2 → A3 → A4 → Option B) : Option B := match o with
  | some (a1, a2, a3, a4) => k a1 a2 a3 a4
  | none => none
theorem bq4_some {A1 A2 A3 A4 B : Type} {o : Option (A1 × A2 × A3 × A4)} {k : A1 → A2 → A3 → A4 → Option B} {r : B} (h : bq4 o k = some r) : ∃ a1 a2 a3 a4, o = some (a1, a2, a3, a4) ∧ k a1 a2 a3 a4 = some r := by
  cases o with
  | none => cases h
  | some a => exact ⟨a.1, a.2.1, a.2.2.1, a.2.2.2, rfl, h⟩
def bq5 {A1 A2 A3 A4 A5 B : Type} (o : Option (A1 × A2 × A3 × A4 × A5)) (k : A1 → A2 → A3 → A4 → A5 → Option B) : Option B := match o with
  | some (a1, a2, a3, a4, a5) => k a1 a2 a3 a4 a5
  | none => none
theorem bq5_some {A1 A2 A3 A4 A5 B : Type} {o : Option (A1 × A2 × A3 × A4 × A5)} {k : A1 → A2 → A3 → A4 → A5 → Option B} {r : B} (h : bq5 o k = some r) : ∃ a1 a2 a3 a4 a5, o = some (a1, a2, a3, a4, a5) ∧ k a1 a2 a3 a4 a5 = some r := by
  cases o with
  | none => cases h
  | some a => exact ⟨a.1, a.2.1, a.2.2.1, a.2.2.2.1, a.2.2.2.2, rfl, h⟩
def lp {σ : Type} (f : σ → Option (Bool × σ)) : Nat → σ → Option σ
  | 0, _ => none
  | n + 1, s => match f s with
    | none => none
    | some (b, s2) => if b = true then lp f n s2 else some s2
theorem lp_some {σ : Type} {f : σ → Option (Bool × σ)} {n : Nat} {s t : σ} (h : lp f (n + 1) s = some t) : ∃ (b : Bool) (u : σ), f s = some (b, u) ∧ (b = true → lp f n u = some t) ∧ (b = false → u = t) := by
  unfold lp at h
  cases hf : f s with
  | none => rw [hf] at h; cases h
  | some a =>
    obtain ⟨b, u⟩ := a
    rw [hf] at h
    refine ⟨b, u, rfl, fun hb => ?_, fun hb => ?_⟩
    · subst hb; exact h
    · subst hb; exact Option.some.inj h
def fu : Nat := 1000
/-! The words that all methods take along: those of the tables that stay good over calls. -/
def big : List Cond := lw_tbl.filter goodWord
theorem big_at {w : Cond} (i : Nat) (h : lw_tbl[i]? = some w) (hg : goodWord w = true) : w ∈ big := List.mem_filter.mpr ⟨List.mem_of_getElem? h, hg⟩
theorem big_good {ws : List Cond} (h : ∀ w ∈ ws, w ∈ big) : GoodIn big ws := fun w hw => ⟨h w hw, good_of_word (List.mem_filter.mp (h w hw)).2⟩
theorem gwV {own C : String} {idx maxL : Nat} {y : MethodName} {cc : ByteArray} {ret : Option FieldType} (h1 : Cond.methodLink own idx y ∈ big) (h2 : Cond.instanceMethod y ∈ big) (h3 : Cond.selects C y y ∈ big) (h4 : Cond.initialized C ∈ big) (h5 : Cond.code y cc maxL ret ∈ big) : GoodIn big (wsV own idx C y (Cond.code y cc maxL ret :: big)) := by
  refine big_good fun w hw => ?_
  unfold wsV at hw
  rcases List.mem_append.mp hw with h | h
  · simp only [List.mem_cons, List.not_mem_nil, or_false] at h
    rcases h with rfl | rfl | rfl | rfl <;> assumption
  · rcases List.mem_cons.mp h with rfl | h
    · exact h5
    · exact h
theorem gwS {own : String} {idx maxL : Nat} {y : MethodName} {cc : ByteArray} {ret : Option FieldType} (h1 : Cond.methodLink own idx y ∈ big) (h2 : Cond.static y ∈ big) (h4 : Cond.initialized y.cls ∈ big) (h5 : Cond.code y cc maxL ret ∈ big) : GoodIn big (va_wsS own idx y (Cond.code y cc maxL ret :: big)) := by
  refine big_good fun w hw => ?_
  unfold va_wsS at hw
  rcases List.mem_append.mp hw with h | h
  · simp only [List.mem_cons, List.not_mem_nil, or_false] at h
    rcases h with rfl | rfl | rfl <;> assumption
  · rcases List.mem_cons.mp h with rfl | h
    · exact h5
    · exact h
abbrev xG : Type := va_G × (Nat → ClassId) × (Nat → Nat)
end
section
theorem wd_0 : Cond.selects RX6 yX6_refuse yX6_refuse ∈ big := big_at 0 (by decide +kernel) (by decide +kernel)
theorem wd_1 : Cond.selects RX5 yX5_addLeg yX5_addLeg ∈ big := big_at 1 (by decide +kernel) (by decide +kernel)
theorem wd_2 : Cond.selects RX6 yX6_factOf yX6_factOf ∈ big := big_at 2 (by decide +kernel) (by decide +kernel)
theorem wd_3 : Cond.selects RX6 yX6_tallyWays yX6_tallyWays ∈ big := big_at 3 (by decide +kernel) (by decide +kernel)
theorem wd_4 : Cond.selects RX6 yX6_loadsFact yX6_loadsFact ∈ big := big_at 4 (by decide +kernel) (by decide +kernel)
theorem wd_5 : Cond.selects RX6 yX6_tallyMean yX6_tallyMean ∈ big := big_at 5 (by decide +kernel) (by decide +kernel)
theorem wd_6 : Cond.selects RX6 yX6_addDrawn yX6_addDrawn ∈ big := big_at 6 (by decide +kernel) (by decide +kernel)
theorem wd_7 : Cond.selects RX6 yX6_setFraction yX6_setFraction ∈ big := big_at 7 (by decide +kernel) (by decide +kernel)
theorem wd_8 : Cond.selects RX6 yX6_chooseBetween yX6_chooseBetween ∈ big := big_at 8 (by decide +kernel) (by decide +kernel)
theorem wd_9 : Cond.selects RX4 yX4_look yX4_look ∈ big := big_at 9 (by decide +kernel) (by decide +kernel)
theorem wd_10 : Cond.selects RX4 yX4_contest yX4_contest ∈ big := big_at 10 (by decide +kernel) (by decide +kernel)
theorem wd_11 : Cond.selects RX4 yX4_isAhead yX4_isAhead ∈ big := big_at 11 (by decide +kernel) (by decide +kernel)
theorem wd_12 : Cond.selects RX4 yX4_lead yX4_lead ∈ big := big_at 12 (by decide +kernel) (by decide +kernel)
theorem wd_13 : Cond.selects RX4 yX4_legOf yX4_legOf ∈ big := big_at 13 (by decide +kernel) (by decide +kernel)
theorem wd_14 : Cond.selects RX4 yX4_move yX4_move ∈ big := big_at 14 (by decide +kernel) (by decide +kernel)
theorem wd_15 : Cond.selects RX6 yX6_runFact yX6_runFact ∈ big := big_at 15 (by decide +kernel) (by decide +kernel)
theorem wd_16 : Cond.selects RX2 yX2_skipBlanks yX2_skipBlanks ∈ big := big_at 16 (by decide +kernel) (by decide +kernel)
theorem wd_17 : Cond.selects RX2 yX2_failAt yX2_failAt ∈ big := big_at 17 (by decide +kernel) (by decide +kernel)
theorem wd_18 : Cond.selects RX2 yX2_readParcel yX2_readParcel ∈ big := big_at 18 (by decide +kernel) (by decide +kernel)
theorem wd_19 : Cond.selects RX2 yX2_readNumber yX2_readNumber ∈ big := big_at 19 (by decide +kernel) (by decide +kernel)
theorem wd_20 : Cond.selects RX2 yX2_need yX2_need ∈ big := big_at 20 (by decide +kernel) (by decide +kernel)
theorem wd_21 : Cond.selects RX2 yX2_takes yX2_takes ∈ big := big_at 21 (by decide +kernel) (by decide +kernel)
theorem wd_22 : Cond.selects RX7 yX7_no yX7_no ∈ big := big_at 22 (by decide +kernel) (by decide +kernel)
theorem wd_23 : Cond.selects RX7 yX7_bad yX7_bad ∈ big := big_at 23 (by decide +kernel) (by decide +kernel)
theorem wd_24 : Cond.selects RX7 yX7_leavesState yX7_leavesState ∈ big := big_at 24 (by decide +kernel) (by decide +kernel)
theorem wd_25 : Cond.selects RX7 yX7_isCorner yX7_isCorner ∈ big := big_at 25 (by decide +kernel) (by decide +kernel)
theorem wd_26 : Cond.selects RX7 yX7_corners yX7_corners ∈ big := big_at 26 (by decide +kernel) (by decide +kernel)
theorem wd_27 : Cond.selects RX7 yX7_full yX7_full ∈ big := big_at 27 (by decide +kernel) (by decide +kernel)
theorem wd_28 : Cond.selects RX7 yX7_comes yX7_comes ∈ big := big_at 28 (by decide +kernel) (by decide +kernel)
theorem wd_29 : Cond.selects RX7 yX7_isParcel yX7_isParcel ∈ big := big_at 29 (by decide +kernel) (by decide +kernel)
theorem wd_30 : Cond.selects RX7 yX7_tells yX7_tells ∈ big := big_at 30 (by decide +kernel) (by decide +kernel)
theorem wd_31 : Cond.selects RX7 yX7_turned yX7_turned ∈ big := big_at 31 (by decide +kernel) (by decide +kernel)
theorem wd_32 : Cond.selects RX7 yX7_ofBy yX7_ofBy ∈ big := big_at 32 (by decide +kernel) (by decide +kernel)
theorem wd_33 : Cond.selects RX7 yX7_setWays yX7_setWays ∈ big := big_at 33 (by decide +kernel) (by decide +kernel)
theorem wd_34 : Cond.selects RX7 yX7_setWay yX7_setWay ∈ big := big_at 34 (by decide +kernel) (by decide +kernel)
theorem wd_35 : Cond.selects RX7 yX7_comesLeg yX7_comesLeg ∈ big := big_at 35 (by decide +kernel) (by decide +kernel)
theorem wd_36 : Cond.selects RX7 yX7_metBy yX7_metBy ∈ big := big_at 36 (by decide +kernel) (by decide +kernel)
theorem wd_37 : Cond.selects RX7 yX7_edgeOf yX7_edgeOf ∈ big := big_at 37 (by decide +kernel) (by decide +kernel)
theorem wd_38 : Cond.selects RX7 yX7_uses yX7_uses ∈ big := big_at 38 (by decide +kernel) (by decide +kernel)
theorem wd_39 : Cond.selects RX7 yX7_isEdge yX7_isEdge ∈ big := big_at 39 (by decide +kernel) (by decide +kernel)
theorem wd_40 : Cond.selects RX7 yX7_setLoads yX7_setLoads ∈ big := big_at 40 (by decide +kernel) (by decide +kernel)
theorem wd_41 : Cond.selects RX7 yX7_noLoads yX7_noLoads ∈ big := big_at 41 (by decide +kernel) (by decide +kernel)
theorem wd_42 : Cond.selects RX7 yX7_loadsBy yX7_loadsBy ∈ big := big_at 42 (by decide +kernel) (by decide +kernel)
theorem wd_43 : Cond.selects RX7 yX7_loadsTell yX7_loadsTell ∈ big := big_at 43 (by decide +kernel) (by decide +kernel)
theorem wd_44 : Cond.selects RX7 yX7_most yX7_most ∈ big := big_at 44 (by decide +kernel) (by decide +kernel)
theorem wd_45 : Cond.selects RX7 yX7_firstOf yX7_firstOf ∈ big := big_at 45 (by decide +kernel) (by decide +kernel)
theorem wd_46 : Cond.selects RX7 yX7_setExpected yX7_setExpected ∈ big := big_at 46 (by decide +kernel) (by decide +kernel)
theorem wd_47 : Cond.selects RX7 yX7_addsDrawn yX7_addsDrawn ∈ big := big_at 47 (by decide +kernel) (by decide +kernel)
theorem wd_48 : Cond.selects RX7 yX7_tellsPart yX7_tellsPart ∈ big := big_at 48 (by decide +kernel) (by decide +kernel)
theorem wd_49 : Cond.selects RX7 yX7_choosesFor yX7_choosesFor ∈ big := big_at 49 (by decide +kernel) (by decide +kernel)
theorem wd_50 : Cond.selects RX7 yX7_squares yX7_squares ∈ big := big_at 50 (by decide +kernel) (by decide +kernel)
theorem wd_51 : Cond.selects RX7 yX7_runTells yX7_runTells ∈ big := big_at 51 (by decide +kernel) (by decide +kernel)
theorem wd_52 : Cond.selects RX7 yX7_runs yX7_runs ∈ big := big_at 52 (by decide +kernel) (by decide +kernel)
theorem wd_53 : Cond.selects RX7 yX7_allHome yX7_allHome ∈ big := big_at 53 (by decide +kernel) (by decide +kernel)
theorem wd_54 : Cond.selects RX7 yX7_isHome yX7_isHome ∈ big := big_at 54 (by decide +kernel) (by decide +kernel)
theorem wd_55 : Cond.selects RX7 yX7_goesTick yX7_goesTick ∈ big := big_at 55 (by decide +kernel) (by decide +kernel)
theorem wd_56 : Cond.selects RX7 yX7_setGoing yX7_setGoing ∈ big := big_at 56 (by decide +kernel) (by decide +kernel)
theorem wd_57 : Cond.selects RX7 yX7_isAhead yX7_isAhead ∈ big := big_at 57 (by decide +kernel) (by decide +kernel)
theorem wd_58 : Cond.selects RX7 yX7_goesThrough yX7_goesThrough ∈ big := big_at 58 (by decide +kernel) (by decide +kernel)
theorem wd_59 : Cond.selects RX7 yX7_skips yX7_skips ∈ big := big_at 59 (by decide +kernel) (by decide +kernel)
theorem wd_60 : Cond.selects RX7 yX7_here yX7_here ∈ big := big_at 60 (by decide +kernel) (by decide +kernel)
theorem wd_61 : Cond.selects RX7 yX7_readsParcel yX7_readsParcel ∈ big := big_at 61 (by decide +kernel) (by decide +kernel)
theorem wd_62 : Cond.selects RX7 yX7_number yX7_number ∈ big := big_at 62 (by decide +kernel) (by decide +kernel)
theorem wd_63 : Cond.selects RX7 yX7_sign yX7_sign ∈ big := big_at 63 (by decide +kernel) (by decide +kernel)
theorem wd_64 : Cond.selects RX7 yX7_toldBy yX7_toldBy ∈ big := big_at 64 (by decide +kernel) (by decide +kernel)
theorem wd_66 : Cond.initialized RX6 ∈ big := big_at 66 (by decide +kernel) (by decide +kernel)
theorem wd_67 : Cond.initialized RX3 ∈ big := big_at 67 (by decide +kernel) (by decide +kernel)
theorem wd_68 : Cond.initialized RX0 ∈ big := big_at 68 (by decide +kernel) (by decide +kernel)
theorem wd_69 : Cond.initialized RX5 ∈ big := big_at 69 (by decide +kernel) (by decide +kernel)
theorem wd_70 : Cond.initialized RX1 ∈ big := big_at 70 (by decide +kernel) (by decide +kernel)
theorem wd_71 : Cond.initialized RX4 ∈ big := big_at 71 (by decide +kernel) (by decide +kernel)
theorem wd_72 : Cond.initialized RX2 ∈ big := big_at 72 (by decide +kernel) (by decide +kernel)
theorem wd_73 : Cond.initialized RX7 ∈ big := big_at 73 (by decide +kernel) (by decide +kernel)
theorem wd_74 : Cond.initialized "java/lang/System" ∈ big := big_at 74 (by decide +kernel) (by decide +kernel)
theorem wd_75 : Cond.initialized "java/lang/Math" ∈ big := big_at 75 (by decide +kernel) (by decide +kernel)
theorem wd_76 : Cond.initialized "java/util/Arrays" ∈ big := big_at 76 (by decide +kernel) (by decide +kernel)
theorem wd_91 : Cond.fieldLink RX3 9 "CubeLegs$Task" "sideCount" "I" ∈ big := big_at 91 (by decide +kernel) (by decide +kernel)
theorem wd_92 : Cond.fieldLink RX6 70 "CubeLegs$Task" "sideCount" "I" ∈ big := big_at 92 (by decide +kernel) (by decide +kernel)
theorem wd_93 : Cond.fieldLink RX5 43 "CubeLegs$Task" "sideCount" "I" ∈ big := big_at 93 (by decide +kernel) (by decide +kernel)
theorem wd_94 : Cond.fieldLink RX1 36 "CubeLegs$Task" "sideCount" "I" ∈ big := big_at 94 (by decide +kernel) (by decide +kernel)
theorem wd_95 : Cond.fieldLink RX3 15 "CubeLegs$Task" "order" "I" ∈ big := big_at 95 (by decide +kernel) (by decide +kernel)
theorem wd_96 : Cond.fieldLink RX5 46 "CubeLegs$Task" "order" "I" ∈ big := big_at 96 (by decide +kernel) (by decide +kernel)
theorem wd_97 : Cond.fieldLink RX6 96 "CubeLegs$Task" "order" "I" ∈ big := big_at 97 (by decide +kernel) (by decide +kernel)
theorem wd_98 : Cond.fieldLink RX3 18 "CubeLegs$Task" "rule" "I" ∈ big := big_at 98 (by decide +kernel) (by decide +kernel)
theorem wd_99 : Cond.fieldLink RX6 99 "CubeLegs$Task" "rule" "I" ∈ big := big_at 99 (by decide +kernel) (by decide +kernel)
theorem wd_100 : Cond.fieldLink RX3 21 "CubeLegs$Task" "count" "I" ∈ big := big_at 100 (by decide +kernel) (by decide +kernel)
theorem wd_101 : Cond.fieldLink RX5 25 "CubeLegs$Task" "count" "I" ∈ big := big_at 101 (by decide +kernel) (by decide +kernel)
theorem wd_102 : Cond.fieldLink RX6 73 "CubeLegs$Task" "count" "I" ∈ big := big_at 102 (by decide +kernel) (by decide +kernel)
theorem wd_103 : Cond.fieldLink RX4 58 "CubeLegs$Task" "count" "I" ∈ big := big_at 103 (by decide +kernel) (by decide +kernel)
theorem wd_104 : Cond.fieldLink RX3 24 "CubeLegs$Task" "traits" "[I" ∈ big := big_at 104 (by decide +kernel) (by decide +kernel)
theorem wd_126 : Cond.fieldLink RX0 9 "CubeLegs$History" "count" "I" ∈ big := big_at 126 (by decide +kernel) (by decide +kernel)
theorem wd_127 : Cond.fieldLink RX6 211 "CubeLegs$History" "count" "I" ∈ big := big_at 127 (by decide +kernel) (by decide +kernel)
theorem wd_128 : Cond.fieldLink RX0 15 "CubeLegs$History" "newest" "I" ∈ big := big_at 128 (by decide +kernel) (by decide +kernel)
theorem wd_129 : Cond.fieldLink RX0 20 "CubeLegs$History" "kept" "[LCubeLegs$Task;" ∈ big := big_at 129 (by decide +kernel) (by decide +kernel)
theorem wd_143 : Cond.fieldLink RX5 9 "CubeLegs$Ways" "edgeCount" "[I" ∈ big := big_at 143 (by decide +kernel) (by decide +kernel)
theorem wd_144 : Cond.fieldLink RX1 21 "CubeLegs$Ways" "edgeCount" "[I" ∈ big := big_at 144 (by decide +kernel) (by decide +kernel)
theorem wd_145 : Cond.fieldLink RX4 63 "CubeLegs$Ways" "edgeCount" "[I" ∈ big := big_at 145 (by decide +kernel) (by decide +kernel)
theorem wd_146 : Cond.fieldLink RX6 130 "CubeLegs$Ways" "edgeCount" "[I" ∈ big := big_at 146 (by decide +kernel) (by decide +kernel)
theorem wd_147 : Cond.fieldLink RX5 15 "CubeLegs$Ways" "firstLeg" "[I" ∈ big := big_at 147 (by decide +kernel) (by decide +kernel)
theorem wd_148 : Cond.fieldLink RX4 92 "CubeLegs$Ways" "firstLeg" "[I" ∈ big := big_at 148 (by decide +kernel) (by decide +kernel)
theorem wd_149 : Cond.fieldLink RX5 18 "CubeLegs$Ways" "edges" "[I" ∈ big := big_at 149 (by decide +kernel) (by decide +kernel)
theorem wd_150 : Cond.fieldLink RX5 21 "CubeLegs$Ways" "edgeSets" "[J" ∈ big := big_at 150 (by decide +kernel) (by decide +kernel)
theorem wd_167 : Cond.fieldLink RX1 9 "CubeLegs$Loads" "amounts" "[I" ∈ big := big_at 167 (by decide +kernel) (by decide +kernel)
theorem wd_168 : Cond.fieldLink RX6 143 "CubeLegs$Loads" "amounts" "[I" ∈ big := big_at 168 (by decide +kernel) (by decide +kernel)
theorem wd_178 : Cond.fieldLink RX4 33 "CubeLegs$Traffic" "ticks" "I" ∈ big := big_at 178 (by decide +kernel) (by decide +kernel)
theorem wd_179 : Cond.fieldLink RX6 181 "CubeLegs$Traffic" "ticks" "I" ∈ big := big_at 179 (by decide +kernel) (by decide +kernel)
theorem wd_180 : Cond.fieldLink RX4 37 "CubeLegs$Traffic" "mostWanting" "I" ∈ big := big_at 180 (by decide +kernel) (by decide +kernel)
theorem wd_181 : Cond.fieldLink RX6 244 "CubeLegs$Traffic" "mostWanting" "I" ∈ big := big_at 181 (by decide +kernel) (by decide +kernel)
theorem wd_182 : Cond.fieldLink RX4 9 "CubeLegs$Traffic" "home" "[I" ∈ big := big_at 182 (by decide +kernel) (by decide +kernel)
theorem wd_183 : Cond.fieldLink RX6 172 "CubeLegs$Traffic" "home" "[I" ∈ big := big_at 183 (by decide +kernel) (by decide +kernel)
theorem wd_184 : Cond.fieldLink RX4 15 "CubeLegs$Traffic" "delay" "[I" ∈ big := big_at 184 (by decide +kernel) (by decide +kernel)
theorem wd_185 : Cond.fieldLink RX6 175 "CubeLegs$Traffic" "delay" "[I" ∈ big := big_at 185 (by decide +kernel) (by decide +kernel)
theorem wd_186 : Cond.fieldLink RX4 18 "CubeLegs$Traffic" "gone" "[I" ∈ big := big_at 186 (by decide +kernel) (by decide +kernel)
theorem wd_187 : Cond.fieldLink RX6 178 "CubeLegs$Traffic" "gone" "[I" ∈ big := big_at 187 (by decide +kernel) (by decide +kernel)
theorem wd_188 : Cond.fieldLink RX4 21 "CubeLegs$Traffic" "came" "[I" ∈ big := big_at 188 (by decide +kernel) (by decide +kernel)
theorem wd_189 : Cond.fieldLink RX4 24 "CubeLegs$Traffic" "wanted" "[I" ∈ big := big_at 189 (by decide +kernel) (by decide +kernel)
theorem wd_190 : Cond.fieldLink RX4 27 "CubeLegs$Traffic" "wanting" "[I" ∈ big := big_at 190 (by decide +kernel) (by decide +kernel)
theorem wd_191 : Cond.fieldLink RX4 30 "CubeLegs$Traffic" "winner" "[I" ∈ big := big_at 191 (by decide +kernel) (by decide +kernel)
theorem wd_217 : Cond.fieldLink RX2 9 "CubeLegs$Reader" "size" "I" ∈ big := big_at 217 (by decide +kernel) (by decide +kernel)
theorem wd_218 : Cond.fieldLink RX6 194 "CubeLegs$Reader" "size" "I" ∈ big := big_at 218 (by decide +kernel) (by decide +kernel)
theorem wd_219 : Cond.fieldLink RX2 15 "CubeLegs$Reader" "fault" "I" ∈ big := big_at 219 (by decide +kernel) (by decide +kernel)
theorem wd_220 : Cond.fieldLink RX6 204 "CubeLegs$Reader" "fault" "I" ∈ big := big_at 220 (by decide +kernel) (by decide +kernel)
theorem wd_221 : Cond.fieldLink RX2 18 "CubeLegs$Reader" "found" "I" ∈ big := big_at 221 (by decide +kernel) (by decide +kernel)
theorem wd_222 : Cond.fieldLink RX6 207 "CubeLegs$Reader" "found" "I" ∈ big := big_at 222 (by decide +kernel) (by decide +kernel)
theorem wd_223 : Cond.fieldLink RX2 21 "CubeLegs$Reader" "place" "I" ∈ big := big_at 223 (by decide +kernel) (by decide +kernel)
theorem wd_224 : Cond.fieldLink RX2 24 "CubeLegs$Reader" "text" "[B" ∈ big := big_at 224 (by decide +kernel) (by decide +kernel)
theorem wd_225 : Cond.fieldLink RX2 28 "CubeLegs$Reader" "traits" "[I" ∈ big := big_at 225 (by decide +kernel) (by decide +kernel)
theorem wd_240 : Cond.fieldLink RX6 10 "CubeLegs" "task" "LCubeLegs$Task;" ∈ big := big_at 240 (by decide +kernel) (by decide +kernel)
theorem wd_241 : Cond.fieldLink RX6 19 "CubeLegs" "history" "LCubeLegs$History;" ∈ big := big_at 241 (by decide +kernel) (by decide +kernel)
theorem wd_242 : Cond.fieldLink RX6 26 "CubeLegs" "ways" "LCubeLegs$Ways;" ∈ big := big_at 242 (by decide +kernel) (by decide +kernel)
theorem wd_243 : Cond.fieldLink RX6 33 "CubeLegs" "tally" "LCubeLegs$Loads;" ∈ big := big_at 243 (by decide +kernel) (by decide +kernel)
theorem wd_244 : Cond.fieldLink RX6 40 "CubeLegs" "traffic" "LCubeLegs$Traffic;" ∈ big := big_at 244 (by decide +kernel) (by decide +kernel)
theorem wd_245 : Cond.fieldLink RX6 47 "CubeLegs" "reader" "LCubeLegs$Reader;" ∈ big := big_at 245 (by decide +kernel) (by decide +kernel)
theorem wd_246 : Cond.fieldLink RX6 51 "CubeLegs" "refused" "[I" ∈ big := big_at 246 (by decide +kernel) (by decide +kernel)
theorem wd_247 : Cond.fieldLink RX6 55 "CubeLegs" "above" "I" ∈ big := big_at 247 (by decide +kernel) (by decide +kernel)
theorem wd_248 : Cond.fieldLink RX6 59 "CubeLegs" "below" "I" ∈ big := big_at 248 (by decide +kernel) (by decide +kernel)
theorem wd_272 : Cond.methodLink RX6 62 yX6_refuse ∈ big := big_at 272 (by decide +kernel) (by decide +kernel)
theorem wd_274 : Cond.instanceMethod yX6_refuse ∈ big := big_at 274 (by decide +kernel) (by decide +kernel)
theorem wd_275 : Cond.code yX6_refuse cX6_refuse 3 (some .int) ∈ big := big_at 275 (by decide +kernel) (by decide +kernel)
theorem wd_276 : Cond.methodLink RX6 66 yX0_keep ∈ big := big_at 276 (by decide +kernel) (by decide +kernel)
theorem wd_277 : Cond.instanceMethod yX0_keep ∈ big := big_at 277 (by decide +kernel) (by decide +kernel)
theorem wd_278 : Cond.selects RX0 yX0_keep yX0_keep ∈ big := big_at 278 (by decide +kernel) (by decide +kernel)
theorem wd_279 : Cond.code yX0_keep cX0_keep 2 none ∈ big := big_at 279 (by decide +kernel) (by decide +kernel)
theorem wd_280 : Cond.methodLink RX0 25 yX3_take ∈ big := big_at 280 (by decide +kernel) (by decide +kernel)
theorem wd_281 : Cond.instanceMethod yX3_take ∈ big := big_at 281 (by decide +kernel) (by decide +kernel)
theorem wd_282 : Cond.selects RX3 yX3_take yX3_take ∈ big := big_at 282 (by decide +kernel) (by decide +kernel)
theorem wd_283 : Cond.code yX3_take cX3_take 2 none ∈ big := big_at 283 (by decide +kernel) (by decide +kernel)
theorem wd_284 : Cond.methodLink RX3 36 arraycopyName ∈ big := big_at 284 (by decide +kernel) (by decide +kernel)
theorem wd_285 : Cond.static arraycopyName ∈ big := big_at 285 (by decide +kernel) (by decide +kernel)
theorem wd_286 : Cond.native arraycopyName ∈ big := big_at 286 (by decide +kernel) (by decide +kernel)
theorem wd_287 : Cond.methodLink RX0 29 Lib.Math.min.name ∈ big := big_at 287 (by decide +kernel) (by decide +kernel)
theorem wd_288 : Cond.static Lib.Math.min.name ∈ big := big_at 288 (by decide +kernel) (by decide +kernel)
theorem wd_289 : Cond.code Lib.Math.min.name Lib.Math.min.code 2 (some .int) ∈ big := big_at 289 (by decide +kernel) (by decide +kernel)
theorem wd_294 : Cond.methodLink RX6 76 yX3_allows ∈ big := big_at 294 (by decide +kernel) (by decide +kernel)
theorem wd_295 : Cond.instanceMethod yX3_allows ∈ big := big_at 295 (by decide +kernel) (by decide +kernel)
theorem wd_296 : Cond.selects RX3 yX3_allows yX3_allows ∈ big := big_at 296 (by decide +kernel) (by decide +kernel)
theorem wd_297 : Cond.code yX3_allows cX3_allows 3 (some .boolean) ∈ big := big_at 297 (by decide +kernel) (by decide +kernel)
theorem wd_298 : Cond.methodLink RX3 28 yX3_corners ∈ big := big_at 298 (by decide +kernel) (by decide +kernel)
theorem wd_299 : Cond.instanceMethod yX3_corners ∈ big := big_at 299 (by decide +kernel) (by decide +kernel)
theorem wd_300 : Cond.selects RX3 yX3_corners yX3_corners ∈ big := big_at 300 (by decide +kernel) (by decide +kernel)
theorem wd_301 : Cond.code yX3_corners cX3_corners 1 (some .int) ∈ big := big_at 301 (by decide +kernel) (by decide +kernel)
theorem wd_302 : Cond.methodLink RX6 80 yX3_add ∈ big := big_at 302 (by decide +kernel) (by decide +kernel)
theorem wd_303 : Cond.instanceMethod yX3_add ∈ big := big_at 303 (by decide +kernel) (by decide +kernel)
theorem wd_304 : Cond.selects RX3 yX3_add yX3_add ∈ big := big_at 304 (by decide +kernel) (by decide +kernel)
theorem wd_305 : Cond.code yX3_add cX3_add 5 none ∈ big := big_at 305 (by decide +kernel) (by decide +kernel)
theorem wd_306 : Cond.methodLink RX3 32 yX3_change ∈ big := big_at 306 (by decide +kernel) (by decide +kernel)
theorem wd_307 : Cond.instanceMethod yX3_change ∈ big := big_at 307 (by decide +kernel) (by decide +kernel)
theorem wd_308 : Cond.selects RX3 yX3_change yX3_change ∈ big := big_at 308 (by decide +kernel) (by decide +kernel)
theorem wd_309 : Cond.code yX3_change cX3_change 4 none ∈ big := big_at 309 (by decide +kernel) (by decide +kernel)
theorem wd_314 : Cond.methodLink RX6 84 yX3_has ∈ big := big_at 314 (by decide +kernel) (by decide +kernel)
theorem wd_315 : Cond.instanceMethod yX3_has ∈ big := big_at 315 (by decide +kernel) (by decide +kernel)
theorem wd_316 : Cond.selects RX3 yX3_has yX3_has ∈ big := big_at 316 (by decide +kernel) (by decide +kernel)
theorem wd_317 : Cond.code yX3_has cX3_has 2 (some .boolean) ∈ big := big_at 317 (by decide +kernel) (by decide +kernel)
theorem wd_318 : Cond.methodLink RX6 88 yX3_trait ∈ big := big_at 318 (by decide +kernel) (by decide +kernel)
theorem wd_319 : Cond.instanceMethod yX3_trait ∈ big := big_at 319 (by decide +kernel) (by decide +kernel)
theorem wd_320 : Cond.selects RX3 yX3_trait yX3_trait ∈ big := big_at 320 (by decide +kernel) (by decide +kernel)
theorem wd_321 : Cond.code yX3_trait cX3_trait 3 (some .int) ∈ big := big_at 321 (by decide +kernel) (by decide +kernel)
theorem wd_322 : Cond.methodLink RX6 92 yX3_change ∈ big := big_at 322 (by decide +kernel) (by decide +kernel)
theorem wd_335 : Cond.constant RX6 102 999999 ∈ big := big_at 335 (by decide +kernel) (by decide +kernel)
theorem wd_336 : Cond.methodLink RX6 103 yX3_corners ∈ big := big_at 336 (by decide +kernel) (by decide +kernel)
theorem wd_337 : Cond.constantLong RX6 107 1103515245 ∈ big := big_at 337 (by decide +kernel) (by decide +kernel)
theorem wd_338 : Cond.constantLong RX6 109 12345 ∈ big := big_at 338 (by decide +kernel) (by decide +kernel)
theorem wd_339 : Cond.constantLong RX6 111 2147483648 ∈ big := big_at 339 (by decide +kernel) (by decide +kernel)
theorem wd_340 : Cond.constantLong RX6 113 32768 ∈ big := big_at 340 (by decide +kernel) (by decide +kernel)
theorem wd_341 : Cond.methodLink RX6 115 yX3_partner ∈ big := big_at 341 (by decide +kernel) (by decide +kernel)
theorem wd_342 : Cond.instanceMethod yX3_partner ∈ big := big_at 342 (by decide +kernel) (by decide +kernel)
theorem wd_343 : Cond.selects RX3 yX3_partner yX3_partner ∈ big := big_at 343 (by decide +kernel) (by decide +kernel)
theorem wd_344 : Cond.code yX3_partner cX3_partner 6 (some .int) ∈ big := big_at 344 (by decide +kernel) (by decide +kernel)
theorem wd_345 : Cond.constantLong RX6 118 65536 ∈ big := big_at 345 (by decide +kernel) (by decide +kernel)
theorem wd_346 : Cond.constantLong RX6 120 1024 ∈ big := big_at 346 (by decide +kernel) (by decide +kernel)
theorem wd_347 : Cond.constantLong RX6 122 100 ∈ big := big_at 347 (by decide +kernel) (by decide +kernel)
theorem wd_352 : Cond.methodLink RX6 124 yX5_follow ∈ big := big_at 352 (by decide +kernel) (by decide +kernel)
theorem wd_353 : Cond.instanceMethod yX5_follow ∈ big := big_at 353 (by decide +kernel) (by decide +kernel)
theorem wd_354 : Cond.selects RX5 yX5_follow yX5_follow ∈ big := big_at 354 (by decide +kernel) (by decide +kernel)
theorem wd_355 : Cond.code yX5_follow cX5_follow 3 none ∈ big := big_at 355 (by decide +kernel) (by decide +kernel)
theorem wd_356 : Cond.methodLink RX5 31 yX3_trait ∈ big := big_at 356 (by decide +kernel) (by decide +kernel)
theorem wd_357 : Cond.methodLink RX5 35 yX5_trace ∈ big := big_at 357 (by decide +kernel) (by decide +kernel)
theorem wd_358 : Cond.instanceMethod yX5_trace ∈ big := big_at 358 (by decide +kernel) (by decide +kernel)
theorem wd_359 : Cond.selects RX5 yX5_trace yX5_trace ∈ big := big_at 359 (by decide +kernel) (by decide +kernel)
theorem wd_360 : Cond.code yX5_trace cX5_trace 4 none ∈ big := big_at 360 (by decide +kernel) (by decide +kernel)
theorem wd_361 : Cond.methodLink RX5 39 yX5_addLeg ∈ big := big_at 361 (by decide +kernel) (by decide +kernel)
theorem wd_363 : Cond.instanceMethod yX5_addLeg ∈ big := big_at 363 (by decide +kernel) (by decide +kernel)
theorem wd_364 : Cond.code yX5_addLeg cX5_addLeg 10 none ∈ big := big_at 364 (by decide +kernel) (by decide +kernel)
theorem wd_365 : Cond.methodLink RX6 127 yX6_factOf ∈ big := big_at 365 (by decide +kernel) (by decide +kernel)
theorem wd_367 : Cond.instanceMethod yX6_factOf ∈ big := big_at 367 (by decide +kernel) (by decide +kernel)
theorem wd_368 : Cond.code yX6_factOf cX6_factOf 3 (some .int) ∈ big := big_at 368 (by decide +kernel) (by decide +kernel)
theorem wd_369 : Cond.methodLink RX6 222 yX5_meetings ∈ big := big_at 369 (by decide +kernel) (by decide +kernel)
theorem wd_370 : Cond.instanceMethod yX5_meetings ∈ big := big_at 370 (by decide +kernel) (by decide +kernel)
theorem wd_371 : Cond.selects RX5 yX5_meetings yX5_meetings ∈ big := big_at 371 (by decide +kernel) (by decide +kernel)
theorem wd_372 : Cond.code yX5_meetings cX5_meetings 5 (some .int) ∈ big := big_at 372 (by decide +kernel) (by decide +kernel)
theorem wd_377 : Cond.methodLink RX6 133 yX5_cornerBehind ∈ big := big_at 377 (by decide +kernel) (by decide +kernel)
theorem wd_378 : Cond.instanceMethod yX5_cornerBehind ∈ big := big_at 378 (by decide +kernel) (by decide +kernel)
theorem wd_379 : Cond.selects RX5 yX5_cornerBehind yX5_cornerBehind ∈ big := big_at 379 (by decide +kernel) (by decide +kernel)
theorem wd_380 : Cond.code yX5_cornerBehind cX5_cornerBehind 4 (some .int) ∈ big := big_at 380 (by decide +kernel) (by decide +kernel)
theorem wd_381 : Cond.methodLink RX5 49 yX5_edge ∈ big := big_at 381 (by decide +kernel) (by decide +kernel)
theorem wd_382 : Cond.instanceMethod yX5_edge ∈ big := big_at 382 (by decide +kernel) (by decide +kernel)
theorem wd_383 : Cond.selects RX5 yX5_edge yX5_edge ∈ big := big_at 383 (by decide +kernel) (by decide +kernel)
theorem wd_384 : Cond.code yX5_edge cX5_edge 3 (some .int) ∈ big := big_at 384 (by decide +kernel) (by decide +kernel)
theorem wd_389 : Cond.methodLink RX6 137 yX3_hasEdge ∈ big := big_at 389 (by decide +kernel) (by decide +kernel)
theorem wd_390 : Cond.instanceMethod yX3_hasEdge ∈ big := big_at 390 (by decide +kernel) (by decide +kernel)
theorem wd_391 : Cond.selects RX3 yX3_hasEdge yX3_hasEdge ∈ big := big_at 391 (by decide +kernel) (by decide +kernel)
theorem wd_392 : Cond.code yX3_hasEdge cX3_hasEdge 3 (some .boolean) ∈ big := big_at 392 (by decide +kernel) (by decide +kernel)
theorem wd_393 : Cond.methodLink RX6 140 yX6_tallyWays ∈ big := big_at 393 (by decide +kernel) (by decide +kernel)
theorem wd_395 : Cond.instanceMethod yX6_tallyWays ∈ big := big_at 395 (by decide +kernel) (by decide +kernel)
theorem wd_396 : Cond.code yX6_tallyWays cX6_tallyWays 2 none ∈ big := big_at 396 (by decide +kernel) (by decide +kernel)
theorem wd_397 : Cond.methodLink RX6 184 yX1_empty ∈ big := big_at 397 (by decide +kernel) (by decide +kernel)
theorem wd_398 : Cond.instanceMethod yX1_empty ∈ big := big_at 398 (by decide +kernel) (by decide +kernel)
theorem wd_399 : Cond.selects RX1 yX1_empty yX1_empty ∈ big := big_at 399 (by decide +kernel) (by decide +kernel)
theorem wd_400 : Cond.code yX1_empty cX1_empty 1 none ∈ big := big_at 400 (by decide +kernel) (by decide +kernel)
theorem wd_401 : Cond.methodLink RX1 15 yJ7_fill_53178 ∈ big := big_at 401 (by decide +kernel) (by decide +kernel)
theorem wd_402 : Cond.static yJ7_fill_53178 ∈ big := big_at 402 (by decide +kernel) (by decide +kernel)
theorem wd_403 : Cond.code yJ7_fill_53178 cJ7_fill_53178 4 none ∈ big := big_at 403 (by decide +kernel) (by decide +kernel)
theorem wd_404 : Cond.methodLink RX6 191 yX1_add ∈ big := big_at 404 (by decide +kernel) (by decide +kernel)
theorem wd_405 : Cond.instanceMethod yX1_add ∈ big := big_at 405 (by decide +kernel) (by decide +kernel)
theorem wd_406 : Cond.selects RX1 yX1_add yX1_add ∈ big := big_at 406 (by decide +kernel) (by decide +kernel)
theorem wd_407 : Cond.code yX1_add cX1_add 5 none ∈ big := big_at 407 (by decide +kernel) (by decide +kernel)
theorem wd_408 : Cond.methodLink RX1 26 yX5_edge ∈ big := big_at 408 (by decide +kernel) (by decide +kernel)
theorem wd_413 : Cond.methodLink RX6 146 yX6_loadsFact ∈ big := big_at 413 (by decide +kernel) (by decide +kernel)
theorem wd_415 : Cond.instanceMethod yX6_loadsFact ∈ big := big_at 415 (by decide +kernel) (by decide +kernel)
theorem wd_416 : Cond.code yX6_loadsFact cX6_loadsFact 4 (some .int) ∈ big := big_at 416 (by decide +kernel) (by decide +kernel)
theorem wd_417 : Cond.methodLink RX6 156 yX1_firstGreatest ∈ big := big_at 417 (by decide +kernel) (by decide +kernel)
theorem wd_418 : Cond.instanceMethod yX1_firstGreatest ∈ big := big_at 418 (by decide +kernel) (by decide +kernel)
theorem wd_419 : Cond.selects RX1 yX1_firstGreatest yX1_firstGreatest ∈ big := big_at 419 (by decide +kernel) (by decide +kernel)
theorem wd_420 : Cond.code yX1_firstGreatest cX1_firstGreatest 3 (some .int) ∈ big := big_at 420 (by decide +kernel) (by decide +kernel)
theorem wd_421 : Cond.methodLink RX6 234 yX1_countAtLeast ∈ big := big_at 421 (by decide +kernel) (by decide +kernel)
theorem wd_422 : Cond.instanceMethod yX1_countAtLeast ∈ big := big_at 422 (by decide +kernel) (by decide +kernel)
theorem wd_423 : Cond.selects RX1 yX1_countAtLeast yX1_countAtLeast ∈ big := big_at 423 (by decide +kernel) (by decide +kernel)
theorem wd_424 : Cond.code yX1_countAtLeast cX1_countAtLeast 6 (some .int) ∈ big := big_at 424 (by decide +kernel) (by decide +kernel)
theorem wd_425 : Cond.methodLink RX1 30 yX3_corners ∈ big := big_at 425 (by decide +kernel) (by decide +kernel)
theorem wd_426 : Cond.methodLink RX6 159 yX6_nameOf ∈ big := big_at 426 (by decide +kernel) (by decide +kernel)
theorem wd_427 : Cond.static yX6_nameOf ∈ big := big_at 427 (by decide +kernel) (by decide +kernel)
theorem wd_428 : Cond.code yX6_nameOf cX6_nameOf 1 (some .int) ∈ big := big_at 428 (by decide +kernel) (by decide +kernel)
theorem wd_433 : Cond.methodLink RX6 149 yX6_tallyMean ∈ big := big_at 433 (by decide +kernel) (by decide +kernel)
theorem wd_435 : Cond.instanceMethod yX6_tallyMean ∈ big := big_at 435 (by decide +kernel) (by decide +kernel)
theorem wd_436 : Cond.code yX6_tallyMean cX6_tallyMean 3 none ∈ big := big_at 436 (by decide +kernel) (by decide +kernel)
theorem wd_437 : Cond.methodLink RX6 187 yX5_trace ∈ big := big_at 437 (by decide +kernel) (by decide +kernel)
theorem wd_438 : Cond.methodLink RX6 225 yX6_addDrawn ∈ big := big_at 438 (by decide +kernel) (by decide +kernel)
theorem wd_440 : Cond.instanceMethod yX6_addDrawn ∈ big := big_at 440 (by decide +kernel) (by decide +kernel)
theorem wd_441 : Cond.code yX6_addDrawn cX6_addDrawn 5 none ∈ big := big_at 441 (by decide +kernel) (by decide +kernel)
theorem wd_442 : Cond.methodLink RX6 153 yX6_setFraction ∈ big := big_at 442 (by decide +kernel) (by decide +kernel)
theorem wd_444 : Cond.instanceMethod yX6_setFraction ∈ big := big_at 444 (by decide +kernel) (by decide +kernel)
theorem wd_445 : Cond.code yX6_setFraction cX6_setFraction 3 none ∈ big := big_at 445 (by decide +kernel) (by decide +kernel)
theorem wd_458 : Cond.methodLink RX6 162 yX6_chooseBetween ∈ big := big_at 458 (by decide +kernel) (by decide +kernel)
theorem wd_460 : Cond.instanceMethod yX6_chooseBetween ∈ big := big_at 460 (by decide +kernel) (by decide +kernel)
theorem wd_461 : Cond.code yX6_chooseBetween cX6_chooseBetween 9 none ∈ big := big_at 461 (by decide +kernel) (by decide +kernel)
theorem wd_462 : Cond.constant RX6 230 2147483647 ∈ big := big_at 462 (by decide +kernel) (by decide +kernel)
theorem wd_463 : Cond.methodLink RX6 231 yX1_squares ∈ big := big_at 463 (by decide +kernel) (by decide +kernel)
theorem wd_464 : Cond.instanceMethod yX1_squares ∈ big := big_at 464 (by decide +kernel) (by decide +kernel)
theorem wd_465 : Cond.selects RX1 yX1_squares yX1_squares ∈ big := big_at 465 (by decide +kernel) (by decide +kernel)
theorem wd_466 : Cond.code yX1_squares cX1_squares 3 (some .int) ∈ big := big_at 466 (by decide +kernel) (by decide +kernel)
theorem wd_471 : Cond.methodLink RX6 165 yX4_flow ∈ big := big_at 471 (by decide +kernel) (by decide +kernel)
theorem wd_472 : Cond.instanceMethod yX4_flow ∈ big := big_at 472 (by decide +kernel) (by decide +kernel)
theorem wd_473 : Cond.selects RX4 yX4_flow yX4_flow ∈ big := big_at 473 (by decide +kernel) (by decide +kernel)
theorem wd_474 : Cond.code yX4_flow cX4_flow 6 none ∈ big := big_at 474 (by decide +kernel) (by decide +kernel)
theorem wd_475 : Cond.methodLink RX4 40 yJ7_fill_53178 ∈ big := big_at 475 (by decide +kernel) (by decide +kernel)
theorem wd_476 : Cond.methodLink RX4 46 yX4_look ∈ big := big_at 476 (by decide +kernel) (by decide +kernel)
theorem wd_478 : Cond.instanceMethod yX4_look ∈ big := big_at 478 (by decide +kernel) (by decide +kernel)
theorem wd_479 : Cond.code yX4_look cX4_look 6 (some .boolean) ∈ big := big_at 479 (by decide +kernel) (by decide +kernel)
theorem wd_480 : Cond.methodLink RX4 68 yX5_edge ∈ big := big_at 480 (by decide +kernel) (by decide +kernel)
theorem wd_481 : Cond.methodLink RX4 50 yX4_contest ∈ big := big_at 481 (by decide +kernel) (by decide +kernel)
theorem wd_483 : Cond.instanceMethod yX4_contest ∈ big := big_at 483 (by decide +kernel) (by decide +kernel)
theorem wd_484 : Cond.code yX4_contest cX4_contest 6 none ∈ big := big_at 484 (by decide +kernel) (by decide +kernel)
theorem wd_485 : Cond.methodLink RX4 72 Lib.Math.max.name ∈ big := big_at 485 (by decide +kernel) (by decide +kernel)
theorem wd_486 : Cond.static Lib.Math.max.name ∈ big := big_at 486 (by decide +kernel) (by decide +kernel)
theorem wd_487 : Cond.code Lib.Math.max.name Lib.Math.max.code 2 (some .int) ∈ big := big_at 487 (by decide +kernel) (by decide +kernel)
theorem wd_488 : Cond.methodLink RX4 77 yX4_isAhead ∈ big := big_at 488 (by decide +kernel) (by decide +kernel)
theorem wd_490 : Cond.instanceMethod yX4_isAhead ∈ big := big_at 490 (by decide +kernel) (by decide +kernel)
theorem wd_491 : Cond.code yX4_isAhead cX4_isAhead 9 (some .boolean) ∈ big := big_at 491 (by decide +kernel) (by decide +kernel)
theorem wd_492 : Cond.methodLink RX4 81 yX4_lead ∈ big := big_at 492 (by decide +kernel) (by decide +kernel)
theorem wd_494 : Cond.instanceMethod yX4_lead ∈ big := big_at 494 (by decide +kernel) (by decide +kernel)
theorem wd_495 : Cond.code yX4_lead cX4_lead 5 (some .int) ∈ big := big_at 495 (by decide +kernel) (by decide +kernel)
theorem wd_496 : Cond.methodLink RX4 88 yX4_legOf ∈ big := big_at 496 (by decide +kernel) (by decide +kernel)
theorem wd_498 : Cond.instanceMethod yX4_legOf ∈ big := big_at 498 (by decide +kernel) (by decide +kernel)
theorem wd_499 : Cond.code yX4_legOf cX4_legOf 3 (some .int) ∈ big := big_at 499 (by decide +kernel) (by decide +kernel)
theorem wd_500 : Cond.methodLink RX4 85 yX3_trait ∈ big := big_at 500 (by decide +kernel) (by decide +kernel)
theorem wd_501 : Cond.methodLink RX4 54 yX4_move ∈ big := big_at 501 (by decide +kernel) (by decide +kernel)
theorem wd_503 : Cond.instanceMethod yX4_move ∈ big := big_at 503 (by decide +kernel) (by decide +kernel)
theorem wd_504 : Cond.code yX4_move cX4_move 5 none ∈ big := big_at 504 (by decide +kernel) (by decide +kernel)
theorem wd_505 : Cond.methodLink RX6 169 yX6_runFact ∈ big := big_at 505 (by decide +kernel) (by decide +kernel)
theorem wd_507 : Cond.instanceMethod yX6_runFact ∈ big := big_at 507 (by decide +kernel) (by decide +kernel)
theorem wd_508 : Cond.code yX6_runFact cX6_runFact 3 (some .int) ∈ big := big_at 508 (by decide +kernel) (by decide +kernel)
theorem wd_509 : Cond.methodLink RX6 238 yX4_mostDelayed ∈ big := big_at 509 (by decide +kernel) (by decide +kernel)
theorem wd_510 : Cond.instanceMethod yX4_mostDelayed ∈ big := big_at 510 (by decide +kernel) (by decide +kernel)
theorem wd_511 : Cond.selects RX4 yX4_mostDelayed yX4_mostDelayed ∈ big := big_at 511 (by decide +kernel) (by decide +kernel)
theorem wd_512 : Cond.code yX4_mostDelayed cX4_mostDelayed 4 (some .int) ∈ big := big_at 512 (by decide +kernel) (by decide +kernel)
theorem wd_513 : Cond.methodLink RX6 241 yX4_delayOfAll ∈ big := big_at 513 (by decide +kernel) (by decide +kernel)
theorem wd_514 : Cond.instanceMethod yX4_delayOfAll ∈ big := big_at 514 (by decide +kernel) (by decide +kernel)
theorem wd_515 : Cond.selects RX4 yX4_delayOfAll yX4_delayOfAll ∈ big := big_at 515 (by decide +kernel) (by decide +kernel)
theorem wd_516 : Cond.code yX4_delayOfAll cX4_delayOfAll 4 (some .int) ∈ big := big_at 516 (by decide +kernel) (by decide +kernel)
theorem wd_533 : Cond.methodLink RX6 197 yX2_append ∈ big := big_at 533 (by decide +kernel) (by decide +kernel)
theorem wd_534 : Cond.instanceMethod yX2_append ∈ big := big_at 534 (by decide +kernel) (by decide +kernel)
theorem wd_535 : Cond.selects RX2 yX2_append yX2_append ∈ big := big_at 535 (by decide +kernel) (by decide +kernel)
theorem wd_536 : Cond.code yX2_append cX2_append 2 none ∈ big := big_at 536 (by decide +kernel) (by decide +kernel)
theorem wd_545 : Cond.methodLink RX6 200 yX2_read ∈ big := big_at 545 (by decide +kernel) (by decide +kernel)
theorem wd_546 : Cond.instanceMethod yX2_read ∈ big := big_at 546 (by decide +kernel) (by decide +kernel)
theorem wd_547 : Cond.selects RX2 yX2_read yX2_read ∈ big := big_at 547 (by decide +kernel) (by decide +kernel)
theorem wd_548 : Cond.code yX2_read cX2_read 4 none ∈ big := big_at 548 (by decide +kernel) (by decide +kernel)
theorem wd_549 : Cond.methodLink RX2 32 yX2_skipBlanks ∈ big := big_at 549 (by decide +kernel) (by decide +kernel)
theorem wd_551 : Cond.instanceMethod yX2_skipBlanks ∈ big := big_at 551 (by decide +kernel) (by decide +kernel)
theorem wd_552 : Cond.code yX2_skipBlanks cX2_skipBlanks 1 none ∈ big := big_at 552 (by decide +kernel) (by decide +kernel)
theorem wd_553 : Cond.methodLink RX2 35 yX2_failAt ∈ big := big_at 553 (by decide +kernel) (by decide +kernel)
theorem wd_555 : Cond.instanceMethod yX2_failAt ∈ big := big_at 555 (by decide +kernel) (by decide +kernel)
theorem wd_556 : Cond.code yX2_failAt cX2_failAt 2 none ∈ big := big_at 556 (by decide +kernel) (by decide +kernel)
theorem wd_557 : Cond.methodLink RX2 39 yX2_readParcel ∈ big := big_at 557 (by decide +kernel) (by decide +kernel)
theorem wd_559 : Cond.instanceMethod yX2_readParcel ∈ big := big_at 559 (by decide +kernel) (by decide +kernel)
theorem wd_560 : Cond.code yX2_readParcel cX2_readParcel 7 none ∈ big := big_at 560 (by decide +kernel) (by decide +kernel)
theorem wd_561 : Cond.methodLink RX2 43 yX2_readNumber ∈ big := big_at 561 (by decide +kernel) (by decide +kernel)
theorem wd_563 : Cond.instanceMethod yX2_readNumber ∈ big := big_at 563 (by decide +kernel) (by decide +kernel)
theorem wd_564 : Cond.code yX2_readNumber cX2_readNumber 4 (some .int) ∈ big := big_at 564 (by decide +kernel) (by decide +kernel)
theorem wd_565 : Cond.methodLink RX2 55 Lib.Math.min.name ∈ big := big_at 565 (by decide +kernel) (by decide +kernel)
theorem wd_566 : Cond.methodLink RX2 47 yX2_need ∈ big := big_at 566 (by decide +kernel) (by decide +kernel)
theorem wd_568 : Cond.instanceMethod yX2_need ∈ big := big_at 568 (by decide +kernel) (by decide +kernel)
theorem wd_569 : Cond.code yX2_need cX2_need 2 none ∈ big := big_at 569 (by decide +kernel) (by decide +kernel)
theorem wd_570 : Cond.methodLink RX2 51 yX2_takes ∈ big := big_at 570 (by decide +kernel) (by decide +kernel)
theorem wd_572 : Cond.instanceMethod yX2_takes ∈ big := big_at 572 (by decide +kernel) (by decide +kernel)
theorem wd_573 : Cond.code yX2_takes cX2_takes 2 (some .boolean) ∈ big := big_at 573 (by decide +kernel) (by decide +kernel)
theorem wd_574 : Cond.methodLink RX6 210 yX2_trait ∈ big := big_at 574 (by decide +kernel) (by decide +kernel)
theorem wd_575 : Cond.instanceMethod yX2_trait ∈ big := big_at 575 (by decide +kernel) (by decide +kernel)
theorem wd_576 : Cond.selects RX2 yX2_trait yX2_trait ∈ big := big_at 576 (by decide +kernel) (by decide +kernel)
theorem wd_577 : Cond.code yX2_trait cX2_trait 3 (some .int) ∈ big := big_at 577 (by decide +kernel) (by decide +kernel)
theorem wd_582 : Cond.methodLink RX6 212 yX0_restore ∈ big := big_at 582 (by decide +kernel) (by decide +kernel)
theorem wd_583 : Cond.instanceMethod yX0_restore ∈ big := big_at 583 (by decide +kernel) (by decide +kernel)
theorem wd_584 : Cond.selects RX0 yX0_restore yX0_restore ∈ big := big_at 584 (by decide +kernel) (by decide +kernel)
theorem wd_585 : Cond.code yX0_restore cX0_restore 2 none ∈ big := big_at 585 (by decide +kernel) (by decide +kernel)
theorem wd_587 : Cond.instanceMethod yX6_told ∈ big := big_at 587 (by decide +kernel) (by decide +kernel)
theorem wd_588 : Cond.selects RX6 yX6_told yX6_told ∈ big := big_at 588 (by decide +kernel) (by decide +kernel)
theorem wd_589 : Cond.code yX6_told cX6_told 2 (some .int) ∈ big := big_at 589 (by decide +kernel) (by decide +kernel)
theorem wd_594 : Cond.constantLong RX6 215 2141 ∈ big := big_at 594 (by decide +kernel) (by decide +kernel)
theorem wd_595 : Cond.constantLong RX6 217 31 ∈ big := big_at 595 (by decide +kernel) (by decide +kernel)
theorem wd_596 : Cond.methodLink RX6 219 yX6_told ∈ big := big_at 596 (by decide +kernel) (by decide +kernel)
theorem wd_603 : Cond.fieldLink RX7 7 "CubeLegsModel" "refused" "[I" ∈ big := big_at 603 (by decide +kernel) (by decide +kernel)
theorem wd_604 : Cond.fieldLink RX7 13 "CubeLegsModel" "sides" "I" ∈ big := big_at 604 (by decide +kernel) (by decide +kernel)
theorem wd_605 : Cond.fieldLink RX7 76 "CubeLegsModel" "many" "I" ∈ big := big_at 605 (by decide +kernel) (by decide +kernel)
theorem wd_606 : Cond.fieldLink RX7 17 "CubeLegsModel" "rules" "[I" ∈ big := big_at 606 (by decide +kernel) (by decide +kernel)
theorem wd_607 : Cond.fieldLink RX7 20 "CubeLegsModel" "from" "[I" ∈ big := big_at 607 (by decide +kernel) (by decide +kernel)
theorem wd_608 : Cond.fieldLink RX7 23 "CubeLegsModel" "to" "[I" ∈ big := big_at 608 (by decide +kernel) (by decide +kernel)
theorem wd_609 : Cond.fieldLink RX7 26 "CubeLegsModel" "between" "[I" ∈ big := big_at 609 (by decide +kernel) (by decide +kernel)
theorem wd_610 : Cond.fieldLink RX7 29 "CubeLegsModel" "rank" "[I" ∈ big := big_at 610 (by decide +kernel) (by decide +kernel)
theorem wd_611 : Cond.fieldLink RX7 79 "CubeLegsModel" "states" "I" ∈ big := big_at 611 (by decide +kernel) (by decide +kernel)
theorem wd_612 : Cond.fieldLink RX7 32 "CubeLegsModel" "kept" "[I" ∈ big := big_at 612 (by decide +kernel) (by decide +kernel)
theorem wd_613 : Cond.fieldLink RX7 35 "CubeLegsModel" "wayLong" "[I" ∈ big := big_at 613 (by decide +kernel) (by decide +kernel)
theorem wd_614 : Cond.fieldLink RX7 38 "CubeLegsModel" "legLong" "[I" ∈ big := big_at 614 (by decide +kernel) (by decide +kernel)
theorem wd_615 : Cond.fieldLink RX7 41 "CubeLegsModel" "way" "[I" ∈ big := big_at 615 (by decide +kernel) (by decide +kernel)
theorem wd_616 : Cond.fieldLink RX7 44 "CubeLegsModel" "loads" "[I" ∈ big := big_at 616 (by decide +kernel) (by decide +kernel)
theorem wd_617 : Cond.fieldLink RX7 179 "CubeLegsModel" "above" "I" ∈ big := big_at 617 (by decide +kernel) (by decide +kernel)
theorem wd_618 : Cond.fieldLink RX7 47 "CubeLegsModel" "below" "I" ∈ big := big_at 618 (by decide +kernel) (by decide +kernel)
theorem wd_619 : Cond.fieldLink RX7 50 "CubeLegsModel" "gone" "[I" ∈ big := big_at 619 (by decide +kernel) (by decide +kernel)
theorem wd_620 : Cond.fieldLink RX7 53 "CubeLegsModel" "cameAt" "[I" ∈ big := big_at 620 (by decide +kernel) (by decide +kernel)
theorem wd_621 : Cond.fieldLink RX7 56 "CubeLegsModel" "homeAt" "[I" ∈ big := big_at 621 (by decide +kernel) (by decide +kernel)
theorem wd_622 : Cond.fieldLink RX7 59 "CubeLegsModel" "delay" "[I" ∈ big := big_at 622 (by decide +kernel) (by decide +kernel)
theorem wd_623 : Cond.fieldLink RX7 208 "CubeLegsModel" "ticks" "I" ∈ big := big_at 623 (by decide +kernel) (by decide +kernel)
theorem wd_624 : Cond.fieldLink RX7 205 "CubeLegsModel" "mostWanted" "I" ∈ big := big_at 624 (by decide +kernel) (by decide +kernel)
theorem wd_625 : Cond.fieldLink RX7 62 "CubeLegsModel" "goes" "[I" ∈ big := big_at 625 (by decide +kernel) (by decide +kernel)
theorem wd_626 : Cond.fieldLink RX7 65 "CubeLegsModel" "text" "[I" ∈ big := big_at 626 (by decide +kernel) (by decide +kernel)
theorem wd_627 : Cond.fieldLink RX7 227 "CubeLegsModel" "size" "I" ∈ big := big_at 627 (by decide +kernel) (by decide +kernel)
theorem wd_628 : Cond.fieldLink RX7 230 "CubeLegsModel" "readAt" "I" ∈ big := big_at 628 (by decide +kernel) (by decide +kernel)
theorem wd_629 : Cond.fieldLink RX7 236 "CubeLegsModel" "tokenAt" "I" ∈ big := big_at 629 (by decide +kernel) (by decide +kernel)
theorem wd_630 : Cond.fieldLink RX7 242 "CubeLegsModel" "readNumber" "I" ∈ big := big_at 630 (by decide +kernel) (by decide +kernel)
theorem wd_631 : Cond.fieldLink RX7 245 "CubeLegsModel" "readMany" "I" ∈ big := big_at 631 (by decide +kernel) (by decide +kernel)
theorem wd_695 : Cond.methodLink RX7 82 yX7_no ∈ big := big_at 695 (by decide +kernel) (by decide +kernel)
theorem wd_697 : Cond.instanceMethod yX7_no ∈ big := big_at 697 (by decide +kernel) (by decide +kernel)
theorem wd_698 : Cond.code yX7_no cX7_no 1 (some .int) ∈ big := big_at 698 (by decide +kernel) (by decide +kernel)
theorem wd_703 : Cond.methodLink RX7 72 yX7_in ∈ big := big_at 703 (by decide +kernel) (by decide +kernel)
theorem wd_704 : Cond.static yX7_in ∈ big := big_at 704 (by decide +kernel) (by decide +kernel)
theorem wd_705 : Cond.code yX7_in cX7_in 3 (some .boolean) ∈ big := big_at 705 (by decide +kernel) (by decide +kernel)
theorem wd_706 : Cond.methodLink RX7 85 yX7_bad ∈ big := big_at 706 (by decide +kernel) (by decide +kernel)
theorem wd_708 : Cond.instanceMethod yX7_bad ∈ big := big_at 708 (by decide +kernel) (by decide +kernel)
theorem wd_709 : Cond.code yX7_bad cX7_bad 1 (some .int) ∈ big := big_at 709 (by decide +kernel) (by decide +kernel)
theorem wd_710 : Cond.methodLink RX7 88 yX7_leavesState ∈ big := big_at 710 (by decide +kernel) (by decide +kernel)
theorem wd_712 : Cond.instanceMethod yX7_leavesState ∈ big := big_at 712 (by decide +kernel) (by decide +kernel)
theorem wd_713 : Cond.code yX7_leavesState cX7_leavesState 3 none ∈ big := big_at 713 (by decide +kernel) (by decide +kernel)
theorem wd_718 : Cond.methodLink RX7 91 yX7_isCorner ∈ big := big_at 718 (by decide +kernel) (by decide +kernel)
theorem wd_720 : Cond.instanceMethod yX7_isCorner ∈ big := big_at 720 (by decide +kernel) (by decide +kernel)
theorem wd_721 : Cond.code yX7_isCorner cX7_isCorner 2 (some .boolean) ∈ big := big_at 721 (by decide +kernel) (by decide +kernel)
theorem wd_722 : Cond.methodLink RX7 68 yX7_corners ∈ big := big_at 722 (by decide +kernel) (by decide +kernel)
theorem wd_724 : Cond.instanceMethod yX7_corners ∈ big := big_at 724 (by decide +kernel) (by decide +kernel)
theorem wd_725 : Cond.code yX7_corners cX7_corners 1 (some .int) ∈ big := big_at 725 (by decide +kernel) (by decide +kernel)
theorem wd_726 : Cond.methodLink RX7 95 yX7_isRank ∈ big := big_at 726 (by decide +kernel) (by decide +kernel)
theorem wd_727 : Cond.static yX7_isRank ∈ big := big_at 727 (by decide +kernel) (by decide +kernel)
theorem wd_728 : Cond.code yX7_isRank cX7_isRank 1 (some .boolean) ∈ big := big_at 728 (by decide +kernel) (by decide +kernel)
theorem wd_729 : Cond.methodLink RX7 98 yX7_full ∈ big := big_at 729 (by decide +kernel) (by decide +kernel)
theorem wd_731 : Cond.instanceMethod yX7_full ∈ big := big_at 731 (by decide +kernel) (by decide +kernel)
theorem wd_732 : Cond.code yX7_full cX7_full 1 (some .int) ∈ big := big_at 732 (by decide +kernel) (by decide +kernel)
theorem wd_733 : Cond.methodLink RX7 101 yX7_comes ∈ big := big_at 733 (by decide +kernel) (by decide +kernel)
theorem wd_735 : Cond.instanceMethod yX7_comes ∈ big := big_at 735 (by decide +kernel) (by decide +kernel)
theorem wd_736 : Cond.code yX7_comes cX7_comes 5 none ∈ big := big_at 736 (by decide +kernel) (by decide +kernel)
theorem wd_741 : Cond.methodLink RX7 105 yX7_isParcel ∈ big := big_at 741 (by decide +kernel) (by decide +kernel)
theorem wd_743 : Cond.instanceMethod yX7_isParcel ∈ big := big_at 743 (by decide +kernel) (by decide +kernel)
theorem wd_744 : Cond.code yX7_isParcel cX7_isParcel 2 (some .boolean) ∈ big := big_at 744 (by decide +kernel) (by decide +kernel)
theorem wd_745 : Cond.methodLink RX7 108 yX7_tells ∈ big := big_at 745 (by decide +kernel) (by decide +kernel)
theorem wd_747 : Cond.instanceMethod yX7_tells ∈ big := big_at 747 (by decide +kernel) (by decide +kernel)
theorem wd_748 : Cond.code yX7_tells cX7_tells 3 (some .int) ∈ big := big_at 748 (by decide +kernel) (by decide +kernel)
theorem wd_761 : Cond.constant RX7 112 999999 ∈ big := big_at 761 (by decide +kernel) (by decide +kernel)
theorem wd_762 : Cond.constantLong RX7 113 1103515245 ∈ big := big_at 762 (by decide +kernel) (by decide +kernel)
theorem wd_763 : Cond.constantLong RX7 115 12345 ∈ big := big_at 763 (by decide +kernel) (by decide +kernel)
theorem wd_764 : Cond.constantLong RX7 117 2147483648 ∈ big := big_at 764 (by decide +kernel) (by decide +kernel)
theorem wd_765 : Cond.methodLink RX7 119 yX7_turned ∈ big := big_at 765 (by decide +kernel) (by decide +kernel)
theorem wd_767 : Cond.instanceMethod yX7_turned ∈ big := big_at 767 (by decide +kernel) (by decide +kernel)
theorem wd_768 : Cond.code yX7_turned cX7_turned 4 (some .int) ∈ big := big_at 768 (by decide +kernel) (by decide +kernel)
theorem wd_769 : Cond.constantLong RX7 123 32768 ∈ big := big_at 769 (by decide +kernel) (by decide +kernel)
theorem wd_770 : Cond.constantLong RX7 125 65536 ∈ big := big_at 770 (by decide +kernel) (by decide +kernel)
theorem wd_771 : Cond.constantLong RX7 127 1024 ∈ big := big_at 771 (by decide +kernel) (by decide +kernel)
theorem wd_772 : Cond.constantLong RX7 129 100 ∈ big := big_at 772 (by decide +kernel) (by decide +kernel)
theorem wd_777 : Cond.methodLink RX7 152 yX7_ofBy ∈ big := big_at 777 (by decide +kernel) (by decide +kernel)
theorem wd_779 : Cond.instanceMethod yX7_ofBy ∈ big := big_at 779 (by decide +kernel) (by decide +kernel)
theorem wd_780 : Cond.code yX7_ofBy cX7_ofBy 3 (some .int) ∈ big := big_at 780 (by decide +kernel) (by decide +kernel)
theorem wd_781 : Cond.methodLink RX7 146 yX7_setWays ∈ big := big_at 781 (by decide +kernel) (by decide +kernel)
theorem wd_783 : Cond.instanceMethod yX7_setWays ∈ big := big_at 783 (by decide +kernel) (by decide +kernel)
theorem wd_784 : Cond.code yX7_setWays cX7_setWays 2 none ∈ big := big_at 784 (by decide +kernel) (by decide +kernel)
theorem wd_785 : Cond.methodLink RX7 135 yX7_setWay ∈ big := big_at 785 (by decide +kernel) (by decide +kernel)
theorem wd_787 : Cond.instanceMethod yX7_setWay ∈ big := big_at 787 (by decide +kernel) (by decide +kernel)
theorem wd_788 : Cond.code yX7_setWay cX7_setWay 3 none ∈ big := big_at 788 (by decide +kernel) (by decide +kernel)
theorem wd_789 : Cond.methodLink RX7 131 yX7_comesLeg ∈ big := big_at 789 (by decide +kernel) (by decide +kernel)
theorem wd_791 : Cond.instanceMethod yX7_comesLeg ∈ big := big_at 791 (by decide +kernel) (by decide +kernel)
theorem wd_792 : Cond.code yX7_comesLeg cX7_comesLeg 7 none ∈ big := big_at 792 (by decide +kernel) (by decide +kernel)
theorem wd_793 : Cond.methodLink RX7 149 yX7_metBy ∈ big := big_at 793 (by decide +kernel) (by decide +kernel)
theorem wd_795 : Cond.instanceMethod yX7_metBy ∈ big := big_at 795 (by decide +kernel) (by decide +kernel)
theorem wd_796 : Cond.code yX7_metBy cX7_metBy 6 (some .int) ∈ big := big_at 796 (by decide +kernel) (by decide +kernel)
theorem wd_797 : Cond.methodLink RX7 139 yX7_edgeOf ∈ big := big_at 797 (by decide +kernel) (by decide +kernel)
theorem wd_799 : Cond.instanceMethod yX7_edgeOf ∈ big := big_at 799 (by decide +kernel) (by decide +kernel)
theorem wd_800 : Cond.code yX7_edgeOf cX7_edgeOf 5 (some .int) ∈ big := big_at 800 (by decide +kernel) (by decide +kernel)
theorem wd_801 : Cond.methodLink RX7 142 yX7_uses ∈ big := big_at 801 (by decide +kernel) (by decide +kernel)
theorem wd_803 : Cond.instanceMethod yX7_uses ∈ big := big_at 803 (by decide +kernel) (by decide +kernel)
theorem wd_804 : Cond.code yX7_uses cX7_uses 5 (some .boolean) ∈ big := big_at 804 (by decide +kernel) (by decide +kernel)
theorem wd_813 : Cond.methodLink RX7 161 yX7_isEdge ∈ big := big_at 813 (by decide +kernel) (by decide +kernel)
theorem wd_815 : Cond.instanceMethod yX7_isEdge ∈ big := big_at 815 (by decide +kernel) (by decide +kernel)
theorem wd_816 : Cond.code yX7_isEdge cX7_isEdge 3 (some .boolean) ∈ big := big_at 816 (by decide +kernel) (by decide +kernel)
theorem wd_817 : Cond.methodLink RX7 164 yX7_setLoads ∈ big := big_at 817 (by decide +kernel) (by decide +kernel)
theorem wd_819 : Cond.instanceMethod yX7_setLoads ∈ big := big_at 819 (by decide +kernel) (by decide +kernel)
theorem wd_820 : Cond.code yX7_setLoads cX7_setLoads 2 none ∈ big := big_at 820 (by decide +kernel) (by decide +kernel)
theorem wd_821 : Cond.methodLink RX7 155 yX7_noLoads ∈ big := big_at 821 (by decide +kernel) (by decide +kernel)
theorem wd_823 : Cond.instanceMethod yX7_noLoads ∈ big := big_at 823 (by decide +kernel) (by decide +kernel)
theorem wd_824 : Cond.code yX7_noLoads cX7_noLoads 2 none ∈ big := big_at 824 (by decide +kernel) (by decide +kernel)
theorem wd_825 : Cond.methodLink RX7 158 yX7_loadsBy ∈ big := big_at 825 (by decide +kernel) (by decide +kernel)
theorem wd_827 : Cond.instanceMethod yX7_loadsBy ∈ big := big_at 827 (by decide +kernel) (by decide +kernel)
theorem wd_828 : Cond.code yX7_loadsBy cX7_loadsBy 4 none ∈ big := big_at 828 (by decide +kernel) (by decide +kernel)
theorem wd_833 : Cond.methodLink RX7 176 yX7_loadsTell ∈ big := big_at 833 (by decide +kernel) (by decide +kernel)
theorem wd_835 : Cond.instanceMethod yX7_loadsTell ∈ big := big_at 835 (by decide +kernel) (by decide +kernel)
theorem wd_836 : Cond.code yX7_loadsTell cX7_loadsTell 6 (some .int) ∈ big := big_at 836 (by decide +kernel) (by decide +kernel)
theorem wd_837 : Cond.methodLink RX7 167 yX7_most ∈ big := big_at 837 (by decide +kernel) (by decide +kernel)
theorem wd_839 : Cond.instanceMethod yX7_most ∈ big := big_at 839 (by decide +kernel) (by decide +kernel)
theorem wd_840 : Cond.code yX7_most cX7_most 3 (some .int) ∈ big := big_at 840 (by decide +kernel) (by decide +kernel)
theorem wd_841 : Cond.methodLink RX7 170 yX7_firstOf ∈ big := big_at 841 (by decide +kernel) (by decide +kernel)
theorem wd_843 : Cond.instanceMethod yX7_firstOf ∈ big := big_at 843 (by decide +kernel) (by decide +kernel)
theorem wd_844 : Cond.code yX7_firstOf cX7_firstOf 4 (some .int) ∈ big := big_at 844 (by decide +kernel) (by decide +kernel)
theorem wd_845 : Cond.methodLink RX7 173 yX7_tenTimes ∈ big := big_at 845 (by decide +kernel) (by decide +kernel)
theorem wd_846 : Cond.static yX7_tenTimes ∈ big := big_at 846 (by decide +kernel) (by decide +kernel)
theorem wd_847 : Cond.code yX7_tenTimes cX7_tenTimes 1 (some .int) ∈ big := big_at 847 (by decide +kernel) (by decide +kernel)
theorem wd_852 : Cond.methodLink RX7 186 yX7_setExpected ∈ big := big_at 852 (by decide +kernel) (by decide +kernel)
theorem wd_854 : Cond.instanceMethod yX7_setExpected ∈ big := big_at 854 (by decide +kernel) (by decide +kernel)
theorem wd_855 : Cond.code yX7_setExpected cX7_setExpected 3 none ∈ big := big_at 855 (by decide +kernel) (by decide +kernel)
theorem wd_856 : Cond.methodLink RX7 182 yX7_addsDrawn ∈ big := big_at 856 (by decide +kernel) (by decide +kernel)
theorem wd_858 : Cond.instanceMethod yX7_addsDrawn ∈ big := big_at 858 (by decide +kernel) (by decide +kernel)
theorem wd_859 : Cond.code yX7_addsDrawn cX7_addsDrawn 3 none ∈ big := big_at 859 (by decide +kernel) (by decide +kernel)
theorem wd_860 : Cond.methodLink RX7 189 yX7_tellsPart ∈ big := big_at 860 (by decide +kernel) (by decide +kernel)
theorem wd_862 : Cond.instanceMethod yX7_tellsPart ∈ big := big_at 862 (by decide +kernel) (by decide +kernel)
theorem wd_863 : Cond.code yX7_tellsPart cX7_tellsPart 5 none ∈ big := big_at 863 (by decide +kernel) (by decide +kernel)
theorem wd_876 : Cond.methodLink RX7 196 yX7_choosesFor ∈ big := big_at 876 (by decide +kernel) (by decide +kernel)
theorem wd_878 : Cond.instanceMethod yX7_choosesFor ∈ big := big_at 878 (by decide +kernel) (by decide +kernel)
theorem wd_879 : Cond.code yX7_choosesFor cX7_choosesFor 10 none ∈ big := big_at 879 (by decide +kernel) (by decide +kernel)
theorem wd_880 : Cond.methodLink RX7 192 yX7_squares ∈ big := big_at 880 (by decide +kernel) (by decide +kernel)
theorem wd_882 : Cond.instanceMethod yX7_squares ∈ big := big_at 882 (by decide +kernel) (by decide +kernel)
theorem wd_883 : Cond.code yX7_squares cX7_squares 4 (some .long) ∈ big := big_at 883 (by decide +kernel) (by decide +kernel)
theorem wd_888 : Cond.methodLink RX7 224 yX7_runTells ∈ big := big_at 888 (by decide +kernel) (by decide +kernel)
theorem wd_890 : Cond.instanceMethod yX7_runTells ∈ big := big_at 890 (by decide +kernel) (by decide +kernel)
theorem wd_891 : Cond.code yX7_runTells cX7_runTells 6 (some .int) ∈ big := big_at 891 (by decide +kernel) (by decide +kernel)
theorem wd_892 : Cond.methodLink RX7 221 yX7_runs ∈ big := big_at 892 (by decide +kernel) (by decide +kernel)
theorem wd_894 : Cond.instanceMethod yX7_runs ∈ big := big_at 894 (by decide +kernel) (by decide +kernel)
theorem wd_895 : Cond.code yX7_runs cX7_runs 4 none ∈ big := big_at 895 (by decide +kernel) (by decide +kernel)
theorem wd_896 : Cond.methodLink RX7 214 yX7_allHome ∈ big := big_at 896 (by decide +kernel) (by decide +kernel)
theorem wd_898 : Cond.instanceMethod yX7_allHome ∈ big := big_at 898 (by decide +kernel) (by decide +kernel)
theorem wd_899 : Cond.code yX7_allHome cX7_allHome 3 (some .boolean) ∈ big := big_at 899 (by decide +kernel) (by decide +kernel)
theorem wd_900 : Cond.methodLink RX7 199 yX7_isHome ∈ big := big_at 900 (by decide +kernel) (by decide +kernel)
theorem wd_902 : Cond.instanceMethod yX7_isHome ∈ big := big_at 902 (by decide +kernel) (by decide +kernel)
theorem wd_903 : Cond.code yX7_isHome cX7_isHome 2 (some .boolean) ∈ big := big_at 903 (by decide +kernel) (by decide +kernel)
theorem wd_904 : Cond.methodLink RX7 218 yX7_goesTick ∈ big := big_at 904 (by decide +kernel) (by decide +kernel)
theorem wd_906 : Cond.instanceMethod yX7_goesTick ∈ big := big_at 906 (by decide +kernel) (by decide +kernel)
theorem wd_907 : Cond.code yX7_goesTick cX7_goesTick 3 none ∈ big := big_at 907 (by decide +kernel) (by decide +kernel)
theorem wd_908 : Cond.methodLink RX7 211 yX7_setGoing ∈ big := big_at 908 (by decide +kernel) (by decide +kernel)
theorem wd_910 : Cond.instanceMethod yX7_setGoing ∈ big := big_at 910 (by decide +kernel) (by decide +kernel)
theorem wd_911 : Cond.code yX7_setGoing cX7_setGoing 7 none ∈ big := big_at 911 (by decide +kernel) (by decide +kernel)
theorem wd_912 : Cond.methodLink RX7 202 yX7_isAhead ∈ big := big_at 912 (by decide +kernel) (by decide +kernel)
theorem wd_914 : Cond.instanceMethod yX7_isAhead ∈ big := big_at 914 (by decide +kernel) (by decide +kernel)
theorem wd_915 : Cond.code yX7_isAhead cX7_isAhead 5 (some .boolean) ∈ big := big_at 915 (by decide +kernel) (by decide +kernel)
theorem wd_940 : Cond.methodLink RX7 258 yX7_goesThrough ∈ big := big_at 940 (by decide +kernel) (by decide +kernel)
theorem wd_942 : Cond.instanceMethod yX7_goesThrough ∈ big := big_at 942 (by decide +kernel) (by decide +kernel)
theorem wd_943 : Cond.code yX7_goesThrough cX7_goesThrough 3 (some .int) ∈ big := big_at 943 (by decide +kernel) (by decide +kernel)
theorem wd_944 : Cond.methodLink RX7 239 yX7_skips ∈ big := big_at 944 (by decide +kernel) (by decide +kernel)
theorem wd_946 : Cond.instanceMethod yX7_skips ∈ big := big_at 946 (by decide +kernel) (by decide +kernel)
theorem wd_947 : Cond.code yX7_skips cX7_skips 1 none ∈ big := big_at 947 (by decide +kernel) (by decide +kernel)
theorem wd_948 : Cond.methodLink RX7 233 yX7_here ∈ big := big_at 948 (by decide +kernel) (by decide +kernel)
theorem wd_950 : Cond.instanceMethod yX7_here ∈ big := big_at 950 (by decide +kernel) (by decide +kernel)
theorem wd_951 : Cond.code yX7_here cX7_here 1 (some .int) ∈ big := big_at 951 (by decide +kernel) (by decide +kernel)
theorem wd_952 : Cond.methodLink RX7 254 yX7_readsParcel ∈ big := big_at 952 (by decide +kernel) (by decide +kernel)
theorem wd_954 : Cond.instanceMethod yX7_readsParcel ∈ big := big_at 954 (by decide +kernel) (by decide +kernel)
theorem wd_955 : Cond.code yX7_readsParcel cX7_readsParcel 6 (some .boolean) ∈ big := big_at 955 (by decide +kernel) (by decide +kernel)
theorem wd_956 : Cond.methodLink RX7 248 yX7_number ∈ big := big_at 956 (by decide +kernel) (by decide +kernel)
theorem wd_958 : Cond.instanceMethod yX7_number ∈ big := big_at 958 (by decide +kernel) (by decide +kernel)
theorem wd_959 : Cond.code yX7_number cX7_number 4 (some .boolean) ∈ big := big_at 959 (by decide +kernel) (by decide +kernel)
theorem wd_960 : Cond.methodLink RX7 251 yX7_sign ∈ big := big_at 960 (by decide +kernel) (by decide +kernel)
theorem wd_962 : Cond.instanceMethod yX7_sign ∈ big := big_at 962 (by decide +kernel) (by decide +kernel)
theorem wd_963 : Cond.code yX7_sign cX7_sign 2 (some .boolean) ∈ big := big_at 963 (by decide +kernel) (by decide +kernel)
theorem wd_968 : Cond.methodLink RX7 262 yX7_toldBy ∈ big := big_at 968 (by decide +kernel) (by decide +kernel)
theorem wd_970 : Cond.instanceMethod yX7_toldBy ∈ big := big_at 970 (by decide +kernel) (by decide +kernel)
theorem wd_971 : Cond.code yX7_toldBy cX7_toldBy 2 (some .int) ∈ big := big_at 971 (by decide +kernel) (by decide +kernel)
theorem wd_976 : Cond.constantLong RX7 265 2141 ∈ big := big_at 976 (by decide +kernel) (by decide +kernel)
theorem wd_977 : Cond.constantLong RX7 267 31 ∈ big := big_at 977 (by decide +kernel) (by decide +kernel)
theorem iv_RX0 : ∀ w ∈ u_ws RX0 TX0 3, w ∈ lw_tbl := by decide +kernel
theorem ig_RX0 : ∀ w ∈ u_ws RX0 TX0 3, goodWord w = true := by decide +kernel
theorem iw_RX0 : ∀ w ∈ u_ws RX0 TX0 3, w ∈ big := fun w h => List.mem_filter.mpr ⟨iv_RX0 w h, ig_RX0 w h⟩
theorem iv_RX1 : ∀ w ∈ u_ws RX1 TX1 1, w ∈ lw_tbl := by decide +kernel
theorem ig_RX1 : ∀ w ∈ u_ws RX1 TX1 1, goodWord w = true := by decide +kernel
theorem iw_RX1 : ∀ w ∈ u_ws RX1 TX1 1, w ∈ big := fun w h => List.mem_filter.mpr ⟨iv_RX1 w h, ig_RX1 w h⟩
theorem iv_RX2 : ∀ w ∈ u_ws RX2 TX2 6, w ∈ lw_tbl := by decide +kernel
theorem ig_RX2 : ∀ w ∈ u_ws RX2 TX2 6, goodWord w = true := by decide +kernel
theorem iw_RX2 : ∀ w ∈ u_ws RX2 TX2 6, w ∈ big := fun w h => List.mem_filter.mpr ⟨iv_RX2 w h, ig_RX2 w h⟩
theorem iv_RX3 : ∀ w ∈ u_ws RX3 TX3 5, w ∈ lw_tbl := by decide +kernel
theorem ig_RX3 : ∀ w ∈ u_ws RX3 TX3 5, goodWord w = true := by decide +kernel
theorem iw_RX3 : ∀ w ∈ u_ws RX3 TX3 5, w ∈ big := fun w h => List.mem_filter.mpr ⟨iv_RX3 w h, ig_RX3 w h⟩
theorem iv_RX4 : ∀ w ∈ u_ws RX4 TX4 9, w ∈ lw_tbl := by decide +kernel
theorem ig_RX4 : ∀ w ∈ u_ws RX4 TX4 9, goodWord w = true := by decide +kernel
theorem iw_RX4 : ∀ w ∈ u_ws RX4 TX4 9, w ∈ big := fun w h => List.mem_filter.mpr ⟨iv_RX4 w h, ig_RX4 w h⟩
theorem iv_RX5 : ∀ w ∈ u_ws RX5 TX5 4, w ∈ lw_tbl := by decide +kernel
theorem ig_RX5 : ∀ w ∈ u_ws RX5 TX5 4, goodWord w = true := by decide +kernel
theorem iw_RX5 : ∀ w ∈ u_ws RX5 TX5 4, w ∈ big := fun w h => List.mem_filter.mpr ⟨iv_RX5 w h, ig_RX5 w h⟩
theorem iv_RX6 : ∀ w ∈ u_ws RX6 TX6 9, w ∈ lw_tbl := by decide +kernel
theorem ig_RX6 : ∀ w ∈ u_ws RX6 TX6 9, goodWord w = true := by decide +kernel
theorem iw_RX6 : ∀ w ∈ u_ws RX6 TX6 9, w ∈ big := fun w h => List.mem_filter.mpr ⟨iv_RX6 w h, ig_RX6 w h⟩
theorem iv_RX7 : ∀ w ∈ u_ws RX7 TX7 29, w ∈ lw_tbl := by decide +kernel
theorem ig_RX7 : ∀ w ∈ u_ws RX7 TX7 29, goodWord w = true := by decide +kernel
theorem iw_RX7 : ∀ w ∈ u_ws RX7 TX7 29, w ∈ big := fun w h => List.mem_filter.mpr ⟨iv_RX7 w h, ig_RX7 w h⟩
theorem dsc_J7_fill_53178 : yJ7_fill_53178.cls = RJ7 ∧ yJ7_fill_53178.cls ≠ "java/lang/invoke/MethodHandle" ∧ yJ7_fill_53178.cls ≠ "java/lang/invoke/VarHandle" ∧ (parseMethodDescriptor yJ7_fill_53178.desc).map (fun d => d.parameters.length) = some 2 := by decide +kernel
theorem dsc_X0_keep : yX0_keep.cls = RX0 ∧ yX0_keep.cls ≠ "java/lang/invoke/MethodHandle" ∧ yX0_keep.cls ≠ "java/lang/invoke/VarHandle" ∧ (parseMethodDescriptor yX0_keep.desc).map (fun d => d.parameters.length) = some 1 := by decide +kernel
theorem dsc_X0_restore : yX0_restore.cls = RX0 ∧ yX0_restore.cls ≠ "java/lang/invoke/MethodHandle" ∧ yX0_restore.cls ≠ "java/lang/invoke/VarHandle" ∧ (parseMethodDescriptor yX0_restore.desc).map (fun d => d.parameters.length) = some 1 := by decide +kernel
theorem dsc_X1_add : yX1_add.cls = RX1 ∧ yX1_add.cls ≠ "java/lang/invoke/MethodHandle" ∧ yX1_add.cls ≠ "java/lang/invoke/VarHandle" ∧ (parseMethodDescriptor yX1_add.desc).map (fun d => d.parameters.length) = some 3 := by decide +kernel
theorem dsc_X1_countAtLeast : yX1_countAtLeast.cls = RX1 ∧ yX1_countAtLeast.cls ≠ "java/lang/invoke/MethodHandle" ∧ yX1_countAtLeast.cls ≠ "java/lang/invoke/VarHandle" ∧ (parseMethodDescriptor yX1_countAtLeast.desc).map (fun d => d.parameters.length) = some 2 := by decide +kernel
theorem dsc_X1_empty : yX1_empty.cls = RX1 ∧ yX1_empty.cls ≠ "java/lang/invoke/MethodHandle" ∧ yX1_empty.cls ≠ "java/lang/invoke/VarHandle" ∧ (parseMethodDescriptor yX1_empty.desc).map (fun d => d.parameters.length) = some 0 := by decide +kernel
theorem dsc_X1_firstGreatest : yX1_firstGreatest.cls = RX1 ∧ yX1_firstGreatest.cls ≠ "java/lang/invoke/MethodHandle" ∧ yX1_firstGreatest.cls ≠ "java/lang/invoke/VarHandle" ∧ (parseMethodDescriptor yX1_firstGreatest.desc).map (fun d => d.parameters.length) = some 0 := by decide +kernel
theorem dsc_X1_squares : yX1_squares.cls = RX1 ∧ yX1_squares.cls ≠ "java/lang/invoke/MethodHandle" ∧ yX1_squares.cls ≠ "java/lang/invoke/VarHandle" ∧ (parseMethodDescriptor yX1_squares.desc).map (fun d => d.parameters.length) = some 0 := by decide +kernel
theorem dsc_X2_append : yX2_append.cls = RX2 ∧ yX2_append.cls ≠ "java/lang/invoke/MethodHandle" ∧ yX2_append.cls ≠ "java/lang/invoke/VarHandle" ∧ (parseMethodDescriptor yX2_append.desc).map (fun d => d.parameters.length) = some 1 := by decide +kernel
theorem dsc_X2_failAt : yX2_failAt.cls = RX2 ∧ yX2_failAt.cls ≠ "java/lang/invoke/MethodHandle" ∧ yX2_failAt.cls ≠ "java/lang/invoke/VarHandle" ∧ (parseMethodDescriptor yX2_failAt.desc).map (fun d => d.parameters.length) = some 1 := by decide +kernel
theorem dsc_X2_need : yX2_need.cls = RX2 ∧ yX2_need.cls ≠ "java/lang/invoke/MethodHandle" ∧ yX2_need.cls ≠ "java/lang/invoke/VarHandle" ∧ (parseMethodDescriptor yX2_need.desc).map (fun d => d.parameters.length) = some 1 := by decide +kernel
theorem dsc_X2_read : yX2_read.cls = RX2 ∧ yX2_read.cls ≠ "java/lang/invoke/MethodHandle" ∧ yX2_read.cls ≠ "java/lang/invoke/VarHandle" ∧ (parseMethodDescriptor yX2_read.desc).map (fun d => d.parameters.length) = some 2 := by decide +kernel
theorem dsc_X2_readNumber : yX2_readNumber.cls = RX2 ∧ yX2_readNumber.cls ≠ "java/lang/invoke/MethodHandle" ∧ yX2_readNumber.cls ≠ "java/lang/invoke/VarHandle" ∧ (parseMethodDescriptor yX2_readNumber.desc).map (fun d => d.parameters.length) = some 1 := by decide +kernel
theorem dsc_X2_readParcel : yX2_readParcel.cls = RX2 ∧ yX2_readParcel.cls ≠ "java/lang/invoke/MethodHandle" ∧ yX2_readParcel.cls ≠ "java/lang/invoke/VarHandle" ∧ (parseMethodDescriptor yX2_readParcel.desc).map (fun d => d.parameters.length) = some 2 := by decide +kernel
theorem dsc_X2_skipBlanks : yX2_skipBlanks.cls = RX2 ∧ yX2_skipBlanks.cls ≠ "java/lang/invoke/MethodHandle" ∧ yX2_skipBlanks.cls ≠ "java/lang/invoke/VarHandle" ∧ (parseMethodDescriptor yX2_skipBlanks.desc).map (fun d => d.parameters.length) = some 0 := by decide +kernel
theorem dsc_X2_takes : yX2_takes.cls = RX2 ∧ yX2_takes.cls ≠ "java/lang/invoke/MethodHandle" ∧ yX2_takes.cls ≠ "java/lang/invoke/VarHandle" ∧ (parseMethodDescriptor yX2_takes.desc).map (fun d => d.parameters.length) = some 1 := by decide +kernel
theorem dsc_X2_trait : yX2_trait.cls = RX2 ∧ yX2_trait.cls ≠ "java/lang/invoke/MethodHandle" ∧ yX2_trait.cls ≠ "java/lang/invoke/VarHandle" ∧ (parseMethodDescriptor yX2_trait.desc).map (fun d => d.parameters.length) = some 2 := by decide +kernel
theorem dsc_X3_add : yX3_add.cls = RX3 ∧ yX3_add.cls ≠ "java/lang/invoke/MethodHandle" ∧ yX3_add.cls ≠ "java/lang/invoke/VarHandle" ∧ (parseMethodDescriptor yX3_add.desc).map (fun d => d.parameters.length) = some 4 := by decide +kernel
theorem dsc_X3_allows : yX3_allows.cls = RX3 ∧ yX3_allows.cls ≠ "java/lang/invoke/MethodHandle" ∧ yX3_allows.cls ≠ "java/lang/invoke/VarHandle" ∧ (parseMethodDescriptor yX3_allows.desc).map (fun d => d.parameters.length) = some 2 := by decide +kernel
theorem dsc_X3_change : yX3_change.cls = RX3 ∧ yX3_change.cls ≠ "java/lang/invoke/MethodHandle" ∧ yX3_change.cls ≠ "java/lang/invoke/VarHandle" ∧ (parseMethodDescriptor yX3_change.desc).map (fun d => d.parameters.length) = some 3 := by decide +kernel
theorem dsc_X3_corners : yX3_corners.cls = RX3 ∧ yX3_corners.cls ≠ "java/lang/invoke/MethodHandle" ∧ yX3_corners.cls ≠ "java/lang/invoke/VarHandle" ∧ (parseMethodDescriptor yX3_corners.desc).map (fun d => d.parameters.length) = some 0 := by decide +kernel
theorem dsc_X3_has : yX3_has.cls = RX3 ∧ yX3_has.cls ≠ "java/lang/invoke/MethodHandle" ∧ yX3_has.cls ≠ "java/lang/invoke/VarHandle" ∧ (parseMethodDescriptor yX3_has.desc).map (fun d => d.parameters.length) = some 1 := by decide +kernel
theorem dsc_X3_hasEdge : yX3_hasEdge.cls = RX3 ∧ yX3_hasEdge.cls ≠ "java/lang/invoke/MethodHandle" ∧ yX3_hasEdge.cls ≠ "java/lang/invoke/VarHandle" ∧ (parseMethodDescriptor yX3_hasEdge.desc).map (fun d => d.parameters.length) = some 2 := by decide +kernel
theorem dsc_X3_partner : yX3_partner.cls = RX3 ∧ yX3_partner.cls ≠ "java/lang/invoke/MethodHandle" ∧ yX3_partner.cls ≠ "java/lang/invoke/VarHandle" ∧ (parseMethodDescriptor yX3_partner.desc).map (fun d => d.parameters.length) = some 2 := by decide +kernel
theorem dsc_X3_take : yX3_take.cls = RX3 ∧ yX3_take.cls ≠ "java/lang/invoke/MethodHandle" ∧ yX3_take.cls ≠ "java/lang/invoke/VarHandle" ∧ (parseMethodDescriptor yX3_take.desc).map (fun d => d.parameters.length) = some 1 := by decide +kernel
theorem dsc_X3_trait : yX3_trait.cls = RX3 ∧ yX3_trait.cls ≠ "java/lang/invoke/MethodHandle" ∧ yX3_trait.cls ≠ "java/lang/invoke/VarHandle" ∧ (parseMethodDescriptor yX3_trait.desc).map (fun d => d.parameters.length) = some 2 := by decide +kernel
theorem dsc_X4_contest : yX4_contest.cls = RX4 ∧ yX4_contest.cls ≠ "java/lang/invoke/MethodHandle" ∧ yX4_contest.cls ≠ "java/lang/invoke/VarHandle" ∧ (parseMethodDescriptor yX4_contest.desc).map (fun d => d.parameters.length) = some 3 := by decide +kernel
theorem dsc_X4_delayOfAll : yX4_delayOfAll.cls = RX4 ∧ yX4_delayOfAll.cls ≠ "java/lang/invoke/MethodHandle" ∧ yX4_delayOfAll.cls ≠ "java/lang/invoke/VarHandle" ∧ (parseMethodDescriptor yX4_delayOfAll.desc).map (fun d => d.parameters.length) = some 1 := by decide +kernel
theorem dsc_X4_flow : yX4_flow.cls = RX4 ∧ yX4_flow.cls ≠ "java/lang/invoke/MethodHandle" ∧ yX4_flow.cls ≠ "java/lang/invoke/VarHandle" ∧ (parseMethodDescriptor yX4_flow.desc).map (fun d => d.parameters.length) = some 4 := by decide +kernel
theorem dsc_X4_isAhead : yX4_isAhead.cls = RX4 ∧ yX4_isAhead.cls ≠ "java/lang/invoke/MethodHandle" ∧ yX4_isAhead.cls ≠ "java/lang/invoke/VarHandle" ∧ (parseMethodDescriptor yX4_isAhead.desc).map (fun d => d.parameters.length) = some 5 := by decide +kernel
theorem dsc_X4_lead : yX4_lead.cls = RX4 ∧ yX4_lead.cls ≠ "java/lang/invoke/MethodHandle" ∧ yX4_lead.cls ≠ "java/lang/invoke/VarHandle" ∧ (parseMethodDescriptor yX4_lead.desc).map (fun d => d.parameters.length) = some 4 := by decide +kernel
theorem dsc_X4_legOf : yX4_legOf.cls = RX4 ∧ yX4_legOf.cls ≠ "java/lang/invoke/MethodHandle" ∧ yX4_legOf.cls ≠ "java/lang/invoke/VarHandle" ∧ (parseMethodDescriptor yX4_legOf.desc).map (fun d => d.parameters.length) = some 2 := by decide +kernel
theorem dsc_X4_look : yX4_look.cls = RX4 ∧ yX4_look.cls ≠ "java/lang/invoke/MethodHandle" ∧ yX4_look.cls ≠ "java/lang/invoke/VarHandle" ∧ (parseMethodDescriptor yX4_look.desc).map (fun d => d.parameters.length) = some 2 := by decide +kernel
theorem dsc_X4_mostDelayed : yX4_mostDelayed.cls = RX4 ∧ yX4_mostDelayed.cls ≠ "java/lang/invoke/MethodHandle" ∧ yX4_mostDelayed.cls ≠ "java/lang/invoke/VarHandle" ∧ (parseMethodDescriptor yX4_mostDelayed.desc).map (fun d => d.parameters.length) = some 1 := by decide +kernel
theorem dsc_X4_move : yX4_move.cls = RX4 ∧ yX4_move.cls ≠ "java/lang/invoke/MethodHandle" ∧ yX4_move.cls ≠ "java/lang/invoke/VarHandle" ∧ (parseMethodDescriptor yX4_move.desc).map (fun d => d.parameters.length) = some 2 := by decide +kernel
theorem dsc_X5_addLeg : yX5_addLeg.cls = RX5 ∧ yX5_addLeg.cls ≠ "java/lang/invoke/MethodHandle" ∧ yX5_addLeg.cls ≠ "java/lang/invoke/VarHandle" ∧ (parseMethodDescriptor yX5_addLeg.desc).map (fun d => d.parameters.length) = some 4 := by decide +kernel
theorem dsc_X5_cornerBehind : yX5_cornerBehind.cls = RX5 ∧ yX5_cornerBehind.cls ≠ "java/lang/invoke/MethodHandle" ∧ yX5_cornerBehind.cls ≠ "java/lang/invoke/VarHandle" ∧ (parseMethodDescriptor yX5_cornerBehind.desc).map (fun d => d.parameters.length) = some 3 := by decide +kernel
theorem dsc_X5_edge : yX5_edge.cls = RX5 ∧ yX5_edge.cls ≠ "java/lang/invoke/MethodHandle" ∧ yX5_edge.cls ≠ "java/lang/invoke/VarHandle" ∧ (parseMethodDescriptor yX5_edge.desc).map (fun d => d.parameters.length) = some 2 := by decide +kernel
theorem dsc_X5_follow : yX5_follow.cls = RX5 ∧ yX5_follow.cls ≠ "java/lang/invoke/MethodHandle" ∧ yX5_follow.cls ≠ "java/lang/invoke/VarHandle" ∧ (parseMethodDescriptor yX5_follow.desc).map (fun d => d.parameters.length) = some 1 := by decide +kernel
theorem dsc_X5_meetings : yX5_meetings.cls = RX5 ∧ yX5_meetings.cls ≠ "java/lang/invoke/MethodHandle" ∧ yX5_meetings.cls ≠ "java/lang/invoke/VarHandle" ∧ (parseMethodDescriptor yX5_meetings.desc).map (fun d => d.parameters.length) = some 2 := by decide +kernel
theorem dsc_X5_trace : yX5_trace.cls = RX5 ∧ yX5_trace.cls ≠ "java/lang/invoke/MethodHandle" ∧ yX5_trace.cls ≠ "java/lang/invoke/VarHandle" ∧ (parseMethodDescriptor yX5_trace.desc).map (fun d => d.parameters.length) = some 3 := by decide +kernel
theorem dsc_X6_addDrawn : yX6_addDrawn.cls = RX6 ∧ yX6_addDrawn.cls ≠ "java/lang/invoke/MethodHandle" ∧ yX6_addDrawn.cls ≠ "java/lang/invoke/VarHandle" ∧ (parseMethodDescriptor yX6_addDrawn.desc).map (fun d => d.parameters.length) = some 2 := by decide +kernel
theorem dsc_X6_chooseBetween : yX6_chooseBetween.cls = RX6 ∧ yX6_chooseBetween.cls ≠ "java/lang/invoke/MethodHandle" ∧ yX6_chooseBetween.cls ≠ "java/lang/invoke/VarHandle" ∧ (parseMethodDescriptor yX6_chooseBetween.desc).map (fun d => d.parameters.length) = some 1 := by decide +kernel
theorem dsc_X6_factOf : yX6_factOf.cls = RX6 ∧ yX6_factOf.cls ≠ "java/lang/invoke/MethodHandle" ∧ yX6_factOf.cls ≠ "java/lang/invoke/VarHandle" ∧ (parseMethodDescriptor yX6_factOf.desc).map (fun d => d.parameters.length) = some 2 := by decide +kernel
theorem dsc_X6_loadsFact : yX6_loadsFact.cls = RX6 ∧ yX6_loadsFact.cls ≠ "java/lang/invoke/MethodHandle" ∧ yX6_loadsFact.cls ≠ "java/lang/invoke/VarHandle" ∧ (parseMethodDescriptor yX6_loadsFact.desc).map (fun d => d.parameters.length) = some 1 := by decide +kernel
theorem dsc_X6_nameOf : yX6_nameOf.cls = RX6 ∧ yX6_nameOf.cls ≠ "java/lang/invoke/MethodHandle" ∧ yX6_nameOf.cls ≠ "java/lang/invoke/VarHandle" ∧ (parseMethodDescriptor yX6_nameOf.desc).map (fun d => d.parameters.length) = some 1 := by decide +kernel
theorem dsc_X6_refuse : yX6_refuse.cls = RX6 ∧ yX6_refuse.cls ≠ "java/lang/invoke/MethodHandle" ∧ yX6_refuse.cls ≠ "java/lang/invoke/VarHandle" ∧ (parseMethodDescriptor yX6_refuse.desc).map (fun d => d.parameters.length) = some 1 := by decide +kernel
theorem dsc_X6_runFact : yX6_runFact.cls = RX6 ∧ yX6_runFact.cls ≠ "java/lang/invoke/MethodHandle" ∧ yX6_runFact.cls ≠ "java/lang/invoke/VarHandle" ∧ (parseMethodDescriptor yX6_runFact.desc).map (fun d => d.parameters.length) = some 1 := by decide +kernel
theorem dsc_X6_setFraction : yX6_setFraction.cls = RX6 ∧ yX6_setFraction.cls ≠ "java/lang/invoke/MethodHandle" ∧ yX6_setFraction.cls ≠ "java/lang/invoke/VarHandle" ∧ (parseMethodDescriptor yX6_setFraction.desc).map (fun d => d.parameters.length) = some 1 := by decide +kernel
theorem dsc_X6_tallyMean : yX6_tallyMean.cls = RX6 ∧ yX6_tallyMean.cls ≠ "java/lang/invoke/MethodHandle" ∧ yX6_tallyMean.cls ≠ "java/lang/invoke/VarHandle" ∧ (parseMethodDescriptor yX6_tallyMean.desc).map (fun d => d.parameters.length) = some 1 := by decide +kernel
theorem dsc_X6_tallyWays : yX6_tallyWays.cls = RX6 ∧ yX6_tallyWays.cls ≠ "java/lang/invoke/MethodHandle" ∧ yX6_tallyWays.cls ≠ "java/lang/invoke/VarHandle" ∧ (parseMethodDescriptor yX6_tallyWays.desc).map (fun d => d.parameters.length) = some 0 := by decide +kernel
theorem dsc_X6_told : yX6_told.cls = RX6 ∧ yX6_told.cls ≠ "java/lang/invoke/MethodHandle" ∧ yX6_told.cls ≠ "java/lang/invoke/VarHandle" ∧ (parseMethodDescriptor yX6_told.desc).map (fun d => d.parameters.length) = some 1 := by decide +kernel
theorem dsc_X7_addsDrawn : yX7_addsDrawn.cls = RX7 ∧ yX7_addsDrawn.cls ≠ "java/lang/invoke/MethodHandle" ∧ yX7_addsDrawn.cls ≠ "java/lang/invoke/VarHandle" ∧ (parseMethodDescriptor yX7_addsDrawn.desc).map (fun d => d.parameters.length) = some 1 := by decide +kernel
theorem dsc_X7_allHome : yX7_allHome.cls = RX7 ∧ yX7_allHome.cls ≠ "java/lang/invoke/MethodHandle" ∧ yX7_allHome.cls ≠ "java/lang/invoke/VarHandle" ∧ (parseMethodDescriptor yX7_allHome.desc).map (fun d => d.parameters.length) = some 0 := by decide +kernel
theorem dsc_X7_bad : yX7_bad.cls = RX7 ∧ yX7_bad.cls ≠ "java/lang/invoke/MethodHandle" ∧ yX7_bad.cls ≠ "java/lang/invoke/VarHandle" ∧ (parseMethodDescriptor yX7_bad.desc).map (fun d => d.parameters.length) = some 0 := by decide +kernel
theorem dsc_X7_choosesFor : yX7_choosesFor.cls = RX7 ∧ yX7_choosesFor.cls ≠ "java/lang/invoke/MethodHandle" ∧ yX7_choosesFor.cls ≠ "java/lang/invoke/VarHandle" ∧ (parseMethodDescriptor yX7_choosesFor.desc).map (fun d => d.parameters.length) = some 1 := by decide +kernel
theorem dsc_X7_comes : yX7_comes.cls = RX7 ∧ yX7_comes.cls ≠ "java/lang/invoke/MethodHandle" ∧ yX7_comes.cls ≠ "java/lang/invoke/VarHandle" ∧ (parseMethodDescriptor yX7_comes.desc).map (fun d => d.parameters.length) = some 4 := by decide +kernel
theorem dsc_X7_comesLeg : yX7_comesLeg.cls = RX7 ∧ yX7_comesLeg.cls ≠ "java/lang/invoke/MethodHandle" ∧ yX7_comesLeg.cls ≠ "java/lang/invoke/VarHandle" ∧ (parseMethodDescriptor yX7_comesLeg.desc).map (fun d => d.parameters.length) = some 3 := by decide +kernel
theorem dsc_X7_corners : yX7_corners.cls = RX7 ∧ yX7_corners.cls ≠ "java/lang/invoke/MethodHandle" ∧ yX7_corners.cls ≠ "java/lang/invoke/VarHandle" ∧ (parseMethodDescriptor yX7_corners.desc).map (fun d => d.parameters.length) = some 0 := by decide +kernel
theorem dsc_X7_edgeOf : yX7_edgeOf.cls = RX7 ∧ yX7_edgeOf.cls ≠ "java/lang/invoke/MethodHandle" ∧ yX7_edgeOf.cls ≠ "java/lang/invoke/VarHandle" ∧ (parseMethodDescriptor yX7_edgeOf.desc).map (fun d => d.parameters.length) = some 2 := by decide +kernel
theorem dsc_X7_firstOf : yX7_firstOf.cls = RX7 ∧ yX7_firstOf.cls ≠ "java/lang/invoke/MethodHandle" ∧ yX7_firstOf.cls ≠ "java/lang/invoke/VarHandle" ∧ (parseMethodDescriptor yX7_firstOf.desc).map (fun d => d.parameters.length) = some 1 := by decide +kernel
theorem dsc_X7_full : yX7_full.cls = RX7 ∧ yX7_full.cls ≠ "java/lang/invoke/MethodHandle" ∧ yX7_full.cls ≠ "java/lang/invoke/VarHandle" ∧ (parseMethodDescriptor yX7_full.desc).map (fun d => d.parameters.length) = some 0 := by decide +kernel
theorem dsc_X7_goesThrough : yX7_goesThrough.cls = RX7 ∧ yX7_goesThrough.cls ≠ "java/lang/invoke/MethodHandle" ∧ yX7_goesThrough.cls ≠ "java/lang/invoke/VarHandle" ∧ (parseMethodDescriptor yX7_goesThrough.desc).map (fun d => d.parameters.length) = some 1 := by decide +kernel
theorem dsc_X7_goesTick : yX7_goesTick.cls = RX7 ∧ yX7_goesTick.cls ≠ "java/lang/invoke/MethodHandle" ∧ yX7_goesTick.cls ≠ "java/lang/invoke/VarHandle" ∧ (parseMethodDescriptor yX7_goesTick.desc).map (fun d => d.parameters.length) = some 1 := by decide +kernel
theorem dsc_X7_here : yX7_here.cls = RX7 ∧ yX7_here.cls ≠ "java/lang/invoke/MethodHandle" ∧ yX7_here.cls ≠ "java/lang/invoke/VarHandle" ∧ (parseMethodDescriptor yX7_here.desc).map (fun d => d.parameters.length) = some 0 := by decide +kernel
theorem dsc_X7_in : yX7_in.cls = RX7 ∧ yX7_in.cls ≠ "java/lang/invoke/MethodHandle" ∧ yX7_in.cls ≠ "java/lang/invoke/VarHandle" ∧ (parseMethodDescriptor yX7_in.desc).map (fun d => d.parameters.length) = some 3 := by decide +kernel
theorem dsc_X7_isAhead : yX7_isAhead.cls = RX7 ∧ yX7_isAhead.cls ≠ "java/lang/invoke/MethodHandle" ∧ yX7_isAhead.cls ≠ "java/lang/invoke/VarHandle" ∧ (parseMethodDescriptor yX7_isAhead.desc).map (fun d => d.parameters.length) = some 3 := by decide +kernel
theorem dsc_X7_isCorner : yX7_isCorner.cls = RX7 ∧ yX7_isCorner.cls ≠ "java/lang/invoke/MethodHandle" ∧ yX7_isCorner.cls ≠ "java/lang/invoke/VarHandle" ∧ (parseMethodDescriptor yX7_isCorner.desc).map (fun d => d.parameters.length) = some 1 := by decide +kernel
theorem dsc_X7_isEdge : yX7_isEdge.cls = RX7 ∧ yX7_isEdge.cls ≠ "java/lang/invoke/MethodHandle" ∧ yX7_isEdge.cls ≠ "java/lang/invoke/VarHandle" ∧ (parseMethodDescriptor yX7_isEdge.desc).map (fun d => d.parameters.length) = some 2 := by decide +kernel
theorem dsc_X7_isHome : yX7_isHome.cls = RX7 ∧ yX7_isHome.cls ≠ "java/lang/invoke/MethodHandle" ∧ yX7_isHome.cls ≠ "java/lang/invoke/VarHandle" ∧ (parseMethodDescriptor yX7_isHome.desc).map (fun d => d.parameters.length) = some 1 := by decide +kernel
theorem dsc_X7_isParcel : yX7_isParcel.cls = RX7 ∧ yX7_isParcel.cls ≠ "java/lang/invoke/MethodHandle" ∧ yX7_isParcel.cls ≠ "java/lang/invoke/VarHandle" ∧ (parseMethodDescriptor yX7_isParcel.desc).map (fun d => d.parameters.length) = some 1 := by decide +kernel
theorem dsc_X7_isRank : yX7_isRank.cls = RX7 ∧ yX7_isRank.cls ≠ "java/lang/invoke/MethodHandle" ∧ yX7_isRank.cls ≠ "java/lang/invoke/VarHandle" ∧ (parseMethodDescriptor yX7_isRank.desc).map (fun d => d.parameters.length) = some 1 := by decide +kernel
theorem dsc_X7_leavesState : yX7_leavesState.cls = RX7 ∧ yX7_leavesState.cls ≠ "java/lang/invoke/MethodHandle" ∧ yX7_leavesState.cls ≠ "java/lang/invoke/VarHandle" ∧ (parseMethodDescriptor yX7_leavesState.desc).map (fun d => d.parameters.length) = some 0 := by decide +kernel
theorem dsc_X7_loadsBy : yX7_loadsBy.cls = RX7 ∧ yX7_loadsBy.cls ≠ "java/lang/invoke/MethodHandle" ∧ yX7_loadsBy.cls ≠ "java/lang/invoke/VarHandle" ∧ (parseMethodDescriptor yX7_loadsBy.desc).map (fun d => d.parameters.length) = some 2 := by decide +kernel
theorem dsc_X7_loadsTell : yX7_loadsTell.cls = RX7 ∧ yX7_loadsTell.cls ≠ "java/lang/invoke/MethodHandle" ∧ yX7_loadsTell.cls ≠ "java/lang/invoke/VarHandle" ∧ (parseMethodDescriptor yX7_loadsTell.desc).map (fun d => d.parameters.length) = some 1 := by decide +kernel
theorem dsc_X7_metBy : yX7_metBy.cls = RX7 ∧ yX7_metBy.cls ≠ "java/lang/invoke/MethodHandle" ∧ yX7_metBy.cls ≠ "java/lang/invoke/VarHandle" ∧ (parseMethodDescriptor yX7_metBy.desc).map (fun d => d.parameters.length) = some 1 := by decide +kernel
theorem dsc_X7_most : yX7_most.cls = RX7 ∧ yX7_most.cls ≠ "java/lang/invoke/MethodHandle" ∧ yX7_most.cls ≠ "java/lang/invoke/VarHandle" ∧ (parseMethodDescriptor yX7_most.desc).map (fun d => d.parameters.length) = some 0 := by decide +kernel
theorem dsc_X7_no : yX7_no.cls = RX7 ∧ yX7_no.cls ≠ "java/lang/invoke/MethodHandle" ∧ yX7_no.cls ≠ "java/lang/invoke/VarHandle" ∧ (parseMethodDescriptor yX7_no.desc).map (fun d => d.parameters.length) = some 0 := by decide +kernel
theorem dsc_X7_noLoads : yX7_noLoads.cls = RX7 ∧ yX7_noLoads.cls ≠ "java/lang/invoke/MethodHandle" ∧ yX7_noLoads.cls ≠ "java/lang/invoke/VarHandle" ∧ (parseMethodDescriptor yX7_noLoads.desc).map (fun d => d.parameters.length) = some 0 := by decide +kernel
theorem dsc_X7_number : yX7_number.cls = RX7 ∧ yX7_number.cls ≠ "java/lang/invoke/MethodHandle" ∧ yX7_number.cls ≠ "java/lang/invoke/VarHandle" ∧ (parseMethodDescriptor yX7_number.desc).map (fun d => d.parameters.length) = some 1 := by decide +kernel
theorem dsc_X7_ofBy : yX7_ofBy.cls = RX7 ∧ yX7_ofBy.cls ≠ "java/lang/invoke/MethodHandle" ∧ yX7_ofBy.cls ≠ "java/lang/invoke/VarHandle" ∧ (parseMethodDescriptor yX7_ofBy.desc).map (fun d => d.parameters.length) = some 2 := by decide +kernel
theorem dsc_X7_readsParcel : yX7_readsParcel.cls = RX7 ∧ yX7_readsParcel.cls ≠ "java/lang/invoke/MethodHandle" ∧ yX7_readsParcel.cls ≠ "java/lang/invoke/VarHandle" ∧ (parseMethodDescriptor yX7_readsParcel.desc).map (fun d => d.parameters.length) = some 1 := by decide +kernel
theorem dsc_X7_runTells : yX7_runTells.cls = RX7 ∧ yX7_runTells.cls ≠ "java/lang/invoke/MethodHandle" ∧ yX7_runTells.cls ≠ "java/lang/invoke/VarHandle" ∧ (parseMethodDescriptor yX7_runTells.desc).map (fun d => d.parameters.length) = some 1 := by decide +kernel
theorem dsc_X7_runs : yX7_runs.cls = RX7 ∧ yX7_runs.cls ≠ "java/lang/invoke/MethodHandle" ∧ yX7_runs.cls ≠ "java/lang/invoke/VarHandle" ∧ (parseMethodDescriptor yX7_runs.desc).map (fun d => d.parameters.length) = some 2 := by decide +kernel
theorem dsc_X7_setExpected : yX7_setExpected.cls = RX7 ∧ yX7_setExpected.cls ≠ "java/lang/invoke/MethodHandle" ∧ yX7_setExpected.cls ≠ "java/lang/invoke/VarHandle" ∧ (parseMethodDescriptor yX7_setExpected.desc).map (fun d => d.parameters.length) = some 1 := by decide +kernel
theorem dsc_X7_setGoing : yX7_setGoing.cls = RX7 ∧ yX7_setGoing.cls ≠ "java/lang/invoke/MethodHandle" ∧ yX7_setGoing.cls ≠ "java/lang/invoke/VarHandle" ∧ (parseMethodDescriptor yX7_setGoing.desc).map (fun d => d.parameters.length) = some 1 := by decide +kernel
theorem dsc_X7_setLoads : yX7_setLoads.cls = RX7 ∧ yX7_setLoads.cls ≠ "java/lang/invoke/MethodHandle" ∧ yX7_setLoads.cls ≠ "java/lang/invoke/VarHandle" ∧ (parseMethodDescriptor yX7_setLoads.desc).map (fun d => d.parameters.length) = some 0 := by decide +kernel
theorem dsc_X7_setWay : yX7_setWay.cls = RX7 ∧ yX7_setWay.cls ≠ "java/lang/invoke/MethodHandle" ∧ yX7_setWay.cls ≠ "java/lang/invoke/VarHandle" ∧ (parseMethodDescriptor yX7_setWay.desc).map (fun d => d.parameters.length) = some 2 := by decide +kernel
theorem dsc_X7_setWays : yX7_setWays.cls = RX7 ∧ yX7_setWays.cls ≠ "java/lang/invoke/MethodHandle" ∧ yX7_setWays.cls ≠ "java/lang/invoke/VarHandle" ∧ (parseMethodDescriptor yX7_setWays.desc).map (fun d => d.parameters.length) = some 0 := by decide +kernel
theorem dsc_X7_sign : yX7_sign.cls = RX7 ∧ yX7_sign.cls ≠ "java/lang/invoke/MethodHandle" ∧ yX7_sign.cls ≠ "java/lang/invoke/VarHandle" ∧ (parseMethodDescriptor yX7_sign.desc).map (fun d => d.parameters.length) = some 1 := by decide +kernel
theorem dsc_X7_skips : yX7_skips.cls = RX7 ∧ yX7_skips.cls ≠ "java/lang/invoke/MethodHandle" ∧ yX7_skips.cls ≠ "java/lang/invoke/VarHandle" ∧ (parseMethodDescriptor yX7_skips.desc).map (fun d => d.parameters.length) = some 0 := by decide +kernel
theorem dsc_X7_squares : yX7_squares.cls = RX7 ∧ yX7_squares.cls ≠ "java/lang/invoke/MethodHandle" ∧ yX7_squares.cls ≠ "java/lang/invoke/VarHandle" ∧ (parseMethodDescriptor yX7_squares.desc).map (fun d => d.parameters.length) = some 0 := by decide +kernel
theorem dsc_X7_tells : yX7_tells.cls = RX7 ∧ yX7_tells.cls ≠ "java/lang/invoke/MethodHandle" ∧ yX7_tells.cls ≠ "java/lang/invoke/VarHandle" ∧ (parseMethodDescriptor yX7_tells.desc).map (fun d => d.parameters.length) = some 2 := by decide +kernel
theorem dsc_X7_tellsPart : yX7_tellsPart.cls = RX7 ∧ yX7_tellsPart.cls ≠ "java/lang/invoke/MethodHandle" ∧ yX7_tellsPart.cls ≠ "java/lang/invoke/VarHandle" ∧ (parseMethodDescriptor yX7_tellsPart.desc).map (fun d => d.parameters.length) = some 1 := by decide +kernel
theorem dsc_X7_tenTimes : yX7_tenTimes.cls = RX7 ∧ yX7_tenTimes.cls ≠ "java/lang/invoke/MethodHandle" ∧ yX7_tenTimes.cls ≠ "java/lang/invoke/VarHandle" ∧ (parseMethodDescriptor yX7_tenTimes.desc).map (fun d => d.parameters.length) = some 1 := by decide +kernel
theorem dsc_X7_toldBy : yX7_toldBy.cls = RX7 ∧ yX7_toldBy.cls ≠ "java/lang/invoke/MethodHandle" ∧ yX7_toldBy.cls ≠ "java/lang/invoke/VarHandle" ∧ (parseMethodDescriptor yX7_toldBy.desc).map (fun d => d.parameters.length) = some 1 := by decide +kernel
theorem dsc_X7_turned : yX7_turned.cls = RX7 ∧ yX7_turned.cls ≠ "java/lang/invoke/MethodHandle" ∧ yX7_turned.cls ≠ "java/lang/invoke/VarHandle" ∧ (parseMethodDescriptor yX7_turned.desc).map (fun d => d.parameters.length) = some 1 := by decide +kernel
theorem dsc_X7_uses : yX7_uses.cls = RX7 ∧ yX7_uses.cls ≠ "java/lang/invoke/MethodHandle" ∧ yX7_uses.cls ≠ "java/lang/invoke/VarHandle" ∧ (parseMethodDescriptor yX7_uses.desc).map (fun d => d.parameters.length) = some 2 := by decide +kernel
end
section
def xW (g : xG) (S : St) : va_W := [(g.2.2 0, .inr (6, [.ref (g.2.2 1), .ref (g.2.2 3), .ref (g.2.2 17), .ref (g.2.2 22), .ref (g.2.2 24), .ref (g.2.2 32), .ref (g.2.2 35), .int (gF S 28), .int (gF S 29)])),
  (g.2.2 1, .inr (3, [.int (gF S 0), .int (gF S 1), .int (gF S 2), .int (gF S 3), .ref (g.2.2 2)])),
  (g.2.2 2, .inl (g.2.1 0, 64, .inl (aR S 0))),
  (g.2.2 3, .inr (0, [.int (gF S 30), .int (gF S 31), .ref (g.2.2 4)])),
  (g.2.2 4, .inl (g.2.1 3, 6, .inr (.inr (.inr (.inr (fun j => some (g.2.2 (5 + 2 * j)))))))),
  (g.2.2 5, .inr (3, [.int (gF S 4), .int (gF S 5), .int (gF S 6), .int (gF S 7), .ref (g.2.2 6)])),
  (g.2.2 6, .inl (g.2.1 0, 64, .inl (aR S 1))),
  (g.2.2 7, .inr (3, [.int (gF S 8), .int (gF S 9), .int (gF S 10), .int (gF S 11), .ref (g.2.2 8)])),
  (g.2.2 8, .inl (g.2.1 0, 64, .inl (aR S 2))),
  (g.2.2 9, .inr (3, [.int (gF S 12), .int (gF S 13), .int (gF S 14), .int (gF S 15), .ref (g.2.2 10)])),
  (g.2.2 10, .inl (g.2.1 0, 64, .inl (aR S 3))),
  (g.2.2 11, .inr (3, [.int (gF S 16), .int (gF S 17), .int (gF S 18), .int (gF S 19), .ref (g.2.2 12)])),
  (g.2.2 12, .inl (g.2.1 0, 64, .inl (aR S 4))),
  (g.2.2 13, .inr (3, [.int (gF S 20), .int (gF S 21), .int (gF S 22), .int (gF S 23), .ref (g.2.2 14)])),
  (g.2.2 14, .inl (g.2.1 0, 64, .inl (aR S 5))),
  (g.2.2 15, .inr (3, [.int (gF S 24), .int (gF S 25), .int (gF S 26), .int (gF S 27), .ref (g.2.2 16)])),
  (g.2.2 16, .inl (g.2.1 0, 64, .inl (aR S 6))),
  (g.2.2 17, .inr (5, [.ref (g.2.2 18), .ref (g.2.2 19), .ref (g.2.2 20), .ref (g.2.2 21)])),
  (g.2.2 18, .inl (g.2.1 0, 16, .inl (aR S 8))),
  (g.2.2 19, .inl (g.2.1 0, 16, .inl (aR S 9))),
  (g.2.2 20, .inl (g.2.1 0, 128, .inl (aR S 10))),
  (g.2.2 21, .inl (g.2.1 2, 16, .inr (.inl (aE S)))),
  (g.2.2 22, .inr (1, [.ref (g.2.2 23)])),
  (g.2.2 23, .inl (g.2.1 0, 64, .inl (aR S 11))),
  (g.2.2 24, .inr (4, [.int (gF S 32), .int (gF S 33), .ref (g.2.2 25), .ref (g.2.2 26), .ref (g.2.2 27), .ref (g.2.2 28), .ref (g.2.2 29), .ref (g.2.2 30), .ref (g.2.2 31)])),
  (g.2.2 25, .inl (g.2.1 0, 16, .inl (aR S 12))),
  (g.2.2 26, .inl (g.2.1 0, 16, .inl (aR S 13))),
  (g.2.2 27, .inl (g.2.1 0, 16, .inl (aR S 14))),
  (g.2.2 28, .inl (g.2.1 0, 16, .inl (aR S 15))),
  (g.2.2 29, .inl (g.2.1 0, 16, .inl (aR S 16))),
  (g.2.2 30, .inl (g.2.1 0, 64, .inl (aR S 17))),
  (g.2.2 31, .inl (g.2.1 0, 64, .inl (aR S 18))),
  (g.2.2 32, .inr (2, [.int (gF S 34), .int (gF S 35), .int (gF S 36), .int (gF S 37), .ref (g.2.2 33), .ref (g.2.2 34)])),
  (g.2.2 33, .inl (g.2.1 1, 120, .inl (aR S 19))),
  (g.2.2 34, .inl (g.2.1 0, 64, .inl (aR S 20))),
  (g.2.2 35, .inl (g.2.1 0, 3, .inl (aR S 7)))]
abbrev xT (g : xG) : List (ClassId × FieldType) := [(g.2.1 0, .int), (g.2.1 1, .byte), (g.2.1 2, .long), (g.2.1 3, .object "CubeLegs$Task")]
def xA (g : xG) : Nat → Prop := fun q => ∃ k, k < 36 ∧ q = g.2.2 k
def xB (g : xG) (S : St) (U : State) : Prop := va_P g.1 vwCl (xW g S) U.heap ∧ va_K g.1 vwCl (xT g) U ∧ va_D (xA g) (xW g S)
def xI (g : xG) (s : State) (S : St) (H : Heap) (locs : List Loc) : Prop := va_K g.1 vwCl (xT g) s ∧ va_P g.1 vwCl (xW g S) H ∧ va_D (xA g) (xW g S) ∧ va_S (xA g) s.heap H locs
theorem x_blind {av : List Value} {S : St} {g : xG} : FrameBlind (va_Pc av (xB g S)) := fun a U f mk q => ⟨q.1, q.2.1, va_K.moved (u := U) (U := U.calling f mk a) (Vm.Alike.refl U.vm) q.2.2.1, q.2.2.2⟩
section
variable {p : Program} {l : Launch} {e : Env} {R : Room} {s : State} {m : MethodId} {args : Array Value} {below : List Frame} {meth : Method} {c : Code} {cells slots : Nat} {Q : State → Prop} {g : xG} {H : Heap} {locs : List Loc} {ls : Array Slot} {S S' : St} {cc : ByteArray} {nL pc : Nat} {rest : List Value}
theorem xcv_i {rr : Int32} {own C : String} {index n maxL : Nat} {y : MethodName} {bytes : ByteArray} {ret : Option FieldType} {rm : Room} {b : Nat} {As st0 : List Value} (C0 : CallFix p m c cc nL s args big own) (I : xI g s S H locs) (hM : Met l y (Cond.code y bytes maxL ret :: big) rm (va_Pc (.ref b :: As) (xB g S)) (va_Qi (fun r' S2 => r' = rr ∧ S2 = S') (xB g) (xA g)) 0 0 (xA g)) (cw : CallW R s args own C index y bytes maxL ret (Cond.code y bytes maxL ret :: big) rm 0 0 n) (hrc : ∃ cell : Cell, H[b]? = some cell ∧ cell.vm.isStatics = false ∧ s.vm.findClass C = some cell.cls) (hn : As.length = n) (hsz : ls.size = nL) (hst : st0 = As.reverse ++ .ref b :: rest) (hW : (rest.map fun v => v.category).sum ≤ 8) (hd : decode cc pc = .ok (.invokevirtual index, 3)) (k : ∀ (H1 : Heap) (locs1 : List Loc), xI g s S' H1 locs1 → W p l e R s m args below meth c H1 locs1 cells slots Q (F0 m (pc + 3) ls (.int rr :: rest))) (hce : cells ≤ R.cells := by exact Nat.zero_le _) (hsl : slots ≤ R.slots := by exact Nat.zero_le _) : W p l e R s m args below meth c H locs cells slots Q (F0 m pc ls st0) := by
  subst hst
  refine va_calli (va_runV (As := As) (rest := rest) C0 hM cw ⟨x_blind, hrc, fun U hU hW => ⟨rfl, by rw [hU]; exact I.2.1, va_K.moved hW.alike I.1, I.2.2.1⟩⟩ rfl hn hsz rfl (lv_room hW) hd ⟨hce, hsl⟩) I.2.2.2 (fun q _ h => h) (fun q h => h) (fun r u t H1 locs ht hvm hw hB hz1 hk1 hS => ?_)
  obtain ⟨rfl, rfl⟩ := hw
  exact k H1 locs ⟨I.1, by rw [← ht]; exact hB.1, hB.2.2, hS⟩
theorem xcs_i {rr : Int32} {own C : String} {index n maxL : Nat} {y : MethodName} {bytes : ByteArray} {ret : Option FieldType} {rm : Room} {b : Nat} {As st0 : List Value} (C0 : CallFix p m c cc nL s args big own) (I : xI g s S H locs) (hM : Met l y (Cond.code y bytes maxL ret :: big) rm (va_Pc As (xB g S)) (va_Qi (fun r' S2 => r' = rr ∧ S2 = S') (xB g) (xA g)) 0 0 (xA g)) (cw : CallB R s args own index y bytes maxL ret (Cond.code y bytes maxL ret :: big) rm 0 0 n ∧ (Cond.static y).before args s = true) (hn : As.length = n) (hsz : ls.size = nL) (hst : st0 = As.reverse ++ rest) (hW : (rest.map fun v => v.category).sum ≤ 8) (hd : decode cc pc = .ok (.invokestatic index, 3)) (k : ∀ (H1 : Heap) (locs1 : List Loc), xI g s S' H1 locs1 → W p l e R s m args below meth c H1 locs1 cells slots Q (F0 m (pc + 3) ls (.int rr :: rest))) (hce : cells ≤ R.cells := by exact Nat.zero_le _) (hsl : slots ≤ R.slots := by exact Nat.zero_le _) : W p l e R s m args below meth c H locs cells slots Q (F0 m pc ls st0) := by
  subst hst
  refine va_calli (va_runS (As := As) (rest := rest) C0 hM cw ⟨x_blind, fun U hU hW => ⟨rfl, by rw [hU]; exact I.2.1, va_K.moved hW.alike I.1, I.2.2.1⟩⟩ rfl hn hsz rfl (lv_room hW) hd ⟨hce, hsl⟩) I.2.2.2 (fun q _ h => h) (fun q h => h) (fun r u t H1 locs ht hvm hw hB hz1 hk1 hS => ?_)
  obtain ⟨rfl, rfl⟩ := hw
  exact k H1 locs ⟨I.1, by rw [← ht]; exact hB.1, hB.2.2, hS⟩
theorem xcv_l {rr : Int64} {own C : String} {index n maxL : Nat} {y : MethodName} {bytes : ByteArray} {ret : Option FieldType} {rm : Room} {b : Nat} {As st0 : List Value} (C0 : CallFix p m c cc nL s args big own) (I : xI g s S H locs) (hM : Met l y (Cond.code y bytes maxL ret :: big) rm (va_Pc (.ref b :: As) (xB g S)) (va_Ql (fun r' S2 => r' = rr ∧ S2 = S') (xB g) (xA g)) 0 0 (xA g)) (cw : CallW R s args own C index y bytes maxL ret (Cond.code y bytes maxL ret :: big) rm 0 0 n) (hrc : ∃ cell : Cell, H[b]? = some cell ∧ cell.vm.isStatics = false ∧ s.vm.findClass C = some cell.cls) (hn : As.length = n) (hsz : ls.size = nL) (hst : st0 = As.reverse ++ .ref b :: rest) (hW : (rest.map fun v => v.category).sum ≤ 8) (hd : decode cc pc = .ok (.invokevirtual index, 3)) (k : ∀ (H1 : Heap) (locs1 : List Loc), xI g s S' H1 locs1 → W p l e R s m args below meth c H1 locs1 cells slots Q (F0 m (pc + 3) ls (.long rr :: rest))) (hce : cells ≤ R.cells := by exact Nat.zero_le _) (hsl : slots ≤ R.slots := by exact Nat.zero_le _) : W p l e R s m args below meth c H locs cells slots Q (F0 m pc ls st0) := by
  subst hst
  refine va_calll (va_runV (As := As) (rest := rest) C0 hM cw ⟨x_blind, hrc, fun U hU hW => ⟨rfl, by rw [hU]; exact I.2.1, va_K.moved hW.alike I.1, I.2.2.1⟩⟩ rfl hn hsz rfl (lv_room hW) hd ⟨hce, hsl⟩) I.2.2.2 (fun q _ h => h) (fun q h => h) (fun r u t H1 locs ht hvm hw hB hz1 hk1 hS => ?_)
  obtain ⟨rfl, rfl⟩ := hw
  exact k H1 locs ⟨I.1, by rw [← ht]; exact hB.1, hB.2.2, hS⟩
theorem xcs_l {rr : Int64} {own C : String} {index n maxL : Nat} {y : MethodName} {bytes : ByteArray} {ret : Option FieldType} {rm : Room} {b : Nat} {As st0 : List Value} (C0 : CallFix p m c cc nL s args big own) (I : xI g s S H locs) (hM : Met l y (Cond.code y bytes maxL ret :: big) rm (va_Pc As (xB g S)) (va_Ql (fun r' S2 => r' = rr ∧ S2 = S') (xB g) (xA g)) 0 0 (xA g)) (cw : CallB R s args own index y bytes maxL ret (Cond.code y bytes maxL ret :: big) rm 0 0 n ∧ (Cond.static y).before args s = true) (hn : As.length = n) (hsz : ls.size = nL) (hst : st0 = As.reverse ++ rest) (hW : (rest.map fun v => v.category).sum ≤ 8) (hd : decode cc pc = .ok (.invokestatic index, 3)) (k : ∀ (H1 : Heap) (locs1 : List Loc), xI g s S' H1 locs1 → W p l e R s m args below meth c H1 locs1 cells slots Q (F0 m (pc + 3) ls (.long rr :: rest))) (hce : cells ≤ R.cells := by exact Nat.zero_le _) (hsl : slots ≤ R.slots := by exact Nat.zero_le _) : W p l e R s m args below meth c H locs cells slots Q (F0 m pc ls st0) := by
  subst hst
  refine va_calll (va_runS (As := As) (rest := rest) C0 hM cw ⟨x_blind, fun U hU hW => ⟨rfl, by rw [hU]; exact I.2.1, va_K.moved hW.alike I.1, I.2.2.1⟩⟩ rfl hn hsz rfl (lv_room hW) hd ⟨hce, hsl⟩) I.2.2.2 (fun q _ h => h) (fun q h => h) (fun r u t H1 locs ht hvm hw hB hz1 hk1 hS => ?_)
  obtain ⟨rfl, rfl⟩ := hw
  exact k H1 locs ⟨I.1, by rw [← ht]; exact hB.1, hB.2.2, hS⟩
theorem xcv_v  {own C : String} {index n maxL : Nat} {y : MethodName} {bytes : ByteArray} {ret : Option FieldType} {rm : Room} {b : Nat} {As st0 : List Value} (C0 : CallFix p m c cc nL s args big own) (I : xI g s S H locs) (hM : Met l y (Cond.code y bytes maxL ret :: big) rm (va_Pc (.ref b :: As) (xB g S)) (va_Qv (fun S2 => S2 = S') (xB g) (xA g)) 0 0 (xA g)) (cw : CallW R s args own C index y bytes maxL ret (Cond.code y bytes maxL ret :: big) rm 0 0 n) (hrc : ∃ cell : Cell, H[b]? = some cell ∧ cell.vm.isStatics = false ∧ s.vm.findClass C = some cell.cls) (hn : As.length = n) (hsz : ls.size = nL) (hst : st0 = As.reverse ++ .ref b :: rest) (hW : (rest.map fun v => v.category).sum ≤ 8) (hd : decode cc pc = .ok (.invokevirtual index, 3)) (k : ∀ (H1 : Heap) (locs1 : List Loc), xI g s S' H1 locs1 → W p l e R s m args below meth c H1 locs1 cells slots Q (F0 m (pc + 3) ls (rest))) (hce : cells ≤ R.cells := by exact Nat.zero_le _) (hsl : slots ≤ R.slots := by exact Nat.zero_le _) : W p l e R s m args below meth c H locs cells slots Q (F0 m pc ls st0) := by
  subst hst
  refine va_callv (va_runV (As := As) (rest := rest) C0 hM cw ⟨x_blind, hrc, fun U hU hW => ⟨rfl, by rw [hU]; exact I.2.1, va_K.moved hW.alike I.1, I.2.2.1⟩⟩ rfl hn hsz rfl (lv_room hW) hd ⟨hce, hsl⟩) I.2.2.2 (fun q _ h => h) (fun q h => h) (fun u t H1 locs ht hvm hw hB hz1 hk1 hS => ?_)
  subst hw
  exact k H1 locs ⟨I.1, by rw [← ht]; exact hB.1, hB.2.2, hS⟩
theorem xcs_v  {own C : String} {index n maxL : Nat} {y : MethodName} {bytes : ByteArray} {ret : Option FieldType} {rm : Room} {b : Nat} {As st0 : List Value} (C0 : CallFix p m c cc nL s args big own) (I : xI g s S H locs) (hM : Met l y (Cond.code y bytes maxL ret :: big) rm (va_Pc As (xB g S)) (va_Qv (fun S2 => S2 = S') (xB g) (xA g)) 0 0 (xA g)) (cw : CallB R s args own index y bytes maxL ret (Cond.code y bytes maxL ret :: big) rm 0 0 n ∧ (Cond.static y).before args s = true) (hn : As.length = n) (hsz : ls.size = nL) (hst : st0 = As.reverse ++ rest) (hW : (rest.map fun v => v.category).sum ≤ 8) (hd : decode cc pc = .ok (.invokestatic index, 3)) (k : ∀ (H1 : Heap) (locs1 : List Loc), xI g s S' H1 locs1 → W p l e R s m args below meth c H1 locs1 cells slots Q (F0 m (pc + 3) ls (rest))) (hce : cells ≤ R.cells := by exact Nat.zero_le _) (hsl : slots ≤ R.slots := by exact Nat.zero_le _) : W p l e R s m args below meth c H locs cells slots Q (F0 m pc ls st0) := by
  subst hst
  refine va_callv (va_runS (As := As) (rest := rest) C0 hM cw ⟨x_blind, fun U hU hW => ⟨rfl, by rw [hU]; exact I.2.1, va_K.moved hW.alike I.1, I.2.2.1⟩⟩ rfl hn hsz rfl (lv_room hW) hd ⟨hce, hsl⟩) I.2.2.2 (fun q _ h => h) (fun q h => h) (fun u t H1 locs ht hvm hw hB hz1 hk1 hS => ?_)
  subst hw
  exact k H1 locs ⟨I.1, by rw [← ht]; exact hB.1, hB.2.2, hS⟩
theorem xri {own : String} {rr : Int32} (C0 : CallFix p m c cc nL s args big own) (hr : meth.sig.returnType = some .int) (hk : meth.locks = false) (I : xI g s S H locs) (hd : decode cc pc = .ok (.ireturn, 1)) : W p l e R s m args below meth c H locs 0 0 (MQ below (va_Qi (fun r' S2 => r' = rr ∧ S2 = S) (xB g) (xA g)) args s 0 0 (xA g)) (F0 m pc ls [.int rr]) :=
  W.iret (v := rr) C0.1 C0.2.1 hr (fun t ht hW => ⟨⟨rr, S, rfl, ⟨rfl, rfl⟩, by rw [ht]; exact I.2.1, va_K.moved hW.alike I.1, I.2.2.1⟩, I.2.2.2.F ht⟩) I.2.2.2.2.2 hd hk
theorem xrz {own : String} {rr : Int32} (C0 : CallFix p m c cc nL s args big own) (hr : meth.sig.returnType = some .boolean) (hk : meth.locks = false) (hz : narrow .boolean (.int rr) = .int rr) (I : xI g s S H locs) (hd : decode cc pc = .ok (.ireturn, 1)) : W p l e R s m args below meth c H locs 0 0 (MQ below (va_Qi (fun r' S2 => r' = rr ∧ S2 = S) (xB g) (xA g)) args s 0 0 (xA g)) (F0 m pc ls [.int rr]) :=
  W.zret (v := rr) C0.1 C0.2.1 hr hz (fun t ht hW => ⟨⟨rr, S, rfl, ⟨rfl, rfl⟩, by rw [ht]; exact I.2.1, va_K.moved hW.alike I.1, I.2.2.1⟩, I.2.2.2.F ht⟩) I.2.2.2.2.2 hd hk
theorem xrl {own : String} {rr : Int64} (C0 : CallFix p m c cc nL s args big own) (hr : meth.sig.returnType = some .long) (hk : meth.locks = false) (I : xI g s S H locs) (hd : decode cc pc = .ok (.lreturn, 1)) : W p l e R s m args below meth c H locs 0 0 (MQ below (va_Ql (fun r' S2 => r' = rr ∧ S2 = S) (xB g) (xA g)) args s 0 0 (xA g)) (F0 m pc ls [.long rr]) :=
  W.lret (v := rr) C0.1 C0.2.1 hr (fun t ht hW => ⟨⟨rr, S, rfl, ⟨rfl, rfl⟩, by rw [ht]; exact I.2.1, va_K.moved hW.alike I.1, I.2.2.1⟩, I.2.2.2.F ht⟩) I.2.2.2.2.2 hd hk
theorem xrv {own : String} (C0 : CallFix p m c cc nL s args big own) (hr : meth.sig.returnType = none) (hk : meth.locks = false) (I : xI g s S H locs) (hd : decode cc pc = .ok (.return_, 1)) : W p l e R s m args below meth c H locs 0 0 (MQ below (va_Qv (fun S2 => S2 = S) (xB g) (xA g)) args s 0 0 (xA g)) (F0 m pc ls []) :=
  W.vret C0.1 C0.2.1 hr (fun t ht hW => ⟨⟨S, rfl, rfl, by rw [ht]; exact I.2.1, va_K.moved hW.alike I.1, I.2.2.1⟩, I.2.2.2.F ht⟩) I.2.2.2.2.2 hd hk
theorem xa {i : Int32} {j : Nat} (hx : p.tables.exec = Jvm.exec) (hb : c.code = cc) (I : xI g s S H locs) (hi : vp_in i 6) (he : i.toNatClampNeg = j) (hd : decode cc pc = .ok (.aaload, 1)) (k : W p l e R s m args below meth c H locs cells slots Q (F0 m (pc + 1) ls (.ref (g.2.2 (5 + 2 * j)) :: rest))) : W p l e R s m args below meth c H locs cells slots Q (F0 m pc ls (.int i :: .ref (g.2.2 4) :: rest)) := by
  subst he
  exact va_aldq (f := fun j => some (g.2.2 (5 + 2 * j))) hx hb I.1 I.2.1 4 3 rfl rfl hi hd k
end
def mW (g : xG) (S : St) : va_W := [(g.2.2 0, .inr (7, [.ref (g.2.2 1), .int (gF S 1), .int (gF S 2), .ref (g.2.2 2), .ref (g.2.2 3), .ref (g.2.2 4), .ref (g.2.2 5), .ref (g.2.2 6), .int (gF S 8), .ref (g.2.2 7), .ref (g.2.2 8), .ref (g.2.2 9), .ref (g.2.2 10), .ref (g.2.2 11), .int (gF S 14), .int (gF S 15), .ref (g.2.2 12), .ref (g.2.2 13), .ref (g.2.2 14), .ref (g.2.2 15), .int (gF S 20), .int (gF S 21), .ref (g.2.2 16), .ref (g.2.2 17), .int (gF S 24), .int (gF S 25), .int (gF S 26), .int (gF S 27), .int (gF S 28)])),
  (g.2.2 1, .inl (g.2.1 0, 3, .inl (aR S 0))),
  (g.2.2 2, .inl (g.2.1 0, 2, .inl (aR S 1))),
  (g.2.2 3, .inl (g.2.1 0, 16, .inl (aR S 2))),
  (g.2.2 4, .inl (g.2.1 0, 16, .inl (aR S 3))),
  (g.2.2 5, .inl (g.2.1 0, 16, .inl (aR S 4))),
  (g.2.2 6, .inl (g.2.1 0, 16, .inl (aR S 5))),
  (g.2.2 7, .inl (g.2.1 0, 408, .inl (aR S 6))),
  (g.2.2 8, .inl (g.2.1 0, 16, .inl (aR S 7))),
  (g.2.2 9, .inl (g.2.1 0, 16, .inl (aR S 8))),
  (g.2.2 10, .inl (g.2.1 0, 144, .inl (aR S 9))),
  (g.2.2 11, .inl (g.2.1 0, 64, .inl (aR S 10))),
  (g.2.2 12, .inl (g.2.1 0, 16, .inl (aR S 11))),
  (g.2.2 13, .inl (g.2.1 0, 16, .inl (aR S 12))),
  (g.2.2 14, .inl (g.2.1 0, 16, .inl (aR S 13))),
  (g.2.2 15, .inl (g.2.1 0, 16, .inl (aR S 14))),
  (g.2.2 16, .inl (g.2.1 0, 16, .inl (aR S 15))),
  (g.2.2 17, .inl (g.2.1 0, 120, .inl (aR S 16)))]
abbrev mT (g : xG) : List (ClassId × FieldType) := [(g.2.1 0, .int)]
def mA (g : xG) : Nat → Prop := fun q => ∃ k, k < 18 ∧ q = g.2.2 k
def mB (g : xG) (S : St) (U : State) : Prop := va_P g.1 vwCl (mW g S) U.heap ∧ va_K g.1 vwCl (mT g) U ∧ va_D (mA g) (mW g S)
def mI (g : xG) (s : State) (S : St) (H : Heap) (locs : List Loc) : Prop := va_K g.1 vwCl (mT g) s ∧ va_P g.1 vwCl (mW g S) H ∧ va_D (mA g) (mW g S) ∧ va_S (mA g) s.heap H locs
theorem m_blind {av : List Value} {S : St} {g : xG} : FrameBlind (va_Pc av (mB g S)) := fun a U f mk q => ⟨q.1, q.2.1, va_K.moved (u := U) (U := U.calling f mk a) (Vm.Alike.refl U.vm) q.2.2.1, q.2.2.2⟩
section
variable {p : Program} {l : Launch} {e : Env} {R : Room} {s : State} {m : MethodId} {args : Array Value} {below : List Frame} {meth : Method} {c : Code} {cells slots : Nat} {Q : State → Prop} {g : xG} {H : Heap} {locs : List Loc} {ls : Array Slot} {S S' : St} {cc : ByteArray} {nL pc : Nat} {rest : List Value}
theorem mcv_i {rr : Int32} {own C : String} {index n maxL : Nat} {y : MethodName} {bytes : ByteArray} {ret : Option FieldType} {rm : Room} {b : Nat} {As st0 : List Value} (C0 : CallFix p m c cc nL s args big own) (I : mI g s S H locs) (hM : Met l y (Cond.code y bytes maxL ret :: big) rm (va_Pc (.ref b :: As) (mB g S)) (va_Qi (fun r' S2 => r' = rr ∧ S2 = S') (mB g) (mA g)) 0 0 (mA g)) (cw : CallW R s args own C index y bytes maxL ret (Cond.code y bytes maxL ret :: big) rm 0 0 n) (hrc : ∃ cell : Cell, H[b]? = some cell ∧ cell.vm.isStatics = false ∧ s.vm.findClass C = some cell.cls) (hn : As.length = n) (hsz : ls.size = nL) (hst : st0 = As.reverse ++ .ref b :: rest) (hW : (rest.map fun v => v.category).sum ≤ 8) (hd : decode cc pc = .ok (.invokevirtual index, 3)) (k : ∀ (H1 : Heap) (locs1 : List Loc), mI g s S' H1 locs1 → W p l e R s m args below meth c H1 locs1 cells slots Q (F0 m (pc + 3) ls (.int rr :: rest))) (hce : cells ≤ R.cells := by exact Nat.zero_le _) (hsl : slots ≤ R.slots := by exact Nat.zero_le _) : W p l e R s m args below meth c H locs cells slots Q (F0 m pc ls st0) := by
  subst hst
  refine va_calli (va_runV (As := As) (rest := rest) C0 hM cw ⟨m_blind, hrc, fun U hU hW => ⟨rfl, by rw [hU]; exact I.2.1, va_K.moved hW.alike I.1, I.2.2.1⟩⟩ rfl hn hsz rfl (lv_room hW) hd ⟨hce, hsl⟩) I.2.2.2 (fun q _ h => h) (fun q h => h) (fun r u t H1 locs ht hvm hw hB hz1 hk1 hS => ?_)
  obtain ⟨rfl, rfl⟩ := hw
  exact k H1 locs ⟨I.1, by rw [← ht]; exact hB.1, hB.2.2, hS⟩
theorem mcs_i {rr : Int32} {own C : String} {index n maxL : Nat} {y : MethodName} {bytes : ByteArray} {ret : Option FieldType} {rm : Room} {b : Nat} {As st0 : List Value} (C0 : CallFix p m c cc nL s args big own) (I : mI g s S H locs) (hM : Met l y (Cond.code y bytes maxL ret :: big) rm (va_Pc As (mB g S)) (va_Qi (fun r' S2 => r' = rr ∧ S2 = S') (mB g) (mA g)) 0 0 (mA g)) (cw : CallB R s args own index y bytes maxL ret (Cond.code y bytes maxL ret :: big) rm 0 0 n ∧ (Cond.static y).before args s = true) (hn : As.length = n) (hsz : ls.size = nL) (hst : st0 = As.reverse ++ rest) (hW : (rest.map fun v => v.category).sum ≤ 8) (hd : decode cc pc = .ok (.invokestatic index, 3)) (k : ∀ (H1 : Heap) (locs1 : List Loc), mI g s S' H1 locs1 → W p l e R s m args below meth c H1 locs1 cells slots Q (F0 m (pc + 3) ls (.int rr :: rest))) (hce : cells ≤ R.cells := by exact Nat.zero_le _) (hsl : slots ≤ R.slots := by exact Nat.zero_le _) : W p l e R s m args below meth c H locs cells slots Q (F0 m pc ls st0) := by
  subst hst
  refine va_calli (va_runS (As := As) (rest := rest) C0 hM cw ⟨m_blind, fun U hU hW => ⟨rfl, by rw [hU]; exact I.2.1, va_K.moved hW.alike I.1, I.2.2.1⟩⟩ rfl hn hsz rfl (lv_room hW) hd ⟨hce, hsl⟩) I.2.2.2 (fun q _ h => h) (fun q h => h) (fun r u t H1 locs ht hvm hw hB hz1 hk1 hS => ?_)
  obtain ⟨rfl, rfl⟩ := hw
  exact k H1 locs ⟨I.1, by rw [← ht]; exact hB.1, hB.2.2, hS⟩
theorem mcv_l {rr : Int64} {own C : String} {index n maxL : Nat} {y : MethodName} {bytes : ByteArray} {ret : Option FieldType} {rm : Room} {b : Nat} {As st0 : List Value} (C0 : CallFix p m c cc nL s args big own) (I : mI g s S H locs) (hM : Met l y (Cond.code y bytes maxL ret :: big) rm (va_Pc (.ref b :: As) (mB g S)) (va_Ql (fun r' S2 => r' = rr ∧ S2 = S') (mB g) (mA g)) 0 0 (mA g)) (cw : CallW R s args own C index y bytes maxL ret (Cond.code y bytes maxL ret :: big) rm 0 0 n) (hrc : ∃ cell : Cell, H[b]? = some cell ∧ cell.vm.isStatics = false ∧ s.vm.findClass C = some cell.cls) (hn : As.length = n) (hsz : ls.size = nL) (hst : st0 = As.reverse ++ .ref b :: rest) (hW : (rest.map fun v => v.category).sum ≤ 8) (hd : decode cc pc = .ok (.invokevirtual index, 3)) (k : ∀ (H1 : Heap) (locs1 : List Loc), mI g s S' H1 locs1 → W p l e R s m args below meth c H1 locs1 cells slots Q (F0 m (pc + 3) ls (.long rr :: rest))) (hce : cells ≤ R.cells := by exact Nat.zero_le _) (hsl : slots ≤ R.slots := by exact Nat.zero_le _) : W p l e R s m args below meth c H locs cells slots Q (F0 m pc ls st0) := by
  subst hst
  refine va_calll (va_runV (As := As) (rest := rest) C0 hM cw ⟨m_blind, hrc, fun U hU hW => ⟨rfl, by rw [hU]; exact I.2.1, va_K.moved hW.alike I.1, I.2.2.1⟩⟩ rfl hn hsz rfl (lv_room hW) hd ⟨hce, hsl⟩) I.2.2.2 (fun q _ h => h) (fun q h => h) (fun r u t H1 locs ht hvm hw hB hz1 hk1 hS => ?_)
  obtain ⟨rfl, rfl⟩ := hw
  exact k H1 locs ⟨I.1, by rw [← ht]; exact hB.1, hB.2.2, hS⟩
theorem mcs_l {rr : Int64} {own C : String} {index n maxL : Nat} {y : MethodName} {bytes : ByteArray} {ret : Option FieldType} {rm : Room} {b : Nat} {As st0 : List Value} (C0 : CallFix p m c cc nL s args big own) (I : mI g s S H locs) (hM : Met l y (Cond.code y bytes maxL ret :: big) rm (va_Pc As (mB g S)) (va_Ql (fun r' S2 => r' = rr ∧ S2 = S') (mB g) (mA g)) 0 0 (mA g)) (cw : CallB R s args own index y bytes maxL ret (Cond.code y bytes maxL ret :: big) rm 0 0 n ∧ (Cond.static y).before args s = true) (hn : As.length = n) (hsz : ls.size = nL) (hst : st0 = As.reverse ++ rest) (hW : (rest.map fun v => v.category).sum ≤ 8) (hd : decode cc pc = .ok (.invokestatic index, 3)) (k : ∀ (H1 : Heap) (locs1 : List Loc), mI g s S' H1 locs1 → W p l e R s m args below meth c H1 locs1 cells slots Q (F0 m (pc + 3) ls (.long rr :: rest))) (hce : cells ≤ R.cells := by exact Nat.zero_le _) (hsl : slots ≤ R.slots := by exact Nat.zero_le _) : W p l e R s m args below meth c H locs cells slots Q (F0 m pc ls st0) := by
  subst hst
  refine va_calll (va_runS (As := As) (rest := rest) C0 hM cw ⟨m_blind, fun U hU hW => ⟨rfl, by rw [hU]; exact I.2.1, va_K.moved hW.alike I.1, I.2.2.1⟩⟩ rfl hn hsz rfl (lv_room hW) hd ⟨hce, hsl⟩) I.2.2.2 (fun q _ h => h) (fun q h => h) (fun r u t H1 locs ht hvm hw hB hz1 hk1 hS => ?_)
  obtain ⟨rfl, rfl⟩ := hw
  exact k H1 locs ⟨I.1, by rw [← ht]; exact hB.1, hB.2.2, hS⟩
theorem mcv_v  {own C : String} {index n maxL : Nat} {y : MethodName} {bytes : ByteArray} {ret : Option FieldType} {rm : Room} {b : Nat} {As st0 : List Value} (C0 : CallFix p m c cc nL s args big own) (I : mI g s S H locs) (hM : Met l y (Cond.code y bytes maxL ret :: big) rm (va_Pc (.ref b :: As) (mB g S)) (va_Qv (fun S2 => S2 = S') (mB g) (mA g)) 0 0 (mA g)) (cw : CallW R s args own C index y bytes maxL ret (Cond.code y bytes maxL ret :: big) rm 0 0 n) (hrc : ∃ cell : Cell, H[b]? = some cell ∧ cell.vm.isStatics = false ∧ s.vm.findClass C = some cell.cls) (hn : As.length = n) (hsz : ls.size = nL) (hst : st0 = As.reverse ++ .ref b :: rest) (hW : (rest.map fun v => v.category).sum ≤ 8) (hd : decode cc pc = .ok (.invokevirtual index, 3)) (k : ∀ (H1 : Heap) (locs1 : List Loc), mI g s S' H1 locs1 → W p l e R s m args below meth c H1 locs1 cells slots Q (F0 m (pc + 3) ls (rest))) (hce : cells ≤ R.cells := by exact Nat.zero_le _) (hsl : slots ≤ R.slots := by exact Nat.zero_le _) : W p l e R s m args below meth c H locs cells slots Q (F0 m pc ls st0) := by
  subst hst
  refine va_callv (va_runV (As := As) (rest := rest) C0 hM cw ⟨m_blind, hrc, fun U hU hW => ⟨rfl, by rw [hU]; exact I.2.1, va_K.moved hW.alike I.1, I.2.2.1⟩⟩ rfl hn hsz rfl (lv_room hW) hd ⟨hce, hsl⟩) I.2.2.2 (fun q _ h => h) (fun q h => h) (fun u t H1 locs ht hvm hw hB hz1 hk1 hS => ?_)
  subst hw
  exact k H1 locs ⟨I.1, by rw [← ht]; exact hB.1, hB.2.2, hS⟩
theorem mcs_v  {own C : String} {index n maxL : Nat} {y : MethodName} {bytes : ByteArray} {ret : Option FieldType} {rm : Room} {b : Nat} {As st0 : List Value} (C0 : CallFix p m c cc nL s args big own) (I : mI g s S H locs) (hM : Met l y (Cond.code y bytes maxL ret :: big) rm (va_Pc As (mB g S)) (va_Qv (fun S2 => S2 = S') (mB g) (mA g)) 0 0 (mA g)) (cw : CallB R s args own index y bytes maxL ret (Cond.code y bytes maxL ret :: big) rm 0 0 n ∧ (Cond.static y).before args s = true) (hn : As.length = n) (hsz : ls.size = nL) (hst : st0 = As.reverse ++ rest) (hW : (rest.map fun v => v.category).sum ≤ 8) (hd : decode cc pc = .ok (.invokestatic index, 3)) (k : ∀ (H1 : Heap) (locs1 : List Loc), mI g s S' H1 locs1 → W p l e R s m args below meth c H1 locs1 cells slots Q (F0 m (pc + 3) ls (rest))) (hce : cells ≤ R.cells := by exact Nat.zero_le _) (hsl : slots ≤ R.slots := by exact Nat.zero_le _) : W p l e R s m args below meth c H locs cells slots Q (F0 m pc ls st0) := by
  subst hst
  refine va_callv (va_runS (As := As) (rest := rest) C0 hM cw ⟨m_blind, fun U hU hW => ⟨rfl, by rw [hU]; exact I.2.1, va_K.moved hW.alike I.1, I.2.2.1⟩⟩ rfl hn hsz rfl (lv_room hW) hd ⟨hce, hsl⟩) I.2.2.2 (fun q _ h => h) (fun q h => h) (fun u t H1 locs ht hvm hw hB hz1 hk1 hS => ?_)
  subst hw
  exact k H1 locs ⟨I.1, by rw [← ht]; exact hB.1, hB.2.2, hS⟩
theorem mri {own : String} {rr : Int32} (C0 : CallFix p m c cc nL s args big own) (hr : meth.sig.returnType = some .int) (hk : meth.locks = false) (I : mI g s S H locs) (hd : decode cc pc = .ok (.ireturn, 1)) : W p l e R s m args below meth c H locs 0 0 (MQ below (va_Qi (fun r' S2 => r' = rr ∧ S2 = S) (mB g) (mA g)) args s 0 0 (mA g)) (F0 m pc ls [.int rr]) :=
  W.iret (v := rr) C0.1 C0.2.1 hr (fun t ht hW => ⟨⟨rr, S, rfl, ⟨rfl, rfl⟩, by rw [ht]; exact I.2.1, va_K.moved hW.alike I.1, I.2.2.1⟩, I.2.2.2.F ht⟩) I.2.2.2.2.2 hd hk
theorem mrz {own : String} {rr : Int32} (C0 : CallFix p m c cc nL s args big own) (hr : meth.sig.returnType = some .boolean) (hk : meth.locks = false) (hz : narrow .boolean (.int rr) = .int rr) (I : mI g s S H locs) (hd : decode cc pc = .ok (.ireturn, 1)) : W p l e R s m args below meth c H locs 0 0 (MQ below (va_Qi (fun r' S2 => r' = rr ∧ S2 = S) (mB g) (mA g)) args s 0 0 (mA g)) (F0 m pc ls [.int rr]) :=
  W.zret (v := rr) C0.1 C0.2.1 hr hz (fun t ht hW => ⟨⟨rr, S, rfl, ⟨rfl, rfl⟩, by rw [ht]; exact I.2.1, va_K.moved hW.alike I.1, I.2.2.1⟩, I.2.2.2.F ht⟩) I.2.2.2.2.2 hd hk
theorem mrl {own : String} {rr : Int64} (C0 : CallFix p m c cc nL s args big own) (hr : meth.sig.returnType = some .long) (hk : meth.locks = false) (I : mI g s S H locs) (hd : decode cc pc = .ok (.lreturn, 1)) : W p l e R s m args below meth c H locs 0 0 (MQ below (va_Ql (fun r' S2 => r' = rr ∧ S2 = S) (mB g) (mA g)) args s 0 0 (mA g)) (F0 m pc ls [.long rr]) :=
  W.lret (v := rr) C0.1 C0.2.1 hr (fun t ht hW => ⟨⟨rr, S, rfl, ⟨rfl, rfl⟩, by rw [ht]; exact I.2.1, va_K.moved hW.alike I.1, I.2.2.1⟩, I.2.2.2.F ht⟩) I.2.2.2.2.2 hd hk
theorem mrv {own : String} (C0 : CallFix p m c cc nL s args big own) (hr : meth.sig.returnType = none) (hk : meth.locks = false) (I : mI g s S H locs) (hd : decode cc pc = .ok (.return_, 1)) : W p l e R s m args below meth c H locs 0 0 (MQ below (va_Qv (fun S2 => S2 = S) (mB g) (mA g)) args s 0 0 (mA g)) (F0 m pc ls []) :=
  W.vret C0.1 C0.2.1 hr (fun t ht hW => ⟨⟨S, rfl, rfl, by rw [ht]; exact I.2.1, va_K.moved hW.alike I.1, I.2.2.1⟩, I.2.2.2.F ht⟩) I.2.2.2.2.2 hd hk
end
end
section
section
variable {p : Program} {l : Launch} {e : Env} {R : Room} {s : State} {m : MethodId} {args : Array Value} {below : List Frame} {meth : Method} {c : Code} {cells slots : Nat} {Q : State → Prop} {g : xG} {H : Heap} {locs : List Loc} {ls : Array Slot} {S S' : St} {cc : ByteArray} {nL pc : Nat} {rest : List Value}
theorem mg_X7_79_0 (C0 : CallFix p m c cc nL s args big RX7) (I : mI g s S H locs) (hd : decode cc pc = .ok (.getfield 79, 3)) (k : W p l e R s m args below meth c H locs cells slots Q (F0 m (pc + 3) ls (.int (gF S 8) :: rest))) : W p l e R s m args below meth c H locs cells slots Q (F0 m pc ls (.ref (g.2.2 0) :: rest)) :=
  va_get (D := g.1) (ci := 7) (v := .int (gF S 8)) (C := RX7) (T := TX7) (N := 29) C0.1 C0.2.1 C0.2.2.2.2 iw_RX7 C0.2.2.2.1 I.1 I.2.1 0 rfl rfl 8 (by decide) (C0.2.2.2.2 _ wd_611) (fun _ h9 => h9) rfl hd k
theorem mg_X7_32_0 (C0 : CallFix p m c cc nL s args big RX7) (I : mI g s S H locs) (hd : decode cc pc = .ok (.getfield 32, 3)) (k : W p l e R s m args below meth c H locs cells slots Q (F0 m (pc + 3) ls (.ref (g.2.2 7) :: rest))) : W p l e R s m args below meth c H locs cells slots Q (F0 m pc ls (.ref (g.2.2 0) :: rest)) :=
  va_get (D := g.1) (ci := 7) (v := .ref (g.2.2 7)) (C := RX7) (T := TX7) (N := 29) C0.1 C0.2.1 C0.2.2.2.2 iw_RX7 C0.2.2.2.1 I.1 I.2.1 0 rfl rfl 9 (by decide) (C0.2.2.2.2 _ wd_612) (fun _ h9 => h9) rfl hd k
theorem mg_X7_13_0 (C0 : CallFix p m c cc nL s args big RX7) (I : mI g s S H locs) (hd : decode cc pc = .ok (.getfield 13, 3)) (k : W p l e R s m args below meth c H locs cells slots Q (F0 m (pc + 3) ls (.int (gF S 1) :: rest))) : W p l e R s m args below meth c H locs cells slots Q (F0 m pc ls (.ref (g.2.2 0) :: rest)) :=
  va_get (D := g.1) (ci := 7) (v := .int (gF S 1)) (C := RX7) (T := TX7) (N := 29) C0.1 C0.2.1 C0.2.2.2.2 iw_RX7 C0.2.2.2.1 I.1 I.2.1 0 rfl rfl 1 (by decide) (C0.2.2.2.2 _ wd_604) (fun _ h9 => h9) rfl hd k
theorem ms_7 {i v : Int32} (hx : p.tables.exec = Jvm.exec) (hb : c.code = cc) (I : mI g s S H locs) (hi : vp_in i 408) (hd : decode cc pc = .ok (.iastore, 1)) (k : ∀ (H1 : Heap) (locs1 : List Loc), mI g s (pR S 6 i v) H1 locs1 → W p l e R s m args below meth c H1 locs1 cells slots Q (F0 m (pc + 1) ls rest)) : W p l e R s m args below meth c H locs cells slots Q (F0 m pc ls (.int v :: .int i :: .ref (g.2.2 7) :: rest)) :=
  va_iast (f := aR S 6) hx hb I.1 I.2.1 I.2.2.1 I.2.2.2 7 0 rfl rfl hi hd (fun H1 locs1 hP hD hS => k H1 locs1 ⟨I.1, hP, hD, hS⟩)
theorem mg_X7_76_0 (C0 : CallFix p m c cc nL s args big RX7) (I : mI g s S H locs) (hd : decode cc pc = .ok (.getfield 76, 3)) (k : W p l e R s m args below meth c H locs cells slots Q (F0 m (pc + 3) ls (.int (gF S 2) :: rest))) : W p l e R s m args below meth c H locs cells slots Q (F0 m pc ls (.ref (g.2.2 0) :: rest)) :=
  va_get (D := g.1) (ci := 7) (v := .int (gF S 2)) (C := RX7) (T := TX7) (N := 29) C0.1 C0.2.1 C0.2.2.2.2 iw_RX7 C0.2.2.2.1 I.1 I.2.1 0 rfl rfl 2 (by decide) (C0.2.2.2.2 _ wd_605) (fun _ h9 => h9) rfl hd k
theorem mg_X7_17_0 (C0 : CallFix p m c cc nL s args big RX7) (I : mI g s S H locs) (hd : decode cc pc = .ok (.getfield 17, 3)) (k : W p l e R s m args below meth c H locs cells slots Q (F0 m (pc + 3) ls (.ref (g.2.2 2) :: rest))) : W p l e R s m args below meth c H locs cells slots Q (F0 m pc ls (.ref (g.2.2 0) :: rest)) :=
  va_get (D := g.1) (ci := 7) (v := .ref (g.2.2 2)) (C := RX7) (T := TX7) (N := 29) C0.1 C0.2.1 C0.2.2.2.2 iw_RX7 C0.2.2.2.1 I.1 I.2.1 0 rfl rfl 3 (by decide) (C0.2.2.2.2 _ wd_606) (fun _ h9 => h9) rfl hd k
theorem ml_2 {i : Int32} (hx : p.tables.exec = Jvm.exec) (hb : c.code = cc) (I : mI g s S H locs) (hi : vp_in i 2) (hd : decode cc pc = .ok (.iaload, 1)) (k : W p l e R s m args below meth c H locs cells slots Q (F0 m (pc + 1) ls (.int (gR S 1 i) :: rest))) : W p l e R s m args below meth c H locs cells slots Q (F0 m pc ls (.int i :: .ref (g.2.2 2) :: rest)) :=
  va_iald (f := aR S 1) hx hb I.1 I.2.1 2 0 rfl rfl hi hd k
theorem mg_X7_20_0 (C0 : CallFix p m c cc nL s args big RX7) (I : mI g s S H locs) (hd : decode cc pc = .ok (.getfield 20, 3)) (k : W p l e R s m args below meth c H locs cells slots Q (F0 m (pc + 3) ls (.ref (g.2.2 3) :: rest))) : W p l e R s m args below meth c H locs cells slots Q (F0 m pc ls (.ref (g.2.2 0) :: rest)) :=
  va_get (D := g.1) (ci := 7) (v := .ref (g.2.2 3)) (C := RX7) (T := TX7) (N := 29) C0.1 C0.2.1 C0.2.2.2.2 iw_RX7 C0.2.2.2.1 I.1 I.2.1 0 rfl rfl 4 (by decide) (C0.2.2.2.2 _ wd_607) (fun _ h9 => h9) rfl hd k
theorem ml_3 {i : Int32} (hx : p.tables.exec = Jvm.exec) (hb : c.code = cc) (I : mI g s S H locs) (hi : vp_in i 16) (hd : decode cc pc = .ok (.iaload, 1)) (k : W p l e R s m args below meth c H locs cells slots Q (F0 m (pc + 1) ls (.int (gR S 2 i) :: rest))) : W p l e R s m args below meth c H locs cells slots Q (F0 m pc ls (.int i :: .ref (g.2.2 3) :: rest)) :=
  va_iald (f := aR S 2) hx hb I.1 I.2.1 3 0 rfl rfl hi hd k
theorem mg_X7_23_0 (C0 : CallFix p m c cc nL s args big RX7) (I : mI g s S H locs) (hd : decode cc pc = .ok (.getfield 23, 3)) (k : W p l e R s m args below meth c H locs cells slots Q (F0 m (pc + 3) ls (.ref (g.2.2 4) :: rest))) : W p l e R s m args below meth c H locs cells slots Q (F0 m pc ls (.ref (g.2.2 0) :: rest)) :=
  va_get (D := g.1) (ci := 7) (v := .ref (g.2.2 4)) (C := RX7) (T := TX7) (N := 29) C0.1 C0.2.1 C0.2.2.2.2 iw_RX7 C0.2.2.2.1 I.1 I.2.1 0 rfl rfl 5 (by decide) (C0.2.2.2.2 _ wd_608) (fun _ h9 => h9) rfl hd k
theorem ml_4 {i : Int32} (hx : p.tables.exec = Jvm.exec) (hb : c.code = cc) (I : mI g s S H locs) (hi : vp_in i 16) (hd : decode cc pc = .ok (.iaload, 1)) (k : W p l e R s m args below meth c H locs cells slots Q (F0 m (pc + 1) ls (.int (gR S 3 i) :: rest))) : W p l e R s m args below meth c H locs cells slots Q (F0 m pc ls (.int i :: .ref (g.2.2 4) :: rest)) :=
  va_iald (f := aR S 3) hx hb I.1 I.2.1 4 0 rfl rfl hi hd k
theorem mg_X7_26_0 (C0 : CallFix p m c cc nL s args big RX7) (I : mI g s S H locs) (hd : decode cc pc = .ok (.getfield 26, 3)) (k : W p l e R s m args below meth c H locs cells slots Q (F0 m (pc + 3) ls (.ref (g.2.2 5) :: rest))) : W p l e R s m args below meth c H locs cells slots Q (F0 m pc ls (.ref (g.2.2 0) :: rest)) :=
  va_get (D := g.1) (ci := 7) (v := .ref (g.2.2 5)) (C := RX7) (T := TX7) (N := 29) C0.1 C0.2.1 C0.2.2.2.2 iw_RX7 C0.2.2.2.1 I.1 I.2.1 0 rfl rfl 6 (by decide) (C0.2.2.2.2 _ wd_609) (fun _ h9 => h9) rfl hd k
theorem ml_5 {i : Int32} (hx : p.tables.exec = Jvm.exec) (hb : c.code = cc) (I : mI g s S H locs) (hi : vp_in i 16) (hd : decode cc pc = .ok (.iaload, 1)) (k : W p l e R s m args below meth c H locs cells slots Q (F0 m (pc + 1) ls (.int (gR S 4 i) :: rest))) : W p l e R s m args below meth c H locs cells slots Q (F0 m pc ls (.int i :: .ref (g.2.2 5) :: rest)) :=
  va_iald (f := aR S 4) hx hb I.1 I.2.1 5 0 rfl rfl hi hd k
theorem mg_X7_29_0 (C0 : CallFix p m c cc nL s args big RX7) (I : mI g s S H locs) (hd : decode cc pc = .ok (.getfield 29, 3)) (k : W p l e R s m args below meth c H locs cells slots Q (F0 m (pc + 3) ls (.ref (g.2.2 6) :: rest))) : W p l e R s m args below meth c H locs cells slots Q (F0 m pc ls (.ref (g.2.2 0) :: rest)) :=
  va_get (D := g.1) (ci := 7) (v := .ref (g.2.2 6)) (C := RX7) (T := TX7) (N := 29) C0.1 C0.2.1 C0.2.2.2.2 iw_RX7 C0.2.2.2.1 I.1 I.2.1 0 rfl rfl 7 (by decide) (C0.2.2.2.2 _ wd_610) (fun _ h9 => h9) rfl hd k
theorem ml_6 {i : Int32} (hx : p.tables.exec = Jvm.exec) (hb : c.code = cc) (I : mI g s S H locs) (hi : vp_in i 16) (hd : decode cc pc = .ok (.iaload, 1)) (k : W p l e R s m args below meth c H locs cells slots Q (F0 m (pc + 1) ls (.int (gR S 5 i) :: rest))) : W p l e R s m args below meth c H locs cells slots Q (F0 m pc ls (.int i :: .ref (g.2.2 6) :: rest)) :=
  va_iald (f := aR S 5) hx hb I.1 I.2.1 6 0 rfl rfl hi hd k
theorem mp_X7_79_0 {v : Int32} (C0 : CallFix p m c cc nL s args big RX7) (I : mI g s S H locs) (hd : decode cc pc = .ok (.putfield 79, 3)) (k : ∀ (H1 : Heap) (locs1 : List Loc), mI g s (pF S 8 v) H1 locs1 → W p l e R s m args below meth c H1 locs1 cells slots Q (F0 m (pc + 3) ls rest)) : W p l e R s m args below meth c H locs cells slots Q (F0 m pc ls (.int v :: .ref (g.2.2 0) :: rest)) :=
  va_put (D := g.1) (ci := 7) (v := .int v) (ty := .int) (C := RX7) (T := TX7) (N := 29) C0.1 C0.2.1 C0.2.2.2.2 iw_RX7 tyX7 tyX7_ok nmX7 C0.2.2.2.1 I.1 I.2.1 I.2.2.1 I.2.2.2 0 rfl rfl 8 (by decide) (C0.2.2.2.2 _ wd_611) (fun _ h9 => h9) rfl (by decide +kernel) rfl rfl (Nat.le_of_ble_eq_true rfl) hd (fun H1 locs1 hP hD hS => k H1 locs1 ⟨I.1, hP, hD, hS⟩)
theorem ml_7 {i : Int32} (hx : p.tables.exec = Jvm.exec) (hb : c.code = cc) (I : mI g s S H locs) (hi : vp_in i 408) (hd : decode cc pc = .ok (.iaload, 1)) (k : W p l e R s m args below meth c H locs cells slots Q (F0 m (pc + 1) ls (.int (gR S 6 i) :: rest))) : W p l e R s m args below meth c H locs cells slots Q (F0 m pc ls (.int i :: .ref (g.2.2 7) :: rest)) :=
  va_iald (f := aR S 6) hx hb I.1 I.2.1 7 0 rfl rfl hi hd k
theorem mo_0 (I : mI g s S H locs) : ∃ cell : Cell, H[g.2.2 0]? = some cell ∧ cell.vm.isStatics = false ∧ s.vm.findClass RX7 = some cell.cls := va_recv I.1 I.2.1 (ci := 7) (q0 := 0) rfl rfl
theorem mp_X7_13_0 {v : Int32} (C0 : CallFix p m c cc nL s args big RX7) (I : mI g s S H locs) (hd : decode cc pc = .ok (.putfield 13, 3)) (k : ∀ (H1 : Heap) (locs1 : List Loc), mI g s (pF S 1 v) H1 locs1 → W p l e R s m args below meth c H1 locs1 cells slots Q (F0 m (pc + 3) ls rest)) : W p l e R s m args below meth c H locs cells slots Q (F0 m pc ls (.int v :: .ref (g.2.2 0) :: rest)) :=
  va_put (D := g.1) (ci := 7) (v := .int v) (ty := .int) (C := RX7) (T := TX7) (N := 29) C0.1 C0.2.1 C0.2.2.2.2 iw_RX7 tyX7 tyX7_ok nmX7 C0.2.2.2.1 I.1 I.2.1 I.2.2.1 I.2.2.2 0 rfl rfl 1 (by decide) (C0.2.2.2.2 _ wd_604) (fun _ h9 => h9) rfl (by decide +kernel) rfl rfl (Nat.le_of_ble_eq_true rfl) hd (fun H1 locs1 hP hD hS => k H1 locs1 ⟨I.1, hP, hD, hS⟩)
theorem mp_X7_76_0 {v : Int32} (C0 : CallFix p m c cc nL s args big RX7) (I : mI g s S H locs) (hd : decode cc pc = .ok (.putfield 76, 3)) (k : ∀ (H1 : Heap) (locs1 : List Loc), mI g s (pF S 2 v) H1 locs1 → W p l e R s m args below meth c H1 locs1 cells slots Q (F0 m (pc + 3) ls rest)) : W p l e R s m args below meth c H locs cells slots Q (F0 m pc ls (.int v :: .ref (g.2.2 0) :: rest)) :=
  va_put (D := g.1) (ci := 7) (v := .int v) (ty := .int) (C := RX7) (T := TX7) (N := 29) C0.1 C0.2.1 C0.2.2.2.2 iw_RX7 tyX7 tyX7_ok nmX7 C0.2.2.2.1 I.1 I.2.1 I.2.2.1 I.2.2.2 0 rfl rfl 2 (by decide) (C0.2.2.2.2 _ wd_605) (fun _ h9 => h9) rfl (by decide +kernel) rfl rfl (Nat.le_of_ble_eq_true rfl) hd (fun H1 locs1 hP hD hS => k H1 locs1 ⟨I.1, hP, hD, hS⟩)
theorem mg_X7_7_0 (C0 : CallFix p m c cc nL s args big RX7) (I : mI g s S H locs) (hd : decode cc pc = .ok (.getfield 7, 3)) (k : W p l e R s m args below meth c H locs cells slots Q (F0 m (pc + 3) ls (.ref (g.2.2 1) :: rest))) : W p l e R s m args below meth c H locs cells slots Q (F0 m pc ls (.ref (g.2.2 0) :: rest)) :=
  va_get (D := g.1) (ci := 7) (v := .ref (g.2.2 1)) (C := RX7) (T := TX7) (N := 29) C0.1 C0.2.1 C0.2.2.2.2 iw_RX7 C0.2.2.2.1 I.1 I.2.1 0 rfl rfl 0 (by decide) (C0.2.2.2.2 _ wd_603) (fun _ h9 => h9) rfl hd k
theorem ml_1 {i : Int32} (hx : p.tables.exec = Jvm.exec) (hb : c.code = cc) (I : mI g s S H locs) (hi : vp_in i 3) (hd : decode cc pc = .ok (.iaload, 1)) (k : W p l e R s m args below meth c H locs cells slots Q (F0 m (pc + 1) ls (.int (gR S 0 i) :: rest))) : W p l e R s m args below meth c H locs cells slots Q (F0 m pc ls (.int i :: .ref (g.2.2 1) :: rest)) :=
  va_iald (f := aR S 0) hx hb I.1 I.2.1 1 0 rfl rfl hi hd k
theorem ms_1 {i v : Int32} (hx : p.tables.exec = Jvm.exec) (hb : c.code = cc) (I : mI g s S H locs) (hi : vp_in i 3) (hd : decode cc pc = .ok (.iastore, 1)) (k : ∀ (H1 : Heap) (locs1 : List Loc), mI g s (pR S 0 i v) H1 locs1 → W p l e R s m args below meth c H1 locs1 cells slots Q (F0 m (pc + 1) ls rest)) : W p l e R s m args below meth c H locs cells slots Q (F0 m pc ls (.int v :: .int i :: .ref (g.2.2 1) :: rest)) :=
  va_iast (f := aR S 0) hx hb I.1 I.2.1 I.2.2.1 I.2.2.2 1 0 rfl rfl hi hd (fun H1 locs1 hP hD hS => k H1 locs1 ⟨I.1, hP, hD, hS⟩)
theorem ms_3 {i v : Int32} (hx : p.tables.exec = Jvm.exec) (hb : c.code = cc) (I : mI g s S H locs) (hi : vp_in i 16) (hd : decode cc pc = .ok (.iastore, 1)) (k : ∀ (H1 : Heap) (locs1 : List Loc), mI g s (pR S 2 i v) H1 locs1 → W p l e R s m args below meth c H1 locs1 cells slots Q (F0 m (pc + 1) ls rest)) : W p l e R s m args below meth c H locs cells slots Q (F0 m pc ls (.int v :: .int i :: .ref (g.2.2 3) :: rest)) :=
  va_iast (f := aR S 2) hx hb I.1 I.2.1 I.2.2.1 I.2.2.2 3 0 rfl rfl hi hd (fun H1 locs1 hP hD hS => k H1 locs1 ⟨I.1, hP, hD, hS⟩)
theorem ms_4 {i v : Int32} (hx : p.tables.exec = Jvm.exec) (hb : c.code = cc) (I : mI g s S H locs) (hi : vp_in i 16) (hd : decode cc pc = .ok (.iastore, 1)) (k : ∀ (H1 : Heap) (locs1 : List Loc), mI g s (pR S 3 i v) H1 locs1 → W p l e R s m args below meth c H1 locs1 cells slots Q (F0 m (pc + 1) ls rest)) : W p l e R s m args below meth c H locs cells slots Q (F0 m pc ls (.int v :: .int i :: .ref (g.2.2 4) :: rest)) :=
  va_iast (f := aR S 3) hx hb I.1 I.2.1 I.2.2.1 I.2.2.2 4 0 rfl rfl hi hd (fun H1 locs1 hP hD hS => k H1 locs1 ⟨I.1, hP, hD, hS⟩)
theorem ms_5 {i v : Int32} (hx : p.tables.exec = Jvm.exec) (hb : c.code = cc) (I : mI g s S H locs) (hi : vp_in i 16) (hd : decode cc pc = .ok (.iastore, 1)) (k : ∀ (H1 : Heap) (locs1 : List Loc), mI g s (pR S 4 i v) H1 locs1 → W p l e R s m args below meth c H1 locs1 cells slots Q (F0 m (pc + 1) ls rest)) : W p l e R s m args below meth c H locs cells slots Q (F0 m pc ls (.int v :: .int i :: .ref (g.2.2 5) :: rest)) :=
  va_iast (f := aR S 4) hx hb I.1 I.2.1 I.2.2.1 I.2.2.2 5 0 rfl rfl hi hd (fun H1 locs1 hP hD hS => k H1 locs1 ⟨I.1, hP, hD, hS⟩)
theorem ms_6 {i v : Int32} (hx : p.tables.exec = Jvm.exec) (hb : c.code = cc) (I : mI g s S H locs) (hi : vp_in i 16) (hd : decode cc pc = .ok (.iastore, 1)) (k : ∀ (H1 : Heap) (locs1 : List Loc), mI g s (pR S 5 i v) H1 locs1 → W p l e R s m args below meth c H1 locs1 cells slots Q (F0 m (pc + 1) ls rest)) : W p l e R s m args below meth c H locs cells slots Q (F0 m pc ls (.int v :: .int i :: .ref (g.2.2 6) :: rest)) :=
  va_iast (f := aR S 5) hx hb I.1 I.2.1 I.2.2.1 I.2.2.2 6 0 rfl rfl hi hd (fun H1 locs1 hP hD hS => k H1 locs1 ⟨I.1, hP, hD, hS⟩)
theorem ms_2 {i v : Int32} (hx : p.tables.exec = Jvm.exec) (hb : c.code = cc) (I : mI g s S H locs) (hi : vp_in i 2) (hd : decode cc pc = .ok (.iastore, 1)) (k : ∀ (H1 : Heap) (locs1 : List Loc), mI g s (pR S 1 i v) H1 locs1 → W p l e R s m args below meth c H1 locs1 cells slots Q (F0 m (pc + 1) ls rest)) : W p l e R s m args below meth c H locs cells slots Q (F0 m pc ls (.int v :: .int i :: .ref (g.2.2 2) :: rest)) :=
  va_iast (f := aR S 1) hx hb I.1 I.2.1 I.2.2.1 I.2.2.2 2 0 rfl rfl hi hd (fun H1 locs1 hP hD hS => k H1 locs1 ⟨I.1, hP, hD, hS⟩)
theorem mg_X7_35_0 (C0 : CallFix p m c cc nL s args big RX7) (I : mI g s S H locs) (hd : decode cc pc = .ok (.getfield 35, 3)) (k : W p l e R s m args below meth c H locs cells slots Q (F0 m (pc + 3) ls (.ref (g.2.2 8) :: rest))) : W p l e R s m args below meth c H locs cells slots Q (F0 m pc ls (.ref (g.2.2 0) :: rest)) :=
  va_get (D := g.1) (ci := 7) (v := .ref (g.2.2 8)) (C := RX7) (T := TX7) (N := 29) C0.1 C0.2.1 C0.2.2.2.2 iw_RX7 C0.2.2.2.1 I.1 I.2.1 0 rfl rfl 10 (by decide) (C0.2.2.2.2 _ wd_613) (fun _ h9 => h9) rfl hd k
theorem ms_8 {i v : Int32} (hx : p.tables.exec = Jvm.exec) (hb : c.code = cc) (I : mI g s S H locs) (hi : vp_in i 16) (hd : decode cc pc = .ok (.iastore, 1)) (k : ∀ (H1 : Heap) (locs1 : List Loc), mI g s (pR S 7 i v) H1 locs1 → W p l e R s m args below meth c H1 locs1 cells slots Q (F0 m (pc + 1) ls rest)) : W p l e R s m args below meth c H locs cells slots Q (F0 m pc ls (.int v :: .int i :: .ref (g.2.2 8) :: rest)) :=
  va_iast (f := aR S 7) hx hb I.1 I.2.1 I.2.2.1 I.2.2.2 8 0 rfl rfl hi hd (fun H1 locs1 hP hD hS => k H1 locs1 ⟨I.1, hP, hD, hS⟩)
theorem mg_X7_41_0 (C0 : CallFix p m c cc nL s args big RX7) (I : mI g s S H locs) (hd : decode cc pc = .ok (.getfield 41, 3)) (k : W p l e R s m args below meth c H locs cells slots Q (F0 m (pc + 3) ls (.ref (g.2.2 10) :: rest))) : W p l e R s m args below meth c H locs cells slots Q (F0 m pc ls (.ref (g.2.2 0) :: rest)) :=
  va_get (D := g.1) (ci := 7) (v := .ref (g.2.2 10)) (C := RX7) (T := TX7) (N := 29) C0.1 C0.2.1 C0.2.2.2.2 iw_RX7 C0.2.2.2.1 I.1 I.2.1 0 rfl rfl 12 (by decide) (C0.2.2.2.2 _ wd_615) (fun _ h9 => h9) rfl hd k
theorem ms_10 {i v : Int32} (hx : p.tables.exec = Jvm.exec) (hb : c.code = cc) (I : mI g s S H locs) (hi : vp_in i 144) (hd : decode cc pc = .ok (.iastore, 1)) (k : ∀ (H1 : Heap) (locs1 : List Loc), mI g s (pR S 9 i v) H1 locs1 → W p l e R s m args below meth c H1 locs1 cells slots Q (F0 m (pc + 1) ls rest)) : W p l e R s m args below meth c H locs cells slots Q (F0 m pc ls (.int v :: .int i :: .ref (g.2.2 10) :: rest)) :=
  va_iast (f := aR S 9) hx hb I.1 I.2.1 I.2.2.1 I.2.2.2 10 0 rfl rfl hi hd (fun H1 locs1 hP hD hS => k H1 locs1 ⟨I.1, hP, hD, hS⟩)
theorem ml_8 {i : Int32} (hx : p.tables.exec = Jvm.exec) (hb : c.code = cc) (I : mI g s S H locs) (hi : vp_in i 16) (hd : decode cc pc = .ok (.iaload, 1)) (k : W p l e R s m args below meth c H locs cells slots Q (F0 m (pc + 1) ls (.int (gR S 7 i) :: rest))) : W p l e R s m args below meth c H locs cells slots Q (F0 m pc ls (.int i :: .ref (g.2.2 8) :: rest)) :=
  va_iald (f := aR S 7) hx hb I.1 I.2.1 8 0 rfl rfl hi hd k
theorem mg_X7_38_0 (C0 : CallFix p m c cc nL s args big RX7) (I : mI g s S H locs) (hd : decode cc pc = .ok (.getfield 38, 3)) (k : W p l e R s m args below meth c H locs cells slots Q (F0 m (pc + 3) ls (.ref (g.2.2 9) :: rest))) : W p l e R s m args below meth c H locs cells slots Q (F0 m pc ls (.ref (g.2.2 0) :: rest)) :=
  va_get (D := g.1) (ci := 7) (v := .ref (g.2.2 9)) (C := RX7) (T := TX7) (N := 29) C0.1 C0.2.1 C0.2.2.2.2 iw_RX7 C0.2.2.2.1 I.1 I.2.1 0 rfl rfl 11 (by decide) (C0.2.2.2.2 _ wd_614) (fun _ h9 => h9) rfl hd k
theorem ms_9 {i v : Int32} (hx : p.tables.exec = Jvm.exec) (hb : c.code = cc) (I : mI g s S H locs) (hi : vp_in i 16) (hd : decode cc pc = .ok (.iastore, 1)) (k : ∀ (H1 : Heap) (locs1 : List Loc), mI g s (pR S 8 i v) H1 locs1 → W p l e R s m args below meth c H1 locs1 cells slots Q (F0 m (pc + 1) ls rest)) : W p l e R s m args below meth c H locs cells slots Q (F0 m pc ls (.int v :: .int i :: .ref (g.2.2 9) :: rest)) :=
  va_iast (f := aR S 8) hx hb I.1 I.2.1 I.2.2.1 I.2.2.2 9 0 rfl rfl hi hd (fun H1 locs1 hP hD hS => k H1 locs1 ⟨I.1, hP, hD, hS⟩)
theorem ml_10 {i : Int32} (hx : p.tables.exec = Jvm.exec) (hb : c.code = cc) (I : mI g s S H locs) (hi : vp_in i 144) (hd : decode cc pc = .ok (.iaload, 1)) (k : W p l e R s m args below meth c H locs cells slots Q (F0 m (pc + 1) ls (.int (gR S 9 i) :: rest))) : W p l e R s m args below meth c H locs cells slots Q (F0 m pc ls (.int i :: .ref (g.2.2 10) :: rest)) :=
  va_iald (f := aR S 9) hx hb I.1 I.2.1 10 0 rfl rfl hi hd k
theorem mg_X7_44_0 (C0 : CallFix p m c cc nL s args big RX7) (I : mI g s S H locs) (hd : decode cc pc = .ok (.getfield 44, 3)) (k : W p l e R s m args below meth c H locs cells slots Q (F0 m (pc + 3) ls (.ref (g.2.2 11) :: rest))) : W p l e R s m args below meth c H locs cells slots Q (F0 m pc ls (.ref (g.2.2 0) :: rest)) :=
  va_get (D := g.1) (ci := 7) (v := .ref (g.2.2 11)) (C := RX7) (T := TX7) (N := 29) C0.1 C0.2.1 C0.2.2.2.2 iw_RX7 C0.2.2.2.1 I.1 I.2.1 0 rfl rfl 13 (by decide) (C0.2.2.2.2 _ wd_616) (fun _ h9 => h9) rfl hd k
theorem ms_11 {i v : Int32} (hx : p.tables.exec = Jvm.exec) (hb : c.code = cc) (I : mI g s S H locs) (hi : vp_in i 64) (hd : decode cc pc = .ok (.iastore, 1)) (k : ∀ (H1 : Heap) (locs1 : List Loc), mI g s (pR S 10 i v) H1 locs1 → W p l e R s m args below meth c H1 locs1 cells slots Q (F0 m (pc + 1) ls rest)) : W p l e R s m args below meth c H locs cells slots Q (F0 m pc ls (.int v :: .int i :: .ref (g.2.2 11) :: rest)) :=
  va_iast (f := aR S 10) hx hb I.1 I.2.1 I.2.2.1 I.2.2.2 11 0 rfl rfl hi hd (fun H1 locs1 hP hD hS => k H1 locs1 ⟨I.1, hP, hD, hS⟩)
theorem ml_11 {i : Int32} (hx : p.tables.exec = Jvm.exec) (hb : c.code = cc) (I : mI g s S H locs) (hi : vp_in i 64) (hd : decode cc pc = .ok (.iaload, 1)) (k : W p l e R s m args below meth c H locs cells slots Q (F0 m (pc + 1) ls (.int (gR S 10 i) :: rest))) : W p l e R s m args below meth c H locs cells slots Q (F0 m pc ls (.int i :: .ref (g.2.2 11) :: rest)) :=
  va_iald (f := aR S 10) hx hb I.1 I.2.1 11 0 rfl rfl hi hd k
theorem mp_X7_179_0 {v : Int32} (C0 : CallFix p m c cc nL s args big RX7) (I : mI g s S H locs) (hd : decode cc pc = .ok (.putfield 179, 3)) (k : ∀ (H1 : Heap) (locs1 : List Loc), mI g s (pF S 14 v) H1 locs1 → W p l e R s m args below meth c H1 locs1 cells slots Q (F0 m (pc + 3) ls rest)) : W p l e R s m args below meth c H locs cells slots Q (F0 m pc ls (.int v :: .ref (g.2.2 0) :: rest)) :=
  va_put (D := g.1) (ci := 7) (v := .int v) (ty := .int) (C := RX7) (T := TX7) (N := 29) C0.1 C0.2.1 C0.2.2.2.2 iw_RX7 tyX7 tyX7_ok nmX7 C0.2.2.2.1 I.1 I.2.1 I.2.2.1 I.2.2.2 0 rfl rfl 14 (by decide) (C0.2.2.2.2 _ wd_617) (fun _ h9 => h9) rfl (by decide +kernel) rfl rfl (Nat.le_of_ble_eq_true rfl) hd (fun H1 locs1 hP hD hS => k H1 locs1 ⟨I.1, hP, hD, hS⟩)
theorem mp_X7_47_0 {v : Int32} (C0 : CallFix p m c cc nL s args big RX7) (I : mI g s S H locs) (hd : decode cc pc = .ok (.putfield 47, 3)) (k : ∀ (H1 : Heap) (locs1 : List Loc), mI g s (pF S 15 v) H1 locs1 → W p l e R s m args below meth c H1 locs1 cells slots Q (F0 m (pc + 3) ls rest)) : W p l e R s m args below meth c H locs cells slots Q (F0 m pc ls (.int v :: .ref (g.2.2 0) :: rest)) :=
  va_put (D := g.1) (ci := 7) (v := .int v) (ty := .int) (C := RX7) (T := TX7) (N := 29) C0.1 C0.2.1 C0.2.2.2.2 iw_RX7 tyX7 tyX7_ok nmX7 C0.2.2.2.1 I.1 I.2.1 I.2.2.1 I.2.2.2 0 rfl rfl 15 (by decide) (C0.2.2.2.2 _ wd_618) (fun _ h9 => h9) rfl (by decide +kernel) rfl rfl (Nat.le_of_ble_eq_true rfl) hd (fun H1 locs1 hP hD hS => k H1 locs1 ⟨I.1, hP, hD, hS⟩)
theorem mg_X7_47_0 (C0 : CallFix p m c cc nL s args big RX7) (I : mI g s S H locs) (hd : decode cc pc = .ok (.getfield 47, 3)) (k : W p l e R s m args below meth c H locs cells slots Q (F0 m (pc + 3) ls (.int (gF S 15) :: rest))) : W p l e R s m args below meth c H locs cells slots Q (F0 m pc ls (.ref (g.2.2 0) :: rest)) :=
  va_get (D := g.1) (ci := 7) (v := .int (gF S 15)) (C := RX7) (T := TX7) (N := 29) C0.1 C0.2.1 C0.2.2.2.2 iw_RX7 C0.2.2.2.1 I.1 I.2.1 0 rfl rfl 15 (by decide) (C0.2.2.2.2 _ wd_618) (fun _ h9 => h9) rfl hd k
theorem mg_X7_179_0 (C0 : CallFix p m c cc nL s args big RX7) (I : mI g s S H locs) (hd : decode cc pc = .ok (.getfield 179, 3)) (k : W p l e R s m args below meth c H locs cells slots Q (F0 m (pc + 3) ls (.int (gF S 14) :: rest))) : W p l e R s m args below meth c H locs cells slots Q (F0 m pc ls (.ref (g.2.2 0) :: rest)) :=
  va_get (D := g.1) (ci := 7) (v := .int (gF S 14)) (C := RX7) (T := TX7) (N := 29) C0.1 C0.2.1 C0.2.2.2.2 iw_RX7 C0.2.2.2.1 I.1 I.2.1 0 rfl rfl 14 (by decide) (C0.2.2.2.2 _ wd_617) (fun _ h9 => h9) rfl hd k
theorem mp_X7_208_0 {v : Int32} (C0 : CallFix p m c cc nL s args big RX7) (I : mI g s S H locs) (hd : decode cc pc = .ok (.putfield 208, 3)) (k : ∀ (H1 : Heap) (locs1 : List Loc), mI g s (pF S 20 v) H1 locs1 → W p l e R s m args below meth c H1 locs1 cells slots Q (F0 m (pc + 3) ls rest)) : W p l e R s m args below meth c H locs cells slots Q (F0 m pc ls (.int v :: .ref (g.2.2 0) :: rest)) :=
  va_put (D := g.1) (ci := 7) (v := .int v) (ty := .int) (C := RX7) (T := TX7) (N := 29) C0.1 C0.2.1 C0.2.2.2.2 iw_RX7 tyX7 tyX7_ok nmX7 C0.2.2.2.1 I.1 I.2.1 I.2.2.1 I.2.2.2 0 rfl rfl 20 (by decide) (C0.2.2.2.2 _ wd_623) (fun _ h9 => h9) rfl (by decide +kernel) rfl rfl (Nat.le_of_ble_eq_true rfl) hd (fun H1 locs1 hP hD hS => k H1 locs1 ⟨I.1, hP, hD, hS⟩)
theorem mp_X7_205_0 {v : Int32} (C0 : CallFix p m c cc nL s args big RX7) (I : mI g s S H locs) (hd : decode cc pc = .ok (.putfield 205, 3)) (k : ∀ (H1 : Heap) (locs1 : List Loc), mI g s (pF S 21 v) H1 locs1 → W p l e R s m args below meth c H1 locs1 cells slots Q (F0 m (pc + 3) ls rest)) : W p l e R s m args below meth c H locs cells slots Q (F0 m pc ls (.int v :: .ref (g.2.2 0) :: rest)) :=
  va_put (D := g.1) (ci := 7) (v := .int v) (ty := .int) (C := RX7) (T := TX7) (N := 29) C0.1 C0.2.1 C0.2.2.2.2 iw_RX7 tyX7 tyX7_ok nmX7 C0.2.2.2.1 I.1 I.2.1 I.2.2.1 I.2.2.2 0 rfl rfl 21 (by decide) (C0.2.2.2.2 _ wd_624) (fun _ h9 => h9) rfl (by decide +kernel) rfl rfl (Nat.le_of_ble_eq_true rfl) hd (fun H1 locs1 hP hD hS => k H1 locs1 ⟨I.1, hP, hD, hS⟩)
theorem mg_X7_50_0 (C0 : CallFix p m c cc nL s args big RX7) (I : mI g s S H locs) (hd : decode cc pc = .ok (.getfield 50, 3)) (k : W p l e R s m args below meth c H locs cells slots Q (F0 m (pc + 3) ls (.ref (g.2.2 12) :: rest))) : W p l e R s m args below meth c H locs cells slots Q (F0 m pc ls (.ref (g.2.2 0) :: rest)) :=
  va_get (D := g.1) (ci := 7) (v := .ref (g.2.2 12)) (C := RX7) (T := TX7) (N := 29) C0.1 C0.2.1 C0.2.2.2.2 iw_RX7 C0.2.2.2.1 I.1 I.2.1 0 rfl rfl 16 (by decide) (C0.2.2.2.2 _ wd_619) (fun _ h9 => h9) rfl hd k
theorem ms_12 {i v : Int32} (hx : p.tables.exec = Jvm.exec) (hb : c.code = cc) (I : mI g s S H locs) (hi : vp_in i 16) (hd : decode cc pc = .ok (.iastore, 1)) (k : ∀ (H1 : Heap) (locs1 : List Loc), mI g s (pR S 11 i v) H1 locs1 → W p l e R s m args below meth c H1 locs1 cells slots Q (F0 m (pc + 1) ls rest)) : W p l e R s m args below meth c H locs cells slots Q (F0 m pc ls (.int v :: .int i :: .ref (g.2.2 12) :: rest)) :=
  va_iast (f := aR S 11) hx hb I.1 I.2.1 I.2.2.1 I.2.2.2 12 0 rfl rfl hi hd (fun H1 locs1 hP hD hS => k H1 locs1 ⟨I.1, hP, hD, hS⟩)
theorem mg_X7_53_0 (C0 : CallFix p m c cc nL s args big RX7) (I : mI g s S H locs) (hd : decode cc pc = .ok (.getfield 53, 3)) (k : W p l e R s m args below meth c H locs cells slots Q (F0 m (pc + 3) ls (.ref (g.2.2 13) :: rest))) : W p l e R s m args below meth c H locs cells slots Q (F0 m pc ls (.ref (g.2.2 0) :: rest)) :=
  va_get (D := g.1) (ci := 7) (v := .ref (g.2.2 13)) (C := RX7) (T := TX7) (N := 29) C0.1 C0.2.1 C0.2.2.2.2 iw_RX7 C0.2.2.2.1 I.1 I.2.1 0 rfl rfl 17 (by decide) (C0.2.2.2.2 _ wd_620) (fun _ h9 => h9) rfl hd k
theorem ms_13 {i v : Int32} (hx : p.tables.exec = Jvm.exec) (hb : c.code = cc) (I : mI g s S H locs) (hi : vp_in i 16) (hd : decode cc pc = .ok (.iastore, 1)) (k : ∀ (H1 : Heap) (locs1 : List Loc), mI g s (pR S 12 i v) H1 locs1 → W p l e R s m args below meth c H1 locs1 cells slots Q (F0 m (pc + 1) ls rest)) : W p l e R s m args below meth c H locs cells slots Q (F0 m pc ls (.int v :: .int i :: .ref (g.2.2 13) :: rest)) :=
  va_iast (f := aR S 12) hx hb I.1 I.2.1 I.2.2.1 I.2.2.2 13 0 rfl rfl hi hd (fun H1 locs1 hP hD hS => k H1 locs1 ⟨I.1, hP, hD, hS⟩)
theorem mg_X7_56_0 (C0 : CallFix p m c cc nL s args big RX7) (I : mI g s S H locs) (hd : decode cc pc = .ok (.getfield 56, 3)) (k : W p l e R s m args below meth c H locs cells slots Q (F0 m (pc + 3) ls (.ref (g.2.2 14) :: rest))) : W p l e R s m args below meth c H locs cells slots Q (F0 m pc ls (.ref (g.2.2 0) :: rest)) :=
  va_get (D := g.1) (ci := 7) (v := .ref (g.2.2 14)) (C := RX7) (T := TX7) (N := 29) C0.1 C0.2.1 C0.2.2.2.2 iw_RX7 C0.2.2.2.1 I.1 I.2.1 0 rfl rfl 18 (by decide) (C0.2.2.2.2 _ wd_621) (fun _ h9 => h9) rfl hd k
theorem ms_14 {i v : Int32} (hx : p.tables.exec = Jvm.exec) (hb : c.code = cc) (I : mI g s S H locs) (hi : vp_in i 16) (hd : decode cc pc = .ok (.iastore, 1)) (k : ∀ (H1 : Heap) (locs1 : List Loc), mI g s (pR S 13 i v) H1 locs1 → W p l e R s m args below meth c H1 locs1 cells slots Q (F0 m (pc + 1) ls rest)) : W p l e R s m args below meth c H locs cells slots Q (F0 m pc ls (.int v :: .int i :: .ref (g.2.2 14) :: rest)) :=
  va_iast (f := aR S 13) hx hb I.1 I.2.1 I.2.2.1 I.2.2.2 14 0 rfl rfl hi hd (fun H1 locs1 hP hD hS => k H1 locs1 ⟨I.1, hP, hD, hS⟩)
theorem mg_X7_59_0 (C0 : CallFix p m c cc nL s args big RX7) (I : mI g s S H locs) (hd : decode cc pc = .ok (.getfield 59, 3)) (k : W p l e R s m args below meth c H locs cells slots Q (F0 m (pc + 3) ls (.ref (g.2.2 15) :: rest))) : W p l e R s m args below meth c H locs cells slots Q (F0 m pc ls (.ref (g.2.2 0) :: rest)) :=
  va_get (D := g.1) (ci := 7) (v := .ref (g.2.2 15)) (C := RX7) (T := TX7) (N := 29) C0.1 C0.2.1 C0.2.2.2.2 iw_RX7 C0.2.2.2.1 I.1 I.2.1 0 rfl rfl 19 (by decide) (C0.2.2.2.2 _ wd_622) (fun _ h9 => h9) rfl hd k
theorem ms_15 {i v : Int32} (hx : p.tables.exec = Jvm.exec) (hb : c.code = cc) (I : mI g s S H locs) (hi : vp_in i 16) (hd : decode cc pc = .ok (.iastore, 1)) (k : ∀ (H1 : Heap) (locs1 : List Loc), mI g s (pR S 14 i v) H1 locs1 → W p l e R s m args below meth c H1 locs1 cells slots Q (F0 m (pc + 1) ls rest)) : W p l e R s m args below meth c H locs cells slots Q (F0 m pc ls (.int v :: .int i :: .ref (g.2.2 15) :: rest)) :=
  va_iast (f := aR S 14) hx hb I.1 I.2.1 I.2.2.1 I.2.2.2 15 0 rfl rfl hi hd (fun H1 locs1 hP hD hS => k H1 locs1 ⟨I.1, hP, hD, hS⟩)
theorem mg_X7_208_0 (C0 : CallFix p m c cc nL s args big RX7) (I : mI g s S H locs) (hd : decode cc pc = .ok (.getfield 208, 3)) (k : W p l e R s m args below meth c H locs cells slots Q (F0 m (pc + 3) ls (.int (gF S 20) :: rest))) : W p l e R s m args below meth c H locs cells slots Q (F0 m pc ls (.ref (g.2.2 0) :: rest)) :=
  va_get (D := g.1) (ci := 7) (v := .int (gF S 20)) (C := RX7) (T := TX7) (N := 29) C0.1 C0.2.1 C0.2.2.2.2 iw_RX7 C0.2.2.2.1 I.1 I.2.1 0 rfl rfl 20 (by decide) (C0.2.2.2.2 _ wd_623) (fun _ h9 => h9) rfl hd k
theorem ml_12 {i : Int32} (hx : p.tables.exec = Jvm.exec) (hb : c.code = cc) (I : mI g s S H locs) (hi : vp_in i 16) (hd : decode cc pc = .ok (.iaload, 1)) (k : W p l e R s m args below meth c H locs cells slots Q (F0 m (pc + 1) ls (.int (gR S 11 i) :: rest))) : W p l e R s m args below meth c H locs cells slots Q (F0 m pc ls (.int i :: .ref (g.2.2 12) :: rest)) :=
  va_iald (f := aR S 11) hx hb I.1 I.2.1 12 0 rfl rfl hi hd k
theorem mg_X7_62_0 (C0 : CallFix p m c cc nL s args big RX7) (I : mI g s S H locs) (hd : decode cc pc = .ok (.getfield 62, 3)) (k : W p l e R s m args below meth c H locs cells slots Q (F0 m (pc + 3) ls (.ref (g.2.2 16) :: rest))) : W p l e R s m args below meth c H locs cells slots Q (F0 m pc ls (.ref (g.2.2 0) :: rest)) :=
  va_get (D := g.1) (ci := 7) (v := .ref (g.2.2 16)) (C := RX7) (T := TX7) (N := 29) C0.1 C0.2.1 C0.2.2.2.2 iw_RX7 C0.2.2.2.1 I.1 I.2.1 0 rfl rfl 22 (by decide) (C0.2.2.2.2 _ wd_625) (fun _ h9 => h9) rfl hd k
theorem ms_16 {i v : Int32} (hx : p.tables.exec = Jvm.exec) (hb : c.code = cc) (I : mI g s S H locs) (hi : vp_in i 16) (hd : decode cc pc = .ok (.iastore, 1)) (k : ∀ (H1 : Heap) (locs1 : List Loc), mI g s (pR S 15 i v) H1 locs1 → W p l e R s m args below meth c H1 locs1 cells slots Q (F0 m (pc + 1) ls rest)) : W p l e R s m args below meth c H locs cells slots Q (F0 m pc ls (.int v :: .int i :: .ref (g.2.2 16) :: rest)) :=
  va_iast (f := aR S 15) hx hb I.1 I.2.1 I.2.2.1 I.2.2.2 16 0 rfl rfl hi hd (fun H1 locs1 hP hD hS => k H1 locs1 ⟨I.1, hP, hD, hS⟩)
theorem ml_9 {i : Int32} (hx : p.tables.exec = Jvm.exec) (hb : c.code = cc) (I : mI g s S H locs) (hi : vp_in i 16) (hd : decode cc pc = .ok (.iaload, 1)) (k : W p l e R s m args below meth c H locs cells slots Q (F0 m (pc + 1) ls (.int (gR S 8 i) :: rest))) : W p l e R s m args below meth c H locs cells slots Q (F0 m pc ls (.int i :: .ref (g.2.2 9) :: rest)) :=
  va_iald (f := aR S 8) hx hb I.1 I.2.1 9 0 rfl rfl hi hd k
theorem ml_13 {i : Int32} (hx : p.tables.exec = Jvm.exec) (hb : c.code = cc) (I : mI g s S H locs) (hi : vp_in i 16) (hd : decode cc pc = .ok (.iaload, 1)) (k : W p l e R s m args below meth c H locs cells slots Q (F0 m (pc + 1) ls (.int (gR S 12 i) :: rest))) : W p l e R s m args below meth c H locs cells slots Q (F0 m pc ls (.int i :: .ref (g.2.2 13) :: rest)) :=
  va_iald (f := aR S 12) hx hb I.1 I.2.1 13 0 rfl rfl hi hd k
theorem mg_X7_205_0 (C0 : CallFix p m c cc nL s args big RX7) (I : mI g s S H locs) (hd : decode cc pc = .ok (.getfield 205, 3)) (k : W p l e R s m args below meth c H locs cells slots Q (F0 m (pc + 3) ls (.int (gF S 21) :: rest))) : W p l e R s m args below meth c H locs cells slots Q (F0 m pc ls (.ref (g.2.2 0) :: rest)) :=
  va_get (D := g.1) (ci := 7) (v := .int (gF S 21)) (C := RX7) (T := TX7) (N := 29) C0.1 C0.2.1 C0.2.2.2.2 iw_RX7 C0.2.2.2.1 I.1 I.2.1 0 rfl rfl 21 (by decide) (C0.2.2.2.2 _ wd_624) (fun _ h9 => h9) rfl hd k
theorem ml_16 {i : Int32} (hx : p.tables.exec = Jvm.exec) (hb : c.code = cc) (I : mI g s S H locs) (hi : vp_in i 16) (hd : decode cc pc = .ok (.iaload, 1)) (k : W p l e R s m args below meth c H locs cells slots Q (F0 m (pc + 1) ls (.int (gR S 15 i) :: rest))) : W p l e R s m args below meth c H locs cells slots Q (F0 m pc ls (.int i :: .ref (g.2.2 16) :: rest)) :=
  va_iald (f := aR S 15) hx hb I.1 I.2.1 16 0 rfl rfl hi hd k
theorem ml_15 {i : Int32} (hx : p.tables.exec = Jvm.exec) (hb : c.code = cc) (I : mI g s S H locs) (hi : vp_in i 16) (hd : decode cc pc = .ok (.iaload, 1)) (k : W p l e R s m args below meth c H locs cells slots Q (F0 m (pc + 1) ls (.int (gR S 14 i) :: rest))) : W p l e R s m args below meth c H locs cells slots Q (F0 m pc ls (.int i :: .ref (g.2.2 15) :: rest)) :=
  va_iald (f := aR S 14) hx hb I.1 I.2.1 15 0 rfl rfl hi hd k
theorem ml_14 {i : Int32} (hx : p.tables.exec = Jvm.exec) (hb : c.code = cc) (I : mI g s S H locs) (hi : vp_in i 16) (hd : decode cc pc = .ok (.iaload, 1)) (k : W p l e R s m args below meth c H locs cells slots Q (F0 m (pc + 1) ls (.int (gR S 13 i) :: rest))) : W p l e R s m args below meth c H locs cells slots Q (F0 m pc ls (.int i :: .ref (g.2.2 14) :: rest)) :=
  va_iald (f := aR S 13) hx hb I.1 I.2.1 14 0 rfl rfl hi hd k
theorem mg_X7_227_0 (C0 : CallFix p m c cc nL s args big RX7) (I : mI g s S H locs) (hd : decode cc pc = .ok (.getfield 227, 3)) (k : W p l e R s m args below meth c H locs cells slots Q (F0 m (pc + 3) ls (.int (gF S 24) :: rest))) : W p l e R s m args below meth c H locs cells slots Q (F0 m pc ls (.ref (g.2.2 0) :: rest)) :=
  va_get (D := g.1) (ci := 7) (v := .int (gF S 24)) (C := RX7) (T := TX7) (N := 29) C0.1 C0.2.1 C0.2.2.2.2 iw_RX7 C0.2.2.2.1 I.1 I.2.1 0 rfl rfl 24 (by decide) (C0.2.2.2.2 _ wd_627) (fun _ h9 => h9) rfl hd k
theorem mg_X7_65_0 (C0 : CallFix p m c cc nL s args big RX7) (I : mI g s S H locs) (hd : decode cc pc = .ok (.getfield 65, 3)) (k : W p l e R s m args below meth c H locs cells slots Q (F0 m (pc + 3) ls (.ref (g.2.2 17) :: rest))) : W p l e R s m args below meth c H locs cells slots Q (F0 m pc ls (.ref (g.2.2 0) :: rest)) :=
  va_get (D := g.1) (ci := 7) (v := .ref (g.2.2 17)) (C := RX7) (T := TX7) (N := 29) C0.1 C0.2.1 C0.2.2.2.2 iw_RX7 C0.2.2.2.1 I.1 I.2.1 0 rfl rfl 23 (by decide) (C0.2.2.2.2 _ wd_626) (fun _ h9 => h9) rfl hd k
theorem ms_17 {i v : Int32} (hx : p.tables.exec = Jvm.exec) (hb : c.code = cc) (I : mI g s S H locs) (hi : vp_in i 120) (hd : decode cc pc = .ok (.iastore, 1)) (k : ∀ (H1 : Heap) (locs1 : List Loc), mI g s (pR S 16 i v) H1 locs1 → W p l e R s m args below meth c H1 locs1 cells slots Q (F0 m (pc + 1) ls rest)) : W p l e R s m args below meth c H locs cells slots Q (F0 m pc ls (.int v :: .int i :: .ref (g.2.2 17) :: rest)) :=
  va_iast (f := aR S 16) hx hb I.1 I.2.1 I.2.2.1 I.2.2.2 17 0 rfl rfl hi hd (fun H1 locs1 hP hD hS => k H1 locs1 ⟨I.1, hP, hD, hS⟩)
theorem mp_X7_227_0 {v : Int32} (C0 : CallFix p m c cc nL s args big RX7) (I : mI g s S H locs) (hd : decode cc pc = .ok (.putfield 227, 3)) (k : ∀ (H1 : Heap) (locs1 : List Loc), mI g s (pF S 24 v) H1 locs1 → W p l e R s m args below meth c H1 locs1 cells slots Q (F0 m (pc + 3) ls rest)) : W p l e R s m args below meth c H locs cells slots Q (F0 m pc ls (.int v :: .ref (g.2.2 0) :: rest)) :=
  va_put (D := g.1) (ci := 7) (v := .int v) (ty := .int) (C := RX7) (T := TX7) (N := 29) C0.1 C0.2.1 C0.2.2.2.2 iw_RX7 tyX7 tyX7_ok nmX7 C0.2.2.2.1 I.1 I.2.1 I.2.2.1 I.2.2.2 0 rfl rfl 24 (by decide) (C0.2.2.2.2 _ wd_627) (fun _ h9 => h9) rfl (by decide +kernel) rfl rfl (Nat.le_of_ble_eq_true rfl) hd (fun H1 locs1 hP hD hS => k H1 locs1 ⟨I.1, hP, hD, hS⟩)
theorem mp_X7_230_0 {v : Int32} (C0 : CallFix p m c cc nL s args big RX7) (I : mI g s S H locs) (hd : decode cc pc = .ok (.putfield 230, 3)) (k : ∀ (H1 : Heap) (locs1 : List Loc), mI g s (pF S 25 v) H1 locs1 → W p l e R s m args below meth c H1 locs1 cells slots Q (F0 m (pc + 3) ls rest)) : W p l e R s m args below meth c H locs cells slots Q (F0 m pc ls (.int v :: .ref (g.2.2 0) :: rest)) :=
  va_put (D := g.1) (ci := 7) (v := .int v) (ty := .int) (C := RX7) (T := TX7) (N := 29) C0.1 C0.2.1 C0.2.2.2.2 iw_RX7 tyX7 tyX7_ok nmX7 C0.2.2.2.1 I.1 I.2.1 I.2.2.1 I.2.2.2 0 rfl rfl 25 (by decide) (C0.2.2.2.2 _ wd_628) (fun _ h9 => h9) rfl (by decide +kernel) rfl rfl (Nat.le_of_ble_eq_true rfl) hd (fun H1 locs1 hP hD hS => k H1 locs1 ⟨I.1, hP, hD, hS⟩)
theorem mp_X7_245_0 {v : Int32} (C0 : CallFix p m c cc nL s args big RX7) (I : mI g s S H locs) (hd : decode cc pc = .ok (.putfield 245, 3)) (k : ∀ (H1 : Heap) (locs1 : List Loc), mI g s (pF S 28 v) H1 locs1 → W p l e R s m args below meth c H1 locs1 cells slots Q (F0 m (pc + 3) ls rest)) : W p l e R s m args below meth c H locs cells slots Q (F0 m pc ls (.int v :: .ref (g.2.2 0) :: rest)) :=
  va_put (D := g.1) (ci := 7) (v := .int v) (ty := .int) (C := RX7) (T := TX7) (N := 29) C0.1 C0.2.1 C0.2.2.2.2 iw_RX7 tyX7 tyX7_ok nmX7 C0.2.2.2.1 I.1 I.2.1 I.2.2.1 I.2.2.2 0 rfl rfl 28 (by decide) (C0.2.2.2.2 _ wd_631) (fun _ h9 => h9) rfl (by decide +kernel) rfl rfl (Nat.le_of_ble_eq_true rfl) hd (fun H1 locs1 hP hD hS => k H1 locs1 ⟨I.1, hP, hD, hS⟩)
theorem mg_X7_230_0 (C0 : CallFix p m c cc nL s args big RX7) (I : mI g s S H locs) (hd : decode cc pc = .ok (.getfield 230, 3)) (k : W p l e R s m args below meth c H locs cells slots Q (F0 m (pc + 3) ls (.int (gF S 25) :: rest))) : W p l e R s m args below meth c H locs cells slots Q (F0 m pc ls (.ref (g.2.2 0) :: rest)) :=
  va_get (D := g.1) (ci := 7) (v := .int (gF S 25)) (C := RX7) (T := TX7) (N := 29) C0.1 C0.2.1 C0.2.2.2.2 iw_RX7 C0.2.2.2.1 I.1 I.2.1 0 rfl rfl 25 (by decide) (C0.2.2.2.2 _ wd_628) (fun _ h9 => h9) rfl hd k
theorem ml_17 {i : Int32} (hx : p.tables.exec = Jvm.exec) (hb : c.code = cc) (I : mI g s S H locs) (hi : vp_in i 120) (hd : decode cc pc = .ok (.iaload, 1)) (k : W p l e R s m args below meth c H locs cells slots Q (F0 m (pc + 1) ls (.int (gR S 16 i) :: rest))) : W p l e R s m args below meth c H locs cells slots Q (F0 m pc ls (.int i :: .ref (g.2.2 17) :: rest)) :=
  va_iald (f := aR S 16) hx hb I.1 I.2.1 17 0 rfl rfl hi hd k
theorem mp_X7_236_0 {v : Int32} (C0 : CallFix p m c cc nL s args big RX7) (I : mI g s S H locs) (hd : decode cc pc = .ok (.putfield 236, 3)) (k : ∀ (H1 : Heap) (locs1 : List Loc), mI g s (pF S 26 v) H1 locs1 → W p l e R s m args below meth c H1 locs1 cells slots Q (F0 m (pc + 3) ls rest)) : W p l e R s m args below meth c H locs cells slots Q (F0 m pc ls (.int v :: .ref (g.2.2 0) :: rest)) :=
  va_put (D := g.1) (ci := 7) (v := .int v) (ty := .int) (C := RX7) (T := TX7) (N := 29) C0.1 C0.2.1 C0.2.2.2.2 iw_RX7 tyX7 tyX7_ok nmX7 C0.2.2.2.1 I.1 I.2.1 I.2.2.1 I.2.2.2 0 rfl rfl 26 (by decide) (C0.2.2.2.2 _ wd_629) (fun _ h9 => h9) rfl (by decide +kernel) rfl rfl (Nat.le_of_ble_eq_true rfl) hd (fun H1 locs1 hP hD hS => k H1 locs1 ⟨I.1, hP, hD, hS⟩)
theorem mg_X7_245_0 (C0 : CallFix p m c cc nL s args big RX7) (I : mI g s S H locs) (hd : decode cc pc = .ok (.getfield 245, 3)) (k : W p l e R s m args below meth c H locs cells slots Q (F0 m (pc + 3) ls (.int (gF S 28) :: rest))) : W p l e R s m args below meth c H locs cells slots Q (F0 m pc ls (.ref (g.2.2 0) :: rest)) :=
  va_get (D := g.1) (ci := 7) (v := .int (gF S 28)) (C := RX7) (T := TX7) (N := 29) C0.1 C0.2.1 C0.2.2.2.2 iw_RX7 C0.2.2.2.1 I.1 I.2.1 0 rfl rfl 28 (by decide) (C0.2.2.2.2 _ wd_631) (fun _ h9 => h9) rfl hd k
theorem mp_X7_242_0 {v : Int32} (C0 : CallFix p m c cc nL s args big RX7) (I : mI g s S H locs) (hd : decode cc pc = .ok (.putfield 242, 3)) (k : ∀ (H1 : Heap) (locs1 : List Loc), mI g s (pF S 27 v) H1 locs1 → W p l e R s m args below meth c H1 locs1 cells slots Q (F0 m (pc + 3) ls rest)) : W p l e R s m args below meth c H locs cells slots Q (F0 m pc ls (.int v :: .ref (g.2.2 0) :: rest)) :=
  va_put (D := g.1) (ci := 7) (v := .int v) (ty := .int) (C := RX7) (T := TX7) (N := 29) C0.1 C0.2.1 C0.2.2.2.2 iw_RX7 tyX7 tyX7_ok nmX7 C0.2.2.2.1 I.1 I.2.1 I.2.2.1 I.2.2.2 0 rfl rfl 27 (by decide) (C0.2.2.2.2 _ wd_630) (fun _ h9 => h9) rfl (by decide +kernel) rfl rfl (Nat.le_of_ble_eq_true rfl) hd (fun H1 locs1 hP hD hS => k H1 locs1 ⟨I.1, hP, hD, hS⟩)
theorem mg_X7_242_0 (C0 : CallFix p m c cc nL s args big RX7) (I : mI g s S H locs) (hd : decode cc pc = .ok (.getfield 242, 3)) (k : W p l e R s m args below meth c H locs cells slots Q (F0 m (pc + 3) ls (.int (gF S 27) :: rest))) : W p l e R s m args below meth c H locs cells slots Q (F0 m pc ls (.ref (g.2.2 0) :: rest)) :=
  va_get (D := g.1) (ci := 7) (v := .int (gF S 27)) (C := RX7) (T := TX7) (N := 29) C0.1 C0.2.1 C0.2.2.2.2 iw_RX7 C0.2.2.2.1 I.1 I.2.1 0 rfl rfl 27 (by decide) (C0.2.2.2.2 _ wd_630) (fun _ h9 => h9) rfl hd k
theorem mg_X7_236_0 (C0 : CallFix p m c cc nL s args big RX7) (I : mI g s S H locs) (hd : decode cc pc = .ok (.getfield 236, 3)) (k : W p l e R s m args below meth c H locs cells slots Q (F0 m (pc + 3) ls (.int (gF S 26) :: rest))) : W p l e R s m args below meth c H locs cells slots Q (F0 m pc ls (.ref (g.2.2 0) :: rest)) :=
  va_get (D := g.1) (ci := 7) (v := .int (gF S 26)) (C := RX7) (T := TX7) (N := 29) C0.1 C0.2.1 C0.2.2.2.2 iw_RX7 C0.2.2.2.1 I.1 I.2.1 0 rfl rfl 26 (by decide) (C0.2.2.2.2 _ wd_629) (fun _ h9 => h9) rfl hd k
end
end
section
section
variable {p : Program} {l : Launch} {e : Env} {R : Room} {s : State} {m : MethodId} {args : Array Value} {below : List Frame} {meth : Method} {c : Code} {cells slots : Nat} {Q : State → Prop} {g : xG} {H : Heap} {locs : List Loc} {ls : Array Slot} {S S' : St} {cc : ByteArray} {nL pc : Nat} {rest : List Value}
theorem xg_X6_51_0 (C0 : CallFix p m c cc nL s args big RX6) (I : xI g s S H locs) (hd : decode cc pc = .ok (.getfield 51, 3)) (k : W p l e R s m args below meth c H locs cells slots Q (F0 m (pc + 3) ls (.ref (g.2.2 35) :: rest))) : W p l e R s m args below meth c H locs cells slots Q (F0 m pc ls (.ref (g.2.2 0) :: rest)) :=
  va_get (D := g.1) (ci := 6) (v := .ref (g.2.2 35)) (C := RX6) (T := TX6) (N := 9) C0.1 C0.2.1 C0.2.2.2.2 iw_RX6 C0.2.2.2.1 I.1 I.2.1 0 rfl rfl 6 (by decide) (C0.2.2.2.2 _ wd_246) (fun _ h9 => h9) rfl hd k
theorem xn_35 (hx : p.tables.exec = Jvm.exec) (hb : c.code = cc) (I : xI g s S H locs) (hd : decode cc pc = .ok (.arraylength, 1)) (k : W p l e R s m args below meth c H locs cells slots Q (F0 m (pc + 1) ls (.int 3 :: rest))) : W p l e R s m args below meth c H locs cells slots Q (F0 m pc ls (.ref (g.2.2 35) :: rest)) :=
  va_alen hx hb I.1 I.2.1 35 0 rfl rfl rfl hd k
theorem xl_35 {i : Int32} (hx : p.tables.exec = Jvm.exec) (hb : c.code = cc) (I : xI g s S H locs) (hi : vp_in i 3) (hd : decode cc pc = .ok (.iaload, 1)) (k : W p l e R s m args below meth c H locs cells slots Q (F0 m (pc + 1) ls (.int (gR S 7 i) :: rest))) : W p l e R s m args below meth c H locs cells slots Q (F0 m pc ls (.int i :: .ref (g.2.2 35) :: rest)) :=
  va_iald (f := aR S 7) hx hb I.1 I.2.1 35 0 rfl rfl hi hd k
theorem xs_35 {i v : Int32} (hx : p.tables.exec = Jvm.exec) (hb : c.code = cc) (I : xI g s S H locs) (hi : vp_in i 3) (hd : decode cc pc = .ok (.iastore, 1)) (k : ∀ (H1 : Heap) (locs1 : List Loc), xI g s (pR S 7 i v) H1 locs1 → W p l e R s m args below meth c H1 locs1 cells slots Q (F0 m (pc + 1) ls rest)) : W p l e R s m args below meth c H locs cells slots Q (F0 m pc ls (.int v :: .int i :: .ref (g.2.2 35) :: rest)) :=
  va_iast (f := aR S 7) hx hb I.1 I.2.1 I.2.2.1 I.2.2.2 35 0 rfl rfl hi hd (fun H1 locs1 hP hD hS => k H1 locs1 ⟨I.1, hP, hD, hS⟩)
theorem xo_0 (I : xI g s S H locs) : ∃ cell : Cell, H[g.2.2 0]? = some cell ∧ cell.vm.isStatics = false ∧ s.vm.findClass RX6 = some cell.cls := va_recv I.1 I.2.1 (ci := 6) (q0 := 0) rfl rfl
theorem xg_X6_19_0 (C0 : CallFix p m c cc nL s args big RX6) (I : xI g s S H locs) (hd : decode cc pc = .ok (.getfield 19, 3)) (k : W p l e R s m args below meth c H locs cells slots Q (F0 m (pc + 3) ls (.ref (g.2.2 3) :: rest))) : W p l e R s m args below meth c H locs cells slots Q (F0 m pc ls (.ref (g.2.2 0) :: rest)) :=
  va_get (D := g.1) (ci := 6) (v := .ref (g.2.2 3)) (C := RX6) (T := TX6) (N := 9) C0.1 C0.2.1 C0.2.2.2.2 iw_RX6 C0.2.2.2.1 I.1 I.2.1 0 rfl rfl 1 (by decide) (C0.2.2.2.2 _ wd_241) (fun _ h9 => h9) rfl hd k
theorem xg_X6_10_0 (C0 : CallFix p m c cc nL s args big RX6) (I : xI g s S H locs) (hd : decode cc pc = .ok (.getfield 10, 3)) (k : W p l e R s m args below meth c H locs cells slots Q (F0 m (pc + 3) ls (.ref (g.2.2 1) :: rest))) : W p l e R s m args below meth c H locs cells slots Q (F0 m pc ls (.ref (g.2.2 0) :: rest)) :=
  va_get (D := g.1) (ci := 6) (v := .ref (g.2.2 1)) (C := RX6) (T := TX6) (N := 9) C0.1 C0.2.1 C0.2.2.2.2 iw_RX6 C0.2.2.2.1 I.1 I.2.1 0 rfl rfl 0 (by decide) (C0.2.2.2.2 _ wd_240) (fun _ h9 => h9) rfl hd k
theorem xg_X0_15_3 (C0 : CallFix p m c cc nL s args big RX0) (I : xI g s S H locs) (hd : decode cc pc = .ok (.getfield 15, 3)) (k : W p l e R s m args below meth c H locs cells slots Q (F0 m (pc + 3) ls (.int (gF S 31) :: rest))) : W p l e R s m args below meth c H locs cells slots Q (F0 m pc ls (.ref (g.2.2 3) :: rest)) :=
  va_get (D := g.1) (ci := 0) (v := .int (gF S 31)) (C := RX0) (T := TX0) (N := 3) C0.1 C0.2.1 C0.2.2.2.2 iw_RX0 C0.2.2.2.1 I.1 I.2.1 3 rfl rfl 1 (by decide) (C0.2.2.2.2 _ wd_128) (fun _ h9 => h9) rfl hd k
theorem xp_X0_15_3 {v : Int32} (C0 : CallFix p m c cc nL s args big RX0) (I : xI g s S H locs) (hd : decode cc pc = .ok (.putfield 15, 3)) (k : ∀ (H1 : Heap) (locs1 : List Loc), xI g s (pF S 31 v) H1 locs1 → W p l e R s m args below meth c H1 locs1 cells slots Q (F0 m (pc + 3) ls rest)) : W p l e R s m args below meth c H locs cells slots Q (F0 m pc ls (.int v :: .ref (g.2.2 3) :: rest)) :=
  va_put (D := g.1) (ci := 0) (v := .int v) (ty := .int) (C := RX0) (T := TX0) (N := 3) C0.1 C0.2.1 C0.2.2.2.2 iw_RX0 tyX0 tyX0_ok nmX0 C0.2.2.2.1 I.1 I.2.1 I.2.2.1 I.2.2.2 3 rfl rfl 1 (by decide) (C0.2.2.2.2 _ wd_128) (fun _ h9 => h9) rfl (by decide +kernel) rfl rfl (Nat.le_of_ble_eq_true rfl) hd (fun H1 locs1 hP hD hS => k H1 locs1 ⟨I.1, hP, hD, hS⟩)
theorem xg_X0_20_3 (C0 : CallFix p m c cc nL s args big RX0) (I : xI g s S H locs) (hd : decode cc pc = .ok (.getfield 20, 3)) (k : W p l e R s m args below meth c H locs cells slots Q (F0 m (pc + 3) ls (.ref (g.2.2 4) :: rest))) : W p l e R s m args below meth c H locs cells slots Q (F0 m pc ls (.ref (g.2.2 3) :: rest)) :=
  va_get (D := g.1) (ci := 0) (v := .ref (g.2.2 4)) (C := RX0) (T := TX0) (N := 3) C0.1 C0.2.1 C0.2.2.2.2 iw_RX0 C0.2.2.2.1 I.1 I.2.1 3 rfl rfl 2 (by decide) (C0.2.2.2.2 _ wd_129) (fun _ h9 => h9) rfl hd k
theorem xg_X3_9_1 (C0 : CallFix p m c cc nL s args big RX3) (I : xI g s S H locs) (hd : decode cc pc = .ok (.getfield 9, 3)) (k : W p l e R s m args below meth c H locs cells slots Q (F0 m (pc + 3) ls (.int (gF S 0) :: rest))) : W p l e R s m args below meth c H locs cells slots Q (F0 m pc ls (.ref (g.2.2 1) :: rest)) :=
  va_get (D := g.1) (ci := 3) (v := .int (gF S 0)) (C := RX3) (T := TX3) (N := 5) C0.1 C0.2.1 C0.2.2.2.2 iw_RX3 C0.2.2.2.1 I.1 I.2.1 1 rfl rfl 0 (by decide) (C0.2.2.2.2 _ wd_91) (fun _ h9 => h9) rfl hd k
theorem xp_X3_9_5 {v : Int32} (C0 : CallFix p m c cc nL s args big RX3) (I : xI g s S H locs) (hd : decode cc pc = .ok (.putfield 9, 3)) (k : ∀ (H1 : Heap) (locs1 : List Loc), xI g s (pF S 4 v) H1 locs1 → W p l e R s m args below meth c H1 locs1 cells slots Q (F0 m (pc + 3) ls rest)) : W p l e R s m args below meth c H locs cells slots Q (F0 m pc ls (.int v :: .ref (g.2.2 5) :: rest)) :=
  va_put (D := g.1) (ci := 3) (v := .int v) (ty := .int) (C := RX3) (T := TX3) (N := 5) C0.1 C0.2.1 C0.2.2.2.2 iw_RX3 tyX3 tyX3_ok nmX3 C0.2.2.2.1 I.1 I.2.1 I.2.2.1 I.2.2.2 5 rfl rfl 0 (by decide) (C0.2.2.2.2 _ wd_91) (fun _ h9 => h9) rfl (by decide +kernel) rfl rfl (Nat.le_of_ble_eq_true rfl) hd (fun H1 locs1 hP hD hS => k H1 locs1 ⟨I.1, hP, hD, hS⟩)
theorem xg_X3_15_1 (C0 : CallFix p m c cc nL s args big RX3) (I : xI g s S H locs) (hd : decode cc pc = .ok (.getfield 15, 3)) (k : W p l e R s m args below meth c H locs cells slots Q (F0 m (pc + 3) ls (.int (gF S 1) :: rest))) : W p l e R s m args below meth c H locs cells slots Q (F0 m pc ls (.ref (g.2.2 1) :: rest)) :=
  va_get (D := g.1) (ci := 3) (v := .int (gF S 1)) (C := RX3) (T := TX3) (N := 5) C0.1 C0.2.1 C0.2.2.2.2 iw_RX3 C0.2.2.2.1 I.1 I.2.1 1 rfl rfl 1 (by decide) (C0.2.2.2.2 _ wd_95) (fun _ h9 => h9) rfl hd k
theorem xp_X3_15_5 {v : Int32} (C0 : CallFix p m c cc nL s args big RX3) (I : xI g s S H locs) (hd : decode cc pc = .ok (.putfield 15, 3)) (k : ∀ (H1 : Heap) (locs1 : List Loc), xI g s (pF S 5 v) H1 locs1 → W p l e R s m args below meth c H1 locs1 cells slots Q (F0 m (pc + 3) ls rest)) : W p l e R s m args below meth c H locs cells slots Q (F0 m pc ls (.int v :: .ref (g.2.2 5) :: rest)) :=
  va_put (D := g.1) (ci := 3) (v := .int v) (ty := .int) (C := RX3) (T := TX3) (N := 5) C0.1 C0.2.1 C0.2.2.2.2 iw_RX3 tyX3 tyX3_ok nmX3 C0.2.2.2.1 I.1 I.2.1 I.2.2.1 I.2.2.2 5 rfl rfl 1 (by decide) (C0.2.2.2.2 _ wd_95) (fun _ h9 => h9) rfl (by decide +kernel) rfl rfl (Nat.le_of_ble_eq_true rfl) hd (fun H1 locs1 hP hD hS => k H1 locs1 ⟨I.1, hP, hD, hS⟩)
theorem xg_X3_18_1 (C0 : CallFix p m c cc nL s args big RX3) (I : xI g s S H locs) (hd : decode cc pc = .ok (.getfield 18, 3)) (k : W p l e R s m args below meth c H locs cells slots Q (F0 m (pc + 3) ls (.int (gF S 2) :: rest))) : W p l e R s m args below meth c H locs cells slots Q (F0 m pc ls (.ref (g.2.2 1) :: rest)) :=
  va_get (D := g.1) (ci := 3) (v := .int (gF S 2)) (C := RX3) (T := TX3) (N := 5) C0.1 C0.2.1 C0.2.2.2.2 iw_RX3 C0.2.2.2.1 I.1 I.2.1 1 rfl rfl 2 (by decide) (C0.2.2.2.2 _ wd_98) (fun _ h9 => h9) rfl hd k
theorem xp_X3_18_5 {v : Int32} (C0 : CallFix p m c cc nL s args big RX3) (I : xI g s S H locs) (hd : decode cc pc = .ok (.putfield 18, 3)) (k : ∀ (H1 : Heap) (locs1 : List Loc), xI g s (pF S 6 v) H1 locs1 → W p l e R s m args below meth c H1 locs1 cells slots Q (F0 m (pc + 3) ls rest)) : W p l e R s m args below meth c H locs cells slots Q (F0 m pc ls (.int v :: .ref (g.2.2 5) :: rest)) :=
  va_put (D := g.1) (ci := 3) (v := .int v) (ty := .int) (C := RX3) (T := TX3) (N := 5) C0.1 C0.2.1 C0.2.2.2.2 iw_RX3 tyX3 tyX3_ok nmX3 C0.2.2.2.1 I.1 I.2.1 I.2.2.1 I.2.2.2 5 rfl rfl 2 (by decide) (C0.2.2.2.2 _ wd_98) (fun _ h9 => h9) rfl (by decide +kernel) rfl rfl (Nat.le_of_ble_eq_true rfl) hd (fun H1 locs1 hP hD hS => k H1 locs1 ⟨I.1, hP, hD, hS⟩)
theorem xg_X3_21_1 (C0 : CallFix p m c cc nL s args big RX3) (I : xI g s S H locs) (hd : decode cc pc = .ok (.getfield 21, 3)) (k : W p l e R s m args below meth c H locs cells slots Q (F0 m (pc + 3) ls (.int (gF S 3) :: rest))) : W p l e R s m args below meth c H locs cells slots Q (F0 m pc ls (.ref (g.2.2 1) :: rest)) :=
  va_get (D := g.1) (ci := 3) (v := .int (gF S 3)) (C := RX3) (T := TX3) (N := 5) C0.1 C0.2.1 C0.2.2.2.2 iw_RX3 C0.2.2.2.1 I.1 I.2.1 1 rfl rfl 3 (by decide) (C0.2.2.2.2 _ wd_100) (fun _ h9 => h9) rfl hd k
theorem xp_X3_21_5 {v : Int32} (C0 : CallFix p m c cc nL s args big RX3) (I : xI g s S H locs) (hd : decode cc pc = .ok (.putfield 21, 3)) (k : ∀ (H1 : Heap) (locs1 : List Loc), xI g s (pF S 7 v) H1 locs1 → W p l e R s m args below meth c H1 locs1 cells slots Q (F0 m (pc + 3) ls rest)) : W p l e R s m args below meth c H locs cells slots Q (F0 m pc ls (.int v :: .ref (g.2.2 5) :: rest)) :=
  va_put (D := g.1) (ci := 3) (v := .int v) (ty := .int) (C := RX3) (T := TX3) (N := 5) C0.1 C0.2.1 C0.2.2.2.2 iw_RX3 tyX3 tyX3_ok nmX3 C0.2.2.2.1 I.1 I.2.1 I.2.2.1 I.2.2.2 5 rfl rfl 3 (by decide) (C0.2.2.2.2 _ wd_100) (fun _ h9 => h9) rfl (by decide +kernel) rfl rfl (Nat.le_of_ble_eq_true rfl) hd (fun H1 locs1 hP hD hS => k H1 locs1 ⟨I.1, hP, hD, hS⟩)
theorem xg_X3_24_1 (C0 : CallFix p m c cc nL s args big RX3) (I : xI g s S H locs) (hd : decode cc pc = .ok (.getfield 24, 3)) (k : W p l e R s m args below meth c H locs cells slots Q (F0 m (pc + 3) ls (.ref (g.2.2 2) :: rest))) : W p l e R s m args below meth c H locs cells slots Q (F0 m pc ls (.ref (g.2.2 1) :: rest)) :=
  va_get (D := g.1) (ci := 3) (v := .ref (g.2.2 2)) (C := RX3) (T := TX3) (N := 5) C0.1 C0.2.1 C0.2.2.2.2 iw_RX3 C0.2.2.2.1 I.1 I.2.1 1 rfl rfl 4 (by decide) (C0.2.2.2.2 _ wd_104) (fun _ h9 => h9) rfl hd k
theorem xg_X3_24_5 (C0 : CallFix p m c cc nL s args big RX3) (I : xI g s S H locs) (hd : decode cc pc = .ok (.getfield 24, 3)) (k : W p l e R s m args below meth c H locs cells slots Q (F0 m (pc + 3) ls (.ref (g.2.2 6) :: rest))) : W p l e R s m args below meth c H locs cells slots Q (F0 m pc ls (.ref (g.2.2 5) :: rest)) :=
  va_get (D := g.1) (ci := 3) (v := .ref (g.2.2 6)) (C := RX3) (T := TX3) (N := 5) C0.1 C0.2.1 C0.2.2.2.2 iw_RX3 C0.2.2.2.1 I.1 I.2.1 5 rfl rfl 4 (by decide) (C0.2.2.2.2 _ wd_104) (fun _ h9 => h9) rfl hd k
theorem xn_6 (hx : p.tables.exec = Jvm.exec) (hb : c.code = cc) (I : xI g s S H locs) (hd : decode cc pc = .ok (.arraylength, 1)) (k : W p l e R s m args below meth c H locs cells slots Q (F0 m (pc + 1) ls (.int 64 :: rest))) : W p l e R s m args below meth c H locs cells slots Q (F0 m pc ls (.ref (g.2.2 6) :: rest)) :=
  va_alen hx hb I.1 I.2.1 6 0 rfl rfl rfl hd k
theorem xc_6_2 (C0 : CallFix p m c cc nL s args big RX3) (hls : ls.size = nL) (I : xI g s S H locs) (hfr : 1 ≤ R.frames) (hlo : (rest.map fun v => v.category).sum + (nativeFrameWords "java/lang/System" "arraycopy" 5 + 11) ≤ R.locals) (hd : decode cc pc = .ok (.invokestatic 36, 3)) (k : ∀ (H1 : Heap) (locs1 : List Loc), xI g s (pC S 1 0) H1 locs1 → W p l e R s m args below meth c H1 locs1 cells slots Q (F0 m (pc + 3) ls rest)) : W p l e R s m args below meth c H locs cells slots Q (F0 m pc ls (.int 64 :: .int 0 :: .ref (g.2.2 6) :: .int 0 :: .ref (g.2.2 2) :: rest)) :=
  va_copyi (f := aR S 0) (g := aR S 1) (ty := .int) C0.1 C0.2.1 (C0.2.2.1.trans hls.symm) C0.2.2.2.1 (C0.2.2.2.2 _ wd_284) (C0.2.2.2.2 _ wd_286) (C0.2.2.2.2 _ wd_285) (C0.2.2.2.2 _ wd_74) I.1 I.2.1 I.2.2.1 I.2.2.2 2 6 0 0 rfl rfl rfl rfl rfl (by decide) (by decide) (by decide) (by decide) (by decide) (fun _ _ => rfl) hfr hlo hd (fun H1 locs1 hP hD hS => k H1 locs1 ⟨I.1, hP, hD, hS⟩)
theorem xo_5 (I : xI g s S H locs) : ∃ cell : Cell, H[g.2.2 5]? = some cell ∧ cell.vm.isStatics = false ∧ s.vm.findClass RX3 = some cell.cls := va_recv I.1 I.2.1 (ci := 3) (q0 := 5) rfl rfl
theorem xg_X0_9_3 (C0 : CallFix p m c cc nL s args big RX0) (I : xI g s S H locs) (hd : decode cc pc = .ok (.getfield 9, 3)) (k : W p l e R s m args below meth c H locs cells slots Q (F0 m (pc + 3) ls (.int (gF S 30) :: rest))) : W p l e R s m args below meth c H locs cells slots Q (F0 m pc ls (.ref (g.2.2 3) :: rest)) :=
  va_get (D := g.1) (ci := 0) (v := .int (gF S 30)) (C := RX0) (T := TX0) (N := 3) C0.1 C0.2.1 C0.2.2.2.2 iw_RX0 C0.2.2.2.1 I.1 I.2.1 3 rfl rfl 0 (by decide) (C0.2.2.2.2 _ wd_126) (fun _ h9 => h9) rfl hd k
theorem xp_X0_9_3 {v : Int32} (C0 : CallFix p m c cc nL s args big RX0) (I : xI g s S H locs) (hd : decode cc pc = .ok (.putfield 9, 3)) (k : ∀ (H1 : Heap) (locs1 : List Loc), xI g s (pF S 30 v) H1 locs1 → W p l e R s m args below meth c H1 locs1 cells slots Q (F0 m (pc + 3) ls rest)) : W p l e R s m args below meth c H locs cells slots Q (F0 m pc ls (.int v :: .ref (g.2.2 3) :: rest)) :=
  va_put (D := g.1) (ci := 0) (v := .int v) (ty := .int) (C := RX0) (T := TX0) (N := 3) C0.1 C0.2.1 C0.2.2.2.2 iw_RX0 tyX0 tyX0_ok nmX0 C0.2.2.2.1 I.1 I.2.1 I.2.2.1 I.2.2.2 3 rfl rfl 0 (by decide) (C0.2.2.2.2 _ wd_126) (fun _ h9 => h9) rfl (by decide +kernel) rfl rfl (Nat.le_of_ble_eq_true rfl) hd (fun H1 locs1 hP hD hS => k H1 locs1 ⟨I.1, hP, hD, hS⟩)
theorem xp_X3_9_7 {v : Int32} (C0 : CallFix p m c cc nL s args big RX3) (I : xI g s S H locs) (hd : decode cc pc = .ok (.putfield 9, 3)) (k : ∀ (H1 : Heap) (locs1 : List Loc), xI g s (pF S 8 v) H1 locs1 → W p l e R s m args below meth c H1 locs1 cells slots Q (F0 m (pc + 3) ls rest)) : W p l e R s m args below meth c H locs cells slots Q (F0 m pc ls (.int v :: .ref (g.2.2 7) :: rest)) :=
  va_put (D := g.1) (ci := 3) (v := .int v) (ty := .int) (C := RX3) (T := TX3) (N := 5) C0.1 C0.2.1 C0.2.2.2.2 iw_RX3 tyX3 tyX3_ok nmX3 C0.2.2.2.1 I.1 I.2.1 I.2.2.1 I.2.2.2 7 rfl rfl 0 (by decide) (C0.2.2.2.2 _ wd_91) (fun _ h9 => h9) rfl (by decide +kernel) rfl rfl (Nat.le_of_ble_eq_true rfl) hd (fun H1 locs1 hP hD hS => k H1 locs1 ⟨I.1, hP, hD, hS⟩)
theorem xp_X3_15_7 {v : Int32} (C0 : CallFix p m c cc nL s args big RX3) (I : xI g s S H locs) (hd : decode cc pc = .ok (.putfield 15, 3)) (k : ∀ (H1 : Heap) (locs1 : List Loc), xI g s (pF S 9 v) H1 locs1 → W p l e R s m args below meth c H1 locs1 cells slots Q (F0 m (pc + 3) ls rest)) : W p l e R s m args below meth c H locs cells slots Q (F0 m pc ls (.int v :: .ref (g.2.2 7) :: rest)) :=
  va_put (D := g.1) (ci := 3) (v := .int v) (ty := .int) (C := RX3) (T := TX3) (N := 5) C0.1 C0.2.1 C0.2.2.2.2 iw_RX3 tyX3 tyX3_ok nmX3 C0.2.2.2.1 I.1 I.2.1 I.2.2.1 I.2.2.2 7 rfl rfl 1 (by decide) (C0.2.2.2.2 _ wd_95) (fun _ h9 => h9) rfl (by decide +kernel) rfl rfl (Nat.le_of_ble_eq_true rfl) hd (fun H1 locs1 hP hD hS => k H1 locs1 ⟨I.1, hP, hD, hS⟩)
theorem xp_X3_18_7 {v : Int32} (C0 : CallFix p m c cc nL s args big RX3) (I : xI g s S H locs) (hd : decode cc pc = .ok (.putfield 18, 3)) (k : ∀ (H1 : Heap) (locs1 : List Loc), xI g s (pF S 10 v) H1 locs1 → W p l e R s m args below meth c H1 locs1 cells slots Q (F0 m (pc + 3) ls rest)) : W p l e R s m args below meth c H locs cells slots Q (F0 m pc ls (.int v :: .ref (g.2.2 7) :: rest)) :=
  va_put (D := g.1) (ci := 3) (v := .int v) (ty := .int) (C := RX3) (T := TX3) (N := 5) C0.1 C0.2.1 C0.2.2.2.2 iw_RX3 tyX3 tyX3_ok nmX3 C0.2.2.2.1 I.1 I.2.1 I.2.2.1 I.2.2.2 7 rfl rfl 2 (by decide) (C0.2.2.2.2 _ wd_98) (fun _ h9 => h9) rfl (by decide +kernel) rfl rfl (Nat.le_of_ble_eq_true rfl) hd (fun H1 locs1 hP hD hS => k H1 locs1 ⟨I.1, hP, hD, hS⟩)
theorem xp_X3_21_7 {v : Int32} (C0 : CallFix p m c cc nL s args big RX3) (I : xI g s S H locs) (hd : decode cc pc = .ok (.putfield 21, 3)) (k : ∀ (H1 : Heap) (locs1 : List Loc), xI g s (pF S 11 v) H1 locs1 → W p l e R s m args below meth c H1 locs1 cells slots Q (F0 m (pc + 3) ls rest)) : W p l e R s m args below meth c H locs cells slots Q (F0 m pc ls (.int v :: .ref (g.2.2 7) :: rest)) :=
  va_put (D := g.1) (ci := 3) (v := .int v) (ty := .int) (C := RX3) (T := TX3) (N := 5) C0.1 C0.2.1 C0.2.2.2.2 iw_RX3 tyX3 tyX3_ok nmX3 C0.2.2.2.1 I.1 I.2.1 I.2.2.1 I.2.2.2 7 rfl rfl 3 (by decide) (C0.2.2.2.2 _ wd_100) (fun _ h9 => h9) rfl (by decide +kernel) rfl rfl (Nat.le_of_ble_eq_true rfl) hd (fun H1 locs1 hP hD hS => k H1 locs1 ⟨I.1, hP, hD, hS⟩)
theorem xg_X3_24_7 (C0 : CallFix p m c cc nL s args big RX3) (I : xI g s S H locs) (hd : decode cc pc = .ok (.getfield 24, 3)) (k : W p l e R s m args below meth c H locs cells slots Q (F0 m (pc + 3) ls (.ref (g.2.2 8) :: rest))) : W p l e R s m args below meth c H locs cells slots Q (F0 m pc ls (.ref (g.2.2 7) :: rest)) :=
  va_get (D := g.1) (ci := 3) (v := .ref (g.2.2 8)) (C := RX3) (T := TX3) (N := 5) C0.1 C0.2.1 C0.2.2.2.2 iw_RX3 C0.2.2.2.1 I.1 I.2.1 7 rfl rfl 4 (by decide) (C0.2.2.2.2 _ wd_104) (fun _ h9 => h9) rfl hd k
theorem xn_8 (hx : p.tables.exec = Jvm.exec) (hb : c.code = cc) (I : xI g s S H locs) (hd : decode cc pc = .ok (.arraylength, 1)) (k : W p l e R s m args below meth c H locs cells slots Q (F0 m (pc + 1) ls (.int 64 :: rest))) : W p l e R s m args below meth c H locs cells slots Q (F0 m pc ls (.ref (g.2.2 8) :: rest)) :=
  va_alen hx hb I.1 I.2.1 8 0 rfl rfl rfl hd k
theorem xc_8_2 (C0 : CallFix p m c cc nL s args big RX3) (hls : ls.size = nL) (I : xI g s S H locs) (hfr : 1 ≤ R.frames) (hlo : (rest.map fun v => v.category).sum + (nativeFrameWords "java/lang/System" "arraycopy" 5 + 11) ≤ R.locals) (hd : decode cc pc = .ok (.invokestatic 36, 3)) (k : ∀ (H1 : Heap) (locs1 : List Loc), xI g s (pC S 2 0) H1 locs1 → W p l e R s m args below meth c H1 locs1 cells slots Q (F0 m (pc + 3) ls rest)) : W p l e R s m args below meth c H locs cells slots Q (F0 m pc ls (.int 64 :: .int 0 :: .ref (g.2.2 8) :: .int 0 :: .ref (g.2.2 2) :: rest)) :=
  va_copyi (f := aR S 0) (g := aR S 2) (ty := .int) C0.1 C0.2.1 (C0.2.2.1.trans hls.symm) C0.2.2.2.1 (C0.2.2.2.2 _ wd_284) (C0.2.2.2.2 _ wd_286) (C0.2.2.2.2 _ wd_285) (C0.2.2.2.2 _ wd_74) I.1 I.2.1 I.2.2.1 I.2.2.2 2 8 0 0 rfl rfl rfl rfl rfl (by decide) (by decide) (by decide) (by decide) (by decide) (fun _ _ => rfl) hfr hlo hd (fun H1 locs1 hP hD hS => k H1 locs1 ⟨I.1, hP, hD, hS⟩)
theorem xo_7 (I : xI g s S H locs) : ∃ cell : Cell, H[g.2.2 7]? = some cell ∧ cell.vm.isStatics = false ∧ s.vm.findClass RX3 = some cell.cls := va_recv I.1 I.2.1 (ci := 3) (q0 := 7) rfl rfl
theorem xp_X3_9_9 {v : Int32} (C0 : CallFix p m c cc nL s args big RX3) (I : xI g s S H locs) (hd : decode cc pc = .ok (.putfield 9, 3)) (k : ∀ (H1 : Heap) (locs1 : List Loc), xI g s (pF S 12 v) H1 locs1 → W p l e R s m args below meth c H1 locs1 cells slots Q (F0 m (pc + 3) ls rest)) : W p l e R s m args below meth c H locs cells slots Q (F0 m pc ls (.int v :: .ref (g.2.2 9) :: rest)) :=
  va_put (D := g.1) (ci := 3) (v := .int v) (ty := .int) (C := RX3) (T := TX3) (N := 5) C0.1 C0.2.1 C0.2.2.2.2 iw_RX3 tyX3 tyX3_ok nmX3 C0.2.2.2.1 I.1 I.2.1 I.2.2.1 I.2.2.2 9 rfl rfl 0 (by decide) (C0.2.2.2.2 _ wd_91) (fun _ h9 => h9) rfl (by decide +kernel) rfl rfl (Nat.le_of_ble_eq_true rfl) hd (fun H1 locs1 hP hD hS => k H1 locs1 ⟨I.1, hP, hD, hS⟩)
theorem xp_X3_15_9 {v : Int32} (C0 : CallFix p m c cc nL s args big RX3) (I : xI g s S H locs) (hd : decode cc pc = .ok (.putfield 15, 3)) (k : ∀ (H1 : Heap) (locs1 : List Loc), xI g s (pF S 13 v) H1 locs1 → W p l e R s m args below meth c H1 locs1 cells slots Q (F0 m (pc + 3) ls rest)) : W p l e R s m args below meth c H locs cells slots Q (F0 m pc ls (.int v :: .ref (g.2.2 9) :: rest)) :=
  va_put (D := g.1) (ci := 3) (v := .int v) (ty := .int) (C := RX3) (T := TX3) (N := 5) C0.1 C0.2.1 C0.2.2.2.2 iw_RX3 tyX3 tyX3_ok nmX3 C0.2.2.2.1 I.1 I.2.1 I.2.2.1 I.2.2.2 9 rfl rfl 1 (by decide) (C0.2.2.2.2 _ wd_95) (fun _ h9 => h9) rfl (by decide +kernel) rfl rfl (Nat.le_of_ble_eq_true rfl) hd (fun H1 locs1 hP hD hS => k H1 locs1 ⟨I.1, hP, hD, hS⟩)
theorem xp_X3_18_9 {v : Int32} (C0 : CallFix p m c cc nL s args big RX3) (I : xI g s S H locs) (hd : decode cc pc = .ok (.putfield 18, 3)) (k : ∀ (H1 : Heap) (locs1 : List Loc), xI g s (pF S 14 v) H1 locs1 → W p l e R s m args below meth c H1 locs1 cells slots Q (F0 m (pc + 3) ls rest)) : W p l e R s m args below meth c H locs cells slots Q (F0 m pc ls (.int v :: .ref (g.2.2 9) :: rest)) :=
  va_put (D := g.1) (ci := 3) (v := .int v) (ty := .int) (C := RX3) (T := TX3) (N := 5) C0.1 C0.2.1 C0.2.2.2.2 iw_RX3 tyX3 tyX3_ok nmX3 C0.2.2.2.1 I.1 I.2.1 I.2.2.1 I.2.2.2 9 rfl rfl 2 (by decide) (C0.2.2.2.2 _ wd_98) (fun _ h9 => h9) rfl (by decide +kernel) rfl rfl (Nat.le_of_ble_eq_true rfl) hd (fun H1 locs1 hP hD hS => k H1 locs1 ⟨I.1, hP, hD, hS⟩)
theorem xp_X3_21_9 {v : Int32} (C0 : CallFix p m c cc nL s args big RX3) (I : xI g s S H locs) (hd : decode cc pc = .ok (.putfield 21, 3)) (k : ∀ (H1 : Heap) (locs1 : List Loc), xI g s (pF S 15 v) H1 locs1 → W p l e R s m args below meth c H1 locs1 cells slots Q (F0 m (pc + 3) ls rest)) : W p l e R s m args below meth c H locs cells slots Q (F0 m pc ls (.int v :: .ref (g.2.2 9) :: rest)) :=
  va_put (D := g.1) (ci := 3) (v := .int v) (ty := .int) (C := RX3) (T := TX3) (N := 5) C0.1 C0.2.1 C0.2.2.2.2 iw_RX3 tyX3 tyX3_ok nmX3 C0.2.2.2.1 I.1 I.2.1 I.2.2.1 I.2.2.2 9 rfl rfl 3 (by decide) (C0.2.2.2.2 _ wd_100) (fun _ h9 => h9) rfl (by decide +kernel) rfl rfl (Nat.le_of_ble_eq_true rfl) hd (fun H1 locs1 hP hD hS => k H1 locs1 ⟨I.1, hP, hD, hS⟩)
theorem xg_X3_24_9 (C0 : CallFix p m c cc nL s args big RX3) (I : xI g s S H locs) (hd : decode cc pc = .ok (.getfield 24, 3)) (k : W p l e R s m args below meth c H locs cells slots Q (F0 m (pc + 3) ls (.ref (g.2.2 10) :: rest))) : W p l e R s m args below meth c H locs cells slots Q (F0 m pc ls (.ref (g.2.2 9) :: rest)) :=
  va_get (D := g.1) (ci := 3) (v := .ref (g.2.2 10)) (C := RX3) (T := TX3) (N := 5) C0.1 C0.2.1 C0.2.2.2.2 iw_RX3 C0.2.2.2.1 I.1 I.2.1 9 rfl rfl 4 (by decide) (C0.2.2.2.2 _ wd_104) (fun _ h9 => h9) rfl hd k
theorem xn_10 (hx : p.tables.exec = Jvm.exec) (hb : c.code = cc) (I : xI g s S H locs) (hd : decode cc pc = .ok (.arraylength, 1)) (k : W p l e R s m args below meth c H locs cells slots Q (F0 m (pc + 1) ls (.int 64 :: rest))) : W p l e R s m args below meth c H locs cells slots Q (F0 m pc ls (.ref (g.2.2 10) :: rest)) :=
  va_alen hx hb I.1 I.2.1 10 0 rfl rfl rfl hd k
theorem xc_10_2 (C0 : CallFix p m c cc nL s args big RX3) (hls : ls.size = nL) (I : xI g s S H locs) (hfr : 1 ≤ R.frames) (hlo : (rest.map fun v => v.category).sum + (nativeFrameWords "java/lang/System" "arraycopy" 5 + 11) ≤ R.locals) (hd : decode cc pc = .ok (.invokestatic 36, 3)) (k : ∀ (H1 : Heap) (locs1 : List Loc), xI g s (pC S 3 0) H1 locs1 → W p l e R s m args below meth c H1 locs1 cells slots Q (F0 m (pc + 3) ls rest)) : W p l e R s m args below meth c H locs cells slots Q (F0 m pc ls (.int 64 :: .int 0 :: .ref (g.2.2 10) :: .int 0 :: .ref (g.2.2 2) :: rest)) :=
  va_copyi (f := aR S 0) (g := aR S 3) (ty := .int) C0.1 C0.2.1 (C0.2.2.1.trans hls.symm) C0.2.2.2.1 (C0.2.2.2.2 _ wd_284) (C0.2.2.2.2 _ wd_286) (C0.2.2.2.2 _ wd_285) (C0.2.2.2.2 _ wd_74) I.1 I.2.1 I.2.2.1 I.2.2.2 2 10 0 0 rfl rfl rfl rfl rfl (by decide) (by decide) (by decide) (by decide) (by decide) (fun _ _ => rfl) hfr hlo hd (fun H1 locs1 hP hD hS => k H1 locs1 ⟨I.1, hP, hD, hS⟩)
theorem xo_9 (I : xI g s S H locs) : ∃ cell : Cell, H[g.2.2 9]? = some cell ∧ cell.vm.isStatics = false ∧ s.vm.findClass RX3 = some cell.cls := va_recv I.1 I.2.1 (ci := 3) (q0 := 9) rfl rfl
theorem xp_X3_9_11 {v : Int32} (C0 : CallFix p m c cc nL s args big RX3) (I : xI g s S H locs) (hd : decode cc pc = .ok (.putfield 9, 3)) (k : ∀ (H1 : Heap) (locs1 : List Loc), xI g s (pF S 16 v) H1 locs1 → W p l e R s m args below meth c H1 locs1 cells slots Q (F0 m (pc + 3) ls rest)) : W p l e R s m args below meth c H locs cells slots Q (F0 m pc ls (.int v :: .ref (g.2.2 11) :: rest)) :=
  va_put (D := g.1) (ci := 3) (v := .int v) (ty := .int) (C := RX3) (T := TX3) (N := 5) C0.1 C0.2.1 C0.2.2.2.2 iw_RX3 tyX3 tyX3_ok nmX3 C0.2.2.2.1 I.1 I.2.1 I.2.2.1 I.2.2.2 11 rfl rfl 0 (by decide) (C0.2.2.2.2 _ wd_91) (fun _ h9 => h9) rfl (by decide +kernel) rfl rfl (Nat.le_of_ble_eq_true rfl) hd (fun H1 locs1 hP hD hS => k H1 locs1 ⟨I.1, hP, hD, hS⟩)
theorem xp_X3_15_11 {v : Int32} (C0 : CallFix p m c cc nL s args big RX3) (I : xI g s S H locs) (hd : decode cc pc = .ok (.putfield 15, 3)) (k : ∀ (H1 : Heap) (locs1 : List Loc), xI g s (pF S 17 v) H1 locs1 → W p l e R s m args below meth c H1 locs1 cells slots Q (F0 m (pc + 3) ls rest)) : W p l e R s m args below meth c H locs cells slots Q (F0 m pc ls (.int v :: .ref (g.2.2 11) :: rest)) :=
  va_put (D := g.1) (ci := 3) (v := .int v) (ty := .int) (C := RX3) (T := TX3) (N := 5) C0.1 C0.2.1 C0.2.2.2.2 iw_RX3 tyX3 tyX3_ok nmX3 C0.2.2.2.1 I.1 I.2.1 I.2.2.1 I.2.2.2 11 rfl rfl 1 (by decide) (C0.2.2.2.2 _ wd_95) (fun _ h9 => h9) rfl (by decide +kernel) rfl rfl (Nat.le_of_ble_eq_true rfl) hd (fun H1 locs1 hP hD hS => k H1 locs1 ⟨I.1, hP, hD, hS⟩)
theorem xp_X3_18_11 {v : Int32} (C0 : CallFix p m c cc nL s args big RX3) (I : xI g s S H locs) (hd : decode cc pc = .ok (.putfield 18, 3)) (k : ∀ (H1 : Heap) (locs1 : List Loc), xI g s (pF S 18 v) H1 locs1 → W p l e R s m args below meth c H1 locs1 cells slots Q (F0 m (pc + 3) ls rest)) : W p l e R s m args below meth c H locs cells slots Q (F0 m pc ls (.int v :: .ref (g.2.2 11) :: rest)) :=
  va_put (D := g.1) (ci := 3) (v := .int v) (ty := .int) (C := RX3) (T := TX3) (N := 5) C0.1 C0.2.1 C0.2.2.2.2 iw_RX3 tyX3 tyX3_ok nmX3 C0.2.2.2.1 I.1 I.2.1 I.2.2.1 I.2.2.2 11 rfl rfl 2 (by decide) (C0.2.2.2.2 _ wd_98) (fun _ h9 => h9) rfl (by decide +kernel) rfl rfl (Nat.le_of_ble_eq_true rfl) hd (fun H1 locs1 hP hD hS => k H1 locs1 ⟨I.1, hP, hD, hS⟩)
theorem xp_X3_21_11 {v : Int32} (C0 : CallFix p m c cc nL s args big RX3) (I : xI g s S H locs) (hd : decode cc pc = .ok (.putfield 21, 3)) (k : ∀ (H1 : Heap) (locs1 : List Loc), xI g s (pF S 19 v) H1 locs1 → W p l e R s m args below meth c H1 locs1 cells slots Q (F0 m (pc + 3) ls rest)) : W p l e R s m args below meth c H locs cells slots Q (F0 m pc ls (.int v :: .ref (g.2.2 11) :: rest)) :=
  va_put (D := g.1) (ci := 3) (v := .int v) (ty := .int) (C := RX3) (T := TX3) (N := 5) C0.1 C0.2.1 C0.2.2.2.2 iw_RX3 tyX3 tyX3_ok nmX3 C0.2.2.2.1 I.1 I.2.1 I.2.2.1 I.2.2.2 11 rfl rfl 3 (by decide) (C0.2.2.2.2 _ wd_100) (fun _ h9 => h9) rfl (by decide +kernel) rfl rfl (Nat.le_of_ble_eq_true rfl) hd (fun H1 locs1 hP hD hS => k H1 locs1 ⟨I.1, hP, hD, hS⟩)
theorem xg_X3_24_11 (C0 : CallFix p m c cc nL s args big RX3) (I : xI g s S H locs) (hd : decode cc pc = .ok (.getfield 24, 3)) (k : W p l e R s m args below meth c H locs cells slots Q (F0 m (pc + 3) ls (.ref (g.2.2 12) :: rest))) : W p l e R s m args below meth c H locs cells slots Q (F0 m pc ls (.ref (g.2.2 11) :: rest)) :=
  va_get (D := g.1) (ci := 3) (v := .ref (g.2.2 12)) (C := RX3) (T := TX3) (N := 5) C0.1 C0.2.1 C0.2.2.2.2 iw_RX3 C0.2.2.2.1 I.1 I.2.1 11 rfl rfl 4 (by decide) (C0.2.2.2.2 _ wd_104) (fun _ h9 => h9) rfl hd k
theorem xn_12 (hx : p.tables.exec = Jvm.exec) (hb : c.code = cc) (I : xI g s S H locs) (hd : decode cc pc = .ok (.arraylength, 1)) (k : W p l e R s m args below meth c H locs cells slots Q (F0 m (pc + 1) ls (.int 64 :: rest))) : W p l e R s m args below meth c H locs cells slots Q (F0 m pc ls (.ref (g.2.2 12) :: rest)) :=
  va_alen hx hb I.1 I.2.1 12 0 rfl rfl rfl hd k
theorem xc_12_2 (C0 : CallFix p m c cc nL s args big RX3) (hls : ls.size = nL) (I : xI g s S H locs) (hfr : 1 ≤ R.frames) (hlo : (rest.map fun v => v.category).sum + (nativeFrameWords "java/lang/System" "arraycopy" 5 + 11) ≤ R.locals) (hd : decode cc pc = .ok (.invokestatic 36, 3)) (k : ∀ (H1 : Heap) (locs1 : List Loc), xI g s (pC S 4 0) H1 locs1 → W p l e R s m args below meth c H1 locs1 cells slots Q (F0 m (pc + 3) ls rest)) : W p l e R s m args below meth c H locs cells slots Q (F0 m pc ls (.int 64 :: .int 0 :: .ref (g.2.2 12) :: .int 0 :: .ref (g.2.2 2) :: rest)) :=
  va_copyi (f := aR S 0) (g := aR S 4) (ty := .int) C0.1 C0.2.1 (C0.2.2.1.trans hls.symm) C0.2.2.2.1 (C0.2.2.2.2 _ wd_284) (C0.2.2.2.2 _ wd_286) (C0.2.2.2.2 _ wd_285) (C0.2.2.2.2 _ wd_74) I.1 I.2.1 I.2.2.1 I.2.2.2 2 12 0 0 rfl rfl rfl rfl rfl (by decide) (by decide) (by decide) (by decide) (by decide) (fun _ _ => rfl) hfr hlo hd (fun H1 locs1 hP hD hS => k H1 locs1 ⟨I.1, hP, hD, hS⟩)
theorem xo_11 (I : xI g s S H locs) : ∃ cell : Cell, H[g.2.2 11]? = some cell ∧ cell.vm.isStatics = false ∧ s.vm.findClass RX3 = some cell.cls := va_recv I.1 I.2.1 (ci := 3) (q0 := 11) rfl rfl
theorem xp_X3_9_13 {v : Int32} (C0 : CallFix p m c cc nL s args big RX3) (I : xI g s S H locs) (hd : decode cc pc = .ok (.putfield 9, 3)) (k : ∀ (H1 : Heap) (locs1 : List Loc), xI g s (pF S 20 v) H1 locs1 → W p l e R s m args below meth c H1 locs1 cells slots Q (F0 m (pc + 3) ls rest)) : W p l e R s m args below meth c H locs cells slots Q (F0 m pc ls (.int v :: .ref (g.2.2 13) :: rest)) :=
  va_put (D := g.1) (ci := 3) (v := .int v) (ty := .int) (C := RX3) (T := TX3) (N := 5) C0.1 C0.2.1 C0.2.2.2.2 iw_RX3 tyX3 tyX3_ok nmX3 C0.2.2.2.1 I.1 I.2.1 I.2.2.1 I.2.2.2 13 rfl rfl 0 (by decide) (C0.2.2.2.2 _ wd_91) (fun _ h9 => h9) rfl (by decide +kernel) rfl rfl (Nat.le_of_ble_eq_true rfl) hd (fun H1 locs1 hP hD hS => k H1 locs1 ⟨I.1, hP, hD, hS⟩)
theorem xp_X3_15_13 {v : Int32} (C0 : CallFix p m c cc nL s args big RX3) (I : xI g s S H locs) (hd : decode cc pc = .ok (.putfield 15, 3)) (k : ∀ (H1 : Heap) (locs1 : List Loc), xI g s (pF S 21 v) H1 locs1 → W p l e R s m args below meth c H1 locs1 cells slots Q (F0 m (pc + 3) ls rest)) : W p l e R s m args below meth c H locs cells slots Q (F0 m pc ls (.int v :: .ref (g.2.2 13) :: rest)) :=
  va_put (D := g.1) (ci := 3) (v := .int v) (ty := .int) (C := RX3) (T := TX3) (N := 5) C0.1 C0.2.1 C0.2.2.2.2 iw_RX3 tyX3 tyX3_ok nmX3 C0.2.2.2.1 I.1 I.2.1 I.2.2.1 I.2.2.2 13 rfl rfl 1 (by decide) (C0.2.2.2.2 _ wd_95) (fun _ h9 => h9) rfl (by decide +kernel) rfl rfl (Nat.le_of_ble_eq_true rfl) hd (fun H1 locs1 hP hD hS => k H1 locs1 ⟨I.1, hP, hD, hS⟩)
theorem xp_X3_18_13 {v : Int32} (C0 : CallFix p m c cc nL s args big RX3) (I : xI g s S H locs) (hd : decode cc pc = .ok (.putfield 18, 3)) (k : ∀ (H1 : Heap) (locs1 : List Loc), xI g s (pF S 22 v) H1 locs1 → W p l e R s m args below meth c H1 locs1 cells slots Q (F0 m (pc + 3) ls rest)) : W p l e R s m args below meth c H locs cells slots Q (F0 m pc ls (.int v :: .ref (g.2.2 13) :: rest)) :=
  va_put (D := g.1) (ci := 3) (v := .int v) (ty := .int) (C := RX3) (T := TX3) (N := 5) C0.1 C0.2.1 C0.2.2.2.2 iw_RX3 tyX3 tyX3_ok nmX3 C0.2.2.2.1 I.1 I.2.1 I.2.2.1 I.2.2.2 13 rfl rfl 2 (by decide) (C0.2.2.2.2 _ wd_98) (fun _ h9 => h9) rfl (by decide +kernel) rfl rfl (Nat.le_of_ble_eq_true rfl) hd (fun H1 locs1 hP hD hS => k H1 locs1 ⟨I.1, hP, hD, hS⟩)
theorem xp_X3_21_13 {v : Int32} (C0 : CallFix p m c cc nL s args big RX3) (I : xI g s S H locs) (hd : decode cc pc = .ok (.putfield 21, 3)) (k : ∀ (H1 : Heap) (locs1 : List Loc), xI g s (pF S 23 v) H1 locs1 → W p l e R s m args below meth c H1 locs1 cells slots Q (F0 m (pc + 3) ls rest)) : W p l e R s m args below meth c H locs cells slots Q (F0 m pc ls (.int v :: .ref (g.2.2 13) :: rest)) :=
  va_put (D := g.1) (ci := 3) (v := .int v) (ty := .int) (C := RX3) (T := TX3) (N := 5) C0.1 C0.2.1 C0.2.2.2.2 iw_RX3 tyX3 tyX3_ok nmX3 C0.2.2.2.1 I.1 I.2.1 I.2.2.1 I.2.2.2 13 rfl rfl 3 (by decide) (C0.2.2.2.2 _ wd_100) (fun _ h9 => h9) rfl (by decide +kernel) rfl rfl (Nat.le_of_ble_eq_true rfl) hd (fun H1 locs1 hP hD hS => k H1 locs1 ⟨I.1, hP, hD, hS⟩)
theorem xg_X3_24_13 (C0 : CallFix p m c cc nL s args big RX3) (I : xI g s S H locs) (hd : decode cc pc = .ok (.getfield 24, 3)) (k : W p l e R s m args below meth c H locs cells slots Q (F0 m (pc + 3) ls (.ref (g.2.2 14) :: rest))) : W p l e R s m args below meth c H locs cells slots Q (F0 m pc ls (.ref (g.2.2 13) :: rest)) :=
  va_get (D := g.1) (ci := 3) (v := .ref (g.2.2 14)) (C := RX3) (T := TX3) (N := 5) C0.1 C0.2.1 C0.2.2.2.2 iw_RX3 C0.2.2.2.1 I.1 I.2.1 13 rfl rfl 4 (by decide) (C0.2.2.2.2 _ wd_104) (fun _ h9 => h9) rfl hd k
theorem xn_14 (hx : p.tables.exec = Jvm.exec) (hb : c.code = cc) (I : xI g s S H locs) (hd : decode cc pc = .ok (.arraylength, 1)) (k : W p l e R s m args below meth c H locs cells slots Q (F0 m (pc + 1) ls (.int 64 :: rest))) : W p l e R s m args below meth c H locs cells slots Q (F0 m pc ls (.ref (g.2.2 14) :: rest)) :=
  va_alen hx hb I.1 I.2.1 14 0 rfl rfl rfl hd k
theorem xc_14_2 (C0 : CallFix p m c cc nL s args big RX3) (hls : ls.size = nL) (I : xI g s S H locs) (hfr : 1 ≤ R.frames) (hlo : (rest.map fun v => v.category).sum + (nativeFrameWords "java/lang/System" "arraycopy" 5 + 11) ≤ R.locals) (hd : decode cc pc = .ok (.invokestatic 36, 3)) (k : ∀ (H1 : Heap) (locs1 : List Loc), xI g s (pC S 5 0) H1 locs1 → W p l e R s m args below meth c H1 locs1 cells slots Q (F0 m (pc + 3) ls rest)) : W p l e R s m args below meth c H locs cells slots Q (F0 m pc ls (.int 64 :: .int 0 :: .ref (g.2.2 14) :: .int 0 :: .ref (g.2.2 2) :: rest)) :=
  va_copyi (f := aR S 0) (g := aR S 5) (ty := .int) C0.1 C0.2.1 (C0.2.2.1.trans hls.symm) C0.2.2.2.1 (C0.2.2.2.2 _ wd_284) (C0.2.2.2.2 _ wd_286) (C0.2.2.2.2 _ wd_285) (C0.2.2.2.2 _ wd_74) I.1 I.2.1 I.2.2.1 I.2.2.2 2 14 0 0 rfl rfl rfl rfl rfl (by decide) (by decide) (by decide) (by decide) (by decide) (fun _ _ => rfl) hfr hlo hd (fun H1 locs1 hP hD hS => k H1 locs1 ⟨I.1, hP, hD, hS⟩)
theorem xo_13 (I : xI g s S H locs) : ∃ cell : Cell, H[g.2.2 13]? = some cell ∧ cell.vm.isStatics = false ∧ s.vm.findClass RX3 = some cell.cls := va_recv I.1 I.2.1 (ci := 3) (q0 := 13) rfl rfl
theorem xp_X3_9_15 {v : Int32} (C0 : CallFix p m c cc nL s args big RX3) (I : xI g s S H locs) (hd : decode cc pc = .ok (.putfield 9, 3)) (k : ∀ (H1 : Heap) (locs1 : List Loc), xI g s (pF S 24 v) H1 locs1 → W p l e R s m args below meth c H1 locs1 cells slots Q (F0 m (pc + 3) ls rest)) : W p l e R s m args below meth c H locs cells slots Q (F0 m pc ls (.int v :: .ref (g.2.2 15) :: rest)) :=
  va_put (D := g.1) (ci := 3) (v := .int v) (ty := .int) (C := RX3) (T := TX3) (N := 5) C0.1 C0.2.1 C0.2.2.2.2 iw_RX3 tyX3 tyX3_ok nmX3 C0.2.2.2.1 I.1 I.2.1 I.2.2.1 I.2.2.2 15 rfl rfl 0 (by decide) (C0.2.2.2.2 _ wd_91) (fun _ h9 => h9) rfl (by decide +kernel) rfl rfl (Nat.le_of_ble_eq_true rfl) hd (fun H1 locs1 hP hD hS => k H1 locs1 ⟨I.1, hP, hD, hS⟩)
theorem xp_X3_15_15 {v : Int32} (C0 : CallFix p m c cc nL s args big RX3) (I : xI g s S H locs) (hd : decode cc pc = .ok (.putfield 15, 3)) (k : ∀ (H1 : Heap) (locs1 : List Loc), xI g s (pF S 25 v) H1 locs1 → W p l e R s m args below meth c H1 locs1 cells slots Q (F0 m (pc + 3) ls rest)) : W p l e R s m args below meth c H locs cells slots Q (F0 m pc ls (.int v :: .ref (g.2.2 15) :: rest)) :=
  va_put (D := g.1) (ci := 3) (v := .int v) (ty := .int) (C := RX3) (T := TX3) (N := 5) C0.1 C0.2.1 C0.2.2.2.2 iw_RX3 tyX3 tyX3_ok nmX3 C0.2.2.2.1 I.1 I.2.1 I.2.2.1 I.2.2.2 15 rfl rfl 1 (by decide) (C0.2.2.2.2 _ wd_95) (fun _ h9 => h9) rfl (by decide +kernel) rfl rfl (Nat.le_of_ble_eq_true rfl) hd (fun H1 locs1 hP hD hS => k H1 locs1 ⟨I.1, hP, hD, hS⟩)
theorem xp_X3_18_15 {v : Int32} (C0 : CallFix p m c cc nL s args big RX3) (I : xI g s S H locs) (hd : decode cc pc = .ok (.putfield 18, 3)) (k : ∀ (H1 : Heap) (locs1 : List Loc), xI g s (pF S 26 v) H1 locs1 → W p l e R s m args below meth c H1 locs1 cells slots Q (F0 m (pc + 3) ls rest)) : W p l e R s m args below meth c H locs cells slots Q (F0 m pc ls (.int v :: .ref (g.2.2 15) :: rest)) :=
  va_put (D := g.1) (ci := 3) (v := .int v) (ty := .int) (C := RX3) (T := TX3) (N := 5) C0.1 C0.2.1 C0.2.2.2.2 iw_RX3 tyX3 tyX3_ok nmX3 C0.2.2.2.1 I.1 I.2.1 I.2.2.1 I.2.2.2 15 rfl rfl 2 (by decide) (C0.2.2.2.2 _ wd_98) (fun _ h9 => h9) rfl (by decide +kernel) rfl rfl (Nat.le_of_ble_eq_true rfl) hd (fun H1 locs1 hP hD hS => k H1 locs1 ⟨I.1, hP, hD, hS⟩)
theorem xp_X3_21_15 {v : Int32} (C0 : CallFix p m c cc nL s args big RX3) (I : xI g s S H locs) (hd : decode cc pc = .ok (.putfield 21, 3)) (k : ∀ (H1 : Heap) (locs1 : List Loc), xI g s (pF S 27 v) H1 locs1 → W p l e R s m args below meth c H1 locs1 cells slots Q (F0 m (pc + 3) ls rest)) : W p l e R s m args below meth c H locs cells slots Q (F0 m pc ls (.int v :: .ref (g.2.2 15) :: rest)) :=
  va_put (D := g.1) (ci := 3) (v := .int v) (ty := .int) (C := RX3) (T := TX3) (N := 5) C0.1 C0.2.1 C0.2.2.2.2 iw_RX3 tyX3 tyX3_ok nmX3 C0.2.2.2.1 I.1 I.2.1 I.2.2.1 I.2.2.2 15 rfl rfl 3 (by decide) (C0.2.2.2.2 _ wd_100) (fun _ h9 => h9) rfl (by decide +kernel) rfl rfl (Nat.le_of_ble_eq_true rfl) hd (fun H1 locs1 hP hD hS => k H1 locs1 ⟨I.1, hP, hD, hS⟩)
theorem xg_X3_24_15 (C0 : CallFix p m c cc nL s args big RX3) (I : xI g s S H locs) (hd : decode cc pc = .ok (.getfield 24, 3)) (k : W p l e R s m args below meth c H locs cells slots Q (F0 m (pc + 3) ls (.ref (g.2.2 16) :: rest))) : W p l e R s m args below meth c H locs cells slots Q (F0 m pc ls (.ref (g.2.2 15) :: rest)) :=
  va_get (D := g.1) (ci := 3) (v := .ref (g.2.2 16)) (C := RX3) (T := TX3) (N := 5) C0.1 C0.2.1 C0.2.2.2.2 iw_RX3 C0.2.2.2.1 I.1 I.2.1 15 rfl rfl 4 (by decide) (C0.2.2.2.2 _ wd_104) (fun _ h9 => h9) rfl hd k
theorem xn_16 (hx : p.tables.exec = Jvm.exec) (hb : c.code = cc) (I : xI g s S H locs) (hd : decode cc pc = .ok (.arraylength, 1)) (k : W p l e R s m args below meth c H locs cells slots Q (F0 m (pc + 1) ls (.int 64 :: rest))) : W p l e R s m args below meth c H locs cells slots Q (F0 m pc ls (.ref (g.2.2 16) :: rest)) :=
  va_alen hx hb I.1 I.2.1 16 0 rfl rfl rfl hd k
theorem xc_16_2 (C0 : CallFix p m c cc nL s args big RX3) (hls : ls.size = nL) (I : xI g s S H locs) (hfr : 1 ≤ R.frames) (hlo : (rest.map fun v => v.category).sum + (nativeFrameWords "java/lang/System" "arraycopy" 5 + 11) ≤ R.locals) (hd : decode cc pc = .ok (.invokestatic 36, 3)) (k : ∀ (H1 : Heap) (locs1 : List Loc), xI g s (pC S 6 0) H1 locs1 → W p l e R s m args below meth c H1 locs1 cells slots Q (F0 m (pc + 3) ls rest)) : W p l e R s m args below meth c H locs cells slots Q (F0 m pc ls (.int 64 :: .int 0 :: .ref (g.2.2 16) :: .int 0 :: .ref (g.2.2 2) :: rest)) :=
  va_copyi (f := aR S 0) (g := aR S 6) (ty := .int) C0.1 C0.2.1 (C0.2.2.1.trans hls.symm) C0.2.2.2.1 (C0.2.2.2.2 _ wd_284) (C0.2.2.2.2 _ wd_286) (C0.2.2.2.2 _ wd_285) (C0.2.2.2.2 _ wd_74) I.1 I.2.1 I.2.2.1 I.2.2.2 2 16 0 0 rfl rfl rfl rfl rfl (by decide) (by decide) (by decide) (by decide) (by decide) (fun _ _ => rfl) hfr hlo hd (fun H1 locs1 hP hD hS => k H1 locs1 ⟨I.1, hP, hD, hS⟩)
theorem xo_15 (I : xI g s S H locs) : ∃ cell : Cell, H[g.2.2 15]? = some cell ∧ cell.vm.isStatics = false ∧ s.vm.findClass RX3 = some cell.cls := va_recv I.1 I.2.1 (ci := 3) (q0 := 15) rfl rfl
theorem xo_3 (I : xI g s S H locs) : ∃ cell : Cell, H[g.2.2 3]? = some cell ∧ cell.vm.isStatics = false ∧ s.vm.findClass RX0 = some cell.cls := va_recv I.1 I.2.1 (ci := 0) (q0 := 3) rfl rfl
theorem xg_X6_70_1 (C0 : CallFix p m c cc nL s args big RX6) (I : xI g s S H locs) (hd : decode cc pc = .ok (.getfield 70, 3)) (k : W p l e R s m args below meth c H locs cells slots Q (F0 m (pc + 3) ls (.int (gF S 0) :: rest))) : W p l e R s m args below meth c H locs cells slots Q (F0 m pc ls (.ref (g.2.2 1) :: rest)) :=
  va_get (D := g.1) (ci := 3) (v := .int (gF S 0)) (C := RX3) (T := TX3) (N := 5) C0.1 C0.2.1 C0.2.2.2.2 iw_RX3 C0.2.2.2.1 I.1 I.2.1 1 rfl rfl 0 (by decide) (C0.2.2.2.2 _ wd_92) (fun _ h9 => h9) rfl hd k
theorem xp_X6_70_1 {v : Int32} (C0 : CallFix p m c cc nL s args big RX6) (I : xI g s S H locs) (hd : decode cc pc = .ok (.putfield 70, 3)) (k : ∀ (H1 : Heap) (locs1 : List Loc), xI g s (pF S 0 v) H1 locs1 → W p l e R s m args below meth c H1 locs1 cells slots Q (F0 m (pc + 3) ls rest)) : W p l e R s m args below meth c H locs cells slots Q (F0 m pc ls (.int v :: .ref (g.2.2 1) :: rest)) :=
  va_put (D := g.1) (ci := 3) (v := .int v) (ty := .int) (C := RX3) (T := TX3) (N := 5) C0.1 C0.2.1 C0.2.2.2.2 iw_RX3 tyX3 tyX3_ok nmX3 C0.2.2.2.1 I.1 I.2.1 I.2.2.1 I.2.2.2 1 rfl rfl 0 (by decide) (C0.2.2.2.2 _ wd_92) (fun _ h9 => h9) rfl (by decide +kernel) rfl rfl (Nat.le_of_ble_eq_true rfl) hd (fun H1 locs1 hP hD hS => k H1 locs1 ⟨I.1, hP, hD, hS⟩)
theorem xp_X6_73_1 {v : Int32} (C0 : CallFix p m c cc nL s args big RX6) (I : xI g s S H locs) (hd : decode cc pc = .ok (.putfield 73, 3)) (k : ∀ (H1 : Heap) (locs1 : List Loc), xI g s (pF S 3 v) H1 locs1 → W p l e R s m args below meth c H1 locs1 cells slots Q (F0 m (pc + 3) ls rest)) : W p l e R s m args below meth c H locs cells slots Q (F0 m pc ls (.int v :: .ref (g.2.2 1) :: rest)) :=
  va_put (D := g.1) (ci := 3) (v := .int v) (ty := .int) (C := RX3) (T := TX3) (N := 5) C0.1 C0.2.1 C0.2.2.2.2 iw_RX3 tyX3 tyX3_ok nmX3 C0.2.2.2.1 I.1 I.2.1 I.2.2.1 I.2.2.2 1 rfl rfl 3 (by decide) (C0.2.2.2.2 _ wd_102) (fun _ h9 => h9) rfl (by decide +kernel) rfl rfl (Nat.le_of_ble_eq_true rfl) hd (fun H1 locs1 hP hD hS => k H1 locs1 ⟨I.1, hP, hD, hS⟩)
theorem xo_1 (I : xI g s S H locs) : ∃ cell : Cell, H[g.2.2 1]? = some cell ∧ cell.vm.isStatics = false ∧ s.vm.findClass RX3 = some cell.cls := va_recv I.1 I.2.1 (ci := 3) (q0 := 1) rfl rfl
theorem xg_X6_73_1 (C0 : CallFix p m c cc nL s args big RX6) (I : xI g s S H locs) (hd : decode cc pc = .ok (.getfield 73, 3)) (k : W p l e R s m args below meth c H locs cells slots Q (F0 m (pc + 3) ls (.int (gF S 3) :: rest))) : W p l e R s m args below meth c H locs cells slots Q (F0 m pc ls (.ref (g.2.2 1) :: rest)) :=
  va_get (D := g.1) (ci := 3) (v := .int (gF S 3)) (C := RX3) (T := TX3) (N := 5) C0.1 C0.2.1 C0.2.2.2.2 iw_RX3 C0.2.2.2.1 I.1 I.2.1 1 rfl rfl 3 (by decide) (C0.2.2.2.2 _ wd_102) (fun _ h9 => h9) rfl hd k
theorem xs_2 {i v : Int32} (hx : p.tables.exec = Jvm.exec) (hb : c.code = cc) (I : xI g s S H locs) (hi : vp_in i 64) (hd : decode cc pc = .ok (.iastore, 1)) (k : ∀ (H1 : Heap) (locs1 : List Loc), xI g s (pR S 0 i v) H1 locs1 → W p l e R s m args below meth c H1 locs1 cells slots Q (F0 m (pc + 1) ls rest)) : W p l e R s m args below meth c H locs cells slots Q (F0 m pc ls (.int v :: .int i :: .ref (g.2.2 2) :: rest)) :=
  va_iast (f := aR S 0) hx hb I.1 I.2.1 I.2.2.1 I.2.2.2 2 0 rfl rfl hi hd (fun H1 locs1 hP hD hS => k H1 locs1 ⟨I.1, hP, hD, hS⟩)
theorem xp_X3_21_1 {v : Int32} (C0 : CallFix p m c cc nL s args big RX3) (I : xI g s S H locs) (hd : decode cc pc = .ok (.putfield 21, 3)) (k : ∀ (H1 : Heap) (locs1 : List Loc), xI g s (pF S 3 v) H1 locs1 → W p l e R s m args below meth c H1 locs1 cells slots Q (F0 m (pc + 3) ls rest)) : W p l e R s m args below meth c H locs cells slots Q (F0 m pc ls (.int v :: .ref (g.2.2 1) :: rest)) :=
  va_put (D := g.1) (ci := 3) (v := .int v) (ty := .int) (C := RX3) (T := TX3) (N := 5) C0.1 C0.2.1 C0.2.2.2.2 iw_RX3 tyX3 tyX3_ok nmX3 C0.2.2.2.1 I.1 I.2.1 I.2.2.1 I.2.2.2 1 rfl rfl 3 (by decide) (C0.2.2.2.2 _ wd_100) (fun _ h9 => h9) rfl (by decide +kernel) rfl rfl (Nat.le_of_ble_eq_true rfl) hd (fun H1 locs1 hP hD hS => k H1 locs1 ⟨I.1, hP, hD, hS⟩)
theorem xl_2 {i : Int32} (hx : p.tables.exec = Jvm.exec) (hb : c.code = cc) (I : xI g s S H locs) (hi : vp_in i 64) (hd : decode cc pc = .ok (.iaload, 1)) (k : W p l e R s m args below meth c H locs cells slots Q (F0 m (pc + 1) ls (.int (gR S 0 i) :: rest))) : W p l e R s m args below meth c H locs cells slots Q (F0 m pc ls (.int i :: .ref (g.2.2 2) :: rest)) :=
  va_iald (f := aR S 0) hx hb I.1 I.2.1 2 0 rfl rfl hi hd k
theorem xg_X6_99_1 (C0 : CallFix p m c cc nL s args big RX6) (I : xI g s S H locs) (hd : decode cc pc = .ok (.getfield 99, 3)) (k : W p l e R s m args below meth c H locs cells slots Q (F0 m (pc + 3) ls (.int (gF S 2) :: rest))) : W p l e R s m args below meth c H locs cells slots Q (F0 m pc ls (.ref (g.2.2 1) :: rest)) :=
  va_get (D := g.1) (ci := 3) (v := .int (gF S 2)) (C := RX3) (T := TX3) (N := 5) C0.1 C0.2.1 C0.2.2.2.2 iw_RX3 C0.2.2.2.1 I.1 I.2.1 1 rfl rfl 2 (by decide) (C0.2.2.2.2 _ wd_99) (fun _ h9 => h9) rfl hd k
theorem xp_X6_99_1 {v : Int32} (C0 : CallFix p m c cc nL s args big RX6) (I : xI g s S H locs) (hd : decode cc pc = .ok (.putfield 99, 3)) (k : ∀ (H1 : Heap) (locs1 : List Loc), xI g s (pF S 2 v) H1 locs1 → W p l e R s m args below meth c H1 locs1 cells slots Q (F0 m (pc + 3) ls rest)) : W p l e R s m args below meth c H locs cells slots Q (F0 m pc ls (.int v :: .ref (g.2.2 1) :: rest)) :=
  va_put (D := g.1) (ci := 3) (v := .int v) (ty := .int) (C := RX3) (T := TX3) (N := 5) C0.1 C0.2.1 C0.2.2.2.2 iw_RX3 tyX3 tyX3_ok nmX3 C0.2.2.2.1 I.1 I.2.1 I.2.2.1 I.2.2.2 1 rfl rfl 2 (by decide) (C0.2.2.2.2 _ wd_99) (fun _ h9 => h9) rfl (by decide +kernel) rfl rfl (Nat.le_of_ble_eq_true rfl) hd (fun H1 locs1 hP hD hS => k H1 locs1 ⟨I.1, hP, hD, hS⟩)
theorem xp_X6_96_1 {v : Int32} (C0 : CallFix p m c cc nL s args big RX6) (I : xI g s S H locs) (hd : decode cc pc = .ok (.putfield 96, 3)) (k : ∀ (H1 : Heap) (locs1 : List Loc), xI g s (pF S 1 v) H1 locs1 → W p l e R s m args below meth c H1 locs1 cells slots Q (F0 m (pc + 3) ls rest)) : W p l e R s m args below meth c H locs cells slots Q (F0 m pc ls (.int v :: .ref (g.2.2 1) :: rest)) :=
  va_put (D := g.1) (ci := 3) (v := .int v) (ty := .int) (C := RX3) (T := TX3) (N := 5) C0.1 C0.2.1 C0.2.2.2.2 iw_RX3 tyX3 tyX3_ok nmX3 C0.2.2.2.1 I.1 I.2.1 I.2.2.1 I.2.2.2 1 rfl rfl 1 (by decide) (C0.2.2.2.2 _ wd_97) (fun _ h9 => h9) rfl (by decide +kernel) rfl rfl (Nat.le_of_ble_eq_true rfl) hd (fun H1 locs1 hP hD hS => k H1 locs1 ⟨I.1, hP, hD, hS⟩)
theorem xg_X6_96_1 (C0 : CallFix p m c cc nL s args big RX6) (I : xI g s S H locs) (hd : decode cc pc = .ok (.getfield 96, 3)) (k : W p l e R s m args below meth c H locs cells slots Q (F0 m (pc + 3) ls (.int (gF S 1) :: rest))) : W p l e R s m args below meth c H locs cells slots Q (F0 m pc ls (.ref (g.2.2 1) :: rest)) :=
  va_get (D := g.1) (ci := 3) (v := .int (gF S 1)) (C := RX3) (T := TX3) (N := 5) C0.1 C0.2.1 C0.2.2.2.2 iw_RX3 C0.2.2.2.1 I.1 I.2.1 1 rfl rfl 1 (by decide) (C0.2.2.2.2 _ wd_97) (fun _ h9 => h9) rfl hd k
theorem xg_X6_26_0 (C0 : CallFix p m c cc nL s args big RX6) (I : xI g s S H locs) (hd : decode cc pc = .ok (.getfield 26, 3)) (k : W p l e R s m args below meth c H locs cells slots Q (F0 m (pc + 3) ls (.ref (g.2.2 17) :: rest))) : W p l e R s m args below meth c H locs cells slots Q (F0 m pc ls (.ref (g.2.2 0) :: rest)) :=
  va_get (D := g.1) (ci := 6) (v := .ref (g.2.2 17)) (C := RX6) (T := TX6) (N := 9) C0.1 C0.2.1 C0.2.2.2.2 iw_RX6 C0.2.2.2.1 I.1 I.2.1 0 rfl rfl 2 (by decide) (C0.2.2.2.2 _ wd_242) (fun _ h9 => h9) rfl hd k
theorem xg_X5_25_1 (C0 : CallFix p m c cc nL s args big RX5) (I : xI g s S H locs) (hd : decode cc pc = .ok (.getfield 25, 3)) (k : W p l e R s m args below meth c H locs cells slots Q (F0 m (pc + 3) ls (.int (gF S 3) :: rest))) : W p l e R s m args below meth c H locs cells slots Q (F0 m pc ls (.ref (g.2.2 1) :: rest)) :=
  va_get (D := g.1) (ci := 3) (v := .int (gF S 3)) (C := RX3) (T := TX3) (N := 5) C0.1 C0.2.1 C0.2.2.2.2 iw_RX3 C0.2.2.2.1 I.1 I.2.1 1 rfl rfl 3 (by decide) (C0.2.2.2.2 _ wd_101) (fun _ h9 => h9) rfl hd k
theorem xg_X5_9_17 (C0 : CallFix p m c cc nL s args big RX5) (I : xI g s S H locs) (hd : decode cc pc = .ok (.getfield 9, 3)) (k : W p l e R s m args below meth c H locs cells slots Q (F0 m (pc + 3) ls (.ref (g.2.2 18) :: rest))) : W p l e R s m args below meth c H locs cells slots Q (F0 m pc ls (.ref (g.2.2 17) :: rest)) :=
  va_get (D := g.1) (ci := 5) (v := .ref (g.2.2 18)) (C := RX5) (T := TX5) (N := 4) C0.1 C0.2.1 C0.2.2.2.2 iw_RX5 C0.2.2.2.1 I.1 I.2.1 17 rfl rfl 0 (by decide) (C0.2.2.2.2 _ wd_143) (fun _ h9 => h9) rfl hd k
theorem xs_18 {i v : Int32} (hx : p.tables.exec = Jvm.exec) (hb : c.code = cc) (I : xI g s S H locs) (hi : vp_in i 16) (hd : decode cc pc = .ok (.iastore, 1)) (k : ∀ (H1 : Heap) (locs1 : List Loc), xI g s (pR S 8 i v) H1 locs1 → W p l e R s m args below meth c H1 locs1 cells slots Q (F0 m (pc + 1) ls rest)) : W p l e R s m args below meth c H locs cells slots Q (F0 m pc ls (.int v :: .int i :: .ref (g.2.2 18) :: rest)) :=
  va_iast (f := aR S 8) hx hb I.1 I.2.1 I.2.2.1 I.2.2.2 18 0 rfl rfl hi hd (fun H1 locs1 hP hD hS => k H1 locs1 ⟨I.1, hP, hD, hS⟩)
theorem xg_X5_21_17 (C0 : CallFix p m c cc nL s args big RX5) (I : xI g s S H locs) (hd : decode cc pc = .ok (.getfield 21, 3)) (k : W p l e R s m args below meth c H locs cells slots Q (F0 m (pc + 3) ls (.ref (g.2.2 21) :: rest))) : W p l e R s m args below meth c H locs cells slots Q (F0 m pc ls (.ref (g.2.2 17) :: rest)) :=
  va_get (D := g.1) (ci := 5) (v := .ref (g.2.2 21)) (C := RX5) (T := TX5) (N := 4) C0.1 C0.2.1 C0.2.2.2.2 iw_RX5 C0.2.2.2.1 I.1 I.2.1 17 rfl rfl 3 (by decide) (C0.2.2.2.2 _ wd_150) (fun _ h9 => h9) rfl hd k
theorem xs_21 {i : Int32} {v : Int64} (hx : p.tables.exec = Jvm.exec) (hb : c.code = cc) (I : xI g s S H locs) (hi : vp_in i 16) (hd : decode cc pc = .ok (.lastore, 1)) (k : ∀ (H1 : Heap) (locs1 : List Loc), xI g s (pE S i v) H1 locs1 → W p l e R s m args below meth c H1 locs1 cells slots Q (F0 m (pc + 1) ls rest)) : W p l e R s m args below meth c H locs cells slots Q (F0 m pc ls (.long v :: .int i :: .ref (g.2.2 21) :: rest)) :=
  va_last (f := aE S) hx hb I.1 I.2.1 I.2.2.1 I.2.2.2 21 2 rfl rfl hi hd (fun H1 locs1 hP hD hS => k H1 locs1 ⟨I.1, hP, hD, hS⟩)
theorem xg_X5_43_1 (C0 : CallFix p m c cc nL s args big RX5) (I : xI g s S H locs) (hd : decode cc pc = .ok (.getfield 43, 3)) (k : W p l e R s m args below meth c H locs cells slots Q (F0 m (pc + 3) ls (.int (gF S 0) :: rest))) : W p l e R s m args below meth c H locs cells slots Q (F0 m pc ls (.ref (g.2.2 1) :: rest)) :=
  va_get (D := g.1) (ci := 3) (v := .int (gF S 0)) (C := RX3) (T := TX3) (N := 5) C0.1 C0.2.1 C0.2.2.2.2 iw_RX3 C0.2.2.2.1 I.1 I.2.1 1 rfl rfl 0 (by decide) (C0.2.2.2.2 _ wd_93) (fun _ h9 => h9) rfl hd k
theorem xg_X5_46_1 (C0 : CallFix p m c cc nL s args big RX5) (I : xI g s S H locs) (hd : decode cc pc = .ok (.getfield 46, 3)) (k : W p l e R s m args below meth c H locs cells slots Q (F0 m (pc + 3) ls (.int (gF S 1) :: rest))) : W p l e R s m args below meth c H locs cells slots Q (F0 m pc ls (.ref (g.2.2 1) :: rest)) :=
  va_get (D := g.1) (ci := 3) (v := .int (gF S 1)) (C := RX3) (T := TX3) (N := 5) C0.1 C0.2.1 C0.2.2.2.2 iw_RX3 C0.2.2.2.1 I.1 I.2.1 1 rfl rfl 1 (by decide) (C0.2.2.2.2 _ wd_96) (fun _ h9 => h9) rfl hd k
theorem xg_X5_18_17 (C0 : CallFix p m c cc nL s args big RX5) (I : xI g s S H locs) (hd : decode cc pc = .ok (.getfield 18, 3)) (k : W p l e R s m args below meth c H locs cells slots Q (F0 m (pc + 3) ls (.ref (g.2.2 20) :: rest))) : W p l e R s m args below meth c H locs cells slots Q (F0 m pc ls (.ref (g.2.2 17) :: rest)) :=
  va_get (D := g.1) (ci := 5) (v := .ref (g.2.2 20)) (C := RX5) (T := TX5) (N := 4) C0.1 C0.2.1 C0.2.2.2.2 iw_RX5 C0.2.2.2.1 I.1 I.2.1 17 rfl rfl 2 (by decide) (C0.2.2.2.2 _ wd_149) (fun _ h9 => h9) rfl hd k
theorem xl_18 {i : Int32} (hx : p.tables.exec = Jvm.exec) (hb : c.code = cc) (I : xI g s S H locs) (hi : vp_in i 16) (hd : decode cc pc = .ok (.iaload, 1)) (k : W p l e R s m args below meth c H locs cells slots Q (F0 m (pc + 1) ls (.int (gR S 8 i) :: rest))) : W p l e R s m args below meth c H locs cells slots Q (F0 m pc ls (.int i :: .ref (g.2.2 18) :: rest)) :=
  va_iald (f := aR S 8) hx hb I.1 I.2.1 18 0 rfl rfl hi hd k
theorem xs_20 {i v : Int32} (hx : p.tables.exec = Jvm.exec) (hb : c.code = cc) (I : xI g s S H locs) (hi : vp_in i 128) (hd : decode cc pc = .ok (.iastore, 1)) (k : ∀ (H1 : Heap) (locs1 : List Loc), xI g s (pR S 10 i v) H1 locs1 → W p l e R s m args below meth c H1 locs1 cells slots Q (F0 m (pc + 1) ls rest)) : W p l e R s m args below meth c H locs cells slots Q (F0 m pc ls (.int v :: .int i :: .ref (g.2.2 20) :: rest)) :=
  va_iast (f := aR S 10) hx hb I.1 I.2.1 I.2.2.1 I.2.2.2 20 0 rfl rfl hi hd (fun H1 locs1 hP hD hS => k H1 locs1 ⟨I.1, hP, hD, hS⟩)
theorem xl_21 {i : Int32} (hx : p.tables.exec = Jvm.exec) (hb : c.code = cc) (I : xI g s S H locs) (hi : vp_in i 16) (hd : decode cc pc = .ok (.laload, 1)) (k : W p l e R s m args below meth c H locs cells slots Q (F0 m (pc + 1) ls (.long (gE S i) :: rest))) : W p l e R s m args below meth c H locs cells slots Q (F0 m pc ls (.int i :: .ref (g.2.2 21) :: rest)) :=
  va_lald (f := aE S) hx hb I.1 I.2.1 21 2 rfl rfl hi hd k
theorem xo_17 (I : xI g s S H locs) : ∃ cell : Cell, H[g.2.2 17]? = some cell ∧ cell.vm.isStatics = false ∧ s.vm.findClass RX5 = some cell.cls := va_recv I.1 I.2.1 (ci := 5) (q0 := 17) rfl rfl
theorem xg_X5_15_17 (C0 : CallFix p m c cc nL s args big RX5) (I : xI g s S H locs) (hd : decode cc pc = .ok (.getfield 15, 3)) (k : W p l e R s m args below meth c H locs cells slots Q (F0 m (pc + 3) ls (.ref (g.2.2 19) :: rest))) : W p l e R s m args below meth c H locs cells slots Q (F0 m pc ls (.ref (g.2.2 17) :: rest)) :=
  va_get (D := g.1) (ci := 5) (v := .ref (g.2.2 19)) (C := RX5) (T := TX5) (N := 4) C0.1 C0.2.1 C0.2.2.2.2 iw_RX5 C0.2.2.2.1 I.1 I.2.1 17 rfl rfl 1 (by decide) (C0.2.2.2.2 _ wd_147) (fun _ h9 => h9) rfl hd k
theorem xs_19 {i v : Int32} (hx : p.tables.exec = Jvm.exec) (hb : c.code = cc) (I : xI g s S H locs) (hi : vp_in i 16) (hd : decode cc pc = .ok (.iastore, 1)) (k : ∀ (H1 : Heap) (locs1 : List Loc), xI g s (pR S 9 i v) H1 locs1 → W p l e R s m args below meth c H1 locs1 cells slots Q (F0 m (pc + 1) ls rest)) : W p l e R s m args below meth c H locs cells slots Q (F0 m pc ls (.int v :: .int i :: .ref (g.2.2 19) :: rest)) :=
  va_iast (f := aR S 9) hx hb I.1 I.2.1 I.2.2.1 I.2.2.2 19 0 rfl rfl hi hd (fun H1 locs1 hP hD hS => k H1 locs1 ⟨I.1, hP, hD, hS⟩)
theorem xg_X6_130_17 (C0 : CallFix p m c cc nL s args big RX6) (I : xI g s S H locs) (hd : decode cc pc = .ok (.getfield 130, 3)) (k : W p l e R s m args below meth c H locs cells slots Q (F0 m (pc + 3) ls (.ref (g.2.2 18) :: rest))) : W p l e R s m args below meth c H locs cells slots Q (F0 m pc ls (.ref (g.2.2 17) :: rest)) :=
  va_get (D := g.1) (ci := 5) (v := .ref (g.2.2 18)) (C := RX5) (T := TX5) (N := 4) C0.1 C0.2.1 C0.2.2.2.2 iw_RX5 C0.2.2.2.1 I.1 I.2.1 17 rfl rfl 0 (by decide) (C0.2.2.2.2 _ wd_146) (fun _ h9 => h9) rfl hd k
theorem xl_20 {i : Int32} (hx : p.tables.exec = Jvm.exec) (hb : c.code = cc) (I : xI g s S H locs) (hi : vp_in i 128) (hd : decode cc pc = .ok (.iaload, 1)) (k : W p l e R s m args below meth c H locs cells slots Q (F0 m (pc + 1) ls (.int (gR S 10 i) :: rest))) : W p l e R s m args below meth c H locs cells slots Q (F0 m pc ls (.int i :: .ref (g.2.2 20) :: rest)) :=
  va_iald (f := aR S 10) hx hb I.1 I.2.1 20 0 rfl rfl hi hd k
theorem xg_X6_33_0 (C0 : CallFix p m c cc nL s args big RX6) (I : xI g s S H locs) (hd : decode cc pc = .ok (.getfield 33, 3)) (k : W p l e R s m args below meth c H locs cells slots Q (F0 m (pc + 3) ls (.ref (g.2.2 22) :: rest))) : W p l e R s m args below meth c H locs cells slots Q (F0 m pc ls (.ref (g.2.2 0) :: rest)) :=
  va_get (D := g.1) (ci := 6) (v := .ref (g.2.2 22)) (C := RX6) (T := TX6) (N := 9) C0.1 C0.2.1 C0.2.2.2.2 iw_RX6 C0.2.2.2.1 I.1 I.2.1 0 rfl rfl 3 (by decide) (C0.2.2.2.2 _ wd_243) (fun _ h9 => h9) rfl hd k
theorem xg_X1_9_22 (C0 : CallFix p m c cc nL s args big RX1) (I : xI g s S H locs) (hd : decode cc pc = .ok (.getfield 9, 3)) (k : W p l e R s m args below meth c H locs cells slots Q (F0 m (pc + 3) ls (.ref (g.2.2 23) :: rest))) : W p l e R s m args below meth c H locs cells slots Q (F0 m pc ls (.ref (g.2.2 22) :: rest)) :=
  va_get (D := g.1) (ci := 1) (v := .ref (g.2.2 23)) (C := RX1) (T := TX1) (N := 1) C0.1 C0.2.1 C0.2.2.2.2 iw_RX1 C0.2.2.2.1 I.1 I.2.1 22 rfl rfl 0 (by decide) (C0.2.2.2.2 _ wd_167) (fun _ h9 => h9) rfl hd k
theorem xn_23 (hx : p.tables.exec = Jvm.exec) (hb : c.code = cc) (I : xI g s S H locs) (hd : decode cc pc = .ok (.arraylength, 1)) (k : W p l e R s m args below meth c H locs cells slots Q (F0 m (pc + 1) ls (.int 64 :: rest))) : W p l e R s m args below meth c H locs cells slots Q (F0 m pc ls (.ref (g.2.2 23) :: rest)) :=
  va_alen hx hb I.1 I.2.1 23 0 rfl rfl rfl hd k
theorem xs_23 {i v : Int32} (hx : p.tables.exec = Jvm.exec) (hb : c.code = cc) (I : xI g s S H locs) (hi : vp_in i 64) (hd : decode cc pc = .ok (.iastore, 1)) (k : ∀ (H1 : Heap) (locs1 : List Loc), xI g s (pR S 11 i v) H1 locs1 → W p l e R s m args below meth c H1 locs1 cells slots Q (F0 m (pc + 1) ls rest)) : W p l e R s m args below meth c H locs cells slots Q (F0 m pc ls (.int v :: .int i :: .ref (g.2.2 23) :: rest)) :=
  va_iast (f := aR S 11) hx hb I.1 I.2.1 I.2.2.1 I.2.2.2 23 0 rfl rfl hi hd (fun H1 locs1 hP hD hS => k H1 locs1 ⟨I.1, hP, hD, hS⟩)
theorem xo_22 (I : xI g s S H locs) : ∃ cell : Cell, H[g.2.2 22]? = some cell ∧ cell.vm.isStatics = false ∧ s.vm.findClass RX1 = some cell.cls := va_recv I.1 I.2.1 (ci := 1) (q0 := 22) rfl rfl
theorem xg_X1_21_17 (C0 : CallFix p m c cc nL s args big RX1) (I : xI g s S H locs) (hd : decode cc pc = .ok (.getfield 21, 3)) (k : W p l e R s m args below meth c H locs cells slots Q (F0 m (pc + 3) ls (.ref (g.2.2 18) :: rest))) : W p l e R s m args below meth c H locs cells slots Q (F0 m pc ls (.ref (g.2.2 17) :: rest)) :=
  va_get (D := g.1) (ci := 5) (v := .ref (g.2.2 18)) (C := RX5) (T := TX5) (N := 4) C0.1 C0.2.1 C0.2.2.2.2 iw_RX5 C0.2.2.2.1 I.1 I.2.1 17 rfl rfl 0 (by decide) (C0.2.2.2.2 _ wd_144) (fun _ h9 => h9) rfl hd k
theorem xl_23 {i : Int32} (hx : p.tables.exec = Jvm.exec) (hb : c.code = cc) (I : xI g s S H locs) (hi : vp_in i 64) (hd : decode cc pc = .ok (.iaload, 1)) (k : W p l e R s m args below meth c H locs cells slots Q (F0 m (pc + 1) ls (.int (gR S 11 i) :: rest))) : W p l e R s m args below meth c H locs cells slots Q (F0 m pc ls (.int i :: .ref (g.2.2 23) :: rest)) :=
  va_iald (f := aR S 11) hx hb I.1 I.2.1 23 0 rfl rfl hi hd k
theorem xg_X6_143_22 (C0 : CallFix p m c cc nL s args big RX6) (I : xI g s S H locs) (hd : decode cc pc = .ok (.getfield 143, 3)) (k : W p l e R s m args below meth c H locs cells slots Q (F0 m (pc + 3) ls (.ref (g.2.2 23) :: rest))) : W p l e R s m args below meth c H locs cells slots Q (F0 m pc ls (.ref (g.2.2 22) :: rest)) :=
  va_get (D := g.1) (ci := 1) (v := .ref (g.2.2 23)) (C := RX1) (T := TX1) (N := 1) C0.1 C0.2.1 C0.2.2.2.2 iw_RX1 C0.2.2.2.1 I.1 I.2.1 22 rfl rfl 0 (by decide) (C0.2.2.2.2 _ wd_168) (fun _ h9 => h9) rfl hd k
theorem xg_X1_36_1 (C0 : CallFix p m c cc nL s args big RX1) (I : xI g s S H locs) (hd : decode cc pc = .ok (.getfield 36, 3)) (k : W p l e R s m args below meth c H locs cells slots Q (F0 m (pc + 3) ls (.int (gF S 0) :: rest))) : W p l e R s m args below meth c H locs cells slots Q (F0 m pc ls (.ref (g.2.2 1) :: rest)) :=
  va_get (D := g.1) (ci := 3) (v := .int (gF S 0)) (C := RX3) (T := TX3) (N := 5) C0.1 C0.2.1 C0.2.2.2.2 iw_RX3 C0.2.2.2.1 I.1 I.2.1 1 rfl rfl 0 (by decide) (C0.2.2.2.2 _ wd_94) (fun _ h9 => h9) rfl hd k
theorem xp_X6_55_0 {v : Int32} (C0 : CallFix p m c cc nL s args big RX6) (I : xI g s S H locs) (hd : decode cc pc = .ok (.putfield 55, 3)) (k : ∀ (H1 : Heap) (locs1 : List Loc), xI g s (pF S 28 v) H1 locs1 → W p l e R s m args below meth c H1 locs1 cells slots Q (F0 m (pc + 3) ls rest)) : W p l e R s m args below meth c H locs cells slots Q (F0 m pc ls (.int v :: .ref (g.2.2 0) :: rest)) :=
  va_put (D := g.1) (ci := 6) (v := .int v) (ty := .int) (C := RX6) (T := TX6) (N := 9) C0.1 C0.2.1 C0.2.2.2.2 iw_RX6 tyX6 tyX6_ok nmX6 C0.2.2.2.1 I.1 I.2.1 I.2.2.1 I.2.2.2 0 rfl rfl 7 (by decide) (C0.2.2.2.2 _ wd_247) (fun _ h9 => h9) rfl (by decide +kernel) rfl rfl (Nat.le_of_ble_eq_true rfl) hd (fun H1 locs1 hP hD hS => k H1 locs1 ⟨I.1, hP, hD, hS⟩)
theorem xp_X6_59_0 {v : Int32} (C0 : CallFix p m c cc nL s args big RX6) (I : xI g s S H locs) (hd : decode cc pc = .ok (.putfield 59, 3)) (k : ∀ (H1 : Heap) (locs1 : List Loc), xI g s (pF S 29 v) H1 locs1 → W p l e R s m args below meth c H1 locs1 cells slots Q (F0 m (pc + 3) ls rest)) : W p l e R s m args below meth c H locs cells slots Q (F0 m pc ls (.int v :: .ref (g.2.2 0) :: rest)) :=
  va_put (D := g.1) (ci := 6) (v := .int v) (ty := .int) (C := RX6) (T := TX6) (N := 9) C0.1 C0.2.1 C0.2.2.2.2 iw_RX6 tyX6 tyX6_ok nmX6 C0.2.2.2.1 I.1 I.2.1 I.2.2.1 I.2.2.2 0 rfl rfl 8 (by decide) (C0.2.2.2.2 _ wd_248) (fun _ h9 => h9) rfl (by decide +kernel) rfl rfl (Nat.le_of_ble_eq_true rfl) hd (fun H1 locs1 hP hD hS => k H1 locs1 ⟨I.1, hP, hD, hS⟩)
theorem xg_X6_59_0 (C0 : CallFix p m c cc nL s args big RX6) (I : xI g s S H locs) (hd : decode cc pc = .ok (.getfield 59, 3)) (k : W p l e R s m args below meth c H locs cells slots Q (F0 m (pc + 3) ls (.int (gF S 29) :: rest))) : W p l e R s m args below meth c H locs cells slots Q (F0 m pc ls (.ref (g.2.2 0) :: rest)) :=
  va_get (D := g.1) (ci := 6) (v := .int (gF S 29)) (C := RX6) (T := TX6) (N := 9) C0.1 C0.2.1 C0.2.2.2.2 iw_RX6 C0.2.2.2.1 I.1 I.2.1 0 rfl rfl 8 (by decide) (C0.2.2.2.2 _ wd_248) (fun _ h9 => h9) rfl hd k
theorem xg_X6_55_0 (C0 : CallFix p m c cc nL s args big RX6) (I : xI g s S H locs) (hd : decode cc pc = .ok (.getfield 55, 3)) (k : W p l e R s m args below meth c H locs cells slots Q (F0 m (pc + 3) ls (.int (gF S 28) :: rest))) : W p l e R s m args below meth c H locs cells slots Q (F0 m pc ls (.ref (g.2.2 0) :: rest)) :=
  va_get (D := g.1) (ci := 6) (v := .int (gF S 28)) (C := RX6) (T := TX6) (N := 9) C0.1 C0.2.1 C0.2.2.2.2 iw_RX6 C0.2.2.2.1 I.1 I.2.1 0 rfl rfl 7 (by decide) (C0.2.2.2.2 _ wd_247) (fun _ h9 => h9) rfl hd k
theorem xg_X6_40_0 (C0 : CallFix p m c cc nL s args big RX6) (I : xI g s S H locs) (hd : decode cc pc = .ok (.getfield 40, 3)) (k : W p l e R s m args below meth c H locs cells slots Q (F0 m (pc + 3) ls (.ref (g.2.2 24) :: rest))) : W p l e R s m args below meth c H locs cells slots Q (F0 m pc ls (.ref (g.2.2 0) :: rest)) :=
  va_get (D := g.1) (ci := 6) (v := .ref (g.2.2 24)) (C := RX6) (T := TX6) (N := 9) C0.1 C0.2.1 C0.2.2.2.2 iw_RX6 C0.2.2.2.1 I.1 I.2.1 0 rfl rfl 4 (by decide) (C0.2.2.2.2 _ wd_244) (fun _ h9 => h9) rfl hd k
theorem xp_X4_33_24 {v : Int32} (C0 : CallFix p m c cc nL s args big RX4) (I : xI g s S H locs) (hd : decode cc pc = .ok (.putfield 33, 3)) (k : ∀ (H1 : Heap) (locs1 : List Loc), xI g s (pF S 32 v) H1 locs1 → W p l e R s m args below meth c H1 locs1 cells slots Q (F0 m (pc + 3) ls rest)) : W p l e R s m args below meth c H locs cells slots Q (F0 m pc ls (.int v :: .ref (g.2.2 24) :: rest)) :=
  va_put (D := g.1) (ci := 4) (v := .int v) (ty := .int) (C := RX4) (T := TX4) (N := 9) C0.1 C0.2.1 C0.2.2.2.2 iw_RX4 tyX4 tyX4_ok nmX4 C0.2.2.2.1 I.1 I.2.1 I.2.2.1 I.2.2.2 24 rfl rfl 0 (by decide) (C0.2.2.2.2 _ wd_178) (fun _ h9 => h9) rfl (by decide +kernel) rfl rfl (Nat.le_of_ble_eq_true rfl) hd (fun H1 locs1 hP hD hS => k H1 locs1 ⟨I.1, hP, hD, hS⟩)
theorem xp_X4_37_24 {v : Int32} (C0 : CallFix p m c cc nL s args big RX4) (I : xI g s S H locs) (hd : decode cc pc = .ok (.putfield 37, 3)) (k : ∀ (H1 : Heap) (locs1 : List Loc), xI g s (pF S 33 v) H1 locs1 → W p l e R s m args below meth c H1 locs1 cells slots Q (F0 m (pc + 3) ls rest)) : W p l e R s m args below meth c H locs cells slots Q (F0 m pc ls (.int v :: .ref (g.2.2 24) :: rest)) :=
  va_put (D := g.1) (ci := 4) (v := .int v) (ty := .int) (C := RX4) (T := TX4) (N := 9) C0.1 C0.2.1 C0.2.2.2.2 iw_RX4 tyX4 tyX4_ok nmX4 C0.2.2.2.1 I.1 I.2.1 I.2.2.1 I.2.2.2 24 rfl rfl 1 (by decide) (C0.2.2.2.2 _ wd_180) (fun _ h9 => h9) rfl (by decide +kernel) rfl rfl (Nat.le_of_ble_eq_true rfl) hd (fun H1 locs1 hP hD hS => k H1 locs1 ⟨I.1, hP, hD, hS⟩)
theorem xg_X4_9_24 (C0 : CallFix p m c cc nL s args big RX4) (I : xI g s S H locs) (hd : decode cc pc = .ok (.getfield 9, 3)) (k : W p l e R s m args below meth c H locs cells slots Q (F0 m (pc + 3) ls (.ref (g.2.2 25) :: rest))) : W p l e R s m args below meth c H locs cells slots Q (F0 m pc ls (.ref (g.2.2 24) :: rest)) :=
  va_get (D := g.1) (ci := 4) (v := .ref (g.2.2 25)) (C := RX4) (T := TX4) (N := 9) C0.1 C0.2.1 C0.2.2.2.2 iw_RX4 C0.2.2.2.1 I.1 I.2.1 24 rfl rfl 2 (by decide) (C0.2.2.2.2 _ wd_182) (fun _ h9 => h9) rfl hd k
theorem xn_25 (hx : p.tables.exec = Jvm.exec) (hb : c.code = cc) (I : xI g s S H locs) (hd : decode cc pc = .ok (.arraylength, 1)) (k : W p l e R s m args below meth c H locs cells slots Q (F0 m (pc + 1) ls (.int 16 :: rest))) : W p l e R s m args below meth c H locs cells slots Q (F0 m pc ls (.ref (g.2.2 25) :: rest)) :=
  va_alen hx hb I.1 I.2.1 25 0 rfl rfl rfl hd k
theorem xs_25 {i v : Int32} (hx : p.tables.exec = Jvm.exec) (hb : c.code = cc) (I : xI g s S H locs) (hi : vp_in i 16) (hd : decode cc pc = .ok (.iastore, 1)) (k : ∀ (H1 : Heap) (locs1 : List Loc), xI g s (pR S 12 i v) H1 locs1 → W p l e R s m args below meth c H1 locs1 cells slots Q (F0 m (pc + 1) ls rest)) : W p l e R s m args below meth c H locs cells slots Q (F0 m pc ls (.int v :: .int i :: .ref (g.2.2 25) :: rest)) :=
  va_iast (f := aR S 12) hx hb I.1 I.2.1 I.2.2.1 I.2.2.2 25 0 rfl rfl hi hd (fun H1 locs1 hP hD hS => k H1 locs1 ⟨I.1, hP, hD, hS⟩)
theorem xg_X4_15_24 (C0 : CallFix p m c cc nL s args big RX4) (I : xI g s S H locs) (hd : decode cc pc = .ok (.getfield 15, 3)) (k : W p l e R s m args below meth c H locs cells slots Q (F0 m (pc + 3) ls (.ref (g.2.2 26) :: rest))) : W p l e R s m args below meth c H locs cells slots Q (F0 m pc ls (.ref (g.2.2 24) :: rest)) :=
  va_get (D := g.1) (ci := 4) (v := .ref (g.2.2 26)) (C := RX4) (T := TX4) (N := 9) C0.1 C0.2.1 C0.2.2.2.2 iw_RX4 C0.2.2.2.1 I.1 I.2.1 24 rfl rfl 3 (by decide) (C0.2.2.2.2 _ wd_184) (fun _ h9 => h9) rfl hd k
theorem xn_26 (hx : p.tables.exec = Jvm.exec) (hb : c.code = cc) (I : xI g s S H locs) (hd : decode cc pc = .ok (.arraylength, 1)) (k : W p l e R s m args below meth c H locs cells slots Q (F0 m (pc + 1) ls (.int 16 :: rest))) : W p l e R s m args below meth c H locs cells slots Q (F0 m pc ls (.ref (g.2.2 26) :: rest)) :=
  va_alen hx hb I.1 I.2.1 26 0 rfl rfl rfl hd k
theorem xs_26 {i v : Int32} (hx : p.tables.exec = Jvm.exec) (hb : c.code = cc) (I : xI g s S H locs) (hi : vp_in i 16) (hd : decode cc pc = .ok (.iastore, 1)) (k : ∀ (H1 : Heap) (locs1 : List Loc), xI g s (pR S 13 i v) H1 locs1 → W p l e R s m args below meth c H1 locs1 cells slots Q (F0 m (pc + 1) ls rest)) : W p l e R s m args below meth c H locs cells slots Q (F0 m pc ls (.int v :: .int i :: .ref (g.2.2 26) :: rest)) :=
  va_iast (f := aR S 13) hx hb I.1 I.2.1 I.2.2.1 I.2.2.2 26 0 rfl rfl hi hd (fun H1 locs1 hP hD hS => k H1 locs1 ⟨I.1, hP, hD, hS⟩)
theorem xg_X4_18_24 (C0 : CallFix p m c cc nL s args big RX4) (I : xI g s S H locs) (hd : decode cc pc = .ok (.getfield 18, 3)) (k : W p l e R s m args below meth c H locs cells slots Q (F0 m (pc + 3) ls (.ref (g.2.2 27) :: rest))) : W p l e R s m args below meth c H locs cells slots Q (F0 m pc ls (.ref (g.2.2 24) :: rest)) :=
  va_get (D := g.1) (ci := 4) (v := .ref (g.2.2 27)) (C := RX4) (T := TX4) (N := 9) C0.1 C0.2.1 C0.2.2.2.2 iw_RX4 C0.2.2.2.1 I.1 I.2.1 24 rfl rfl 4 (by decide) (C0.2.2.2.2 _ wd_186) (fun _ h9 => h9) rfl hd k
theorem xn_27 (hx : p.tables.exec = Jvm.exec) (hb : c.code = cc) (I : xI g s S H locs) (hd : decode cc pc = .ok (.arraylength, 1)) (k : W p l e R s m args below meth c H locs cells slots Q (F0 m (pc + 1) ls (.int 16 :: rest))) : W p l e R s m args below meth c H locs cells slots Q (F0 m pc ls (.ref (g.2.2 27) :: rest)) :=
  va_alen hx hb I.1 I.2.1 27 0 rfl rfl rfl hd k
theorem xs_27 {i v : Int32} (hx : p.tables.exec = Jvm.exec) (hb : c.code = cc) (I : xI g s S H locs) (hi : vp_in i 16) (hd : decode cc pc = .ok (.iastore, 1)) (k : ∀ (H1 : Heap) (locs1 : List Loc), xI g s (pR S 14 i v) H1 locs1 → W p l e R s m args below meth c H1 locs1 cells slots Q (F0 m (pc + 1) ls rest)) : W p l e R s m args below meth c H locs cells slots Q (F0 m pc ls (.int v :: .int i :: .ref (g.2.2 27) :: rest)) :=
  va_iast (f := aR S 14) hx hb I.1 I.2.1 I.2.2.1 I.2.2.2 27 0 rfl rfl hi hd (fun H1 locs1 hP hD hS => k H1 locs1 ⟨I.1, hP, hD, hS⟩)
theorem xg_X4_21_24 (C0 : CallFix p m c cc nL s args big RX4) (I : xI g s S H locs) (hd : decode cc pc = .ok (.getfield 21, 3)) (k : W p l e R s m args below meth c H locs cells slots Q (F0 m (pc + 3) ls (.ref (g.2.2 28) :: rest))) : W p l e R s m args below meth c H locs cells slots Q (F0 m pc ls (.ref (g.2.2 24) :: rest)) :=
  va_get (D := g.1) (ci := 4) (v := .ref (g.2.2 28)) (C := RX4) (T := TX4) (N := 9) C0.1 C0.2.1 C0.2.2.2.2 iw_RX4 C0.2.2.2.1 I.1 I.2.1 24 rfl rfl 5 (by decide) (C0.2.2.2.2 _ wd_188) (fun _ h9 => h9) rfl hd k
theorem xn_28 (hx : p.tables.exec = Jvm.exec) (hb : c.code = cc) (I : xI g s S H locs) (hd : decode cc pc = .ok (.arraylength, 1)) (k : W p l e R s m args below meth c H locs cells slots Q (F0 m (pc + 1) ls (.int 16 :: rest))) : W p l e R s m args below meth c H locs cells slots Q (F0 m pc ls (.ref (g.2.2 28) :: rest)) :=
  va_alen hx hb I.1 I.2.1 28 0 rfl rfl rfl hd k
theorem xs_28 {i v : Int32} (hx : p.tables.exec = Jvm.exec) (hb : c.code = cc) (I : xI g s S H locs) (hi : vp_in i 16) (hd : decode cc pc = .ok (.iastore, 1)) (k : ∀ (H1 : Heap) (locs1 : List Loc), xI g s (pR S 15 i v) H1 locs1 → W p l e R s m args below meth c H1 locs1 cells slots Q (F0 m (pc + 1) ls rest)) : W p l e R s m args below meth c H locs cells slots Q (F0 m pc ls (.int v :: .int i :: .ref (g.2.2 28) :: rest)) :=
  va_iast (f := aR S 15) hx hb I.1 I.2.1 I.2.2.1 I.2.2.2 28 0 rfl rfl hi hd (fun H1 locs1 hP hD hS => k H1 locs1 ⟨I.1, hP, hD, hS⟩)
theorem xg_X4_58_1 (C0 : CallFix p m c cc nL s args big RX4) (I : xI g s S H locs) (hd : decode cc pc = .ok (.getfield 58, 3)) (k : W p l e R s m args below meth c H locs cells slots Q (F0 m (pc + 3) ls (.int (gF S 3) :: rest))) : W p l e R s m args below meth c H locs cells slots Q (F0 m pc ls (.ref (g.2.2 1) :: rest)) :=
  va_get (D := g.1) (ci := 3) (v := .int (gF S 3)) (C := RX3) (T := TX3) (N := 5) C0.1 C0.2.1 C0.2.2.2.2 iw_RX3 C0.2.2.2.1 I.1 I.2.1 1 rfl rfl 3 (by decide) (C0.2.2.2.2 _ wd_103) (fun _ h9 => h9) rfl hd k
theorem xg_X4_24_24 (C0 : CallFix p m c cc nL s args big RX4) (I : xI g s S H locs) (hd : decode cc pc = .ok (.getfield 24, 3)) (k : W p l e R s m args below meth c H locs cells slots Q (F0 m (pc + 3) ls (.ref (g.2.2 29) :: rest))) : W p l e R s m args below meth c H locs cells slots Q (F0 m pc ls (.ref (g.2.2 24) :: rest)) :=
  va_get (D := g.1) (ci := 4) (v := .ref (g.2.2 29)) (C := RX4) (T := TX4) (N := 9) C0.1 C0.2.1 C0.2.2.2.2 iw_RX4 C0.2.2.2.1 I.1 I.2.1 24 rfl rfl 6 (by decide) (C0.2.2.2.2 _ wd_189) (fun _ h9 => h9) rfl hd k
theorem xs_29 {i v : Int32} (hx : p.tables.exec = Jvm.exec) (hb : c.code = cc) (I : xI g s S H locs) (hi : vp_in i 16) (hd : decode cc pc = .ok (.iastore, 1)) (k : ∀ (H1 : Heap) (locs1 : List Loc), xI g s (pR S 16 i v) H1 locs1 → W p l e R s m args below meth c H1 locs1 cells slots Q (F0 m (pc + 1) ls rest)) : W p l e R s m args below meth c H locs cells slots Q (F0 m pc ls (.int v :: .int i :: .ref (g.2.2 29) :: rest)) :=
  va_iast (f := aR S 16) hx hb I.1 I.2.1 I.2.2.1 I.2.2.2 29 0 rfl rfl hi hd (fun H1 locs1 hP hD hS => k H1 locs1 ⟨I.1, hP, hD, hS⟩)
theorem xl_27 {i : Int32} (hx : p.tables.exec = Jvm.exec) (hb : c.code = cc) (I : xI g s S H locs) (hi : vp_in i 16) (hd : decode cc pc = .ok (.iaload, 1)) (k : W p l e R s m args below meth c H locs cells slots Q (F0 m (pc + 1) ls (.int (gR S 14 i) :: rest))) : W p l e R s m args below meth c H locs cells slots Q (F0 m pc ls (.int i :: .ref (g.2.2 27) :: rest)) :=
  va_iald (f := aR S 14) hx hb I.1 I.2.1 27 0 rfl rfl hi hd k
theorem xg_X4_63_17 (C0 : CallFix p m c cc nL s args big RX4) (I : xI g s S H locs) (hd : decode cc pc = .ok (.getfield 63, 3)) (k : W p l e R s m args below meth c H locs cells slots Q (F0 m (pc + 3) ls (.ref (g.2.2 18) :: rest))) : W p l e R s m args below meth c H locs cells slots Q (F0 m pc ls (.ref (g.2.2 17) :: rest)) :=
  va_get (D := g.1) (ci := 5) (v := .ref (g.2.2 18)) (C := RX5) (T := TX5) (N := 4) C0.1 C0.2.1 C0.2.2.2.2 iw_RX5 C0.2.2.2.1 I.1 I.2.1 17 rfl rfl 0 (by decide) (C0.2.2.2.2 _ wd_145) (fun _ h9 => h9) rfl hd k
theorem xg_X4_27_24 (C0 : CallFix p m c cc nL s args big RX4) (I : xI g s S H locs) (hd : decode cc pc = .ok (.getfield 27, 3)) (k : W p l e R s m args below meth c H locs cells slots Q (F0 m (pc + 3) ls (.ref (g.2.2 30) :: rest))) : W p l e R s m args below meth c H locs cells slots Q (F0 m pc ls (.ref (g.2.2 24) :: rest)) :=
  va_get (D := g.1) (ci := 4) (v := .ref (g.2.2 30)) (C := RX4) (T := TX4) (N := 9) C0.1 C0.2.1 C0.2.2.2.2 iw_RX4 C0.2.2.2.1 I.1 I.2.1 24 rfl rfl 7 (by decide) (C0.2.2.2.2 _ wd_190) (fun _ h9 => h9) rfl hd k
theorem xs_30 {i v : Int32} (hx : p.tables.exec = Jvm.exec) (hb : c.code = cc) (I : xI g s S H locs) (hi : vp_in i 64) (hd : decode cc pc = .ok (.iastore, 1)) (k : ∀ (H1 : Heap) (locs1 : List Loc), xI g s (pR S 17 i v) H1 locs1 → W p l e R s m args below meth c H1 locs1 cells slots Q (F0 m (pc + 1) ls rest)) : W p l e R s m args below meth c H locs cells slots Q (F0 m pc ls (.int v :: .int i :: .ref (g.2.2 30) :: rest)) :=
  va_iast (f := aR S 17) hx hb I.1 I.2.1 I.2.2.1 I.2.2.2 30 0 rfl rfl hi hd (fun H1 locs1 hP hD hS => k H1 locs1 ⟨I.1, hP, hD, hS⟩)
theorem xg_X4_30_24 (C0 : CallFix p m c cc nL s args big RX4) (I : xI g s S H locs) (hd : decode cc pc = .ok (.getfield 30, 3)) (k : W p l e R s m args below meth c H locs cells slots Q (F0 m (pc + 3) ls (.ref (g.2.2 31) :: rest))) : W p l e R s m args below meth c H locs cells slots Q (F0 m pc ls (.ref (g.2.2 24) :: rest)) :=
  va_get (D := g.1) (ci := 4) (v := .ref (g.2.2 31)) (C := RX4) (T := TX4) (N := 9) C0.1 C0.2.1 C0.2.2.2.2 iw_RX4 C0.2.2.2.1 I.1 I.2.1 24 rfl rfl 8 (by decide) (C0.2.2.2.2 _ wd_191) (fun _ h9 => h9) rfl hd k
theorem xs_31 {i v : Int32} (hx : p.tables.exec = Jvm.exec) (hb : c.code = cc) (I : xI g s S H locs) (hi : vp_in i 64) (hd : decode cc pc = .ok (.iastore, 1)) (k : ∀ (H1 : Heap) (locs1 : List Loc), xI g s (pR S 18 i v) H1 locs1 → W p l e R s m args below meth c H1 locs1 cells slots Q (F0 m (pc + 1) ls rest)) : W p l e R s m args below meth c H locs cells slots Q (F0 m pc ls (.int v :: .int i :: .ref (g.2.2 31) :: rest)) :=
  va_iast (f := aR S 18) hx hb I.1 I.2.1 I.2.2.1 I.2.2.2 31 0 rfl rfl hi hd (fun H1 locs1 hP hD hS => k H1 locs1 ⟨I.1, hP, hD, hS⟩)
theorem xo_24 (I : xI g s S H locs) : ∃ cell : Cell, H[g.2.2 24]? = some cell ∧ cell.vm.isStatics = false ∧ s.vm.findClass RX4 = some cell.cls := va_recv I.1 I.2.1 (ci := 4) (q0 := 24) rfl rfl
theorem xl_29 {i : Int32} (hx : p.tables.exec = Jvm.exec) (hb : c.code = cc) (I : xI g s S H locs) (hi : vp_in i 16) (hd : decode cc pc = .ok (.iaload, 1)) (k : W p l e R s m args below meth c H locs cells slots Q (F0 m (pc + 1) ls (.int (gR S 16 i) :: rest))) : W p l e R s m args below meth c H locs cells slots Q (F0 m pc ls (.int i :: .ref (g.2.2 29) :: rest)) :=
  va_iald (f := aR S 16) hx hb I.1 I.2.1 29 0 rfl rfl hi hd k
theorem xl_30 {i : Int32} (hx : p.tables.exec = Jvm.exec) (hb : c.code = cc) (I : xI g s S H locs) (hi : vp_in i 64) (hd : decode cc pc = .ok (.iaload, 1)) (k : W p l e R s m args below meth c H locs cells slots Q (F0 m (pc + 1) ls (.int (gR S 17 i) :: rest))) : W p l e R s m args below meth c H locs cells slots Q (F0 m pc ls (.int i :: .ref (g.2.2 30) :: rest)) :=
  va_iald (f := aR S 17) hx hb I.1 I.2.1 30 0 rfl rfl hi hd k
theorem xg_X4_37_24 (C0 : CallFix p m c cc nL s args big RX4) (I : xI g s S H locs) (hd : decode cc pc = .ok (.getfield 37, 3)) (k : W p l e R s m args below meth c H locs cells slots Q (F0 m (pc + 3) ls (.int (gF S 33) :: rest))) : W p l e R s m args below meth c H locs cells slots Q (F0 m pc ls (.ref (g.2.2 24) :: rest)) :=
  va_get (D := g.1) (ci := 4) (v := .int (gF S 33)) (C := RX4) (T := TX4) (N := 9) C0.1 C0.2.1 C0.2.2.2.2 iw_RX4 C0.2.2.2.1 I.1 I.2.1 24 rfl rfl 1 (by decide) (C0.2.2.2.2 _ wd_180) (fun _ h9 => h9) rfl hd k
theorem xl_31 {i : Int32} (hx : p.tables.exec = Jvm.exec) (hb : c.code = cc) (I : xI g s S H locs) (hi : vp_in i 64) (hd : decode cc pc = .ok (.iaload, 1)) (k : W p l e R s m args below meth c H locs cells slots Q (F0 m (pc + 1) ls (.int (gR S 18 i) :: rest))) : W p l e R s m args below meth c H locs cells slots Q (F0 m pc ls (.int i :: .ref (g.2.2 31) :: rest)) :=
  va_iald (f := aR S 18) hx hb I.1 I.2.1 31 0 rfl rfl hi hd k
theorem xl_28 {i : Int32} (hx : p.tables.exec = Jvm.exec) (hb : c.code = cc) (I : xI g s S H locs) (hi : vp_in i 16) (hd : decode cc pc = .ok (.iaload, 1)) (k : W p l e R s m args below meth c H locs cells slots Q (F0 m (pc + 1) ls (.int (gR S 15 i) :: rest))) : W p l e R s m args below meth c H locs cells slots Q (F0 m pc ls (.int i :: .ref (g.2.2 28) :: rest)) :=
  va_iald (f := aR S 15) hx hb I.1 I.2.1 28 0 rfl rfl hi hd k
theorem xg_X4_92_17 (C0 : CallFix p m c cc nL s args big RX4) (I : xI g s S H locs) (hd : decode cc pc = .ok (.getfield 92, 3)) (k : W p l e R s m args below meth c H locs cells slots Q (F0 m (pc + 3) ls (.ref (g.2.2 19) :: rest))) : W p l e R s m args below meth c H locs cells slots Q (F0 m pc ls (.ref (g.2.2 17) :: rest)) :=
  va_get (D := g.1) (ci := 5) (v := .ref (g.2.2 19)) (C := RX5) (T := TX5) (N := 4) C0.1 C0.2.1 C0.2.2.2.2 iw_RX5 C0.2.2.2.1 I.1 I.2.1 17 rfl rfl 1 (by decide) (C0.2.2.2.2 _ wd_148) (fun _ h9 => h9) rfl hd k
theorem xl_19 {i : Int32} (hx : p.tables.exec = Jvm.exec) (hb : c.code = cc) (I : xI g s S H locs) (hi : vp_in i 16) (hd : decode cc pc = .ok (.iaload, 1)) (k : W p l e R s m args below meth c H locs cells slots Q (F0 m (pc + 1) ls (.int (gR S 9 i) :: rest))) : W p l e R s m args below meth c H locs cells slots Q (F0 m pc ls (.int i :: .ref (g.2.2 19) :: rest)) :=
  va_iald (f := aR S 9) hx hb I.1 I.2.1 19 0 rfl rfl hi hd k
theorem xl_26 {i : Int32} (hx : p.tables.exec = Jvm.exec) (hb : c.code = cc) (I : xI g s S H locs) (hi : vp_in i 16) (hd : decode cc pc = .ok (.iaload, 1)) (k : W p l e R s m args below meth c H locs cells slots Q (F0 m (pc + 1) ls (.int (gR S 13 i) :: rest))) : W p l e R s m args below meth c H locs cells slots Q (F0 m pc ls (.int i :: .ref (g.2.2 26) :: rest)) :=
  va_iald (f := aR S 13) hx hb I.1 I.2.1 26 0 rfl rfl hi hd k
theorem xg_X6_181_24 (C0 : CallFix p m c cc nL s args big RX6) (I : xI g s S H locs) (hd : decode cc pc = .ok (.getfield 181, 3)) (k : W p l e R s m args below meth c H locs cells slots Q (F0 m (pc + 3) ls (.int (gF S 32) :: rest))) : W p l e R s m args below meth c H locs cells slots Q (F0 m pc ls (.ref (g.2.2 24) :: rest)) :=
  va_get (D := g.1) (ci := 4) (v := .int (gF S 32)) (C := RX4) (T := TX4) (N := 9) C0.1 C0.2.1 C0.2.2.2.2 iw_RX4 C0.2.2.2.1 I.1 I.2.1 24 rfl rfl 0 (by decide) (C0.2.2.2.2 _ wd_179) (fun _ h9 => h9) rfl hd k
theorem xg_X6_175_24 (C0 : CallFix p m c cc nL s args big RX6) (I : xI g s S H locs) (hd : decode cc pc = .ok (.getfield 175, 3)) (k : W p l e R s m args below meth c H locs cells slots Q (F0 m (pc + 3) ls (.ref (g.2.2 26) :: rest))) : W p l e R s m args below meth c H locs cells slots Q (F0 m pc ls (.ref (g.2.2 24) :: rest)) :=
  va_get (D := g.1) (ci := 4) (v := .ref (g.2.2 26)) (C := RX4) (T := TX4) (N := 9) C0.1 C0.2.1 C0.2.2.2.2 iw_RX4 C0.2.2.2.1 I.1 I.2.1 24 rfl rfl 3 (by decide) (C0.2.2.2.2 _ wd_185) (fun _ h9 => h9) rfl hd k
theorem xg_X6_244_24 (C0 : CallFix p m c cc nL s args big RX6) (I : xI g s S H locs) (hd : decode cc pc = .ok (.getfield 244, 3)) (k : W p l e R s m args below meth c H locs cells slots Q (F0 m (pc + 3) ls (.int (gF S 33) :: rest))) : W p l e R s m args below meth c H locs cells slots Q (F0 m pc ls (.ref (g.2.2 24) :: rest)) :=
  va_get (D := g.1) (ci := 4) (v := .int (gF S 33)) (C := RX4) (T := TX4) (N := 9) C0.1 C0.2.1 C0.2.2.2.2 iw_RX4 C0.2.2.2.1 I.1 I.2.1 24 rfl rfl 1 (by decide) (C0.2.2.2.2 _ wd_181) (fun _ h9 => h9) rfl hd k
theorem xg_X6_172_24 (C0 : CallFix p m c cc nL s args big RX6) (I : xI g s S H locs) (hd : decode cc pc = .ok (.getfield 172, 3)) (k : W p l e R s m args below meth c H locs cells slots Q (F0 m (pc + 3) ls (.ref (g.2.2 25) :: rest))) : W p l e R s m args below meth c H locs cells slots Q (F0 m pc ls (.ref (g.2.2 24) :: rest)) :=
  va_get (D := g.1) (ci := 4) (v := .ref (g.2.2 25)) (C := RX4) (T := TX4) (N := 9) C0.1 C0.2.1 C0.2.2.2.2 iw_RX4 C0.2.2.2.1 I.1 I.2.1 24 rfl rfl 2 (by decide) (C0.2.2.2.2 _ wd_183) (fun _ h9 => h9) rfl hd k
theorem xl_25 {i : Int32} (hx : p.tables.exec = Jvm.exec) (hb : c.code = cc) (I : xI g s S H locs) (hi : vp_in i 16) (hd : decode cc pc = .ok (.iaload, 1)) (k : W p l e R s m args below meth c H locs cells slots Q (F0 m (pc + 1) ls (.int (gR S 12 i) :: rest))) : W p l e R s m args below meth c H locs cells slots Q (F0 m pc ls (.int i :: .ref (g.2.2 25) :: rest)) :=
  va_iald (f := aR S 12) hx hb I.1 I.2.1 25 0 rfl rfl hi hd k
theorem xg_X6_178_24 (C0 : CallFix p m c cc nL s args big RX6) (I : xI g s S H locs) (hd : decode cc pc = .ok (.getfield 178, 3)) (k : W p l e R s m args below meth c H locs cells slots Q (F0 m (pc + 3) ls (.ref (g.2.2 27) :: rest))) : W p l e R s m args below meth c H locs cells slots Q (F0 m pc ls (.ref (g.2.2 24) :: rest)) :=
  va_get (D := g.1) (ci := 4) (v := .ref (g.2.2 27)) (C := RX4) (T := TX4) (N := 9) C0.1 C0.2.1 C0.2.2.2.2 iw_RX4 C0.2.2.2.1 I.1 I.2.1 24 rfl rfl 4 (by decide) (C0.2.2.2.2 _ wd_187) (fun _ h9 => h9) rfl hd k
theorem xg_X6_47_0 (C0 : CallFix p m c cc nL s args big RX6) (I : xI g s S H locs) (hd : decode cc pc = .ok (.getfield 47, 3)) (k : W p l e R s m args below meth c H locs cells slots Q (F0 m (pc + 3) ls (.ref (g.2.2 32) :: rest))) : W p l e R s m args below meth c H locs cells slots Q (F0 m pc ls (.ref (g.2.2 0) :: rest)) :=
  va_get (D := g.1) (ci := 6) (v := .ref (g.2.2 32)) (C := RX6) (T := TX6) (N := 9) C0.1 C0.2.1 C0.2.2.2.2 iw_RX6 C0.2.2.2.1 I.1 I.2.1 0 rfl rfl 5 (by decide) (C0.2.2.2.2 _ wd_245) (fun _ h9 => h9) rfl hd k
theorem xg_X6_194_32 (C0 : CallFix p m c cc nL s args big RX6) (I : xI g s S H locs) (hd : decode cc pc = .ok (.getfield 194, 3)) (k : W p l e R s m args below meth c H locs cells slots Q (F0 m (pc + 3) ls (.int (gF S 34) :: rest))) : W p l e R s m args below meth c H locs cells slots Q (F0 m pc ls (.ref (g.2.2 32) :: rest)) :=
  va_get (D := g.1) (ci := 2) (v := .int (gF S 34)) (C := RX2) (T := TX2) (N := 6) C0.1 C0.2.1 C0.2.2.2.2 iw_RX2 C0.2.2.2.1 I.1 I.2.1 32 rfl rfl 0 (by decide) (C0.2.2.2.2 _ wd_218) (fun _ h9 => h9) rfl hd k
theorem xg_X2_9_32 (C0 : CallFix p m c cc nL s args big RX2) (I : xI g s S H locs) (hd : decode cc pc = .ok (.getfield 9, 3)) (k : W p l e R s m args below meth c H locs cells slots Q (F0 m (pc + 3) ls (.int (gF S 34) :: rest))) : W p l e R s m args below meth c H locs cells slots Q (F0 m pc ls (.ref (g.2.2 32) :: rest)) :=
  va_get (D := g.1) (ci := 2) (v := .int (gF S 34)) (C := RX2) (T := TX2) (N := 6) C0.1 C0.2.1 C0.2.2.2.2 iw_RX2 C0.2.2.2.1 I.1 I.2.1 32 rfl rfl 0 (by decide) (C0.2.2.2.2 _ wd_217) (fun _ h9 => h9) rfl hd k
theorem xg_X2_24_32 (C0 : CallFix p m c cc nL s args big RX2) (I : xI g s S H locs) (hd : decode cc pc = .ok (.getfield 24, 3)) (k : W p l e R s m args below meth c H locs cells slots Q (F0 m (pc + 3) ls (.ref (g.2.2 33) :: rest))) : W p l e R s m args below meth c H locs cells slots Q (F0 m pc ls (.ref (g.2.2 32) :: rest)) :=
  va_get (D := g.1) (ci := 2) (v := .ref (g.2.2 33)) (C := RX2) (T := TX2) (N := 6) C0.1 C0.2.1 C0.2.2.2.2 iw_RX2 C0.2.2.2.1 I.1 I.2.1 32 rfl rfl 4 (by decide) (C0.2.2.2.2 _ wd_224) (fun _ h9 => h9) rfl hd k
theorem xs_33 {i v : Int32} (hx : p.tables.exec = Jvm.exec) (hb : c.code = cc) (I : xI g s S H locs) (hi : vp_in i 120) (hd : decode cc pc = .ok (.bastore, 1)) (k : ∀ (H1 : Heap) (locs1 : List Loc), xI g s (pR S 19 i (vp_nar .byte v)) H1 locs1 → W p l e R s m args below meth c H1 locs1 cells slots Q (F0 m (pc + 1) ls rest)) : W p l e R s m args below meth c H locs cells slots Q (F0 m pc ls (.int v :: .int i :: .ref (g.2.2 33) :: rest)) :=
  va_bast (f := aR S 19) hx hb I.1 I.2.1 I.2.2.1 I.2.2.2 33 1 rfl rfl hi hd (fun H1 locs1 hP hD hS => k H1 locs1 ⟨I.1, hP, hD, hS⟩)
theorem xp_X2_9_32 {v : Int32} (C0 : CallFix p m c cc nL s args big RX2) (I : xI g s S H locs) (hd : decode cc pc = .ok (.putfield 9, 3)) (k : ∀ (H1 : Heap) (locs1 : List Loc), xI g s (pF S 34 v) H1 locs1 → W p l e R s m args below meth c H1 locs1 cells slots Q (F0 m (pc + 3) ls rest)) : W p l e R s m args below meth c H locs cells slots Q (F0 m pc ls (.int v :: .ref (g.2.2 32) :: rest)) :=
  va_put (D := g.1) (ci := 2) (v := .int v) (ty := .int) (C := RX2) (T := TX2) (N := 6) C0.1 C0.2.1 C0.2.2.2.2 iw_RX2 tyX2 tyX2_ok nmX2 C0.2.2.2.1 I.1 I.2.1 I.2.2.1 I.2.2.2 32 rfl rfl 0 (by decide) (C0.2.2.2.2 _ wd_217) (fun _ h9 => h9) rfl (by decide +kernel) rfl rfl (Nat.le_of_ble_eq_true rfl) hd (fun H1 locs1 hP hD hS => k H1 locs1 ⟨I.1, hP, hD, hS⟩)
theorem xo_32 (I : xI g s S H locs) : ∃ cell : Cell, H[g.2.2 32]? = some cell ∧ cell.vm.isStatics = false ∧ s.vm.findClass RX2 = some cell.cls := va_recv I.1 I.2.1 (ci := 2) (q0 := 32) rfl rfl
theorem xp_X6_194_32 {v : Int32} (C0 : CallFix p m c cc nL s args big RX6) (I : xI g s S H locs) (hd : decode cc pc = .ok (.putfield 194, 3)) (k : ∀ (H1 : Heap) (locs1 : List Loc), xI g s (pF S 34 v) H1 locs1 → W p l e R s m args below meth c H1 locs1 cells slots Q (F0 m (pc + 3) ls rest)) : W p l e R s m args below meth c H locs cells slots Q (F0 m pc ls (.int v :: .ref (g.2.2 32) :: rest)) :=
  va_put (D := g.1) (ci := 2) (v := .int v) (ty := .int) (C := RX2) (T := TX2) (N := 6) C0.1 C0.2.1 C0.2.2.2.2 iw_RX2 tyX2 tyX2_ok nmX2 C0.2.2.2.1 I.1 I.2.1 I.2.2.1 I.2.2.2 32 rfl rfl 0 (by decide) (C0.2.2.2.2 _ wd_218) (fun _ h9 => h9) rfl (by decide +kernel) rfl rfl (Nat.le_of_ble_eq_true rfl) hd (fun H1 locs1 hP hD hS => k H1 locs1 ⟨I.1, hP, hD, hS⟩)
theorem xp_X2_15_32 {v : Int32} (C0 : CallFix p m c cc nL s args big RX2) (I : xI g s S H locs) (hd : decode cc pc = .ok (.putfield 15, 3)) (k : ∀ (H1 : Heap) (locs1 : List Loc), xI g s (pF S 35 v) H1 locs1 → W p l e R s m args below meth c H1 locs1 cells slots Q (F0 m (pc + 3) ls rest)) : W p l e R s m args below meth c H locs cells slots Q (F0 m pc ls (.int v :: .ref (g.2.2 32) :: rest)) :=
  va_put (D := g.1) (ci := 2) (v := .int v) (ty := .int) (C := RX2) (T := TX2) (N := 6) C0.1 C0.2.1 C0.2.2.2.2 iw_RX2 tyX2 tyX2_ok nmX2 C0.2.2.2.1 I.1 I.2.1 I.2.2.1 I.2.2.2 32 rfl rfl 1 (by decide) (C0.2.2.2.2 _ wd_219) (fun _ h9 => h9) rfl (by decide +kernel) rfl rfl (Nat.le_of_ble_eq_true rfl) hd (fun H1 locs1 hP hD hS => k H1 locs1 ⟨I.1, hP, hD, hS⟩)
theorem xp_X2_18_32 {v : Int32} (C0 : CallFix p m c cc nL s args big RX2) (I : xI g s S H locs) (hd : decode cc pc = .ok (.putfield 18, 3)) (k : ∀ (H1 : Heap) (locs1 : List Loc), xI g s (pF S 36 v) H1 locs1 → W p l e R s m args below meth c H1 locs1 cells slots Q (F0 m (pc + 3) ls rest)) : W p l e R s m args below meth c H locs cells slots Q (F0 m pc ls (.int v :: .ref (g.2.2 32) :: rest)) :=
  va_put (D := g.1) (ci := 2) (v := .int v) (ty := .int) (C := RX2) (T := TX2) (N := 6) C0.1 C0.2.1 C0.2.2.2.2 iw_RX2 tyX2 tyX2_ok nmX2 C0.2.2.2.1 I.1 I.2.1 I.2.2.1 I.2.2.2 32 rfl rfl 2 (by decide) (C0.2.2.2.2 _ wd_221) (fun _ h9 => h9) rfl (by decide +kernel) rfl rfl (Nat.le_of_ble_eq_true rfl) hd (fun H1 locs1 hP hD hS => k H1 locs1 ⟨I.1, hP, hD, hS⟩)
theorem xp_X2_21_32 {v : Int32} (C0 : CallFix p m c cc nL s args big RX2) (I : xI g s S H locs) (hd : decode cc pc = .ok (.putfield 21, 3)) (k : ∀ (H1 : Heap) (locs1 : List Loc), xI g s (pF S 37 v) H1 locs1 → W p l e R s m args below meth c H1 locs1 cells slots Q (F0 m (pc + 3) ls rest)) : W p l e R s m args below meth c H locs cells slots Q (F0 m pc ls (.int v :: .ref (g.2.2 32) :: rest)) :=
  va_put (D := g.1) (ci := 2) (v := .int v) (ty := .int) (C := RX2) (T := TX2) (N := 6) C0.1 C0.2.1 C0.2.2.2.2 iw_RX2 tyX2 tyX2_ok nmX2 C0.2.2.2.1 I.1 I.2.1 I.2.2.1 I.2.2.2 32 rfl rfl 3 (by decide) (C0.2.2.2.2 _ wd_223) (fun _ h9 => h9) rfl (by decide +kernel) rfl rfl (Nat.le_of_ble_eq_true rfl) hd (fun H1 locs1 hP hD hS => k H1 locs1 ⟨I.1, hP, hD, hS⟩)
theorem xg_X2_21_32 (C0 : CallFix p m c cc nL s args big RX2) (I : xI g s S H locs) (hd : decode cc pc = .ok (.getfield 21, 3)) (k : W p l e R s m args below meth c H locs cells slots Q (F0 m (pc + 3) ls (.int (gF S 37) :: rest))) : W p l e R s m args below meth c H locs cells slots Q (F0 m pc ls (.ref (g.2.2 32) :: rest)) :=
  va_get (D := g.1) (ci := 2) (v := .int (gF S 37)) (C := RX2) (T := TX2) (N := 6) C0.1 C0.2.1 C0.2.2.2.2 iw_RX2 C0.2.2.2.1 I.1 I.2.1 32 rfl rfl 3 (by decide) (C0.2.2.2.2 _ wd_223) (fun _ h9 => h9) rfl hd k
theorem xl_33 {i : Int32} (hx : p.tables.exec = Jvm.exec) (hb : c.code = cc) (I : xI g s S H locs) (hi : vp_in i 120) (hd : decode cc pc = .ok (.baload, 1)) (k : W p l e R s m args below meth c H locs cells slots Q (F0 m (pc + 1) ls (.int (gR S 19 i) :: rest))) : W p l e R s m args below meth c H locs cells slots Q (F0 m pc ls (.int i :: .ref (g.2.2 33) :: rest)) :=
  va_bald (f := aR S 19) hx hb I.1 I.2.1 33 1 rfl rfl hi hd k
theorem xg_X2_15_32 (C0 : CallFix p m c cc nL s args big RX2) (I : xI g s S H locs) (hd : decode cc pc = .ok (.getfield 15, 3)) (k : W p l e R s m args below meth c H locs cells slots Q (F0 m (pc + 3) ls (.int (gF S 35) :: rest))) : W p l e R s m args below meth c H locs cells slots Q (F0 m pc ls (.ref (g.2.2 32) :: rest)) :=
  va_get (D := g.1) (ci := 2) (v := .int (gF S 35)) (C := RX2) (T := TX2) (N := 6) C0.1 C0.2.1 C0.2.2.2.2 iw_RX2 C0.2.2.2.1 I.1 I.2.1 32 rfl rfl 1 (by decide) (C0.2.2.2.2 _ wd_219) (fun _ h9 => h9) rfl hd k
theorem xg_X2_18_32 (C0 : CallFix p m c cc nL s args big RX2) (I : xI g s S H locs) (hd : decode cc pc = .ok (.getfield 18, 3)) (k : W p l e R s m args below meth c H locs cells slots Q (F0 m (pc + 3) ls (.int (gF S 36) :: rest))) : W p l e R s m args below meth c H locs cells slots Q (F0 m pc ls (.ref (g.2.2 32) :: rest)) :=
  va_get (D := g.1) (ci := 2) (v := .int (gF S 36)) (C := RX2) (T := TX2) (N := 6) C0.1 C0.2.1 C0.2.2.2.2 iw_RX2 C0.2.2.2.1 I.1 I.2.1 32 rfl rfl 2 (by decide) (C0.2.2.2.2 _ wd_221) (fun _ h9 => h9) rfl hd k
theorem xg_X2_28_32 (C0 : CallFix p m c cc nL s args big RX2) (I : xI g s S H locs) (hd : decode cc pc = .ok (.getfield 28, 3)) (k : W p l e R s m args below meth c H locs cells slots Q (F0 m (pc + 3) ls (.ref (g.2.2 34) :: rest))) : W p l e R s m args below meth c H locs cells slots Q (F0 m pc ls (.ref (g.2.2 32) :: rest)) :=
  va_get (D := g.1) (ci := 2) (v := .ref (g.2.2 34)) (C := RX2) (T := TX2) (N := 6) C0.1 C0.2.1 C0.2.2.2.2 iw_RX2 C0.2.2.2.1 I.1 I.2.1 32 rfl rfl 5 (by decide) (C0.2.2.2.2 _ wd_225) (fun _ h9 => h9) rfl hd k
theorem xs_34 {i v : Int32} (hx : p.tables.exec = Jvm.exec) (hb : c.code = cc) (I : xI g s S H locs) (hi : vp_in i 64) (hd : decode cc pc = .ok (.iastore, 1)) (k : ∀ (H1 : Heap) (locs1 : List Loc), xI g s (pR S 20 i v) H1 locs1 → W p l e R s m args below meth c H1 locs1 cells slots Q (F0 m (pc + 1) ls rest)) : W p l e R s m args below meth c H locs cells slots Q (F0 m pc ls (.int v :: .int i :: .ref (g.2.2 34) :: rest)) :=
  va_iast (f := aR S 20) hx hb I.1 I.2.1 I.2.2.1 I.2.2.2 34 0 rfl rfl hi hd (fun H1 locs1 hP hD hS => k H1 locs1 ⟨I.1, hP, hD, hS⟩)
theorem xg_X6_204_32 (C0 : CallFix p m c cc nL s args big RX6) (I : xI g s S H locs) (hd : decode cc pc = .ok (.getfield 204, 3)) (k : W p l e R s m args below meth c H locs cells slots Q (F0 m (pc + 3) ls (.int (gF S 35) :: rest))) : W p l e R s m args below meth c H locs cells slots Q (F0 m pc ls (.ref (g.2.2 32) :: rest)) :=
  va_get (D := g.1) (ci := 2) (v := .int (gF S 35)) (C := RX2) (T := TX2) (N := 6) C0.1 C0.2.1 C0.2.2.2.2 iw_RX2 C0.2.2.2.1 I.1 I.2.1 32 rfl rfl 1 (by decide) (C0.2.2.2.2 _ wd_220) (fun _ h9 => h9) rfl hd k
theorem xg_X6_207_32 (C0 : CallFix p m c cc nL s args big RX6) (I : xI g s S H locs) (hd : decode cc pc = .ok (.getfield 207, 3)) (k : W p l e R s m args below meth c H locs cells slots Q (F0 m (pc + 3) ls (.int (gF S 36) :: rest))) : W p l e R s m args below meth c H locs cells slots Q (F0 m pc ls (.ref (g.2.2 32) :: rest)) :=
  va_get (D := g.1) (ci := 2) (v := .int (gF S 36)) (C := RX2) (T := TX2) (N := 6) C0.1 C0.2.1 C0.2.2.2.2 iw_RX2 C0.2.2.2.1 I.1 I.2.1 32 rfl rfl 2 (by decide) (C0.2.2.2.2 _ wd_222) (fun _ h9 => h9) rfl hd k
theorem xl_34 {i : Int32} (hx : p.tables.exec = Jvm.exec) (hb : c.code = cc) (I : xI g s S H locs) (hi : vp_in i 64) (hd : decode cc pc = .ok (.iaload, 1)) (k : W p l e R s m args below meth c H locs cells slots Q (F0 m (pc + 1) ls (.int (gR S 20 i) :: rest))) : W p l e R s m args below meth c H locs cells slots Q (F0 m pc ls (.int i :: .ref (g.2.2 34) :: rest)) :=
  va_iald (f := aR S 20) hx hb I.1 I.2.1 34 0 rfl rfl hi hd k
theorem xg_X6_211_3 (C0 : CallFix p m c cc nL s args big RX6) (I : xI g s S H locs) (hd : decode cc pc = .ok (.getfield 211, 3)) (k : W p l e R s m args below meth c H locs cells slots Q (F0 m (pc + 3) ls (.int (gF S 30) :: rest))) : W p l e R s m args below meth c H locs cells slots Q (F0 m pc ls (.ref (g.2.2 3) :: rest)) :=
  va_get (D := g.1) (ci := 0) (v := .int (gF S 30)) (C := RX0) (T := TX0) (N := 3) C0.1 C0.2.1 C0.2.2.2.2 iw_RX0 C0.2.2.2.1 I.1 I.2.1 3 rfl rfl 0 (by decide) (C0.2.2.2.2 _ wd_127) (fun _ h9 => h9) rfl hd k
theorem xg_X3_9_5 (C0 : CallFix p m c cc nL s args big RX3) (I : xI g s S H locs) (hd : decode cc pc = .ok (.getfield 9, 3)) (k : W p l e R s m args below meth c H locs cells slots Q (F0 m (pc + 3) ls (.int (gF S 4) :: rest))) : W p l e R s m args below meth c H locs cells slots Q (F0 m pc ls (.ref (g.2.2 5) :: rest)) :=
  va_get (D := g.1) (ci := 3) (v := .int (gF S 4)) (C := RX3) (T := TX3) (N := 5) C0.1 C0.2.1 C0.2.2.2.2 iw_RX3 C0.2.2.2.1 I.1 I.2.1 5 rfl rfl 0 (by decide) (C0.2.2.2.2 _ wd_91) (fun _ h9 => h9) rfl hd k
theorem xp_X3_9_1 {v : Int32} (C0 : CallFix p m c cc nL s args big RX3) (I : xI g s S H locs) (hd : decode cc pc = .ok (.putfield 9, 3)) (k : ∀ (H1 : Heap) (locs1 : List Loc), xI g s (pF S 0 v) H1 locs1 → W p l e R s m args below meth c H1 locs1 cells slots Q (F0 m (pc + 3) ls rest)) : W p l e R s m args below meth c H locs cells slots Q (F0 m pc ls (.int v :: .ref (g.2.2 1) :: rest)) :=
  va_put (D := g.1) (ci := 3) (v := .int v) (ty := .int) (C := RX3) (T := TX3) (N := 5) C0.1 C0.2.1 C0.2.2.2.2 iw_RX3 tyX3 tyX3_ok nmX3 C0.2.2.2.1 I.1 I.2.1 I.2.2.1 I.2.2.2 1 rfl rfl 0 (by decide) (C0.2.2.2.2 _ wd_91) (fun _ h9 => h9) rfl (by decide +kernel) rfl rfl (Nat.le_of_ble_eq_true rfl) hd (fun H1 locs1 hP hD hS => k H1 locs1 ⟨I.1, hP, hD, hS⟩)
theorem xg_X3_15_5 (C0 : CallFix p m c cc nL s args big RX3) (I : xI g s S H locs) (hd : decode cc pc = .ok (.getfield 15, 3)) (k : W p l e R s m args below meth c H locs cells slots Q (F0 m (pc + 3) ls (.int (gF S 5) :: rest))) : W p l e R s m args below meth c H locs cells slots Q (F0 m pc ls (.ref (g.2.2 5) :: rest)) :=
  va_get (D := g.1) (ci := 3) (v := .int (gF S 5)) (C := RX3) (T := TX3) (N := 5) C0.1 C0.2.1 C0.2.2.2.2 iw_RX3 C0.2.2.2.1 I.1 I.2.1 5 rfl rfl 1 (by decide) (C0.2.2.2.2 _ wd_95) (fun _ h9 => h9) rfl hd k
theorem xp_X3_15_1 {v : Int32} (C0 : CallFix p m c cc nL s args big RX3) (I : xI g s S H locs) (hd : decode cc pc = .ok (.putfield 15, 3)) (k : ∀ (H1 : Heap) (locs1 : List Loc), xI g s (pF S 1 v) H1 locs1 → W p l e R s m args below meth c H1 locs1 cells slots Q (F0 m (pc + 3) ls rest)) : W p l e R s m args below meth c H locs cells slots Q (F0 m pc ls (.int v :: .ref (g.2.2 1) :: rest)) :=
  va_put (D := g.1) (ci := 3) (v := .int v) (ty := .int) (C := RX3) (T := TX3) (N := 5) C0.1 C0.2.1 C0.2.2.2.2 iw_RX3 tyX3 tyX3_ok nmX3 C0.2.2.2.1 I.1 I.2.1 I.2.2.1 I.2.2.2 1 rfl rfl 1 (by decide) (C0.2.2.2.2 _ wd_95) (fun _ h9 => h9) rfl (by decide +kernel) rfl rfl (Nat.le_of_ble_eq_true rfl) hd (fun H1 locs1 hP hD hS => k H1 locs1 ⟨I.1, hP, hD, hS⟩)
theorem xg_X3_18_5 (C0 : CallFix p m c cc nL s args big RX3) (I : xI g s S H locs) (hd : decode cc pc = .ok (.getfield 18, 3)) (k : W p l e R s m args below meth c H locs cells slots Q (F0 m (pc + 3) ls (.int (gF S 6) :: rest))) : W p l e R s m args below meth c H locs cells slots Q (F0 m pc ls (.ref (g.2.2 5) :: rest)) :=
  va_get (D := g.1) (ci := 3) (v := .int (gF S 6)) (C := RX3) (T := TX3) (N := 5) C0.1 C0.2.1 C0.2.2.2.2 iw_RX3 C0.2.2.2.1 I.1 I.2.1 5 rfl rfl 2 (by decide) (C0.2.2.2.2 _ wd_98) (fun _ h9 => h9) rfl hd k
theorem xp_X3_18_1 {v : Int32} (C0 : CallFix p m c cc nL s args big RX3) (I : xI g s S H locs) (hd : decode cc pc = .ok (.putfield 18, 3)) (k : ∀ (H1 : Heap) (locs1 : List Loc), xI g s (pF S 2 v) H1 locs1 → W p l e R s m args below meth c H1 locs1 cells slots Q (F0 m (pc + 3) ls rest)) : W p l e R s m args below meth c H locs cells slots Q (F0 m pc ls (.int v :: .ref (g.2.2 1) :: rest)) :=
  va_put (D := g.1) (ci := 3) (v := .int v) (ty := .int) (C := RX3) (T := TX3) (N := 5) C0.1 C0.2.1 C0.2.2.2.2 iw_RX3 tyX3 tyX3_ok nmX3 C0.2.2.2.1 I.1 I.2.1 I.2.2.1 I.2.2.2 1 rfl rfl 2 (by decide) (C0.2.2.2.2 _ wd_98) (fun _ h9 => h9) rfl (by decide +kernel) rfl rfl (Nat.le_of_ble_eq_true rfl) hd (fun H1 locs1 hP hD hS => k H1 locs1 ⟨I.1, hP, hD, hS⟩)
theorem xg_X3_21_5 (C0 : CallFix p m c cc nL s args big RX3) (I : xI g s S H locs) (hd : decode cc pc = .ok (.getfield 21, 3)) (k : W p l e R s m args below meth c H locs cells slots Q (F0 m (pc + 3) ls (.int (gF S 7) :: rest))) : W p l e R s m args below meth c H locs cells slots Q (F0 m pc ls (.ref (g.2.2 5) :: rest)) :=
  va_get (D := g.1) (ci := 3) (v := .int (gF S 7)) (C := RX3) (T := TX3) (N := 5) C0.1 C0.2.1 C0.2.2.2.2 iw_RX3 C0.2.2.2.1 I.1 I.2.1 5 rfl rfl 3 (by decide) (C0.2.2.2.2 _ wd_100) (fun _ h9 => h9) rfl hd k
theorem xn_2 (hx : p.tables.exec = Jvm.exec) (hb : c.code = cc) (I : xI g s S H locs) (hd : decode cc pc = .ok (.arraylength, 1)) (k : W p l e R s m args below meth c H locs cells slots Q (F0 m (pc + 1) ls (.int 64 :: rest))) : W p l e R s m args below meth c H locs cells slots Q (F0 m pc ls (.ref (g.2.2 2) :: rest)) :=
  va_alen hx hb I.1 I.2.1 2 0 rfl rfl rfl hd k
theorem xc_2_6 (C0 : CallFix p m c cc nL s args big RX3) (hls : ls.size = nL) (I : xI g s S H locs) (hfr : 1 ≤ R.frames) (hlo : (rest.map fun v => v.category).sum + (nativeFrameWords "java/lang/System" "arraycopy" 5 + 11) ≤ R.locals) (hd : decode cc pc = .ok (.invokestatic 36, 3)) (k : ∀ (H1 : Heap) (locs1 : List Loc), xI g s (pC S 0 1) H1 locs1 → W p l e R s m args below meth c H1 locs1 cells slots Q (F0 m (pc + 3) ls rest)) : W p l e R s m args below meth c H locs cells slots Q (F0 m pc ls (.int 64 :: .int 0 :: .ref (g.2.2 2) :: .int 0 :: .ref (g.2.2 6) :: rest)) :=
  va_copyi (f := aR S 1) (g := aR S 0) (ty := .int) C0.1 C0.2.1 (C0.2.2.1.trans hls.symm) C0.2.2.2.1 (C0.2.2.2.2 _ wd_284) (C0.2.2.2.2 _ wd_286) (C0.2.2.2.2 _ wd_285) (C0.2.2.2.2 _ wd_74) I.1 I.2.1 I.2.2.1 I.2.2.2 6 2 0 0 rfl rfl rfl rfl rfl (by decide) (by decide) (by decide) (by decide) (by decide) (fun _ _ => rfl) hfr hlo hd (fun H1 locs1 hP hD hS => k H1 locs1 ⟨I.1, hP, hD, hS⟩)
theorem xg_X3_9_7 (C0 : CallFix p m c cc nL s args big RX3) (I : xI g s S H locs) (hd : decode cc pc = .ok (.getfield 9, 3)) (k : W p l e R s m args below meth c H locs cells slots Q (F0 m (pc + 3) ls (.int (gF S 8) :: rest))) : W p l e R s m args below meth c H locs cells slots Q (F0 m pc ls (.ref (g.2.2 7) :: rest)) :=
  va_get (D := g.1) (ci := 3) (v := .int (gF S 8)) (C := RX3) (T := TX3) (N := 5) C0.1 C0.2.1 C0.2.2.2.2 iw_RX3 C0.2.2.2.1 I.1 I.2.1 7 rfl rfl 0 (by decide) (C0.2.2.2.2 _ wd_91) (fun _ h9 => h9) rfl hd k
theorem xg_X3_15_7 (C0 : CallFix p m c cc nL s args big RX3) (I : xI g s S H locs) (hd : decode cc pc = .ok (.getfield 15, 3)) (k : W p l e R s m args below meth c H locs cells slots Q (F0 m (pc + 3) ls (.int (gF S 9) :: rest))) : W p l e R s m args below meth c H locs cells slots Q (F0 m pc ls (.ref (g.2.2 7) :: rest)) :=
  va_get (D := g.1) (ci := 3) (v := .int (gF S 9)) (C := RX3) (T := TX3) (N := 5) C0.1 C0.2.1 C0.2.2.2.2 iw_RX3 C0.2.2.2.1 I.1 I.2.1 7 rfl rfl 1 (by decide) (C0.2.2.2.2 _ wd_95) (fun _ h9 => h9) rfl hd k
theorem xg_X3_18_7 (C0 : CallFix p m c cc nL s args big RX3) (I : xI g s S H locs) (hd : decode cc pc = .ok (.getfield 18, 3)) (k : W p l e R s m args below meth c H locs cells slots Q (F0 m (pc + 3) ls (.int (gF S 10) :: rest))) : W p l e R s m args below meth c H locs cells slots Q (F0 m pc ls (.ref (g.2.2 7) :: rest)) :=
  va_get (D := g.1) (ci := 3) (v := .int (gF S 10)) (C := RX3) (T := TX3) (N := 5) C0.1 C0.2.1 C0.2.2.2.2 iw_RX3 C0.2.2.2.1 I.1 I.2.1 7 rfl rfl 2 (by decide) (C0.2.2.2.2 _ wd_98) (fun _ h9 => h9) rfl hd k
theorem xg_X3_21_7 (C0 : CallFix p m c cc nL s args big RX3) (I : xI g s S H locs) (hd : decode cc pc = .ok (.getfield 21, 3)) (k : W p l e R s m args below meth c H locs cells slots Q (F0 m (pc + 3) ls (.int (gF S 11) :: rest))) : W p l e R s m args below meth c H locs cells slots Q (F0 m pc ls (.ref (g.2.2 7) :: rest)) :=
  va_get (D := g.1) (ci := 3) (v := .int (gF S 11)) (C := RX3) (T := TX3) (N := 5) C0.1 C0.2.1 C0.2.2.2.2 iw_RX3 C0.2.2.2.1 I.1 I.2.1 7 rfl rfl 3 (by decide) (C0.2.2.2.2 _ wd_100) (fun _ h9 => h9) rfl hd k
theorem xc_2_8 (C0 : CallFix p m c cc nL s args big RX3) (hls : ls.size = nL) (I : xI g s S H locs) (hfr : 1 ≤ R.frames) (hlo : (rest.map fun v => v.category).sum + (nativeFrameWords "java/lang/System" "arraycopy" 5 + 11) ≤ R.locals) (hd : decode cc pc = .ok (.invokestatic 36, 3)) (k : ∀ (H1 : Heap) (locs1 : List Loc), xI g s (pC S 0 2) H1 locs1 → W p l e R s m args below meth c H1 locs1 cells slots Q (F0 m (pc + 3) ls rest)) : W p l e R s m args below meth c H locs cells slots Q (F0 m pc ls (.int 64 :: .int 0 :: .ref (g.2.2 2) :: .int 0 :: .ref (g.2.2 8) :: rest)) :=
  va_copyi (f := aR S 2) (g := aR S 0) (ty := .int) C0.1 C0.2.1 (C0.2.2.1.trans hls.symm) C0.2.2.2.1 (C0.2.2.2.2 _ wd_284) (C0.2.2.2.2 _ wd_286) (C0.2.2.2.2 _ wd_285) (C0.2.2.2.2 _ wd_74) I.1 I.2.1 I.2.2.1 I.2.2.2 8 2 0 0 rfl rfl rfl rfl rfl (by decide) (by decide) (by decide) (by decide) (by decide) (fun _ _ => rfl) hfr hlo hd (fun H1 locs1 hP hD hS => k H1 locs1 ⟨I.1, hP, hD, hS⟩)
theorem xg_X3_9_9 (C0 : CallFix p m c cc nL s args big RX3) (I : xI g s S H locs) (hd : decode cc pc = .ok (.getfield 9, 3)) (k : W p l e R s m args below meth c H locs cells slots Q (F0 m (pc + 3) ls (.int (gF S 12) :: rest))) : W p l e R s m args below meth c H locs cells slots Q (F0 m pc ls (.ref (g.2.2 9) :: rest)) :=
  va_get (D := g.1) (ci := 3) (v := .int (gF S 12)) (C := RX3) (T := TX3) (N := 5) C0.1 C0.2.1 C0.2.2.2.2 iw_RX3 C0.2.2.2.1 I.1 I.2.1 9 rfl rfl 0 (by decide) (C0.2.2.2.2 _ wd_91) (fun _ h9 => h9) rfl hd k
theorem xg_X3_15_9 (C0 : CallFix p m c cc nL s args big RX3) (I : xI g s S H locs) (hd : decode cc pc = .ok (.getfield 15, 3)) (k : W p l e R s m args below meth c H locs cells slots Q (F0 m (pc + 3) ls (.int (gF S 13) :: rest))) : W p l e R s m args below meth c H locs cells slots Q (F0 m pc ls (.ref (g.2.2 9) :: rest)) :=
  va_get (D := g.1) (ci := 3) (v := .int (gF S 13)) (C := RX3) (T := TX3) (N := 5) C0.1 C0.2.1 C0.2.2.2.2 iw_RX3 C0.2.2.2.1 I.1 I.2.1 9 rfl rfl 1 (by decide) (C0.2.2.2.2 _ wd_95) (fun _ h9 => h9) rfl hd k
theorem xg_X3_18_9 (C0 : CallFix p m c cc nL s args big RX3) (I : xI g s S H locs) (hd : decode cc pc = .ok (.getfield 18, 3)) (k : W p l e R s m args below meth c H locs cells slots Q (F0 m (pc + 3) ls (.int (gF S 14) :: rest))) : W p l e R s m args below meth c H locs cells slots Q (F0 m pc ls (.ref (g.2.2 9) :: rest)) :=
  va_get (D := g.1) (ci := 3) (v := .int (gF S 14)) (C := RX3) (T := TX3) (N := 5) C0.1 C0.2.1 C0.2.2.2.2 iw_RX3 C0.2.2.2.1 I.1 I.2.1 9 rfl rfl 2 (by decide) (C0.2.2.2.2 _ wd_98) (fun _ h9 => h9) rfl hd k
theorem xg_X3_21_9 (C0 : CallFix p m c cc nL s args big RX3) (I : xI g s S H locs) (hd : decode cc pc = .ok (.getfield 21, 3)) (k : W p l e R s m args below meth c H locs cells slots Q (F0 m (pc + 3) ls (.int (gF S 15) :: rest))) : W p l e R s m args below meth c H locs cells slots Q (F0 m pc ls (.ref (g.2.2 9) :: rest)) :=
  va_get (D := g.1) (ci := 3) (v := .int (gF S 15)) (C := RX3) (T := TX3) (N := 5) C0.1 C0.2.1 C0.2.2.2.2 iw_RX3 C0.2.2.2.1 I.1 I.2.1 9 rfl rfl 3 (by decide) (C0.2.2.2.2 _ wd_100) (fun _ h9 => h9) rfl hd k
theorem xc_2_10 (C0 : CallFix p m c cc nL s args big RX3) (hls : ls.size = nL) (I : xI g s S H locs) (hfr : 1 ≤ R.frames) (hlo : (rest.map fun v => v.category).sum + (nativeFrameWords "java/lang/System" "arraycopy" 5 + 11) ≤ R.locals) (hd : decode cc pc = .ok (.invokestatic 36, 3)) (k : ∀ (H1 : Heap) (locs1 : List Loc), xI g s (pC S 0 3) H1 locs1 → W p l e R s m args below meth c H1 locs1 cells slots Q (F0 m (pc + 3) ls rest)) : W p l e R s m args below meth c H locs cells slots Q (F0 m pc ls (.int 64 :: .int 0 :: .ref (g.2.2 2) :: .int 0 :: .ref (g.2.2 10) :: rest)) :=
  va_copyi (f := aR S 3) (g := aR S 0) (ty := .int) C0.1 C0.2.1 (C0.2.2.1.trans hls.symm) C0.2.2.2.1 (C0.2.2.2.2 _ wd_284) (C0.2.2.2.2 _ wd_286) (C0.2.2.2.2 _ wd_285) (C0.2.2.2.2 _ wd_74) I.1 I.2.1 I.2.2.1 I.2.2.2 10 2 0 0 rfl rfl rfl rfl rfl (by decide) (by decide) (by decide) (by decide) (by decide) (fun _ _ => rfl) hfr hlo hd (fun H1 locs1 hP hD hS => k H1 locs1 ⟨I.1, hP, hD, hS⟩)
theorem xg_X3_9_11 (C0 : CallFix p m c cc nL s args big RX3) (I : xI g s S H locs) (hd : decode cc pc = .ok (.getfield 9, 3)) (k : W p l e R s m args below meth c H locs cells slots Q (F0 m (pc + 3) ls (.int (gF S 16) :: rest))) : W p l e R s m args below meth c H locs cells slots Q (F0 m pc ls (.ref (g.2.2 11) :: rest)) :=
  va_get (D := g.1) (ci := 3) (v := .int (gF S 16)) (C := RX3) (T := TX3) (N := 5) C0.1 C0.2.1 C0.2.2.2.2 iw_RX3 C0.2.2.2.1 I.1 I.2.1 11 rfl rfl 0 (by decide) (C0.2.2.2.2 _ wd_91) (fun _ h9 => h9) rfl hd k
theorem xg_X3_15_11 (C0 : CallFix p m c cc nL s args big RX3) (I : xI g s S H locs) (hd : decode cc pc = .ok (.getfield 15, 3)) (k : W p l e R s m args below meth c H locs cells slots Q (F0 m (pc + 3) ls (.int (gF S 17) :: rest))) : W p l e R s m args below meth c H locs cells slots Q (F0 m pc ls (.ref (g.2.2 11) :: rest)) :=
  va_get (D := g.1) (ci := 3) (v := .int (gF S 17)) (C := RX3) (T := TX3) (N := 5) C0.1 C0.2.1 C0.2.2.2.2 iw_RX3 C0.2.2.2.1 I.1 I.2.1 11 rfl rfl 1 (by decide) (C0.2.2.2.2 _ wd_95) (fun _ h9 => h9) rfl hd k
theorem xg_X3_18_11 (C0 : CallFix p m c cc nL s args big RX3) (I : xI g s S H locs) (hd : decode cc pc = .ok (.getfield 18, 3)) (k : W p l e R s m args below meth c H locs cells slots Q (F0 m (pc + 3) ls (.int (gF S 18) :: rest))) : W p l e R s m args below meth c H locs cells slots Q (F0 m pc ls (.ref (g.2.2 11) :: rest)) :=
  va_get (D := g.1) (ci := 3) (v := .int (gF S 18)) (C := RX3) (T := TX3) (N := 5) C0.1 C0.2.1 C0.2.2.2.2 iw_RX3 C0.2.2.2.1 I.1 I.2.1 11 rfl rfl 2 (by decide) (C0.2.2.2.2 _ wd_98) (fun _ h9 => h9) rfl hd k
theorem xg_X3_21_11 (C0 : CallFix p m c cc nL s args big RX3) (I : xI g s S H locs) (hd : decode cc pc = .ok (.getfield 21, 3)) (k : W p l e R s m args below meth c H locs cells slots Q (F0 m (pc + 3) ls (.int (gF S 19) :: rest))) : W p l e R s m args below meth c H locs cells slots Q (F0 m pc ls (.ref (g.2.2 11) :: rest)) :=
  va_get (D := g.1) (ci := 3) (v := .int (gF S 19)) (C := RX3) (T := TX3) (N := 5) C0.1 C0.2.1 C0.2.2.2.2 iw_RX3 C0.2.2.2.1 I.1 I.2.1 11 rfl rfl 3 (by decide) (C0.2.2.2.2 _ wd_100) (fun _ h9 => h9) rfl hd k
theorem xc_2_12 (C0 : CallFix p m c cc nL s args big RX3) (hls : ls.size = nL) (I : xI g s S H locs) (hfr : 1 ≤ R.frames) (hlo : (rest.map fun v => v.category).sum + (nativeFrameWords "java/lang/System" "arraycopy" 5 + 11) ≤ R.locals) (hd : decode cc pc = .ok (.invokestatic 36, 3)) (k : ∀ (H1 : Heap) (locs1 : List Loc), xI g s (pC S 0 4) H1 locs1 → W p l e R s m args below meth c H1 locs1 cells slots Q (F0 m (pc + 3) ls rest)) : W p l e R s m args below meth c H locs cells slots Q (F0 m pc ls (.int 64 :: .int 0 :: .ref (g.2.2 2) :: .int 0 :: .ref (g.2.2 12) :: rest)) :=
  va_copyi (f := aR S 4) (g := aR S 0) (ty := .int) C0.1 C0.2.1 (C0.2.2.1.trans hls.symm) C0.2.2.2.1 (C0.2.2.2.2 _ wd_284) (C0.2.2.2.2 _ wd_286) (C0.2.2.2.2 _ wd_285) (C0.2.2.2.2 _ wd_74) I.1 I.2.1 I.2.2.1 I.2.2.2 12 2 0 0 rfl rfl rfl rfl rfl (by decide) (by decide) (by decide) (by decide) (by decide) (fun _ _ => rfl) hfr hlo hd (fun H1 locs1 hP hD hS => k H1 locs1 ⟨I.1, hP, hD, hS⟩)
theorem xg_X3_9_13 (C0 : CallFix p m c cc nL s args big RX3) (I : xI g s S H locs) (hd : decode cc pc = .ok (.getfield 9, 3)) (k : W p l e R s m args below meth c H locs cells slots Q (F0 m (pc + 3) ls (.int (gF S 20) :: rest))) : W p l e R s m args below meth c H locs cells slots Q (F0 m pc ls (.ref (g.2.2 13) :: rest)) :=
  va_get (D := g.1) (ci := 3) (v := .int (gF S 20)) (C := RX3) (T := TX3) (N := 5) C0.1 C0.2.1 C0.2.2.2.2 iw_RX3 C0.2.2.2.1 I.1 I.2.1 13 rfl rfl 0 (by decide) (C0.2.2.2.2 _ wd_91) (fun _ h9 => h9) rfl hd k
theorem xg_X3_15_13 (C0 : CallFix p m c cc nL s args big RX3) (I : xI g s S H locs) (hd : decode cc pc = .ok (.getfield 15, 3)) (k : W p l e R s m args below meth c H locs cells slots Q (F0 m (pc + 3) ls (.int (gF S 21) :: rest))) : W p l e R s m args below meth c H locs cells slots Q (F0 m pc ls (.ref (g.2.2 13) :: rest)) :=
  va_get (D := g.1) (ci := 3) (v := .int (gF S 21)) (C := RX3) (T := TX3) (N := 5) C0.1 C0.2.1 C0.2.2.2.2 iw_RX3 C0.2.2.2.1 I.1 I.2.1 13 rfl rfl 1 (by decide) (C0.2.2.2.2 _ wd_95) (fun _ h9 => h9) rfl hd k
theorem xg_X3_18_13 (C0 : CallFix p m c cc nL s args big RX3) (I : xI g s S H locs) (hd : decode cc pc = .ok (.getfield 18, 3)) (k : W p l e R s m args below meth c H locs cells slots Q (F0 m (pc + 3) ls (.int (gF S 22) :: rest))) : W p l e R s m args below meth c H locs cells slots Q (F0 m pc ls (.ref (g.2.2 13) :: rest)) :=
  va_get (D := g.1) (ci := 3) (v := .int (gF S 22)) (C := RX3) (T := TX3) (N := 5) C0.1 C0.2.1 C0.2.2.2.2 iw_RX3 C0.2.2.2.1 I.1 I.2.1 13 rfl rfl 2 (by decide) (C0.2.2.2.2 _ wd_98) (fun _ h9 => h9) rfl hd k
theorem xg_X3_21_13 (C0 : CallFix p m c cc nL s args big RX3) (I : xI g s S H locs) (hd : decode cc pc = .ok (.getfield 21, 3)) (k : W p l e R s m args below meth c H locs cells slots Q (F0 m (pc + 3) ls (.int (gF S 23) :: rest))) : W p l e R s m args below meth c H locs cells slots Q (F0 m pc ls (.ref (g.2.2 13) :: rest)) :=
  va_get (D := g.1) (ci := 3) (v := .int (gF S 23)) (C := RX3) (T := TX3) (N := 5) C0.1 C0.2.1 C0.2.2.2.2 iw_RX3 C0.2.2.2.1 I.1 I.2.1 13 rfl rfl 3 (by decide) (C0.2.2.2.2 _ wd_100) (fun _ h9 => h9) rfl hd k
theorem xc_2_14 (C0 : CallFix p m c cc nL s args big RX3) (hls : ls.size = nL) (I : xI g s S H locs) (hfr : 1 ≤ R.frames) (hlo : (rest.map fun v => v.category).sum + (nativeFrameWords "java/lang/System" "arraycopy" 5 + 11) ≤ R.locals) (hd : decode cc pc = .ok (.invokestatic 36, 3)) (k : ∀ (H1 : Heap) (locs1 : List Loc), xI g s (pC S 0 5) H1 locs1 → W p l e R s m args below meth c H1 locs1 cells slots Q (F0 m (pc + 3) ls rest)) : W p l e R s m args below meth c H locs cells slots Q (F0 m pc ls (.int 64 :: .int 0 :: .ref (g.2.2 2) :: .int 0 :: .ref (g.2.2 14) :: rest)) :=
  va_copyi (f := aR S 5) (g := aR S 0) (ty := .int) C0.1 C0.2.1 (C0.2.2.1.trans hls.symm) C0.2.2.2.1 (C0.2.2.2.2 _ wd_284) (C0.2.2.2.2 _ wd_286) (C0.2.2.2.2 _ wd_285) (C0.2.2.2.2 _ wd_74) I.1 I.2.1 I.2.2.1 I.2.2.2 14 2 0 0 rfl rfl rfl rfl rfl (by decide) (by decide) (by decide) (by decide) (by decide) (fun _ _ => rfl) hfr hlo hd (fun H1 locs1 hP hD hS => k H1 locs1 ⟨I.1, hP, hD, hS⟩)
theorem xg_X3_9_15 (C0 : CallFix p m c cc nL s args big RX3) (I : xI g s S H locs) (hd : decode cc pc = .ok (.getfield 9, 3)) (k : W p l e R s m args below meth c H locs cells slots Q (F0 m (pc + 3) ls (.int (gF S 24) :: rest))) : W p l e R s m args below meth c H locs cells slots Q (F0 m pc ls (.ref (g.2.2 15) :: rest)) :=
  va_get (D := g.1) (ci := 3) (v := .int (gF S 24)) (C := RX3) (T := TX3) (N := 5) C0.1 C0.2.1 C0.2.2.2.2 iw_RX3 C0.2.2.2.1 I.1 I.2.1 15 rfl rfl 0 (by decide) (C0.2.2.2.2 _ wd_91) (fun _ h9 => h9) rfl hd k
theorem xg_X3_15_15 (C0 : CallFix p m c cc nL s args big RX3) (I : xI g s S H locs) (hd : decode cc pc = .ok (.getfield 15, 3)) (k : W p l e R s m args below meth c H locs cells slots Q (F0 m (pc + 3) ls (.int (gF S 25) :: rest))) : W p l e R s m args below meth c H locs cells slots Q (F0 m pc ls (.ref (g.2.2 15) :: rest)) :=
  va_get (D := g.1) (ci := 3) (v := .int (gF S 25)) (C := RX3) (T := TX3) (N := 5) C0.1 C0.2.1 C0.2.2.2.2 iw_RX3 C0.2.2.2.1 I.1 I.2.1 15 rfl rfl 1 (by decide) (C0.2.2.2.2 _ wd_95) (fun _ h9 => h9) rfl hd k
theorem xg_X3_18_15 (C0 : CallFix p m c cc nL s args big RX3) (I : xI g s S H locs) (hd : decode cc pc = .ok (.getfield 18, 3)) (k : W p l e R s m args below meth c H locs cells slots Q (F0 m (pc + 3) ls (.int (gF S 26) :: rest))) : W p l e R s m args below meth c H locs cells slots Q (F0 m pc ls (.ref (g.2.2 15) :: rest)) :=
  va_get (D := g.1) (ci := 3) (v := .int (gF S 26)) (C := RX3) (T := TX3) (N := 5) C0.1 C0.2.1 C0.2.2.2.2 iw_RX3 C0.2.2.2.1 I.1 I.2.1 15 rfl rfl 2 (by decide) (C0.2.2.2.2 _ wd_98) (fun _ h9 => h9) rfl hd k
theorem xg_X3_21_15 (C0 : CallFix p m c cc nL s args big RX3) (I : xI g s S H locs) (hd : decode cc pc = .ok (.getfield 21, 3)) (k : W p l e R s m args below meth c H locs cells slots Q (F0 m (pc + 3) ls (.int (gF S 27) :: rest))) : W p l e R s m args below meth c H locs cells slots Q (F0 m pc ls (.ref (g.2.2 15) :: rest)) :=
  va_get (D := g.1) (ci := 3) (v := .int (gF S 27)) (C := RX3) (T := TX3) (N := 5) C0.1 C0.2.1 C0.2.2.2.2 iw_RX3 C0.2.2.2.1 I.1 I.2.1 15 rfl rfl 3 (by decide) (C0.2.2.2.2 _ wd_100) (fun _ h9 => h9) rfl hd k
theorem xc_2_16 (C0 : CallFix p m c cc nL s args big RX3) (hls : ls.size = nL) (I : xI g s S H locs) (hfr : 1 ≤ R.frames) (hlo : (rest.map fun v => v.category).sum + (nativeFrameWords "java/lang/System" "arraycopy" 5 + 11) ≤ R.locals) (hd : decode cc pc = .ok (.invokestatic 36, 3)) (k : ∀ (H1 : Heap) (locs1 : List Loc), xI g s (pC S 0 6) H1 locs1 → W p l e R s m args below meth c H1 locs1 cells slots Q (F0 m (pc + 3) ls rest)) : W p l e R s m args below meth c H locs cells slots Q (F0 m pc ls (.int 64 :: .int 0 :: .ref (g.2.2 2) :: .int 0 :: .ref (g.2.2 16) :: rest)) :=
  va_copyi (f := aR S 6) (g := aR S 0) (ty := .int) C0.1 C0.2.1 (C0.2.2.1.trans hls.symm) C0.2.2.2.1 (C0.2.2.2.2 _ wd_284) (C0.2.2.2.2 _ wd_286) (C0.2.2.2.2 _ wd_285) (C0.2.2.2.2 _ wd_74) I.1 I.2.1 I.2.2.1 I.2.2.2 16 2 0 0 rfl rfl rfl rfl rfl (by decide) (by decide) (by decide) (by decide) (by decide) (fun _ _ => rfl) hfr hlo hd (fun H1 locs1 hP hD hS => k H1 locs1 ⟨I.1, hP, hD, hS⟩)
end
end
section
def fX7_in (S : St) (x0 : Int32) (x1 : Int32) (x2 : Int32) : Option Int32 :=
  if x0 < x1 then some (0 : Int32) else if x2 < x0 then some (0 : Int32) else some (1 : Int32)
def bX7_leavesState_109 (x1 : Int32) (S : St) (x2 : Int32) : Option (Bool × St × Int32) :=
  if (16 : Int32) ≤ x2 then some (false, S, x2) else chk x2 16 (chk ((x1 + (4 : Int32)) + x2) 408 (chk x2 16 (chk ((x1 + (20 : Int32)) + x2) 408 (chk x2 16 (chk ((x1 + (36 : Int32)) + x2) 408 (chk x2 16 (chk ((x1 + (52 : Int32)) + x2) 408 (some (true, (pR (pR (pR (pR S 6 ((x1 + (4 : Int32)) + x2) (gR S 2 x2)) 6 ((x1 + (20 : Int32)) + x2) (gR S 3 x2)) 6 ((x1 + (36 : Int32)) + x2) (gR S 4 x2)) 6 ((x1 + (52 : Int32)) + x2) (gR S 5 x2)), (x2 + (1 : Int32)))))))))))
def fX7_leavesState_49 (S : St) : Option St :=
  chk ((68 : Int32) * (gF S 8)) 408 (chk (((68 : Int32) * (gF S 8)) + (1 : Int32)) 408 (chk (((68 : Int32) * (gF S 8)) + (2 : Int32)) 408 (chk (((68 : Int32) * (gF S 8)) + (3 : Int32)) 408 (bq2 (lp (fun q => bX7_leavesState_109 ((68 : Int32) * (gF S 8)) q.1 q.2) fu ((pR (pR (pR (pR S 6 ((68 : Int32) * (gF S 8)) (gF S 1)) 6 (((68 : Int32) * (gF S 8)) + (1 : Int32)) (gF S 2)) 6 (((68 : Int32) * (gF S 8)) + (2 : Int32)) (gR S 1 (0 : Int32))) 6 (((68 : Int32) * (gF S 8)) + (3 : Int32)) (gR S 1 (1 : Int32))), (0 : Int32))) (fun S15 y2_15 => some (pF S15 8 ((gF S15 8) + (1 : Int32))))))))
def bX7_leavesState_11 (S : St) (x1 : Int32) : Option (Bool × St × Int32) :=
  if (340 : Int32) ≤ x1 then some (false, S, x1) else chk (x1 + (68 : Int32)) 408 (chk x1 408 (some (true, (pR S 6 x1 (gR S 6 (x1 + (68 : Int32)))), (x1 + (1 : Int32)))))
def fX7_leavesState (S : St) : Option St :=
  if (gF S 8) = (6 : Int32) then bq2 (lp (fun q => bX7_leavesState_11 q.1 q.2) fu (S, (0 : Int32))) (fun S19 y1_19 => fX7_leavesState_49 (pF S19 8 ((gF S19 8) - (1 : Int32)))) else fX7_leavesState_49 S
def fX7_bad (S : St) : Option (Int32 × St) :=
  some ((-2 : Int32), (pR S 0 (0 : Int32) ((gR S 0 (0 : Int32)) + (1 : Int32))))
def fX7_sides (S : St) (x1 : Int32) : Option (Int32 × St) :=
  bq1 (fX7_in S x1 (1 : Int32) (4 : Int32)) (fun r1 => if r1 = (0 : Int32) then bq2 (fX7_bad S) (fun r4 S4 => some (r4, S4)) else bq1 (fX7_leavesState S) (fun S3 => some ((gF S3 1), (pF (pF S3 1 x1) 2 (0 : Int32)))))
def fX7_corners (S : St) : Option Int32 :=
  some ((1 : Int32) <<< ((gF S 1) &&& (31 : Int32)))
def fX7_isCorner (S : St) (x1 : Int32) : Option Int32 :=
  bq1 (fX7_corners S) (fun r1 => bq1 (fX7_in S x1 (0 : Int32) (r1 - (1 : Int32))) (fun r2 => zb r2 (some r2)))
def fX7_isRank (S : St) (x0 : Int32) : Option Int32 :=
  bq1 (fX7_in S x0 (0 : Int32) (99 : Int32)) (fun r1 => zb r1 (some r1))
def fX7_comes (S : St) (x1 : Int32) (x2 : Int32) (x3 : Int32) (x4 : Int32) : Option St :=
  chk (gF S 2) 16 (chk (gF S 2) 16 (chk (gF S 2) 16 (chk (gF S 2) 16 (some (pF (pR (pR (pR (pR S 2 (gF S 2) x1) 3 (gF S 2) x2) 4 (gF S 2) x3) 5 (gF S 2) x4) 2 ((gF S 2) + (1 : Int32)))))))
def fX7_full (S : St) : Option (Int32 × St) :=
  some ((-4 : Int32), (pR S 0 (2 : Int32) ((gR S 0 (2 : Int32)) + (1 : Int32))))
def fX7_parcel_32 (S : St) : Option (Int32 × St) :=
  bq2 (fX7_bad S) (fun r3 S3 => some (r3, S3))
def fX7_parcel (S : St) (x1 : Int32) (x2 : Int32) (x3 : Int32) (x4 : Int32) : Option (Int32 × St) :=
  bq1 (fX7_isCorner S x1) (fun r1 => if r1 = (0 : Int32) then fX7_parcel_32 S else bq1 (fX7_isCorner S x2) (fun r4 => if r4 = (0 : Int32) then fX7_parcel_32 S else bq1 (fX7_isCorner S x3) (fun r6 => if r6 = (0 : Int32) then fX7_parcel_32 S else bq1 (fX7_isRank S x4) (fun r8 => if r8 = (0 : Int32) then fX7_parcel_32 S else if (gF S 2) = (16 : Int32) then bq2 (fX7_full S) (fun r13 S13 => some (r13, S13)) else bq1 (fX7_leavesState S) (fun S11 => bq1 (fX7_comes S11 x1 x2 x3 x4) (fun S12 => some (((gF S12 2) - (1 : Int32)), S12)))))))
def fX7_isParcel (S : St) (x1 : Int32) : Option Int32 :=
  bq1 (fX7_in S x1 (0 : Int32) ((gF S 2) - (1 : Int32))) (fun r1 => zb r1 (some r1))
def fX7_tells (S : St) (x1 : Int32) (x2 : Int32) : Option Int32 :=
  if x2 = (0 : Int32) then chk x1 16 (some (gR S 2 x1)) else if x2 = (1 : Int32) then chk x1 16 (some (gR S 3 x1)) else if x2 = (2 : Int32) then chk x1 16 (some (gR S 4 x1)) else chk x1 16 (some (gR S 5 x1))
def fX7_sets_40 (S : St) : Option (Int32 × St) :=
  bq2 (fX7_bad S) (fun r3 S3 => some (r3, S3))
def fX7_sets_118 (S : St) (x1 : Int32) (x2 : Int32) (x3 : Int32) (x4 : Int32) (s0 : Int32) (s1 : Int32) : Option (Int32 × St) :=
  chk s1 16 (if x2 = (3 : Int32) then chk x1 16 (some (x4, (pR (pR S 4 s1 s0) 5 x1 x3))) else chk x1 16 (chk x1 16 (some (x4, (pR (pR S 4 s1 s0) 5 x1 (gR S 5 x1))))))
def fX7_sets_97 (S : St) (x1 : Int32) (x2 : Int32) (x3 : Int32) (x4 : Int32) (s0 : Int32) (s1 : Int32) : Option (Int32 × St) :=
  chk s1 16 (if x2 = (2 : Int32) then fX7_sets_118 (pR S 3 s1 s0) x1 x2 x3 x4 x3 x1 else chk x1 16 (fX7_sets_118 (pR S 3 s1 s0) x1 x2 x3 x4 (gR S 4 x1) x1))
def fX7_sets_76 (S : St) (x1 : Int32) (x2 : Int32) (x3 : Int32) (x4 : Int32) (s0 : Int32) (s1 : Int32) : Option (Int32 × St) :=
  chk s1 16 (if x2 = (1 : Int32) then fX7_sets_97 (pR S 2 s1 s0) x1 x2 x3 x4 x3 x1 else chk x1 16 (fX7_sets_97 (pR S 2 s1 s0) x1 x2 x3 x4 (gR S 3 x1) x1))
def fX7_sets_45 (S : St) (x1 : Int32) (x2 : Int32) (x3 : Int32) : Option (Int32 × St) :=
  bq1 (fX7_leavesState S) (fun S9 => bq1 (fX7_tells S9 x1 x2) (fun r10 => if x2 = (0 : Int32) then fX7_sets_76 S9 x1 x2 x3 r10 x3 x1 else chk x1 16 (fX7_sets_76 S9 x1 x2 x3 r10 (gR S9 2 x1) x1)))
def fX7_sets (S : St) (x1 : Int32) (x2 : Int32) (x3 : Int32) : Option (Int32 × St) :=
  bq1 (fX7_isParcel S x1) (fun r1 => if r1 = (0 : Int32) then fX7_sets_40 S else bq1 (fX7_in S x2 (0 : Int32) (3 : Int32)) (fun r4 => if r4 = (0 : Int32) then fX7_sets_40 S else if x2 = (3 : Int32) then bq1 (fX7_isRank S x3) (fun r24 => if r24 = (0 : Int32) then fX7_sets_40 S else fX7_sets_45 S x1 x2 x3) else bq1 (fX7_isCorner S x3) (fun r7 => if r7 = (0 : Int32) then fX7_sets_40 S else fX7_sets_45 S x1 x2 x3)))
def fX7_rules_26 (S : St) : Option (Int32 × St) :=
  bq2 (fX7_bad S) (fun r3 S3 => some (r3, S3))
def fX7_rules_20 (S : St) (x1 : Int32) (x2 : Int32) (s0 : Int32) (s1 : Int32) (s2 : Int32) : Option (Int32 × St) :=
  bq1 (fX7_in S s2 s1 s0) (fun r5 => if r5 = (0 : Int32) then fX7_rules_26 S else bq1 (fX7_leavesState S) (fun S7 => chk x1 2 (chk x1 2 (some ((gR S7 1 x1), (pR S7 1 x1 x2))))))
def fX7_rules (S : St) (x1 : Int32) (x2 : Int32) : Option (Int32 × St) :=
  bq1 (fX7_in S x1 (0 : Int32) (1 : Int32)) (fun r1 => if r1 = (0 : Int32) then fX7_rules_26 S else if x1 = (0 : Int32) then fX7_rules_20 S x1 x2 (1 : Int32) (0 : Int32) x2 else fX7_rules_20 S x1 x2 (3 : Int32) (0 : Int32) x2)
def fX7_empties (S : St) : Option (Int32 × St) :=
  bq1 (fX7_leavesState S) (fun S1 => some ((gF S1 2), (pF S1 2 (0 : Int32))))
def bX7_turned_4 (S : St) (x1 : Int32) (x2 : Int32) (x3 : Int32) : Option (Bool × Int32 × Int32) :=
  if (gF S 1) ≤ x3 then some (false, x2, x3) else some (true, (x2 ||| (((x1 >>> (x3 &&& (31 : Int32))) &&& (1 : Int32)) <<< ((((gF S 1) - (1 : Int32)) - x3) &&& (31 : Int32)))), (x3 + (1 : Int32)))
def fX7_turned (S : St) (x1 : Int32) : Option Int32 :=
  bq2 (lp (fun q => bX7_turned_4 S x1 q.1 q.2) fu ((0 : Int32), (0 : Int32))) (fun y2_2 y3_2 => some y2_2)
def fX7_fills_19 (S : St) : Option (Int32 × St) :=
  bq2 (fX7_bad S) (fun r3 S3 => some (r3, S3))
def fX7_fills_118 (S : St) (x3 : Int32) (x4 : Int64) (x6 : Int32) (s0 : Int32) : Option (Bool × St × Int64 × Int32) :=
  nzl (Int32.toInt64 x3) (bq1 (fX7_comes S x6 s0 (Int64.toInt32 ((x4 / (65536 : Int64)) - (x4 / (65536 : Int64)) / (Int32.toInt64 x3) * (Int32.toInt64 x3))) (Int64.toInt32 ((x4 / (1024 : Int64)) - (x4 / (1024 : Int64)) / (100 : Int64) * (100 : Int64)))) (fun S14 => some (true, S14, x4, (x6 + (1 : Int32)))))
def bX7_fills_45 (x1 : Int32) (x3 : Int32) (S : St) (x4 : Int64) (x6 : Int32) : Option (Bool × St × Int64 × Int32) :=
  if x3 ≤ x6 then some (false, S, x4, x6) else if x1 = (0 : Int32) then fX7_fills_118 S x3 (((x4 * (1103515245 : Int64)) + (12345 : Int64)) - ((x4 * (1103515245 : Int64)) + (12345 : Int64)) / (2147483648 : Int64) * (2147483648 : Int64)) x6 ((x3 - (1 : Int32)) - x6) else if x1 = (1 : Int32) then bq1 (fX7_turned S x6) (fun r16 => fX7_fills_118 S x3 (((x4 * (1103515245 : Int64)) + (12345 : Int64)) - ((x4 * (1103515245 : Int64)) + (12345 : Int64)) / (2147483648 : Int64) * (2147483648 : Int64)) x6 r16) else if x1 = (2 : Int32) then nz x3 (fX7_fills_118 S x3 (((x4 * (1103515245 : Int64)) + (12345 : Int64)) - ((x4 * (1103515245 : Int64)) + (12345 : Int64)) / (2147483648 : Int64) * (2147483648 : Int64)) x6 ((x6 + (1 : Int32)) - (x6 + (1 : Int32)) / x3 * x3)) else nzl (Int32.toInt64 x3) (fX7_fills_118 S x3 (((x4 * (1103515245 : Int64)) + (12345 : Int64)) - ((x4 * (1103515245 : Int64)) + (12345 : Int64)) / (2147483648 : Int64) * (2147483648 : Int64)) x6 (Int64.toInt32 (((((x4 * (1103515245 : Int64)) + (12345 : Int64)) - ((x4 * (1103515245 : Int64)) + (12345 : Int64)) / (2147483648 : Int64) * (2147483648 : Int64)) / (32768 : Int64)) - ((((x4 * (1103515245 : Int64)) + (12345 : Int64)) - ((x4 * (1103515245 : Int64)) + (12345 : Int64)) / (2147483648 : Int64) * (2147483648 : Int64)) / (32768 : Int64)) / (Int32.toInt64 x3) * (Int32.toInt64 x3))))
def fX7_fills (S : St) (x1 : Int32) (x2 : Int32) : Option (Int32 × St) :=
  bq1 (fX7_in S x1 (0 : Int32) (3 : Int32)) (fun r1 => if r1 = (0 : Int32) then fX7_fills_19 S else bq1 (fX7_in S x2 (0 : Int32) (999999 : Int32)) (fun r4 => if r4 = (0 : Int32) then fX7_fills_19 S else bq1 (fX7_leavesState S) (fun S6 => bq1 (fX7_corners S6) (fun r7 => bq3 (lp (fun q => bX7_fills_45 x1 r7 q.1 q.2.1 q.2.2) fu ((pF S6 2 (0 : Int32)), (Int32.toInt64 x2), (0 : Int32))) (fun S17 y4_17 y6_17 => some ((gF S17 2), S17))))))
def fX7_comesLeg_38 (S : St) (x1 : Int32) (x3 : Int32) (x4 : Int32) (x5 : Int32) (s0 : Int32) : Option (Bool × St × Int32 × Int32) :=
  if (((x4 ^^^ x3) >>> (s0 &&& (31 : Int32))) &&& (1 : Int32)) = (1 : Int32) then chk x1 16 (chk x1 16 (chk x1 16 (chk (((9 : Int32) * x1) + (gR (pR S 7 x1 ((gR S 7 x1) + (1 : Int32))) 7 x1)) 144 (some (true, (pR (pR S 7 x1 ((gR S 7 x1) + (1 : Int32))) 9 (((9 : Int32) * x1) + (gR (pR S 7 x1 ((gR S 7 x1) + (1 : Int32))) 7 x1)) (x4 ^^^ ((1 : Int32) <<< (s0 &&& (31 : Int32))))), (x4 ^^^ ((1 : Int32) <<< (s0 &&& (31 : Int32)))), (x5 + (1 : Int32))))))) else some (true, S, x4, (x5 + (1 : Int32)))
def bX7_comesLeg_6 (x1 : Int32) (x3 : Int32) (S : St) (x4 : Int32) (x5 : Int32) : Option (Bool × St × Int32 × Int32) :=
  if (gF S 1) ≤ x5 then some (false, S, x4, x5) else if (gR S 1 (0 : Int32)) = (0 : Int32) then fX7_comesLeg_38 S x1 x3 x4 x5 x5 else fX7_comesLeg_38 S x1 x3 x4 x5 (((gF S 1) - (1 : Int32)) - x5)
def fX7_comesLeg (S : St) (x1 : Int32) (x2 : Int32) (x3 : Int32) : Option St :=
  bq3 (lp (fun q => bX7_comesLeg_6 x1 x3 q.1 q.2.1 q.2.2) fu (S, x2, (0 : Int32))) (fun S8 y4_8 y5_8 => some S8)
def fX7_setWay (S : St) (x1 : Int32) (x2 : Int32) : Option St :=
  chk x1 16 (chk x1 16 (chk ((9 : Int32) * x1) 144 (chk x1 16 (bq1 (fX7_comesLeg (pR (pR S 7 x1 (0 : Int32)) 9 ((9 : Int32) * x1) (gR S 2 x1)) x1 (gR S 2 x1) x2) (fun S5 => chk x1 16 (chk x1 16 (chk x1 16 (bq1 (fX7_comesLeg (pR S5 8 x1 (gR S5 7 x1)) x1 x2 (gR S5 3 x1)) (fun S9 => some S9)))))))))
def bX7_setWays_2 (S : St) (x1 : Int32) : Option (Bool × St × Int32) :=
  if (gF S 2) ≤ x1 then some (false, S, x1) else chk x1 16 (bq1 (fX7_setWay S x1 (gR S 4 x1)) (fun S3 => some (true, S3, (x1 + (1 : Int32)))))
def fX7_setWays (S : St) : Option St :=
  bq2 (lp (fun q => bX7_setWays_2 q.1 q.2) fu (S, (0 : Int32))) (fun S4 y1_4 => some S4)
def fX7_edgeOf (S : St) (x1 : Int32) (x2 : Int32) : Option Int32 :=
  chk (((9 : Int32) * x1) + x2) 144 (chk ((((9 : Int32) * x1) + x2) + (1 : Int32)) 144 (if ((gR S 9 (((9 : Int32) * x1) + x2)) ^^^ (gR S 9 ((((9 : Int32) * x1) + x2) + (1 : Int32)))) = (1 : Int32) then some (((4 : Int32) * (gR S 9 (((9 : Int32) * x1) + x2))) + (0 : Int32)) else if ((gR S 9 (((9 : Int32) * x1) + x2)) ^^^ (gR S 9 ((((9 : Int32) * x1) + x2) + (1 : Int32)))) = (2 : Int32) then some (((4 : Int32) * (gR S 9 (((9 : Int32) * x1) + x2))) + (1 : Int32)) else if ((gR S 9 (((9 : Int32) * x1) + x2)) ^^^ (gR S 9 ((((9 : Int32) * x1) + x2) + (1 : Int32)))) = (4 : Int32) then some (((4 : Int32) * (gR S 9 (((9 : Int32) * x1) + x2))) + (2 : Int32)) else some (((4 : Int32) * (gR S 9 (((9 : Int32) * x1) + x2))) + (3 : Int32))))
def bX7_uses_5 (S : St) (x1 : Int32) (x2 : Int32) (x3 : Int32) (x4 : Int32) : Option (Bool × Int32 × Int32) :=
  chk x1 16 (if (gR S 7 x1) ≤ x4 then some (false, x3, x4) else if x3 = (0 : Int32) then bq1 (fX7_edgeOf S x1 x4) (fun r4 => if r4 = x2 then some (true, (1 : Int32), (x4 + (1 : Int32))) else some (true, (0 : Int32), (x4 + (1 : Int32)))) else some (true, (1 : Int32), (x4 + (1 : Int32))))
def fX7_uses (S : St) (x1 : Int32) (x2 : Int32) : Option Int32 :=
  bq2 (lp (fun q => bX7_uses_5 S x1 x2 q.1 q.2) fu ((0 : Int32), (0 : Int32))) (fun y3_6 y4_6 => zb y3_6 (some y3_6))
def bX7_metBy_18 (S : St) (x1 : Int32) (x3 : Int32) (x4 : Int32) (x5 : Int32) : Option (Bool × Int32 × Int32) :=
  chk x1 16 (if (gR S 7 x1) ≤ x5 then some (false, x4, x5) else if x4 = (0 : Int32) then bq1 (fX7_edgeOf S x1 x5) (fun r5 => bq1 (fX7_uses S x3 r5) (fun r6 => if r6 = (0 : Int32) then some (true, (0 : Int32), (x5 + (1 : Int32))) else some (true, (1 : Int32), (x5 + (1 : Int32))))) else some (true, (1 : Int32), (x5 + (1 : Int32))))
def bX7_metBy_4 (S : St) (x1 : Int32) (x2 : Int32) (x3 : Int32) : Option (Bool × Int32 × Int32) :=
  if (gF S 2) ≤ x3 then some (false, x2, x3) else bq2 (lp (fun q => bX7_metBy_18 S x1 x3 q.1 q.2) fu ((0 : Int32), (0 : Int32))) (fun y4_8 y5_8 => if y4_8 = (0 : Int32) then some (true, (x2 + (0 : Int32)), (x3 + (1 : Int32))) else if x3 = x1 then some (true, (x2 + (0 : Int32)), (x3 + (1 : Int32))) else some (true, (x2 + (1 : Int32)), (x3 + (1 : Int32))))
def fX7_metBy (S : St) (x1 : Int32) : Option Int32 :=
  bq2 (lp (fun q => bX7_metBy_4 S x1 q.1 q.2) fu ((0 : Int32), (0 : Int32))) (fun y2_11 y3_11 => some y2_11)
def fX7_ofBy (S : St) (x1 : Int32) (x2 : Int32) : Option (Int32 × St) :=
  if (4 : Int32) ≤ x2 then bq1 (fX7_setWays S) (fun S2 => if x2 = (4 : Int32) then chk x1 16 (some ((gR S2 7 x1), S2)) else bq1 (fX7_metBy S2 x1) (fun r4 => some (r4, S2))) else bq1 (fX7_tells S x1 x2) (fun r6 => some (r6, S))
def fX7_of_26 (S : St) : Option (Int32 × St) :=
  bq2 (fX7_bad S) (fun r3 S3 => some (r3, S3))
def fX7_of (S : St) (x1 : Int32) (x2 : Int32) : Option (Int32 × St) :=
  bq1 (fX7_isParcel S x1) (fun r1 => if r1 = (0 : Int32) then fX7_of_26 S else bq1 (fX7_in S x2 (0 : Int32) (5 : Int32)) (fun r4 => if r4 = (0 : Int32) then fX7_of_26 S else bq2 (fX7_ofBy S x1 x2) (fun r6 S6 => some (r6, S6))))
def fX7_step_12 (S : St) : Option (Int32 × St) :=
  bq2 (fX7_bad S) (fun r3 S3 => some (r3, S3))
def fX7_step (S : St) (x1 : Int32) (x2 : Int32) : Option (Int32 × St) :=
  bq1 (fX7_isParcel S x1) (fun r1 => if r1 = (0 : Int32) then fX7_step_12 S else if (0 : Int32) ≤ x2 then bq1 (fX7_setWays S) (fun S5 => chk x1 16 (if (gR S5 7 x1) < x2 then some ((-5 : Int32), S5) else chk (((9 : Int32) * x1) + x2) 144 (some ((gR S5 9 (((9 : Int32) * x1) + x2)), S5)))) else fX7_step_12 S)
def fX7_isEdge (S : St) (x1 : Int32) (x2 : Int32) : Option Int32 :=
  bq1 (fX7_isCorner S x1) (fun r1 => if r1 = (0 : Int32) then some (0 : Int32) else bq1 (fX7_in S x2 (0 : Int32) ((gF S 1) - (1 : Int32))) (fun r3 => if r3 = (0 : Int32) then some (0 : Int32) else some (1 : Int32)))
def bX7_noLoads_2 (S : St) (x1 : Int32) : Option (Bool × St × Int32) :=
  if (64 : Int32) ≤ x1 then some (false, S, x1) else chk x1 64 (some (true, (pR S 10 x1 (0 : Int32)), (x1 + (1 : Int32))))
def fX7_noLoads (S : St) : Option St :=
  bq2 (lp (fun q => bX7_noLoads_2 q.1 q.2) fu (S, (0 : Int32))) (fun S3 y1_3 => some S3)
def bX7_loadsBy_2 (x1 : Int32) (x2 : Int32) (S : St) (x3 : Int32) : Option (Bool × St × Int32) :=
  chk x1 16 (if (gR S 7 x1) ≤ x3 then some (false, S, x3) else bq1 (fX7_edgeOf S x1 x3) (fun r3 => chk r3 64 (chk r3 64 (some (true, (pR S 10 r3 ((gR S 10 r3) + x2)), (x3 + (1 : Int32)))))))
def fX7_loadsBy (S : St) (x1 : Int32) (x2 : Int32) : Option St :=
  bq2 (lp (fun q => bX7_loadsBy_2 x1 x2 q.1 q.2) fu (S, (0 : Int32))) (fun S6 y3_6 => some S6)
def bX7_setLoads_10 (S : St) (x1 : Int32) : Option (Bool × St × Int32) :=
  if (gF S 2) ≤ x1 then some (false, S, x1) else bq1 (fX7_loadsBy S x1 (1 : Int32)) (fun S4 => some (true, S4, (x1 + (1 : Int32))))
def fX7_setLoads (S : St) : Option St :=
  bq1 (fX7_setWays S) (fun S1 => bq1 (fX7_noLoads S1) (fun S2 => bq2 (lp (fun q => bX7_setLoads_10 q.1 q.2) fu (S2, (0 : Int32))) (fun S5 y1_5 => some S5)))
def fX7_load (S : St) (x1 : Int32) (x2 : Int32) : Option (Int32 × St) :=
  bq1 (fX7_isEdge S x1 x2) (fun r1 => if r1 = (0 : Int32) then bq2 (fX7_bad S) (fun r5 S5 => some (r5, S5)) else bq1 (fX7_setLoads S) (fun S3 => chk (((4 : Int32) * x1) + x2) 64 (some ((gR S3 10 (((4 : Int32) * x1) + x2)), S3))))
def bX7_most_4 (S : St) (x1 : Int32) (x2 : Int32) : Option (Bool × Int32 × Int32) :=
  if (64 : Int32) ≤ x2 then some (false, x1, x2) else chk x2 64 (if (gR S 10 x2) ≤ x1 then some (true, x1, (x2 + (1 : Int32))) else chk x2 64 (some (true, (gR S 10 x2), (x2 + (1 : Int32)))))
def fX7_most (S : St) : Option Int32 :=
  bq2 (lp (fun q => bX7_most_4 S q.1 q.2) fu ((0 : Int32), (0 : Int32))) (fun y1_5 y2_5 => some y1_5)
def bX7_firstOf_5 (S : St) (x1 : Int32) (x2 : Int32) (x3 : Int32) : Option (Bool × Int32 × Int32) :=
  if x3 < (0 : Int32) then some (false, x2, x3) else bq1 (fX7_isEdge S (x3 / (4 : Int32)) (x3 - x3 / (4 : Int32) * (4 : Int32))) (fun r2 => if r2 = (0 : Int32) then some (true, x2, (x3 + (-1 : Int32))) else chk x3 64 (if (gR S 10 x3) = x1 then some (true, x3, (x3 + (-1 : Int32))) else some (true, x2, (x3 + (-1 : Int32)))))
def fX7_firstOf (S : St) (x1 : Int32) : Option Int32 :=
  bq2 (lp (fun q => bX7_firstOf_5 S x1 q.1 q.2) fu ((-1 : Int32), (63 : Int32))) (fun y2_6 y3_6 => some y2_6)
def fX7_tenTimes (S : St) (x0 : Int32) : Option Int32 :=
  if x0 = (-1 : Int32) then some (-1 : Int32) else some (((10 : Int32) * (x0 / (4 : Int32))) + (x0 - x0 / (4 : Int32) * (4 : Int32)))
def fX7_loadsTell_56 (S : St) (x4 : Int32) (x5 : Int32) (s0 : Int32) (s1 : Int32) : Option (Bool × Int32 × Int32 × Int32) :=
  chk x5 64 (if (gR S 10 x5) ≤ (0 : Int32) then some (true, (s1 + s0), (x4 + (0 : Int32)), (x5 + (1 : Int32))) else some (true, (s1 + s0), (x4 + (1 : Int32)), (x5 + (1 : Int32))))
def fX7_loadsTell_55 (S : St) (x4 : Int32) (x5 : Int32) (s0 : Int32) : Option (Bool × Int32 × Int32 × Int32) :=
  fX7_loadsTell_56 S x4 x5 (0 : Int32) s0
def bX7_loadsTell_17 (S : St) (x2 : Int32) (x3 : Int32) (x4 : Int32) (x5 : Int32) : Option (Bool × Int32 × Int32 × Int32) :=
  if (64 : Int32) ≤ x5 then some (false, x3, x4, x5) else bq1 (fX7_isEdge S (x5 / (4 : Int32)) (x5 - x5 / (4 : Int32) * (4 : Int32))) (fun r4 => if r4 = (0 : Int32) then fX7_loadsTell_55 S x4 x5 x3 else chk x5 64 (if (gR S 10 x5) = x2 then fX7_loadsTell_56 S x4 x5 (1 : Int32) x3 else fX7_loadsTell_55 S x4 x5 x3))
def fX7_loadsTell (S : St) (x1 : Int32) : Option (Int32 × St) :=
  bq1 (fX7_setLoads S) (fun S1 => bq1 (fX7_most S1) (fun r2 => bq3 (lp (fun q => bX7_loadsTell_17 S1 r2 q.1 q.2.1 q.2.2) fu ((0 : Int32), (0 : Int32), (0 : Int32))) (fun y3_10 y4_10 y5_10 => if x1 = (0 : Int32) then some (r2, S1) else if x1 = (1 : Int32) then some (y3_10, S1) else if x1 = (2 : Int32) then some (y4_10, S1) else if r2 = (0 : Int32) then some ((-1 : Int32), S1) else bq1 (fX7_firstOf S1 r2) (fun r15 => bq1 (fX7_tenTimes S1 r15) (fun r16 => some (r16, S1))))))
def fX7_loads (S : St) (x1 : Int32) : Option (Int32 × St) :=
  bq1 (fX7_in S x1 (0 : Int32) (3 : Int32)) (fun r1 => if r1 = (0 : Int32) then bq2 (fX7_bad S) (fun r3 S3 => some (r3, S3)) else bq2 (fX7_loadsTell S x1) (fun r4 S4 => some (r4, S4)))
def bX7_addsDrawn_2 (x1 : Int32) (S : St) (x2 : Int32) : Option (Bool × St × Int32) :=
  bq1 (fX7_corners S) (fun r1 => if r1 ≤ x2 then some (false, S, x2) else bq1 (fX7_setWay S x1 x2) (fun S3 => bq1 (fX7_loadsBy S3 x1 (1 : Int32)) (fun S4 => some (true, S4, (x2 + (1 : Int32))))))
def fX7_addsDrawn (S : St) (x1 : Int32) : Option St :=
  bq2 (lp (fun q => bX7_addsDrawn_2 x1 q.1 q.2) fu (S, (0 : Int32))) (fun S5 y2_5 => chk x1 16 (bq1 (fX7_setWay S5 x1 (gR S5 4 x1)) (fun S7 => some S7)))
def bX7_setExpected_10 (x1 : Int32) (S : St) (x2 : Int32) : Option (Bool × St × Int32) :=
  if (gF S 2) ≤ x2 then some (false, S, x2) else if x1 ≤ x2 then bq1 (fX7_addsDrawn S x2) (fun S5 => some (true, S5, (x2 + (1 : Int32)))) else bq1 (fX7_corners S) (fun r6 => bq1 (fX7_loadsBy S x2 r6) (fun S7 => some (true, S7, (x2 + (1 : Int32)))))
def fX7_setExpected (S : St) (x1 : Int32) : Option St :=
  bq1 (fX7_setWays S) (fun S1 => bq1 (fX7_noLoads S1) (fun S2 => bq2 (lp (fun q => bX7_setExpected_10 x1 q.1 q.2) fu (S2, (0 : Int32))) (fun S8 y2_8 => some S8)))
def bX7_tellsPart_7 (x2 : Int32) (x3 : Int32) : Option (Bool × Int32 × Int32) :=
  if x3 = (0 : Int32) then some (false, x2, x3) else nz x3 (some (true, x3, (x2 - x2 / x3 * x3)))
def fX7_tellsPart (S : St) (x1 : Int32) : Option St :=
  bq1 (fX7_corners S) (fun r1 => bq2 (lp (fun q => bX7_tellsPart_7 q.1 q.2) fu (x1, r1)) (fun y2_4 y3_4 => nz y2_4 (bq1 (fX7_corners (pF S 14 (x1 / y2_4))) (fun r6 => nz y2_4 (some (pF (pF S 14 (x1 / y2_4)) 15 (r6 / y2_4)))))))
def fX7_expected_19 (S : St) : Option (Int32 × St) :=
  bq2 (fX7_bad S) (fun r3 S3 => some (r3, S3))
def fX7_expected (S : St) (x1 : Int32) (x2 : Int32) (x3 : Int32) : Option (Int32 × St) :=
  bq1 (fX7_isEdge S x1 x2) (fun r1 => if r1 = (0 : Int32) then fX7_expected_19 S else bq1 (fX7_in S x3 (0 : Int32) (16 : Int32)) (fun r4 => if r4 = (0 : Int32) then fX7_expected_19 S else bq1 (fX7_setExpected S x3) (fun S6 => chk (((4 : Int32) * x1) + x2) 64 (bq1 (fX7_tellsPart S6 (gR S6 10 (((4 : Int32) * x1) + x2))) (fun S8 => some ((1 : Int32), S8))))))
def fX7_part (S : St) (x1 : Int32) : Option (Int32 × St) :=
  bq1 (fX7_in S x1 (0 : Int32) (1 : Int32)) (fun r1 => if r1 = (0 : Int32) then bq2 (fX7_bad S) (fun r4 S4 => some (r4, S4)) else if x1 = (0 : Int32) then some ((gF S 14), S) else some ((gF S 15), S))
def fX7_no (S : St) : Option (Int32 × St) :=
  some ((-3 : Int32), (pR S 0 (1 : Int32) ((gR S 0 (1 : Int32)) + (1 : Int32))))
def fX7_greatest (S : St) : Option (Int32 × St) :=
  if (gF S 2) = (0 : Int32) then bq2 (fX7_no S) (fun r7 S7 => some (r7, S7)) else bq1 (fX7_setExpected S (0 : Int32)) (fun S2 => bq1 (fX7_most S2) (fun r3 => bq1 (fX7_tellsPart S2 r3) (fun S4 => bq1 (fX7_firstOf S4 r3) (fun r5 => bq1 (fX7_tenTimes S4 r5) (fun r6 => some (r6, S4))))))
def bX7_squares_4 (S : St) (x1 : Int64) (x3 : Int32) : Option (Bool × Int64 × Int32) :=
  if (64 : Int32) ≤ x3 then some (false, x1, x3) else chk x3 64 (chk x3 64 (some (true, (x1 + ((Int32.toInt64 (gR S 10 x3)) * (Int32.toInt64 (gR S 10 x3)))), (x3 + (1 : Int32)))))
def fX7_squares (S : St) : Option Int64 :=
  bq2 (lp (fun q => bX7_squares_4 S q.1 q.2) fu ((0 : Int64), (0 : Int32))) (fun y1_4 y3_4 => some y1_4)
def fX7_choosesFor_71 (S : St) (x6 : Int32) (x7 : Int32) (x8 : Int64) : Option (Bool × St × Int32 × Int32 × Int64 × Int32) :=
  some (true, S, x6, x7, x8, (x6 + (1 : Int32)))
def bX7_choosesFor_10 (x1 : Int32) (S : St) (x2 : Int32) (x3 : Int32) (x4 : Int64) (x6 : Int32) : Option (Bool × St × Int32 × Int32 × Int64 × Int32) :=
  bq1 (fX7_corners S) (fun r1 => if r1 ≤ x6 then some (false, S, x2, x3, x4, x6) else chk x1 16 (bq1 (fX7_setExpected (pR S 4 x1 x6) (x1 + (1 : Int32))) (fun S4 => bq1 (fX7_most S4) (fun r5 => bq1 (fX7_squares S4) (fun r6 => if x6 = (0 : Int32) then fX7_choosesFor_71 S4 x6 r5 r6 else if r5 < x3 then fX7_choosesFor_71 S4 x6 r5 r6 else if r5 = x3 then if (0 : Int32) ≤ (lg_cmp r6 x4) then some (true, S4, x2, x3, x4, (x6 + (1 : Int32))) else fX7_choosesFor_71 S4 x6 r5 r6 else some (true, S4, x2, x3, x4, (x6 + (1 : Int32))))))))
def fX7_choosesFor (S : St) (x1 : Int32) : Option St :=
  bq5 (lp (fun q => bX7_choosesFor_10 x1 q.1 q.2.1 q.2.2.1 q.2.2.2.1 q.2.2.2.2) fu (S, (0 : Int32), (0 : Int32), (0 : Int64), (0 : Int32))) (fun S11 y2_11 y3_11 y4_11 y6_11 => chk x1 16 (some (pR S11 4 x1 y2_11)))
def bX7_chooses_18 (S : St) (x1 : Int32) : Option (Bool × St × Int32) :=
  if (gF S 2) ≤ x1 then some (false, S, x1) else bq1 (fX7_choosesFor S x1) (fun S4 => some (true, S4, (x1 + (1 : Int32))))
def fX7_chooses (S : St) : Option (Int32 × St) :=
  if (gF S 2) = (0 : Int32) then bq2 (fX7_no S) (fun r8 S8 => some (r8, S8)) else bq1 (fX7_leavesState S) (fun S2 => bq2 (lp (fun q => bX7_chooses_18 q.1 q.2) fu (S2, (0 : Int32))) (fun S5 y1_5 => bq1 (fX7_setLoads S5) (fun S6 => bq1 (fX7_most S6) (fun r7 => some (r7, S6)))))
def fX7_isHome (S : St) (x1 : Int32) : Option Int32 :=
  chk x1 16 (chk x1 16 (if (gR S 11 x1) = (gR S 7 x1) then some (1 : Int32) else some (0 : Int32)))
def bX7_allHome_4 (S : St) (x1 : Int32) (x2 : Int32) : Option (Bool × Int32 × Int32) :=
  if (gF S 2) ≤ x2 then some (false, x1, x2) else if x1 = (0 : Int32) then some (true, (0 : Int32), (x2 + (1 : Int32))) else bq1 (fX7_isHome S x2) (fun r3 => if r3 = (0 : Int32) then some (true, (0 : Int32), (x2 + (1 : Int32))) else some (true, (1 : Int32), (x2 + (1 : Int32))))
def fX7_allHome (S : St) : Option Int32 :=
  bq2 (lp (fun q => bX7_allHome_4 S q.1 q.2) fu ((1 : Int32), (0 : Int32))) (fun y1_5 y2_5 => zb y1_5 (some y1_5))
def fX7_isAhead_133 (x1 : Int32) (x2 : Int32) (s0 : Int32) : Option Int32 :=
  if s0 = (0 : Int32) then if x2 ≤ x1 then some (0 : Int32) else some (1 : Int32) else if s0 ≤ (0 : Int32) then some (0 : Int32) else some (1 : Int32)
def fX7_isAhead_110 (S : St) (x1 : Int32) (x2 : Int32) (x4 : Int32) : Option Int32 :=
  if x4 = (0 : Int32) then chk x1 16 (chk x2 16 (fX7_isAhead_133 x1 x2 ((gR S 5 x1) - (gR S 5 x2)))) else fX7_isAhead_133 x1 x2 x4
def fX7_isAhead_107 (S : St) (x1 : Int32) (x2 : Int32) (s0 : Int32) (s1 : Int32) : Option Int32 :=
  fX7_isAhead_110 S x1 x2 (s1 - s0)
def fX7_isAhead_87 (S : St) (x1 : Int32) (x2 : Int32) (s0 : Int32) : Option Int32 :=
  chk x2 16 (chk x2 16 (if (gR S 11 x2) < (gR S 8 x2) then fX7_isAhead_107 S x1 x2 (0 : Int32) s0 else fX7_isAhead_107 S x1 x2 (1 : Int32) s0))
def fX7_isAhead (S : St) (x1 : Int32) (x2 : Int32) (x3 : Int32) : Option Int32 :=
  if x3 = (0 : Int32) then chk x2 16 (chk x1 16 (fX7_isAhead_110 S x1 x2 ((gR S 12 x2) - (gR S 12 x1)))) else if x3 = (2 : Int32) then chk x1 16 (chk x1 16 (chk x2 16 (chk x2 16 (fX7_isAhead_110 S x1 x2 ((((gR S 7 x1) - (gR S 11 x1)) - (gR S 7 x2)) + (gR S 11 x2)))))) else if x3 = (3 : Int32) then chk x1 16 (chk x1 16 (if (gR S 11 x1) < (gR S 8 x1) then fX7_isAhead_87 S x1 x2 (0 : Int32) else fX7_isAhead_87 S x1 x2 (1 : Int32))) else fX7_isAhead_110 S x1 x2 (0 : Int32)
def bX7_setGoing_46 (S : St) (x1 : Int32) (x2 : Int32) (x3 : Int32) (x4 : Int32) (x5 : Int32) (x6 : Int32) : Option (Bool × Int32 × Int32 × Int32) :=
  if (gF S 2) ≤ x6 then some (false, x4, x5, x6) else bq1 (fX7_isHome S x6) (fun r8 => if r8 = (0 : Int32) then chk x6 16 (bq1 (fX7_edgeOf S x6 (gR S 11 x6)) (fun r11 => if r11 = x3 then if x4 = (0 : Int32) then some (true, (0 : Int32), (x5 + (1 : Int32)), (x6 + (1 : Int32))) else if x6 = x2 then some (true, (1 : Int32), (x5 + (1 : Int32)), (x6 + (1 : Int32))) else bq1 (fX7_isAhead S x2 x6 x1) (fun r15 => if r15 = (0 : Int32) then some (true, (0 : Int32), (x5 + (1 : Int32)), (x6 + (1 : Int32))) else some (true, (1 : Int32), (x5 + (1 : Int32)), (x6 + (1 : Int32)))) else some (true, x4, x5, (x6 + (1 : Int32))))) else some (true, x4, x5, (x6 + (1 : Int32))))
def fX7_setGoing_134 (S : St) (x2 : Int32) (x5 : Int32) (s0 : Int32) (s1 : Int32) : Option (Bool × St × Int32) :=
  chk s1 16 (if x5 ≤ (gF S 21) then some (true, (pF (pR S 15 s1 s0) 21 (gF S 21)), (x2 + (1 : Int32))) else some (true, (pF (pR S 15 s1 s0) 21 x5), (x2 + (1 : Int32))))
def bX7_setGoing_2 (x1 : Int32) (S : St) (x2 : Int32) : Option (Bool × St × Int32) :=
  if (gF S 2) ≤ x2 then some (false, S, x2) else chk x2 16 (bq1 (fX7_isHome (pR S 15 x2 (0 : Int32)) x2) (fun r3 => if r3 = (0 : Int32) then chk x2 16 (bq1 (fX7_edgeOf (pR S 15 x2 (0 : Int32)) x2 (gR S 11 x2)) (fun r6 => bq3 (lp (fun q => bX7_setGoing_46 (pR S 15 x2 (0 : Int32)) x1 x2 r6 q.1 q.2.1 q.2.2) fu ((1 : Int32), (0 : Int32), (0 : Int32))) (fun y4_17 y5_17 y6_17 => if y4_17 = (0 : Int32) then fX7_setGoing_134 (pR S 15 x2 (0 : Int32)) x2 y5_17 (0 : Int32) x2 else fX7_setGoing_134 (pR S 15 x2 (0 : Int32)) x2 y5_17 (1 : Int32) x2))) else some (true, (pR S 15 x2 (0 : Int32)), (x2 + (1 : Int32)))))
def fX7_setGoing (S : St) (x1 : Int32) : Option St :=
  bq2 (lp (fun q => bX7_setGoing_2 x1 q.1 q.2) fu (S, (0 : Int32))) (fun S21 y2_21 => some S21)
def bX7_goesTick_17 (S : St) (x2 : Int32) : Option (Bool × St × Int32) :=
  if (gF S 2) ≤ x2 then some (false, S, x2) else bq1 (fX7_isHome S x2) (fun r3 => if r3 = (0 : Int32) then chk x2 16 (if (gR S 15 x2) = (1 : Int32) then chk x2 16 (chk x2 16 (chk x2 16 (chk x2 16 (some (true, (pR (pR (pR S 11 x2 ((gR S 11 x2) + (1 : Int32))) 12 x2 (gF S 20)) 13 x2 (gF S 20)), (x2 + (1 : Int32))))))) else chk x2 16 (chk x2 16 (some (true, (pR S 14 x2 ((gR S 14 x2) + (1 : Int32))), (x2 + (1 : Int32)))))) else some (true, S, (x2 + (1 : Int32))))
def fX7_goesTick (S : St) (x1 : Int32) : Option St :=
  bq1 (fX7_setGoing (pF S 20 ((gF S 20) + (1 : Int32))) x1) (fun S1 => bq2 (lp (fun q => bX7_goesTick_17 q.1 q.2) fu (S1, (0 : Int32))) (fun S13 y2_13 => some S13))
def bX7_runs_16 (S : St) (x3 : Int32) : Option (Bool × St × Int32) :=
  if (gF S 2) ≤ x3 then some (false, S, x3) else chk x3 16 (chk x3 16 (chk x3 16 (chk x3 16 (some (true, (pR (pR (pR (pR S 11 x3 (0 : Int32)) 12 x3 (0 : Int32)) 13 x3 (0 : Int32)) 14 x3 (0 : Int32)), (x3 + (1 : Int32)))))))
def bX7_runs_58 (x1 : Int32) (x2 : Int32) (S : St) : Option (Bool × St) :=
  if x2 ≤ (gF S 20) then some (false, S) else bq1 (fX7_allHome S) (fun r9 => if r9 = (0 : Int32) then bq1 (fX7_goesTick S x1) (fun S11 => some (true, S11)) else some (false, S))
def fX7_runs (S : St) (x1 : Int32) (x2 : Int32) : Option St :=
  bq1 (fX7_setWays S) (fun S1 => bq2 (lp (fun q => bX7_runs_16 q.1 q.2) fu ((pF (pF S1 20 (0 : Int32)) 21 (0 : Int32)), (0 : Int32))) (fun S7 y3_7 => bq1 (lp (fun q => bX7_runs_58 x1 x2 q) fu S7) (fun S12 => some S12)))
def fX7_runTells_71 (S : St) (x2 : Int32) (x3 : Int32) (x5 : Int32) (s0 : Int32) : Option (Bool × Int32 × Int32 × Int32 × Int32) :=
  chk x5 16 (if (gR S 14 x5) ≤ x3 then some (true, x2, x3, s0, (x5 + (1 : Int32))) else chk x5 16 (some (true, x2, (gR S 14 x5), s0, (x5 + (1 : Int32)))))
def bX7_runTells_34 (S : St) (x2 : Int32) (x3 : Int32) (x4 : Int32) (x5 : Int32) : Option (Bool × Int32 × Int32 × Int32 × Int32) :=
  if (gF S 2) ≤ x5 then some (false, x2, x3, x4, x5) else chk x5 16 (chk x5 16 (if (gR S 14 x5) ≤ x3 then fX7_runTells_71 S (x2 + (gR S 14 x5)) x3 x5 x4 else fX7_runTells_71 S (x2 + (gR S 14 x5)) x3 x5 x5))
def fX7_runTells_29 (S : St) (x1 : Int32) (x2 : Int32) (x3 : Int32) (s0 : Int32) : Option (Int32 × St) :=
  bq4 (lp (fun q => bX7_runTells_34 S q.1 q.2.1 q.2.2.1 q.2.2.2) fu (x2, x3, s0, (0 : Int32))) (fun y2_10 y3_10 y4_10 y5_10 => if x1 = (0 : Int32) then some ((gF S 20), S) else if x1 = (1 : Int32) then some (y2_10, S) else if x1 = (2 : Int32) then some (y3_10, S) else if x1 = (3 : Int32) then some (y4_10, S) else some ((gF S 21), S))
def fX7_runTells (S : St) (x1 : Int32) : Option (Int32 × St) :=
  bq1 (fX7_runs S (gR S 1 (1 : Int32)) (9999 : Int32)) (fun S1 => if (gF S1 2) = (0 : Int32) then fX7_runTells_29 S1 x1 (0 : Int32) (0 : Int32) (-1 : Int32) else fX7_runTells_29 S1 x1 (0 : Int32) (0 : Int32) (0 : Int32))
def fX7_run (S : St) (x1 : Int32) : Option (Int32 × St) :=
  bq1 (fX7_in S x1 (0 : Int32) (4 : Int32)) (fun r1 => if r1 = (0 : Int32) then bq2 (fX7_bad S) (fun r3 S3 => some (r3, S3)) else bq2 (fX7_runTells S x1) (fun r4 S4 => some (r4, S4)))
def fX7_ran_33 (S : St) : Option (Int32 × St) :=
  bq2 (fX7_bad S) (fun r3 S3 => some (r3, S3))
def fX7_ran_57 (S : St) (x1 : Int32) (x2 : Int32) (s0 : Int32) (s1 : Int32) : Option (Int32 × St) :=
  bq1 (fX7_runs S s1 s0) (fun S8 => if x2 = (0 : Int32) then chk x1 16 (some ((gR S8 13 x1), S8)) else if x2 = (1 : Int32) then chk x1 16 (some ((gR S8 14 x1), S8)) else chk x1 16 (chk (((9 : Int32) * x1) + (gR S8 11 x1)) 144 (some ((gR S8 9 (((9 : Int32) * x1) + (gR S8 11 x1))), S8))))
def fX7_ran_38 (S : St) (x1 : Int32) (x2 : Int32) (x3 : Int32) : Option (Int32 × St) :=
  if x2 = (2 : Int32) then fX7_ran_57 S x1 x2 x3 (gR S 1 (1 : Int32)) else fX7_ran_57 S x1 x2 (9999 : Int32) (gR S 1 (1 : Int32))
def fX7_ran (S : St) (x1 : Int32) (x2 : Int32) (x3 : Int32) : Option (Int32 × St) :=
  bq1 (fX7_isParcel S x1) (fun r1 => if r1 = (0 : Int32) then fX7_ran_33 S else bq1 (fX7_in S x2 (0 : Int32) (2 : Int32)) (fun r4 => if r4 = (0 : Int32) then fX7_ran_33 S else if x2 = (2 : Int32) then bq1 (fX7_in S x3 (0 : Int32) (400 : Int32)) (fun r15 => if r15 = (0 : Int32) then fX7_ran_33 S else fX7_ran_38 S x1 x2 x3) else fX7_ran_38 S x1 x2 x3))
def fX7_best_55 (S : St) (x3 : Int32) (x4 : Int32) (s0 : Int32) : Option (Bool × St × Int32 × Int32 × Int32) :=
  if x4 = (0 : Int32) then some (true, S, s0, (gF S 20), (x4 + (1 : Int32))) else if x3 ≤ (gF S 20) then some (true, S, s0, x3, (x4 + (1 : Int32))) else some (true, S, s0, (gF S 20), (x4 + (1 : Int32)))
def fX7_best_49 (S : St) (x3 : Int32) (x4 : Int32) : Option (Bool × St × Int32 × Int32 × Int32) :=
  fX7_best_55 S x3 x4 x4
def bX7_best_21 (S : St) (x2 : Int32) (x3 : Int32) (x4 : Int32) : Option (Bool × St × Int32 × Int32 × Int32) :=
  if (4 : Int32) ≤ x4 then some (false, S, x2, x3, x4) else bq1 (fX7_runs S x4 (9999 : Int32)) (fun S4 => if x4 = (0 : Int32) then fX7_best_49 S4 x3 x4 else if x3 ≤ (gF S4 20) then fX7_best_55 S4 x3 x4 x2 else fX7_best_49 S4 x3 x4)
def fX7_best (S : St) (x1 : Int32) : Option (Int32 × St) :=
  bq1 (fX7_in S x1 (0 : Int32) (1 : Int32)) (fun r1 => if r1 = (0 : Int32) then bq2 (fX7_bad S) (fun r11 S11 => some (r11, S11)) else bq4 (lp (fun q => bX7_best_21 q.1 q.2.1 q.2.2.1 q.2.2.2) fu (S, (0 : Int32), (0 : Int32), (0 : Int32))) (fun S9 y2_9 y3_9 y4_9 => if x1 = (0 : Int32) then some (y2_9, S9) else some (y3_9, S9)))
def bX7_straight_6 (S : St) (x1 : Int32) : Option (Bool × St × Int32) :=
  if (gF S 2) ≤ x1 then some (false, S, x1) else chk x1 16 (bq1 (fX7_setWay S x1 (gR S 2 x1)) (fun S4 => bq1 (fX7_loadsBy S4 x1 (1 : Int32)) (fun S5 => some (true, S5, (x1 + (1 : Int32))))))
def fX7_straight (S : St) : Option (Int32 × St) :=
  bq1 (fX7_noLoads S) (fun S1 => bq2 (lp (fun q => bX7_straight_6 q.1 q.2) fu (S1, (0 : Int32))) (fun S6 y1_6 => bq1 (fX7_most S6) (fun r7 => some (r7, S6))))
def fX7_type (S : St) (x1 : Int32) : Option (Int32 × St) :=
  bq1 (fX7_in S x1 (0 : Int32) (127 : Int32)) (fun r1 => if r1 = (0 : Int32) then bq2 (fX7_bad S) (fun r6 S6 => some (r6, S6)) else if (gF S 24) = (120 : Int32) then bq2 (fX7_full S) (fun r5 S5 => some (r5, S5)) else chk (gF S 24) 120 (some (((gF S 24) + (1 : Int32)), (pF (pR S 16 (gF S 24) x1) 24 ((gF S 24) + (1 : Int32))))))
def fX7_clear (S : St) : Option (Int32 × St) :=
  some ((gF S 24), (pF S 24 (0 : Int32)))
def fX7_here (S : St) : Option Int32 :=
  if (gF S 24) ≤ (gF S 25) then some (-1 : Int32) else chk (gF S 25) 120 (some (gR S 16 (gF S 25)))
def bX7_skips_0 (S : St) : Option (Bool × St) :=
  bq1 (fX7_here S) (fun r1 => if r1 = (32 : Int32) then some (true, (pF S 25 ((gF S 25) + (1 : Int32)))) else some (false, S))
def fX7_skips (S : St) : Option St :=
  bq1 (lp (fun q => bX7_skips_0 q) fu S) (fun S3 => some (pF S3 26 (gF S3 25)))
def fX7_number_43 (S : St) (x2 : Int32) (s0 : Int32) : Option (Bool × St × Int32 × Int32) :=
  some (true, (pF S 25 ((gF S 25) + (1 : Int32))), (x2 + (1 : Int32)), s0)
def bX7_number_8 (S : St) (x2 : Int32) (x3 : Int32) : Option (Bool × St × Int32 × Int32) :=
  bq1 (fX7_here S) (fun r2 => bq1 (fX7_in S r2 (48 : Int32) (57 : Int32)) (fun r3 => if r3 = (0 : Int32) then some (false, S, x2, x3) else if (2 : Int32) ≤ x2 then fX7_number_43 S x2 x3 else bq1 (fX7_here S) (fun r6 => fX7_number_43 S x2 ((((10 : Int32) * x3) + r6) - (48 : Int32)))))
def fX7_number (S : St) (x1 : Int32) : Option (Int32 × St) :=
  bq1 (fX7_skips S) (fun S1 => bq3 (lp (fun q => bX7_number_8 q.1 q.2.1 q.2.2) fu (S1, (0 : Int32), (0 : Int32))) (fun S7 y2_7 y3_7 => bq1 (fX7_in (pF S7 27 y3_7) y2_7 (1 : Int32) (2 : Int32)) (fun r8 => if r8 = (0 : Int32) then some ((0 : Int32), (pF S7 27 y3_7)) else if x1 < y3_7 then some ((0 : Int32), (pF S7 27 y3_7)) else some ((1 : Int32), (pF S7 27 y3_7)))))
def fX7_sign (S : St) (x1 : Int32) : Option (Int32 × St) :=
  bq1 (fX7_skips S) (fun S1 => bq1 (fX7_here S1) (fun r2 => if r2 = x1 then some ((1 : Int32), (pF S1 25 ((gF S1 25) + (1 : Int32)))) else some ((0 : Int32), S1)))
def fX7_readsParcel_124 (S : St) (x1 : Int32) (x2 : Int32) (x3 : Int32) (x4 : Int32) (x5 : Int32) : Option (Int32 × St) :=
  bq2 (fX7_sign S (59 : Int32)) (fun r15 S15 => if r15 = (0 : Int32) then some ((0 : Int32), S15) else if x1 = (0 : Int32) then some ((1 : Int32), (pF S15 28 ((gF S15 28) + (1 : Int32)))) else bq1 (fX7_comes (pF S15 28 ((gF S15 28) + (1 : Int32))) x2 x3 x4 x5) (fun S18 => some ((1 : Int32), S18)))
def fX7_readsParcel_98 (S : St) (x1 : Int32) (x2 : Int32) (x3 : Int32) (x4 : Int32) (x5 : Int32) : Option (Int32 × St) :=
  bq2 (fX7_sign S (42 : Int32)) (fun r13 S13 => if r13 = (0 : Int32) then fX7_readsParcel_124 S13 x1 x2 x3 x4 x5 else bq2 (fX7_number S13 (99 : Int32)) (fun r19 S19 => if r19 = (0 : Int32) then some ((0 : Int32), S19) else fX7_readsParcel_124 S19 x1 x2 x3 x4 (gF S19 27)))
def fX7_readsParcel (S : St) (x1 : Int32) : Option (Int32 × St) :=
  bq1 (fX7_skips S) (fun S1 => if (gF S1 28) = (16 : Int32) then some ((0 : Int32), S1) else bq1 (fX7_corners S1) (fun r3 => bq2 (fX7_number S1 (r3 - (1 : Int32))) (fun r4 S4 => if r4 = (0 : Int32) then some ((0 : Int32), S4) else bq2 (fX7_sign S4 (62 : Int32)) (fun r6 S6 => if r6 = (0 : Int32) then some ((0 : Int32), S6) else bq1 (fX7_corners S6) (fun r8 => bq2 (fX7_number S6 (r8 - (1 : Int32))) (fun r9 S9 => if r9 = (0 : Int32) then some ((0 : Int32), S9) else bq2 (fX7_sign S9 (47 : Int32)) (fun r11 S11 => if r11 = (0 : Int32) then fX7_readsParcel_98 S11 x1 (gF S4 27) (gF S9 27) (gF S4 27) (0 : Int32) else bq1 (fX7_corners S11) (fun r21 => bq2 (fX7_number S11 (r21 - (1 : Int32))) (fun r22 S22 => if r22 = (0 : Int32) then some ((0 : Int32), S22) else fX7_readsParcel_98 S22 x1 (gF S4 27) (gF S9 27) (gF S22 27) (0 : Int32))))))))))
def bX7_goesThrough_41 (x1 : Int32) (S : St) : Option (Bool × St × Option Int32) :=
  if (gF S 24) ≤ (gF S 25) then some (false, S, none) else bq2 (fX7_readsParcel S x1) (fun r4 S4 => if r4 = (0 : Int32) then some (false, S4, (some ((-10 : Int32) - (gF S4 26)))) else bq1 (fX7_skips S4) (fun S6 => some (true, S6, none)))
def fX7_goesThrough (S : St) (x1 : Int32) : Option (Int32 × St) :=
  bq1 (fX7_skips (pF (pF S 25 (0 : Int32)) 28 (gF S 2))) (fun S1 => if (gF S1 25) = (gF S1 24) then some (((-10 : Int32) - (gF S1 24)), S1) else bq2 (lp (fun q => bX7_goesThrough_41 x1 q.1) fu (S1, none)) (fun S7 yr7 => rto yr7 (fun r => some (r, S7)) (some (((gF S7 28) - (gF S 2)), S7))))
def fX7_reads (S : St) : Option (Int32 × St) :=
  bq2 (fX7_goesThrough S (0 : Int32)) (fun r1 S1 => if (0 : Int32) ≤ r1 then bq1 (fX7_leavesState S1) (fun S3 => bq2 (fX7_goesThrough S3 (1 : Int32)) (fun r4 S4 => some (r4, S4))) else some (r1, S1))
def bX7_back_82 (x1 : Int32) (S : St) (x2 : Int32) : Option (Bool × St × Int32) :=
  if (16 : Int32) ≤ x2 then some (false, S, x2) else chk ((x1 + (4 : Int32)) + x2) 408 (chk x2 16 (chk ((x1 + (20 : Int32)) + x2) 408 (chk x2 16 (chk ((x1 + (36 : Int32)) + x2) 408 (chk x2 16 (chk ((x1 + (52 : Int32)) + x2) 408 (chk x2 16 (some (true, (pR (pR (pR (pR S 2 x2 (gR S 6 ((x1 + (4 : Int32)) + x2))) 3 x2 (gR S 6 ((x1 + (20 : Int32)) + x2))) 4 x2 (gR S 6 ((x1 + (36 : Int32)) + x2))) 5 x2 (gR S 6 ((x1 + (52 : Int32)) + x2))), (x2 + (1 : Int32)))))))))))
def fX7_back (S : St) : Option (Int32 × St) :=
  if (gF S 8) = (0 : Int32) then bq2 (fX7_no S) (fun r16 S16 => some (r16, S16)) else chk ((68 : Int32) * ((gF S 8) - (1 : Int32))) 408 (chk (((68 : Int32) * ((gF S 8) - (1 : Int32))) + (1 : Int32)) 408 (chk (((68 : Int32) * ((gF S 8) - (1 : Int32))) + (2 : Int32)) 408 (chk (((68 : Int32) * ((gF S 8) - (1 : Int32))) + (3 : Int32)) 408 (bq2 (lp (fun q => bX7_back_82 ((68 : Int32) * ((gF S 8) - (1 : Int32))) q.1 q.2) fu ((pR (pR (pF (pF (pF S 8 ((gF S 8) - (1 : Int32))) 1 (gR S 6 ((68 : Int32) * ((gF S 8) - (1 : Int32))))) 2 (gR S 6 (((68 : Int32) * ((gF S 8) - (1 : Int32))) + (1 : Int32)))) 1 (0 : Int32) (gR S 6 (((68 : Int32) * ((gF S 8) - (1 : Int32))) + (2 : Int32)))) 1 (1 : Int32) (gR S 6 (((68 : Int32) * ((gF S 8) - (1 : Int32))) + (3 : Int32)))), (0 : Int32))) (fun S15 y2_15 => some ((gF S15 8), S15))))))
def fX7_toldBy (S : St) (x1 : Int32) : Option Int32 :=
  if (3 : Int32) ≤ x1 then if x1 = (3 : Int32) then some (gF S 24) else if x1 = (4 : Int32) then some (gF S 1) else if x1 = (5 : Int32) then some (gF S 2) else if x1 = (8 : Int32) then some (gF S 8) else chk (x1 - (6 : Int32)) 2 (some (gR S 1 (x1 - (6 : Int32)))) else chk x1 3 (some (gR S 0 x1))
def fX7_told (S : St) (x1 : Int32) : Option (Int32 × St) :=
  bq1 (fX7_in S x1 (0 : Int32) (8 : Int32)) (fun r1 => if r1 = (0 : Int32) then bq2 (fX7_bad S) (fun r3 S3 => some (r3, S3)) else bq1 (fX7_toldBy S x1) (fun r4 => some (r4, S)))
def bX7_digest_6 (S : St) (x1 : Int64) (x3 : Int32) : Option (Bool × Int64 × Int32) :=
  if (9 : Int32) ≤ x3 then some (false, x1, x3) else bq1 (fX7_toldBy S x3) (fun r2 => some (true, (((31 : Int64) * x1) + (Int32.toInt64 r2)), (x3 + (1 : Int32))))
def bX7_digest_44 (x3 : Int32) (S : St) (x1 : Int64) (x4 : Int32) : Option (Bool × St × Int64 × Int32) :=
  if (6 : Int32) ≤ x4 then some (false, S, x1, x4) else bq2 (fX7_ofBy S x3 x4) (fun r6 S6 => some (true, S6, (((31 : Int64) * x1) + (Int32.toInt64 r6)), (x4 + (1 : Int32))))
def bX7_digest_33 (S : St) (x1 : Int64) (x3 : Int32) : Option (Bool × St × Int64 × Int32) :=
  if (gF S 2) ≤ x3 then some (false, S, x1, x3) else bq3 (lp (fun q => bX7_digest_44 x3 q.1 q.2.1 q.2.2) fu (S, x1, (0 : Int32))) (fun S7 y1_7 y4_7 => some (true, S7, y1_7, (x3 + (1 : Int32))))
def bX7_digest_104 (S : St) (x1 : Int64) (x3 : Int32) : Option (Bool × St × Int64 × Int32) :=
  if (3 : Int32) ≤ x3 then some (false, S, x1, x3) else bq2 (fX7_loadsTell S x3) (fun r10 S10 => some (true, S10, (((31 : Int64) * x1) + (Int32.toInt64 r10)), (x3 + (1 : Int32))))
def bX7_digest_130 (S : St) (x1 : Int64) (x3 : Int32) : Option (Bool × St × Int64 × Int32) :=
  if (3 : Int32) ≤ x3 then some (false, S, x1, x3) else bq2 (fX7_runTells S x3) (fun r13 S13 => some (true, S13, (((31 : Int64) * x1) + (Int32.toInt64 r13)), (x3 + (1 : Int32))))
def fX7_digest (S : St) : Option (Int64 × St) :=
  bq2 (lp (fun q => bX7_digest_6 S q.1 q.2) fu ((2141 : Int64), (0 : Int32))) (fun y1_3 y3_3 => bq3 (lp (fun q => bX7_digest_33 q.1 q.2.1 q.2.2) fu (S, y1_3, (0 : Int32))) (fun S8 y1_8 y3_8 => bq3 (lp (fun q => bX7_digest_104 q.1 q.2.1 q.2.2) fu (S8, (((31 : Int64) * (((31 : Int64) * y1_8) + (Int32.toInt64 (gF S8 14)))) + (Int32.toInt64 (gF S8 15))), (0 : Int32))) (fun S11 y1_11 y3_11 => bq3 (lp (fun q => bX7_digest_130 q.1 q.2.1 q.2.2) fu (S11, y1_11, (0 : Int32))) (fun S14 y1_14 y3_14 => some (y1_14, S14)))))
def fX6_refuse (S : St) (x1 : Int32) : Option (Int32 × St) :=
  if ((-2 : Int32) - x1) < (0 : Int32) then some (x1, S) else if (3 : Int32) ≤ ((-2 : Int32) - x1) then some (x1, S) else chk ((-2 : Int32) - x1) 3 (chk ((-2 : Int32) - x1) 3 (some (x1, (pR S 7 ((-2 : Int32) - x1) ((gR S 7 ((-2 : Int32) - x1)) + (1 : Int32))))))
def fX3_take (d s : Nat) (S : St) : Option St :=
  some (pC (pF (pF (pF (pF S (4 * d + 0) (gF S (4 * s + 0))) (4 * d + 1) (gF (pF S (4 * d + 0) (gF S (4 * s + 0))) (4 * s + 1))) (4 * d + 2) (gF (pF (pF S (4 * d + 0) (gF S (4 * s + 0))) (4 * d + 1) (gF (pF S (4 * d + 0) (gF S (4 * s + 0))) (4 * s + 1))) (4 * s + 2))) (4 * d + 3) (gF (pF (pF (pF S (4 * d + 0) (gF S (4 * s + 0))) (4 * d + 1) (gF (pF S (4 * d + 0) (gF S (4 * s + 0))) (4 * s + 1))) (4 * d + 2) (gF (pF (pF S (4 * d + 0) (gF S (4 * s + 0))) (4 * d + 1) (gF (pF S (4 * d + 0) (gF S (4 * s + 0))) (4 * s + 1))) (4 * s + 2))) (4 * s + 3))) d s)
def fX0_keep (S : St) : Option St :=
  chk (((gF S 31) + (1 : Int32)) - ((gF S 31) + (1 : Int32)) / (6 : Int32) * (6 : Int32)) 6 (bq1 (fX3_take (1 + ((((gF S 31) + (1 : Int32)) - ((gF S 31) + (1 : Int32)) / (6 : Int32) * (6 : Int32))).toNatClampNeg) 0 (pF S 31 (((gF S 31) + (1 : Int32)) - ((gF S 31) + (1 : Int32)) / (6 : Int32) * (6 : Int32)))) (fun S2 => some (pF S2 30 (if (6 : Int32) < ((gF S2 30) + (1 : Int32)) then (6 : Int32) else ((gF S2 30) + (1 : Int32))))))
def fX6_sides_10 (S : St) : Option (Int32 × St) :=
  bq2 (fX6_refuse S (-2 : Int32)) (fun r2 S2 => some (r2, S2))
def fX6_sides (S : St) (x1 : Int32) : Option (Int32 × St) :=
  if x1 < (1 : Int32) then fX6_sides_10 S else if x1 ≤ (4 : Int32) then bq1 (fX0_keep S) (fun S4 => some ((gF S4 0), (pF (pF S4 0 x1) 3 (0 : Int32)))) else fX6_sides_10 S
def fX3_corners (S : St) : Option Int32 :=
  some ((1 : Int32) <<< ((gF S 0) &&& (31 : Int32)))
def fX3_allows_19 (s0 : Int32) (s1 : Int32) : Option Int32 :=
  if s0 ≤ s1 then some (0 : Int32) else some (1 : Int32)
def fX3_allows (S : St) (x1 : Int32) (x2 : Int32) : Option Int32 :=
  if x2 < (0 : Int32) then some (0 : Int32) else if x1 = (3 : Int32) then fX3_allows_19 (100 : Int32) x2 else bq1 (fX3_corners S) (fun r3 => fX3_allows_19 r3 x2)
def fX3_change (S : St) (x1 : Int32) (x2 : Int32) (x3 : Int32) : Option St :=
  chk ((x1 * (4 : Int32)) + x2) 64 (some (pR S 0 ((x1 * (4 : Int32)) + x2) x3))
def fX3_add (S : St) (x1 : Int32) (x2 : Int32) (x3 : Int32) (x4 : Int32) : Option St :=
  if (gF S 3) < (16 : Int32) then bq1 (fX3_change S (gF S 3) (0 : Int32) x1) (fun S2 => bq1 (fX3_change S2 (gF S2 3) (1 : Int32) x2) (fun S3 => bq1 (fX3_change S3 (gF S3 3) (2 : Int32) x3) (fun S4 => bq1 (fX3_change S4 (gF S4 3) (3 : Int32) x4) (fun S5 => some (pF S5 3 ((gF S5 3) + (1 : Int32))))))) else some S
def fX6_parcel_49 (S : St) : Option (Int32 × St) :=
  bq2 (fX6_refuse S (-2 : Int32)) (fun r3 S3 => some (r3, S3))
def fX6_parcel (S : St) (x1 : Int32) (x2 : Int32) (x3 : Int32) (x4 : Int32) : Option (Int32 × St) :=
  bq1 (fX3_allows S (0 : Int32) x1) (fun r1 => if r1 = (0 : Int32) then fX6_parcel_49 S else bq1 (fX3_allows S (1 : Int32) x2) (fun r4 => if r4 = (0 : Int32) then fX6_parcel_49 S else bq1 (fX3_allows S (2 : Int32) x3) (fun r6 => if r6 = (0 : Int32) then fX6_parcel_49 S else bq1 (fX3_allows S (3 : Int32) x4) (fun r8 => if r8 = (0 : Int32) then fX6_parcel_49 S else if (gF S 3) < (16 : Int32) then bq1 (fX0_keep S) (fun S11 => bq1 (fX3_add S11 x1 x2 x3 x4) (fun S12 => some (((gF S12 3) - (1 : Int32)), S12))) else bq2 (fX6_refuse S (-4 : Int32)) (fun r13 S13 => some (r13, S13))))))
def fX3_has (S : St) (x1 : Int32) : Option Int32 :=
  if x1 < (0 : Int32) then some (0 : Int32) else if (gF S 3) ≤ x1 then some (0 : Int32) else some (1 : Int32)
def fX3_trait (S : St) (x1 : Int32) (x2 : Int32) : Option Int32 :=
  chk ((x1 * (4 : Int32)) + x2) 64 (some (gR S 0 ((x1 * (4 : Int32)) + x2)))
def fX6_sets_32 (S : St) : Option (Int32 × St) :=
  bq2 (fX6_refuse S (-2 : Int32)) (fun r3 S3 => some (r3, S3))
def fX6_sets (S : St) (x1 : Int32) (x2 : Int32) (x3 : Int32) : Option (Int32 × St) :=
  bq1 (fX3_has S x1) (fun r1 => if r1 = (0 : Int32) then fX6_sets_32 S else if x2 < (0 : Int32) then fX6_sets_32 S else if (4 : Int32) ≤ x2 then fX6_sets_32 S else bq1 (fX3_allows S x2 x3) (fun r6 => if r6 = (0 : Int32) then fX6_sets_32 S else bq1 (fX0_keep S) (fun S8 => bq1 (fX3_trait S8 x1 x2) (fun r9 => bq1 (fX3_change S8 x1 x2 x3) (fun S10 => some (r9, S10))))))
def fX6_rules_88 (S : St) (x2 : Int32) (x3 : Int32) (s0 : Int32) : Option (Int32 × St) :=
  if x3 = (0 : Int32) then some (s0, (pF S 2 x2)) else some (s0, (pF S 1 x2))
def fX6_rules_56 (S : St) (x2 : Int32) (x3 : Int32) : Option (Int32 × St) :=
  bq1 (fX0_keep S) (fun S4 => if x3 = (0 : Int32) then fX6_rules_88 S4 x2 x3 (gF S4 2) else fX6_rules_88 S4 x2 x3 (gF S4 1))
def fX6_rules_38 (S : St) (x2 : Int32) (x3 : Int32) (s0 : Int32) : Option (Int32 × St) :=
  if x3 = (0 : Int32) then if s0 = (0 : Int32) then bq2 (fX6_refuse S (-2 : Int32)) (fun r8 S8 => some (r8, S8)) else fX6_rules_56 S x2 x3 else fX6_rules_56 S x2 x3
def fX6_rules_37 (S : St) (x2 : Int32) (x3 : Int32) : Option (Int32 × St) :=
  fX6_rules_38 S x2 x3 (0 : Int32)
def fX6_rules_18 (S : St) (x1 : Int32) (x2 : Int32) (s0 : Int32) : Option (Int32 × St) :=
  if x1 = (1 : Int32) then if x2 < (0 : Int32) then fX6_rules_37 S x2 s0 else if (4 : Int32) ≤ x2 then fX6_rules_37 S x2 s0 else fX6_rules_38 S x2 s0 (1 : Int32) else fX6_rules_37 S x2 s0
def fX6_rules_17 (S : St) (x1 : Int32) (x2 : Int32) : Option (Int32 × St) :=
  fX6_rules_18 S x1 x2 (0 : Int32)
def fX6_rules (S : St) (x1 : Int32) (x2 : Int32) : Option (Int32 × St) :=
  if x1 = (0 : Int32) then if x2 < (0 : Int32) then fX6_rules_17 S x1 x2 else if (2 : Int32) ≤ x2 then fX6_rules_17 S x1 x2 else fX6_rules_18 S x1 x2 (1 : Int32) else fX6_rules_17 S x1 x2
def fX6_empties (S : St) : Option (Int32 × St) :=
  bq1 (fX0_keep S) (fun S1 => some ((gF S1 3), (pF S1 3 (0 : Int32))))
def bX3_partner_39 (S : St) (x1 : Int32) (x4 : Int32) (x5 : Int32) : Option (Bool × Int32 × Int32) :=
  if (gF S 0) ≤ x5 then some (false, x4, x5) else some (true, (((2 : Int32) * x4) + ((x1 >>> (x5 &&& (31 : Int32))) - (x1 >>> (x5 &&& (31 : Int32))) / (2 : Int32) * (2 : Int32))), (x5 + (1 : Int32)))
def fX3_partner (S : St) (x1 : Int32) (x2 : Int32) : Option Int32 :=
  bq1 (fX3_corners S) (fun r1 => if x2 = (0 : Int32) then some ((r1 - (1 : Int32)) - x1) else if x2 = (2 : Int32) then if x1 = (r1 - (1 : Int32)) then some (0 : Int32) else some (x1 + (1 : Int32)) else bq2 (lp (fun q => bX3_partner_39 S x1 q.1 q.2) fu ((0 : Int32), (0 : Int32))) (fun y4_5 y5_5 => some y4_5))
def fX6_fills_19 (S : St) : Option (Int32 × St) :=
  bq2 (fX6_refuse S (-2 : Int32)) (fun r2 S2 => some (r2, S2))
def fX6_fills_110 (S : St) (x3 : Int32) (x4 : Int64) (x6 : Int32) (s0 : Int32) : Option (Bool × St × Int64 × Int32) :=
  nzl (Int32.toInt64 x3) (bq1 (fX3_add S x6 s0 (Int64.toInt32 ((x4 / (65536 : Int64)) - (x4 / (65536 : Int64)) / (Int32.toInt64 x3) * (Int32.toInt64 x3))) (Int64.toInt32 ((x4 / (1024 : Int64)) - (x4 / (1024 : Int64)) / (100 : Int64) * (100 : Int64)))) (fun S12 => some (true, S12, x4, (x6 + (1 : Int32)))))
def bX6_fills_60 (x1 : Int32) (x3 : Int32) (S : St) (x4 : Int64) (x6 : Int32) : Option (Bool × St × Int64 × Int32) :=
  if x3 ≤ x6 then some (false, S, x4, x6) else if x1 = (3 : Int32) then nzl (Int32.toInt64 x3) (fX6_fills_110 S x3 (((x4 * (1103515245 : Int64)) + (12345 : Int64)) - ((x4 * (1103515245 : Int64)) + (12345 : Int64)) / (2147483648 : Int64) * (2147483648 : Int64)) x6 (Int64.toInt32 (((((x4 * (1103515245 : Int64)) + (12345 : Int64)) - ((x4 * (1103515245 : Int64)) + (12345 : Int64)) / (2147483648 : Int64) * (2147483648 : Int64)) / (32768 : Int64)) - ((((x4 * (1103515245 : Int64)) + (12345 : Int64)) - ((x4 * (1103515245 : Int64)) + (12345 : Int64)) / (2147483648 : Int64) * (2147483648 : Int64)) / (32768 : Int64)) / (Int32.toInt64 x3) * (Int32.toInt64 x3)))) else bq1 (fX3_partner S x6 x1) (fun r10 => fX6_fills_110 S x3 (((x4 * (1103515245 : Int64)) + (12345 : Int64)) - ((x4 * (1103515245 : Int64)) + (12345 : Int64)) / (2147483648 : Int64) * (2147483648 : Int64)) x6 r10)
def fX6_fills (S : St) (x1 : Int32) (x2 : Int32) : Option (Int32 × St) :=
  if x1 < (0 : Int32) then fX6_fills_19 S else if (3 : Int32) < x1 then fX6_fills_19 S else if x2 < (0 : Int32) then fX6_fills_19 S else if x2 ≤ (999999 : Int32) then bq1 (fX0_keep S) (fun S6 => bq1 (fX3_corners (pF S6 3 (0 : Int32))) (fun r7 => bq3 (lp (fun q => bX6_fills_60 x1 r7 q.1 q.2.1 q.2.2) fu ((pF S6 3 (0 : Int32)), (Int32.toInt64 x2), (0 : Int32))) (fun S14 y4_14 y6_14 => some ((gF S14 3), S14)))) else fX6_fills_19 S
def fX5_addLeg_36 (S : St) (x2 : Int32) (x4 : Int32) (x5 : Int32) (x6 : Int32) (s0 : Int32) : Option (Bool × St × Int32 × Int32) :=
  if ((x5 ^^^ x4) &&& ((1 : Int32) <<< (s0 &&& (31 : Int32)))) = (0 : Int32) then some (true, S, x5, (x6 + (1 : Int32))) else chk x2 16 (chk ((x2 * (8 : Int32)) + (gR S 8 x2)) 128 (chk x2 16 (chk x2 16 (chk x2 16 (chk x2 16 (some (true, (pR (pE (pR S 10 ((x2 * (8 : Int32)) + (gR S 8 x2)) ((x5 * (4 : Int32)) + s0)) x2 ((gE S x2) ||| ((1 : Int64) <<< (Int32.toInt64 ((x5 * (4 : Int32)) + s0) &&& (63 : Int64))))) 8 x2 ((gR S 8 x2) + (1 : Int32))), (x5 ^^^ ((1 : Int32) <<< (s0 &&& (31 : Int32)))), (x6 + (1 : Int32)))))))))
def bX5_addLeg_6 (x2 : Int32) (x4 : Int32) (S : St) (x5 : Int32) (x6 : Int32) : Option (Bool × St × Int32 × Int32) :=
  if (gF S 0) ≤ x6 then some (false, S, x5, x6) else if (gF S 1) = (0 : Int32) then fX5_addLeg_36 S x2 x4 x5 x6 x6 else fX5_addLeg_36 S x2 x4 x5 x6 (((gF S 0) - (1 : Int32)) - x6)
def fX5_addLeg (S : St) (x2 : Int32) (x3 : Int32) (x4 : Int32) : Option St :=
  bq3 (lp (fun q => bX5_addLeg_6 x2 x4 q.1 q.2.1 q.2.2) fu (S, x3, (0 : Int32))) (fun S10 y5_10 y6_10 => some S10)
def fX5_trace (S : St) (x2 : Int32) (x3 : Int32) : Option St :=
  chk x2 16 (chk x2 16 (bq1 (fX3_trait (pE (pR S 8 x2 (0 : Int32)) x2 (0 : Int64)) x2 (0 : Int32)) (fun r3 => bq1 (fX5_addLeg (pE (pR S 8 x2 (0 : Int32)) x2 (0 : Int64)) x2 r3 x3) (fun S4 => chk x2 16 (chk x2 16 (bq1 (fX3_trait (pR S4 9 x2 (gR S4 8 x2)) x2 (1 : Int32)) (fun r7 => bq1 (fX5_addLeg (pR S4 9 x2 (gR S4 8 x2)) x2 x3 r7) (fun S8 => some S8))))))))
def bX5_follow_2 (S : St) (x2 : Int32) : Option (Bool × St × Int32) :=
  if (gF S 3) ≤ x2 then some (false, S, x2) else bq1 (fX3_trait S x2 (2 : Int32)) (fun r2 => bq1 (fX5_trace S x2 r2) (fun S3 => some (true, S3, (x2 + (1 : Int32)))))
def fX5_follow (S : St) : Option St :=
  bq2 (lp (fun q => bX5_follow_2 q.1 q.2) fu (S, (0 : Int32))) (fun S4 y2_4 => some S4)
def bX5_meetings_5 (S : St) (x1 : Int32) (x2 : Int32) (x3 : Int32) (x4 : Int32) : Option (Bool × Int32 × Int32) :=
  if x2 ≤ x4 then some (false, x3, x4) else if x4 = x1 then some (true, x3, (x4 + (1 : Int32))) else chk x4 16 (chk x1 16 (if (lg_cmp ((gE S x4) &&& (gE S x1)) (0 : Int64)) = (0 : Int32) then some (true, x3, (x4 + (1 : Int32))) else some (true, (x3 + (1 : Int32)), (x4 + (1 : Int32)))))
def fX5_meetings (S : St) (x1 : Int32) (x2 : Int32) : Option Int32 :=
  bq2 (lp (fun q => bX5_meetings_5 S x1 x2 q.1 q.2) fu ((0 : Int32), (0 : Int32))) (fun y3_6 y4_6 => some y3_6)
def fX6_factOf (S : St) (x1 : Int32) (x2 : Int32) : Option Int32 :=
  if x2 = (4 : Int32) then chk x1 16 (some (gR S 8 x1)) else if x2 = (5 : Int32) then bq1 (fX5_meetings S x1 (gF S 3)) (fun r4 => some r4) else bq1 (fX3_trait S x1 x2) (fun r5 => some r5)
def fX6_of_20 (S : St) : Option (Int32 × St) :=
  bq2 (fX6_refuse S (-2 : Int32)) (fun r3 S3 => some (r3, S3))
def fX6_of (S : St) (x1 : Int32) (x2 : Int32) : Option (Int32 × St) :=
  bq1 (fX3_has S x1) (fun r1 => if r1 = (0 : Int32) then fX6_of_20 S else if x2 < (0 : Int32) then fX6_of_20 S else if x2 ≤ (5 : Int32) then bq1 (fX5_follow S) (fun S6 => bq1 (fX6_factOf S6 x1 x2) (fun r7 => some (r7, S6))) else fX6_of_20 S)
def fX5_edge (S : St) (x1 : Int32) (x2 : Int32) : Option Int32 :=
  chk ((x1 * (8 : Int32)) + x2) 128 (some (gR S 10 ((x1 * (8 : Int32)) + x2)))
def fX5_cornerBehind (S : St) (x2 : Int32) (x3 : Int32) : Option Int32 :=
  chk x2 16 (if (gR S 8 x2) ≤ x3 then bq1 (fX3_trait S x2 (1 : Int32)) (fun r3 => some r3) else bq1 (fX5_edge S x2 x3) (fun r4 => some (r4 / (4 : Int32))))
def fX6_step_15 (S : St) : Option (Int32 × St) :=
  bq2 (fX6_refuse S (-2 : Int32)) (fun r3 S3 => some (r3, S3))
def fX6_step (S : St) (x1 : Int32) (x2 : Int32) : Option (Int32 × St) :=
  bq1 (fX3_has S x1) (fun r1 => if r1 = (0 : Int32) then fX6_step_15 S else if (0 : Int32) ≤ x2 then bq1 (fX5_follow S) (fun S5 => chk x1 16 (if x2 ≤ (gR S5 8 x1) then bq1 (fX5_cornerBehind S5 x1 x2) (fun r8 => some (r8, S5)) else some ((-5 : Int32), S5))) else fX6_step_15 S)
def fX3_hasEdge (S : St) (x1 : Int32) (x2 : Int32) : Option Int32 :=
  if x1 < (0 : Int32) then some (0 : Int32) else bq1 (fX3_corners S) (fun r2 => if r2 ≤ x1 then some (0 : Int32) else if x2 < (0 : Int32) then some (0 : Int32) else if (gF S 0) ≤ x2 then some (0 : Int32) else some (1 : Int32))
def bfill_23_5 (x1 : Int32) (x3 : Int32) (S : St) (x2 : Int32) : Option (Bool × St × Int32) :=
  if x3 ≤ x2 then some (false, S, x2) else chk x2 64 (some (true, (pR S 11 x2 x1), (x2 + (1 : Int32))))
def ffill_23 (S : St) (x1 : Int32) : Option St :=
  bq2 (lp (fun q => bfill_23_5 x1 (64 : Int32) q.1 q.2) fu (S, (0 : Int32))) (fun S3 y2_3 => some S3)
def fX1_empty (S : St) : Option St :=
  bq1 (ffill_23 S (0 : Int32)) (fun S1 => some S1)
def bX1_add_3 (x2 : Int32) (x3 : Int32) (S : St) (x4 : Int32) : Option (Bool × St × Int32) :=
  chk x2 16 (if (gR S 8 x2) ≤ x4 then some (false, S, x4) else bq1 (fX5_edge S x2 x4) (fun r3 => chk r3 64 (chk r3 64 (some (true, (pR S 11 r3 ((gR S 11 r3) + x3)), (x4 + (1 : Int32)))))))
def fX1_add (S : St) (x2 : Int32) (x3 : Int32) : Option St :=
  bq2 (lp (fun q => bX1_add_3 x2 x3 q.1 q.2) fu (S, (0 : Int32))) (fun S6 y4_6 => some S6)
def bX6_tallyWays_20 (S : St) (x1 : Int32) : Option (Bool × St × Int32) :=
  if (gF S 3) ≤ x1 then some (false, S, x1) else bq1 (fX1_add S x1 (1 : Int32)) (fun S4 => some (true, S4, (x1 + (1 : Int32))))
def fX6_tallyWays (S : St) : Option St :=
  bq1 (fX5_follow S) (fun S1 => bq1 (fX1_empty S1) (fun S2 => bq2 (lp (fun q => bX6_tallyWays_20 q.1 q.2) fu (S2, (0 : Int32))) (fun S5 y1_5 => some S5)))
def fX6_load (S : St) (x1 : Int32) (x2 : Int32) : Option (Int32 × St) :=
  bq1 (fX3_hasEdge S x1 x2) (fun r1 => if r1 = (0 : Int32) then bq2 (fX6_refuse S (-2 : Int32)) (fun r5 S5 => some (r5, S5)) else bq1 (fX6_tallyWays S) (fun S3 => chk ((x1 * (4 : Int32)) + x2) 64 (some ((gR S3 11 ((x1 * (4 : Int32)) + x2)), S3))))
def bX1_firstGreatest_4 (S : St) (x1 : Int32) (x2 : Int32) : Option (Bool × Int32 × Int32) :=
  if (64 : Int32) ≤ x2 then some (false, x1, x2) else chk x2 64 (chk x1 64 (if (gR S 11 x2) ≤ (gR S 11 x1) then some (true, x1, (x2 + (1 : Int32))) else some (true, x2, (x2 + (1 : Int32)))))
def fX1_firstGreatest (S : St) : Option Int32 :=
  bq2 (lp (fun q => bX1_firstGreatest_4 S q.1 q.2) fu ((0 : Int32), (1 : Int32))) (fun y1_5 y2_5 => some y1_5)
def bX1_countAtLeast_17 (S : St) (x1 : Int32) (x4 : Int32) (x3 : Int32) (x5 : Int32) : Option (Bool × Int32 × Int32) :=
  if (gF S 0) ≤ x5 then some (false, x3, x5) else chk ((x4 * (4 : Int32)) + x5) 64 (if (gR S 11 ((x4 * (4 : Int32)) + x5)) < x1 then some (true, x3, (x5 + (1 : Int32))) else some (true, (x3 + (1 : Int32)), (x5 + (1 : Int32))))
def bX1_countAtLeast_5 (S : St) (x1 : Int32) (x3 : Int32) (x4 : Int32) : Option (Bool × Int32 × Int32) :=
  bq1 (fX3_corners S) (fun r1 => if r1 ≤ x4 then some (false, x3, x4) else bq2 (lp (fun q => bX1_countAtLeast_17 S x1 x4 q.1 q.2) fu (x3, (0 : Int32))) (fun y3_6 y5_6 => some (true, y3_6, (x4 + (1 : Int32)))))
def fX1_countAtLeast (S : St) (x1 : Int32) : Option Int32 :=
  bq2 (lp (fun q => bX1_countAtLeast_5 S x1 q.1 q.2) fu ((0 : Int32), (0 : Int32))) (fun y3_7 y4_7 => some y3_7)
def fX6_nameOf (S : St) (x0 : Int32) : Option Int32 :=
  some (((x0 / (4 : Int32)) * (10 : Int32)) + (x0 - x0 / (4 : Int32) * (4 : Int32)))
def fX6_loadsFact (S : St) (x1 : Int32) : Option Int32 :=
  bq1 (fX1_firstGreatest S) (fun r1 => chk r1 64 (if x1 = (0 : Int32) then some (gR S 11 r1) else if x1 = (1 : Int32) then bq1 (fX1_countAtLeast S (gR S 11 r1)) (fun r5 => some r5) else if x1 = (2 : Int32) then bq1 (fX1_countAtLeast S (1 : Int32)) (fun r7 => some r7) else if (gR S 11 r1) = (0 : Int32) then some (-1 : Int32) else bq1 (fX6_nameOf S r1) (fun r9 => some r9)))
def fX6_loads_9 (S : St) : Option (Int32 × St) :=
  bq2 (fX6_refuse S (-2 : Int32)) (fun r2 S2 => some (r2, S2))
def fX6_loads (S : St) (x1 : Int32) : Option (Int32 × St) :=
  if x1 < (0 : Int32) then fX6_loads_9 S else if x1 ≤ (3 : Int32) then bq1 (fX6_tallyWays S) (fun S4 => bq1 (fX6_loadsFact S4 x1) (fun r5 => some (r5, S4))) else fX6_loads_9 S
def bX6_addDrawn_11 (x1 : Int32) (x2 : Int32) (x3 : Int32) (S : St) (x4 : Int32) : Option (Bool × St × Int32) :=
  if x3 ≤ x4 then some (false, S, x4) else bq1 (fX5_trace S x1 x4) (fun S3 => bq1 (fX1_add S3 x1 x2) (fun S4 => some (true, S4, (x4 + (1 : Int32)))))
def fX6_addDrawn (S : St) (x1 : Int32) (x2 : Int32) : Option St :=
  bq1 (fX3_corners S) (fun r1 => bq2 (lp (fun q => bX6_addDrawn_11 x1 x2 r1 q.1 q.2) fu (S, (0 : Int32))) (fun S5 y4_5 => some S5))
def bX6_tallyMean_9 (x1 : Int32) (S : St) (x2 : Int32) : Option (Bool × St × Int32) :=
  if (gF S 3) ≤ x2 then some (false, S, x2) else if x1 ≤ x2 then bq1 (fX6_addDrawn S x2 (1 : Int32)) (fun S4 => some (true, S4, (x2 + (1 : Int32)))) else bq1 (fX3_trait S x2 (2 : Int32)) (fun r5 => bq1 (fX5_trace S x2 r5) (fun S6 => bq1 (fX3_corners S6) (fun r7 => bq1 (fX1_add S6 x2 r7) (fun S8 => some (true, S8, (x2 + (1 : Int32)))))))
def fX6_tallyMean (S : St) (x1 : Int32) : Option St :=
  bq1 (fX1_empty S) (fun S1 => bq2 (lp (fun q => bX6_tallyMean_9 x1 q.1 q.2) fu (S1, (0 : Int32))) (fun S9 y2_9 => some S9))
def bX6_setFraction_18 (S : St) (x2 : Int32) : Option (Bool × St × Int32) :=
  if (4 : Int32) ≤ x2 then some (false, S, x2) else if (gF S 29) ≤ (1 : Int32) then some (false, S, x2) else if ((gF S 28) - (gF S 28) / (2 : Int32) * (2 : Int32)) = (0 : Int32) then some (true, (pF (pF S 28 ((gF S 28) / (2 : Int32))) 29 ((gF S 29) / (2 : Int32))), (x2 + (1 : Int32))) else some (false, S, x2)
def fX6_setFraction (S : St) (x1 : Int32) : Option St :=
  bq1 (fX3_corners (pF S 28 x1)) (fun r1 => bq2 (lp (fun q => bX6_setFraction_18 q.1 q.2) fu ((pF (pF S 28 x1) 29 r1), (0 : Int32))) (fun S5 y2_5 => some S5))
def fX6_expected_22 (S : St) : Option (Int32 × St) :=
  bq2 (fX6_refuse S (-2 : Int32)) (fun r3 S3 => some (r3, S3))
def fX6_expected (S : St) (x1 : Int32) (x2 : Int32) (x3 : Int32) : Option (Int32 × St) :=
  bq1 (fX3_hasEdge S x1 x2) (fun r1 => if r1 = (0 : Int32) then fX6_expected_22 S else if x3 < (0 : Int32) then fX6_expected_22 S else if x3 ≤ (16 : Int32) then bq1 (fX6_tallyMean S x3) (fun S6 => chk ((x1 * (4 : Int32)) + x2) 64 (bq1 (fX6_setFraction S6 (gR S6 11 ((x1 * (4 : Int32)) + x2))) (fun S8 => some ((1 : Int32), S8)))) else fX6_expected_22 S)
def fX6_part_9 (S : St) : Option (Int32 × St) :=
  bq2 (fX6_refuse S (-2 : Int32)) (fun r2 S2 => some (r2, S2))
def fX6_part (S : St) (x1 : Int32) : Option (Int32 × St) :=
  if x1 < (0 : Int32) then fX6_part_9 S else if x1 ≤ (1 : Int32) then if x1 = (0 : Int32) then some ((gF S 28), S) else some ((gF S 29), S) else fX6_part_9 S
def fX6_greatest (S : St) : Option (Int32 × St) :=
  if (gF S 3) = (0 : Int32) then bq2 (fX6_refuse S (-3 : Int32)) (fun r7 S7 => some (r7, S7)) else bq1 (fX6_tallyMean S (0 : Int32)) (fun S2 => bq1 (fX1_firstGreatest S2) (fun r3 => chk r3 64 (bq1 (fX6_setFraction S2 (gR S2 11 r3)) (fun S5 => bq1 (fX6_nameOf S5 r3) (fun r6 => some (r6, S5))))))
def bX1_squares_4 (S : St) (x1 : Int32) (x2 : Int32) : Option (Bool × Int32 × Int32) :=
  if (64 : Int32) ≤ x2 then some (false, x1, x2) else chk x2 64 (chk x2 64 (some (true, (x1 + ((gR S 11 x2) * (gR S 11 x2))), (x2 + (1 : Int32)))))
def fX1_squares (S : St) : Option Int32 :=
  bq2 (lp (fun q => bX1_squares_4 S q.1 q.2) fu ((0 : Int32), (0 : Int32))) (fun y1_4 y2_4 => some y1_4)
def fX6_chooseBetween_118 (S : St) (x1 : Int32) (x2 : Int32) (x3 : Int32) (x4 : Int32) (x5 : Int32) (x6 : Int32) : Option (Bool × St × Int32 × Int32 × Int32 × Int32) :=
  bq1 (fX1_add S x1 (-x2)) (fun S10 => some (true, S10, x3, x4, x5, (x6 + (1 : Int32))))
def fX6_chooseBetween_107 (S : St) (x1 : Int32) (x2 : Int32) (x6 : Int32) (x7 : Int32) (x8 : Int32) : Option (Bool × St × Int32 × Int32 × Int32 × Int32) :=
  fX6_chooseBetween_118 S x1 x2 x6 x7 x8 x6
def bX6_chooseBetween_27 (x1 : Int32) (x2 : Int32) (S : St) (x3 : Int32) (x4 : Int32) (x5 : Int32) (x6 : Int32) : Option (Bool × St × Int32 × Int32 × Int32 × Int32) :=
  if x2 ≤ x6 then some (false, S, x3, x4, x5, x6) else bq1 (fX5_trace S x1 x6) (fun S4 => bq1 (fX1_add S4 x1 x2) (fun S5 => bq1 (fX1_firstGreatest S5) (fun r6 => chk r6 64 (bq1 (fX1_squares S5) (fun r8 => if (gR S5 11 r6) < x4 then fX6_chooseBetween_107 S5 x1 x2 x6 (gR S5 11 r6) r8 else if (gR S5 11 r6) = x4 then if x5 ≤ r8 then fX6_chooseBetween_118 S5 x1 x2 x3 x4 x5 x6 else fX6_chooseBetween_107 S5 x1 x2 x6 (gR S5 11 r6) r8 else fX6_chooseBetween_118 S5 x1 x2 x3 x4 x5 x6)))))
def fX6_chooseBetween (S : St) (x1 : Int32) : Option St :=
  bq1 (fX6_addDrawn S x1 (-1 : Int32)) (fun S1 => bq1 (fX3_corners S1) (fun r2 => bq5 (lp (fun q => bX6_chooseBetween_27 x1 r2 q.1 q.2.1 q.2.2.1 q.2.2.2.1 q.2.2.2.2) fu (S1, (0 : Int32), (2147483647 : Int32), (2147483647 : Int32), (0 : Int32))) (fun S13 y3_13 y4_13 y5_13 y6_13 => bq1 (fX3_change S13 x1 (2 : Int32) y3_13) (fun S14 => bq1 (fX5_trace S14 x1 y3_13) (fun S15 => bq1 (fX1_add S15 x1 r2) (fun S16 => some S16))))))
def bX6_chooses_35 (S : St) (x1 : Int32) : Option (Bool × St × Int32) :=
  if (gF S 3) ≤ x1 then some (false, S, x1) else bq1 (fX6_chooseBetween S x1) (fun S5 => some (true, S5, (x1 + (1 : Int32))))
def fX6_chooses (S : St) : Option (Int32 × St) :=
  if (gF S 3) = (0 : Int32) then bq2 (fX6_refuse S (-3 : Int32)) (fun r9 S9 => some (r9, S9)) else bq1 (fX0_keep S) (fun S2 => bq1 (fX6_tallyMean S2 (0 : Int32)) (fun S3 => bq2 (lp (fun q => bX6_chooses_35 q.1 q.2) fu (S3, (0 : Int32))) (fun S6 y1_6 => bq1 (fX6_tallyWays S6) (fun S7 => bq1 (fX6_loadsFact S7 (0 : Int32)) (fun r8 => some (r8, S7))))))
def bfill_25_5 (x1 : Int32) (x3 : Int32) (S : St) (x2 : Int32) : Option (Bool × St × Int32) :=
  if x3 ≤ x2 then some (false, S, x2) else chk x2 16 (some (true, (pR S 12 x2 x1), (x2 + (1 : Int32))))
def ffill_25 (S : St) (x1 : Int32) : Option St :=
  bq2 (lp (fun q => bfill_25_5 x1 (16 : Int32) q.1 q.2) fu (S, (0 : Int32))) (fun S3 y2_3 => some S3)
def bfill_26_5 (x1 : Int32) (x3 : Int32) (S : St) (x2 : Int32) : Option (Bool × St × Int32) :=
  if x3 ≤ x2 then some (false, S, x2) else chk x2 16 (some (true, (pR S 13 x2 x1), (x2 + (1 : Int32))))
def ffill_26 (S : St) (x1 : Int32) : Option St :=
  bq2 (lp (fun q => bfill_26_5 x1 (16 : Int32) q.1 q.2) fu (S, (0 : Int32))) (fun S3 y2_3 => some S3)
def bfill_27_5 (x1 : Int32) (x3 : Int32) (S : St) (x2 : Int32) : Option (Bool × St × Int32) :=
  if x3 ≤ x2 then some (false, S, x2) else chk x2 16 (some (true, (pR S 14 x2 x1), (x2 + (1 : Int32))))
def ffill_27 (S : St) (x1 : Int32) : Option St :=
  bq2 (lp (fun q => bfill_27_5 x1 (16 : Int32) q.1 q.2) fu (S, (0 : Int32))) (fun S3 y2_3 => some S3)
def bfill_28_5 (x1 : Int32) (x3 : Int32) (S : St) (x2 : Int32) : Option (Bool × St × Int32) :=
  if x3 ≤ x2 then some (false, S, x2) else chk x2 16 (some (true, (pR S 15 x2 x1), (x2 + (1 : Int32))))
def ffill_28 (S : St) (x1 : Int32) : Option St :=
  bq2 (lp (fun q => bfill_28_5 x1 (16 : Int32) q.1 q.2) fu (S, (0 : Int32))) (fun S3 y2_3 => some S3)
def bX4_look_5 (S : St) (x3 : Int32) (x4 : Int32) : Option (Bool × St × Int32 × Int32) :=
  if (gF S 3) ≤ x4 then some (false, S, x3, x4) else chk x4 16 (chk x4 16 (chk x4 16 (if (gR S 8 x4) ≤ (gR S 14 x4) then some (true, (pR S 16 x4 (-1 : Int32)), x3, (x4 + (1 : Int32))) else chk x4 16 (bq1 (fX5_edge (pR S 16 x4 (-1 : Int32)) x4 (gR S 14 x4)) (fun r7 => chk x4 16 (chk r7 64 (chk r7 64 (some (true, (pR (pR (pR (pR S 16 x4 (-1 : Int32)) 16 x4 r7) 17 r7 (0 : Int32)) 18 r7 (-1 : Int32)), (1 : Int32), (x4 + (1 : Int32)))))))))))
def fX4_look (S : St) : Option (Int32 × St) :=
  bq3 (lp (fun q => bX4_look_5 q.1 q.2.1 q.2.2) fu (S, (0 : Int32), (0 : Int32))) (fun S11 y3_11 y4_11 => zb y3_11 (some (y3_11, S11)))
def fX4_legOf (S : St) (x2 : Int32) : Option Int32 :=
  chk x2 16 (chk x2 16 (if (gR S 9 x2) ≤ (gR S 14 x2) then some (2 : Int32) else some (1 : Int32)))
def fX4_lead (S : St) (x2 : Int32) (x3 : Int32) (x4 : Int32) : Option Int32 :=
  if x2 = (0 : Int32) then chk x4 16 (chk x3 16 (some ((gR S 15 x4) - (gR S 15 x3)))) else if x2 = (1 : Int32) then some (0 : Int32) else if x2 = (2 : Int32) then chk x3 16 (chk x3 16 (chk x4 16 (chk x4 16 (some (((gR S 8 x3) - (gR S 14 x3)) - ((gR S 8 x4) - (gR S 14 x4))))))) else if x2 = (3 : Int32) then bq1 (fX4_legOf S x3) (fun r11 => bq1 (fX4_legOf S x4) (fun r12 => some (r11 - r12))) else some (0 : Int32)
def fX4_isAhead (S : St) (x3 : Int32) (x4 : Int32) (x5 : Int32) : Option Int32 :=
  bq1 (fX4_lead S x3 x4 x5) (fun r1 => if r1 = (0 : Int32) then bq1 (fX3_trait S x4 (3 : Int32)) (fun r3 => bq1 (fX3_trait S x5 (3 : Int32)) (fun r4 => if r3 = r4 then if x5 ≤ x4 then some (0 : Int32) else some (1 : Int32) else if r3 ≤ r4 then some (0 : Int32) else some (1 : Int32))) else if r1 ≤ (0 : Int32) then some (0 : Int32) else some (1 : Int32))
def fX4_contest_86 (S : St) (x4 : Int32) (x5 : Int32) : Option (Bool × St × Int32) :=
  chk x5 64 (some (true, (pR S 18 x5 x4), (x4 + (1 : Int32))))
def bX4_contest_3 (x3 : Int32) (S : St) (x4 : Int32) : Option (Bool × St × Int32) :=
  if (gF S 3) ≤ x4 then some (false, S, x4) else chk x4 16 (if (gR S 16 x4) = (-1 : Int32) then some (true, S, (x4 + (1 : Int32))) else chk (gR S 16 x4) 64 (chk (gR S 16 x4) 64 (chk (gR S 16 x4) 64 (chk (gR S 16 x4) 64 (if (gR S 18 (gR S 16 x4)) = (-1 : Int32) then fX4_contest_86 (pF (pR S 17 (gR S 16 x4) ((gR S 17 (gR S 16 x4)) + (1 : Int32))) 33 (if (gF S 33) < (gR (pR S 17 (gR S 16 x4) ((gR S 17 (gR S 16 x4)) + (1 : Int32))) 17 (gR S 16 x4)) then (gR (pR S 17 (gR S 16 x4) ((gR S 17 (gR S 16 x4)) + (1 : Int32))) 17 (gR S 16 x4)) else (gF S 33))) x4 (gR S 16 x4) else chk (gR S 16 x4) 64 (bq1 (fX4_isAhead (pF (pR S 17 (gR S 16 x4) ((gR S 17 (gR S 16 x4)) + (1 : Int32))) 33 (if (gF S 33) < (gR (pR S 17 (gR S 16 x4) ((gR S 17 (gR S 16 x4)) + (1 : Int32))) 17 (gR S 16 x4)) then (gR (pR S 17 (gR S 16 x4) ((gR S 17 (gR S 16 x4)) + (1 : Int32))) 17 (gR S 16 x4)) else (gF S 33))) x3 x4 (gR S 18 (gR S 16 x4))) (fun r11 => if r11 = (0 : Int32) then some (true, (pF (pR S 17 (gR S 16 x4) ((gR S 17 (gR S 16 x4)) + (1 : Int32))) 33 (if (gF S 33) < (gR (pR S 17 (gR S 16 x4) ((gR S 17 (gR S 16 x4)) + (1 : Int32))) 17 (gR S 16 x4)) then (gR (pR S 17 (gR S 16 x4) ((gR S 17 (gR S 16 x4)) + (1 : Int32))) 17 (gR S 16 x4)) else (gF S 33))), (x4 + (1 : Int32))) else fX4_contest_86 (pF (pR S 17 (gR S 16 x4) ((gR S 17 (gR S 16 x4)) + (1 : Int32))) 33 (if (gF S 33) < (gR (pR S 17 (gR S 16 x4) ((gR S 17 (gR S 16 x4)) + (1 : Int32))) 17 (gR S 16 x4)) then (gR (pR S 17 (gR S 16 x4) ((gR S 17 (gR S 16 x4)) + (1 : Int32))) 17 (gR S 16 x4)) else (gF S 33))) x4 (gR S 16 x4))))))))
def fX4_contest (S : St) (x3 : Int32) : Option St :=
  bq2 (lp (fun q => bX4_contest_3 x3 q.1 q.2) fu (S, (0 : Int32))) (fun S13 y4_13 => some S13)
def bX4_move_2 (x2 : Int32) (S : St) (x3 : Int32) : Option (Bool × St × Int32) :=
  if (gF S 3) ≤ x3 then some (false, S, x3) else chk x3 16 (if (gR S 16 x3) = (-1 : Int32) then some (true, S, (x3 + (1 : Int32))) else chk (gR S 16 x3) 64 (if (gR S 18 (gR S 16 x3)) = x3 then chk x3 16 (chk x3 16 (chk x3 16 (chk x3 16 (some (true, (pR (pR (pR S 14 x3 ((gR S 14 x3) + (1 : Int32))) 15 x3 x2) 12 x3 x2), (x3 + (1 : Int32))))))) else chk x3 16 (chk x3 16 (some (true, (pR S 13 x3 ((gR S 13 x3) + (1 : Int32))), (x3 + (1 : Int32)))))))
def fX4_move (S : St) (x2 : Int32) : Option St :=
  bq2 (lp (fun q => bX4_move_2 x2 q.1 q.2) fu (S, (0 : Int32))) (fun S12 y3_12 => some S12)
def bX4_flow_45 (x3 : Int32) (x4 : Int32) (S : St) (x5 : Int32) : Option (Bool × St × Int32) :=
  if x4 < x5 then some (false, S, x5) else bq2 (fX4_look S) (fun r6 S6 => if r6 = (0 : Int32) then some (false, S6, x5) else bq1 (fX4_contest S6 x3) (fun S8 => bq1 (fX4_move S8 x5) (fun S9 => some (true, (pF S9 32 x5), (x5 + (1 : Int32))))))
def fX4_flow (S : St) (x3 : Int32) (x4 : Int32) : Option St :=
  bq1 (ffill_25 (pF (pF S 32 (0 : Int32)) 33 (0 : Int32)) (0 : Int32)) (fun S1 => bq1 (ffill_26 S1 (0 : Int32)) (fun S2 => bq1 (ffill_27 S2 (0 : Int32)) (fun S3 => bq1 (ffill_28 S3 (0 : Int32)) (fun S4 => bq2 (lp (fun q => bX4_flow_45 x3 x4 q.1 q.2) fu (S4, (1 : Int32))) (fun S10 y5_10 => some S10)))))
def bX4_mostDelayed_4 (S : St) (x1 : Int32) (x2 : Int32) (x3 : Int32) : Option (Bool × Int32 × Int32) :=
  if x1 ≤ x3 then some (false, x2, x3) else if x2 = (-1 : Int32) then some (true, x3, (x3 + (1 : Int32))) else chk x3 16 (chk x2 16 (if (gR S 13 x3) ≤ (gR S 13 x2) then some (true, x2, (x3 + (1 : Int32))) else some (true, x3, (x3 + (1 : Int32)))))
def fX4_mostDelayed (S : St) (x1 : Int32) : Option Int32 :=
  bq2 (lp (fun q => bX4_mostDelayed_4 S x1 q.1 q.2) fu ((-1 : Int32), (0 : Int32))) (fun y2_6 y3_6 => some y2_6)
def bX4_delayOfAll_4 (S : St) (x1 : Int32) (x2 : Int32) (x3 : Int32) : Option (Bool × Int32 × Int32) :=
  if x1 ≤ x3 then some (false, x2, x3) else chk x3 16 (some (true, (x2 + (gR S 13 x3)), (x3 + (1 : Int32))))
def fX4_delayOfAll (S : St) (x1 : Int32) : Option Int32 :=
  bq2 (lp (fun q => bX4_delayOfAll_4 S x1 q.1 q.2) fu ((0 : Int32), (0 : Int32))) (fun y2_3 y3_3 => some y2_3)
def fX6_runFact (S : St) (x1 : Int32) : Option Int32 :=
  bq1 (fX4_mostDelayed S (gF S 3)) (fun r1 => if x1 = (0 : Int32) then some (gF S 32) else if x1 = (1 : Int32) then bq1 (fX4_delayOfAll S (gF S 3)) (fun r4 => some r4) else if x1 = (2 : Int32) then if r1 = (-1 : Int32) then some (0 : Int32) else chk r1 16 (some (gR S 13 r1)) else if x1 = (3 : Int32) then some r1 else some (gF S 33))
def fX6_run_9 (S : St) : Option (Int32 × St) :=
  bq2 (fX6_refuse S (-2 : Int32)) (fun r2 S2 => some (r2, S2))
def fX6_run (S : St) (x1 : Int32) : Option (Int32 × St) :=
  if x1 < (0 : Int32) then fX6_run_9 S else if x1 ≤ (4 : Int32) then bq1 (fX5_follow S) (fun S4 => bq1 (fX4_flow S4 (gF S4 2) (400 : Int32)) (fun S5 => bq1 (fX6_runFact S5 x1) (fun r6 => some (r6, S5)))) else fX6_run_9 S
def fX6_ran_20 (S : St) : Option (Int32 × St) :=
  bq2 (fX6_refuse S (-2 : Int32)) (fun r3 S3 => some (r3, S3))
def fX6_ran_92 (S : St) (x1 : Int32) (x2 : Int32) (s0 : Int32) (s1 : Int32) : Option (Int32 × St) :=
  bq1 (fX4_flow S s1 s0) (fun S9 => if x2 = (0 : Int32) then chk x1 16 (some ((gR S9 12 x1), S9)) else if x2 = (1 : Int32) then chk x1 16 (some ((gR S9 13 x1), S9)) else chk x1 16 (bq1 (fX5_cornerBehind S9 x1 (gR S9 14 x1)) (fun r15 => some (r15, S9))))
def fX6_ran_50 (S : St) (x1 : Int32) (x2 : Int32) (x3 : Int32) : Option (Int32 × St) :=
  bq1 (fX5_follow S) (fun S7 => if x2 = (2 : Int32) then fX6_ran_92 S7 x1 x2 x3 (gF S7 2) else fX6_ran_92 S7 x1 x2 (400 : Int32) (gF S7 2))
def fX6_ran_43 (S : St) : Option (Int32 × St) :=
  bq2 (fX6_refuse S (-2 : Int32)) (fun r17 S17 => some (r17, S17))
def fX6_ran (S : St) (x1 : Int32) (x2 : Int32) (x3 : Int32) : Option (Int32 × St) :=
  bq1 (fX3_has S x1) (fun r1 => if r1 = (0 : Int32) then fX6_ran_20 S else if x2 < (0 : Int32) then fX6_ran_20 S else if x2 ≤ (2 : Int32) then if x2 = (2 : Int32) then if x3 < (0 : Int32) then fX6_ran_43 S else if x3 ≤ (400 : Int32) then fX6_ran_50 S x1 x2 x3 else fX6_ran_43 S else fX6_ran_50 S x1 x2 x3 else fX6_ran_20 S)
def fX6_best_9 (S : St) : Option (Int32 × St) :=
  bq2 (fX6_refuse S (-2 : Int32)) (fun r2 S2 => some (r2, S2))
def bX6_best_36 (S : St) (x2 : Int32) (x3 : Int32) (x4 : Int32) : Option (Bool × St × Int32 × Int32 × Int32) :=
  if (4 : Int32) ≤ x4 then some (false, S, x2, x3, x4) else bq1 (fX4_flow S x4 (400 : Int32)) (fun S6 => if x3 ≤ (gF S6 32) then some (true, S6, x2, x3, (x4 + (1 : Int32))) else some (true, S6, x4, (gF S6 32), (x4 + (1 : Int32))))
def fX6_best (S : St) (x1 : Int32) : Option (Int32 × St) :=
  if x1 < (0 : Int32) then fX6_best_9 S else if x1 ≤ (1 : Int32) then bq1 (fX5_follow S) (fun S4 => bq4 (lp (fun q => bX6_best_36 q.1 q.2.1 q.2.2.1 q.2.2.2) fu (S4, (0 : Int32), (400 : Int32), (0 : Int32))) (fun S8 y2_8 y3_8 y4_8 => if x1 = (0 : Int32) then some (y2_8, S8) else some (y3_8, S8))) else fX6_best_9 S
def bX6_straight_9 (S : St) (x1 : Int32) : Option (Bool × St × Int32) :=
  if (gF S 3) ≤ x1 then some (false, S, x1) else bq1 (fX3_trait S x1 (0 : Int32)) (fun r3 => bq1 (fX5_trace S x1 r3) (fun S4 => bq1 (fX1_add S4 x1 (1 : Int32)) (fun S5 => some (true, S5, (x1 + (1 : Int32))))))
def fX6_straight (S : St) : Option (Int32 × St) :=
  bq1 (fX1_empty S) (fun S1 => bq2 (lp (fun q => bX6_straight_9 q.1 q.2) fu (S1, (0 : Int32))) (fun S6 y1_6 => bq1 (fX6_loadsFact S6 (0 : Int32)) (fun r7 => some (r7, S6))))
def fX2_append (S : St) (x1 : Int32) : Option St :=
  if (120 : Int32) ≤ (gF S 34) then some S else chk (gF S 34) 120 (some (pF (pR S 19 (gF S 34) (vp_nar .byte (Int8.toInt32 (Int32.toInt8 x1)))) 34 ((gF S 34) + (1 : Int32))))
def fX6_type_11 (S : St) : Option (Int32 × St) :=
  bq2 (fX6_refuse S (-2 : Int32)) (fun r2 S2 => some (r2, S2))
def fX6_type (S : St) (x1 : Int32) : Option (Int32 × St) :=
  if x1 < (0 : Int32) then fX6_type_11 S else if x1 < (128 : Int32) then if (gF S 34) < (120 : Int32) then bq1 (fX2_append S x1) (fun S5 => some ((gF S5 34), S5)) else bq2 (fX6_refuse S (-4 : Int32)) (fun r6 S6 => some (r6, S6)) else fX6_type_11 S
def fX6_clear (S : St) : Option (Int32 × St) :=
  some ((gF S 34), (pF S 34 (0 : Int32)))
def bX2_skipBlanks_0 (S : St) : Option (Bool × St) :=
  if (gF S 34) ≤ (gF S 37) then some (false, S) else chk (gF S 37) 120 (if (gR S 19 (gF S 37)) = (32 : Int32) then some (true, (pF S 37 ((gF S 37) + (1 : Int32)))) else some (false, S))
def fX2_skipBlanks (S : St) : Option St :=
  bq1 (lp (fun q => bX2_skipBlanks_0 q) fu S) (fun S4 => some S4)
def fX2_failAt (S : St) (x1 : Int32) : Option St :=
  if (gF S 35) = (-1 : Int32) then some (pF S 35 x1) else some S
def bX2_readNumber_21 (x1 : Int32) (S : St) (x3 : Int32) : Option (Bool × St × Int32) :=
  if (gF S 34) ≤ (gF S 37) then some (false, S, x3) else chk (gF S 37) 120 (if (gR S 19 (gF S 37)) < (48 : Int32) then some (false, S, x3) else chk (gF S 37) 120 (if (57 : Int32) < (gR S 19 (gF S 37)) then some (false, S, x3) else chk (gF S 37) 120 (some (true, (pF S 37 ((gF S 37) + (1 : Int32))), (if x1 < ((((10 : Int32) * x3) + (gR S 19 (gF S 37))) - (48 : Int32)) then x1 else ((((10 : Int32) * x3) + (gR S 19 (gF S 37))) - (48 : Int32)))))))
def fX2_readNumber_118 (S : St) (x2 : Int32) (x3 : Int32) : Option (Int32 × St) :=
  bq1 (fX2_failAt S x2) (fun S11 => some (x3, S11))
def fX2_readNumber (S : St) (x1 : Int32) : Option (Int32 × St) :=
  if (gF S 35) = (-1 : Int32) then bq1 (fX2_skipBlanks S) (fun S2 => bq2 (lp (fun q => bX2_readNumber_21 x1 q.1 q.2) fu (S2, (0 : Int32))) (fun S9 y3_9 => if (gF S9 37) = (gF S2 37) then fX2_readNumber_118 S9 (gF S2 37) y3_9 else if (2 : Int32) < ((gF S9 37) - (gF S2 37)) then fX2_readNumber_118 S9 (gF S2 37) y3_9 else if y3_9 < x1 then some (y3_9, S9) else fX2_readNumber_118 S9 (gF S2 37) y3_9)) else some ((0 : Int32), S)
def fX2_takes (S : St) (x1 : Int32) : Option (Int32 × St) :=
  if (gF S 35) = (-1 : Int32) then bq1 (fX2_skipBlanks S) (fun S2 => if (gF S2 34) ≤ (gF S2 37) then some ((0 : Int32), S2) else chk (gF S2 37) 120 (if (gR S2 19 (gF S2 37)) = x1 then some ((1 : Int32), (pF S2 37 ((gF S2 37) + (1 : Int32)))) else some ((0 : Int32), S2))) else some ((0 : Int32), S)
def fX2_need (S : St) (x1 : Int32) : Option St :=
  bq2 (fX2_takes S x1) (fun r1 S1 => if r1 = (0 : Int32) then bq1 (fX2_failAt S1 (gF S1 37)) (fun S3 => some S3) else some S1)
def fX2_readParcel_78 (S : St) (x3 : Int32) (x4 : Int32) (x5 : Int32) (s0 : Int32) : Option St :=
  bq1 (fX2_need S (59 : Int32)) (fun S9 => if (gF S9 35) = (-1 : Int32) then chk (((gF S9 36) * (4 : Int32)) + (0 : Int32)) 64 (chk (((gF S9 36) * (4 : Int32)) + (1 : Int32)) 64 (chk (((gF S9 36) * (4 : Int32)) + (2 : Int32)) 64 (chk (((gF S9 36) * (4 : Int32)) + (3 : Int32)) 64 (some (pF (pR (pR (pR (pR S9 20 (((gF S9 36) * (4 : Int32)) + (0 : Int32)) x3) 20 (((gF S9 36) * (4 : Int32)) + (1 : Int32)) x4) 20 (((gF S9 36) * (4 : Int32)) + (2 : Int32)) x5) 20 (((gF S9 36) * (4 : Int32)) + (3 : Int32)) s0) 36 ((gF S9 36) + (1 : Int32))))))) else some S9)
def fX2_readParcel_57 (S : St) (x3 : Int32) (x4 : Int32) (s0 : Int32) : Option St :=
  bq2 (fX2_takes S (42 : Int32)) (fun r7 S7 => if r7 = (0 : Int32) then fX2_readParcel_78 S7 x3 x4 s0 (0 : Int32) else bq2 (fX2_readNumber S7 (100 : Int32)) (fun r15 S15 => fX2_readParcel_78 S15 x3 x4 s0 r15))
def fX2_readParcel (S : St) (x1 : Int32) (x2 : Int32) : Option St :=
  if (x1 + (gF S 36)) < (16 : Int32) then bq2 (fX2_readNumber S x2) (fun r2 S2 => bq1 (fX2_need S2 (62 : Int32)) (fun S3 => bq2 (fX2_readNumber S3 x2) (fun r4 S4 => bq2 (fX2_takes S4 (47 : Int32)) (fun r5 S5 => if r5 = (0 : Int32) then fX2_readParcel_57 S5 r2 r4 r2 else bq2 (fX2_readNumber S5 x2) (fun r16 S16 => fX2_readParcel_57 S16 r2 r4 r16))))) else bq1 (fX2_failAt S (gF S 37)) (fun S17 => some S17)
def bX2_read_40 (x1 : Int32) (x2 : Int32) (S : St) (x3 : Int32) : Option (Bool × St × Int32) :=
  if (120 : Int32) ≤ x3 then some (false, S, x3) else if (gF S 34) ≤ (gF S 37) then some (false, S, x3) else if (gF S 35) = (-1 : Int32) then bq1 (fX2_readParcel S x1 x2) (fun S6 => bq1 (fX2_skipBlanks S6) (fun S7 => some (true, S7, (x3 + (1 : Int32))))) else some (false, S, x3)
def fX2_read_38 (S : St) (x1 : Int32) (x2 : Int32) : Option St :=
  bq2 (lp (fun q => bX2_read_40 x1 x2 q.1 q.2) fu (S, (0 : Int32))) (fun S8 y3_8 => some S8)
def fX2_read (S : St) (x1 : Int32) (x2 : Int32) : Option St :=
  bq1 (fX2_skipBlanks (pF (pF (pF S 35 (-1 : Int32)) 36 (0 : Int32)) 37 (0 : Int32))) (fun S1 => if (gF S1 37) < (gF S1 34) then fX2_read_38 S1 x1 x2 else bq1 (fX2_failAt S1 (gF S1 34)) (fun S9 => fX2_read_38 S9 x1 x2))
def fX2_trait (S : St) (x1 : Int32) (x2 : Int32) : Option Int32 :=
  chk ((x1 * (4 : Int32)) + x2) 64 (some (gR S 20 ((x1 * (4 : Int32)) + x2)))
def bX6_reads_56 (S : St) (x1 : Int32) : Option (Bool × St × Int32) :=
  if (gF S 36) ≤ x1 then some (false, S, x1) else bq1 (fX2_trait S x1 (0 : Int32)) (fun r6 => bq1 (fX2_trait S x1 (1 : Int32)) (fun r7 => bq1 (fX2_trait S x1 (2 : Int32)) (fun r8 => bq1 (fX2_trait S x1 (3 : Int32)) (fun r9 => bq1 (fX3_add S r6 r7 r8 r9) (fun S10 => some (true, S10, (x1 + (1 : Int32))))))))
def fX6_reads (S : St) : Option (Int32 × St) :=
  bq1 (fX3_corners S) (fun r1 => bq1 (fX2_read S (gF S 3) r1) (fun S2 => if (gF S2 35) = (-1 : Int32) then bq1 (fX0_keep S2) (fun S4 => bq2 (lp (fun q => bX6_reads_56 q.1 q.2) fu (S4, (0 : Int32))) (fun S11 y1_11 => some ((gF S11 36), S11))) else some (((-10 : Int32) - (gF S2 35)), S2)))
def fX0_restore (S : St) : Option St :=
  if (gF S 30) = (0 : Int32) then some S else chk (gF S 31) 6 (bq1 (fX3_take 0 (1 + ((gF S 31)).toNatClampNeg) S) (fun S3 => some (pF (pF S3 31 ((((gF S3 31) + (6 : Int32)) - (1 : Int32)) - (((gF S3 31) + (6 : Int32)) - (1 : Int32)) / (6 : Int32) * (6 : Int32))) 30 ((gF S3 30) - (1 : Int32)))))
def fX6_back (S : St) : Option (Int32 × St) :=
  if (gF S 30) = (0 : Int32) then bq2 (fX6_refuse S (-3 : Int32)) (fun r3 S3 => some (r3, S3)) else bq1 (fX0_restore S) (fun S2 => some ((gF S2 30), S2))
def fX6_told_10 (S : St) : Option (Int32 × St) :=
  bq2 (fX6_refuse S (-2 : Int32)) (fun r2 S2 => some (r2, S2))
def fX6_told (S : St) (x1 : Int32) : Option (Int32 × St) :=
  if x1 < (0 : Int32) then fX6_told_10 S else if x1 ≤ (8 : Int32) then if x1 = (3 : Int32) then some ((gF S 34), S) else if x1 = (4 : Int32) then some ((gF S 0), S) else if x1 = (5 : Int32) then some ((gF S 3), S) else if x1 = (6 : Int32) then some ((gF S 1), S) else if x1 = (7 : Int32) then some ((gF S 2), S) else if x1 = (8 : Int32) then some ((gF S 30), S) else chk x1 3 (some ((gR S 7 x1), S)) else fX6_told_10 S
def bX6_digest_6 (S : St) (x1 : Int64) (x3 : Int32) : Option (Bool × St × Int64 × Int32) :=
  if (8 : Int32) < x3 then some (false, S, x1, x3) else bq2 (fX6_told S x3) (fun r2 S2 => some (true, S2, (((31 : Int64) * x1) + (Int32.toInt64 r2)), (x3 + (1 : Int32))))
def bX6_digest_51 (S : St) (x3 : Int32) (x1 : Int64) (x4 : Int32) : Option (Bool × Int64 × Int32) :=
  if (5 : Int32) < x4 then some (false, x1, x4) else bq1 (fX6_factOf S x3 x4) (fun r7 => some (true, (((31 : Int64) * x1) + (Int32.toInt64 r7)), (x4 + (1 : Int32))))
def bX6_digest_37 (S : St) (x1 : Int64) (x3 : Int32) : Option (Bool × Int64 × Int32) :=
  if (gF S 3) ≤ x3 then some (false, x1, x3) else bq2 (lp (fun q => bX6_digest_51 S x3 q.1 q.2) fu (x1, (0 : Int32))) (fun y1_8 y4_8 => some (true, y1_8, (x3 + (1 : Int32))))
def bX6_digest_110 (S : St) (x1 : Int64) (x3 : Int32) : Option (Bool × Int64 × Int32) :=
  if (2 : Int32) < x3 then some (false, x1, x3) else bq1 (fX6_loadsFact S x3) (fun r11 => some (true, (((31 : Int64) * x1) + (Int32.toInt64 r11)), (x3 + (1 : Int32))))
def bX6_digest_161 (S : St) (x1 : Int64) (x3 : Int32) : Option (Bool × Int64 × Int32) :=
  if (2 : Int32) < x3 then some (false, x1, x3) else bq1 (fX6_runFact S x3) (fun r15 => some (true, (((31 : Int64) * x1) + (Int32.toInt64 r15)), (x3 + (1 : Int32))))
def fX6_digest (S : St) : Option (Int64 × St) :=
  bq3 (lp (fun q => bX6_digest_6 q.1 q.2.1 q.2.2) fu (S, (2141 : Int64), (0 : Int32))) (fun S3 y1_3 y3_3 => bq1 (fX6_tallyWays S3) (fun S4 => bq2 (lp (fun q => bX6_digest_37 S4 q.1 q.2) fu (y1_3, (0 : Int32))) (fun y1_9 y3_9 => bq2 (lp (fun q => bX6_digest_110 S4 q.1 q.2) fu ((((31 : Int64) * (((31 : Int64) * y1_9) + (Int32.toInt64 (gF S4 28)))) + (Int32.toInt64 (gF S4 29))), (0 : Int32))) (fun y1_12 y3_12 => bq1 (fX4_flow S4 (gF S4 2) (400 : Int32)) (fun S13 => bq2 (lp (fun q => bX6_digest_161 S13 q.1 q.2) fu (y1_12, (0 : Int32))) (fun y1_16 y3_16 => some (y1_16, S13)))))))
end
