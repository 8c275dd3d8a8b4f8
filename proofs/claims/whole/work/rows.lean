section
-- ===== PART A: goes FIRST, ahead of the names: the tables' words, and 'selects' of the private methods out of them =====
/-- a private method of a class that the tables say can be made, by its rows of tables_1 -/
def lw_okq (q : MethodName × Nat) : Prop := (q.1.cls ≠ "java/lang/invoke/MethodHandle" ∧ q.1.cls ≠ "java/lang/invoke/VarHandle") ∧ Cond.instantiable q.1.cls q.2 ∈ tables_1 ∧ Cond.privateMethod q.1 ∈ tables_1 ∧ Cond.instanceMethod q.1 ∈ tables_1
theorem lw_p0 : lw_okq (⟨"WhenItWas", "isBook", "(I)Z"⟩, 12) := ⟨⟨by decide +kernel, by decide +kernel⟩, List.mem_of_getElem? (i := 18) (by decide +kernel), List.mem_of_getElem? (i := 328) (by decide +kernel), List.mem_of_getElem? (i := 329) (by decide +kernel)⟩
theorem lw_p1 : lw_okq (⟨"WhenItWas", "isThing", "(I)Z"⟩, 12) := ⟨⟨by decide +kernel, by decide +kernel⟩, List.mem_of_getElem? (i := 18) (by decide +kernel), List.mem_of_getElem? (i := 336) (by decide +kernel), List.mem_of_getElem? (i := 337) (by decide +kernel)⟩
theorem lw_p2 : lw_okq (⟨"WhenItWas", "areTwoThings", "(II)Z"⟩, 12) := ⟨⟨by decide +kernel, by decide +kernel⟩, List.mem_of_getElem? (i := 18) (by decide +kernel), List.mem_of_getElem? (i := 349) (by decide +kernel), List.mem_of_getElem? (i := 350) (by decide +kernel)⟩
theorem lw_p3 : lw_okq (⟨"WhenItWas", "found", "(I)I"⟩, 12) := ⟨⟨by decide +kernel, by decide +kernel⟩, List.mem_of_getElem? (i := 18) (by decide +kernel), List.mem_of_getElem? (i := 365) (by decide +kernel), List.mem_of_getElem? (i := 366) (by decide +kernel)⟩
theorem lw_p4 : lw_okq (⟨"WhenItWas", "tellFromSheet", "(II)I"⟩, 12) := ⟨⟨by decide +kernel, by decide +kernel⟩, List.mem_of_getElem? (i := 18) (by decide +kernel), List.mem_of_getElem? (i := 369) (by decide +kernel), List.mem_of_getElem? (i := 370) (by decide +kernel)⟩
theorem lw_p5 : lw_okq (⟨"WhenItWas", "isRow", "(I)Z"⟩, 12) := ⟨⟨by decide +kernel, by decide +kernel⟩, List.mem_of_getElem? (i := 18) (by decide +kernel), List.mem_of_getElem? (i := 383) (by decide +kernel), List.mem_of_getElem? (i := 384) (by decide +kernel)⟩
theorem lw_p6 : lw_okq (⟨"WhenItWas", "dayOfView", "()I"⟩, 12) := ⟨⟨by decide +kernel, by decide +kernel⟩, List.mem_of_getElem? (i := 18) (by decide +kernel), List.mem_of_getElem? (i := 392) (by decide +kernel), List.mem_of_getElem? (i := 393) (by decide +kernel)⟩
theorem lw_p7 : lw_okq (⟨"WhenItWas", "knownRows", "()J"⟩, 12) := ⟨⟨by decide +kernel, by decide +kernel⟩, List.mem_of_getElem? (i := 18) (by decide +kernel), List.mem_of_getElem? (i := 411) (by decide +kernel), List.mem_of_getElem? (i := 412) (by decide +kernel)⟩
theorem lw_p8 : lw_okq (⟨"WhenItWas$Net", "load", "(J)V"⟩, 13) := ⟨⟨by decide +kernel, by decide +kernel⟩, List.mem_of_getElem? (i := 26) (by decide +kernel), List.mem_of_getElem? (i := 425) (by decide +kernel), List.mem_of_getElem? (i := 426) (by decide +kernel)⟩
theorem lw_p9 : lw_okq (⟨"WhenItWas$Net", "addRow", "(I)V"⟩, 13) := ⟨⟨by decide +kernel, by decide +kernel⟩, List.mem_of_getElem? (i := 26) (by decide +kernel), List.mem_of_getElem? (i := 434) (by decide +kernel), List.mem_of_getElem? (i := 435) (by decide +kernel)⟩
theorem lw_p10 : lw_okq (⟨"WhenItWas$Net", "settle", "([IZ)Z"⟩, 13) := ⟨⟨by decide +kernel, by decide +kernel⟩, List.mem_of_getElem? (i := 26) (by decide +kernel), List.mem_of_getElem? (i := 441) (by decide +kernel), List.mem_of_getElem? (i := 442) (by decide +kernel)⟩
theorem lw_p11 : lw_okq (⟨"WhenItWas$Net", "sweep", "([IZ)Z"⟩, 13) := ⟨⟨by decide +kernel, by decide +kernel⟩, List.mem_of_getElem? (i := 26) (by decide +kernel), List.mem_of_getElem? (i := 448) (by decide +kernel), List.mem_of_getElem? (i := 449) (by decide +kernel)⟩
theorem lw_p12 : lw_okq (⟨"WhenItWas$Net", "turnFloorInto", "([I)V"⟩, 13) := ⟨⟨by decide +kernel, by decide +kernel⟩, List.mem_of_getElem? (i := 26) (by decide +kernel), List.mem_of_getElem? (i := 469) (by decide +kernel), List.mem_of_getElem? (i := 470) (by decide +kernel)⟩
theorem lw_p13 : lw_okq (⟨"WhenItWas$Net", "stepOnce", "(Z)V"⟩, 13) := ⟨⟨by decide +kernel, by decide +kernel⟩, List.mem_of_getElem? (i := 26) (by decide +kernel), List.mem_of_getElem? (i := 508) (by decide +kernel), List.mem_of_getElem? (i := 509) (by decide +kernel)⟩
theorem lw_p14 : lw_okq (⟨"WhenItWas", "isFitting", "(I)Z"⟩, 12) := ⟨⟨by decide +kernel, by decide +kernel⟩, List.mem_of_getElem? (i := 18) (by decide +kernel), List.mem_of_getElem? (i := 535) (by decide +kernel), List.mem_of_getElem? (i := 536) (by decide +kernel)⟩
theorem lw_p15 : lw_okq (⟨"WhenItWas", "areApartAsTold", "(I)Z"⟩, 12) := ⟨⟨by decide +kernel, by decide +kernel⟩, List.mem_of_getElem? (i := 18) (by decide +kernel), List.mem_of_getElem? (i := 540) (by decide +kernel), List.mem_of_getElem? (i := 541) (by decide +kernel)⟩
def lw_privs_1 : List (MethodName × Nat) := [(⟨"WhenItWas", "isBook", "(I)Z"⟩, 12), (⟨"WhenItWas", "isThing", "(I)Z"⟩, 12), (⟨"WhenItWas", "areTwoThings", "(II)Z"⟩, 12), (⟨"WhenItWas", "found", "(I)I"⟩, 12), (⟨"WhenItWas", "tellFromSheet", "(II)I"⟩, 12), (⟨"WhenItWas", "isRow", "(I)Z"⟩, 12), (⟨"WhenItWas", "dayOfView", "()I"⟩, 12), (⟨"WhenItWas", "knownRows", "()J"⟩, 12), (⟨"WhenItWas$Net", "load", "(J)V"⟩, 13), (⟨"WhenItWas$Net", "addRow", "(I)V"⟩, 13), (⟨"WhenItWas$Net", "settle", "([IZ)Z"⟩, 13), (⟨"WhenItWas$Net", "sweep", "([IZ)Z"⟩, 13), (⟨"WhenItWas$Net", "turnFloorInto", "([I)V"⟩, 13), (⟨"WhenItWas$Net", "stepOnce", "(Z)V"⟩, 13), (⟨"WhenItWas", "isFitting", "(I)Z"⟩, 12), (⟨"WhenItWas", "areApartAsTold", "(I)Z"⟩, 12)]
theorem lw_r1 : ∀ q ∈ lw_privs_1, lw_okq q := List.forall_mem_cons.mpr ⟨lw_p0, List.forall_mem_cons.mpr ⟨lw_p1, List.forall_mem_cons.mpr ⟨lw_p2, List.forall_mem_cons.mpr ⟨lw_p3, List.forall_mem_cons.mpr ⟨lw_p4, List.forall_mem_cons.mpr ⟨lw_p5, List.forall_mem_cons.mpr ⟨lw_p6, List.forall_mem_cons.mpr ⟨lw_p7, List.forall_mem_cons.mpr ⟨lw_p8, List.forall_mem_cons.mpr ⟨lw_p9, List.forall_mem_cons.mpr ⟨lw_p10, List.forall_mem_cons.mpr ⟨lw_p11, List.forall_mem_cons.mpr ⟨lw_p12, List.forall_mem_cons.mpr ⟨lw_p13, List.forall_mem_cons.mpr ⟨lw_p14, List.forall_mem_cons.mpr ⟨lw_p15, fun _ h => absurd h List.not_mem_nil⟩⟩⟩⟩⟩⟩⟩⟩⟩⟩⟩⟩⟩⟩⟩⟩
theorem lw_p16 : lw_okq (⟨"WhenItWas", "areClocksPossible", "(I)Z"⟩, 12) := ⟨⟨by decide +kernel, by decide +kernel⟩, List.mem_of_getElem? (i := 18) (by decide +kernel), List.mem_of_getElem? (i := 544) (by decide +kernel), List.mem_of_getElem? (i := 545) (by decide +kernel)⟩
theorem lw_p17 : lw_okq (⟨"WhenItWas", "roomByDays", "(II)I"⟩, 12) := ⟨⟨by decide +kernel, by decide +kernel⟩, List.mem_of_getElem? (i := 18) (by decide +kernel), List.mem_of_getElem? (i := 548) (by decide +kernel), List.mem_of_getElem? (i := 549) (by decide +kernel)⟩
theorem lw_p18 : lw_okq (⟨"WhenItWas$Kin", "weigh", "(I)V"⟩, 4) := ⟨⟨by decide +kernel, by decide +kernel⟩, List.mem_of_getElem? (i := 197) (by decide +kernel), List.mem_of_getElem? (i := 580) (by decide +kernel), List.mem_of_getElem? (i := 581) (by decide +kernel)⟩
theorem lw_p19 : lw_okq (⟨"WhenItWas", "lookForDoubts", "(J)I"⟩, 12) := ⟨⟨by decide +kernel, by decide +kernel⟩, List.mem_of_getElem? (i := 18) (by decide +kernel), List.mem_of_getElem? (i := 596) (by decide +kernel), List.mem_of_getElem? (i := 597) (by decide +kernel)⟩
theorem lw_p20 : lw_okq (⟨"WhenItWas$Doubt", "tryAllOfSize", "(LWhenItWas$Net;JI)V"⟩, 5) := ⟨⟨by decide +kernel, by decide +kernel⟩, List.mem_of_getElem? (i := 150) (by decide +kernel), List.mem_of_getElem? (i := 615) (by decide +kernel), List.mem_of_getElem? (i := 616) (by decide +kernel)⟩
theorem lw_p21 : lw_okq (⟨"WhenItWas$Doubt", "rowsOf", "(I)J"⟩, 5) := ⟨⟨by decide +kernel, by decide +kernel⟩, List.mem_of_getElem? (i := 150) (by decide +kernel), List.mem_of_getElem? (i := 625) (by decide +kernel), List.mem_of_getElem? (i := 626) (by decide +kernel)⟩
theorem lw_p22 : lw_okq (⟨"WhenItWas$Doubt", "trustOf", "(LWhenItWas$Net;I)I"⟩, 5) := ⟨⟨by decide +kernel, by decide +kernel⟩, List.mem_of_getElem? (i := 150) (by decide +kernel), List.mem_of_getElem? (i := 631) (by decide +kernel), List.mem_of_getElem? (i := 632) (by decide +kernel)⟩
theorem lw_p23 : lw_okq (⟨"WhenItWas$Doubt", "keep", "(JI)V"⟩, 5) := ⟨⟨by decide +kernel, by decide +kernel⟩, List.mem_of_getElem? (i := 150) (by decide +kernel), List.mem_of_getElem? (i := 635) (by decide +kernel), List.mem_of_getElem? (i := 636) (by decide +kernel)⟩
theorem lw_p24 : lw_okq (⟨"WhenItWas$Doubt", "blameAll", "(I)V"⟩, 5) := ⟨⟨by decide +kernel, by decide +kernel⟩, List.mem_of_getElem? (i := 150) (by decide +kernel), List.mem_of_getElem? (i := 639) (by decide +kernel), List.mem_of_getElem? (i := 640) (by decide +kernel)⟩
theorem lw_p25 : lw_okq (⟨"WhenItWas", "layLines", "()Z"⟩, 12) := ⟨⟨by decide +kernel, by decide +kernel⟩, List.mem_of_getElem? (i := 18) (by decide +kernel), List.mem_of_getElem? (i := 655) (by decide +kernel), List.mem_of_getElem? (i := 656) (by decide +kernel)⟩
theorem lw_p26 : lw_okq (⟨"WhenItWas$Lines", "mayFollow", "(II)Z"⟩, 5) := ⟨⟨by decide +kernel, by decide +kernel⟩, List.mem_of_getElem? (i := 174) (by decide +kernel), List.mem_of_getElem? (i := 672) (by decide +kernel), List.mem_of_getElem? (i := 673) (by decide +kernel)⟩
theorem lw_p27 : lw_okq (⟨"WhenItWas$Lines", "countWaysOn", "()V"⟩, 5) := ⟨⟨by decide +kernel, by decide +kernel⟩, List.mem_of_getElem? (i := 174) (by decide +kernel), List.mem_of_getElem? (i := 696) (by decide +kernel), List.mem_of_getElem? (i := 697) (by decide +kernel)⟩
theorem lw_p28 : lw_okq (⟨"WhenItWas$Lines", "countPairs", "()V"⟩, 5) := ⟨⟨by decide +kernel, by decide +kernel⟩, List.mem_of_getElem? (i := 174) (by decide +kernel), List.mem_of_getElem? (i := 700) (by decide +kernel), List.mem_of_getElem? (i := 701) (by decide +kernel)⟩
theorem lw_p29 : lw_okq (⟨"WhenItWas$Lines", "addToPairs", "(III)V"⟩, 5) := ⟨⟨by decide +kernel, by decide +kernel⟩, List.mem_of_getElem? (i := 174) (by decide +kernel), List.mem_of_getElem? (i := 704) (by decide +kernel), List.mem_of_getElem? (i := 705) (by decide +kernel)⟩
theorem lw_p30 : lw_okq (⟨"WhenItWas$Lines", "isSure", "(II)Z"⟩, 5) := ⟨⟨by decide +kernel, by decide +kernel⟩, List.mem_of_getElem? (i := 174) (by decide +kernel), List.mem_of_getElem? (i := 709) (by decide +kernel), List.mem_of_getElem? (i := 710) (by decide +kernel)⟩
theorem lw_p31 : lw_okq (⟨"WhenItWas$Dates", "readDate", "()I"⟩, 7) := ⟨⟨by decide +kernel, by decide +kernel⟩, List.mem_of_getElem? (i := 219) (by decide +kernel), List.mem_of_getElem? (i := 772) (by decide +kernel), List.mem_of_getElem? (i := 773) (by decide +kernel)⟩
def lw_privs_2 : List (MethodName × Nat) := [(⟨"WhenItWas", "areClocksPossible", "(I)Z"⟩, 12), (⟨"WhenItWas", "roomByDays", "(II)I"⟩, 12), (⟨"WhenItWas$Kin", "weigh", "(I)V"⟩, 4), (⟨"WhenItWas", "lookForDoubts", "(J)I"⟩, 12), (⟨"WhenItWas$Doubt", "tryAllOfSize", "(LWhenItWas$Net;JI)V"⟩, 5), (⟨"WhenItWas$Doubt", "rowsOf", "(I)J"⟩, 5), (⟨"WhenItWas$Doubt", "trustOf", "(LWhenItWas$Net;I)I"⟩, 5), (⟨"WhenItWas$Doubt", "keep", "(JI)V"⟩, 5), (⟨"WhenItWas$Doubt", "blameAll", "(I)V"⟩, 5), (⟨"WhenItWas", "layLines", "()Z"⟩, 12), (⟨"WhenItWas$Lines", "mayFollow", "(II)Z"⟩, 5), (⟨"WhenItWas$Lines", "countWaysOn", "()V"⟩, 5), (⟨"WhenItWas$Lines", "countPairs", "()V"⟩, 5), (⟨"WhenItWas$Lines", "addToPairs", "(III)V"⟩, 5), (⟨"WhenItWas$Lines", "isSure", "(II)Z"⟩, 5), (⟨"WhenItWas$Dates", "readDate", "()I"⟩, 7)]
theorem lw_r2 : ∀ q ∈ lw_privs_2, lw_okq q := List.forall_mem_cons.mpr ⟨lw_p16, List.forall_mem_cons.mpr ⟨lw_p17, List.forall_mem_cons.mpr ⟨lw_p18, List.forall_mem_cons.mpr ⟨lw_p19, List.forall_mem_cons.mpr ⟨lw_p20, List.forall_mem_cons.mpr ⟨lw_p21, List.forall_mem_cons.mpr ⟨lw_p22, List.forall_mem_cons.mpr ⟨lw_p23, List.forall_mem_cons.mpr ⟨lw_p24, List.forall_mem_cons.mpr ⟨lw_p25, List.forall_mem_cons.mpr ⟨lw_p26, List.forall_mem_cons.mpr ⟨lw_p27, List.forall_mem_cons.mpr ⟨lw_p28, List.forall_mem_cons.mpr ⟨lw_p29, List.forall_mem_cons.mpr ⟨lw_p30, List.forall_mem_cons.mpr ⟨lw_p31, fun _ h => absurd h List.not_mem_nil⟩⟩⟩⟩⟩⟩⟩⟩⟩⟩⟩⟩⟩⟩⟩⟩
theorem lw_p32 : lw_okq (⟨"WhenItWas$Dates", "readNumber", "(II)I"⟩, 7) := ⟨⟨by decide +kernel, by decide +kernel⟩, List.mem_of_getElem? (i := 219) (by decide +kernel), List.mem_of_getElem? (i := 776) (by decide +kernel), List.mem_of_getElem? (i := 777) (by decide +kernel)⟩
theorem lw_p33 : lw_okq (⟨"WhenItWas$Dates", "signHere", "()I"⟩, 7) := ⟨⟨by decide +kernel, by decide +kernel⟩, List.mem_of_getElem? (i := 219) (by decide +kernel), List.mem_of_getElem? (i := 780) (by decide +kernel), List.mem_of_getElem? (i := 781) (by decide +kernel)⟩
theorem lw_p34 : lw_okq (⟨"WhenItWas$Dates", "readDot", "()I"⟩, 7) := ⟨⟨by decide +kernel, by decide +kernel⟩, List.mem_of_getElem? (i := 219) (by decide +kernel), List.mem_of_getElem? (i := 787) (by decide +kernel), List.mem_of_getElem? (i := 788) (by decide +kernel)⟩
theorem lw_p35 : lw_okq (⟨"WhenItWas$Dates", "readLetter", "(IIII)I"⟩, 7) := ⟨⟨by decide +kernel, by decide +kernel⟩, List.mem_of_getElem? (i := 219) (by decide +kernel), List.mem_of_getElem? (i := 791) (by decide +kernel), List.mem_of_getElem? (i := 792) (by decide +kernel)⟩
theorem lw_p36 : lw_okq (⟨"WhenItWas$Dates", "readSecond", "()I"⟩, 7) := ⟨⟨by decide +kernel, by decide +kernel⟩, List.mem_of_getElem? (i := 219) (by decide +kernel), List.mem_of_getElem? (i := 798) (by decide +kernel), List.mem_of_getElem? (i := 799) (by decide +kernel)⟩
theorem lw_p37 : lw_okq (⟨"WhenItWas", "digestSpans", "(J)J"⟩, 12) := ⟨⟨by decide +kernel, by decide +kernel⟩, List.mem_of_getElem? (i := 18) (by decide +kernel), List.mem_of_getElem? (i := 879) (by decide +kernel), List.mem_of_getElem? (i := 880) (by decide +kernel)⟩
theorem lw_p38 : lw_okq (⟨"WhenItWasModel", "isBook", "(I)Z"⟩, 42) := ⟨⟨by decide +kernel, by decide +kernel⟩, List.mem_of_getElem? (i := 884) (by decide +kernel), List.mem_of_getElem? (i := 1038) (by decide +kernel), List.mem_of_getElem? (i := 1039) (by decide +kernel)⟩
theorem lw_p39 : lw_okq (⟨"WhenItWasModel", "onMore", "(IIII)I"⟩, 42) := ⟨⟨by decide +kernel, by decide +kernel⟩, List.mem_of_getElem? (i := 884) (by decide +kernel), List.mem_of_getElem? (i := 1046) (by decide +kernel), List.mem_of_getElem? (i := 1047) (by decide +kernel)⟩
theorem lw_p40 : lw_okq (⟨"WhenItWasModel", "isThing", "(I)Z"⟩, 42) := ⟨⟨by decide +kernel, by decide +kernel⟩, List.mem_of_getElem? (i := 884) (by decide +kernel), List.mem_of_getElem? (i := 1050) (by decide +kernel), List.mem_of_getElem? (i := 1051) (by decide +kernel)⟩
theorem lw_p41 : lw_okq (⟨"WhenItWasModel", "rowMore", "(IIIII)I"⟩, 42) := ⟨⟨by decide +kernel, by decide +kernel⟩, List.mem_of_getElem? (i := 884) (by decide +kernel), List.mem_of_getElem? (i := 1056) (by decide +kernel), List.mem_of_getElem? (i := 1057) (by decide +kernel)⟩
theorem lw_p42 : lw_okq (⟨"WhenItWasModel", "apartMore", "(IIIII)I"⟩, 42) := ⟨⟨by decide +kernel, by decide +kernel⟩, List.mem_of_getElem? (i := 884) (by decide +kernel), List.mem_of_getElem? (i := 1064) (by decide +kernel), List.mem_of_getElem? (i := 1065) (by decide +kernel)⟩
theorem lw_p43 : lw_okq (⟨"WhenItWasModel", "meets", "(I)I"⟩, 42) := ⟨⟨by decide +kernel, by decide +kernel⟩, List.mem_of_getElem? (i := 884) (by decide +kernel), List.mem_of_getElem? (i := 1077) (by decide +kernel), List.mem_of_getElem? (i := 1078) (by decide +kernel)⟩
theorem lw_p44 : lw_okq (⟨"WhenItWasModel", "aboutOf", "(II)I"⟩, 42) := ⟨⟨by decide +kernel, by decide +kernel⟩, List.mem_of_getElem? (i := 884) (by decide +kernel), List.mem_of_getElem? (i := 1089) (by decide +kernel), List.mem_of_getElem? (i := 1090) (by decide +kernel)⟩
theorem lw_p45 : lw_okq (⟨"WhenItWasModel", "isKnown", "(I)Z"⟩, 42) := ⟨⟨by decide +kernel, by decide +kernel⟩, List.mem_of_getElem? (i := 884) (by decide +kernel), List.mem_of_getElem? (i := 1093) (by decide +kernel), List.mem_of_getElem? (i := 1094) (by decide +kernel)⟩
theorem lw_p46 : lw_okq (⟨"WhenItWasModel", "isKnownTo", "(II)Z"⟩, 42) := ⟨⟨by decide +kernel, by decide +kernel⟩, List.mem_of_getElem? (i := 884) (by decide +kernel), List.mem_of_getElem? (i := 1097) (by decide +kernel), List.mem_of_getElem? (i := 1098) (by decide +kernel)⟩
theorem lw_p47 : lw_okq (⟨"WhenItWasModel", "knownNow", "()J"⟩, 42) := ⟨⟨by decide +kernel, by decide +kernel⟩, List.mem_of_getElem? (i := 884) (by decide +kernel), List.mem_of_getElem? (i := 1110) (by decide +kernel), List.mem_of_getElem? (i := 1111) (by decide +kernel)⟩
def lw_privs_3 : List (MethodName × Nat) := [(⟨"WhenItWas$Dates", "readNumber", "(II)I"⟩, 7), (⟨"WhenItWas$Dates", "signHere", "()I"⟩, 7), (⟨"WhenItWas$Dates", "readDot", "()I"⟩, 7), (⟨"WhenItWas$Dates", "readLetter", "(IIII)I"⟩, 7), (⟨"WhenItWas$Dates", "readSecond", "()I"⟩, 7), (⟨"WhenItWas", "digestSpans", "(J)J"⟩, 12), (⟨"WhenItWasModel", "isBook", "(I)Z"⟩, 42), (⟨"WhenItWasModel", "onMore", "(IIII)I"⟩, 42), (⟨"WhenItWasModel", "isThing", "(I)Z"⟩, 42), (⟨"WhenItWasModel", "rowMore", "(IIIII)I"⟩, 42), (⟨"WhenItWasModel", "apartMore", "(IIIII)I"⟩, 42), (⟨"WhenItWasModel", "meets", "(I)I"⟩, 42), (⟨"WhenItWasModel", "aboutOf", "(II)I"⟩, 42), (⟨"WhenItWasModel", "isKnown", "(I)Z"⟩, 42), (⟨"WhenItWasModel", "isKnownTo", "(II)Z"⟩, 42), (⟨"WhenItWasModel", "knownNow", "()J"⟩, 42)]
theorem lw_r3 : ∀ q ∈ lw_privs_3, lw_okq q := List.forall_mem_cons.mpr ⟨lw_p32, List.forall_mem_cons.mpr ⟨lw_p33, List.forall_mem_cons.mpr ⟨lw_p34, List.forall_mem_cons.mpr ⟨lw_p35, List.forall_mem_cons.mpr ⟨lw_p36, List.forall_mem_cons.mpr ⟨lw_p37, List.forall_mem_cons.mpr ⟨lw_p38, List.forall_mem_cons.mpr ⟨lw_p39, List.forall_mem_cons.mpr ⟨lw_p40, List.forall_mem_cons.mpr ⟨lw_p41, List.forall_mem_cons.mpr ⟨lw_p42, List.forall_mem_cons.mpr ⟨lw_p43, List.forall_mem_cons.mpr ⟨lw_p44, List.forall_mem_cons.mpr ⟨lw_p45, List.forall_mem_cons.mpr ⟨lw_p46, List.forall_mem_cons.mpr ⟨lw_p47, fun _ h => absurd h List.not_mem_nil⟩⟩⟩⟩⟩⟩⟩⟩⟩⟩⟩⟩⟩⟩⟩⟩
theorem lw_p48 : lw_okq (⟨"WhenItWasModel", "knownBits", "(I)J"⟩, 42) := ⟨⟨by decide +kernel, by decide +kernel⟩, List.mem_of_getElem? (i := 884) (by decide +kernel), List.mem_of_getElem? (i := 1114) (by decide +kernel), List.mem_of_getElem? (i := 1115) (by decide +kernel)⟩
theorem lw_p49 : lw_okq (⟨"WhenItWasModel", "works", "(J)Z"⟩, 42) := ⟨⟨by decide +kernel, by decide +kernel⟩, List.mem_of_getElem? (i := 884) (by decide +kernel), List.mem_of_getElem? (i := 1119) (by decide +kernel), List.mem_of_getElem? (i := 1120) (by decide +kernel)⟩
theorem lw_p50 : lw_okq (⟨"WhenItWasModel", "atMost", "(III)V"⟩, 42) := ⟨⟨by decide +kernel, by decide +kernel⟩, List.mem_of_getElem? (i := 884) (by decide +kernel), List.mem_of_getElem? (i := 1124) (by decide +kernel), List.mem_of_getElem? (i := 1125) (by decide +kernel)⟩
theorem lw_p51 : lw_okq (⟨"WhenItWasModel", "leansOn", "(I)I"⟩, 42) := ⟨⟨by decide +kernel, by decide +kernel⟩, List.mem_of_getElem? (i := 884) (by decide +kernel), List.mem_of_getElem? (i := 1128) (by decide +kernel), List.mem_of_getElem? (i := 1129) (by decide +kernel)⟩
theorem lw_p52 : lw_okq (⟨"WhenItWasModel", "canAll", "()Z"⟩, 42) := ⟨⟨by decide +kernel, by decide +kernel⟩, List.mem_of_getElem? (i := 884) (by decide +kernel), List.mem_of_getElem? (i := 1136) (by decide +kernel), List.mem_of_getElem? (i := 1137) (by decide +kernel)⟩
theorem lw_p53 : lw_okq (⟨"WhenItWasModel", "endOf", "(II)I"⟩, 42) := ⟨⟨by decide +kernel, by decide +kernel⟩, List.mem_of_getElem? (i := 884) (by decide +kernel), List.mem_of_getElem? (i := 1144) (by decide +kernel), List.mem_of_getElem? (i := 1145) (by decide +kernel)⟩
theorem lw_p54 : lw_okq (⟨"WhenItWasModel", "clockEnd", "(II)I"⟩, 42) := ⟨⟨by decide +kernel, by decide +kernel⟩, List.mem_of_getElem? (i := 884) (by decide +kernel), List.mem_of_getElem? (i := 1153) (by decide +kernel), List.mem_of_getElem? (i := 1154) (by decide +kernel)⟩
theorem lw_p55 : lw_okq (⟨"WhenItWasModel", "areTwo", "(II)Z"⟩, 42) := ⟨⟨by decide +kernel, by decide +kernel⟩, List.mem_of_getElem? (i := 884) (by decide +kernel), List.mem_of_getElem? (i := 1161) (by decide +kernel), List.mem_of_getElem? (i := 1162) (by decide +kernel)⟩
theorem lw_p56 : lw_okq (⟨"WhenItWasModel", "nears", "(III)Z"⟩, 42) := ⟨⟨by decide +kernel, by decide +kernel⟩, List.mem_of_getElem? (i := 884) (by decide +kernel), List.mem_of_getElem? (i := 1171) (by decide +kernel), List.mem_of_getElem? (i := 1172) (by decide +kernel)⟩
theorem lw_p57 : lw_okq (⟨"WhenItWasModel", "isOther", "(II)Z"⟩, 42) := ⟨⟨by decide +kernel, by decide +kernel⟩, List.mem_of_getElem? (i := 884) (by decide +kernel), List.mem_of_getElem? (i := 1179) (by decide +kernel), List.mem_of_getElem? (i := 1180) (by decide +kernel)⟩
theorem lw_p58 : lw_okq (⟨"WhenItWasModel", "isFitting", "(I)Z"⟩, 42) := ⟨⟨by decide +kernel, by decide +kernel⟩, List.mem_of_getElem? (i := 884) (by decide +kernel), List.mem_of_getElem? (i := 1187) (by decide +kernel), List.mem_of_getElem? (i := 1188) (by decide +kernel)⟩
theorem lw_p59 : lw_okq (⟨"WhenItWasModel", "latest", "(II)I"⟩, 42) := ⟨⟨by decide +kernel, by decide +kernel⟩, List.mem_of_getElem? (i := 884) (by decide +kernel), List.mem_of_getElem? (i := 1199) (by decide +kernel), List.mem_of_getElem? (i := 1200) (by decide +kernel)⟩
theorem lw_p60 : lw_okq (⟨"WhenItWasModel", "doubtsNow", "()I"⟩, 42) := ⟨⟨by decide +kernel, by decide +kernel⟩, List.mem_of_getElem? (i := 884) (by decide +kernel), List.mem_of_getElem? (i := 1213) (by decide +kernel), List.mem_of_getElem? (i := 1214) (by decide +kernel)⟩
theorem lw_p61 : lw_okq (⟨"WhenItWasModel", "bitsOf", "(I)J"⟩, 42) := ⟨⟨by decide +kernel, by decide +kernel⟩, List.mem_of_getElem? (i := 884) (by decide +kernel), List.mem_of_getElem? (i := 1220) (by decide +kernel), List.mem_of_getElem? (i := 1221) (by decide +kernel)⟩
theorem lw_p62 : lw_okq (⟨"WhenItWasModel", "trustOfSet", "(I)I"⟩, 42) := ⟨⟨by decide +kernel, by decide +kernel⟩, List.mem_of_getElem? (i := 884) (by decide +kernel), List.mem_of_getElem? (i := 1224) (by decide +kernel), List.mem_of_getElem? (i := 1225) (by decide +kernel)⟩
theorem lw_p63 : lw_okq (⟨"WhenItWasModel", "sures", "()Z"⟩, 42) := ⟨⟨by decide +kernel, by decide +kernel⟩, List.mem_of_getElem? (i := 884) (by decide +kernel), List.mem_of_getElem? (i := 1237) (by decide +kernel), List.mem_of_getElem? (i := 1238) (by decide +kernel)⟩
def lw_privs_4 : List (MethodName × Nat) := [(⟨"WhenItWasModel", "knownBits", "(I)J"⟩, 42), (⟨"WhenItWasModel", "works", "(J)Z"⟩, 42), (⟨"WhenItWasModel", "atMost", "(III)V"⟩, 42), (⟨"WhenItWasModel", "leansOn", "(I)I"⟩, 42), (⟨"WhenItWasModel", "canAll", "()Z"⟩, 42), (⟨"WhenItWasModel", "endOf", "(II)I"⟩, 42), (⟨"WhenItWasModel", "clockEnd", "(II)I"⟩, 42), (⟨"WhenItWasModel", "areTwo", "(II)Z"⟩, 42), (⟨"WhenItWasModel", "nears", "(III)Z"⟩, 42), (⟨"WhenItWasModel", "isOther", "(II)Z"⟩, 42), (⟨"WhenItWasModel", "isFitting", "(I)Z"⟩, 42), (⟨"WhenItWasModel", "latest", "(II)I"⟩, 42), (⟨"WhenItWasModel", "doubtsNow", "()I"⟩, 42), (⟨"WhenItWasModel", "bitsOf", "(I)J"⟩, 42), (⟨"WhenItWasModel", "trustOfSet", "(I)I"⟩, 42), (⟨"WhenItWasModel", "sures", "()Z"⟩, 42)]
theorem lw_r4 : ∀ q ∈ lw_privs_4, lw_okq q := List.forall_mem_cons.mpr ⟨lw_p48, List.forall_mem_cons.mpr ⟨lw_p49, List.forall_mem_cons.mpr ⟨lw_p50, List.forall_mem_cons.mpr ⟨lw_p51, List.forall_mem_cons.mpr ⟨lw_p52, List.forall_mem_cons.mpr ⟨lw_p53, List.forall_mem_cons.mpr ⟨lw_p54, List.forall_mem_cons.mpr ⟨lw_p55, List.forall_mem_cons.mpr ⟨lw_p56, List.forall_mem_cons.mpr ⟨lw_p57, List.forall_mem_cons.mpr ⟨lw_p58, List.forall_mem_cons.mpr ⟨lw_p59, List.forall_mem_cons.mpr ⟨lw_p60, List.forall_mem_cons.mpr ⟨lw_p61, List.forall_mem_cons.mpr ⟨lw_p62, List.forall_mem_cons.mpr ⟨lw_p63, fun _ h => absurd h List.not_mem_nil⟩⟩⟩⟩⟩⟩⟩⟩⟩⟩⟩⟩⟩⟩⟩⟩
theorem lw_p64 : lw_okq (⟨"WhenItWasModel", "ordersNow", "()J"⟩, 42) := ⟨⟨by decide +kernel, by decide +kernel⟩, List.mem_of_getElem? (i := 884) (by decide +kernel), List.mem_of_getElem? (i := 1245) (by decide +kernel), List.mem_of_getElem? (i := 1246) (by decide +kernel)⟩
theorem lw_p65 : lw_okq (⟨"WhenItWasModel", "ordersBut", "(I)J"⟩, 42) := ⟨⟨by decide +kernel, by decide +kernel⟩, List.mem_of_getElem? (i := 884) (by decide +kernel), List.mem_of_getElem? (i := 1249) (by decide +kernel), List.mem_of_getElem? (i := 1250) (by decide +kernel)⟩
theorem lw_p66 : lw_okq (⟨"WhenItWasModel", "ordersWith", "(II)J"⟩, 42) := ⟨⟨by decide +kernel, by decide +kernel⟩, List.mem_of_getElem? (i := 884) (by decide +kernel), List.mem_of_getElem? (i := 1257) (by decide +kernel), List.mem_of_getElem? (i := 1258) (by decide +kernel)⟩
theorem lw_p67 : lw_okq (⟨"WhenItWasModel", "faultNow", "()I"⟩, 42) := ⟨⟨by decide +kernel, by decide +kernel⟩, List.mem_of_getElem? (i := 884) (by decide +kernel), List.mem_of_getElem? (i := 1304) (by decide +kernel), List.mem_of_getElem? (i := 1305) (by decide +kernel)⟩
theorem lw_p68 : lw_okq (⟨"WhenItWasModel", "date", "()I"⟩, 42) := ⟨⟨by decide +kernel, by decide +kernel⟩, List.mem_of_getElem? (i := 884) (by decide +kernel), List.mem_of_getElem? (i := 1308) (by decide +kernel), List.mem_of_getElem? (i := 1309) (by decide +kernel)⟩
theorem lw_p69 : lw_okq (⟨"WhenItWasModel", "figures", "(II)I"⟩, 42) := ⟨⟨by decide +kernel, by decide +kernel⟩, List.mem_of_getElem? (i := 884) (by decide +kernel), List.mem_of_getElem? (i := 1312) (by decide +kernel), List.mem_of_getElem? (i := 1313) (by decide +kernel)⟩
theorem lw_p70 : lw_okq (⟨"WhenItWasModel", "byteAt", "(I)I"⟩, 42) := ⟨⟨by decide +kernel, by decide +kernel⟩, List.mem_of_getElem? (i := 884) (by decide +kernel), List.mem_of_getElem? (i := 1316) (by decide +kernel), List.mem_of_getElem? (i := 1317) (by decide +kernel)⟩
theorem lw_p71 : lw_okq (⟨"WhenItWasModel", "dot", "()V"⟩, 42) := ⟨⟨by decide +kernel, by decide +kernel⟩, List.mem_of_getElem? (i := 884) (by decide +kernel), List.mem_of_getElem? (i := 1320) (by decide +kernel), List.mem_of_getElem? (i := 1321) (by decide +kernel)⟩
theorem lw_p72 : lw_okq (⟨"WhenItWasModel", "lacks", "(III)I"⟩, 42) := ⟨⟨by decide +kernel, by decide +kernel⟩, List.mem_of_getElem? (i := 884) (by decide +kernel), List.mem_of_getElem? (i := 1340) (by decide +kernel), List.mem_of_getElem? (i := 1341) (by decide +kernel)⟩
theorem lw_p73 : lw_okq (⟨"WhenItWasModel", "lay", "(III)V"⟩, 42) := ⟨⟨by decide +kernel, by decide +kernel⟩, List.mem_of_getElem? (i := 884) (by decide +kernel), List.mem_of_getElem? (i := 1344) (by decide +kernel), List.mem_of_getElem? (i := 1345) (by decide +kernel)⟩
def lw_privs_5 : List (MethodName × Nat) := [(⟨"WhenItWasModel", "ordersNow", "()J"⟩, 42), (⟨"WhenItWasModel", "ordersBut", "(I)J"⟩, 42), (⟨"WhenItWasModel", "ordersWith", "(II)J"⟩, 42), (⟨"WhenItWasModel", "faultNow", "()I"⟩, 42), (⟨"WhenItWasModel", "date", "()I"⟩, 42), (⟨"WhenItWasModel", "figures", "(II)I"⟩, 42), (⟨"WhenItWasModel", "byteAt", "(I)I"⟩, 42), (⟨"WhenItWasModel", "dot", "()V"⟩, 42), (⟨"WhenItWasModel", "lacks", "(III)I"⟩, 42), (⟨"WhenItWasModel", "lay", "(III)V"⟩, 42)]
theorem lw_r5 : ∀ q ∈ lw_privs_5, lw_okq q := List.forall_mem_cons.mpr ⟨lw_p64, List.forall_mem_cons.mpr ⟨lw_p65, List.forall_mem_cons.mpr ⟨lw_p66, List.forall_mem_cons.mpr ⟨lw_p67, List.forall_mem_cons.mpr ⟨lw_p68, List.forall_mem_cons.mpr ⟨lw_p69, List.forall_mem_cons.mpr ⟨lw_p70, List.forall_mem_cons.mpr ⟨lw_p71, List.forall_mem_cons.mpr ⟨lw_p72, List.forall_mem_cons.mpr ⟨lw_p73, fun _ h => absurd h List.not_mem_nil⟩⟩⟩⟩⟩⟩⟩⟩⟩⟩
def lw_privs : List (MethodName × Nat) := lw_privs_1 ++ (lw_privs_2 ++ (lw_privs_3 ++ (lw_privs_4 ++ (lw_privs_5))))
def lw_tbl : List Cond := k2_sels lw_privs ++ tables_1
theorem lw_privs_ok : ∀ q ∈ lw_privs, lw_okq q := by
  show ∀ q ∈ lw_privs_1 ++ (lw_privs_2 ++ (lw_privs_3 ++ (lw_privs_4 ++ (lw_privs_5)))), lw_okq q
  exact List.forall_mem_append.mpr ⟨lw_r1, List.forall_mem_append.mpr ⟨lw_r2, List.forall_mem_append.mpr ⟨lw_r3, List.forall_mem_append.mpr ⟨lw_r4, lw_r5⟩⟩⟩⟩
end
section
def RX0 : String := "WhenItWas$Books"
def TX0 : u_T := fun k => match k with
  | 0 => ("WhenItWas$Books", "least", "[I", true)
  | 1 => ("WhenItWas$Books", "greatest", "[I", true)
  | 2 => ("WhenItWas$Books", "trust", "[I", true)
  | _ => ("WhenItWas$Books", "size", "I", false)
def tyX0 : Nat → FieldType := fun k => match k with
  | 0 => .array .int
  | 1 => .array .int
  | 2 => .array .int
  | _ => .int
abbrev wsX00 : List Cond := u_ws RX0 TX0 4
theorem nmX0 : ∀ a, a < 4 → ∀ b, b < 4 → a ≠ b → (TX0 a).2.1 ≠ (TX0 b).2.1 := by decide +kernel
theorem tyX0_ok : ∀ k, k < 4 → parseFieldDescriptor (TX0 k).2.2.1 = some (tyX0 k) := by decide +kernel
abbrev cX0_init : ByteArray := prog_2_method_1_code
def yX0_init : MethodName := ⟨RX0, "<init>", "()V"⟩
abbrev cX0_open : ByteArray := prog_2_method_2_code
def yX0_open : MethodName := ⟨RX0, "open", "(II)I"⟩
abbrev cX0_trustTogether : ByteArray := prog_2_method_3_code
def yX0_trustTogether : MethodName := ⟨RX0, "trustTogether", "()I"⟩
def RX1 : String := "WhenItWas$Calendar"
def TX1 : u_T := fun k => match k with
  | _ => ("", "", "", false)
def tyX1 : Nat → FieldType := fun k => match k with
  | _ => .int
abbrev wsX10 : List Cond := u_ws RX1 TX1 0
theorem nmX1 : ∀ a, a < 0 → ∀ b, b < 0 → a ≠ b → (TX1 a).2.1 ≠ (TX1 b).2.1 := by decide +kernel
theorem tyX1_ok : ∀ k, k < 0 → parseFieldDescriptor (TX1 k).2.2.1 = some (tyX1 k) := by decide +kernel
abbrev cX1_isOne : ByteArray := prog_3_method_2_code
def yX1_isOne : MethodName := ⟨RX1, "isOne", "(I)Z"⟩
abbrev cX1_isDate : ByteArray := prog_3_method_3_code
def yX1_isDate : MethodName := ⟨RX1, "isDate", "(IIII)Z"⟩
abbrev cX1_dayNumber : ByteArray := prog_3_method_4_code
def yX1_dayNumber : MethodName := ⟨RX1, "dayNumber", "(IIII)I"⟩
abbrev cX1_hasDay : ByteArray := prog_3_method_5_code
def yX1_hasDay : MethodName := ⟨RX1, "hasDay", "(II)Z"⟩
abbrev cX1_yearWith : ByteArray := prog_3_method_6_code
def yX1_yearWith : MethodName := ⟨RX1, "yearWith", "(II)I"⟩
abbrev cX1_monthWith : ByteArray := prog_3_method_7_code
def yX1_monthWith : MethodName := ⟨RX1, "monthWith", "(III)I"⟩
abbrev cX1_isLeap : ByteArray := prog_3_method_8_code
def yX1_isLeap : MethodName := ⟨RX1, "isLeap", "(II)Z"⟩
abbrev cX1_leapsUpTo : ByteArray := prog_3_method_9_code
def yX1_leapsUpTo : MethodName := ⟨RX1, "leapsUpTo", "(II)I"⟩
def RX2 : String := "WhenItWas$Dates"
def TX2 : u_T := fun k => match k with
  | 0 => ("WhenItWas$Dates", "bytes", "[I", true)
  | 1 => ("WhenItWas$Dates", "length", "I", false)
  | 2 => ("WhenItWas$Dates", "from", "I", false)
  | 3 => ("WhenItWas$Dates", "until", "I", false)
  | 4 => ("WhenItWas$Dates", "place", "I", false)
  | 5 => ("WhenItWas$Dates", "number", "I", false)
  | _ => ("WhenItWas$Dates", "dayRead", "I", false)
def tyX2 : Nat → FieldType := fun k => match k with
  | 0 => .array .int
  | 1 => .int
  | 2 => .int
  | 3 => .int
  | 4 => .int
  | 5 => .int
  | _ => .int
abbrev wsX20 : List Cond := u_ws RX2 TX2 7
theorem nmX2 : ∀ a, a < 7 → ∀ b, b < 7 → a ≠ b → (TX2 a).2.1 ≠ (TX2 b).2.1 := by decide +kernel
theorem tyX2_ok : ∀ k, k < 7 → parseFieldDescriptor (TX2 k).2.2.1 = some (tyX2 k) := by decide +kernel
abbrev cX2_init : ByteArray := prog_4_method_1_code
def yX2_init : MethodName := ⟨RX2, "<init>", "()V"⟩
abbrev cX2_append : ByteArray := prog_4_method_2_code
def yX2_append : MethodName := ⟨RX2, "append", "(I)I"⟩
abbrev cX2_findFault : ByteArray := prog_4_method_3_code
def yX2_findFault : MethodName := ⟨RX2, "findFault", "()I"⟩
abbrev cX2_readSecond : ByteArray := prog_4_method_4_code
def yX2_readSecond : MethodName := ⟨RX2, "readSecond", "()I"⟩
abbrev cX2_readDate : ByteArray := prog_4_method_5_code
def yX2_readDate : MethodName := ⟨RX2, "readDate", "()I"⟩
abbrev cX2_readLetter : ByteArray := prog_4_method_6_code
def yX2_readLetter : MethodName := ⟨RX2, "readLetter", "(IIII)I"⟩
abbrev cX2_readDot : ByteArray := prog_4_method_7_code
def yX2_readDot : MethodName := ⟨RX2, "readDot", "()I"⟩
abbrev cX2_readNumber : ByteArray := prog_4_method_8_code
def yX2_readNumber : MethodName := ⟨RX2, "readNumber", "(II)I"⟩
abbrev cX2_isFigure : ByteArray := prog_4_method_9_code
def yX2_isFigure : MethodName := ⟨RX2, "isFigure", "(I)Z"⟩
abbrev cX2_signHere : ByteArray := prog_4_method_10_code
def yX2_signHere : MethodName := ⟨RX2, "signHere", "()I"⟩
def RX3 : String := "WhenItWas$Doubt"
def TX3 : u_T := fun k => match k with
  | 0 => ("WhenItWas$Doubt", "candidates", "[I", true)
  | 1 => ("WhenItWas$Doubt", "size", "I", false)
  | 2 => ("WhenItWas$Doubt", "blame", "[I", true)
  | 3 => ("WhenItWas$Doubt", "best", "J", false)
  | _ => ("WhenItWas$Doubt", "bestTrust", "I", false)
def tyX3 : Nat → FieldType := fun k => match k with
  | 0 => .array .int
  | 1 => .int
  | 2 => .array .int
  | 3 => .long
  | _ => .int
abbrev wsX30 : List Cond := u_ws RX3 TX3 5
theorem nmX3 : ∀ a, a < 5 → ∀ b, b < 5 → a ≠ b → (TX3 a).2.1 ≠ (TX3 b).2.1 := by decide +kernel
theorem tyX3_ok : ∀ k, k < 5 → parseFieldDescriptor (TX3 k).2.2.1 = some (tyX3 k) := by decide +kernel
abbrev cX3_init : ByteArray := prog_5_method_1_code
def yX3_init : MethodName := ⟨RX3, "<init>", "()V"⟩
abbrev cX3_clear : ByteArray := prog_5_method_2_code
def yX3_clear : MethodName := ⟨RX3, "clear", "()V"⟩
abbrev cX3_search : ByteArray := prog_5_method_3_code
def yX3_search : MethodName := ⟨RX3, "search", "(LWhenItWas$Net;J)V"⟩
abbrev cX3_tryAllOfSize : ByteArray := prog_5_method_4_code
def yX3_tryAllOfSize : MethodName := ⟨RX3, "tryAllOfSize", "(LWhenItWas$Net;JI)V"⟩
abbrev cX3_keep : ByteArray := prog_5_method_5_code
def yX3_keep : MethodName := ⟨RX3, "keep", "(JI)V"⟩
abbrev cX3_rowsOf : ByteArray := prog_5_method_6_code
def yX3_rowsOf : MethodName := ⟨RX3, "rowsOf", "(I)J"⟩
abbrev cX3_trustOf : ByteArray := prog_5_method_7_code
def yX3_trustOf : MethodName := ⟨RX3, "trustOf", "(LWhenItWas$Net;I)I"⟩
abbrev cX3_blameAll : ByteArray := prog_5_method_8_code
def yX3_blameAll : MethodName := ⟨RX3, "blameAll", "(I)V"⟩
def RX4 : String := "WhenItWas$Kin"
def TX4 : u_T := fun k => match k with
  | 0 => ("WhenItWas$Kin", "differences", "[I", true)
  | 1 => ("WhenItWas$Kin", "size", "I", false)
  | 2 => ("WhenItWas$Kin", "most", "I", false)
  | _ => ("WhenItWas$Kin", "number", "I", false)
def tyX4 : Nat → FieldType := fun k => match k with
  | 0 => .array .int
  | 1 => .int
  | 2 => .int
  | _ => .int
abbrev wsX40 : List Cond := u_ws RX4 TX4 4
theorem nmX4 : ∀ a, a < 4 → ∀ b, b < 4 → a ≠ b → (TX4 a).2.1 ≠ (TX4 b).2.1 := by decide +kernel
theorem tyX4_ok : ∀ k, k < 4 → parseFieldDescriptor (TX4 k).2.2.1 = some (tyX4 k) := by decide +kernel
abbrev cX4_init : ByteArray := prog_6_method_1_code
def yX4_init : MethodName := ⟨RX4, "<init>", "()V"⟩
abbrev cX4_compare : ByteArray := prog_6_method_2_code
def yX4_compare : MethodName := ⟨RX4, "compare", "(LWhenItWas$Rows;JII)V"⟩
abbrev cX4_weigh : ByteArray := prog_6_method_3_code
def yX4_weigh : MethodName := ⟨RX4, "weigh", "(I)V"⟩
def RX5 : String := "WhenItWas$Lines"
def TX5 : u_T := fun k => match k with
  | 0 => ("WhenItWas$Lines", "before", "[I", true)
  | 1 => ("WhenItWas$Lines", "ways", "[I", true)
  | 2 => ("WhenItWas$Lines", "waysOn", "[I", true)
  | 3 => ("WhenItWas$Lines", "pairs", "[I", true)
  | _ => ("WhenItWas$Lines", "size", "I", false)
def tyX5 : Nat → FieldType := fun k => match k with
  | 0 => .array .int
  | 1 => .array .int
  | 2 => .array .int
  | 3 => .array .int
  | _ => .int
abbrev wsX50 : List Cond := u_ws RX5 TX5 5
theorem nmX5 : ∀ a, a < 5 → ∀ b, b < 5 → a ≠ b → (TX5 a).2.1 ≠ (TX5 b).2.1 := by decide +kernel
theorem tyX5_ok : ∀ k, k < 5 → parseFieldDescriptor (TX5 k).2.2.1 = some (tyX5 k) := by decide +kernel
abbrev cX5_init : ByteArray := prog_7_method_1_code
def yX5_init : MethodName := ⟨RX5, "<init>", "()V"⟩
abbrev cX5_clear : ByteArray := prog_7_method_2_code
def yX5_clear : MethodName := ⟨RX5, "clear", "(I)V"⟩
abbrev cX5_setAhead : ByteArray := prog_7_method_3_code
def yX5_setAhead : MethodName := ⟨RX5, "setAhead", "(II)V"⟩
abbrev cX5_waysFrom : ByteArray := prog_7_method_4_code
def yX5_waysFrom : MethodName := ⟨RX5, "waysFrom", "(I)I"⟩
abbrev cX5_bestPair : ByteArray := prog_7_method_5_code
def yX5_bestPair : MethodName := ⟨RX5, "bestPair", "()I"⟩
abbrev cX5_isSure : ByteArray := prog_7_method_6_code
def yX5_isSure : MethodName := ⟨RX5, "isSure", "(II)Z"⟩
abbrev cX5_mayFollow : ByteArray := prog_7_method_7_code
def yX5_mayFollow : MethodName := ⟨RX5, "mayFollow", "(II)Z"⟩
abbrev cX5_countWaysOn : ByteArray := prog_7_method_8_code
def yX5_countWaysOn : MethodName := ⟨RX5, "countWaysOn", "()V"⟩
abbrev cX5_countPairs : ByteArray := prog_7_method_9_code
def yX5_countPairs : MethodName := ⟨RX5, "countPairs", "()V"⟩
abbrev cX5_addToPairs : ByteArray := prog_7_method_10_code
def yX5_addToPairs : MethodName := ⟨RX5, "addToPairs", "(III)V"⟩
def RX6 : String := "WhenItWas$Net"
def TX6 : u_T := fun k => match k with
  | 0 => ("WhenItWas$Net", "rows", "LWhenItWas$Rows;", true)
  | 1 => ("WhenItWas$Net", "books", "LWhenItWas$Books;", true)
  | 2 => ("WhenItWas$Net", "from", "[I", true)
  | 3 => ("WhenItWas$Net", "to", "[I", true)
  | 4 => ("WhenItWas$Net", "x", "[I", true)
  | 5 => ("WhenItWas$Net", "y", "[I", true)
  | 6 => ("WhenItWas$Net", "size", "I", false)
  | 7 => ("WhenItWas$Net", "floor", "[I", true)
  | 8 => ("WhenItWas$Net", "ceiling", "[I", true)
  | 9 => ("WhenItWas$Net", "most", "[I", true)
  | 10 => ("WhenItWas$Net", "leastTurned", "[I", true)
  | 11 => ("WhenItWas$Net", "reach", "[I", true)
  | _ => ("WhenItWas$Net", "nextReach", "[I", true)
def tyX6 : Nat → FieldType := fun k => match k with
  | 0 => .object "WhenItWas$Rows"
  | 1 => .object "WhenItWas$Books"
  | 2 => .array .int
  | 3 => .array .int
  | 4 => .array .int
  | 5 => .array .int
  | 6 => .int
  | 7 => .array .int
  | 8 => .array .int
  | 9 => .array .int
  | 10 => .array .int
  | 11 => .array .int
  | _ => .array .int
abbrev wsX60 : List Cond := u_ws RX6 TX6 13
theorem nmX6 : ∀ a, a < 13 → ∀ b, b < 13 → a ≠ b → (TX6 a).2.1 ≠ (TX6 b).2.1 := by decide +kernel
theorem tyX6_ok : ∀ k, k < 13 → parseFieldDescriptor (TX6 k).2.2.1 = some (tyX6 k) := by decide +kernel
abbrev cX6_init : ByteArray := prog_8_method_1_code
def yX6_init : MethodName := ⟨RX6, "<init>", "()V"⟩
abbrev cX6_canHold : ByteArray := prog_8_method_2_code
def yX6_canHold : MethodName := ⟨RX6, "canHold", "(J)Z"⟩
abbrev cX6_solve : ByteArray := prog_8_method_3_code
def yX6_solve : MethodName := ⟨RX6, "solve", "(J)Z"⟩
abbrev cX6_endOfThing : ByteArray := prog_8_method_4_code
def yX6_endOfThing : MethodName := ⟨RX6, "endOfThing", "(II)I"⟩
abbrev cX6_endOfClock : ByteArray := prog_8_method_5_code
def yX6_endOfClock : MethodName := ⟨RX6, "endOfClock", "(II)I"⟩
abbrev cX6_spanKey : ByteArray := prog_8_method_6_code
def yX6_spanKey : MethodName := ⟨RX6, "spanKey", "(IJ)J"⟩
abbrev cX6_measureFrom : ByteArray := prog_8_method_7_code
def yX6_measureFrom : MethodName := ⟨RX6, "measureFrom", "(I)V"⟩
abbrev cX6_mostBehind : ByteArray := prog_8_method_8_code
def yX6_mostBehind : MethodName := ⟨RX6, "mostBehind", "(II)I"⟩
abbrev cX6_stepsToEnd : ByteArray := prog_8_method_9_code
def yX6_stepsToEnd : MethodName := ⟨RX6, "stepsToEnd", "(IZ)I"⟩
abbrev cX6_turnFloorInto : ByteArray := prog_8_method_10_code
def yX6_turnFloorInto : MethodName := ⟨RX6, "turnFloorInto", "([I)V"⟩
abbrev cX6_load : ByteArray := prog_8_method_11_code
def yX6_load : MethodName := ⟨RX6, "load", "(J)V"⟩
abbrev cX6_addRow : ByteArray := prog_8_method_12_code
def yX6_addRow : MethodName := ⟨RX6, "addRow", "(I)V"⟩
abbrev cX6_settle : ByteArray := prog_8_method_13_code
def yX6_settle : MethodName := ⟨RX6, "settle", "([IZ)Z"⟩
abbrev cX6_sweep : ByteArray := prog_8_method_14_code
def yX6_sweep : MethodName := ⟨RX6, "sweep", "([IZ)Z"⟩
abbrev cX6_stepOnce : ByteArray := prog_8_method_15_code
def yX6_stepOnce : MethodName := ⟨RX6, "stepOnce", "(Z)V"⟩
def RX7 : String := "WhenItWas$Rows"
def TX7 : u_T := fun k => match k with
  | 0 => ("WhenItWas$Rows", "book", "[I", true)
  | 1 => ("WhenItWas$Rows", "thing", "[I", true)
  | 2 => ("WhenItWas$Rows", "other", "[I", true)
  | 3 => ("WhenItWas$Rows", "x", "[I", true)
  | 4 => ("WhenItWas$Rows", "y", "[I", true)
  | 5 => ("WhenItWas$Rows", "told", "[I", true)
  | 6 => ("WhenItWas$Rows", "taken", "[I", true)
  | _ => ("WhenItWas$Rows", "size", "I", false)
def tyX7 : Nat → FieldType := fun k => match k with
  | 0 => .array .int
  | 1 => .array .int
  | 2 => .array .int
  | 3 => .array .int
  | 4 => .array .int
  | 5 => .array .int
  | 6 => .array .int
  | _ => .int
abbrev wsX70 : List Cond := u_ws RX7 TX7 8
theorem nmX7 : ∀ a, a < 8 → ∀ b, b < 8 → a ≠ b → (TX7 a).2.1 ≠ (TX7 b).2.1 := by decide +kernel
theorem tyX7_ok : ∀ k, k < 8 → parseFieldDescriptor (TX7 k).2.2.1 = some (tyX7 k) := by decide +kernel
abbrev cX7_init : ByteArray := prog_9_method_1_code
def yX7_init : MethodName := ⟨RX7, "<init>", "()V"⟩
abbrev cX7_tell : ByteArray := prog_9_method_2_code
def yX7_tell : MethodName := ⟨RX7, "tell", "(IIIIII)I"⟩
abbrev cX7_isKnown : ByteArray := prog_9_method_3_code
def yX7_isKnown : MethodName := ⟨RX7, "isKnown", "(II)Z"⟩
abbrev cX7_isOnBy : ByteArray := prog_9_method_4_code
def yX7_isOnBy : MethodName := ⟨RX7, "isOnBy", "(II)Z"⟩
abbrev cX7_knownAsOf : ByteArray := prog_9_method_5_code
def yX7_knownAsOf : MethodName := ⟨RX7, "knownAsOf", "(I)J"⟩
abbrev cX7_howManyOn : ByteArray := prog_9_method_6_code
def yX7_howManyOn : MethodName := ⟨RX7, "howManyOn", "(J)I"⟩
abbrev cX7_nextDayOfNews : ByteArray := prog_9_method_7_code
def yX7_nextDayOfNews : MethodName := ⟨RX7, "nextDayOfNews", "(I)I"⟩
abbrev cX7_nearer : ByteArray := prog_9_method_8_code
def yX7_nearer : MethodName := ⟨RX7, "nearer", "(III)I"⟩
abbrev cX7_exactDay : ByteArray := prog_9_method_9_code
def yX7_exactDay : MethodName := ⟨RX7, "exactDay", "(JII)I"⟩
def RX8 : String := "WhenItWas$Sheets"
def TX8 : u_T := fun k => match k with
  | 0 => ("WhenItWas$Sheets", "kind", "[I", true)
  | 1 => ("WhenItWas$Sheets", "size", "[I", true)
  | _ => ("WhenItWas$Sheets", "items", "[I", true)
def tyX8 : Nat → FieldType := fun k => match k with
  | 0 => .array .int
  | 1 => .array .int
  | _ => .array .int
abbrev wsX80 : List Cond := u_ws RX8 TX8 3
theorem nmX8 : ∀ a, a < 3 → ∀ b, b < 3 → a ≠ b → (TX8 a).2.1 ≠ (TX8 b).2.1 := by decide +kernel
theorem tyX8_ok : ∀ k, k < 3 → parseFieldDescriptor (TX8 k).2.2.1 = some (tyX8 k) := by decide +kernel
abbrev cX8_init : ByteArray := prog_10_method_1_code
def yX8_init : MethodName := ⟨RX8, "<init>", "()V"⟩
abbrev cX8_isLost : ByteArray := prog_10_method_2_code
def yX8_isLost : MethodName := ⟨RX8, "isLost", "(I)Z"⟩
abbrev cX8_renew : ByteArray := prog_10_method_3_code
def yX8_renew : MethodName := ⟨RX8, "renew", "(III)V"⟩
abbrev cX8_hindrance : ByteArray := prog_10_method_4_code
def yX8_hindrance : MethodName := ⟨RX8, "hindrance", "(III)I"⟩
abbrev cX8_has : ByteArray := prog_10_method_5_code
def yX8_has : MethodName := ⟨RX8, "has", "(III)Z"⟩
abbrev cX8_item : ByteArray := prog_10_method_6_code
def yX8_item : MethodName := ⟨RX8, "item", "(II)I"⟩
abbrev cX8_store : ByteArray := prog_10_method_7_code
def yX8_store : MethodName := ⟨RX8, "store", "(III)V"⟩
abbrev cX8_move : ByteArray := prog_10_method_8_code
def yX8_move : MethodName := ⟨RX8, "move", "(IIIII)V"⟩
abbrev cX8_narrowed : ByteArray := prog_10_method_9_code
def yX8_narrowed : MethodName := ⟨RX8, "narrowed", "(II)I"⟩
def RX9 : String := "WhenItWas"
def TX9 : u_T := fun k => match k with
  | 0 => ("WhenItWas", "net", "LWhenItWas$Net;", true)
  | 1 => ("WhenItWas", "books", "LWhenItWas$Books;", true)
  | 2 => ("WhenItWas", "rows", "LWhenItWas$Rows;", true)
  | 3 => ("WhenItWas", "doubt", "LWhenItWas$Doubt;", true)
  | 4 => ("WhenItWas", "lines", "LWhenItWas$Lines;", true)
  | 5 => ("WhenItWas", "kindred", "LWhenItWas$Kin;", true)
  | 6 => ("WhenItWas", "dates", "LWhenItWas$Dates;", true)
  | 7 => ("WhenItWas", "sheets", "LWhenItWas$Sheets;", true)
  | 8 => ("WhenItWas", "today", "I", false)
  | 9 => ("WhenItWas", "view", "I", false)
  | 10 => ("WhenItWas", "things", "I", false)
  | _ => ("WhenItWas", "finding", "I", false)
def tyX9 : Nat → FieldType := fun k => match k with
  | 0 => .object "WhenItWas$Net"
  | 1 => .object "WhenItWas$Books"
  | 2 => .object "WhenItWas$Rows"
  | 3 => .object "WhenItWas$Doubt"
  | 4 => .object "WhenItWas$Lines"
  | 5 => .object "WhenItWas$Kin"
  | 6 => .object "WhenItWas$Dates"
  | 7 => .object "WhenItWas$Sheets"
  | 8 => .int
  | 9 => .int
  | 10 => .int
  | _ => .int
abbrev wsX90 : List Cond := u_ws RX9 TX9 12
theorem nmX9 : ∀ a, a < 12 → ∀ b, b < 12 → a ≠ b → (TX9 a).2.1 ≠ (TX9 b).2.1 := by decide +kernel
theorem tyX9_ok : ∀ k, k < 12 → parseFieldDescriptor (TX9 k).2.2.1 = some (tyX9 k) := by decide +kernel
abbrev cX9_init : ByteArray := prog_1_method_1_code
def yX9_init : MethodName := ⟨RX9, "<init>", "()V"⟩
abbrev cX9_pass : ByteArray := prog_1_method_2_code
def yX9_pass : MethodName := ⟨RX9, "pass", "(I)I"⟩
abbrev cX9_thing : ByteArray := prog_1_method_3_code
def yX9_thing : MethodName := ⟨RX9, "thing", "()I"⟩
abbrev cX9_book : ByteArray := prog_1_method_4_code
def yX9_book : MethodName := ⟨RX9, "book", "(II)I"⟩
abbrev cX9_trust : ByteArray := prog_1_method_5_code
def yX9_trust : MethodName := ⟨RX9, "trust", "(II)I"⟩
abbrev cX9_on : ByteArray := prog_1_method_6_code
def yX9_on : MethodName := ⟨RX9, "on", "(IIII)I"⟩
abbrev cX9_apart : ByteArray := prog_1_method_7_code
def yX9_apart : MethodName := ⟨RX9, "apart", "(IIIII)I"⟩
abbrev cX9_read : ByteArray := prog_1_method_8_code
def yX9_read : MethodName := ⟨RX9, "read", "(I)I"⟩
abbrev cX9_takeBack : ByteArray := prog_1_method_9_code
def yX9_takeBack : MethodName := ⟨RX9, "takeBack", "(I)I"⟩
abbrev cX9_about : ByteArray := prog_1_method_10_code
def yX9_about : MethodName := ⟨RX9, "about", "(II)I"⟩
abbrev cX9_asOf : ByteArray := prog_1_method_11_code
def yX9_asOf : MethodName := ⟨RX9, "asOf", "(I)I"⟩
abbrev cX9_can : ByteArray := prog_1_method_12_code
def yX9_can : MethodName := ⟨RX9, "can", "(J)I"⟩
abbrev cX9_all : ByteArray := prog_1_method_13_code
def yX9_all : MethodName := ⟨RX9, "all", "()I"⟩
abbrev cX9_span : ByteArray := prog_1_method_14_code
def yX9_span : MethodName := ⟨RX9, "span", "(II)I"⟩
abbrev cX9_clock : ByteArray := prog_1_method_15_code
def yX9_clock : MethodName := ⟨RX9, "clock", "(II)I"⟩
abbrev cX9_between : ByteArray := prog_1_method_16_code
def yX9_between : MethodName := ⟨RX9, "between", "(III)I"⟩
abbrev cX9_led : ByteArray := prog_1_method_17_code
def yX9_led : MethodName := ⟨RX9, "led", "(II)I"⟩
abbrev cX9_changed : ByteArray := prog_1_method_18_code
def yX9_changed : MethodName := ⟨RX9, "changed", "(II)I"⟩
abbrev cX9_fits : ByteArray := prog_1_method_19_code
def yX9_fits : MethodName := ⟨RX9, "fits", "(I)I"⟩
abbrev cX9_room : ByteArray := prog_1_method_20_code
def yX9_room : MethodName := ⟨RX9, "room", "(II)I"⟩
abbrev cX9_kin : ByteArray := prog_1_method_21_code
def yX9_kin : MethodName := ⟨RX9, "kin", "(III)I"⟩
abbrev cX9_hangs : ByteArray := prog_1_method_22_code
def yX9_hangs : MethodName := ⟨RX9, "hangs", "(I)J"⟩
abbrev cX9_doubts : ByteArray := prog_1_method_23_code
def yX9_doubts : MethodName := ⟨RX9, "doubts", "()J"⟩
abbrev cX9_blamed : ByteArray := prog_1_method_24_code
def yX9_blamed : MethodName := ⟨RX9, "blamed", "(I)I"⟩
abbrev cX9_ahead : ByteArray := prog_1_method_25_code
def yX9_ahead : MethodName := ⟨RX9, "ahead", "(II)I"⟩
abbrev cX9_orders : ByteArray := prog_1_method_26_code
def yX9_orders : MethodName := ⟨RX9, "orders", "()J"⟩
abbrev cX9_share : ByteArray := prog_1_method_27_code
def yX9_share : MethodName := ⟨RX9, "share", "(III)J"⟩
abbrev cX9_first : ByteArray := prog_1_method_28_code
def yX9_first : MethodName := ⟨RX9, "first", "(I)J"⟩
abbrev cX9_question : ByteArray := prog_1_method_29_code
def yX9_question : MethodName := ⟨RX9, "question", "()I"⟩
abbrev cX9_dayOf : ByteArray := prog_1_method_30_code
def yX9_dayOf : MethodName := ⟨RX9, "dayOf", "(IIII)I"⟩
abbrev cX9_dateOf : ByteArray := prog_1_method_31_code
def yX9_dateOf : MethodName := ⟨RX9, "dateOf", "(III)I"⟩
abbrev cX9_type : ByteArray := prog_1_method_32_code
def yX9_type : MethodName := ⟨RX9, "type", "(I)I"⟩
abbrev cX9_wipe : ByteArray := prog_1_method_33_code
def yX9_wipe : MethodName := ⟨RX9, "wipe", "()I"⟩
abbrev cX9_fault : ByteArray := prog_1_method_34_code
def yX9_fault : MethodName := ⟨RX9, "fault", "()I"⟩
abbrev cX9_said : ByteArray := prog_1_method_35_code
def yX9_said : MethodName := ⟨RX9, "said", "(II)I"⟩
abbrev cX9_sheet : ByteArray := prog_1_method_36_code
def yX9_sheet : MethodName := ⟨RX9, "sheet", "(III)I"⟩
abbrev cX9_lose : ByteArray := prog_1_method_37_code
def yX9_lose : MethodName := ⟨RX9, "lose", "(I)I"⟩
abbrev cX9_put : ByteArray := prog_1_method_38_code
def yX9_put : MethodName := ⟨RX9, "put", "(IIII)I"⟩
abbrev cX9_get : ByteArray := prog_1_method_39_code
def yX9_get : MethodName := ⟨RX9, "get", "(III)I"⟩
abbrev cX9_copy : ByteArray := prog_1_method_40_code
def yX9_copy : MethodName := ⟨RX9, "copy", "(IIIII)I"⟩
abbrev cX9_write : ByteArray := prog_1_method_41_code
def yX9_write : MethodName := ⟨RX9, "write", "(I)I"⟩
abbrev cX9_count : ByteArray := prog_1_method_42_code
def yX9_count : MethodName := ⟨RX9, "count", "(I)I"⟩
abbrev cX9_digest : ByteArray := prog_1_method_43_code
def yX9_digest : MethodName := ⟨RX9, "digest", "()J"⟩
abbrev cX9_digestSpans : ByteArray := prog_1_method_44_code
def yX9_digestSpans : MethodName := ⟨RX9, "digestSpans", "(J)J"⟩
abbrev cX9_isThing : ByteArray := prog_1_method_45_code
def yX9_isThing : MethodName := ⟨RX9, "isThing", "(I)Z"⟩
abbrev cX9_areTwoThings : ByteArray := prog_1_method_46_code
def yX9_areTwoThings : MethodName := ⟨RX9, "areTwoThings", "(II)Z"⟩
abbrev cX9_isBook : ByteArray := prog_1_method_47_code
def yX9_isBook : MethodName := ⟨RX9, "isBook", "(I)Z"⟩
abbrev cX9_isRow : ByteArray := prog_1_method_48_code
def yX9_isRow : MethodName := ⟨RX9, "isRow", "(I)Z"⟩
abbrev cX9_isSheet : ByteArray := prog_1_method_49_code
def yX9_isSheet : MethodName := ⟨RX9, "isSheet", "(I)Z"⟩
abbrev cX9_isType : ByteArray := prog_1_method_50_code
def yX9_isType : MethodName := ⟨RX9, "isType", "(I)Z"⟩
abbrev cX9_isEnd : ByteArray := prog_1_method_51_code
def yX9_isEnd : MethodName := ⟨RX9, "isEnd", "(I)Z"⟩
abbrev cX9_isRange : ByteArray := prog_1_method_52_code
def yX9_isRange : MethodName := ⟨RX9, "isRange", "(III)Z"⟩
abbrev cX9_oneIf : ByteArray := prog_1_method_53_code
def yX9_oneIf : MethodName := ⟨RX9, "oneIf", "(Z)I"⟩
abbrev cX9_asLong : ByteArray := prog_1_method_54_code
def yX9_asLong : MethodName := ⟨RX9, "asLong", "(I)J"⟩
abbrev cX9_commonDivisor : ByteArray := prog_1_method_55_code
def yX9_commonDivisor : MethodName := ⟨RX9, "commonDivisor", "(JJ)J"⟩
abbrev cX9_found : ByteArray := prog_1_method_56_code
def yX9_found : MethodName := ⟨RX9, "found", "(I)I"⟩
abbrev cX9_dayOfView : ByteArray := prog_1_method_57_code
def yX9_dayOfView : MethodName := ⟨RX9, "dayOfView", "()I"⟩
abbrev cX9_knownRows : ByteArray := prog_1_method_58_code
def yX9_knownRows : MethodName := ⟨RX9, "knownRows", "()J"⟩
abbrev cX9_tellFromSheet : ByteArray := prog_1_method_59_code
def yX9_tellFromSheet : MethodName := ⟨RX9, "tellFromSheet", "(II)I"⟩
abbrev cX9_isFitting : ByteArray := prog_1_method_60_code
def yX9_isFitting : MethodName := ⟨RX9, "isFitting", "(I)Z"⟩
abbrev cX9_areApartAsTold : ByteArray := prog_1_method_61_code
def yX9_areApartAsTold : MethodName := ⟨RX9, "areApartAsTold", "(I)Z"⟩
abbrev cX9_areClocksPossible : ByteArray := prog_1_method_62_code
def yX9_areClocksPossible : MethodName := ⟨RX9, "areClocksPossible", "(I)Z"⟩
abbrev cX9_roomByDays : ByteArray := prog_1_method_63_code
def yX9_roomByDays : MethodName := ⟨RX9, "roomByDays", "(II)I"⟩
abbrev cX9_lookForDoubts : ByteArray := prog_1_method_64_code
def yX9_lookForDoubts : MethodName := ⟨RX9, "lookForDoubts", "(J)I"⟩
abbrev cX9_layLines : ByteArray := prog_1_method_65_code
def yX9_layLines : MethodName := ⟨RX9, "layLines", "()Z"⟩
def RX10 : String := "WhenItWasModel"
def TX10 : u_T := fun k => match k with
  | 0 => ("WhenItWasModel", "day", "I", false)
  | 1 => ("WhenItWasModel", "things", "I", false)
  | 2 => ("WhenItWasModel", "books", "I", false)
  | 3 => ("WhenItWasModel", "clockLow", "[I", true)
  | 4 => ("WhenItWasModel", "clockHigh", "[I", true)
  | 5 => ("WhenItWasModel", "trustOf", "[I", true)
  | 6 => ("WhenItWasModel", "rows", "I", false)
  | 7 => ("WhenItWasModel", "rowBook", "[I", true)
  | 8 => ("WhenItWasModel", "rowThing", "[I", true)
  | 9 => ("WhenItWasModel", "rowOther", "[I", true)
  | 10 => ("WhenItWasModel", "rowX", "[I", true)
  | 11 => ("WhenItWasModel", "rowY", "[I", true)
  | 12 => ("WhenItWasModel", "rowTold", "[I", true)
  | 13 => ("WhenItWasModel", "rowBack", "[I", true)
  | 14 => ("WhenItWasModel", "knownTo", "I", false)
  | 15 => ("WhenItWasModel", "far", "[I", true)
  | 16 => ("WhenItWasModel", "reach", "[I", true)
  | 17 => ("WhenItWasModel", "steps", "[I", true)
  | 18 => ("WhenItWasModel", "couldBe", "Z", false)
  | 19 => ("WhenItWasModel", "leastWas", "I", false)
  | 20 => ("WhenItWasModel", "greatestWas", "I", false)
  | 21 => ("WhenItWasModel", "offLow", "[I", true)
  | 22 => ("WhenItWasModel", "offHigh", "[I", true)
  | 23 => ("WhenItWasModel", "kinBy", "[I", true)
  | 24 => ("WhenItWasModel", "asked", "[I", true)
  | 25 => ("WhenItWasModel", "askedMany", "I", false)
  | 26 => ("WhenItWasModel", "blames", "[I", true)
  | 27 => ("WhenItWasModel", "doubtBits", "J", false)
  | 28 => ("WhenItWasModel", "aheadOf", "[I", true)
  | 29 => ("WhenItWasModel", "countOf", "[J", true)
  | 30 => ("WhenItWasModel", "typed", "I", false)
  | 31 => ("WhenItWasModel", "text", "[I", true)
  | 32 => ("WhenItWasModel", "at", "I", false)
  | 33 => ("WhenItWasModel", "fault", "I", false)
  | 34 => ("WhenItWasModel", "firstDay", "I", false)
  | 35 => ("WhenItWasModel", "secondDay", "I", false)
  | 36 => ("WhenItWasModel", "isThere", "[Z", true)
  | 37 => ("WhenItWasModel", "types", "[I", true)
  | 38 => ("WhenItWasModel", "sizes", "[I", true)
  | 39 => ("WhenItWasModel", "items", "[I", true)
  | 40 => ("WhenItWasModel", "moved", "[I", true)
  | _ => ("WhenItWasModel", "finding", "I", false)
def tyX10 : Nat → FieldType := fun k => match k with
  | 0 => .int
  | 1 => .int
  | 2 => .int
  | 3 => .array .int
  | 4 => .array .int
  | 5 => .array .int
  | 6 => .int
  | 7 => .array .int
  | 8 => .array .int
  | 9 => .array .int
  | 10 => .array .int
  | 11 => .array .int
  | 12 => .array .int
  | 13 => .array .int
  | 14 => .int
  | 15 => .array .int
  | 16 => .array .int
  | 17 => .array .int
  | 18 => .boolean
  | 19 => .int
  | 20 => .int
  | 21 => .array .int
  | 22 => .array .int
  | 23 => .array .int
  | 24 => .array .int
  | 25 => .int
  | 26 => .array .int
  | 27 => .long
  | 28 => .array .int
  | 29 => .array .long
  | 30 => .int
  | 31 => .array .int
  | 32 => .int
  | 33 => .int
  | 34 => .int
  | 35 => .int
  | 36 => .array .boolean
  | 37 => .array .int
  | 38 => .array .int
  | 39 => .array .int
  | 40 => .array .int
  | _ => .int
abbrev wsX100 : List Cond := u_ws RX10 TX10 42
theorem nmX10 : ∀ a, a < 42 → ∀ b, b < 42 → a ≠ b → (TX10 a).2.1 ≠ (TX10 b).2.1 := by decide +kernel
theorem tyX10_ok : ∀ k, k < 42 → parseFieldDescriptor (TX10 k).2.2.1 = some (tyX10 k) := by decide +kernel
abbrev cX10_init : ByteArray := prog_12_method_1_code
def yX10_init : MethodName := ⟨RX10, "<init>", "()V"⟩
abbrev cX10_in : ByteArray := prog_12_method_3_code
def yX10_in : MethodName := ⟨RX10, "in", "(III)Z"⟩
abbrev cX10_isThing : ByteArray := prog_12_method_4_code
def yX10_isThing : MethodName := ⟨RX10, "isThing", "(I)Z"⟩
abbrev cX10_isBook : ByteArray := prog_12_method_5_code
def yX10_isBook : MethodName := ⟨RX10, "isBook", "(I)Z"⟩
abbrev cX10_isKnownTo : ByteArray := prog_12_method_6_code
def yX10_isKnownTo : MethodName := ⟨RX10, "isKnownTo", "(II)Z"⟩
abbrev cX10_isKnown : ByteArray := prog_12_method_7_code
def yX10_isKnown : MethodName := ⟨RX10, "isKnown", "(I)Z"⟩
abbrev cX10_knownBits : ByteArray := prog_12_method_8_code
def yX10_knownBits : MethodName := ⟨RX10, "knownBits", "(I)J"⟩
abbrev cX10_knownNow : ByteArray := prog_12_method_9_code
def yX10_knownNow : MethodName := ⟨RX10, "knownNow", "()J"⟩
abbrev cX10_pass : ByteArray := prog_12_method_10_code
def yX10_pass : MethodName := ⟨RX10, "pass", "(I)I"⟩
abbrev cX10_thing : ByteArray := prog_12_method_11_code
def yX10_thing : MethodName := ⟨RX10, "thing", "()I"⟩
abbrev cX10_book : ByteArray := prog_12_method_12_code
def yX10_book : MethodName := ⟨RX10, "book", "(II)I"⟩
abbrev cX10_trust : ByteArray := prog_12_method_13_code
def yX10_trust : MethodName := ⟨RX10, "trust", "(II)I"⟩
abbrev cX10_rowMore : ByteArray := prog_12_method_14_code
def yX10_rowMore : MethodName := ⟨RX10, "rowMore", "(IIIII)I"⟩
abbrev cX10_onMore : ByteArray := prog_12_method_15_code
def yX10_onMore : MethodName := ⟨RX10, "onMore", "(IIII)I"⟩
abbrev cX10_apartMore : ByteArray := prog_12_method_16_code
def yX10_apartMore : MethodName := ⟨RX10, "apartMore", "(IIIII)I"⟩
abbrev cX10_on : ByteArray := prog_12_method_17_code
def yX10_on : MethodName := ⟨RX10, "on", "(IIII)I"⟩
abbrev cX10_apart : ByteArray := prog_12_method_18_code
def yX10_apart : MethodName := ⟨RX10, "apart", "(IIIII)I"⟩
abbrev cX10_read : ByteArray := prog_12_method_19_code
def yX10_read : MethodName := ⟨RX10, "read", "(I)I"⟩
abbrev cX10_takeBack : ByteArray := prog_12_method_20_code
def yX10_takeBack : MethodName := ⟨RX10, "takeBack", "(I)I"⟩
abbrev cX10_aboutOf : ByteArray := prog_12_method_21_code
def yX10_aboutOf : MethodName := ⟨RX10, "aboutOf", "(II)I"⟩
abbrev cX10_about : ByteArray := prog_12_method_22_code
def yX10_about : MethodName := ⟨RX10, "about", "(II)I"⟩
abbrev cX10_asOf : ByteArray := prog_12_method_23_code
def yX10_asOf : MethodName := ⟨RX10, "asOf", "(I)I"⟩
abbrev cX10_atMost : ByteArray := prog_12_method_24_code
def yX10_atMost : MethodName := ⟨RX10, "atMost", "(III)V"⟩
abbrev cX10_leansOn : ByteArray := prog_12_method_25_code
def yX10_leansOn : MethodName := ⟨RX10, "leansOn", "(I)I"⟩
abbrev cX10_works : ByteArray := prog_12_method_26_code
def yX10_works : MethodName := ⟨RX10, "works", "(J)Z"⟩
abbrev cX10_can : ByteArray := prog_12_method_27_code
def yX10_can : MethodName := ⟨RX10, "can", "(J)I"⟩
abbrev cX10_canAll : ByteArray := prog_12_method_28_code
def yX10_canAll : MethodName := ⟨RX10, "canAll", "()Z"⟩
abbrev cX10_all : ByteArray := prog_12_method_29_code
def yX10_all : MethodName := ⟨RX10, "all", "()I"⟩
abbrev cX10_endOf : ByteArray := prog_12_method_30_code
def yX10_endOf : MethodName := ⟨RX10, "endOf", "(II)I"⟩
abbrev cX10_span : ByteArray := prog_12_method_31_code
def yX10_span : MethodName := ⟨RX10, "span", "(II)I"⟩
abbrev cX10_clockEnd : ByteArray := prog_12_method_32_code
def yX10_clockEnd : MethodName := ⟨RX10, "clockEnd", "(II)I"⟩
abbrev cX10_clock : ByteArray := prog_12_method_33_code
def yX10_clock : MethodName := ⟨RX10, "clock", "(II)I"⟩
abbrev cX10_areTwo : ByteArray := prog_12_method_34_code
def yX10_areTwo : MethodName := ⟨RX10, "areTwo", "(II)Z"⟩
abbrev cX10_between : ByteArray := prog_12_method_35_code
def yX10_between : MethodName := ⟨RX10, "between", "(III)I"⟩
abbrev cX10_nears : ByteArray := prog_12_method_36_code
def yX10_nears : MethodName := ⟨RX10, "nears", "(III)Z"⟩
abbrev cX10_led : ByteArray := prog_12_method_37_code
def yX10_led : MethodName := ⟨RX10, "led", "(II)I"⟩
abbrev cX10_isOther : ByteArray := prog_12_method_38_code
def yX10_isOther : MethodName := ⟨RX10, "isOther", "(II)Z"⟩
abbrev cX10_changed : ByteArray := prog_12_method_39_code
def yX10_changed : MethodName := ⟨RX10, "changed", "(II)I"⟩
abbrev cX10_isFitting : ByteArray := prog_12_method_40_code
def yX10_isFitting : MethodName := ⟨RX10, "isFitting", "(I)Z"⟩
abbrev cX10_fits : ByteArray := prog_12_method_41_code
def yX10_fits : MethodName := ⟨RX10, "fits", "(I)I"⟩
abbrev cX10_room : ByteArray := prog_12_method_42_code
def yX10_room : MethodName := ⟨RX10, "room", "(II)I"⟩
abbrev cX10_latest : ByteArray := prog_12_method_43_code
def yX10_latest : MethodName := ⟨RX10, "latest", "(II)I"⟩
abbrev cX10_kin : ByteArray := prog_12_method_44_code
def yX10_kin : MethodName := ⟨RX10, "kin", "(III)I"⟩
abbrev cX10_hangs : ByteArray := prog_12_method_45_code
def yX10_hangs : MethodName := ⟨RX10, "hangs", "(I)J"⟩
abbrev cX10_ones : ByteArray := prog_12_method_46_code
def yX10_ones : MethodName := ⟨RX10, "ones", "(I)I"⟩
abbrev cX10_trustOfSet : ByteArray := prog_12_method_47_code
def yX10_trustOfSet : MethodName := ⟨RX10, "trustOfSet", "(I)I"⟩
abbrev cX10_bitsOf : ByteArray := prog_12_method_48_code
def yX10_bitsOf : MethodName := ⟨RX10, "bitsOf", "(I)J"⟩
abbrev cX10_doubtsNow : ByteArray := prog_12_method_49_code
def yX10_doubtsNow : MethodName := ⟨RX10, "doubtsNow", "()I"⟩
abbrev cX10_doubts : ByteArray := prog_12_method_50_code
def yX10_doubts : MethodName := ⟨RX10, "doubts", "()J"⟩
abbrev cX10_blamed : ByteArray := prog_12_method_51_code
def yX10_blamed : MethodName := ⟨RX10, "blamed", "(I)I"⟩
abbrev cX10_sures : ByteArray := prog_12_method_52_code
def yX10_sures : MethodName := ⟨RX10, "sures", "()Z"⟩
abbrev cX10_ordersBut : ByteArray := prog_12_method_53_code
def yX10_ordersBut : MethodName := ⟨RX10, "ordersBut", "(I)J"⟩
abbrev cX10_ordersWith : ByteArray := prog_12_method_54_code
def yX10_ordersWith : MethodName := ⟨RX10, "ordersWith", "(II)J"⟩
abbrev cX10_ahead : ByteArray := prog_12_method_55_code
def yX10_ahead : MethodName := ⟨RX10, "ahead", "(II)I"⟩
abbrev cX10_ordersNow : ByteArray := prog_12_method_56_code
def yX10_ordersNow : MethodName := ⟨RX10, "ordersNow", "()J"⟩
abbrev cX10_orders : ByteArray := prog_12_method_57_code
def yX10_orders : MethodName := ⟨RX10, "orders", "()J"⟩
abbrev cX10_divisor : ByteArray := prog_12_method_58_code
def yX10_divisor : MethodName := ⟨RX10, "divisor", "(JJ)J"⟩
abbrev cX10_share : ByteArray := prog_12_method_59_code
def yX10_share : MethodName := ⟨RX10, "share", "(III)J"⟩
abbrev cX10_first : ByteArray := prog_12_method_60_code
def yX10_first : MethodName := ⟨RX10, "first", "(I)J"⟩
abbrev cX10_question : ByteArray := prog_12_method_61_code
def yX10_question : MethodName := ⟨RX10, "question", "()I"⟩
abbrev cX10_isLeap : ByteArray := prog_12_method_62_code
def yX10_isLeap : MethodName := ⟨RX10, "isLeap", "(II)Z"⟩
abbrev cX10_daysOf : ByteArray := prog_12_method_63_code
def yX10_daysOf : MethodName := ⟨RX10, "daysOf", "(III)I"⟩
abbrev cX10_daysTo : ByteArray := prog_12_method_64_code
def yX10_daysTo : MethodName := ⟨RX10, "daysTo", "(IIII)I"⟩
abbrev cX10_dayNumber : ByteArray := prog_12_method_65_code
def yX10_dayNumber : MethodName := ⟨RX10, "dayNumber", "(IIII)I"⟩
abbrev cX10_dayOf : ByteArray := prog_12_method_66_code
def yX10_dayOf : MethodName := ⟨RX10, "dayOf", "(IIII)I"⟩
abbrev cX10_dateOf : ByteArray := prog_12_method_67_code
def yX10_dateOf : MethodName := ⟨RX10, "dateOf", "(III)I"⟩
abbrev cX10_type : ByteArray := prog_12_method_68_code
def yX10_type : MethodName := ⟨RX10, "type", "(I)I"⟩
abbrev cX10_wipe : ByteArray := prog_12_method_69_code
def yX10_wipe : MethodName := ⟨RX10, "wipe", "()I"⟩
abbrev cX10_byteAt : ByteArray := prog_12_method_70_code
def yX10_byteAt : MethodName := ⟨RX10, "byteAt", "(I)I"⟩
abbrev cX10_figures : ByteArray := prog_12_method_71_code
def yX10_figures : MethodName := ⟨RX10, "figures", "(II)I"⟩
abbrev cX10_dot : ByteArray := prog_12_method_72_code
def yX10_dot : MethodName := ⟨RX10, "dot", "()V"⟩
abbrev cX10_date : ByteArray := prog_12_method_73_code
def yX10_date : MethodName := ⟨RX10, "date", "()I"⟩
abbrev cX10_faultNow : ByteArray := prog_12_method_74_code
def yX10_faultNow : MethodName := ⟨RX10, "faultNow", "()I"⟩
abbrev cX10_fault : ByteArray := prog_12_method_75_code
def yX10_fault : MethodName := ⟨RX10, "fault", "()I"⟩
abbrev cX10_said : ByteArray := prog_12_method_76_code
def yX10_said : MethodName := ⟨RX10, "said", "(II)I"⟩
abbrev cX10_meets : ByteArray := prog_12_method_77_code
def yX10_meets : MethodName := ⟨RX10, "meets", "(I)I"⟩
abbrev cX10_isSheet : ByteArray := prog_12_method_78_code
def yX10_isSheet : MethodName := ⟨RX10, "isSheet", "(I)Z"⟩
abbrev cX10_sheet : ByteArray := prog_12_method_79_code
def yX10_sheet : MethodName := ⟨RX10, "sheet", "(III)I"⟩
abbrev cX10_lose : ByteArray := prog_12_method_80_code
def yX10_lose : MethodName := ⟨RX10, "lose", "(I)I"⟩
abbrev cX10_lacks : ByteArray := prog_12_method_81_code
def yX10_lacks : MethodName := ⟨RX10, "lacks", "(III)I"⟩
abbrev cX10_lay : ByteArray := prog_12_method_82_code
def yX10_lay : MethodName := ⟨RX10, "lay", "(III)V"⟩
abbrev cX10_put : ByteArray := prog_12_method_83_code
def yX10_put : MethodName := ⟨RX10, "put", "(IIII)I"⟩
abbrev cX10_get : ByteArray := prog_12_method_84_code
def yX10_get : MethodName := ⟨RX10, "get", "(III)I"⟩
abbrev cX10_copy : ByteArray := prog_12_method_85_code
def yX10_copy : MethodName := ⟨RX10, "copy", "(IIIII)I"⟩
abbrev cX10_write : ByteArray := prog_12_method_86_code
def yX10_write : MethodName := ⟨RX10, "write", "(I)I"⟩
abbrev cX10_count : ByteArray := prog_12_method_87_code
def yX10_count : MethodName := ⟨RX10, "count", "(I)I"⟩
abbrev cX10_digest : ByteArray := prog_12_method_88_code
def yX10_digest : MethodName := ⟨RX10, "digest", "()J"⟩
def RJ6 : String := "java/lang/Integer"
def TJ6 : u_T := fun k => match k with
  | _ => ("", "", "", false)
def tyJ6 : Nat → FieldType := fun k => match k with
  | _ => .int
abbrev wsJ60 : List Cond := u_ws RJ6 TJ6 0
theorem nmJ6 : ∀ a, a < 0 → ∀ b, b < 0 → a ≠ b → (TJ6 a).2.1 ≠ (TJ6 b).2.1 := by decide +kernel
theorem tyJ6_ok : ∀ k, k < 0 → parseFieldDescriptor (TJ6 k).2.2.1 = some (tyJ6 k) := by decide +kernel
abbrev cJ6_bitCount_0f7a4 : ByteArray := prog_13_method_49_code
def yJ6_bitCount_0f7a4 : MethodName := ⟨RJ6, "bitCount", "(I)I"⟩
def RJ13 : String := "java/lang/Long"
def TJ13 : u_T := fun k => match k with
  | _ => ("", "", "", false)
def tyJ13 : Nat → FieldType := fun k => match k with
  | _ => .int
abbrev wsJ130 : List Cond := u_ws RJ13 TJ13 0
theorem nmJ13 : ∀ a, a < 0 → ∀ b, b < 0 → a ≠ b → (TJ13 a).2.1 ≠ (TJ13 b).2.1 := by decide +kernel
theorem tyJ13_ok : ∀ k, k < 0 → parseFieldDescriptor (TJ13 k).2.2.1 = some (tyJ13 k) := by decide +kernel
abbrev cJ13_bitCount_95d88 : ByteArray := prog_14_method_50_code
def yJ13_bitCount_95d88 : MethodName := ⟨RJ13, "bitCount", "(J)I"⟩
def RJ9 : String := "java/lang/Math"
def TJ9 : u_T := fun k => match k with
  | _ => ("", "", "", false)
def tyJ9 : Nat → FieldType := fun k => match k with
  | _ => .int
abbrev wsJ90 : List Cond := u_ws RJ9 TJ9 0
theorem nmJ9 : ∀ a, a < 0 → ∀ b, b < 0 → a ≠ b → (TJ9 a).2.1 ≠ (TJ9 b).2.1 := by decide +kernel
theorem tyJ9_ok : ∀ k, k < 0 → parseFieldDescriptor (TJ9 k).2.2.1 = some (tyJ9 k) := by decide +kernel
abbrev cJ9_max_7cf53 : ByteArray := prog_15_method_65_code
def yJ9_max_7cf53 : MethodName := ⟨RJ9, "max", "(II)I"⟩
abbrev cJ9_min_7cf53 : ByteArray := prog_15_method_69_code
def yJ9_min_7cf53 : MethodName := ⟨RJ9, "min", "(II)I"⟩
def RJ10 : String := "java/lang/System"
def TJ10 : u_T := fun k => match k with
  | _ => ("", "", "", false)
def tyJ10 : Nat → FieldType := fun k => match k with
  | _ => .int
abbrev wsJ100 : List Cond := u_ws RJ10 TJ10 0
theorem nmJ10 : ∀ a, a < 0 → ∀ b, b < 0 → a ≠ b → (TJ10 a).2.1 ≠ (TJ10 b).2.1 := by decide +kernel
theorem tyJ10_ok : ∀ k, k < 0 → parseFieldDescriptor (TJ10 k).2.2.1 = some (tyJ10 k) := by decide +kernel
def RJ7 : String := "java/util/Arrays"
def TJ7 : u_T := fun k => match k with
  | _ => ("", "", "", false)
def tyJ7 : Nat → FieldType := fun k => match k with
  | _ => .int
abbrev wsJ70 : List Cond := u_ws RJ7 TJ7 0
theorem nmJ7 : ∀ a, a < 0 → ∀ b, b < 0 → a ≠ b → (TJ7 a).2.1 ≠ (TJ7 b).2.1 := by decide +kernel
theorem tyJ7_ok : ∀ k, k < 0 → parseFieldDescriptor (TJ7 k).2.2.1 = some (tyJ7 k) := by decide +kernel
abbrev cJ7_fill_53178 : ByteArray := prog_17_method_103_code
def yJ7_fill_53178 : MethodName := ⟨RJ7, "fill", "([II)V"⟩
def RL : String := "WhenItWasLaw"
abbrev cL_law : ByteArray := code
def yL_law : MethodName := ⟨RL, "law", "([I)Z"⟩
theorem inX0 : ∀ w ∈ wsX00, w ∈ lw_tbl := by decide +kernel
theorem inX2 : ∀ w ∈ wsX20, w ∈ lw_tbl := by decide +kernel
theorem inX3 : ∀ w ∈ wsX30, w ∈ lw_tbl := by decide +kernel
theorem inX4 : ∀ w ∈ wsX40, w ∈ lw_tbl := by decide +kernel
theorem inX5 : ∀ w ∈ wsX50, w ∈ lw_tbl := by decide +kernel
theorem inX6 : ∀ w ∈ wsX60, w ∈ lw_tbl := by decide +kernel
theorem inX7 : ∀ w ∈ wsX70, w ∈ lw_tbl := by decide +kernel
theorem inX8 : ∀ w ∈ wsX80, w ∈ lw_tbl := by decide +kernel
theorem inX9 : ∀ w ∈ wsX90, w ∈ lw_tbl := by decide +kernel
theorem inX10 : ∀ w ∈ wsX100, w ∈ lw_tbl := by decide +kernel
/-- the classes whose objects the worlds hold -/
abbrev cx_cls : List vw_C := [(RX0, TX0, 4), (RX2, TX2, 7), (RX3, TX3, 5), (RX4, TX4, 4), (RX5, TX5, 5), (RX6, TX6, 13), (RX7, TX7, 8), (RX8, TX8, 3), (RX9, TX9, 12), (RX10, TX10, 42)]
end
section
theorem dX9_init_0 : decode cX9_init 0 = .ok (.aload_n 0, 1) := by decide +kernel
theorem dX9_init_1 : decode cX9_init 1 = .ok (.invokespecial 1, 3) := by decide +kernel
theorem dX9_init_4 : decode cX9_init 4 = .ok (.aload_n 0, 1) := by decide +kernel
theorem dX9_init_5 : decode cX9_init 5 = .ok (.new 7, 3) := by decide +kernel
theorem dX9_init_8 : decode cX9_init 8 = .ok (.dup, 1) := by decide +kernel
theorem dX9_init_9 : decode cX9_init 9 = .ok (.invokespecial 9, 3) := by decide +kernel
theorem dX9_init_12 : decode cX9_init 12 = .ok (.putfield 10, 3) := by decide +kernel
theorem dX9_init_15 : decode cX9_init 15 = .ok (.aload_n 0, 1) := by decide +kernel
theorem dX9_init_16 : decode cX9_init 16 = .ok (.aload_n 0, 1) := by decide +kernel
theorem dX9_init_17 : decode cX9_init 17 = .ok (.getfield 10, 3) := by decide +kernel
theorem dX9_init_20 : decode cX9_init 20 = .ok (.getfield 16, 3) := by decide +kernel
theorem dX9_init_23 : decode cX9_init 23 = .ok (.putfield 20, 3) := by decide +kernel
theorem dX9_init_26 : decode cX9_init 26 = .ok (.aload_n 0, 1) := by decide +kernel
theorem dX9_init_27 : decode cX9_init 27 = .ok (.aload_n 0, 1) := by decide +kernel
theorem dX9_init_28 : decode cX9_init 28 = .ok (.getfield 10, 3) := by decide +kernel
theorem dX9_init_31 : decode cX9_init 31 = .ok (.getfield 21, 3) := by decide +kernel
theorem dX9_init_34 : decode cX9_init 34 = .ok (.putfield 25, 3) := by decide +kernel
theorem dX9_init_37 : decode cX9_init 37 = .ok (.aload_n 0, 1) := by decide +kernel
theorem dX9_init_38 : decode cX9_init 38 = .ok (.new 26, 3) := by decide +kernel
theorem dX9_init_41 : decode cX9_init 41 = .ok (.dup, 1) := by decide +kernel
theorem dX9_init_42 : decode cX9_init 42 = .ok (.invokespecial 28, 3) := by decide +kernel
theorem dX9_init_45 : decode cX9_init 45 = .ok (.putfield 29, 3) := by decide +kernel
theorem dX9_init_48 : decode cX9_init 48 = .ok (.aload_n 0, 1) := by decide +kernel
theorem dX9_init_49 : decode cX9_init 49 = .ok (.new 33, 3) := by decide +kernel
theorem dX9_init_52 : decode cX9_init 52 = .ok (.dup, 1) := by decide +kernel
theorem dX9_init_53 : decode cX9_init 53 = .ok (.invokespecial 35, 3) := by decide +kernel
theorem dX9_init_56 : decode cX9_init 56 = .ok (.putfield 36, 3) := by decide +kernel
theorem dX9_init_59 : decode cX9_init 59 = .ok (.aload_n 0, 1) := by decide +kernel
theorem dX9_init_60 : decode cX9_init 60 = .ok (.new 40, 3) := by decide +kernel
theorem dX9_init_63 : decode cX9_init 63 = .ok (.dup, 1) := by decide +kernel
theorem dX9_init_64 : decode cX9_init 64 = .ok (.invokespecial 42, 3) := by decide +kernel
theorem dX9_init_67 : decode cX9_init 67 = .ok (.putfield 43, 3) := by decide +kernel
theorem dX9_init_70 : decode cX9_init 70 = .ok (.aload_n 0, 1) := by decide +kernel
theorem dX9_init_71 : decode cX9_init 71 = .ok (.new 47, 3) := by decide +kernel
theorem dX9_init_74 : decode cX9_init 74 = .ok (.dup, 1) := by decide +kernel
theorem dX9_init_75 : decode cX9_init 75 = .ok (.invokespecial 49, 3) := by decide +kernel
theorem dX9_init_78 : decode cX9_init 78 = .ok (.putfield 50, 3) := by decide +kernel
theorem dX9_init_81 : decode cX9_init 81 = .ok (.aload_n 0, 1) := by decide +kernel
theorem dX9_init_82 : decode cX9_init 82 = .ok (.new 54, 3) := by decide +kernel
theorem dX9_init_85 : decode cX9_init 85 = .ok (.dup, 1) := by decide +kernel
theorem dX9_init_86 : decode cX9_init 86 = .ok (.invokespecial 56, 3) := by decide +kernel
theorem dX9_init_89 : decode cX9_init 89 = .ok (.putfield 57, 3) := by decide +kernel
theorem dX9_init_92 : decode cX9_init 92 = .ok (.aload_n 0, 1) := by decide +kernel
theorem dX9_init_93 : decode cX9_init 93 = .ok (.iconst 0, 1) := by decide +kernel
theorem dX9_init_94 : decode cX9_init 94 = .ok (.putfield 61, 3) := by decide +kernel
theorem dX9_init_97 : decode cX9_init 97 = .ok (.aload_n 0, 1) := by decide +kernel
theorem dX9_init_98 : decode cX9_init 98 = .ok (.iconst (-1), 1) := by decide +kernel
theorem dX9_init_99 : decode cX9_init 99 = .ok (.putfield 65, 3) := by decide +kernel
theorem dX9_init_102 : decode cX9_init 102 = .ok (.aload_n 0, 1) := by decide +kernel
theorem dX9_init_103 : decode cX9_init 103 = .ok (.iconst 0, 1) := by decide +kernel
theorem dX9_init_104 : decode cX9_init 104 = .ok (.putfield 68, 3) := by decide +kernel
theorem dX9_init_107 : decode cX9_init 107 = .ok (.aload_n 0, 1) := by decide +kernel
theorem dX9_init_108 : decode cX9_init 108 = .ok (.iconst 0, 1) := by decide +kernel
theorem dX9_init_109 : decode cX9_init 109 = .ok (.putfield 71, 3) := by decide +kernel
theorem dX9_init_112 : decode cX9_init 112 = .ok (.return_, 1) := by decide +kernel
theorem dX9_pass_0 : decode cX9_pass 0 = .ok (.iload_n 1, 1) := by decide +kernel
theorem dX9_pass_1 : decode cX9_pass 1 = .ok (.iconst 1, 1) := by decide +kernel
theorem dX9_pass_2 : decode cX9_pass 2 = .ok (.if_icmp .lt 21, 3) := by decide +kernel
theorem dX9_pass_5 : decode cX9_pass 5 = .ok (.iload_n 1, 1) := by decide +kernel
theorem dX9_pass_6 : decode cX9_pass 6 = .ok (.bipush 100, 2) := by decide +kernel
theorem dX9_pass_8 : decode cX9_pass 8 = .ok (.if_icmp .gt 15, 3) := by decide +kernel
theorem dX9_pass_11 : decode cX9_pass 11 = .ok (.aload_n 0, 1) := by decide +kernel
theorem dX9_pass_12 : decode cX9_pass 12 = .ok (.getfield 61, 3) := by decide +kernel
theorem dX9_pass_15 : decode cX9_pass 15 = .ok (.iload_n 1, 1) := by decide +kernel
theorem dX9_pass_16 : decode cX9_pass 16 = .ok (.iadd, 1) := by decide +kernel
theorem dX9_pass_17 : decode cX9_pass 17 = .ok (.sipush 399, 3) := by decide +kernel
theorem dX9_pass_20 : decode cX9_pass 20 = .ok (.if_icmp .le 6, 3) := by decide +kernel
theorem dX9_pass_23 : decode cX9_pass 23 = .ok (.bipush (-2), 2) := by decide +kernel
theorem dX9_pass_25 : decode cX9_pass 25 = .ok (.ireturn, 1) := by decide +kernel
theorem dX9_pass_26 : decode cX9_pass 26 = .ok (.aload_n 0, 1) := by decide +kernel
theorem dX9_pass_27 : decode cX9_pass 27 = .ok (.dup, 1) := by decide +kernel
theorem dX9_pass_28 : decode cX9_pass 28 = .ok (.getfield 61, 3) := by decide +kernel
theorem dX9_pass_31 : decode cX9_pass 31 = .ok (.iload_n 1, 1) := by decide +kernel
theorem dX9_pass_32 : decode cX9_pass 32 = .ok (.iadd, 1) := by decide +kernel
theorem dX9_pass_33 : decode cX9_pass 33 = .ok (.putfield 61, 3) := by decide +kernel
theorem dX9_pass_36 : decode cX9_pass 36 = .ok (.aload_n 0, 1) := by decide +kernel
theorem dX9_pass_37 : decode cX9_pass 37 = .ok (.getfield 61, 3) := by decide +kernel
theorem dX9_pass_40 : decode cX9_pass 40 = .ok (.ireturn, 1) := by decide +kernel
theorem dX9_thing_0 : decode cX9_thing 0 = .ok (.aload_n 0, 1) := by decide +kernel
theorem dX9_thing_1 : decode cX9_thing 1 = .ok (.getfield 68, 3) := by decide +kernel
theorem dX9_thing_4 : decode cX9_thing 4 = .ok (.bipush 12, 2) := by decide +kernel
theorem dX9_thing_6 : decode cX9_thing 6 = .ok (.if_icmp .lt 6, 3) := by decide +kernel
theorem dX9_thing_9 : decode cX9_thing 9 = .ok (.bipush (-4), 2) := by decide +kernel
theorem dX9_thing_11 : decode cX9_thing 11 = .ok (.ireturn, 1) := by decide +kernel
theorem dX9_thing_12 : decode cX9_thing 12 = .ok (.aload_n 0, 1) := by decide +kernel
theorem dX9_thing_13 : decode cX9_thing 13 = .ok (.dup, 1) := by decide +kernel
theorem dX9_thing_14 : decode cX9_thing 14 = .ok (.getfield 68, 3) := by decide +kernel
theorem dX9_thing_17 : decode cX9_thing 17 = .ok (.iconst 1, 1) := by decide +kernel
theorem dX9_thing_18 : decode cX9_thing 18 = .ok (.iadd, 1) := by decide +kernel
theorem dX9_thing_19 : decode cX9_thing 19 = .ok (.putfield 68, 3) := by decide +kernel
theorem dX9_thing_22 : decode cX9_thing 22 = .ok (.aload_n 0, 1) := by decide +kernel
theorem dX9_thing_23 : decode cX9_thing 23 = .ok (.getfield 68, 3) := by decide +kernel
theorem dX9_thing_26 : decode cX9_thing 26 = .ok (.iconst 1, 1) := by decide +kernel
theorem dX9_thing_27 : decode cX9_thing 27 = .ok (.isub, 1) := by decide +kernel
theorem dX9_thing_28 : decode cX9_thing 28 = .ok (.ireturn, 1) := by decide +kernel
theorem dX9_book_0 : decode cX9_book 0 = .ok (.iload_n 1, 1) := by decide +kernel
theorem dX9_book_1 : decode cX9_book 1 = .ok (.iload_n 2, 1) := by decide +kernel
theorem dX9_book_2 : decode cX9_book 2 = .ok (.sipush 1000, 3) := by decide +kernel
theorem dX9_book_5 : decode cX9_book 5 = .ok (.invokestatic 74, 3) := by decide +kernel
theorem dX9_book_8 : decode cX9_book 8 = .ok (.ifCond .ne 6, 3) := by decide +kernel
theorem dX9_book_11 : decode cX9_book 11 = .ok (.bipush (-2), 2) := by decide +kernel
theorem dX9_book_13 : decode cX9_book 13 = .ok (.ireturn, 1) := by decide +kernel
theorem dX9_book_14 : decode cX9_book 14 = .ok (.aload_n 0, 1) := by decide +kernel
theorem dX9_book_15 : decode cX9_book 15 = .ok (.getfield 20, 3) := by decide +kernel
theorem dX9_book_18 : decode cX9_book 18 = .ok (.iload_n 1, 1) := by decide +kernel
theorem dX9_book_19 : decode cX9_book 19 = .ok (.iload_n 2, 1) := by decide +kernel
theorem dX9_book_20 : decode cX9_book 20 = .ok (.invokevirtual 78, 3) := by decide +kernel
theorem dX9_book_23 : decode cX9_book 23 = .ok (.ireturn, 1) := by decide +kernel
theorem dX9_trust_0 : decode cX9_trust 0 = .ok (.aload_n 0, 1) := by decide +kernel
theorem dX9_trust_1 : decode cX9_trust 1 = .ok (.iload_n 1, 1) := by decide +kernel
theorem dX9_trust_2 : decode cX9_trust 2 = .ok (.invokevirtual 84, 3) := by decide +kernel
theorem dX9_trust_5 : decode cX9_trust 5 = .ok (.ifCond .eq 14, 3) := by decide +kernel
theorem dX9_trust_8 : decode cX9_trust 8 = .ok (.iload_n 2, 1) := by decide +kernel
theorem dX9_trust_9 : decode cX9_trust 9 = .ok (.iconst 1, 1) := by decide +kernel
theorem dX9_trust_10 : decode cX9_trust 10 = .ok (.if_icmp .lt 9, 3) := by decide +kernel
theorem dX9_trust_13 : decode cX9_trust 13 = .ok (.iload_n 2, 1) := by decide +kernel
theorem dX9_trust_14 : decode cX9_trust 14 = .ok (.bipush 9, 2) := by decide +kernel
theorem dX9_trust_16 : decode cX9_trust 16 = .ok (.if_icmp .le 6, 3) := by decide +kernel
theorem dX9_trust_19 : decode cX9_trust 19 = .ok (.bipush (-2), 2) := by decide +kernel
theorem dX9_trust_21 : decode cX9_trust 21 = .ok (.ireturn, 1) := by decide +kernel
theorem dX9_trust_22 : decode cX9_trust 22 = .ok (.aload_n 0, 1) := by decide +kernel
theorem dX9_trust_23 : decode cX9_trust 23 = .ok (.getfield 20, 3) := by decide +kernel
theorem dX9_trust_26 : decode cX9_trust 26 = .ok (.getfield 88, 3) := by decide +kernel
theorem dX9_trust_29 : decode cX9_trust 29 = .ok (.iload_n 1, 1) := by decide +kernel
theorem dX9_trust_30 : decode cX9_trust 30 = .ok (.iaload, 1) := by decide +kernel
theorem dX9_trust_31 : decode cX9_trust 31 = .ok (.istore_n 3, 1) := by decide +kernel
theorem dX9_trust_32 : decode cX9_trust 32 = .ok (.aload_n 0, 1) := by decide +kernel
theorem dX9_trust_33 : decode cX9_trust 33 = .ok (.getfield 20, 3) := by decide +kernel
theorem dX9_trust_36 : decode cX9_trust 36 = .ok (.getfield 88, 3) := by decide +kernel
theorem dX9_trust_39 : decode cX9_trust 39 = .ok (.iload_n 1, 1) := by decide +kernel
theorem dX9_trust_40 : decode cX9_trust 40 = .ok (.iload_n 2, 1) := by decide +kernel
theorem dX9_trust_41 : decode cX9_trust 41 = .ok (.iastore, 1) := by decide +kernel
theorem dX9_trust_42 : decode cX9_trust 42 = .ok (.iload_n 3, 1) := by decide +kernel
theorem dX9_trust_43 : decode cX9_trust 43 = .ok (.ireturn, 1) := by decide +kernel
theorem dX9_on_0 : decode cX9_on 0 = .ok (.aload_n 0, 1) := by decide +kernel
theorem dX9_on_1 : decode cX9_on 1 = .ok (.iload_n 1, 1) := by decide +kernel
theorem dX9_on_2 : decode cX9_on 2 = .ok (.invokevirtual 84, 3) := by decide +kernel
theorem dX9_on_5 : decode cX9_on 5 = .ok (.ifCond .eq 22, 3) := by decide +kernel
theorem dX9_on_8 : decode cX9_on 8 = .ok (.aload_n 0, 1) := by decide +kernel
theorem dX9_on_9 : decode cX9_on 9 = .ok (.iload_n 2, 1) := by decide +kernel
theorem dX9_on_10 : decode cX9_on 10 = .ok (.invokevirtual 92, 3) := by decide +kernel
theorem dX9_on_13 : decode cX9_on 13 = .ok (.ifCond .eq 14, 3) := by decide +kernel
theorem dX9_on_16 : decode cX9_on 16 = .ok (.iload_n 3, 1) := by decide +kernel
theorem dX9_on_17 : decode cX9_on 17 = .ok (.iload 4, 2) := by decide +kernel
theorem dX9_on_19 : decode cX9_on 19 = .ok (.ldc 95, 2) := by decide +kernel
theorem dX9_on_21 : decode cX9_on 21 = .ok (.invokestatic 74, 3) := by decide +kernel
theorem dX9_on_24 : decode cX9_on 24 = .ok (.ifCond .ne 6, 3) := by decide +kernel
theorem dX9_on_27 : decode cX9_on 27 = .ok (.bipush (-2), 2) := by decide +kernel
theorem dX9_on_29 : decode cX9_on 29 = .ok (.ireturn, 1) := by decide +kernel
theorem dX9_on_30 : decode cX9_on 30 = .ok (.aload_n 0, 1) := by decide +kernel
theorem dX9_on_31 : decode cX9_on 31 = .ok (.getfield 25, 3) := by decide +kernel
theorem dX9_on_34 : decode cX9_on 34 = .ok (.iload_n 1, 1) := by decide +kernel
theorem dX9_on_35 : decode cX9_on 35 = .ok (.iload_n 2, 1) := by decide +kernel
theorem dX9_on_36 : decode cX9_on 36 = .ok (.iconst (-1), 1) := by decide +kernel
theorem dX9_on_37 : decode cX9_on 37 = .ok (.iload_n 3, 1) := by decide +kernel
theorem dX9_on_38 : decode cX9_on 38 = .ok (.iload 4, 2) := by decide +kernel
theorem dX9_on_40 : decode cX9_on 40 = .ok (.aload_n 0, 1) := by decide +kernel
theorem dX9_on_41 : decode cX9_on 41 = .ok (.getfield 61, 3) := by decide +kernel
theorem dX9_on_44 : decode cX9_on 44 = .ok (.invokevirtual 96, 3) := by decide +kernel
theorem dX9_on_47 : decode cX9_on 47 = .ok (.ireturn, 1) := by decide +kernel
theorem dX9_apart_0 : decode cX9_apart 0 = .ok (.aload_n 0, 1) := by decide +kernel
theorem dX9_apart_1 : decode cX9_apart 1 = .ok (.iload_n 1, 1) := by decide +kernel
theorem dX9_apart_2 : decode cX9_apart 2 = .ok (.invokevirtual 84, 3) := by decide +kernel
theorem dX9_apart_5 : decode cX9_apart 5 = .ok (.ifCond .eq 24, 3) := by decide +kernel
theorem dX9_apart_8 : decode cX9_apart 8 = .ok (.aload_n 0, 1) := by decide +kernel
theorem dX9_apart_9 : decode cX9_apart 9 = .ok (.iload_n 2, 1) := by decide +kernel
theorem dX9_apart_10 : decode cX9_apart 10 = .ok (.iload_n 3, 1) := by decide +kernel
theorem dX9_apart_11 : decode cX9_apart 11 = .ok (.invokevirtual 102, 3) := by decide +kernel
theorem dX9_apart_14 : decode cX9_apart 14 = .ok (.ifCond .eq 15, 3) := by decide +kernel
theorem dX9_apart_17 : decode cX9_apart 17 = .ok (.iload 4, 2) := by decide +kernel
theorem dX9_apart_19 : decode cX9_apart 19 = .ok (.iload 5, 2) := by decide +kernel
theorem dX9_apart_21 : decode cX9_apart 21 = .ok (.ldc 106, 2) := by decide +kernel
theorem dX9_apart_23 : decode cX9_apart 23 = .ok (.invokestatic 74, 3) := by decide +kernel
theorem dX9_apart_26 : decode cX9_apart 26 = .ok (.ifCond .ne 6, 3) := by decide +kernel
theorem dX9_apart_29 : decode cX9_apart 29 = .ok (.bipush (-2), 2) := by decide +kernel
theorem dX9_apart_31 : decode cX9_apart 31 = .ok (.ireturn, 1) := by decide +kernel
theorem dX9_apart_32 : decode cX9_apart 32 = .ok (.aload_n 0, 1) := by decide +kernel
theorem dX9_apart_33 : decode cX9_apart 33 = .ok (.getfield 25, 3) := by decide +kernel
theorem dX9_apart_36 : decode cX9_apart 36 = .ok (.iload_n 1, 1) := by decide +kernel
theorem dX9_apart_37 : decode cX9_apart 37 = .ok (.iload_n 2, 1) := by decide +kernel
theorem dX9_apart_38 : decode cX9_apart 38 = .ok (.iload_n 3, 1) := by decide +kernel
theorem dX9_apart_39 : decode cX9_apart 39 = .ok (.iload 4, 2) := by decide +kernel
theorem dX9_apart_41 : decode cX9_apart 41 = .ok (.iload 5, 2) := by decide +kernel
theorem dX9_apart_43 : decode cX9_apart 43 = .ok (.aload_n 0, 1) := by decide +kernel
theorem dX9_apart_44 : decode cX9_apart 44 = .ok (.getfield 61, 3) := by decide +kernel
theorem dX9_apart_47 : decode cX9_apart 47 = .ok (.invokevirtual 96, 3) := by decide +kernel
theorem dX9_apart_50 : decode cX9_apart 50 = .ok (.ireturn, 1) := by decide +kernel
theorem dX9_read_0 : decode cX9_read 0 = .ok (.iload_n 1, 1) := by decide +kernel
theorem dX9_read_1 : decode cX9_read 1 = .ok (.invokestatic 107, 3) := by decide +kernel
theorem dX9_read_4 : decode cX9_read 4 = .ok (.ifCond .ne 6, 3) := by decide +kernel
theorem dX9_read_7 : decode cX9_read 7 = .ok (.bipush (-2), 2) := by decide +kernel
theorem dX9_read_9 : decode cX9_read 9 = .ok (.ireturn, 1) := by decide +kernel
theorem dX9_read_10 : decode cX9_read 10 = .ok (.aload_n 0, 1) := by decide +kernel
theorem dX9_read_11 : decode cX9_read 11 = .ok (.getfield 57, 3) := by decide +kernel
theorem dX9_read_14 : decode cX9_read 14 = .ok (.iload_n 1, 1) := by decide +kernel
theorem dX9_read_15 : decode cX9_read 15 = .ok (.invokevirtual 110, 3) := by decide +kernel
theorem dX9_read_18 : decode cX9_read 18 = .ok (.ifCond .eq 9, 3) := by decide +kernel
theorem dX9_read_21 : decode cX9_read 21 = .ok (.aload_n 0, 1) := by decide +kernel
theorem dX9_read_22 : decode cX9_read 22 = .ok (.iconst 1, 1) := by decide +kernel
theorem dX9_read_23 : decode cX9_read 23 = .ok (.invokevirtual 113, 3) := by decide +kernel
theorem dX9_read_26 : decode cX9_read 26 = .ok (.ireturn, 1) := by decide +kernel
theorem dX9_read_27 : decode cX9_read 27 = .ok (.aload_n 0, 1) := by decide +kernel
theorem dX9_read_28 : decode cX9_read 28 = .ok (.getfield 57, 3) := by decide +kernel
theorem dX9_read_31 : decode cX9_read 31 = .ok (.getfield 117, 3) := by decide +kernel
theorem dX9_read_34 : decode cX9_read 34 = .ok (.iload_n 1, 1) := by decide +kernel
theorem dX9_read_35 : decode cX9_read 35 = .ok (.iaload, 1) := by decide +kernel
theorem dX9_read_36 : decode cX9_read 36 = .ok (.iconst 5, 1) := by decide +kernel
theorem dX9_read_37 : decode cX9_read 37 = .ok (.idiv, 1) := by decide +kernel
theorem dX9_read_38 : decode cX9_read 38 = .ok (.istore_n 2, 1) := by decide +kernel
theorem dX9_read_39 : decode cX9_read 39 = .ok (.iconst 0, 1) := by decide +kernel
theorem dX9_read_40 : decode cX9_read 40 = .ok (.istore_n 3, 1) := by decide +kernel
theorem dX9_read_41 : decode cX9_read 41 = .ok (.iload_n 3, 1) := by decide +kernel
theorem dX9_read_42 : decode cX9_read 42 = .ok (.iload_n 2, 1) := by decide +kernel
theorem dX9_read_43 : decode cX9_read 43 = .ok (.if_icmp .ge 22, 3) := by decide +kernel
theorem dX9_read_46 : decode cX9_read 46 = .ok (.aload_n 0, 1) := by decide +kernel
theorem dX9_read_47 : decode cX9_read 47 = .ok (.iload_n 1, 1) := by decide +kernel
theorem dX9_read_48 : decode cX9_read 48 = .ok (.iload_n 3, 1) := by decide +kernel
theorem dX9_read_49 : decode cX9_read 49 = .ok (.iconst 5, 1) := by decide +kernel
theorem dX9_read_50 : decode cX9_read 50 = .ok (.imul, 1) := by decide +kernel
theorem dX9_read_51 : decode cX9_read 51 = .ok (.invokevirtual 120, 3) := by decide +kernel
theorem dX9_read_54 : decode cX9_read 54 = .ok (.ifCond .ge 5, 3) := by decide +kernel
theorem dX9_read_57 : decode cX9_read 57 = .ok (.iload_n 3, 1) := by decide +kernel
theorem dX9_read_58 : decode cX9_read 58 = .ok (.ireturn, 1) := by decide +kernel
theorem dX9_read_59 : decode cX9_read 59 = .ok (.iinc 3 1, 3) := by decide +kernel
theorem dX9_read_62 : decode cX9_read 62 = .ok (.goto (-21), 3) := by decide +kernel
theorem dX9_read_65 : decode cX9_read 65 = .ok (.iload_n 2, 1) := by decide +kernel
theorem dX9_read_66 : decode cX9_read 66 = .ok (.ireturn, 1) := by decide +kernel
theorem dX9_takeBack_0 : decode cX9_takeBack 0 = .ok (.aload_n 0, 1) := by decide +kernel
theorem dX9_takeBack_1 : decode cX9_takeBack 1 = .ok (.iload_n 1, 1) := by decide +kernel
theorem dX9_takeBack_2 : decode cX9_takeBack 2 = .ok (.invokevirtual 123, 3) := by decide +kernel
theorem dX9_takeBack_5 : decode cX9_takeBack 5 = .ok (.ifCond .ne 6, 3) := by decide +kernel
theorem dX9_takeBack_8 : decode cX9_takeBack 8 = .ok (.bipush (-2), 2) := by decide +kernel
theorem dX9_takeBack_10 : decode cX9_takeBack 10 = .ok (.ireturn, 1) := by decide +kernel
theorem dX9_takeBack_11 : decode cX9_takeBack 11 = .ok (.aload_n 0, 1) := by decide +kernel
theorem dX9_takeBack_12 : decode cX9_takeBack 12 = .ok (.getfield 25, 3) := by decide +kernel
theorem dX9_takeBack_15 : decode cX9_takeBack 15 = .ok (.getfield 126, 3) := by decide +kernel
theorem dX9_takeBack_18 : decode cX9_takeBack 18 = .ok (.iload_n 1, 1) := by decide +kernel
theorem dX9_takeBack_19 : decode cX9_takeBack 19 = .ok (.iaload, 1) := by decide +kernel
theorem dX9_takeBack_20 : decode cX9_takeBack 20 = .ok (.iconst (-1), 1) := by decide +kernel
theorem dX9_takeBack_21 : decode cX9_takeBack 21 = .ok (.if_icmp .eq 6, 3) := by decide +kernel
theorem dX9_takeBack_24 : decode cX9_takeBack 24 = .ok (.bipush (-3), 2) := by decide +kernel
theorem dX9_takeBack_26 : decode cX9_takeBack 26 = .ok (.ireturn, 1) := by decide +kernel
theorem dX9_takeBack_27 : decode cX9_takeBack 27 = .ok (.aload_n 0, 1) := by decide +kernel
theorem dX9_takeBack_28 : decode cX9_takeBack 28 = .ok (.getfield 25, 3) := by decide +kernel
theorem dX9_takeBack_31 : decode cX9_takeBack 31 = .ok (.getfield 126, 3) := by decide +kernel
theorem dX9_takeBack_34 : decode cX9_takeBack 34 = .ok (.iload_n 1, 1) := by decide +kernel
theorem dX9_takeBack_35 : decode cX9_takeBack 35 = .ok (.aload_n 0, 1) := by decide +kernel
theorem dX9_takeBack_36 : decode cX9_takeBack 36 = .ok (.getfield 61, 3) := by decide +kernel
theorem dX9_takeBack_39 : decode cX9_takeBack 39 = .ok (.iastore, 1) := by decide +kernel
theorem dX9_takeBack_40 : decode cX9_takeBack 40 = .ok (.iconst 1, 1) := by decide +kernel
theorem dX9_takeBack_41 : decode cX9_takeBack 41 = .ok (.ireturn, 1) := by decide +kernel
theorem dX9_about_0 : decode cX9_about 0 = .ok (.aload_n 0, 1) := by decide +kernel
theorem dX9_about_1 : decode cX9_about 1 = .ok (.iload_n 1, 1) := by decide +kernel
theorem dX9_about_2 : decode cX9_about 2 = .ok (.invokevirtual 123, 3) := by decide +kernel
theorem dX9_about_5 : decode cX9_about 5 = .ok (.ifCond .ne 6, 3) := by decide +kernel
theorem dX9_about_8 : decode cX9_about 8 = .ok (.ldc 129, 2) := by decide +kernel
theorem dX9_about_10 : decode cX9_about 10 = .ok (.ireturn, 1) := by decide +kernel
theorem dX9_about_11 : decode cX9_about 11 = .ok (.iload_n 2, 1) := by decide +kernel
theorem dX9_about_12 : decode cX9_about 12 = .ok (.tableswitch 134 0 7 #[48, 58, 68, 78, 88, 98, 108, 118], 48) := by decide +kernel
theorem dX9_about_60 : decode cX9_about 60 = .ok (.aload_n 0, 1) := by decide +kernel
theorem dX9_about_61 : decode cX9_about 61 = .ok (.getfield 25, 3) := by decide +kernel
theorem dX9_about_64 : decode cX9_about 64 = .ok (.getfield 130, 3) := by decide +kernel
theorem dX9_about_67 : decode cX9_about 67 = .ok (.iload_n 1, 1) := by decide +kernel
theorem dX9_about_68 : decode cX9_about 68 = .ok (.iaload, 1) := by decide +kernel
theorem dX9_about_69 : decode cX9_about 69 = .ok (.ireturn, 1) := by decide +kernel
theorem dX9_about_70 : decode cX9_about 70 = .ok (.aload_n 0, 1) := by decide +kernel
theorem dX9_about_71 : decode cX9_about 71 = .ok (.getfield 25, 3) := by decide +kernel
theorem dX9_about_74 : decode cX9_about 74 = .ok (.getfield 133, 3) := by decide +kernel
theorem dX9_about_77 : decode cX9_about 77 = .ok (.iload_n 1, 1) := by decide +kernel
theorem dX9_about_78 : decode cX9_about 78 = .ok (.iaload, 1) := by decide +kernel
theorem dX9_about_79 : decode cX9_about 79 = .ok (.ireturn, 1) := by decide +kernel
theorem dX9_about_80 : decode cX9_about 80 = .ok (.aload_n 0, 1) := by decide +kernel
theorem dX9_about_81 : decode cX9_about 81 = .ok (.getfield 25, 3) := by decide +kernel
theorem dX9_about_84 : decode cX9_about 84 = .ok (.getfield 136, 3) := by decide +kernel
theorem dX9_about_87 : decode cX9_about 87 = .ok (.iload_n 1, 1) := by decide +kernel
theorem dX9_about_88 : decode cX9_about 88 = .ok (.iaload, 1) := by decide +kernel
theorem dX9_about_89 : decode cX9_about 89 = .ok (.ireturn, 1) := by decide +kernel
theorem dX9_about_90 : decode cX9_about 90 = .ok (.aload_n 0, 1) := by decide +kernel
theorem dX9_about_91 : decode cX9_about 91 = .ok (.getfield 25, 3) := by decide +kernel
theorem dX9_about_94 : decode cX9_about 94 = .ok (.getfield 139, 3) := by decide +kernel
theorem dX9_about_97 : decode cX9_about 97 = .ok (.iload_n 1, 1) := by decide +kernel
theorem dX9_about_98 : decode cX9_about 98 = .ok (.iaload, 1) := by decide +kernel
theorem dX9_about_99 : decode cX9_about 99 = .ok (.ireturn, 1) := by decide +kernel
theorem dX9_about_100 : decode cX9_about 100 = .ok (.aload_n 0, 1) := by decide +kernel
theorem dX9_about_101 : decode cX9_about 101 = .ok (.getfield 25, 3) := by decide +kernel
theorem dX9_about_104 : decode cX9_about 104 = .ok (.getfield 142, 3) := by decide +kernel
theorem dX9_about_107 : decode cX9_about 107 = .ok (.iload_n 1, 1) := by decide +kernel
theorem dX9_about_108 : decode cX9_about 108 = .ok (.iaload, 1) := by decide +kernel
theorem dX9_about_109 : decode cX9_about 109 = .ok (.ireturn, 1) := by decide +kernel
theorem dX9_about_110 : decode cX9_about 110 = .ok (.aload_n 0, 1) := by decide +kernel
theorem dX9_about_111 : decode cX9_about 111 = .ok (.getfield 25, 3) := by decide +kernel
theorem dX9_about_114 : decode cX9_about 114 = .ok (.getfield 145, 3) := by decide +kernel
theorem dX9_about_117 : decode cX9_about 117 = .ok (.iload_n 1, 1) := by decide +kernel
theorem dX9_about_118 : decode cX9_about 118 = .ok (.iaload, 1) := by decide +kernel
theorem dX9_about_119 : decode cX9_about 119 = .ok (.ireturn, 1) := by decide +kernel
theorem dX9_about_120 : decode cX9_about 120 = .ok (.aload_n 0, 1) := by decide +kernel
theorem dX9_about_121 : decode cX9_about 121 = .ok (.getfield 25, 3) := by decide +kernel
theorem dX9_about_124 : decode cX9_about 124 = .ok (.getfield 126, 3) := by decide +kernel
theorem dX9_about_127 : decode cX9_about 127 = .ok (.iload_n 1, 1) := by decide +kernel
theorem dX9_about_128 : decode cX9_about 128 = .ok (.iaload, 1) := by decide +kernel
theorem dX9_about_129 : decode cX9_about 129 = .ok (.ireturn, 1) := by decide +kernel
theorem dX9_about_130 : decode cX9_about 130 = .ok (.aload_n 0, 1) := by decide +kernel
theorem dX9_about_131 : decode cX9_about 131 = .ok (.getfield 25, 3) := by decide +kernel
theorem dX9_about_134 : decode cX9_about 134 = .ok (.iload_n 1, 1) := by decide +kernel
theorem dX9_about_135 : decode cX9_about 135 = .ok (.aload_n 0, 1) := by decide +kernel
theorem dX9_about_136 : decode cX9_about 136 = .ok (.invokevirtual 148, 3) := by decide +kernel
theorem dX9_about_139 : decode cX9_about 139 = .ok (.invokevirtual 152, 3) := by decide +kernel
theorem dX9_about_142 : decode cX9_about 142 = .ok (.invokestatic 155, 3) := by decide +kernel
theorem dX9_about_145 : decode cX9_about 145 = .ok (.ireturn, 1) := by decide +kernel
theorem dX9_about_146 : decode cX9_about 146 = .ok (.ldc 129, 2) := by decide +kernel
theorem dX9_about_148 : decode cX9_about 148 = .ok (.ireturn, 1) := by decide +kernel
theorem dX9_asOf_0 : decode cX9_asOf 0 = .ok (.iload_n 1, 1) := by decide +kernel
theorem dX9_asOf_1 : decode cX9_asOf 1 = .ok (.iconst (-1), 1) := by decide +kernel
theorem dX9_asOf_2 : decode cX9_asOf 2 = .ok (.if_icmp .eq 18, 3) := by decide +kernel
theorem dX9_asOf_5 : decode cX9_asOf 5 = .ok (.iload_n 1, 1) := by decide +kernel
theorem dX9_asOf_6 : decode cX9_asOf 6 = .ok (.ifCond .lt 11, 3) := by decide +kernel
theorem dX9_asOf_9 : decode cX9_asOf 9 = .ok (.iload_n 1, 1) := by decide +kernel
theorem dX9_asOf_10 : decode cX9_asOf 10 = .ok (.aload_n 0, 1) := by decide +kernel
theorem dX9_asOf_11 : decode cX9_asOf 11 = .ok (.getfield 61, 3) := by decide +kernel
theorem dX9_asOf_14 : decode cX9_asOf 14 = .ok (.if_icmp .le 6, 3) := by decide +kernel
theorem dX9_asOf_17 : decode cX9_asOf 17 = .ok (.bipush (-2), 2) := by decide +kernel
theorem dX9_asOf_19 : decode cX9_asOf 19 = .ok (.ireturn, 1) := by decide +kernel
theorem dX9_asOf_20 : decode cX9_asOf 20 = .ok (.aload_n 0, 1) := by decide +kernel
theorem dX9_asOf_21 : decode cX9_asOf 21 = .ok (.getfield 65, 3) := by decide +kernel
theorem dX9_asOf_24 : decode cX9_asOf 24 = .ok (.istore_n 2, 1) := by decide +kernel
theorem dX9_asOf_25 : decode cX9_asOf 25 = .ok (.aload_n 0, 1) := by decide +kernel
theorem dX9_asOf_26 : decode cX9_asOf 26 = .ok (.iload_n 1, 1) := by decide +kernel
theorem dX9_asOf_27 : decode cX9_asOf 27 = .ok (.putfield 65, 3) := by decide +kernel
theorem dX9_asOf_30 : decode cX9_asOf 30 = .ok (.iload_n 2, 1) := by decide +kernel
theorem dX9_asOf_31 : decode cX9_asOf 31 = .ok (.ireturn, 1) := by decide +kernel
theorem dX9_can_0 : decode cX9_can 0 = .ok (.lload_n 1, 1) := by decide +kernel
theorem dX9_can_1 : decode cX9_can 1 = .ok (.aload_n 0, 1) := by decide +kernel
theorem dX9_can_2 : decode cX9_can 2 = .ok (.getfield 25, 3) := by decide +kernel
theorem dX9_can_5 : decode cX9_can 5 = .ok (.getfield 159, 3) := by decide +kernel
theorem dX9_can_8 : decode cX9_can 8 = .ok (.lushr, 1) := by decide +kernel
theorem dX9_can_9 : decode cX9_can 9 = .ok (.lconst 0, 1) := by decide +kernel
theorem dX9_can_10 : decode cX9_can 10 = .ok (.lcmp, 1) := by decide +kernel
theorem dX9_can_11 : decode cX9_can 11 = .ok (.ifCond .eq 6, 3) := by decide +kernel
theorem dX9_can_14 : decode cX9_can 14 = .ok (.bipush (-2), 2) := by decide +kernel
theorem dX9_can_16 : decode cX9_can 16 = .ok (.ireturn, 1) := by decide +kernel
theorem dX9_can_17 : decode cX9_can 17 = .ok (.lload_n 1, 1) := by decide +kernel
theorem dX9_can_18 : decode cX9_can 18 = .ok (.aload_n 0, 1) := by decide +kernel
theorem dX9_can_19 : decode cX9_can 19 = .ok (.invokevirtual 161, 3) := by decide +kernel
theorem dX9_can_22 : decode cX9_can 22 = .ok (.ldc2_w 165, 3) := by decide +kernel
theorem dX9_can_25 : decode cX9_can 25 = .ok (.lxor, 1) := by decide +kernel
theorem dX9_can_26 : decode cX9_can 26 = .ok (.land, 1) := by decide +kernel
theorem dX9_can_27 : decode cX9_can 27 = .ok (.lconst 0, 1) := by decide +kernel
theorem dX9_can_28 : decode cX9_can 28 = .ok (.lcmp, 1) := by decide +kernel
theorem dX9_can_29 : decode cX9_can 29 = .ok (.ifCond .eq 6, 3) := by decide +kernel
theorem dX9_can_32 : decode cX9_can 32 = .ok (.bipush (-3), 2) := by decide +kernel
theorem dX9_can_34 : decode cX9_can 34 = .ok (.ireturn, 1) := by decide +kernel
theorem dX9_can_35 : decode cX9_can 35 = .ok (.aload_n 0, 1) := by decide +kernel
theorem dX9_can_36 : decode cX9_can 36 = .ok (.getfield 10, 3) := by decide +kernel
theorem dX9_can_39 : decode cX9_can 39 = .ok (.lload_n 1, 1) := by decide +kernel
theorem dX9_can_40 : decode cX9_can 40 = .ok (.invokevirtual 167, 3) := by decide +kernel
theorem dX9_can_43 : decode cX9_can 43 = .ok (.invokestatic 155, 3) := by decide +kernel
theorem dX9_can_46 : decode cX9_can 46 = .ok (.ireturn, 1) := by decide +kernel
theorem dX9_all_0 : decode cX9_all 0 = .ok (.aload_n 0, 1) := by decide +kernel
theorem dX9_all_1 : decode cX9_all 1 = .ok (.getfield 10, 3) := by decide +kernel
theorem dX9_all_4 : decode cX9_all 4 = .ok (.aload_n 0, 1) := by decide +kernel
theorem dX9_all_5 : decode cX9_all 5 = .ok (.invokevirtual 161, 3) := by decide +kernel
theorem dX9_all_8 : decode cX9_all 8 = .ok (.invokevirtual 167, 3) := by decide +kernel
theorem dX9_all_11 : decode cX9_all 11 = .ok (.invokestatic 155, 3) := by decide +kernel
theorem dX9_all_14 : decode cX9_all 14 = .ok (.ireturn, 1) := by decide +kernel
theorem dX9_span_0 : decode cX9_span 0 = .ok (.aload_n 0, 1) := by decide +kernel
theorem dX9_span_1 : decode cX9_span 1 = .ok (.iload_n 1, 1) := by decide +kernel
theorem dX9_span_2 : decode cX9_span 2 = .ok (.invokevirtual 92, 3) := by decide +kernel
theorem dX9_span_5 : decode cX9_span 5 = .ok (.ifCond .eq 10, 3) := by decide +kernel
theorem dX9_span_8 : decode cX9_span 8 = .ok (.iload_n 2, 1) := by decide +kernel
theorem dX9_span_9 : decode cX9_span 9 = .ok (.invokestatic 171, 3) := by decide +kernel
theorem dX9_span_12 : decode cX9_span 12 = .ok (.ifCond .ne 6, 3) := by decide +kernel
theorem dX9_span_15 : decode cX9_span 15 = .ok (.ldc 129, 2) := by decide +kernel
theorem dX9_span_17 : decode cX9_span 17 = .ok (.ireturn, 1) := by decide +kernel
theorem dX9_span_18 : decode cX9_span 18 = .ok (.aload_n 0, 1) := by decide +kernel
theorem dX9_span_19 : decode cX9_span 19 = .ok (.getfield 10, 3) := by decide +kernel
theorem dX9_span_22 : decode cX9_span 22 = .ok (.aload_n 0, 1) := by decide +kernel
theorem dX9_span_23 : decode cX9_span 23 = .ok (.invokevirtual 161, 3) := by decide +kernel
theorem dX9_span_26 : decode cX9_span 26 = .ok (.invokevirtual 174, 3) := by decide +kernel
theorem dX9_span_29 : decode cX9_span 29 = .ok (.ifCond .ne 6, 3) := by decide +kernel
theorem dX9_span_32 : decode cX9_span 32 = .ok (.ldc 177, 2) := by decide +kernel
theorem dX9_span_34 : decode cX9_span 34 = .ok (.ireturn, 1) := by decide +kernel
theorem dX9_span_35 : decode cX9_span 35 = .ok (.aload_n 0, 1) := by decide +kernel
theorem dX9_span_36 : decode cX9_span 36 = .ok (.getfield 10, 3) := by decide +kernel
theorem dX9_span_39 : decode cX9_span 39 = .ok (.iload_n 1, 1) := by decide +kernel
theorem dX9_span_40 : decode cX9_span 40 = .ok (.iload_n 2, 1) := by decide +kernel
theorem dX9_span_41 : decode cX9_span 41 = .ok (.invokevirtual 178, 3) := by decide +kernel
theorem dX9_span_44 : decode cX9_span 44 = .ok (.ireturn, 1) := by decide +kernel
theorem dX9_clock_0 : decode cX9_clock 0 = .ok (.aload_n 0, 1) := by decide +kernel
theorem dX9_clock_1 : decode cX9_clock 1 = .ok (.iload_n 1, 1) := by decide +kernel
theorem dX9_clock_2 : decode cX9_clock 2 = .ok (.invokevirtual 84, 3) := by decide +kernel
theorem dX9_clock_5 : decode cX9_clock 5 = .ok (.ifCond .eq 10, 3) := by decide +kernel
theorem dX9_clock_8 : decode cX9_clock 8 = .ok (.iload_n 2, 1) := by decide +kernel
theorem dX9_clock_9 : decode cX9_clock 9 = .ok (.invokestatic 171, 3) := by decide +kernel
theorem dX9_clock_12 : decode cX9_clock 12 = .ok (.ifCond .ne 6, 3) := by decide +kernel
theorem dX9_clock_15 : decode cX9_clock 15 = .ok (.ldc 129, 2) := by decide +kernel
theorem dX9_clock_17 : decode cX9_clock 17 = .ok (.ireturn, 1) := by decide +kernel
theorem dX9_clock_18 : decode cX9_clock 18 = .ok (.aload_n 0, 1) := by decide +kernel
theorem dX9_clock_19 : decode cX9_clock 19 = .ok (.getfield 10, 3) := by decide +kernel
theorem dX9_clock_22 : decode cX9_clock 22 = .ok (.aload_n 0, 1) := by decide +kernel
theorem dX9_clock_23 : decode cX9_clock 23 = .ok (.invokevirtual 161, 3) := by decide +kernel
theorem dX9_clock_26 : decode cX9_clock 26 = .ok (.invokevirtual 174, 3) := by decide +kernel
theorem dX9_clock_29 : decode cX9_clock 29 = .ok (.ifCond .ne 6, 3) := by decide +kernel
theorem dX9_clock_32 : decode cX9_clock 32 = .ok (.ldc 177, 2) := by decide +kernel
theorem dX9_clock_34 : decode cX9_clock 34 = .ok (.ireturn, 1) := by decide +kernel
theorem dX9_clock_35 : decode cX9_clock 35 = .ok (.aload_n 0, 1) := by decide +kernel
theorem dX9_clock_36 : decode cX9_clock 36 = .ok (.getfield 10, 3) := by decide +kernel
theorem dX9_clock_39 : decode cX9_clock 39 = .ok (.iload_n 1, 1) := by decide +kernel
theorem dX9_clock_40 : decode cX9_clock 40 = .ok (.iload_n 2, 1) := by decide +kernel
theorem dX9_clock_41 : decode cX9_clock 41 = .ok (.invokevirtual 181, 3) := by decide +kernel
theorem dX9_clock_44 : decode cX9_clock 44 = .ok (.ireturn, 1) := by decide +kernel
theorem dX9_between_0 : decode cX9_between 0 = .ok (.aload_n 0, 1) := by decide +kernel
theorem dX9_between_1 : decode cX9_between 1 = .ok (.iload_n 1, 1) := by decide +kernel
theorem dX9_between_2 : decode cX9_between 2 = .ok (.iload_n 2, 1) := by decide +kernel
theorem dX9_between_3 : decode cX9_between 3 = .ok (.invokevirtual 102, 3) := by decide +kernel
theorem dX9_between_6 : decode cX9_between 6 = .ok (.ifCond .eq 10, 3) := by decide +kernel
theorem dX9_between_9 : decode cX9_between 9 = .ok (.iload_n 3, 1) := by decide +kernel
theorem dX9_between_10 : decode cX9_between 10 = .ok (.invokestatic 171, 3) := by decide +kernel
theorem dX9_between_13 : decode cX9_between 13 = .ok (.ifCond .ne 6, 3) := by decide +kernel
theorem dX9_between_16 : decode cX9_between 16 = .ok (.ldc 184, 2) := by decide +kernel
theorem dX9_between_18 : decode cX9_between 18 = .ok (.ireturn, 1) := by decide +kernel
theorem dX9_between_19 : decode cX9_between 19 = .ok (.aload_n 0, 1) := by decide +kernel
theorem dX9_between_20 : decode cX9_between 20 = .ok (.getfield 10, 3) := by decide +kernel
theorem dX9_between_23 : decode cX9_between 23 = .ok (.aload_n 0, 1) := by decide +kernel
theorem dX9_between_24 : decode cX9_between 24 = .ok (.invokevirtual 161, 3) := by decide +kernel
theorem dX9_between_27 : decode cX9_between 27 = .ok (.invokevirtual 174, 3) := by decide +kernel
theorem dX9_between_30 : decode cX9_between 30 = .ok (.ifCond .ne 6, 3) := by decide +kernel
theorem dX9_between_33 : decode cX9_between 33 = .ok (.ldc 185, 2) := by decide +kernel
theorem dX9_between_35 : decode cX9_between 35 = .ok (.ireturn, 1) := by decide +kernel
theorem dX9_between_36 : decode cX9_between 36 = .ok (.iload_n 3, 1) := by decide +kernel
theorem dX9_between_37 : decode cX9_between 37 = .ok (.iconst 1, 1) := by decide +kernel
theorem dX9_between_38 : decode cX9_between 38 = .ok (.if_icmp .ne 21, 3) := by decide +kernel
theorem dX9_between_41 : decode cX9_between 41 = .ok (.aload_n 0, 1) := by decide +kernel
theorem dX9_between_42 : decode cX9_between 42 = .ok (.getfield 10, 3) := by decide +kernel
theorem dX9_between_45 : decode cX9_between 45 = .ok (.iload_n 2, 1) := by decide +kernel
theorem dX9_between_46 : decode cX9_between 46 = .ok (.invokevirtual 186, 3) := by decide +kernel
theorem dX9_between_49 : decode cX9_between 49 = .ok (.aload_n 0, 1) := by decide +kernel
theorem dX9_between_50 : decode cX9_between 50 = .ok (.getfield 10, 3) := by decide +kernel
theorem dX9_between_53 : decode cX9_between 53 = .ok (.iload_n 2, 1) := by decide +kernel
theorem dX9_between_54 : decode cX9_between 54 = .ok (.iload_n 1, 1) := by decide +kernel
theorem dX9_between_55 : decode cX9_between 55 = .ok (.invokevirtual 190, 3) := by decide +kernel
theorem dX9_between_58 : decode cX9_between 58 = .ok (.ireturn, 1) := by decide +kernel
theorem dX9_between_59 : decode cX9_between 59 = .ok (.aload_n 0, 1) := by decide +kernel
theorem dX9_between_60 : decode cX9_between 60 = .ok (.getfield 10, 3) := by decide +kernel
theorem dX9_between_63 : decode cX9_between 63 = .ok (.iload_n 1, 1) := by decide +kernel
theorem dX9_between_64 : decode cX9_between 64 = .ok (.invokevirtual 186, 3) := by decide +kernel
theorem dX9_between_67 : decode cX9_between 67 = .ok (.aload_n 0, 1) := by decide +kernel
theorem dX9_between_68 : decode cX9_between 68 = .ok (.getfield 10, 3) := by decide +kernel
theorem dX9_between_71 : decode cX9_between 71 = .ok (.iload_n 1, 1) := by decide +kernel
theorem dX9_between_72 : decode cX9_between 72 = .ok (.iload_n 2, 1) := by decide +kernel
theorem dX9_between_73 : decode cX9_between 73 = .ok (.invokevirtual 190, 3) := by decide +kernel
theorem dX9_between_76 : decode cX9_between 76 = .ok (.ineg, 1) := by decide +kernel
theorem dX9_between_77 : decode cX9_between 77 = .ok (.ireturn, 1) := by decide +kernel
theorem dX9_led_0 : decode cX9_led 0 = .ok (.aload_n 0, 1) := by decide +kernel
theorem dX9_led_1 : decode cX9_led 1 = .ok (.iload_n 1, 1) := by decide +kernel
theorem dX9_led_2 : decode cX9_led 2 = .ok (.invokevirtual 92, 3) := by decide +kernel
theorem dX9_led_5 : decode cX9_led 5 = .ok (.ifCond .eq 10, 3) := by decide +kernel
theorem dX9_led_8 : decode cX9_led 8 = .ok (.iload_n 2, 1) := by decide +kernel
theorem dX9_led_9 : decode cX9_led 9 = .ok (.invokestatic 171, 3) := by decide +kernel
theorem dX9_led_12 : decode cX9_led 12 = .ok (.ifCond .ne 6, 3) := by decide +kernel
theorem dX9_led_15 : decode cX9_led 15 = .ok (.bipush (-2), 2) := by decide +kernel
theorem dX9_led_17 : decode cX9_led 17 = .ok (.ireturn, 1) := by decide +kernel
theorem dX9_led_18 : decode cX9_led 18 = .ok (.aload_n 0, 1) := by decide +kernel
theorem dX9_led_19 : decode cX9_led 19 = .ok (.getfield 10, 3) := by decide +kernel
theorem dX9_led_22 : decode cX9_led 22 = .ok (.aload_n 0, 1) := by decide +kernel
theorem dX9_led_23 : decode cX9_led 23 = .ok (.invokevirtual 161, 3) := by decide +kernel
theorem dX9_led_26 : decode cX9_led 26 = .ok (.invokevirtual 174, 3) := by decide +kernel
theorem dX9_led_29 : decode cX9_led 29 = .ok (.ifCond .ne 6, 3) := by decide +kernel
theorem dX9_led_32 : decode cX9_led 32 = .ok (.bipush (-3), 2) := by decide +kernel
theorem dX9_led_34 : decode cX9_led 34 = .ok (.ireturn, 1) := by decide +kernel
theorem dX9_led_35 : decode cX9_led 35 = .ok (.aload_n 0, 1) := by decide +kernel
theorem dX9_led_36 : decode cX9_led 36 = .ok (.getfield 10, 3) := by decide +kernel
theorem dX9_led_39 : decode cX9_led 39 = .ok (.iload_n 1, 1) := by decide +kernel
theorem dX9_led_40 : decode cX9_led 40 = .ok (.iload_n 2, 1) := by decide +kernel
theorem dX9_led_41 : decode cX9_led 41 = .ok (.iconst 1, 1) := by decide +kernel
theorem dX9_led_42 : decode cX9_led 42 = .ok (.if_icmp .ne 7, 3) := by decide +kernel
theorem dX9_led_45 : decode cX9_led 45 = .ok (.iconst 1, 1) := by decide +kernel
theorem dX9_led_46 : decode cX9_led 46 = .ok (.goto 4, 3) := by decide +kernel
theorem dX9_led_49 : decode cX9_led 49 = .ok (.iconst 0, 1) := by decide +kernel
theorem dX9_led_50 : decode cX9_led 50 = .ok (.invokevirtual 193, 3) := by decide +kernel
theorem dX9_led_53 : decode cX9_led 53 = .ok (.ireturn, 1) := by decide +kernel
theorem dX9_changed_0 : decode cX9_changed 0 = .ok (.aload_n 0, 1) := by decide +kernel
theorem dX9_changed_1 : decode cX9_changed 1 = .ok (.iload_n 1, 1) := by decide +kernel
theorem dX9_changed_2 : decode cX9_changed 2 = .ok (.invokevirtual 92, 3) := by decide +kernel
theorem dX9_changed_5 : decode cX9_changed 5 = .ok (.ifCond .eq 7, 3) := by decide +kernel
theorem dX9_changed_8 : decode cX9_changed 8 = .ok (.iload_n 2, 1) := by decide +kernel
theorem dX9_changed_9 : decode cX9_changed 9 = .ok (.ifCond .ge 6, 3) := by decide +kernel
theorem dX9_changed_12 : decode cX9_changed 12 = .ok (.bipush (-2), 2) := by decide +kernel
theorem dX9_changed_14 : decode cX9_changed 14 = .ok (.ireturn, 1) := by decide +kernel
theorem dX9_changed_15 : decode cX9_changed 15 = .ok (.aload_n 0, 1) := by decide +kernel
theorem dX9_changed_16 : decode cX9_changed 16 = .ok (.getfield 10, 3) := by decide +kernel
theorem dX9_changed_19 : decode cX9_changed 19 = .ok (.iload_n 1, 1) := by decide +kernel
theorem dX9_changed_20 : decode cX9_changed 20 = .ok (.aload_n 0, 1) := by decide +kernel
theorem dX9_changed_21 : decode cX9_changed 21 = .ok (.getfield 25, 3) := by decide +kernel
theorem dX9_changed_24 : decode cX9_changed 24 = .ok (.iconst 0, 1) := by decide +kernel
theorem dX9_changed_25 : decode cX9_changed 25 = .ok (.invokevirtual 197, 3) := by decide +kernel
theorem dX9_changed_28 : decode cX9_changed 28 = .ok (.invokevirtual 201, 3) := by decide +kernel
theorem dX9_changed_31 : decode cX9_changed 31 = .ok (.lstore_n 3, 1) := by decide +kernel
theorem dX9_changed_32 : decode cX9_changed 32 = .ok (.iconst 0, 1) := by decide +kernel
theorem dX9_changed_33 : decode cX9_changed 33 = .ok (.istore 5, 2) := by decide +kernel
theorem dX9_changed_35 : decode cX9_changed 35 = .ok (.iconst 0, 1) := by decide +kernel
theorem dX9_changed_36 : decode cX9_changed 36 = .ok (.istore 6, 2) := by decide +kernel
theorem dX9_changed_38 : decode cX9_changed 38 = .ok (.iconst 0, 1) := by decide +kernel
theorem dX9_changed_39 : decode cX9_changed 39 = .ok (.istore 7, 2) := by decide +kernel
theorem dX9_changed_41 : decode cX9_changed 41 = .ok (.iload 7, 2) := by decide +kernel
theorem dX9_changed_43 : decode cX9_changed 43 = .ok (.bipush 80, 2) := by decide +kernel
theorem dX9_changed_45 : decode cX9_changed 45 = .ok (.if_icmp .ge 69, 3) := by decide +kernel
theorem dX9_changed_48 : decode cX9_changed 48 = .ok (.aload_n 0, 1) := by decide +kernel
theorem dX9_changed_49 : decode cX9_changed 49 = .ok (.getfield 25, 3) := by decide +kernel
theorem dX9_changed_52 : decode cX9_changed 52 = .ok (.iload 5, 2) := by decide +kernel
theorem dX9_changed_54 : decode cX9_changed 54 = .ok (.invokevirtual 205, 3) := by decide +kernel
theorem dX9_changed_57 : decode cX9_changed 57 = .ok (.istore 5, 2) := by decide +kernel
theorem dX9_changed_59 : decode cX9_changed 59 = .ok (.iload 5, 2) := by decide +kernel
theorem dX9_changed_61 : decode cX9_changed 61 = .ok (.iconst (-1), 1) := by decide +kernel
theorem dX9_changed_62 : decode cX9_changed 62 = .ok (.if_icmp .ne 5, 3) := by decide +kernel
theorem dX9_changed_65 : decode cX9_changed 65 = .ok (.iconst (-1), 1) := by decide +kernel
theorem dX9_changed_66 : decode cX9_changed 66 = .ok (.ireturn, 1) := by decide +kernel
theorem dX9_changed_67 : decode cX9_changed 67 = .ok (.aload_n 0, 1) := by decide +kernel
theorem dX9_changed_68 : decode cX9_changed 68 = .ok (.getfield 10, 3) := by decide +kernel
theorem dX9_changed_71 : decode cX9_changed 71 = .ok (.iload_n 1, 1) := by decide +kernel
theorem dX9_changed_72 : decode cX9_changed 72 = .ok (.aload_n 0, 1) := by decide +kernel
theorem dX9_changed_73 : decode cX9_changed 73 = .ok (.getfield 25, 3) := by decide +kernel
theorem dX9_changed_76 : decode cX9_changed 76 = .ok (.iload 5, 2) := by decide +kernel
theorem dX9_changed_78 : decode cX9_changed 78 = .ok (.invokevirtual 197, 3) := by decide +kernel
theorem dX9_changed_81 : decode cX9_changed 81 = .ok (.invokevirtual 201, 3) := by decide +kernel
theorem dX9_changed_84 : decode cX9_changed 84 = .ok (.lstore 8, 2) := by decide +kernel
theorem dX9_changed_86 : decode cX9_changed 86 = .ok (.lload 8, 2) := by decide +kernel
theorem dX9_changed_88 : decode cX9_changed 88 = .ok (.lload_n 3, 1) := by decide +kernel
theorem dX9_changed_89 : decode cX9_changed 89 = .ok (.lcmp, 1) := by decide +kernel
theorem dX9_changed_90 : decode cX9_changed 90 = .ok (.ifCond .eq 15, 3) := by decide +kernel
theorem dX9_changed_93 : decode cX9_changed 93 = .ok (.iload 6, 2) := by decide +kernel
theorem dX9_changed_95 : decode cX9_changed 95 = .ok (.iload_n 2, 1) := by decide +kernel
theorem dX9_changed_96 : decode cX9_changed 96 = .ok (.if_icmp .ne 6, 3) := by decide +kernel
theorem dX9_changed_99 : decode cX9_changed 99 = .ok (.iload 5, 2) := by decide +kernel
theorem dX9_changed_101 : decode cX9_changed 101 = .ok (.ireturn, 1) := by decide +kernel
theorem dX9_changed_102 : decode cX9_changed 102 = .ok (.iinc 6 1, 3) := by decide +kernel
theorem dX9_changed_105 : decode cX9_changed 105 = .ok (.lload 8, 2) := by decide +kernel
theorem dX9_changed_107 : decode cX9_changed 107 = .ok (.lstore_n 3, 1) := by decide +kernel
theorem dX9_changed_108 : decode cX9_changed 108 = .ok (.iinc 7 1, 3) := by decide +kernel
theorem dX9_changed_111 : decode cX9_changed 111 = .ok (.goto (-70), 3) := by decide +kernel
theorem dX9_changed_114 : decode cX9_changed 114 = .ok (.iconst (-1), 1) := by decide +kernel
theorem dX9_changed_115 : decode cX9_changed 115 = .ok (.ireturn, 1) := by decide +kernel
theorem dX9_fits_0 : decode cX9_fits 0 = .ok (.iload_n 1, 1) := by decide +kernel
theorem dX9_fits_1 : decode cX9_fits 1 = .ok (.invokestatic 107, 3) := by decide +kernel
theorem dX9_fits_4 : decode cX9_fits 4 = .ok (.ifCond .ne 6, 3) := by decide +kernel
theorem dX9_fits_7 : decode cX9_fits 7 = .ok (.bipush (-2), 2) := by decide +kernel
theorem dX9_fits_9 : decode cX9_fits 9 = .ok (.ireturn, 1) := by decide +kernel
theorem dX9_fits_10 : decode cX9_fits 10 = .ok (.aload_n 0, 1) := by decide +kernel
theorem dX9_fits_11 : decode cX9_fits 11 = .ok (.getfield 57, 3) := by decide +kernel
theorem dX9_fits_14 : decode cX9_fits 14 = .ok (.iload_n 1, 1) := by decide +kernel
theorem dX9_fits_15 : decode cX9_fits 15 = .ok (.invokevirtual 110, 3) := by decide +kernel
theorem dX9_fits_18 : decode cX9_fits 18 = .ok (.ifCond .eq 9, 3) := by decide +kernel
theorem dX9_fits_21 : decode cX9_fits 21 = .ok (.aload_n 0, 1) := by decide +kernel
theorem dX9_fits_22 : decode cX9_fits 22 = .ok (.iconst 1, 1) := by decide +kernel
theorem dX9_fits_23 : decode cX9_fits 23 = .ok (.invokevirtual 113, 3) := by decide +kernel
theorem dX9_fits_26 : decode cX9_fits 26 = .ok (.ireturn, 1) := by decide +kernel
theorem dX9_fits_27 : decode cX9_fits 27 = .ok (.aload_n 0, 1) := by decide +kernel
theorem dX9_fits_28 : decode cX9_fits 28 = .ok (.getfield 57, 3) := by decide +kernel
theorem dX9_fits_31 : decode cX9_fits 31 = .ok (.getfield 117, 3) := by decide +kernel
theorem dX9_fits_34 : decode cX9_fits 34 = .ok (.iload_n 1, 1) := by decide +kernel
theorem dX9_fits_35 : decode cX9_fits 35 = .ok (.iaload, 1) := by decide +kernel
theorem dX9_fits_36 : decode cX9_fits 36 = .ok (.aload_n 0, 1) := by decide +kernel
theorem dX9_fits_37 : decode cX9_fits 37 = .ok (.getfield 68, 3) := by decide +kernel
theorem dX9_fits_40 : decode cX9_fits 40 = .ok (.if_icmp .ge 9, 3) := by decide +kernel
theorem dX9_fits_43 : decode cX9_fits 43 = .ok (.aload_n 0, 1) := by decide +kernel
theorem dX9_fits_44 : decode cX9_fits 44 = .ok (.iconst 2, 1) := by decide +kernel
theorem dX9_fits_45 : decode cX9_fits 45 = .ok (.invokevirtual 113, 3) := by decide +kernel
theorem dX9_fits_48 : decode cX9_fits 48 = .ok (.ireturn, 1) := by decide +kernel
theorem dX9_fits_49 : decode cX9_fits 49 = .ok (.aload_n 0, 1) := by decide +kernel
theorem dX9_fits_50 : decode cX9_fits 50 = .ok (.iload_n 1, 1) := by decide +kernel
theorem dX9_fits_51 : decode cX9_fits 51 = .ok (.invokevirtual 208, 3) := by decide +kernel
theorem dX9_fits_54 : decode cX9_fits 54 = .ok (.invokestatic 155, 3) := by decide +kernel
theorem dX9_fits_57 : decode cX9_fits 57 = .ok (.ireturn, 1) := by decide +kernel
theorem dX9_room_0 : decode cX9_room 0 = .ok (.iload_n 1, 1) := by decide +kernel
theorem dX9_room_1 : decode cX9_room 1 = .ok (.invokestatic 107, 3) := by decide +kernel
theorem dX9_room_4 : decode cX9_room 4 = .ok (.ifCond .eq 11, 3) := by decide +kernel
theorem dX9_room_7 : decode cX9_room 7 = .ok (.aload_n 0, 1) := by decide +kernel
theorem dX9_room_8 : decode cX9_room 8 = .ok (.iload_n 2, 1) := by decide +kernel
theorem dX9_room_9 : decode cX9_room 9 = .ok (.invokevirtual 84, 3) := by decide +kernel
theorem dX9_room_12 : decode cX9_room 12 = .ok (.ifCond .ne 6, 3) := by decide +kernel
theorem dX9_room_15 : decode cX9_room 15 = .ok (.bipush (-2), 2) := by decide +kernel
theorem dX9_room_17 : decode cX9_room 17 = .ok (.ireturn, 1) := by decide +kernel
theorem dX9_room_18 : decode cX9_room 18 = .ok (.aload_n 0, 1) := by decide +kernel
theorem dX9_room_19 : decode cX9_room 19 = .ok (.iload_n 1, 1) := by decide +kernel
theorem dX9_room_20 : decode cX9_room 20 = .ok (.invokevirtual 211, 3) := by decide +kernel
theorem dX9_room_23 : decode cX9_room 23 = .ok (.istore_n 3, 1) := by decide +kernel
theorem dX9_room_24 : decode cX9_room 24 = .ok (.iload_n 3, 1) := by decide +kernel
theorem dX9_room_25 : decode cX9_room 25 = .ok (.ifCond .ge 5, 3) := by decide +kernel
theorem dX9_room_28 : decode cX9_room 28 = .ok (.iload_n 3, 1) := by decide +kernel
theorem dX9_room_29 : decode cX9_room 29 = .ok (.ireturn, 1) := by decide +kernel
theorem dX9_room_30 : decode cX9_room 30 = .ok (.iload_n 3, 1) := by decide +kernel
theorem dX9_room_31 : decode cX9_room 31 = .ok (.iconst 1, 1) := by decide +kernel
theorem dX9_room_32 : decode cX9_room 32 = .ok (.if_icmp .ne 12, 3) := by decide +kernel
theorem dX9_room_35 : decode cX9_room 35 = .ok (.aload_n 0, 1) := by decide +kernel
theorem dX9_room_36 : decode cX9_room 36 = .ok (.iload_n 1, 1) := by decide +kernel
theorem dX9_room_37 : decode cX9_room 37 = .ok (.iload_n 2, 1) := by decide +kernel
theorem dX9_room_38 : decode cX9_room 38 = .ok (.invokevirtual 214, 3) := by decide +kernel
theorem dX9_room_41 : decode cX9_room 41 = .ok (.goto 5, 3) := by decide +kernel
theorem dX9_room_44 : decode cX9_room 44 = .ok (.bipush (-3), 2) := by decide +kernel
theorem dX9_room_46 : decode cX9_room 46 = .ok (.ireturn, 1) := by decide +kernel
theorem dX9_kin_0 : decode cX9_kin 0 = .ok (.aload_n 0, 1) := by decide +kernel
end
