section
-- ===== PART A: goes FIRST, ahead of the names: the tables' words, and 'selects' of the private methods out of them =====
/-- a private method of a class that the tables say can be made, by its rows of tables_1 -/
def lw_okq (q : MethodName × Nat) : Prop := (q.1.cls ≠ "java/lang/invoke/MethodHandle" ∧ q.1.cls ≠ "java/lang/invoke/VarHandle") ∧ Cond.instantiable q.1.cls q.2 ∈ tables_1 ∧ Cond.privateMethod q.1 ∈ tables_1 ∧ Cond.instanceMethod q.1 ∈ tables_1
theorem lw_p0 : lw_okq (⟨"WhenItWas", "isBook", "(I)Z"⟩, 12) := ⟨⟨by decide +kernel, by decide +kernel⟩, List.mem_of_getElem? (i := 18) (by decide +kernel), List.mem_of_getElem? (i := 328) (by decide +kernel), List.mem_of_getElem? (i := 329) (by decide +kernel)⟩
theorem lw_p1 : lw_okq (⟨"WhenItWas", "isThing", "(I)Z"⟩, 12) := ⟨⟨by decide +kernel, by decide +kernel⟩, List.mem_of_getElem? (i := 18) (by decide +kernel), List.mem_of_getElem? (i := 336) (by decide +kernel), List.mem_of_getElem? (i := 337) (by decide +kernel)⟩
theorem lw_p2 : lw_okq (⟨"WhenItWas", "areTwoThings", "(II)Z"⟩, 12) := ⟨⟨by decide +kernel, by decide +kernel⟩, List.mem_of_getElem? (i := 18) (by decide +kernel), List.mem_of_getElem? (i := 349) (by decide +kernel), List.mem_of_getElem? (i := 350) (by decide +kernel)⟩
theorem lw_p3 : lw_okq (⟨"WhenItWas", "found", "(I)I"⟩, 12) := ⟨⟨by decide +kernel, by decide +kernel⟩, List.mem_of_getElem? (i := 18) (by decide +kernel), List.mem_of_getElem? (i := 365) (by decide +kernel), List.mem_of_getElem? (i := 366) (by decide +kernel)⟩
theorem lw_p4 : lw_okq (⟨"WhenItWas", "tellFromSheet", "(II)I"⟩, 12) := ⟨⟨by decide +kernel, by decide +kernel⟩, List.mem_of_getElem? (i := 18) (by decide +kernel), List.mem_of_getElem? (i := 369) (by decide +kernel), List.mem_of_getElem? (i := 370) (by decide +kernel)⟩
theorem lw_p5 : lw_okq (⟨"WhenItWas", "isRow", "(I)Z"⟩, 12) := ⟨⟨by decide +kernel, by decide +kernel⟩, List.mem_of_getElem? (i := 18) (by decide +kernel), List.mem_of_getElem? (i := 383) (by decide +kernel), List.mem_of_getElem? (i := 384) (by decide +kernel)⟩
theorem lw_p6 : lw_okq (⟨"WhenItWas", "dayOfView", "()I"⟩, 12) := ⟨⟨by decide +kernel, by decide +kernel⟩, List.mem_of_getElem? (i := 18) (by decide +kernel), List.mem_of_getElem? (i := 392) (by decide +kernel), List.mem_of_getElem? (i := 393) (by decide +kernel)⟩
theorem lw_p7 : lw_okq (⟨"WhenItWas", "knownRows", "()J"⟩, 12) := ⟨⟨by decide +kernel, by decide +kernel⟩, List.mem_of_getElem? (i := 18) (by decide +kernel), List.mem_of_getElem? (i := 411) (by decide +kernel), List.mem_of_getElem? (i := 412) (by decide +kernel)⟩
theorem lw_p8 : lw_okq (⟨"WhenItWas$Net", "load", "(J)V"⟩, 13) := ⟨⟨by decide +kernel, by decide +kernel⟩, List.mem_of_getElem? (i := 26) (by decide +kernel), List.mem_of_getElem? (i := 425) (by decide +kernel), List.mem_of_getElem? (i := 426) (by decide +kernel)⟩
theorem lw_p9 : lw_okq (⟨"WhenItWas$Net", "addRow", "(I)V"⟩, 13) := ⟨⟨by decide +kernel, by decide +kernel⟩, List.mem_of_getElem? (i := 26) (by decide +kernel), List.mem_of_getElem? (i := 434) (by decide +kernel), List.mem_of_getElem? (i := 435) (by decide +kernel)⟩
theorem lw_p10 : lw_okq (⟨"WhenItWas$Net", "settle", "([IZ)Z"⟩, 13) := ⟨⟨by decide +kernel, by decide +kernel⟩, List.mem_of_getElem? (i := 26) (by decide +kernel), List.mem_of_getElem? (i := 441) (by decide +kernel), List.mem_of_getElem? (i := 442) (by decide +kernel)⟩
theorem lw_p11 : lw_okq (⟨"WhenItWas$Net", "sweep", "([IZ)Z"⟩, 13) := ⟨⟨by decide +kernel, by decide +kernel⟩, List.mem_of_getElem? (i := 26) (by decide +kernel), List.mem_of_getElem? (i := 448) (by decide +kernel), List.mem_of_getElem? (i := 449) (by decide +kernel)⟩
theorem lw_p12 : lw_okq (⟨"WhenItWas$Net", "turnFloorInto", "([I)V"⟩, 13) := ⟨⟨by decide +kernel, by decide +kernel⟩, List.mem_of_getElem? (i := 26) (by decide +kernel), List.mem_of_getElem? (i := 469) (by decide +kernel), List.mem_of_getElem? (i := 470) (by decide +kernel)⟩
theorem lw_p13 : lw_okq (⟨"WhenItWas$Net", "stepOnce", "(Z)V"⟩, 13) := ⟨⟨by decide +kernel, by decide +kernel⟩, List.mem_of_getElem? (i := 26) (by decide +kernel), List.mem_of_getElem? (i := 508) (by decide +kernel), List.mem_of_getElem? (i := 509) (by decide +kernel)⟩
theorem lw_p14 : lw_okq (⟨"WhenItWas", "isFitting", "(I)Z"⟩, 12) := ⟨⟨by decide +kernel, by decide +kernel⟩, List.mem_of_getElem? (i := 18) (by decide +kernel), List.mem_of_getElem? (i := 535) (by decide +kernel), List.mem_of_getElem? (i := 536) (by decide +kernel)⟩
theorem lw_p15 : lw_okq (⟨"WhenItWas", "areApartAsTold", "(I)Z"⟩, 12) := ⟨⟨by decide +kernel, by decide +kernel⟩, List.mem_of_getElem? (i := 18) (by decide +kernel), List.mem_of_getElem? (i := 540) (by decide +kernel), List.mem_of_getElem? (i := 541) (by decide +kernel)⟩
def lw_privs_1 : List (MethodName × Nat) := [(⟨"WhenItWas", "isBook", "(I)Z"⟩, 12), (⟨"WhenItWas", "isThing", "(I)Z"⟩, 12), (⟨"WhenItWas", "areTwoThings", "(II)Z"⟩, 12), (⟨"WhenItWas", "found", "(I)I"⟩, 12), (⟨"WhenItWas", "tellFromSheet", "(II)I"⟩, 12), (⟨"WhenItWas", "isRow", "(I)Z"⟩, 12), (⟨"WhenItWas", "dayOfView", "()I"⟩, 12), (⟨"WhenItWas", "knownRows", "()J"⟩, 12), (⟨"WhenItWas$Net", "load", "(J)V"⟩, 13), (⟨"WhenItWas$Net", "addRow", "(I)V"⟩, 13), (⟨"WhenItWas$Net", "settle", "([IZ)Z"⟩, 13), (⟨"WhenItWas$Net", "sweep", "([IZ)Z"⟩, 13), (⟨"WhenItWas$Net", "turnFloorInto", "([I)V"⟩, 13), (⟨"WhenItWas$Net", "stepOnce", "(Z)V"⟩, 13), (⟨"WhenItWas", "isFitting", "(I)Z"⟩, 12), (⟨"WhenItWas", "areApartAsTold", "(I)Z"⟩, 12)]
theorem lw_r1 : ∀ q ∈ lw_privs_1, lw_okq q := List.forall_mem_cons.mpr ⟨lw_p0, List.forall_mem_cons.mpr ⟨lw_p1, List.forall_mem_cons.mpr ⟨lw_p2, List.forall_mem_cons.mpr ⟨lw_p3, List.forall_mem_cons.mpr ⟨lw_p4, List.forall_mem_cons.mpr ⟨lw_p5, List.forall_mem_cons.mpr ⟨lw_p6, List.forall_mem_cons.mpr ⟨lw_p7, List.forall_mem_cons.mpr ⟨lw_p8, List.forall_mem_cons.mpr ⟨lw_p9, List.forall_mem_cons.mpr ⟨lw_p10, List.forall_mem_cons.mpr ⟨lw_p11, List.forall_mem_cons.mpr ⟨lw_p12, List.forall_mem_cons.mpr ⟨lw_p13, List.forall_mem_cons.mpr ⟨lw_p14, List.forall_mem_cons.mpr ⟨lw_p15, fun _ h => absurd h List.not_mem_nil⟩⟩⟩⟩⟩⟩⟩⟩⟩⟩⟩⟩⟩⟩⟩⟩
theorem lw_p16 : lw_okq (⟨"WhenItWas", "areClocksPossible", "(I)Z"⟩, 12) := ⟨⟨by decide +kernel, by decide +kernel⟩, List.mem_of_getElem? (i := 18) (by decide +kernel), List.mem_of_getElem? (i := 544) (by decide +kernel), List.mem_of_getElem? (i := 545) (by decide +kernel)⟩
theorem lw_p17 : lw_okq (⟨"WhenItWas", "roomByDays", "(II)I"⟩, 12) := ⟨⟨by decide +kernel, by decide +kernel⟩, List.mem_of_getElem? (i := 18) (by decide +kernel), List.mem_of_getElem? (i := 548) (by decide +kernel), List.mem_of_getElem? (i := 549) (by decide +kernel)⟩
theorem lw_p18 : lw_okq (⟨"WhenItWas$Kin", "weigh", "(I)V"⟩, 4) := ⟨⟨by decide +kernel, by decide +kernel⟩, List.mem_of_getElem? (i := 197) (by decide +kernel), List.mem_of_getElem? (i := 580) (by decide +kernel), List.mem_of_getElem? (i := 581) (by decide +kernel)⟩
theorem lw_p19 : lw_okq (⟨"WhenItWas", "lookForDoubts", "(J)I"⟩, 12) := ⟨⟨by decide +kernel, by decide +kernel⟩, List.mem_of_getElem? (i := 18) (by decide +kernel), List.mem_of_getElem? (i := 596) (by decide +kernel), List.mem_of_getElem? (i := 597) (by decide +kernel)⟩
theorem lw_p20 : lw_okq (⟨"WhenItWas$Doubt", "tryAllOfSize", "(LWhenItWas$Net;JI)V"⟩, 5) := ⟨⟨by decide +kernel, by decide +kernel⟩, List.mem_of_getElem? (i := 150) (by decide +kernel), List.mem_of_getElem? (i := 615) (by decide +kernel), List.mem_of_getElem? (i := 616) (by decide +kernel)⟩
theorem lw_p21 : lw_okq (⟨"WhenItWas$Doubt", "rowsOf", "(I)J"⟩, 5) := ⟨⟨by decide +kernel, by decide +kernel⟩, List.mem_of_getElem? (i := 150) (by decide +kernel), List.mem_of_getElem? (i := 625) (by decide +kernel), List.mem_of_getElem? (i := 626) (by decide +kernel)⟩
theorem lw_p22 : lw_okq (⟨"WhenItWas$Doubt", "trustOf", "(LWhenItWas$Net;I)I"⟩, 5) := ⟨⟨by decide +kernel, by decide +kernel⟩, List.mem_of_getElem? (i := 150) (by decide +kernel), List.mem_of_getElem? (i := 631) (by decide +kernel), List.mem_of_getElem? (i := 632) (by decide +kernel)⟩
theorem lw_p23 : lw_okq (⟨"WhenItWas$Doubt", "keep", "(JI)V"⟩, 5) := ⟨⟨by decide +kernel, by decide +kernel⟩, List.mem_of_getElem? (i := 150) (by decide +kernel), List.mem_of_getElem? (i := 635) (by decide +kernel), List.mem_of_getElem? (i := 636) (by decide +kernel)⟩
theorem lw_p24 : lw_okq (⟨"WhenItWas$Doubt", "blameAll", "(I)V"⟩, 5) := ⟨⟨by decide +kernel, by decide +kernel⟩, List.mem_of_getElem? (i := 150) (by decide +kernel), List.mem_of_getElem? (i := 639) (by decide +kernel), List.mem_of_getElem? (i := 640) (by decide +kernel)⟩
theorem lw_p25 : lw_okq (⟨"WhenItWas", "layLines", "()Z"⟩, 12) := ⟨⟨by decide +kernel, by decide +kernel⟩, List.mem_of_getElem? (i := 18) (by decide +kernel), List.mem_of_getElem? (i := 655) (by decide +kernel), List.mem_of_getElem? (i := 656) (by decide +kernel)⟩
theorem lw_p26 : lw_okq (⟨"WhenItWas$Lines", "mayFollow", "(II)Z"⟩, 5) := ⟨⟨by decide +kernel, by decide +kernel⟩, List.mem_of_getElem? (i := 174) (by decide +kernel), List.mem_of_getElem? (i := 672) (by decide +kernel), List.mem_of_getElem? (i := 673) (by decide +kernel)⟩
theorem lw_p27 : lw_okq (⟨"WhenItWas$Lines", "countWaysOn", "()V"⟩, 5) := ⟨⟨by decide +kernel, by decide +kernel⟩, List.mem_of_getElem? (i := 174) (by decide +kernel), List.mem_of_getElem? (i := 696) (by decide +kernel), List.mem_of_getElem? (i := 697) (by decide +kernel)⟩
theorem lw_p28 : lw_okq (⟨"WhenItWas$Lines", "countPairs", "()V"⟩, 5) := ⟨⟨by decide +kernel, by decide +kernel⟩, List.mem_of_getElem? (i := 174) (by decide +kernel), List.mem_of_getElem? (i := 700) (by decide +kernel), List.mem_of_getElem? (i := 701) (by decide +kernel)⟩
theorem lw_p29 : lw_okq (⟨"WhenItWas$Lines", "addToPairs", "(III)V"⟩, 5) := ⟨⟨by decide +kernel, by decide +kernel⟩, List.mem_of_getElem? (i := 174) (by decide +kernel), List.mem_of_getElem? (i := 704) (by decide +kernel), List.mem_of_getElem? (i := 705) (by decide +kernel)⟩
theorem lw_p30 : lw_okq (⟨"WhenItWas$Lines", "isSure", "(II)Z"⟩, 5) := ⟨⟨by decide +kernel, by decide +kernel⟩, List.mem_of_getElem? (i := 174) (by decide +kernel), List.mem_of_getElem? (i := 709) (by decide +kernel), List.mem_of_getElem? (i := 710) (by decide +kernel)⟩
theorem lw_p31 : lw_okq (⟨"WhenItWas$Dates", "readDate", "()I"⟩, 7) := ⟨⟨by decide +kernel, by decide +kernel⟩, List.mem_of_getElem? (i := 219) (by decide +kernel), List.mem_of_getElem? (i := 772) (by decide +kernel), List.mem_of_getElem? (i := 773) (by decide +kernel)⟩
def lw_privs_2 : List (MethodName × Nat) := [(⟨"WhenItWas", "areClocksPossible", "(I)Z"⟩, 12), (⟨"WhenItWas", "roomByDays", "(II)I"⟩, 12), (⟨"WhenItWas$Kin", "weigh", "(I)V"⟩, 4), (⟨"WhenItWas", "lookForDoubts", "(J)I"⟩, 12), (⟨"WhenItWas$Doubt", "tryAllOfSize", "(LWhenItWas$Net;JI)V"⟩, 5), (⟨"WhenItWas$Doubt", "rowsOf", "(I)J"⟩, 5), (⟨"WhenItWas$Doubt", "trustOf", "(LWhenItWas$Net;I)I"⟩, 5), (⟨"WhenItWas$Doubt", "keep", "(JI)V"⟩, 5), (⟨"WhenItWas$Doubt", "blameAll", "(I)V"⟩, 5), (⟨"WhenItWas", "layLines", "()Z"⟩, 12), (⟨"WhenItWas$Lines", "mayFollow", "(II)Z"⟩, 5), (⟨"WhenItWas$Lines", "countWaysOn", "()V"⟩, 5), (⟨"WhenItWas$Lines", "countPairs", "()V"⟩, 5), (⟨"WhenItWas$Lines", "addToPairs", "(III)V"⟩, 5), (⟨"WhenItWas$Lines", "isSure", "(II)Z"⟩, 5), (⟨"WhenItWas$Dates", "readDate", "()I"⟩, 7)]
theorem lw_r2 : ∀ q ∈ lw_privs_2, lw_okq q := List.forall_mem_cons.mpr ⟨lw_p16, List.forall_mem_cons.mpr ⟨lw_p17, List.forall_mem_cons.mpr ⟨lw_p18, List.forall_mem_cons.mpr ⟨lw_p19, List.forall_mem_cons.mpr ⟨lw_p20, List.forall_mem_cons.mpr ⟨lw_p21, List.forall_mem_cons.mpr ⟨lw_p22, List.forall_mem_cons.mpr ⟨lw_p23, List.forall_mem_cons.mpr ⟨lw_p24, List.forall_mem_cons.mpr ⟨lw_p25, List.forall_mem_cons.mpr ⟨lw_p26, List.forall_mem_cons.mpr ⟨lw_p27, List.forall_mem_cons.mpr ⟨lw_p28, List.forall_mem_cons.mpr ⟨lw_p29, List.forall_mem_cons.mpr ⟨lw_p30, List.forall_mem_cons.mpr ⟨lw_p31, fun _ h => absurd h List.not_mem_nil⟩⟩⟩⟩⟩⟩⟩⟩⟩⟩⟩⟩⟩⟩⟩⟩
theorem lw_p32 : lw_okq (⟨"WhenItWas$Dates", "readNumber", "(II)I"⟩, 7) := ⟨⟨by decide +kernel, by decide +kernel⟩, List.mem_of_getElem? (i := 219) (by decide +kernel), List.mem_of_getElem? (i := 776) (by decide +kernel), List.mem_of_getElem? (i := 777) (by decide +kernel)⟩
theorem lw_p33 : lw_okq (⟨"WhenItWas$Dates", "signHere", "()I"⟩, 7) := ⟨⟨by decide +kernel, by decide +kernel⟩, List.mem_of_getElem? (i := 219) (by decide +kernel), List.mem_of_getElem? (i := 780) (by decide +kernel), List.mem_of_getElem? (i := 781) (by decide +kernel)⟩
theorem lw_p34 : lw_okq (⟨"WhenItWas$Dates", "readDot", "()I"⟩, 7) := ⟨⟨by decide +kernel, by decide +kernel⟩, List.mem_of_getElem? (i := 219) (by decide +kernel), List.mem_of_getElem? (i := 787) (by decide +kernel), List.mem_of_getElem? (i := 788) (by decide +kernel)⟩
theorem lw_p35 : lw_okq (⟨"WhenItWas$Dates", "readLetter", "(IIII)I"⟩, 7) := ⟨⟨by decide +kernel, by decide +kernel⟩, List.mem_of_getElem? (i := 219) (by decide +kernel), List.mem_of_getElem? (i := 791) (by decide +kernel), List.mem_of_getElem? (i := 792) (by decide +kernel)⟩
theorem lw_p36 : lw_okq (⟨"WhenItWas$Dates", "readSecond", "()I"⟩, 7) := ⟨⟨by decide +kernel, by decide +kernel⟩, List.mem_of_getElem? (i := 219) (by decide +kernel), List.mem_of_getElem? (i := 798) (by decide +kernel), List.mem_of_getElem? (i := 799) (by decide +kernel)⟩
theorem lw_p37 : lw_okq (⟨"WhenItWas", "digestSpans", "(J)J"⟩, 12) := ⟨⟨by decide +kernel, by decide +kernel⟩, List.mem_of_getElem? (i := 18) (by decide +kernel), List.mem_of_getElem? (i := 879) (by decide +kernel), List.mem_of_getElem? (i := 880) (by decide +kernel)⟩
theorem lw_p38 : lw_okq (⟨"WhenItWasModel", "isBook", "(I)Z"⟩, 42) := ⟨⟨by decide +kernel, by decide +kernel⟩, List.mem_of_getElem? (i := 884) (by decide +kernel), List.mem_of_getElem? (i := 1038) (by decide +kernel), List.mem_of_getElem? (i := 1039) (by decide +kernel)⟩
theorem lw_p39 : lw_okq (⟨"WhenItWasModel", "onMore", "(IIII)I"⟩, 42) := ⟨⟨by decide +kernel, by decide +kernel⟩, List.mem_of_getElem? (i := 884) (by decide +kernel), List.mem_of_getElem? (i := 1046) (by decide +kernel), List.mem_of_getElem? (i := 1047) (by decide +kernel)⟩
theorem lw_p40 : lw_okq (⟨"WhenItWasModel", "isThing", "(I)Z"⟩, 42) := ⟨⟨by decide +kernel, by decide +kernel⟩, List.mem_of_getElem? (i := 884) (by decide +kernel), List.mem_of_getElem? (i := 1050) (by decide +kernel), List.mem_of_getElem? (i := 1051) (by decide +kernel)⟩
theorem lw_p41 : lw_okq (⟨"WhenItWasModel", "rowMore", "(IIIII)I"⟩, 42) := ⟨⟨by decide +kernel, by decide +kernel⟩, List.mem_of_getElem? (i := 884) (by decide +kernel), List.mem_of_getElem? (i := 1056) (by decide +kernel), List.mem_of_getElem? (i := 1057) (by decide +kernel)⟩
theorem lw_p42 : lw_okq (⟨"WhenItWasModel", "apartMore", "(IIIII)I"⟩, 42) := ⟨⟨by decide +kernel, by decide +kernel⟩, List.mem_of_getElem? (i := 884) (by decide +kernel), List.mem_of_getElem? (i := 1064) (by decide +kernel), List.mem_of_getElem? (i := 1065) (by decide +kernel)⟩
theorem lw_p43 : lw_okq (⟨"WhenItWasModel", "meets", "(I)I"⟩, 42) := ⟨⟨by decide +kernel, by decide +kernel⟩, List.mem_of_getElem? (i := 884) (by decide +kernel), List.mem_of_getElem? (i := 1077) (by decide +kernel), List.mem_of_getElem? (i := 1078) (by decide +kernel)⟩
theorem lw_p44 : lw_okq (⟨"WhenItWasModel", "aboutOf", "(II)I"⟩, 42) := ⟨⟨by decide +kernel, by decide +kernel⟩, List.mem_of_getElem? (i := 884) (by decide +kernel), List.mem_of_getElem? (i := 1089) (by decide +kernel), List.mem_of_getElem? (i := 1090) (by decide +kernel)⟩
theorem lw_p45 : lw_okq (⟨"WhenItWasModel", "isKnown", "(I)Z"⟩, 42) := ⟨⟨by decide +kernel, by decide +kernel⟩, List.mem_of_getElem? (i := 884) (by decide +kernel), List.mem_of_getElem? (i := 1093) (by decide +kernel), List.mem_of_getElem? (i := 1094) (by decide +kernel)⟩
theorem lw_p46 : lw_okq (⟨"WhenItWasModel", "isKnownTo", "(II)Z"⟩, 42) := ⟨⟨by decide +kernel, by decide +kernel⟩, List.mem_of_getElem? (i := 884) (by decide +kernel), List.mem_of_getElem? (i := 1097) (by decide +kernel), List.mem_of_getElem? (i := 1098) (by decide +kernel)⟩
theorem lw_p47 : lw_okq (⟨"WhenItWasModel", "knownNow", "()J"⟩, 42) := ⟨⟨by decide +kernel, by decide +kernel⟩, List.mem_of_getElem? (i := 884) (by decide +kernel), List.mem_of_getElem? (i := 1110) (by decide +kernel), List.mem_of_getElem? (i := 1111) (by decide +kernel)⟩
def lw_privs_3 : List (MethodName × Nat) := [(⟨"WhenItWas$Dates", "readNumber", "(II)I"⟩, 7), (⟨"WhenItWas$Dates", "signHere", "()I"⟩, 7), (⟨"WhenItWas$Dates", "readDot", "()I"⟩, 7), (⟨"WhenItWas$Dates", "readLetter", "(IIII)I"⟩, 7), (⟨"WhenItWas$Dates", "readSecond", "()I"⟩, 7), (⟨"WhenItWas", "digestSpans", "(J)J"⟩, 12), (⟨"WhenItWasModel", "isBook", "(I)Z"⟩, 42), (⟨"WhenItWasModel", "onMore", "(IIII)I"⟩, 42), (⟨"WhenItWasModel", "isThing", "(I)Z"⟩, 42), (⟨"WhenItWasModel", "rowMore", "(IIIII)I"⟩, 42), (⟨"WhenItWasModel", "apartMore", "(IIIII)I"⟩, 42), (⟨"WhenItWasModel", "meets", "(I)I"⟩, 42), (⟨"WhenItWasModel", "aboutOf", "(II)I"⟩, 42), (⟨"WhenItWasModel", "isKnown", "(I)Z"⟩, 42), (⟨"WhenItWasModel", "isKnownTo", "(II)Z"⟩, 42), (⟨"WhenItWasModel", "knownNow", "()J"⟩, 42)]
theorem lw_r3 : ∀ q ∈ lw_privs_3, lw_okq q := List.forall_mem_cons.mpr ⟨lw_p32, List.forall_mem_cons.mpr ⟨lw_p33, List.forall_mem_cons.mpr ⟨lw_p34, List.forall_mem_cons.mpr ⟨lw_p35, List.forall_mem_cons.mpr ⟨lw_p36, List.forall_mem_cons.mpr ⟨lw_p37, List.forall_mem_cons.mpr ⟨lw_p38, List.forall_mem_cons.mpr ⟨lw_p39, List.forall_mem_cons.mpr ⟨lw_p40, List.forall_mem_cons.mpr ⟨lw_p41, List.forall_mem_cons.mpr ⟨lw_p42, List.forall_mem_cons.mpr ⟨lw_p43, List.forall_mem_cons.mpr ⟨lw_p44, List.forall_mem_cons.mpr ⟨lw_p45, List.forall_mem_cons.mpr ⟨lw_p46, List.forall_mem_cons.mpr ⟨lw_p47, fun _ h => absurd h List.not_mem_nil⟩⟩⟩⟩⟩⟩⟩⟩⟩⟩⟩⟩⟩⟩⟩⟩
theorem lw_p48 : lw_okq (⟨"WhenItWasModel", "knownBits", "(I)J"⟩, 42) := ⟨⟨by decide +kernel, by decide +kernel⟩, List.mem_of_getElem? (i := 884) (by decide +kernel), List.mem_of_getElem? (i := 1114) (by decide +kernel), List.mem_of_getElem? (i := 1115) (by decide +kernel)⟩
theorem lw_p49 : lw_okq (⟨"WhenItWasModel", "works", "(J)Z"⟩, 42) := ⟨⟨by decide +kernel, by decide +kernel⟩, List.mem_of_getElem? (i := 884) (by decide +kernel), List.mem_of_getElem? (i := 1119) (by decide +kernel), List.mem_of_getElem? (i := 1120) (by decide +kernel)⟩
theorem lw_p50 : lw_okq (⟨"WhenItWasModel", "atMost", "(III)V"⟩, 42) := ⟨⟨by decide +kernel, by decide +kernel⟩, List.mem_of_getElem? (i := 884) (by decide +kernel), List.mem_of_getElem? (i := 1124) (by decide +kernel), List.mem_of_getElem? (i := 1125) (by decide +kernel)⟩
theorem lw_p51 : lw_okq (⟨"WhenItWasModel", "leansOn", "(I)I"⟩, 42) := ⟨⟨by decide +kernel, by decide +kernel⟩, List.mem_of_getElem? (i := 884) (by decide +kernel), List.mem_of_getElem? (i := 1128) (by decide +kernel), List.mem_of_getElem? (i := 1129) (by decide +kernel)⟩
theorem lw_p52 : lw_okq (⟨"WhenItWasModel", "canAll", "()Z"⟩, 42) := ⟨⟨by decide +kernel, by decide +kernel⟩, List.mem_of_getElem? (i := 884) (by decide +kernel), List.mem_of_getElem? (i := 1136) (by decide +kernel), List.mem_of_getElem? (i := 1137) (by decide +kernel)⟩
theorem lw_p53 : lw_okq (⟨"WhenItWasModel", "endOf", "(II)I"⟩, 42) := ⟨⟨by decide +kernel, by decide +kernel⟩, List.mem_of_getElem? (i := 884) (by decide +kernel), List.mem_of_getElem? (i := 1144) (by decide +kernel), List.mem_of_getElem? (i := 1145) (by decide +kernel)⟩
theorem lw_p54 : lw_okq (⟨"WhenItWasModel", "clockEnd", "(II)I"⟩, 42) := ⟨⟨by decide +kernel, by decide +kernel⟩, List.mem_of_getElem? (i := 884) (by decide +kernel), List.mem_of_getElem? (i := 1153) (by decide +kernel), List.mem_of_getElem? (i := 1154) (by decide +kernel)⟩
theorem lw_p55 : lw_okq (⟨"WhenItWasModel", "areTwo", "(II)Z"⟩, 42) := ⟨⟨by decide +kernel, by decide +kernel⟩, List.mem_of_getElem? (i := 884) (by decide +kernel), List.mem_of_getElem? (i := 1161) (by decide +kernel), List.mem_of_getElem? (i := 1162) (by decide +kernel)⟩
theorem lw_p56 : lw_okq (⟨"WhenItWasModel", "nears", "(III)Z"⟩, 42) := ⟨⟨by decide +kernel, by decide +kernel⟩, List.mem_of_getElem? (i := 884) (by decide +kernel), List.mem_of_getElem? (i := 1171) (by decide +kernel), List.mem_of_getElem? (i := 1172) (by decide +kernel)⟩
theorem lw_p57 : lw_okq (⟨"WhenItWasModel", "isOther", "(II)Z"⟩, 42) := ⟨⟨by decide +kernel, by decide +kernel⟩, List.mem_of_getElem? (i := 884) (by decide +kernel), List.mem_of_getElem? (i := 1179) (by decide +kernel), List.mem_of_getElem? (i := 1180) (by decide +kernel)⟩
theorem lw_p58 : lw_okq (⟨"WhenItWasModel", "isFitting", "(I)Z"⟩, 42) := ⟨⟨by decide +kernel, by decide +kernel⟩, List.mem_of_getElem? (i := 884) (by decide +kernel), List.mem_of_getElem? (i := 1187) (by decide +kernel), List.mem_of_getElem? (i := 1188) (by decide +kernel)⟩
theorem lw_p59 : lw_okq (⟨"WhenItWasModel", "latest", "(II)I"⟩, 42) := ⟨⟨by decide +kernel, by decide +kernel⟩, List.mem_of_getElem? (i := 884) (by decide +kernel), List.mem_of_getElem? (i := 1199) (by decide +kernel), List.mem_of_getElem? (i := 1200) (by decide +kernel)⟩
theorem lw_p60 : lw_okq (⟨"WhenItWasModel", "doubtsNow", "()I"⟩, 42) := ⟨⟨by decide +kernel, by decide +kernel⟩, List.mem_of_getElem? (i := 884) (by decide +kernel), List.mem_of_getElem? (i := 1213) (by decide +kernel), List.mem_of_getElem? (i := 1214) (by decide +kernel)⟩
theorem lw_p61 : lw_okq (⟨"WhenItWasModel", "bitsOf", "(I)J"⟩, 42) := ⟨⟨by decide +kernel, by decide +kernel⟩, List.mem_of_getElem? (i := 884) (by decide +kernel), List.mem_of_getElem? (i := 1220) (by decide +kernel), List.mem_of_getElem? (i := 1221) (by decide +kernel)⟩
theorem lw_p62 : lw_okq (⟨"WhenItWasModel", "trustOfSet", "(I)I"⟩, 42) := ⟨⟨by decide +kernel, by decide +kernel⟩, List.mem_of_getElem? (i := 884) (by decide +kernel), List.mem_of_getElem? (i := 1224) (by decide +kernel), List.mem_of_getElem? (i := 1225) (by decide +kernel)⟩
theorem lw_p63 : lw_okq (⟨"WhenItWasModel", "sures", "()Z"⟩, 42) := ⟨⟨by decide +kernel, by decide +kernel⟩, List.mem_of_getElem? (i := 884) (by decide +kernel), List.mem_of_getElem? (i := 1237) (by decide +kernel), List.mem_of_getElem? (i := 1238) (by decide +kernel)⟩
def lw_privs_4 : List (MethodName × Nat) := [(⟨"WhenItWasModel", "knownBits", "(I)J"⟩, 42), (⟨"WhenItWasModel", "works", "(J)Z"⟩, 42), (⟨"WhenItWasModel", "atMost", "(III)V"⟩, 42), (⟨"WhenItWasModel", "leansOn", "(I)I"⟩, 42), (⟨"WhenItWasModel", "canAll", "()Z"⟩, 42), (⟨"WhenItWasModel", "endOf", "(II)I"⟩, 42), (⟨"WhenItWasModel", "clockEnd", "(II)I"⟩, 42), (⟨"WhenItWasModel", "areTwo", "(II)Z"⟩, 42), (⟨"WhenItWasModel", "nears", "(III)Z"⟩, 42), (⟨"WhenItWasModel", "isOther", "(II)Z"⟩, 42), (⟨"WhenItWasModel", "isFitting", "(I)Z"⟩, 42), (⟨"WhenItWasModel", "latest", "(II)I"⟩, 42), (⟨"WhenItWasModel", "doubtsNow", "()I"⟩, 42), (⟨"WhenItWasModel", "bitsOf", "(I)J"⟩, 42), (⟨"WhenItWasModel", "trustOfSet", "(I)I"⟩, 42), (⟨"WhenItWasModel", "sures", "()Z"⟩, 42)]
theorem lw_r4 : ∀ q ∈ lw_privs_4, lw_okq q := List.forall_mem_cons.mpr ⟨lw_p48, List.forall_mem_cons.mpr ⟨lw_p49, List.forall_mem_cons.mpr ⟨lw_p50, List.forall_mem_cons.mpr ⟨lw_p51, List.forall_mem_cons.mpr ⟨lw_p52, List.forall_mem_cons.mpr ⟨lw_p53, List.forall_mem_cons.mpr ⟨lw_p54, List.forall_mem_cons.mpr ⟨lw_p55, List.forall_mem_cons.mpr ⟨lw_p56, List.forall_mem_cons.mpr ⟨lw_p57, List.forall_mem_cons.mpr ⟨lw_p58, List.forall_mem_cons.mpr ⟨lw_p59, List.forall_mem_cons.mpr ⟨lw_p60, List.forall_mem_cons.mpr ⟨lw_p61, List.forall_mem_cons.mpr ⟨lw_p62, List.forall_mem_cons.mpr ⟨lw_p63, fun _ h => absurd h List.not_mem_nil⟩⟩⟩⟩⟩⟩⟩⟩⟩⟩⟩⟩⟩⟩⟩⟩
theorem lw_p64 : lw_okq (⟨"WhenItWasModel", "ordersNow", "()J"⟩, 42) := ⟨⟨by decide +kernel, by decide +kernel⟩, List.mem_of_getElem? (i := 884) (by decide +kernel), List.mem_of_getElem? (i := 1245) (by decide +kernel), List.mem_of_getElem? (i := 1246) (by decide +kernel)⟩
theorem lw_p65 : lw_okq (⟨"WhenItWasModel", "ordersBut", "(I)J"⟩, 42) := ⟨⟨by decide +kernel, by decide +kernel⟩, List.mem_of_getElem? (i := 884) (by decide +kernel), List.mem_of_getElem? (i := 1249) (by decide +kernel), List.mem_of_getElem? (i := 1250) (by decide +kernel)⟩
theorem lw_p66 : lw_okq (⟨"WhenItWasModel", "ordersWith", "(II)J"⟩, 42) := ⟨⟨by decide +kernel, by decide +kernel⟩, List.mem_of_getElem? (i := 884) (by decide +kernel), List.mem_of_getElem? (i := 1257) (by decide +kernel), List.mem_of_getElem? (i := 1258) (by decide +kernel)⟩
theorem lw_p67 : lw_okq (⟨"WhenItWasModel", "faultNow", "()I"⟩, 42) := ⟨⟨by decide +kernel, by decide +kernel⟩, List.mem_of_getElem? (i := 884) (by decide +kernel), List.mem_of_getElem? (i := 1304) (by decide +kernel), List.mem_of_getElem? (i := 1305) (by decide +kernel)⟩
theorem lw_p68 : lw_okq (⟨"WhenItWasModel", "date", "()I"⟩, 42) := ⟨⟨by decide +kernel, by decide +kernel⟩, List.mem_of_getElem? (i := 884) (by decide +kernel), List.mem_of_getElem? (i := 1308) (by decide +kernel), List.mem_of_getElem? (i := 1309) (by decide +kernel)⟩
theorem lw_p69 : lw_okq (⟨"WhenItWasModel", "figures", "(II)I"⟩, 42) := ⟨⟨by decide +kernel, by decide +kernel⟩, List.mem_of_getElem? (i := 884) (by decide +kernel), List.mem_of_getElem? (i := 1312) (by decide +kernel), List.mem_of_getElem? (i := 1313) (by decide +kernel)⟩
theorem lw_p70 : lw_okq (⟨"WhenItWasModel", "byteAt", "(I)I"⟩, 42) := ⟨⟨by decide +kernel, by decide +kernel⟩, List.mem_of_getElem? (i := 884) (by decide +kernel), List.mem_of_getElem? (i := 1316) (by decide +kernel), List.mem_of_getElem? (i := 1317) (by decide +kernel)⟩
theorem lw_p71 : lw_okq (⟨"WhenItWasModel", "dot", "()V"⟩, 42) := ⟨⟨by decide +kernel, by decide +kernel⟩, List.mem_of_getElem? (i := 884) (by decide +kernel), List.mem_of_getElem? (i := 1320) (by decide +kernel), List.mem_of_getElem? (i := 1321) (by decide +kernel)⟩
theorem lw_p72 : lw_okq (⟨"WhenItWasModel", "lacks", "(III)I"⟩, 42) := ⟨⟨by decide +kernel, by decide +kernel⟩, List.mem_of_getElem? (i := 884) (by decide +kernel), List.mem_of_getElem? (i := 1340) (by decide +kernel), List.mem_of_getElem? (i := 1341) (by decide +kernel)⟩
theorem lw_p73 : lw_okq (⟨"WhenItWasModel", "lay", "(III)V"⟩, 42) := ⟨⟨by decide +kernel, by decide +kernel⟩, List.mem_of_getElem? (i := 884) (by decide +kernel), List.mem_of_getElem? (i := 1344) (by decide +kernel), List.mem_of_getElem? (i := 1345) (by decide +kernel)⟩
def lw_privs_5 : List (MethodName × Nat) := [(⟨"WhenItWasModel", "ordersNow", "()J"⟩, 42), (⟨"WhenItWasModel", "ordersBut", "(I)J"⟩, 42), (⟨"WhenItWasModel", "ordersWith", "(II)J"⟩, 42), (⟨"WhenItWasModel", "faultNow", "()I"⟩, 42), (⟨"WhenItWasModel", "date", "()I"⟩, 42), (⟨"WhenItWasModel", "figures", "(II)I"⟩, 42), (⟨"WhenItWasModel", "byteAt", "(I)I"⟩, 42), (⟨"WhenItWasModel", "dot", "()V"⟩, 42), (⟨"WhenItWasModel", "lacks", "(III)I"⟩, 42), (⟨"WhenItWasModel", "lay", "(III)V"⟩, 42)]
theorem lw_r5 : ∀ q ∈ lw_privs_5, lw_okq q := List.forall_mem_cons.mpr ⟨lw_p64, List.forall_mem_cons.mpr ⟨lw_p65, List.forall_mem_cons.mpr ⟨lw_p66, List.forall_mem_cons.mpr ⟨lw_p67, List.forall_mem_cons.mpr ⟨lw_p68, List.forall_mem_cons.mpr ⟨lw_p69, List.forall_mem_cons.mpr ⟨lw_p70, List.forall_mem_cons.mpr ⟨lw_p71, List.forall_mem_cons.mpr ⟨lw_p72, List.forall_mem_cons.mpr ⟨lw_p73, fun _ h => absurd h List.not_mem_nil⟩⟩⟩⟩⟩⟩⟩⟩⟩⟩
def lw_privs : List (MethodName × Nat) := lw_privs_1 ++ (lw_privs_2 ++ (lw_privs_3 ++ (lw_privs_4 ++ (lw_privs_5))))
def lw_tbl : List Cond := k2_sels lw_privs ++ tables_1
theorem lw_privs_ok : ∀ q ∈ lw_privs, lw_okq q := by
  show ∀ q ∈ lw_privs_1 ++ (lw_privs_2 ++ (lw_privs_3 ++ (lw_privs_4 ++ (lw_privs_5)))), lw_okq q
  exact List.forall_mem_append.mpr ⟨lw_r1, List.forall_mem_append.mpr ⟨lw_r2, List.forall_mem_append.mpr ⟨lw_r3, List.forall_mem_append.mpr ⟨lw_r4, lw_r5⟩⟩⟩⟩
end
section
def RX0 : String := "WhenItWas$Books"
def TX0 : u_T := fun k => match k with
  | 0 => ("WhenItWas$Books", "least", "[I", true)
  | 1 => ("WhenItWas$Books", "greatest", "[I", true)
  | 2 => ("WhenItWas$Books", "trust", "[I", true)
  | _ => ("WhenItWas$Books", "size", "I", false)
def tyX0 : Nat → FieldType := fun k => match k with
  | 0 => .array .int
  | 1 => .array .int
  | 2 => .array .int
  | _ => .int
abbrev wsX00 : List Cond := u_ws RX0 TX0 4
theorem nmX0 : ∀ a, a < 4 → ∀ b, b < 4 → a ≠ b → (TX0 a).2.1 ≠ (TX0 b).2.1 := by decide +kernel
theorem tyX0_ok : ∀ k, k < 4 → parseFieldDescriptor (TX0 k).2.2.1 = some (tyX0 k) := by decide +kernel
abbrev cX0_init : ByteArray := prog_2_method_1_code
def yX0_init : MethodName := ⟨RX0, "<init>", "()V"⟩
abbrev cX0_open : ByteArray := prog_2_method_2_code
def yX0_open : MethodName := ⟨RX0, "open", "(II)I"⟩
abbrev cX0_trustTogether : ByteArray := prog_2_method_3_code
def yX0_trustTogether : MethodName := ⟨RX0, "trustTogether", "()I"⟩
def RX1 : String := "WhenItWas$Calendar"
def TX1 : u_T := fun k => match k with
  | _ => ("", "", "", false)
def tyX1 : Nat → FieldType := fun k => match k with
  | _ => .int
abbrev wsX10 : List Cond := u_ws RX1 TX1 0
theorem nmX1 : ∀ a, a < 0 → ∀ b, b < 0 → a ≠ b → (TX1 a).2.1 ≠ (TX1 b).2.1 := by decide +kernel
theorem tyX1_ok : ∀ k, k < 0 → parseFieldDescriptor (TX1 k).2.2.1 = some (tyX1 k) := by decide +kernel
abbrev cX1_isOne : ByteArray := prog_3_method_2_code
def yX1_isOne : MethodName := ⟨RX1, "isOne", "(I)Z"⟩
abbrev cX1_isDate : ByteArray := prog_3_method_3_code
def yX1_isDate : MethodName := ⟨RX1, "isDate", "(IIII)Z"⟩
abbrev cX1_dayNumber : ByteArray := prog_3_method_4_code
def yX1_dayNumber : MethodName := ⟨RX1, "dayNumber", "(IIII)I"⟩
abbrev cX1_hasDay : ByteArray := prog_3_method_5_code
def yX1_hasDay : MethodName := ⟨RX1, "hasDay", "(II)Z"⟩
abbrev cX1_yearWith : ByteArray := prog_3_method_6_code
def yX1_yearWith : MethodName := ⟨RX1, "yearWith", "(II)I"⟩
abbrev cX1_monthWith : ByteArray := prog_3_method_7_code
def yX1_monthWith : MethodName := ⟨RX1, "monthWith", "(III)I"⟩
abbrev cX1_isLeap : ByteArray := prog_3_method_8_code
def yX1_isLeap : MethodName := ⟨RX1, "isLeap", "(II)Z"⟩
abbrev cX1_leapsUpTo : ByteArray := prog_3_method_9_code
def yX1_leapsUpTo : MethodName := ⟨RX1, "leapsUpTo", "(II)I"⟩
def RX2 : String := "WhenItWas$Dates"
def TX2 : u_T := fun k => match k with
  | 0 => ("WhenItWas$Dates", "bytes", "[I", true)
  | 1 => ("WhenItWas$Dates", "length", "I", false)
  | 2 => ("WhenItWas$Dates", "from", "I", false)
  | 3 => ("WhenItWas$Dates", "until", "I", false)
  | 4 => ("WhenItWas$Dates", "place", "I", false)
  | 5 => ("WhenItWas$Dates", "number", "I", false)
  | _ => ("WhenItWas$Dates", "dayRead", "I", false)
def tyX2 : Nat → FieldType := fun k => match k with
  | 0 => .array .int
  | 1 => .int
  | 2 => .int
  | 3 => .int
  | 4 => .int
  | 5 => .int
  | _ => .int
abbrev wsX20 : List Cond := u_ws RX2 TX2 7
theorem nmX2 : ∀ a, a < 7 → ∀ b, b < 7 → a ≠ b → (TX2 a).2.1 ≠ (TX2 b).2.1 := by decide +kernel
theorem tyX2_ok : ∀ k, k < 7 → parseFieldDescriptor (TX2 k).2.2.1 = some (tyX2 k) := by decide +kernel
abbrev cX2_init : ByteArray := prog_4_method_1_code
def yX2_init : MethodName := ⟨RX2, "<init>", "()V"⟩
abbrev cX2_append : ByteArray := prog_4_method_2_code
def yX2_append : MethodName := ⟨RX2, "append", "(I)I"⟩
abbrev cX2_findFault : ByteArray := prog_4_method_3_code
def yX2_findFault : MethodName := ⟨RX2, "findFault", "()I"⟩
abbrev cX2_readSecond : ByteArray := prog_4_method_4_code
def yX2_readSecond : MethodName := ⟨RX2, "readSecond", "()I"⟩
abbrev cX2_readDate : ByteArray := prog_4_method_5_code
def yX2_readDate : MethodName := ⟨RX2, "readDate", "()I"⟩
abbrev cX2_readLetter : ByteArray := prog_4_method_6_code
def yX2_readLetter : MethodName := ⟨RX2, "readLetter", "(IIII)I"⟩
abbrev cX2_readDot : ByteArray := prog_4_method_7_code
def yX2_readDot : MethodName := ⟨RX2, "readDot", "()I"⟩
abbrev cX2_readNumber : ByteArray := prog_4_method_8_code
def yX2_readNumber : MethodName := ⟨RX2, "readNumber", "(II)I"⟩
abbrev cX2_isFigure : ByteArray := prog_4_method_9_code
def yX2_isFigure : MethodName := ⟨RX2, "isFigure", "(I)Z"⟩
abbrev cX2_signHere : ByteArray := prog_4_method_10_code
def yX2_signHere : MethodName := ⟨RX2, "signHere", "()I"⟩
def RX3 : String := "WhenItWas$Doubt"
def TX3 : u_T := fun k => match k with
  | 0 => ("WhenItWas$Doubt", "candidates", "[I", true)
  | 1 => ("WhenItWas$Doubt", "size", "I", false)
  | 2 => ("WhenItWas$Doubt", "blame", "[I", true)
  | 3 => ("WhenItWas$Doubt", "best", "J", false)
  | _ => ("WhenItWas$Doubt", "bestTrust", "I", false)
def tyX3 : Nat → FieldType := fun k => match k with
  | 0 => .array .int
  | 1 => .int
  | 2 => .array .int
  | 3 => .long
  | _ => .int
abbrev wsX30 : List Cond := u_ws RX3 TX3 5
theorem nmX3 : ∀ a, a < 5 → ∀ b, b < 5 → a ≠ b → (TX3 a).2.1 ≠ (TX3 b).2.1 := by decide +kernel
theorem tyX3_ok : ∀ k, k < 5 → parseFieldDescriptor (TX3 k).2.2.1 = some (tyX3 k) := by decide +kernel
abbrev cX3_init : ByteArray := prog_5_method_1_code
def yX3_init : MethodName := ⟨RX3, "<init>", "()V"⟩
abbrev cX3_clear : ByteArray := prog_5_method_2_code
def yX3_clear : MethodName := ⟨RX3, "clear", "()V"⟩
abbrev cX3_search : ByteArray := prog_5_method_3_code
def yX3_search : MethodName := ⟨RX3, "search", "(LWhenItWas$Net;J)V"⟩
abbrev cX3_tryAllOfSize : ByteArray := prog_5_method_4_code
def yX3_tryAllOfSize : MethodName := ⟨RX3, "tryAllOfSize", "(LWhenItWas$Net;JI)V"⟩
abbrev cX3_keep : ByteArray := prog_5_method_5_code
def yX3_keep : MethodName := ⟨RX3, "keep", "(JI)V"⟩
abbrev cX3_rowsOf : ByteArray := prog_5_method_6_code
def yX3_rowsOf : MethodName := ⟨RX3, "rowsOf", "(I)J"⟩
abbrev cX3_trustOf : ByteArray := prog_5_method_7_code
def yX3_trustOf : MethodName := ⟨RX3, "trustOf", "(LWhenItWas$Net;I)I"⟩
abbrev cX3_blameAll : ByteArray := prog_5_method_8_code
def yX3_blameAll : MethodName := ⟨RX3, "blameAll", "(I)V"⟩
def RX4 : String := "WhenItWas$Kin"
def TX4 : u_T := fun k => match k with
  | 0 => ("WhenItWas$Kin", "differences", "[I", true)
  | 1 => ("WhenItWas$Kin", "size", "I", false)
  | 2 => ("WhenItWas$Kin", "most", "I", false)
  | _ => ("WhenItWas$Kin", "number", "I", false)
def tyX4 : Nat → FieldType := fun k => match k with
  | 0 => .array .int
  | 1 => .int
  | 2 => .int
  | _ => .int
abbrev wsX40 : List Cond := u_ws RX4 TX4 4
theorem nmX4 : ∀ a, a < 4 → ∀ b, b < 4 → a ≠ b → (TX4 a).2.1 ≠ (TX4 b).2.1 := by decide +kernel
theorem tyX4_ok : ∀ k, k < 4 → parseFieldDescriptor (TX4 k).2.2.1 = some (tyX4 k) := by decide +kernel
abbrev cX4_init : ByteArray := prog_6_method_1_code
def yX4_init : MethodName := ⟨RX4, "<init>", "()V"⟩
abbrev cX4_compare : ByteArray := prog_6_method_2_code
def yX4_compare : MethodName := ⟨RX4, "compare", "(LWhenItWas$Rows;JII)V"⟩
abbrev cX4_weigh : ByteArray := prog_6_method_3_code
def yX4_weigh : MethodName := ⟨RX4, "weigh", "(I)V"⟩
def RX5 : String := "WhenItWas$Lines"
def TX5 : u_T := fun k => match k with
  | 0 => ("WhenItWas$Lines", "before", "[I", true)
  | 1 => ("WhenItWas$Lines", "ways", "[I", true)
  | 2 => ("WhenItWas$Lines", "waysOn", "[I", true)
  | 3 => ("WhenItWas$Lines", "pairs", "[I", true)
  | _ => ("WhenItWas$Lines", "size", "I", false)
def tyX5 : Nat → FieldType := fun k => match k with
  | 0 => .array .int
  | 1 => .array .int
  | 2 => .array .int
  | 3 => .array .int
  | _ => .int
abbrev wsX50 : List Cond := u_ws RX5 TX5 5
theorem nmX5 : ∀ a, a < 5 → ∀ b, b < 5 → a ≠ b → (TX5 a).2.1 ≠ (TX5 b).2.1 := by decide +kernel
theorem tyX5_ok : ∀ k, k < 5 → parseFieldDescriptor (TX5 k).2.2.1 = some (tyX5 k) := by decide +kernel
abbrev cX5_init : ByteArray := prog_7_method_1_code
def yX5_init : MethodName := ⟨RX5, "<init>", "()V"⟩
abbrev cX5_clear : ByteArray := prog_7_method_2_code
def yX5_clear : MethodName := ⟨RX5, "clear", "(I)V"⟩
abbrev cX5_setAhead : ByteArray := prog_7_method_3_code
def yX5_setAhead : MethodName := ⟨RX5, "setAhead", "(II)V"⟩
abbrev cX5_waysFrom : ByteArray := prog_7_method_4_code
def yX5_waysFrom : MethodName := ⟨RX5, "waysFrom", "(I)I"⟩
abbrev cX5_bestPair : ByteArray := prog_7_method_5_code
def yX5_bestPair : MethodName := ⟨RX5, "bestPair", "()I"⟩
abbrev cX5_isSure : ByteArray := prog_7_method_6_code
def yX5_isSure : MethodName := ⟨RX5, "isSure", "(II)Z"⟩
abbrev cX5_mayFollow : ByteArray := prog_7_method_7_code
def yX5_mayFollow : MethodName := ⟨RX5, "mayFollow", "(II)Z"⟩
abbrev cX5_countWaysOn : ByteArray := prog_7_method_8_code
def yX5_countWaysOn : MethodName := ⟨RX5, "countWaysOn", "()V"⟩
abbrev cX5_countPairs : ByteArray := prog_7_method_9_code
def yX5_countPairs : MethodName := ⟨RX5, "countPairs", "()V"⟩
abbrev cX5_addToPairs : ByteArray := prog_7_method_10_code
def yX5_addToPairs : MethodName := ⟨RX5, "addToPairs", "(III)V"⟩
def RX6 : String := "WhenItWas$Net"
def TX6 : u_T := fun k => match k with
  | 0 => ("WhenItWas$Net", "rows", "LWhenItWas$Rows;", true)
  | 1 => ("WhenItWas$Net", "books", "LWhenItWas$Books;", true)
  | 2 => ("WhenItWas$Net", "from", "[I", true)
  | 3 => ("WhenItWas$Net", "to", "[I", true)
  | 4 => ("WhenItWas$Net", "x", "[I", true)
  | 5 => ("WhenItWas$Net", "y", "[I", true)
  | 6 => ("WhenItWas$Net", "size", "I", false)
  | 7 => ("WhenItWas$Net", "floor", "[I", true)
  | 8 => ("WhenItWas$Net", "ceiling", "[I", true)
  | 9 => ("WhenItWas$Net", "most", "[I", true)
  | 10 => ("WhenItWas$Net", "leastTurned", "[I", true)
  | 11 => ("WhenItWas$Net", "reach", "[I", true)
  | _ => ("WhenItWas$Net", "nextReach", "[I", true)
def tyX6 : Nat → FieldType := fun k => match k with
  | 0 => .object "WhenItWas$Rows"
  | 1 => .object "WhenItWas$Books"
  | 2 => .array .int
  | 3 => .array .int
  | 4 => .array .int
  | 5 => .array .int
  | 6 => .int
  | 7 => .array .int
  | 8 => .array .int
  | 9 => .array .int
  | 10 => .array .int
  | 11 => .array .int
  | _ => .array .int
abbrev wsX60 : List Cond := u_ws RX6 TX6 13
theorem nmX6 : ∀ a, a < 13 → ∀ b, b < 13 → a ≠ b → (TX6 a).2.1 ≠ (TX6 b).2.1 := by decide +kernel
theorem tyX6_ok : ∀ k, k < 13 → parseFieldDescriptor (TX6 k).2.2.1 = some (tyX6 k) := by decide +kernel
abbrev cX6_init : ByteArray := prog_8_method_1_code
def yX6_init : MethodName := ⟨RX6, "<init>", "()V"⟩
abbrev cX6_canHold : ByteArray := prog_8_method_2_code
def yX6_canHold : MethodName := ⟨RX6, "canHold", "(J)Z"⟩
abbrev cX6_solve : ByteArray := prog_8_method_3_code
def yX6_solve : MethodName := ⟨RX6, "solve", "(J)Z"⟩
abbrev cX6_endOfThing : ByteArray := prog_8_method_4_code
def yX6_endOfThing : MethodName := ⟨RX6, "endOfThing", "(II)I"⟩
abbrev cX6_endOfClock : ByteArray := prog_8_method_5_code
def yX6_endOfClock : MethodName := ⟨RX6, "endOfClock", "(II)I"⟩
abbrev cX6_spanKey : ByteArray := prog_8_method_6_code
def yX6_spanKey : MethodName := ⟨RX6, "spanKey", "(IJ)J"⟩
abbrev cX6_measureFrom : ByteArray := prog_8_method_7_code
def yX6_measureFrom : MethodName := ⟨RX6, "measureFrom", "(I)V"⟩
abbrev cX6_mostBehind : ByteArray := prog_8_method_8_code
def yX6_mostBehind : MethodName := ⟨RX6, "mostBehind", "(II)I"⟩
abbrev cX6_stepsToEnd : ByteArray := prog_8_method_9_code
def yX6_stepsToEnd : MethodName := ⟨RX6, "stepsToEnd", "(IZ)I"⟩
abbrev cX6_turnFloorInto : ByteArray := prog_8_method_10_code
def yX6_turnFloorInto : MethodName := ⟨RX6, "turnFloorInto", "([I)V"⟩
abbrev cX6_load : ByteArray := prog_8_method_11_code
def yX6_load : MethodName := ⟨RX6, "load", "(J)V"⟩
abbrev cX6_addRow : ByteArray := prog_8_method_12_code
def yX6_addRow : MethodName := ⟨RX6, "addRow", "(I)V"⟩
abbrev cX6_settle : ByteArray := prog_8_method_13_code
def yX6_settle : MethodName := ⟨RX6, "settle", "([IZ)Z"⟩
abbrev cX6_sweep : ByteArray := prog_8_method_14_code
def yX6_sweep : MethodName := ⟨RX6, "sweep", "([IZ)Z"⟩
abbrev cX6_stepOnce : ByteArray := prog_8_method_15_code
def yX6_stepOnce : MethodName := ⟨RX6, "stepOnce", "(Z)V"⟩
def RX7 : String := "WhenItWas$Rows"
def TX7 : u_T := fun k => match k with
  | 0 => ("WhenItWas$Rows", "book", "[I", true)
  | 1 => ("WhenItWas$Rows", "thing", "[I", true)
  | 2 => ("WhenItWas$Rows", "other", "[I", true)
  | 3 => ("WhenItWas$Rows", "x", "[I", true)
  | 4 => ("WhenItWas$Rows", "y", "[I", true)
  | 5 => ("WhenItWas$Rows", "told", "[I", true)
  | 6 => ("WhenItWas$Rows", "taken", "[I", true)
  | _ => ("WhenItWas$Rows", "size", "I", false)
def tyX7 : Nat → FieldType := fun k => match k with
  | 0 => .array .int
  | 1 => .array .int
  | 2 => .array .int
  | 3 => .array .int
  | 4 => .array .int
  | 5 => .array .int
  | 6 => .array .int
  | _ => .int
abbrev wsX70 : List Cond := u_ws RX7 TX7 8
theorem nmX7 : ∀ a, a < 8 → ∀ b, b < 8 → a ≠ b → (TX7 a).2.1 ≠ (TX7 b).2.1 := by decide +kernel
theorem tyX7_ok : ∀ k, k < 8 → parseFieldDescriptor (TX7 k).2.2.1 = some (tyX7 k) := by decide +kernel
abbrev cX7_init : ByteArray := prog_9_method_1_code
def yX7_init : MethodName := ⟨RX7, "<init>", "()V"⟩
abbrev cX7_tell : ByteArray := prog_9_method_2_code
def yX7_tell : MethodName := ⟨RX7, "tell", "(IIIIII)I"⟩
abbrev cX7_isKnown : ByteArray := prog_9_method_3_code
def yX7_isKnown : MethodName := ⟨RX7, "isKnown", "(II)Z"⟩
abbrev cX7_isOnBy : ByteArray := prog_9_method_4_code
def yX7_isOnBy : MethodName := ⟨RX7, "isOnBy", "(II)Z"⟩
abbrev cX7_knownAsOf : ByteArray := prog_9_method_5_code
def yX7_knownAsOf : MethodName := ⟨RX7, "knownAsOf", "(I)J"⟩
abbrev cX7_howManyOn : ByteArray := prog_9_method_6_code
def yX7_howManyOn : MethodName := ⟨RX7, "howManyOn", "(J)I"⟩
abbrev cX7_nextDayOfNews : ByteArray := prog_9_method_7_code
def yX7_nextDayOfNews : MethodName := ⟨RX7, "nextDayOfNews", "(I)I"⟩
abbrev cX7_nearer : ByteArray := prog_9_method_8_code
def yX7_nearer : MethodName := ⟨RX7, "nearer", "(III)I"⟩
abbrev cX7_exactDay : ByteArray := prog_9_method_9_code
def yX7_exactDay : MethodName := ⟨RX7, "exactDay", "(JII)I"⟩
def RX8 : String := "WhenItWas$Sheets"
def TX8 : u_T := fun k => match k with
  | 0 => ("WhenItWas$Sheets", "kind", "[I", true)
  | 1 => ("WhenItWas$Sheets", "size", "[I", true)
  | _ => ("WhenItWas$Sheets", "items", "[I", true)
def tyX8 : Nat → FieldType := fun k => match k with
  | 0 => .array .int
  | 1 => .array .int
  | _ => .array .int
abbrev wsX80 : List Cond := u_ws RX8 TX8 3
theorem nmX8 : ∀ a, a < 3 → ∀ b, b < 3 → a ≠ b → (TX8 a).2.1 ≠ (TX8 b).2.1 := by decide +kernel
theorem tyX8_ok : ∀ k, k < 3 → parseFieldDescriptor (TX8 k).2.2.1 = some (tyX8 k) := by decide +kernel
abbrev cX8_init : ByteArray := prog_10_method_1_code
def yX8_init : MethodName := ⟨RX8, "<init>", "()V"⟩
abbrev cX8_isLost : ByteArray := prog_10_method_2_code
def yX8_isLost : MethodName := ⟨RX8, "isLost", "(I)Z"⟩
abbrev cX8_renew : ByteArray := prog_10_method_3_code
def yX8_renew : MethodName := ⟨RX8, "renew", "(III)V"⟩
abbrev cX8_hindrance : ByteArray := prog_10_method_4_code
def yX8_hindrance : MethodName := ⟨RX8, "hindrance", "(III)I"⟩
abbrev cX8_has : ByteArray := prog_10_method_5_code
def yX8_has : MethodName := ⟨RX8, "has", "(III)Z"⟩
abbrev cX8_item : ByteArray := prog_10_method_6_code
def yX8_item : MethodName := ⟨RX8, "item", "(II)I"⟩
abbrev cX8_store : ByteArray := prog_10_method_7_code
def yX8_store : MethodName := ⟨RX8, "store", "(III)V"⟩
abbrev cX8_move : ByteArray := prog_10_method_8_code
def yX8_move : MethodName := ⟨RX8, "move", "(IIIII)V"⟩
abbrev cX8_narrowed : ByteArray := prog_10_method_9_code
def yX8_narrowed : MethodName := ⟨RX8, "narrowed", "(II)I"⟩
def RX9 : String := "WhenItWas"
def TX9 : u_T := fun k => match k with
  | 0 => ("WhenItWas", "net", "LWhenItWas$Net;", true)
  | 1 => ("WhenItWas", "books", "LWhenItWas$Books;", true)
  | 2 => ("WhenItWas", "rows", "LWhenItWas$Rows;", true)
  | 3 => ("WhenItWas", "doubt", "LWhenItWas$Doubt;", true)
  | 4 => ("WhenItWas", "lines", "LWhenItWas$Lines;", true)
  | 5 => ("WhenItWas", "kindred", "LWhenItWas$Kin;", true)
  | 6 => ("WhenItWas", "dates", "LWhenItWas$Dates;", true)
  | 7 => ("WhenItWas", "sheets", "LWhenItWas$Sheets;", true)
  | 8 => ("WhenItWas", "today", "I", false)
  | 9 => ("WhenItWas", "view", "I", false)
  | 10 => ("WhenItWas", "things", "I", false)
  | _ => ("WhenItWas", "finding", "I", false)
def tyX9 : Nat → FieldType := fun k => match k with
  | 0 => .object "WhenItWas$Net"
  | 1 => .object "WhenItWas$Books"
  | 2 => .object "WhenItWas$Rows"
  | 3 => .object "WhenItWas$Doubt"
  | 4 => .object "WhenItWas$Lines"
  | 5 => .object "WhenItWas$Kin"
  | 6 => .object "WhenItWas$Dates"
  | 7 => .object "WhenItWas$Sheets"
  | 8 => .int
  | 9 => .int
  | 10 => .int
  | _ => .int
abbrev wsX90 : List Cond := u_ws RX9 TX9 12
theorem nmX9 : ∀ a, a < 12 → ∀ b, b < 12 → a ≠ b → (TX9 a).2.1 ≠ (TX9 b).2.1 := by decide +kernel
theorem tyX9_ok : ∀ k, k < 12 → parseFieldDescriptor (TX9 k).2.2.1 = some (tyX9 k) := by decide +kernel
abbrev cX9_init : ByteArray := prog_1_method_1_code
def yX9_init : MethodName := ⟨RX9, "<init>", "()V"⟩
abbrev cX9_pass : ByteArray := prog_1_method_2_code
def yX9_pass : MethodName := ⟨RX9, "pass", "(I)I"⟩
abbrev cX9_thing : ByteArray := prog_1_method_3_code
def yX9_thing : MethodName := ⟨RX9, "thing", "()I"⟩
abbrev cX9_book : ByteArray := prog_1_method_4_code
def yX9_book : MethodName := ⟨RX9, "book", "(II)I"⟩
abbrev cX9_trust : ByteArray := prog_1_method_5_code
def yX9_trust : MethodName := ⟨RX9, "trust", "(II)I"⟩
abbrev cX9_on : ByteArray := prog_1_method_6_code
def yX9_on : MethodName := ⟨RX9, "on", "(IIII)I"⟩
abbrev cX9_apart : ByteArray := prog_1_method_7_code
def yX9_apart : MethodName := ⟨RX9, "apart", "(IIIII)I"⟩
abbrev cX9_read : ByteArray := prog_1_method_8_code
def yX9_read : MethodName := ⟨RX9, "read", "(I)I"⟩
abbrev cX9_takeBack : ByteArray := prog_1_method_9_code
def yX9_takeBack : MethodName := ⟨RX9, "takeBack", "(I)I"⟩
abbrev cX9_about : ByteArray := prog_1_method_10_code
def yX9_about : MethodName := ⟨RX9, "about", "(II)I"⟩
abbrev cX9_asOf : ByteArray := prog_1_method_11_code
def yX9_asOf : MethodName := ⟨RX9, "asOf", "(I)I"⟩
abbrev cX9_can : ByteArray := prog_1_method_12_code
def yX9_can : MethodName := ⟨RX9, "can", "(J)I"⟩
abbrev cX9_all : ByteArray := prog_1_method_13_code
def yX9_all : MethodName := ⟨RX9, "all", "()I"⟩
abbrev cX9_span : ByteArray := prog_1_method_14_code
def yX9_span : MethodName := ⟨RX9, "span", "(II)I"⟩
abbrev cX9_clock : ByteArray := prog_1_method_15_code
def yX9_clock : MethodName := ⟨RX9, "clock", "(II)I"⟩
abbrev cX9_between : ByteArray := prog_1_method_16_code
def yX9_between : MethodName := ⟨RX9, "between", "(III)I"⟩
abbrev cX9_led : ByteArray := prog_1_method_17_code
def yX9_led : MethodName := ⟨RX9, "led", "(II)I"⟩
abbrev cX9_changed : ByteArray := prog_1_method_18_code
def yX9_changed : MethodName := ⟨RX9, "changed", "(II)I"⟩
abbrev cX9_fits : ByteArray := prog_1_method_19_code
def yX9_fits : MethodName := ⟨RX9, "fits", "(I)I"⟩
abbrev cX9_room : ByteArray := prog_1_method_20_code
def yX9_room : MethodName := ⟨RX9, "room", "(II)I"⟩
abbrev cX9_kin : ByteArray := prog_1_method_21_code
def yX9_kin : MethodName := ⟨RX9, "kin", "(III)I"⟩
abbrev cX9_hangs : ByteArray := prog_1_method_22_code
def yX9_hangs : MethodName := ⟨RX9, "hangs", "(I)J"⟩
abbrev cX9_doubts : ByteArray := prog_1_method_23_code
def yX9_doubts : MethodName := ⟨RX9, "doubts", "()J"⟩
abbrev cX9_blamed : ByteArray := prog_1_method_24_code
def yX9_blamed : MethodName := ⟨RX9, "blamed", "(I)I"⟩
abbrev cX9_ahead : ByteArray := prog_1_method_25_code
def yX9_ahead : MethodName := ⟨RX9, "ahead", "(II)I"⟩
abbrev cX9_orders : ByteArray := prog_1_method_26_code
def yX9_orders : MethodName := ⟨RX9, "orders", "()J"⟩
abbrev cX9_share : ByteArray := prog_1_method_27_code
def yX9_share : MethodName := ⟨RX9, "share", "(III)J"⟩
abbrev cX9_first : ByteArray := prog_1_method_28_code
def yX9_first : MethodName := ⟨RX9, "first", "(I)J"⟩
abbrev cX9_question : ByteArray := prog_1_method_29_code
def yX9_question : MethodName := ⟨RX9, "question", "()I"⟩
abbrev cX9_dayOf : ByteArray := prog_1_method_30_code
def yX9_dayOf : MethodName := ⟨RX9, "dayOf", "(IIII)I"⟩
abbrev cX9_dateOf : ByteArray := prog_1_method_31_code
def yX9_dateOf : MethodName := ⟨RX9, "dateOf", "(III)I"⟩
abbrev cX9_type : ByteArray := prog_1_method_32_code
def yX9_type : MethodName := ⟨RX9, "type", "(I)I"⟩
abbrev cX9_wipe : ByteArray := prog_1_method_33_code
def yX9_wipe : MethodName := ⟨RX9, "wipe", "()I"⟩
abbrev cX9_fault : ByteArray := prog_1_method_34_code
def yX9_fault : MethodName := ⟨RX9, "fault", "()I"⟩
abbrev cX9_said : ByteArray := prog_1_method_35_code
def yX9_said : MethodName := ⟨RX9, "said", "(II)I"⟩
abbrev cX9_sheet : ByteArray := prog_1_method_36_code
def yX9_sheet : MethodName := ⟨RX9, "sheet", "(III)I"⟩
abbrev cX9_lose : ByteArray := prog_1_method_37_code
def yX9_lose : MethodName := ⟨RX9, "lose", "(I)I"⟩
abbrev cX9_put : ByteArray := prog_1_method_38_code
def yX9_put : MethodName := ⟨RX9, "put", "(IIII)I"⟩
abbrev cX9_get : ByteArray := prog_1_method_39_code
def yX9_get : MethodName := ⟨RX9, "get", "(III)I"⟩
abbrev cX9_copy : ByteArray := prog_1_method_40_code
def yX9_copy : MethodName := ⟨RX9, "copy", "(IIIII)I"⟩
abbrev cX9_write : ByteArray := prog_1_method_41_code
def yX9_write : MethodName := ⟨RX9, "write", "(I)I"⟩
abbrev cX9_count : ByteArray := prog_1_method_42_code
def yX9_count : MethodName := ⟨RX9, "count", "(I)I"⟩
abbrev cX9_digest : ByteArray := prog_1_method_43_code
def yX9_digest : MethodName := ⟨RX9, "digest", "()J"⟩
abbrev cX9_digestSpans : ByteArray := prog_1_method_44_code
def yX9_digestSpans : MethodName := ⟨RX9, "digestSpans", "(J)J"⟩
abbrev cX9_isThing : ByteArray := prog_1_method_45_code
def yX9_isThing : MethodName := ⟨RX9, "isThing", "(I)Z"⟩
abbrev cX9_areTwoThings : ByteArray := prog_1_method_46_code
def yX9_areTwoThings : MethodName := ⟨RX9, "areTwoThings", "(II)Z"⟩
abbrev cX9_isBook : ByteArray := prog_1_method_47_code
def yX9_isBook : MethodName := ⟨RX9, "isBook", "(I)Z"⟩
abbrev cX9_isRow : ByteArray := prog_1_method_48_code
def yX9_isRow : MethodName := ⟨RX9, "isRow", "(I)Z"⟩
abbrev cX9_isSheet : ByteArray := prog_1_method_49_code
def yX9_isSheet : MethodName := ⟨RX9, "isSheet", "(I)Z"⟩
abbrev cX9_isType : ByteArray := prog_1_method_50_code
def yX9_isType : MethodName := ⟨RX9, "isType", "(I)Z"⟩
abbrev cX9_isEnd : ByteArray := prog_1_method_51_code
def yX9_isEnd : MethodName := ⟨RX9, "isEnd", "(I)Z"⟩
abbrev cX9_isRange : ByteArray := prog_1_method_52_code
def yX9_isRange : MethodName := ⟨RX9, "isRange", "(III)Z"⟩
abbrev cX9_oneIf : ByteArray := prog_1_method_53_code
def yX9_oneIf : MethodName := ⟨RX9, "oneIf", "(Z)I"⟩
abbrev cX9_asLong : ByteArray := prog_1_method_54_code
def yX9_asLong : MethodName := ⟨RX9, "asLong", "(I)J"⟩
abbrev cX9_commonDivisor : ByteArray := prog_1_method_55_code
def yX9_commonDivisor : MethodName := ⟨RX9, "commonDivisor", "(JJ)J"⟩
abbrev cX9_found : ByteArray := prog_1_method_56_code
def yX9_found : MethodName := ⟨RX9, "found", "(I)I"⟩
abbrev cX9_dayOfView : ByteArray := prog_1_method_57_code
def yX9_dayOfView : MethodName := ⟨RX9, "dayOfView", "()I"⟩
abbrev cX9_knownRows : ByteArray := prog_1_method_58_code
def yX9_knownRows : MethodName := ⟨RX9, "knownRows", "()J"⟩
abbrev cX9_tellFromSheet : ByteArray := prog_1_method_59_code
def yX9_tellFromSheet : MethodName := ⟨RX9, "tellFromSheet", "(II)I"⟩
abbrev cX9_isFitting : ByteArray := prog_1_method_60_code
def yX9_isFitting : MethodName := ⟨RX9, "isFitting", "(I)Z"⟩
abbrev cX9_areApartAsTold : ByteArray := prog_1_method_61_code
def yX9_areApartAsTold : MethodName := ⟨RX9, "areApartAsTold", "(I)Z"⟩
abbrev cX9_areClocksPossible : ByteArray := prog_1_method_62_code
def yX9_areClocksPossible : MethodName := ⟨RX9, "areClocksPossible", "(I)Z"⟩
abbrev cX9_roomByDays : ByteArray := prog_1_method_63_code
def yX9_roomByDays : MethodName := ⟨RX9, "roomByDays", "(II)I"⟩
abbrev cX9_lookForDoubts : ByteArray := prog_1_method_64_code
def yX9_lookForDoubts : MethodName := ⟨RX9, "lookForDoubts", "(J)I"⟩
abbrev cX9_layLines : ByteArray := prog_1_method_65_code
def yX9_layLines : MethodName := ⟨RX9, "layLines", "()Z"⟩
def RX10 : String := "WhenItWasModel"
def TX10 : u_T := fun k => match k with
  | 0 => ("WhenItWasModel", "day", "I", false)
  | 1 => ("WhenItWasModel", "things", "I", false)
  | 2 => ("WhenItWasModel", "books", "I", false)
  | 3 => ("WhenItWasModel", "clockLow", "[I", true)
  | 4 => ("WhenItWasModel", "clockHigh", "[I", true)
  | 5 => ("WhenItWasModel", "trustOf", "[I", true)
  | 6 => ("WhenItWasModel", "rows", "I", false)
  | 7 => ("WhenItWasModel", "rowBook", "[I", true)
  | 8 => ("WhenItWasModel", "rowThing", "[I", true)
  | 9 => ("WhenItWasModel", "rowOther", "[I", true)
  | 10 => ("WhenItWasModel", "rowX", "[I", true)
  | 11 => ("WhenItWasModel", "rowY", "[I", true)
  | 12 => ("WhenItWasModel", "rowTold", "[I", true)
  | 13 => ("WhenItWasModel", "rowBack", "[I", true)
  | 14 => ("WhenItWasModel", "knownTo", "I", false)
  | 15 => ("WhenItWasModel", "far", "[I", true)
  | 16 => ("WhenItWasModel", "reach", "[I", true)
  | 17 => ("WhenItWasModel", "steps", "[I", true)
  | 18 => ("WhenItWasModel", "couldBe", "Z", false)
  | 19 => ("WhenItWasModel", "leastWas", "I", false)
  | 20 => ("WhenItWasModel", "greatestWas", "I", false)
  | 21 => ("WhenItWasModel", "offLow", "[I", true)
  | 22 => ("WhenItWasModel", "offHigh", "[I", true)
  | 23 => ("WhenItWasModel", "kinBy", "[I", true)
  | 24 => ("WhenItWasModel", "asked", "[I", true)
  | 25 => ("WhenItWasModel", "askedMany", "I", false)
  | 26 => ("WhenItWasModel", "blames", "[I", true)
  | 27 => ("WhenItWasModel", "doubtBits", "J", false)
  | 28 => ("WhenItWasModel", "aheadOf", "[I", true)
  | 29 => ("WhenItWasModel", "countOf", "[J", true)
  | 30 => ("WhenItWasModel", "typed", "I", false)
  | 31 => ("WhenItWasModel", "text", "[I", true)
  | 32 => ("WhenItWasModel", "at", "I", false)
  | 33 => ("WhenItWasModel", "fault", "I", false)
  | 34 => ("WhenItWasModel", "firstDay", "I", false)
  | 35 => ("WhenItWasModel", "secondDay", "I", false)
  | 36 => ("WhenItWasModel", "isThere", "[Z", true)
  | 37 => ("WhenItWasModel", "types", "[I", true)
  | 38 => ("WhenItWasModel", "sizes", "[I", true)
  | 39 => ("WhenItWasModel", "items", "[I", true)
  | 40 => ("WhenItWasModel", "moved", "[I", true)
  | _ => ("WhenItWasModel", "finding", "I", false)
def tyX10 : Nat → FieldType := fun k => match k with
  | 0 => .int
  | 1 => .int
  | 2 => .int
  | 3 => .array .int
  | 4 => .array .int
  | 5 => .array .int
  | 6 => .int
  | 7 => .array .int
  | 8 => .array .int
  | 9 => .array .int
  | 10 => .array .int
  | 11 => .array .int
  | 12 => .array .int
  | 13 => .array .int
  | 14 => .int
  | 15 => .array .int
  | 16 => .array .int
  | 17 => .array .int
  | 18 => .boolean
  | 19 => .int
  | 20 => .int
  | 21 => .array .int
  | 22 => .array .int
  | 23 => .array .int
  | 24 => .array .int
  | 25 => .int
  | 26 => .array .int
  | 27 => .long
  | 28 => .array .int
  | 29 => .array .long
  | 30 => .int
  | 31 => .array .int
  | 32 => .int
  | 33 => .int
  | 34 => .int
  | 35 => .int
  | 36 => .array .boolean
  | 37 => .array .int
  | 38 => .array .int
  | 39 => .array .int
  | 40 => .array .int
  | _ => .int
abbrev wsX100 : List Cond := u_ws RX10 TX10 42
theorem nmX10 : ∀ a, a < 42 → ∀ b, b < 42 → a ≠ b → (TX10 a).2.1 ≠ (TX10 b).2.1 := by decide +kernel
theorem tyX10_ok : ∀ k, k < 42 → parseFieldDescriptor (TX10 k).2.2.1 = some (tyX10 k) := by decide +kernel
abbrev cX10_init : ByteArray := prog_12_method_1_code
def yX10_init : MethodName := ⟨RX10, "<init>", "()V"⟩
abbrev cX10_in : ByteArray := prog_12_method_3_code
def yX10_in : MethodName := ⟨RX10, "in", "(III)Z"⟩
abbrev cX10_isThing : ByteArray := prog_12_method_4_code
def yX10_isThing : MethodName := ⟨RX10, "isThing", "(I)Z"⟩
abbrev cX10_isBook : ByteArray := prog_12_method_5_code
def yX10_isBook : MethodName := ⟨RX10, "isBook", "(I)Z"⟩
abbrev cX10_isKnownTo : ByteArray := prog_12_method_6_code
def yX10_isKnownTo : MethodName := ⟨RX10, "isKnownTo", "(II)Z"⟩
abbrev cX10_isKnown : ByteArray := prog_12_method_7_code
def yX10_isKnown : MethodName := ⟨RX10, "isKnown", "(I)Z"⟩
abbrev cX10_knownBits : ByteArray := prog_12_method_8_code
def yX10_knownBits : MethodName := ⟨RX10, "knownBits", "(I)J"⟩
abbrev cX10_knownNow : ByteArray := prog_12_method_9_code
def yX10_knownNow : MethodName := ⟨RX10, "knownNow", "()J"⟩
abbrev cX10_pass : ByteArray := prog_12_method_10_code
def yX10_pass : MethodName := ⟨RX10, "pass", "(I)I"⟩
abbrev cX10_thing : ByteArray := prog_12_method_11_code
def yX10_thing : MethodName := ⟨RX10, "thing", "()I"⟩
abbrev cX10_book : ByteArray := prog_12_method_12_code
def yX10_book : MethodName := ⟨RX10, "book", "(II)I"⟩
abbrev cX10_trust : ByteArray := prog_12_method_13_code
def yX10_trust : MethodName := ⟨RX10, "trust", "(II)I"⟩
abbrev cX10_rowMore : ByteArray := prog_12_method_14_code
def yX10_rowMore : MethodName := ⟨RX10, "rowMore", "(IIIII)I"⟩
abbrev cX10_onMore : ByteArray := prog_12_method_15_code
def yX10_onMore : MethodName := ⟨RX10, "onMore", "(IIII)I"⟩
abbrev cX10_apartMore : ByteArray := prog_12_method_16_code
def yX10_apartMore : MethodName := ⟨RX10, "apartMore", "(IIIII)I"⟩
abbrev cX10_on : ByteArray := prog_12_method_17_code
def yX10_on : MethodName := ⟨RX10, "on", "(IIII)I"⟩
abbrev cX10_apart : ByteArray := prog_12_method_18_code
def yX10_apart : MethodName := ⟨RX10, "apart", "(IIIII)I"⟩
abbrev cX10_read : ByteArray := prog_12_method_19_code
def yX10_read : MethodName := ⟨RX10, "read", "(I)I"⟩
abbrev cX10_takeBack : ByteArray := prog_12_method_20_code
def yX10_takeBack : MethodName := ⟨RX10, "takeBack", "(I)I"⟩
abbrev cX10_aboutOf : ByteArray := prog_12_method_21_code
def yX10_aboutOf : MethodName := ⟨RX10, "aboutOf", "(II)I"⟩
abbrev cX10_about : ByteArray := prog_12_method_22_code
def yX10_about : MethodName := ⟨RX10, "about", "(II)I"⟩
abbrev cX10_asOf : ByteArray := prog_12_method_23_code
def yX10_asOf : MethodName := ⟨RX10, "asOf", "(I)I"⟩
abbrev cX10_atMost : ByteArray := prog_12_method_24_code
def yX10_atMost : MethodName := ⟨RX10, "atMost", "(III)V"⟩
abbrev cX10_leansOn : ByteArray := prog_12_method_25_code
def yX10_leansOn : MethodName := ⟨RX10, "leansOn", "(I)I"⟩
abbrev cX10_works : ByteArray := prog_12_method_26_code
def yX10_works : MethodName := ⟨RX10, "works", "(J)Z"⟩
abbrev cX10_can : ByteArray := prog_12_method_27_code
def yX10_can : MethodName := ⟨RX10, "can", "(J)I"⟩
abbrev cX10_canAll : ByteArray := prog_12_method_28_code
def yX10_canAll : MethodName := ⟨RX10, "canAll", "()Z"⟩
abbrev cX10_all : ByteArray := prog_12_method_29_code
def yX10_all : MethodName := ⟨RX10, "all", "()I"⟩
abbrev cX10_endOf : ByteArray := prog_12_method_30_code
def yX10_endOf : MethodName := ⟨RX10, "endOf", "(II)I"⟩
abbrev cX10_span : ByteArray := prog_12_method_31_code
def yX10_span : MethodName := ⟨RX10, "span", "(II)I"⟩
abbrev cX10_clockEnd : ByteArray := prog_12_method_32_code
def yX10_clockEnd : MethodName := ⟨RX10, "clockEnd", "(II)I"⟩
abbrev cX10_clock : ByteArray := prog_12_method_33_code
def yX10_clock : MethodName := ⟨RX10, "clock", "(II)I"⟩
abbrev cX10_areTwo : ByteArray := prog_12_method_34_code
def yX10_areTwo : MethodName := ⟨RX10, "areTwo", "(II)Z"⟩
abbrev cX10_between : ByteArray := prog_12_method_35_code
def yX10_between : MethodName := ⟨RX10, "between", "(III)I"⟩
abbrev cX10_nears : ByteArray := prog_12_method_36_code
def yX10_nears : MethodName := ⟨RX10, "nears", "(III)Z"⟩
abbrev cX10_led : ByteArray := prog_12_method_37_code
def yX10_led : MethodName := ⟨RX10, "led", "(II)I"⟩
abbrev cX10_isOther : ByteArray := prog_12_method_38_code
def yX10_isOther : MethodName := ⟨RX10, "isOther", "(II)Z"⟩
abbrev cX10_changed : ByteArray := prog_12_method_39_code
def yX10_changed : MethodName := ⟨RX10, "changed", "(II)I"⟩
abbrev cX10_isFitting : ByteArray := prog_12_method_40_code
def yX10_isFitting : MethodName := ⟨RX10, "isFitting", "(I)Z"⟩
abbrev cX10_fits : ByteArray := prog_12_method_41_code
def yX10_fits : MethodName := ⟨RX10, "fits", "(I)I"⟩
abbrev cX10_room : ByteArray := prog_12_method_42_code
def yX10_room : MethodName := ⟨RX10, "room", "(II)I"⟩
abbrev cX10_latest : ByteArray := prog_12_method_43_code
def yX10_latest : MethodName := ⟨RX10, "latest", "(II)I"⟩
abbrev cX10_kin : ByteArray := prog_12_method_44_code
def yX10_kin : MethodName := ⟨RX10, "kin", "(III)I"⟩
abbrev cX10_hangs : ByteArray := prog_12_method_45_code
def yX10_hangs : MethodName := ⟨RX10, "hangs", "(I)J"⟩
abbrev cX10_ones : ByteArray := prog_12_method_46_code
def yX10_ones : MethodName := ⟨RX10, "ones", "(I)I"⟩
abbrev cX10_trustOfSet : ByteArray := prog_12_method_47_code
def yX10_trustOfSet : MethodName := ⟨RX10, "trustOfSet", "(I)I"⟩
abbrev cX10_bitsOf : ByteArray := prog_12_method_48_code
def yX10_bitsOf : MethodName := ⟨RX10, "bitsOf", "(I)J"⟩
abbrev cX10_doubtsNow : ByteArray := prog_12_method_49_code
def yX10_doubtsNow : MethodName := ⟨RX10, "doubtsNow", "()I"⟩
abbrev cX10_doubts : ByteArray := prog_12_method_50_code
def yX10_doubts : MethodName := ⟨RX10, "doubts", "()J"⟩
abbrev cX10_blamed : ByteArray := prog_12_method_51_code
def yX10_blamed : MethodName := ⟨RX10, "blamed", "(I)I"⟩
abbrev cX10_sures : ByteArray := prog_12_method_52_code
def yX10_sures : MethodName := ⟨RX10, "sures", "()Z"⟩
abbrev cX10_ordersBut : ByteArray := prog_12_method_53_code
def yX10_ordersBut : MethodName := ⟨RX10, "ordersBut", "(I)J"⟩
abbrev cX10_ordersWith : ByteArray := prog_12_method_54_code
def yX10_ordersWith : MethodName := ⟨RX10, "ordersWith", "(II)J"⟩
abbrev cX10_ahead : ByteArray := prog_12_method_55_code
def yX10_ahead : MethodName := ⟨RX10, "ahead", "(II)I"⟩
abbrev cX10_ordersNow : ByteArray := prog_12_method_56_code
def yX10_ordersNow : MethodName := ⟨RX10, "ordersNow", "()J"⟩
abbrev cX10_orders : ByteArray := prog_12_method_57_code
def yX10_orders : MethodName := ⟨RX10, "orders", "()J"⟩
abbrev cX10_divisor : ByteArray := prog_12_method_58_code
def yX10_divisor : MethodName := ⟨RX10, "divisor", "(JJ)J"⟩
abbrev cX10_share : ByteArray := prog_12_method_59_code
def yX10_share : MethodName := ⟨RX10, "share", "(III)J"⟩
abbrev cX10_first : ByteArray := prog_12_method_60_code
def yX10_first : MethodName := ⟨RX10, "first", "(I)J"⟩
abbrev cX10_question : ByteArray := prog_12_method_61_code
def yX10_question : MethodName := ⟨RX10, "question", "()I"⟩
abbrev cX10_isLeap : ByteArray := prog_12_method_62_code
def yX10_isLeap : MethodName := ⟨RX10, "isLeap", "(II)Z"⟩
abbrev cX10_daysOf : ByteArray := prog_12_method_63_code
def yX10_daysOf : MethodName := ⟨RX10, "daysOf", "(III)I"⟩
abbrev cX10_daysTo : ByteArray := prog_12_method_64_code
def yX10_daysTo : MethodName := ⟨RX10, "daysTo", "(IIII)I"⟩
abbrev cX10_dayNumber : ByteArray := prog_12_method_65_code
def yX10_dayNumber : MethodName := ⟨RX10, "dayNumber", "(IIII)I"⟩
abbrev cX10_dayOf : ByteArray := prog_12_method_66_code
def yX10_dayOf : MethodName := ⟨RX10, "dayOf", "(IIII)I"⟩
abbrev cX10_dateOf : ByteArray := prog_12_method_67_code
def yX10_dateOf : MethodName := ⟨RX10, "dateOf", "(III)I"⟩
abbrev cX10_type : ByteArray := prog_12_method_68_code
def yX10_type : MethodName := ⟨RX10, "type", "(I)I"⟩
abbrev cX10_wipe : ByteArray := prog_12_method_69_code
def yX10_wipe : MethodName := ⟨RX10, "wipe", "()I"⟩
abbrev cX10_byteAt : ByteArray := prog_12_method_70_code
def yX10_byteAt : MethodName := ⟨RX10, "byteAt", "(I)I"⟩
abbrev cX10_figures : ByteArray := prog_12_method_71_code
def yX10_figures : MethodName := ⟨RX10, "figures", "(II)I"⟩
abbrev cX10_dot : ByteArray := prog_12_method_72_code
def yX10_dot : MethodName := ⟨RX10, "dot", "()V"⟩
abbrev cX10_date : ByteArray := prog_12_method_73_code
def yX10_date : MethodName := ⟨RX10, "date", "()I"⟩
abbrev cX10_faultNow : ByteArray := prog_12_method_74_code
def yX10_faultNow : MethodName := ⟨RX10, "faultNow", "()I"⟩
abbrev cX10_fault : ByteArray := prog_12_method_75_code
def yX10_fault : MethodName := ⟨RX10, "fault", "()I"⟩
abbrev cX10_said : ByteArray := prog_12_method_76_code
def yX10_said : MethodName := ⟨RX10, "said", "(II)I"⟩
abbrev cX10_meets : ByteArray := prog_12_method_77_code
def yX10_meets : MethodName := ⟨RX10, "meets", "(I)I"⟩
abbrev cX10_isSheet : ByteArray := prog_12_method_78_code
def yX10_isSheet : MethodName := ⟨RX10, "isSheet", "(I)Z"⟩
abbrev cX10_sheet : ByteArray := prog_12_method_79_code
def yX10_sheet : MethodName := ⟨RX10, "sheet", "(III)I"⟩
abbrev cX10_lose : ByteArray := prog_12_method_80_code
def yX10_lose : MethodName := ⟨RX10, "lose", "(I)I"⟩
abbrev cX10_lacks : ByteArray := prog_12_method_81_code
def yX10_lacks : MethodName := ⟨RX10, "lacks", "(III)I"⟩
abbrev cX10_lay : ByteArray := prog_12_method_82_code
def yX10_lay : MethodName := ⟨RX10, "lay", "(III)V"⟩
abbrev cX10_put : ByteArray := prog_12_method_83_code
def yX10_put : MethodName := ⟨RX10, "put", "(IIII)I"⟩
abbrev cX10_get : ByteArray := prog_12_method_84_code
def yX10_get : MethodName := ⟨RX10, "get", "(III)I"⟩
abbrev cX10_copy : ByteArray := prog_12_method_85_code
def yX10_copy : MethodName := ⟨RX10, "copy", "(IIIII)I"⟩
abbrev cX10_write : ByteArray := prog_12_method_86_code
def yX10_write : MethodName := ⟨RX10, "write", "(I)I"⟩
abbrev cX10_count : ByteArray := prog_12_method_87_code
def yX10_count : MethodName := ⟨RX10, "count", "(I)I"⟩
abbrev cX10_digest : ByteArray := prog_12_method_88_code
def yX10_digest : MethodName := ⟨RX10, "digest", "()J"⟩
def RJ6 : String := "java/lang/Integer"
def TJ6 : u_T := fun k => match k with
  | _ => ("", "", "", false)
def tyJ6 : Nat → FieldType := fun k => match k with
  | _ => .int
abbrev wsJ60 : List Cond := u_ws RJ6 TJ6 0
theorem nmJ6 : ∀ a, a < 0 → ∀ b, b < 0 → a ≠ b → (TJ6 a).2.1 ≠ (TJ6 b).2.1 := by decide +kernel
theorem tyJ6_ok : ∀ k, k < 0 → parseFieldDescriptor (TJ6 k).2.2.1 = some (tyJ6 k) := by decide +kernel
abbrev cJ6_bitCount_0f7a4 : ByteArray := prog_13_method_49_code
def yJ6_bitCount_0f7a4 : MethodName := ⟨RJ6, "bitCount", "(I)I"⟩
def RJ13 : String := "java/lang/Long"
def TJ13 : u_T := fun k => match k with
  | _ => ("", "", "", false)
def tyJ13 : Nat → FieldType := fun k => match k with
  | _ => .int
abbrev wsJ130 : List Cond := u_ws RJ13 TJ13 0
theorem nmJ13 : ∀ a, a < 0 → ∀ b, b < 0 → a ≠ b → (TJ13 a).2.1 ≠ (TJ13 b).2.1 := by decide +kernel
theorem tyJ13_ok : ∀ k, k < 0 → parseFieldDescriptor (TJ13 k).2.2.1 = some (tyJ13 k) := by decide +kernel
abbrev cJ13_bitCount_95d88 : ByteArray := prog_14_method_50_code
def yJ13_bitCount_95d88 : MethodName := ⟨RJ13, "bitCount", "(J)I"⟩
def RJ9 : String := "java/lang/Math"
def TJ9 : u_T := fun k => match k with
  | _ => ("", "", "", false)
def tyJ9 : Nat → FieldType := fun k => match k with
  | _ => .int
abbrev wsJ90 : List Cond := u_ws RJ9 TJ9 0
theorem nmJ9 : ∀ a, a < 0 → ∀ b, b < 0 → a ≠ b → (TJ9 a).2.1 ≠ (TJ9 b).2.1 := by decide +kernel
theorem tyJ9_ok : ∀ k, k < 0 → parseFieldDescriptor (TJ9 k).2.2.1 = some (tyJ9 k) := by decide +kernel
abbrev cJ9_max_7cf53 : ByteArray := prog_15_method_65_code
def yJ9_max_7cf53 : MethodName := ⟨RJ9, "max", "(II)I"⟩
abbrev cJ9_min_7cf53 : ByteArray := prog_15_method_69_code
def yJ9_min_7cf53 : MethodName := ⟨RJ9, "min", "(II)I"⟩
def RJ10 : String := "java/lang/System"
def TJ10 : u_T := fun k => match k with
  | _ => ("", "", "", false)
def tyJ10 : Nat → FieldType := fun k => match k with
  | _ => .int
abbrev wsJ100 : List Cond := u_ws RJ10 TJ10 0
theorem nmJ10 : ∀ a, a < 0 → ∀ b, b < 0 → a ≠ b → (TJ10 a).2.1 ≠ (TJ10 b).2.1 := by decide +kernel
theorem tyJ10_ok : ∀ k, k < 0 → parseFieldDescriptor (TJ10 k).2.2.1 = some (tyJ10 k) := by decide +kernel
def RJ7 : String := "java/util/Arrays"
def TJ7 : u_T := fun k => match k with
  | _ => ("", "", "", false)
def tyJ7 : Nat → FieldType := fun k => match k with
  | _ => .int
abbrev wsJ70 : List Cond := u_ws RJ7 TJ7 0
theorem nmJ7 : ∀ a, a < 0 → ∀ b, b < 0 → a ≠ b → (TJ7 a).2.1 ≠ (TJ7 b).2.1 := by decide +kernel
theorem tyJ7_ok : ∀ k, k < 0 → parseFieldDescriptor (TJ7 k).2.2.1 = some (tyJ7 k) := by decide +kernel
abbrev cJ7_fill_53178 : ByteArray := prog_17_method_103_code
def yJ7_fill_53178 : MethodName := ⟨RJ7, "fill", "([II)V"⟩
def RL : String := "WhenItWasLaw"
abbrev cL_law : ByteArray := code
def yL_law : MethodName := ⟨RL, "law", "([I)Z"⟩
theorem inX0 : ∀ w ∈ wsX00, w ∈ lw_tbl := by decide +kernel
theorem inX2 : ∀ w ∈ wsX20, w ∈ lw_tbl := by decide +kernel
theorem inX3 : ∀ w ∈ wsX30, w ∈ lw_tbl := by decide +kernel
theorem inX4 : ∀ w ∈ wsX40, w ∈ lw_tbl := by decide +kernel
theorem inX5 : ∀ w ∈ wsX50, w ∈ lw_tbl := by decide +kernel
theorem inX6 : ∀ w ∈ wsX60, w ∈ lw_tbl := by decide +kernel
theorem inX7 : ∀ w ∈ wsX70, w ∈ lw_tbl := by decide +kernel
theorem inX8 : ∀ w ∈ wsX80, w ∈ lw_tbl := by decide +kernel
theorem inX9 : ∀ w ∈ wsX90, w ∈ lw_tbl := by decide +kernel
theorem inX10 : ∀ w ∈ wsX100, w ∈ lw_tbl := by decide +kernel
/-- the classes whose objects the worlds hold -/
abbrev cx_cls : List vw_C := [(RX0, TX0, 4), (RX2, TX2, 7), (RX3, TX3, 5), (RX4, TX4, 4), (RX5, TX5, 5), (RX6, TX6, 13), (RX7, TX7, 8), (RX8, TX8, 3), (RX9, TX9, 12), (RX10, TX10, 42)]
end
section
/-! THE LAYER: a side's cells as one value (ints and longs by cell and place), and a judgement over it -/
def ax_tb : List Cond := lw_tbl.filter goodWord
abbrev ax_S : Type := (Nat → Nat → Int32) × (Nat → Nat → Int64)
abbrev ax_L : Type := List (Nat × Nat × List Nat)
abbrev ax_St : Type := List (String × String × Nat × Nat × (Nat → Int32))
abbrev ax_Sd : Type := ax_L × ax_St
abbrev ax_G : Type := va_G × (Nat → Nat) × ClassId × ClassId × ClassId
abbrev ax_Mu : Type := MethodName × ByteArray × Nat × Option FieldType × Nat × Nat
abbrev ax_K : Type := Program × Launch × Env × Room × State × MethodId × Array Value × List Frame × Method × Code
abbrev ax_V : Type := ax_Sd × ax_G × ax_K × Option Value × ax_S
def ax_ad (V : ax_V) (k : Nat) : Nat := V.2.1.2.1 k
def ax_fv (ad : Nat → Nat) (s : ax_S) (k j t : Nat) : Value := match t with
  | 0 => .int (s.1 k j)
  | 1 => .long (s.2 k j)
  | t + 2 => .ref (ad t)
def ax_mi {α β : Type} (f : Nat → α → β) : Nat → List α → List β
  | _, [] => []
  | k, x :: xs => f k x :: ax_mi f (k + 1) xs
theorem ax_mi_get {α β : Type} (f : Nat → α → β) (l : List α) : ∀ (k i : Nat), (ax_mi f k l)[i]? = (l[i]?).map (f (k + i)) := by
  induction l with
  | nil => intro k i; simp [ax_mi]
  | cons x xs ih =>
    intro k i
    match i with
    | 0 => simp [ax_mi]
    | i + 1 =>
      simp only [ax_mi, List.getElem?_cons_succ, ih (k + 1) i]
      rw [show k + 1 + i = k + (i + 1) by omega]
theorem ax_mi_len {α β : Type} (f : Nat → α → β) (l : List α) : ∀ k : Nat, (ax_mi f k l).length = l.length := by
  induction l with
  | nil => intro k; rfl
  | cons x xs ih => intro k; simp [ax_mi, ih (k + 1)]
def ax_fs (ad : Nat → Nat) (s : ax_S) (k : Nat) (fds : List Nat) : List Value := ax_mi (fun j t => ax_fv ad s k j t) 0 fds
def ax_e (G : ax_G) (s : ax_S) (k : Nat) (d : Nat × Nat × List Nat) : va_E := match d.1 with
  | 0 => .inr (d.2.1, ax_fs G.2.1 s k d.2.2)
  | 1 => .inl (G.2.2.1, d.2.1, .inl (s.1 k))
  | 2 => .inl (G.2.2.2.1, d.2.1, .inr (.inl (s.2 k)))
  | _ => .inl (G.2.2.2.2, d.2.1, .inl (s.1 k))
def ax_ws (L : ax_L) (G : ax_G) (s : ax_S) : va_W := ax_mi (fun k d => (G.2.1 k, ax_e G s k d)) 0 L
def ax_tys (G : ax_G) : List (ClassId × FieldType) := [(G.2.2.1, .int), (G.2.2.2.1, .long), (G.2.2.2.2, .boolean)]
def ax_A (L : ax_L) (G : ax_G) : Nat → Prop := fun q => ∃ k, k < L.length ∧ q = G.2.1 k
def ax_inj (L : ax_L) (G : ax_G) : Prop := ∀ i j, i < L.length → j < L.length → G.2.1 i = G.2.1 j → i = j
def ax_stat (St : ax_St) (A : Nat → Prop) (G : ax_G) (U : State) (H : Heap) : Prop := ∀ q ∈ St, va_Z q.1 q.2.1 "[I" (.ref (G.2.1 q.2.2.1)) A U H ∧ va_T .int (G.2.1 q.2.2.1) q.2.2.2.1 (fun j => .int (q.2.2.2.2 j)) A U H
def ax_ui (s : ax_S) (k j : Nat) (v : Int32) : ax_S := (fun a b => if a = k ∧ b = j then v else s.1 a b, s.2)
def ax_ul (s : ax_S) (k j : Nat) (v : Int64) : ax_S := (s.1, fun a b => if a = k ∧ b = j then v else s.2 a b)
def ax_wi (s : ax_S) (k : Nat) (f : Nat → Int32) : ax_S := (fun a => if a = k then f else s.1 a, s.2)
theorem ax_ws_get {L : ax_L} {G : ax_G} {s : ax_S} {k : Nat} {d : Nat × Nat × List Nat} (h : L[k]? = some d) : (ax_ws L G s)[k]? = some (G.2.1 k, ax_e G s k d) := by
  simp [ax_ws, ax_mi_get, h]
theorem ax_ws_of {L : ax_L} {G : ax_G} {s : ax_S} {k : Nat} {q : Nat × va_E} (h : (ax_ws L G s)[k]? = some q) : ∃ d, L[k]? = some d ∧ q = (G.2.1 k, ax_e G s k d) := by
  simp only [ax_ws, ax_mi_get, Nat.zero_add, Option.map_eq_some_iff] at h
  obtain ⟨d, hd, he⟩ := h
  exact ⟨d, hd, he.symm⟩
theorem ax_D_of {L : ax_L} {G : ax_G} (hi : ax_inj L G) (s : ax_S) : va_D (ax_A L G) (ax_ws L G s) := by
  refine ⟨fun i j p q hp hq he => ?_, fun k q hq => ?_⟩
  · obtain ⟨d, hd, rfl⟩ := ax_ws_of hp
    obtain ⟨d', hd', rfl⟩ := ax_ws_of hq
    exact hi i j (List.getElem?_eq_some_iff.mp hd).1 (List.getElem?_eq_some_iff.mp hd').1 he
  · obtain ⟨d, hd, rfl⟩ := ax_ws_of hq
    exact ⟨k, (List.getElem?_eq_some_iff.mp hd).1, rfl⟩
theorem ax_ws_set {L : ax_L} {G : ax_G} {s s' : ax_S} {k : Nat} {d : Nat × Nat × List Nat} {x : va_E} (h : L[k]? = some d) (hx : x = ax_e G s' k d) (hd : ∀ j d', j ≠ k → ax_e G s' j d' = ax_e G s j d') : (ax_ws L G s).set k (G.2.1 k, x) = ax_ws L G s' := by
  subst hx
  apply List.ext_getElem?
  intro i
  by_cases hi : k = i
  · subst hi
    rw [ax_ws_get h, List.getElem?_set_self (by simpa [ax_ws, ax_mi_len] using (List.getElem?_eq_some_iff.mp h).1)]
  · rw [List.getElem?_set_ne hi]
    simp only [ax_ws, ax_mi_get, Nat.zero_add]
    cases hl : L[i]? with
    | none => rfl
    | some d' => simp only [Option.map_some, hd i d' (fun q => hi q.symm)]
theorem ax_ui_ne {s : ax_S} {k j : Nat} {v : Int32} {a : Nat} (h : a ≠ k) : (ax_ui s k j v).1 a = s.1 a := by
  funext b
  simp [ax_ui, h]
theorem ax_ul_ne {s : ax_S} {k j : Nat} {v : Int64} {a : Nat} (h : a ≠ k) : (ax_ul s k j v).2 a = s.2 a := by
  funext b
  simp [ax_ul, h]
theorem ax_wi_ne {s : ax_S} {k : Nat} {f : Nat → Int32} {a : Nat} (h : a ≠ k) : (ax_wi s k f).1 a = s.1 a := by
  simp [ax_wi, h]
theorem ax_fs_congr {ad : Nat → Nat} {s s' : ax_S} {k : Nat} (h1 : s'.1 k = s.1 k) (h2 : s'.2 k = s.2 k) (fds : List Nat) : ax_fs ad s' k fds = ax_fs ad s k fds := by
  have : (fun j t => ax_fv ad s' k j t) = (fun j t => ax_fv ad s k j t) := by
    funext j t
    match t with
    | 0 => simp only [ax_fv, h1]
    | 1 => simp only [ax_fv, h2]
    | t + 2 => rfl
  simp only [ax_fs, this]
theorem ax_e_congr {G : ax_G} {s s' : ax_S} {k : Nat} (h1 : s'.1 k = s.1 k) (h2 : s'.2 k = s.2 k) (d : Nat × Nat × List Nat) : ax_e G s' k d = ax_e G s k d := by
  obtain ⟨a, n, fds⟩ := d
  match a with
  | 0 => simp only [ax_e, ax_fs_congr h1 h2]
  | 1 => simp only [ax_e, h1]
  | 2 => simp only [ax_e, h2]
  | a + 3 => simp only [ax_e, h1]
/-- locals by their places: a place that is 'none' says nothing -/
def ax_lv (ls : Array Slot) (nL : Nat) (lv : List (Option Value)) : Prop := ls.size = nL ∧ lv_wf ls ∧ ∀ (i : Nat) (v : Value), lv[i]? = some (some v) → ls[i]? = some (.val v)
def ax_as (lv : List (Option Value)) : List (Nat × Value) := lv.zipIdx.filterMap (fun q => q.1.map (fun v => (q.2, v)))
theorem ax_as_mem {lv : List (Option Value)} {q : Nat × Value} : q ∈ ax_as lv ↔ lv[q.1]? = some (some q.2) := by
  simp only [ax_as, List.mem_filterMap, Option.map_eq_some_iff]
  constructor
  · rintro ⟨⟨o, i⟩, hm, v, rfl, rfl⟩
    exact List.mem_zipIdx_iff_getElem?.mp hm
  · intro h
    exact ⟨(some q.2, q.1), List.mem_zipIdx_iff_getElem?.mpr h, q.2, rfl, rfl⟩
theorem ax_lv_has {ls : Array Slot} {nL : Nat} {lv : List (Option Value)} (h : ax_lv ls nL lv) : lv_has ls nL (ax_as lv) := ⟨h.1, h.2.1, fun q hq => h.2.2 q.1 q.2 (ax_as_mem.mp hq)⟩
/-- a store at i leaves the value ahead of it whole -/
def ax_ok1 (lv : List (Option Value)) (i : Nat) : Bool := match i with
  | 0 => true
  | j + 1 => match lv[j]? with
    | some (some v) => v.category == 1
    | _ => true
theorem ax_lv_st1 {ls : Array Slot} {nL : Nat} {lv : List (Option Value)} {i : Nat} {v : Value} (ho : ax_ok1 lv i = true) (h : lv_has ls nL ((i, v) :: (ax_as lv).filter (fun q => !(q.1 == i) && !(q.1 + 1 == i && q.2.category == 2)))) : ax_lv ls nL (lv.set i (some v)) := by
  refine ⟨h.1, h.2.1, fun j w hj => ?_⟩
  by_cases hi : i = j
  · subst hi
    have hlt : i < lv.length := by
      have := (List.getElem?_eq_some_iff.mp hj).1
      simpa using this
    rw [List.getElem?_set_self hlt] at hj
    cases hj
    exact h.2.2 (i, v) List.mem_cons_self
  · rw [List.getElem?_set_ne hi] at hj
    refine h.2.2 (j, w) (List.mem_cons_of_mem _ (List.mem_filter.mpr ⟨ax_as_mem.mpr hj, ?_⟩))
    have h1 : (j == i) = false := by simpa using fun q => hi q.symm
    simp only [h1, Bool.not_false, Bool.true_and]
    by_cases h2 : j + 1 = i
    · subst h2
      simp only [ax_ok1, hj] at ho
      simp only [beq_self_eq_true, Bool.true_and]
      have : w.category = 1 := by simpa using ho
      simp [this]
    · have : (j + 1 == i) = false := by simpa using h2
      simp [this]
theorem ax_lv_st2 {ls : Array Slot} {nL : Nat} {lv : List (Option Value)} {i : Nat} {v : Value} (ho : ax_ok1 lv i = true) (h : lv_has ls nL ((i, v) :: (ax_as lv).filter (fun q => !(q.1 == i) && (!(q.1 == i + 1) && !(q.1 + 1 == i && q.2.category == 2))))) : ax_lv ls nL ((lv.set i (some v)).set (i + 1) none) := by
  refine ⟨h.1, h.2.1, fun j w hj => ?_⟩
  by_cases hi1 : i + 1 = j
  · subst hi1
    have hlt : i + 1 < (lv.set i (some v)).length := by
      have := (List.getElem?_eq_some_iff.mp hj).1
      simpa using this
    rw [List.getElem?_set_self hlt] at hj
    cases hj
  rw [List.getElem?_set_ne hi1] at hj
  by_cases hi : i = j
  · subst hi
    have hlt : i < lv.length := by
      have := (List.getElem?_eq_some_iff.mp hj).1
      simpa using this
    rw [List.getElem?_set_self hlt] at hj
    cases hj
    exact h.2.2 (i, v) List.mem_cons_self
  · rw [List.getElem?_set_ne hi] at hj
    refine h.2.2 (j, w) (List.mem_cons_of_mem _ (List.mem_filter.mpr ⟨ax_as_mem.mpr hj, ?_⟩))
    have h1 : (j == i) = false := by simpa using fun q => hi q.symm
    have h1' : (j == i + 1) = false := by simpa using fun q => hi1 q.symm
    simp only [h1, h1', Bool.not_false, Bool.true_and]
    by_cases h2 : j + 1 = i
    · subst h2
      simp only [ax_ok1, hj] at ho
      simp only [beq_self_eq_true, Bool.true_and]
      have : w.category = 1 := by simpa using ho
      simp [this]
    · have : (j + 1 == i) = false := by simpa using h2
      simp [this]
/-- the places that are kept -/
def ax_mk (ks : List Bool) (lv : List (Option Value)) : List (Option Value) := List.zipWith (fun k o => if k then o else none) ks lv
theorem ax_lv_mk {ls : Array Slot} {nL : Nat} {lv : List (Option Value)} (ks : List Bool) (h : ax_lv ls nL lv) : ax_lv ls nL (ax_mk ks lv) := by
  refine ⟨h.1, h.2.1, fun i v hi => h.2.2 i v ?_⟩
  simp only [ax_mk, List.getElem?_zipWith] at hi
  cases hk : ks[i]? with
  | none => simp [hk] at hi
  | some k =>
    cases hl : lv[i]? with
    | none => simp [hk, hl] at hi
    | some o =>
      simp only [hk, hl, Option.some.injEq] at hi
      cases k
      · simp at hi
      · simpa using hi
def ax_rm (μ : ax_Mu) : Room := { frames := μ.2.2.2.2.1, cells := 0, slots := 0, locals := μ.2.2.2.2.2 }
def ax_w (μ : ax_Mu) : List Cond := Cond.code μ.1 μ.2.1 μ.2.2.1 μ.2.2.2.1 :: ax_tb
def ax_U (Sd : ax_Sd) (G : ax_G) (U : State) : Prop := va_K G.1 cx_cls (ax_tys G) U ∧ ax_stat Sd.2 (ax_A Sd.1 G) G U U.heap
def ax_Q (Sd : ax_Sd) (G : ax_G) (rv : Option Value) (sf : ax_S) : Array Value → State → Outcome → State → Prop := match rv with
  | some (.int r) => va_Qi (fun x (_ : Unit) => x = r) (fun _ t => va_P G.1 cx_cls (ax_ws Sd.1 G sf) t.heap) (ax_A Sd.1 G)
  | some (.long r) => va_Ql (fun x (_ : Unit) => x = r) (fun _ t => va_P G.1 cx_cls (ax_ws Sd.1 G sf) t.heap) (ax_A Sd.1 G)
  | _ => va_Qv (fun (_ : Unit) => True) (fun _ t => va_P G.1 cx_cls (ax_ws Sd.1 G sf) t.heap) (ax_A Sd.1 G)
/-- a method's contract: from the cells s, with these arguments, it answers rv and leaves the cells sf -/
def ax_M (Sd : ax_Sd) (μ : ax_Mu) (av : (Nat → Nat) → List Value) (s : ax_S) (rv : Option Value) (sf : ax_S) : Prop :=
  ∀ (l : Launch) (G : ax_G), ax_inj Sd.1 G → Met l μ.1 (ax_w μ) (ax_rm μ) (va_Pc (av G.2.1) (fun U => va_P G.1 cx_cls (ax_ws Sd.1 G s) U.heap ∧ ax_U Sd G U)) (ax_Q Sd G rv sf) 0 0 (ax_A Sd.1 G)
def ax_ok (V : ax_V) (μ : ax_Mu) : Prop := match V with
  | (Sd, G, (p, _, _, R, s, m, args, _, meth, c), _, _) => p.tables.exec = Jvm.exec ∧ c.code = μ.2.1 ∧ c.maxLocals = μ.2.2.1 ∧ s.vm.findClass μ.1.cls = some m.cls ∧ (∀ w ∈ ax_tb, w.before args s = true) ∧ va_K G.1 cx_cls (ax_tys G) s ∧ ax_inj Sd.1 G ∧ ax_stat Sd.2 (ax_A Sd.1 G) G s s.heap ∧ meth.sig.returnType = μ.2.2.2.1 ∧ meth.locks = false ∧ R = ax_rm μ
def ax_At (V : ax_V) (pc : Nat) (lv : List (Option Value)) (st : List Value) (x : ax_S) : Prop := match V with
  | (Sd, G, (p, l, e, R, s, m, args, below, meth, c), rv, sf) => ∀ (H : Heap) (locs : List Loc) (ls : Array Slot), va_P G.1 cx_cls (ax_ws Sd.1 G x) H → va_S (ax_A Sd.1 G) s.heap H locs → ax_lv ls c.maxLocals lv →
      W p l e R s m args below meth c H locs 0 0 (MQ below (ax_Q Sd G rv sf) args s 0 0 (ax_A Sd.1 G)) (F0 m pc ls st)
/-- if the answer o is there, and P holds of it, the machine comes from here to its end -/
def ax_J (V : ax_V) {ρ : Type} (P : ρ → Prop) (pc : Nat) (lv : List (Option Value)) (st : List Value) (x : ax_S) (o : Option ρ) : Prop := ∀ r, o = some r → P r → ax_At V pc lv st x
def ax_D (b : ByteArray) (pc : Nat) (i : Instr) (n nx : Nat) : Prop := decode b pc = .ok (i, n) ∧ pc + n = nx
def ax_B (b : ByteArray) (pc : Nat) (i : Int → Instr) (nx tgt : Nat) : Prop := ∃ off : Int, decode b pc = .ok (i off, 3) ∧ pc + 3 = nx ∧ (pc : Int) + off = (tgt : Int)
end
section
theorem ax_j {V : ax_V} {ρ : Type} {P : ρ → Prop} {pc pc2 : Nat} {lv lv2 : List (Option Value)} {st st2 : List Value} {x x2 : ax_S} {o : Option ρ} (h : ax_At V pc2 lv2 st2 x2 → ax_At V pc lv st x) (k : ax_J V P pc2 lv2 st2 x2 o) : ax_J V P pc lv st x o := fun r hr hp => h (k r hr hp)
theorem ax_jl {V : ax_V} {ρ : Type} {P : ρ → Prop} {pc : Nat} {lv : List (Option Value)} {st : List Value} {x : ax_S} {r : ρ} (h : P r → ax_At V pc lv st x) : ax_J V P pc lv st x (some r) := fun r' hr hp => by
  cases hr
  exact h hp
theorem ax_jn {V : ax_V} {ρ : Type} {P : ρ → Prop} {pc : Nat} {lv : List (Option Value)} {st : List Value} {x : ax_S} : ax_J V P pc lv st x none := fun r' hr hp => by cases hr
theorem ax_jif {V : ax_V} {ρ : Type} {P : ρ → Prop} {pc pc2 pc3 : Nat} {lv lv2 lv3 : List (Option Value)} {st st2 st3 : List Value} {x x2 x3 : ax_S} {o o2 : Option ρ} {c : Prop} [Decidable c] (h : (c → ax_At V pc2 lv2 st2 x2) → (¬ c → ax_At V pc3 lv3 st3 x3) → ax_At V pc lv st x) (k : ax_J V P pc2 lv2 st2 x2 o) (k2 : ax_J V P pc3 lv3 st3 x3 o2) : ax_J V P pc lv st x (if c then o else o2) := fun r hr hp => by
  by_cases hc : c
  · rw [if_pos hc] at hr
    exact h (fun _ => k r hr hp) (fun q => absurd hc q)
  · rw [if_neg hc] at hr
    exact h (fun q => absurd q hc) (fun _ => k2 r hr hp)
theorem ax_jc {V : ax_V} {ρ : Type} {P : ρ → Prop} {pc : Nat} {lv : List (Option Value)} {st : List Value} {x : ax_S} {o o2 : Option ρ} {c : Prop} [Decidable c] (k : c → ax_J V P pc lv st x o) (k2 : ¬ c → ax_J V P pc lv st x o2) : ax_J V P pc lv st x (if c then o else o2) := by
  by_cases hc : c
  · rw [if_pos hc]
    exact k hc
  · rw [if_neg hc]
    exact k2 hc
theorem ax_jb {V : ax_V} {ρ τ : Type} {P : ρ → Prop} {pc : Nat} {pc2 : τ → Nat} {lv : List (Option Value)} {lv2 : τ → List (Option Value)} {st : List Value} {st2 : τ → List Value} {x : ax_S} {x2 : τ → ax_S} {o : Option τ} {K : τ → Option ρ} (h : ∀ v, o = some v → ax_At V (pc2 v) (lv2 v) (st2 v) (x2 v) → ax_At V pc lv st x) (k : ∀ v, ax_J V P (pc2 v) (lv2 v) (st2 v) (x2 v) (K v)) : ax_J V P pc lv st x (o.bind K) := fun r hr hp => by
  cases ho : o with
  | none => rw [ho] at hr; cases hr
  | some v =>
    rw [ho] at hr
    exact h v ho (k v r hr hp)
theorem ax_jf {V : ax_V} {ρ : Type} {P : ρ → Prop} {pc : Nat} {lv : List (Option Value)} {st : List Value} {x : ax_S} {o : Option ρ} (ks : List Bool) {lv' : List (Option Value)} (hm : ax_mk ks lv = lv') (k : ax_J V P pc lv' st x o) : ax_J V P pc lv st x o := fun r hr hp => by
  have k' := k r hr hp
  obtain ⟨Sd, G, ⟨p, l, e, R, s, m, args, below, meth, c⟩, rv, sf⟩ := V
  subst hm
  intro H locs ls hP hS hl
  exact k' H locs ls hP hS (ax_lv_mk ks hl)
theorem ax_af {V : ax_V} {pc : Nat} {lv : List (Option Value)} {st : List Value} {x : ax_S} (ks : List Bool) {lv' : List (Option Value)} (hm : ax_mk ks lv = lv') (k : ax_At V pc lv' st x) : ax_At V pc lv st x := by
  obtain ⟨Sd, G, ⟨p, l, e, R, s, m, args, below, meth, c⟩, rv, sf⟩ := V
  subst hm
  intro H locs ls hP hS hl
  exact k H locs ls hP hS (ax_lv_mk ks hl)
/-- a loop's answer: the body again and again until it goes out -/
def ax_itn {α ε : Type} (f : α → Option (α ⊕ ε)) : Nat → α → Option ε
  | 0, _ => none
  | n + 1, a => (f a).bind (fun q => match q with
    | .inl a' => ax_itn f n a'
    | .inr e => some e)
noncomputable def ax_lp {α ε : Type} (f : α → Option (α ⊕ ε)) (a : α) : Option ε := by
  classical exact if h : ∃ e, ∃ n, ax_itn f n a = some e then some h.choose else none
theorem ax_lp_some {α ε : Type} {f : α → Option (α ⊕ ε)} {a : α} {e : ε} (h : ax_lp f a = some e) : ∃ n, ax_itn f n a = some e := by
  unfold ax_lp at h
  split at h
  · rename_i q
    cases h
    exact q.choose_spec
  · cases h
theorem ax_lp_end {V : ax_V} {α ε : Type} {P' : α ⊕ ε → Prop} {pc : Nat} {lv : α → List (Option Value)} {x : α → ax_S} {f : α → Option (α ⊕ ε)} {a : α} {e : ε} (hI : ∀ a, ax_At V pc (lv a) [] (x a) → P' (.inl a)) (hO : P' (.inr e))
    (hb : ∀ a, ax_J V P' pc (lv a) [] (x a) (f a)) (h : ax_lp f a = some e) : ax_At V pc (lv a) [] (x a) := by
  obtain ⟨n, hn⟩ := ax_lp_some h
  clear h
  induction n generalizing a with
  | zero => cases hn
  | succ n ih =>
    simp only [ax_itn] at hn
    cases hf : f a with
    | none => rw [hf] at hn; cases hn
    | some q =>
      rw [hf] at hn
      match q, hf, hn with
      | .inl a', hf, hn => exact hb a _ hf (hI _ (ih hn))
      | .inr e', hf, hn =>
        cases hn
        exact hb a _ hf hO
theorem ax_jlp {V : ax_V} {ρ α ε : Type} {P : ρ → Prop} {pc pcx : Nat} (a : α) (lv : α → List (Option Value)) (x : α → ax_S) (lvx : ε → List (Option Value)) (xx : ε → ax_S) {f : α → Option (α ⊕ ε)} {K : ε → Option ρ}
    (hb : ∀ P' : α ⊕ ε → Prop, (∀ a, P' (.inl a) → ax_At V pc (lv a) [] (x a)) → (∀ e, P' (.inr e) → ax_At V pcx (lvx e) [] (xx e)) → ∀ a, ax_J V P' pc (lv a) [] (x a) (f a))
    (k : ∀ e, ax_J V P pcx (lvx e) [] (xx e) (K e)) : ax_J V P pc (lv a) [] (x a) ((ax_lp f a).bind K) := fun r hr hp => by
  obtain ⟨e, he, hk⟩ := Option.bind_eq_some_iff.mp hr
  exact ax_lp_end (P' := Sum.elim (fun a => ax_At V pc (lv a) [] (x a)) (fun e => ax_At V pcx (lvx e) [] (xx e))) (fun a h => h) (k e r hk hp) (fun a => hb _ (fun a h => h) (fun e h => h) a) he
/-- a loop that may also end in the method's own answer -/
theorem ax_jlr {V : ax_V} {ρ ρm α ε : Type} {P : ρ → Prop} {pc pcx : Nat} (a : α) (lv : α → List (Option Value)) (x : α → ax_S) (lvx : ε → List (Option Value)) (xx : ε → ax_S) {f : α → Option (α ⊕ (ε ⊕ ρm))} {K : ε → Option ρ} {em : ρm → ρ}
    (hb : ∀ P' : α ⊕ (ε ⊕ ρm) → Prop, (∀ a, P' (.inl a) → ax_At V pc (lv a) [] (x a)) → (∀ e, P' (.inr (.inl e)) → ax_At V pcx (lvx e) [] (xx e)) → (∀ r, P' (.inr (.inr r)) → P (em r)) → ∀ a, ax_J V P' pc (lv a) [] (x a) (f a))
    (k : ∀ e, ax_J V P pcx (lvx e) [] (xx e) (K e)) : ax_J V P pc (lv a) [] (x a) ((ax_lp f a).bind (Sum.elim K (fun r => some (em r)))) := fun r hr hp => by
  obtain ⟨q, hq, hk⟩ := Option.bind_eq_some_iff.mp hr
  refine ax_lp_end (P' := Sum.elim (fun a => ax_At V pc (lv a) [] (x a)) (Sum.elim (fun e => ax_At V pcx (lvx e) [] (xx e)) (fun r => P (em r)))) (fun a h => h) ?_ (fun a => hb _ (fun a h => h) (fun e h => h) (fun r h => h) a) hq
  cases q with
  | inl e => exact k e r hk hp
  | inr r' =>
    cases hk
    exact hp
theorem ax_go {V : ax_V} {ρ : Type} {pc : Nat} {lv : List (Option Value)} {st : List Value} {x : ax_S} {o : Option ρ} {r : ρ} (em : ρ → Option Value × ax_S) (hb : ∀ P : ρ → Prop, (∀ r, P r → V.2.2.2 = em r) → ax_J V P pc lv st x o) (h : o = some r) (ho : V.2.2.2 = em r) : ax_At V pc lv st x := hb (fun r => V.2.2.2 = em r) (fun _ h => h) r h ho
theorem ax_iconst {V : ax_V} {μ : ax_Mu} (hV : ax_ok V μ) {pc nx : Nat} {lv : List (Option Value)} {st : List Value} {x : ax_S} {n : Int} (v : Int32) (d : ax_D μ.2.1 pc (.iconst n) 1 nx) (hv : Int32.ofInt n = v) (k : ax_At V nx lv (.int v :: st) x) : ax_At V pc lv (st) x := by
  obtain ⟨Sd, G, ⟨p, l, e, R, s, m, args, below, meth, c⟩, rv, sf⟩ := V
  obtain ⟨d, rfl⟩ := d
  intro H locs ls hP hS hl
  exact lv_iconst hV.1 hV.2.1 d hv (k H locs ls hP hS hl)
theorem ax_bipush {V : ax_V} {μ : ax_Mu} (hV : ax_ok V μ) {pc nx : Nat} {lv : List (Option Value)} {st : List Value} {x : ax_S} {n : Int} (v : Int32) (d : ax_D μ.2.1 pc (.bipush n) 2 nx) (hv : (Int8.ofInt n).toInt32 = v) (k : ax_At V nx lv (.int v :: st) x) : ax_At V pc lv (st) x := by
  obtain ⟨Sd, G, ⟨p, l, e, R, s, m, args, below, meth, c⟩, rv, sf⟩ := V
  obtain ⟨d, rfl⟩ := d
  intro H locs ls hP hS hl
  exact lv_bipush hV.1 hV.2.1 d hv (k H locs ls hP hS hl)
theorem ax_sipush {V : ax_V} {μ : ax_Mu} (hV : ax_ok V μ) {pc nx : Nat} {lv : List (Option Value)} {st : List Value} {x : ax_S} {n : Int} (v : Int32) (d : ax_D μ.2.1 pc (.sipush n) 3 nx) (hv : (Int16.ofInt n).toInt32 = v) (k : ax_At V nx lv (.int v :: st) x) : ax_At V pc lv (st) x := by
  obtain ⟨Sd, G, ⟨p, l, e, R, s, m, args, below, meth, c⟩, rv, sf⟩ := V
  obtain ⟨d, rfl⟩ := d
  intro H locs ls hP hS hl
  exact lv_sipush hV.1 hV.2.1 d hv (k H locs ls hP hS hl)
theorem ax_lconst {V : ax_V} {μ : ax_Mu} (hV : ax_ok V μ) {pc nx : Nat} {lv : List (Option Value)} {st : List Value} {x : ax_S} {n : Fin 2} (v : Int64) (d : ax_D μ.2.1 pc (.lconst n) 1 nx) (hv : Int64.ofNat (n : Nat) = v) (k : ax_At V nx lv (.long v :: st) x) : ax_At V pc lv (st) x := by
  obtain ⟨Sd, G, ⟨p, l, e, R, s, m, args, below, meth, c⟩, rv, sf⟩ := V
  obtain ⟨d, rfl⟩ := d
  intro H locs ls hP hS hl
  exact lv_lconst hV.1 hV.2.1 d hv (k H locs ls hP hS hl)
theorem ax_ldc {V : ax_V} {μ : ax_Mu} (hV : ax_ok V μ) {pc nx : Nat} {lv : List (Option Value)} {st : List Value} {x : ax_S} {ix : Nat} {v : Int32} (hc : Cond.constant μ.1.cls ix v ∈ ax_tb) (d : ax_D μ.2.1 pc (.ldc ix) 2 nx) (k : ax_At V nx lv (.int v :: st) x) : ax_At V pc lv (st) x := by
  obtain ⟨Sd, G, ⟨p, l, e, R, s, m, args, below, meth, c⟩, rv, sf⟩ := V
  obtain ⟨d, rfl⟩ := d
  intro H locs ls hP hS hl
  exact lv_ldc hV.1 hV.2.1 hV.2.2.2.1 (hV.2.2.2.2.1 _ hc) d (k H locs ls hP hS hl)
theorem ax_ldcw {V : ax_V} {μ : ax_Mu} (hV : ax_ok V μ) {pc nx : Nat} {lv : List (Option Value)} {st : List Value} {x : ax_S} {ix : Nat} {v : Int32} (hc : Cond.constant μ.1.cls ix v ∈ ax_tb) (d : ax_D μ.2.1 pc (.ldc_w ix) 3 nx) (k : ax_At V nx lv (.int v :: st) x) : ax_At V pc lv (st) x := by
  obtain ⟨Sd, G, ⟨p, l, e, R, s, m, args, below, meth, c⟩, rv, sf⟩ := V
  obtain ⟨d, rfl⟩ := d
  intro H locs ls hP hS hl
  exact lv_ldcw hV.1 hV.2.1 hV.2.2.2.1 (hV.2.2.2.2.1 _ hc) d (k H locs ls hP hS hl)
theorem ax_ldc2 {V : ax_V} {μ : ax_Mu} (hV : ax_ok V μ) {pc nx : Nat} {lv : List (Option Value)} {st : List Value} {x : ax_S} {ix : Nat} {v : Int64} (hc : Cond.constantLong μ.1.cls ix v ∈ ax_tb) (d : ax_D μ.2.1 pc (.ldc2_w ix) 3 nx) (k : ax_At V nx lv (.long v :: st) x) : ax_At V pc lv (st) x := by
  obtain ⟨Sd, G, ⟨p, l, e, R, s, m, args, below, meth, c⟩, rv, sf⟩ := V
  obtain ⟨d, rfl⟩ := d
  intro H locs ls hP hS hl
  exact lv_ldc2 hV.1 hV.2.1 hV.2.2.2.1 (hV.2.2.2.2.1 _ hc) d (k H locs ls hP hS hl)
theorem ax_iload_n {V : ax_V} {μ : ax_Mu} (hV : ax_ok V μ) {pc nx : Nat} {lv : List (Option Value)} {st : List Value} {x : ax_S} {k0 : Fin 4} {a : Int32} (d : ax_D μ.2.1 pc (.iload_n k0) 1 nx) (hi : lv[(k0 : Nat)]? = some (some (.int a))) (k : ax_At V nx lv (.int a :: st) x) : ax_At V pc lv (st) x := by
  obtain ⟨Sd, G, ⟨p, l, e, R, s, m, args, below, meth, c⟩, rv, sf⟩ := V
  obtain ⟨d, rfl⟩ := d
  intro H locs ls hP hS hl
  exact lv_iload_n hV.1 hV.2.1 d rfl (hl.2.2 _ _ hi) (k H locs ls hP hS hl)
theorem ax_iload {V : ax_V} {μ : ax_Mu} (hV : ax_ok V μ) {pc nx : Nat} {lv : List (Option Value)} {st : List Value} {x : ax_S} {i : Nat} {a : Int32} (d : ax_D μ.2.1 pc (.iload i) 2 nx) (hi : lv[i]? = some (some (.int a))) (k : ax_At V nx lv (.int a :: st) x) : ax_At V pc lv (st) x := by
  obtain ⟨Sd, G, ⟨p, l, e, R, s, m, args, below, meth, c⟩, rv, sf⟩ := V
  obtain ⟨d, rfl⟩ := d
  intro H locs ls hP hS hl
  exact lv_iload hV.1 hV.2.1 d (hl.2.2 _ _ hi) (k H locs ls hP hS hl)
theorem ax_lload_n {V : ax_V} {μ : ax_Mu} (hV : ax_ok V μ) {pc nx : Nat} {lv : List (Option Value)} {st : List Value} {x : ax_S} {k0 : Fin 4} {a : Int64} (d : ax_D μ.2.1 pc (.lload_n k0) 1 nx) (hi : lv[(k0 : Nat)]? = some (some (.long a))) (k : ax_At V nx lv (.long a :: st) x) : ax_At V pc lv (st) x := by
  obtain ⟨Sd, G, ⟨p, l, e, R, s, m, args, below, meth, c⟩, rv, sf⟩ := V
  obtain ⟨d, rfl⟩ := d
  intro H locs ls hP hS hl
  exact lv_lload_n hV.1 hV.2.1 d rfl (hl.2.2 _ _ hi) (k H locs ls hP hS hl)
theorem ax_lload {V : ax_V} {μ : ax_Mu} (hV : ax_ok V μ) {pc nx : Nat} {lv : List (Option Value)} {st : List Value} {x : ax_S} {i : Nat} {a : Int64} (d : ax_D μ.2.1 pc (.lload i) 2 nx) (hi : lv[i]? = some (some (.long a))) (k : ax_At V nx lv (.long a :: st) x) : ax_At V pc lv (st) x := by
  obtain ⟨Sd, G, ⟨p, l, e, R, s, m, args, below, meth, c⟩, rv, sf⟩ := V
  obtain ⟨d, rfl⟩ := d
  intro H locs ls hP hS hl
  exact lv_lload hV.1 hV.2.1 d (hl.2.2 _ _ hi) (k H locs ls hP hS hl)
theorem ax_aload_n {V : ax_V} {μ : ax_Mu} (hV : ax_ok V μ) {pc nx : Nat} {lv : List (Option Value)} {st : List Value} {x : ax_S} {k0 : Fin 4} {a : Nat} (d : ax_D μ.2.1 pc (.aload_n k0) 1 nx) (hi : lv[(k0 : Nat)]? = some (some (.ref a))) (k : ax_At V nx lv (.ref a :: st) x) : ax_At V pc lv (st) x := by
  obtain ⟨Sd, G, ⟨p, l, e, R, s, m, args, below, meth, c⟩, rv, sf⟩ := V
  obtain ⟨d, rfl⟩ := d
  intro H locs ls hP hS hl
  exact lv_aload_n hV.1 hV.2.1 d rfl (hl.2.2 _ _ hi) (k H locs ls hP hS hl)
theorem ax_aload {V : ax_V} {μ : ax_Mu} (hV : ax_ok V μ) {pc nx : Nat} {lv : List (Option Value)} {st : List Value} {x : ax_S} {i : Nat} {a : Nat} (d : ax_D μ.2.1 pc (.aload i) 2 nx) (hi : lv[i]? = some (some (.ref a))) (k : ax_At V nx lv (.ref a :: st) x) : ax_At V pc lv (st) x := by
  obtain ⟨Sd, G, ⟨p, l, e, R, s, m, args, below, meth, c⟩, rv, sf⟩ := V
  obtain ⟨d, rfl⟩ := d
  intro H locs ls hP hS hl
  exact lv_aload hV.1 hV.2.1 d (hl.2.2 _ _ hi) (k H locs ls hP hS hl)
theorem ax_istore_n {V : ax_V} {μ : ax_Mu} (hV : ax_ok V μ) {pc nx : Nat} {lv : List (Option Value)} {st : List Value} {x : ax_S} {k0 : Fin 4} {a : Int32} (lv' : List (Option Value)) (d : ax_D μ.2.1 pc (.istore_n k0) 1 nx) (hs : (lv.set (k0 : Nat) (some (.int a))) = lv') (hc : (ax_ok1 lv (k0 : Nat) && Nat.blt ((k0 : Nat) + 0) μ.2.2.1) = true) (k : ax_At V nx lv' st x) : ax_At V pc lv (.int a :: st) x := by
  obtain ⟨Sd, G, ⟨p, l, e, R, s, m, args, below, meth, c⟩, rv, sf⟩ := V
  obtain ⟨d, rfl⟩ := d
  subst hs
  rw [Bool.and_eq_true] at hc
  intro H locs ls hP hS hl
  refine lv_istore_n hV.1 hV.2.1 d rfl (ax_lv_has hl) ?_ rfl (fun ls' hl' => k H locs ls' hP hS (ax_lv_st1 hc.1 hl'))
  have := Nat.le_of_ble_eq_true hc.2
  rw [show c.maxLocals = μ.2.2.1 from hV.2.2.1]
  omega
theorem ax_istore {V : ax_V} {μ : ax_Mu} (hV : ax_ok V μ) {pc nx : Nat} {lv : List (Option Value)} {st : List Value} {x : ax_S} {i : Nat} {a : Int32} (lv' : List (Option Value)) (d : ax_D μ.2.1 pc (.istore i) 2 nx) (hs : (lv.set i (some (.int a))) = lv') (hc : (ax_ok1 lv i && Nat.blt (i + 0) μ.2.2.1) = true) (k : ax_At V nx lv' st x) : ax_At V pc lv (.int a :: st) x := by
  obtain ⟨Sd, G, ⟨p, l, e, R, s, m, args, below, meth, c⟩, rv, sf⟩ := V
  obtain ⟨d, rfl⟩ := d
  subst hs
  rw [Bool.and_eq_true] at hc
  intro H locs ls hP hS hl
  refine lv_istore hV.1 hV.2.1 d (ax_lv_has hl) ?_ rfl (fun ls' hl' => k H locs ls' hP hS (ax_lv_st1 hc.1 hl'))
  have := Nat.le_of_ble_eq_true hc.2
  rw [show c.maxLocals = μ.2.2.1 from hV.2.2.1]
  omega
theorem ax_lstore_n {V : ax_V} {μ : ax_Mu} (hV : ax_ok V μ) {pc nx : Nat} {lv : List (Option Value)} {st : List Value} {x : ax_S} {k0 : Fin 4} {a : Int64} (lv' : List (Option Value)) (d : ax_D μ.2.1 pc (.lstore_n k0) 1 nx) (hs : ((lv.set (k0 : Nat) (some (.long a))).set ((k0 : Nat) + 1) none) = lv') (hc : (ax_ok1 lv (k0 : Nat) && Nat.blt ((k0 : Nat) + 1) μ.2.2.1) = true) (k : ax_At V nx lv' st x) : ax_At V pc lv (.long a :: st) x := by
  obtain ⟨Sd, G, ⟨p, l, e, R, s, m, args, below, meth, c⟩, rv, sf⟩ := V
  obtain ⟨d, rfl⟩ := d
  subst hs
  rw [Bool.and_eq_true] at hc
  intro H locs ls hP hS hl
  refine lv_lstore_n hV.1 hV.2.1 d rfl (ax_lv_has hl) ?_ rfl (fun ls' hl' => k H locs ls' hP hS (ax_lv_st2 hc.1 hl'))
  have := Nat.le_of_ble_eq_true hc.2
  rw [show c.maxLocals = μ.2.2.1 from hV.2.2.1]
  omega
theorem ax_lstore {V : ax_V} {μ : ax_Mu} (hV : ax_ok V μ) {pc nx : Nat} {lv : List (Option Value)} {st : List Value} {x : ax_S} {i : Nat} {a : Int64} (lv' : List (Option Value)) (d : ax_D μ.2.1 pc (.lstore i) 2 nx) (hs : ((lv.set i (some (.long a))).set (i + 1) none) = lv') (hc : (ax_ok1 lv i && Nat.blt (i + 1) μ.2.2.1) = true) (k : ax_At V nx lv' st x) : ax_At V pc lv (.long a :: st) x := by
  obtain ⟨Sd, G, ⟨p, l, e, R, s, m, args, below, meth, c⟩, rv, sf⟩ := V
  obtain ⟨d, rfl⟩ := d
  subst hs
  rw [Bool.and_eq_true] at hc
  intro H locs ls hP hS hl
  refine lv_lstore hV.1 hV.2.1 d (ax_lv_has hl) ?_ rfl (fun ls' hl' => k H locs ls' hP hS (ax_lv_st2 hc.1 hl'))
  have := Nat.le_of_ble_eq_true hc.2
  rw [show c.maxLocals = μ.2.2.1 from hV.2.2.1]
  omega
theorem ax_iinc {V : ax_V} {μ : ax_Mu} (hV : ax_ok V μ) {pc nx : Nat} {lv : List (Option Value)} {st : List Value} {x : ax_S} {i : Nat} {n : Int} {a : Int32} (b : Int32) (lv' : List (Option Value)) (d : ax_D μ.2.1 pc (.iinc i n) 3 nx) (hi : lv[i]? = some (some (.int a))) (hv : a + Int32.ofInt n = b) (hs : lv.set i (some (.int b)) = lv') (hc : (ax_ok1 lv i && Nat.blt (i + 0) μ.2.2.1) = true) (k : ax_At V nx lv' st x) : ax_At V pc lv st x := by
  obtain ⟨Sd, G, ⟨p, l, e, R, s, m, args, below, meth, c⟩, rv, sf⟩ := V
  obtain ⟨d, rfl⟩ := d
  subst hs
  rw [Bool.and_eq_true] at hc
  intro H locs ls hP hS hl
  obtain ⟨j, hj⟩ := List.getElem?_of_mem (ax_as_mem.mpr (show lv[((i, Value.int a) : Nat × Value).1]? = some (some (i, Value.int a).2) from hi))
  refine lv_iinc hV.1 hV.2.1 d (ax_lv_has hl) hj hv ?_ rfl (fun ls' hl' => k H locs ls' hP hS (ax_lv_st1 hc.1 hl'))
  have := Nat.le_of_ble_eq_true hc.2
  rw [show c.maxLocals = μ.2.2.1 from hV.2.2.1]
  omega
theorem ax_iadd {V : ax_V} {μ : ax_Mu} (hV : ax_ok V μ) {pc nx : Nat} {lv : List (Option Value)} {st : List Value} {x : ax_S} {a b : Int32} (d : ax_D μ.2.1 pc (.iadd) 1 nx) (k : ax_At V nx lv (.int (a + b) :: st) x) : ax_At V pc lv (.int b :: .int a :: st) x := by
  obtain ⟨Sd, G, ⟨p, l, e, R, s, m, args, below, meth, c⟩, rv, sf⟩ := V
  obtain ⟨d, rfl⟩ := d
  intro H locs ls hP hS hl
  exact lv_iadd hV.1 hV.2.1 d (k H locs ls hP hS hl)
theorem ax_isub {V : ax_V} {μ : ax_Mu} (hV : ax_ok V μ) {pc nx : Nat} {lv : List (Option Value)} {st : List Value} {x : ax_S} {a b : Int32} (d : ax_D μ.2.1 pc (.isub) 1 nx) (k : ax_At V nx lv (.int (a - b) :: st) x) : ax_At V pc lv (.int b :: .int a :: st) x := by
  obtain ⟨Sd, G, ⟨p, l, e, R, s, m, args, below, meth, c⟩, rv, sf⟩ := V
  obtain ⟨d, rfl⟩ := d
  intro H locs ls hP hS hl
  exact lv_isub hV.1 hV.2.1 d (k H locs ls hP hS hl)
theorem ax_imul {V : ax_V} {μ : ax_Mu} (hV : ax_ok V μ) {pc nx : Nat} {lv : List (Option Value)} {st : List Value} {x : ax_S} {a b : Int32} (d : ax_D μ.2.1 pc (.imul) 1 nx) (k : ax_At V nx lv (.int (a * b) :: st) x) : ax_At V pc lv (.int b :: .int a :: st) x := by
  obtain ⟨Sd, G, ⟨p, l, e, R, s, m, args, below, meth, c⟩, rv, sf⟩ := V
  obtain ⟨d, rfl⟩ := d
  intro H locs ls hP hS hl
  exact lv_imul hV.1 hV.2.1 d (k H locs ls hP hS hl)
theorem ax_iand {V : ax_V} {μ : ax_Mu} (hV : ax_ok V μ) {pc nx : Nat} {lv : List (Option Value)} {st : List Value} {x : ax_S} {a b : Int32} (d : ax_D μ.2.1 pc (.iand) 1 nx) (k : ax_At V nx lv (.int (a &&& b) :: st) x) : ax_At V pc lv (.int b :: .int a :: st) x := by
  obtain ⟨Sd, G, ⟨p, l, e, R, s, m, args, below, meth, c⟩, rv, sf⟩ := V
  obtain ⟨d, rfl⟩ := d
  intro H locs ls hP hS hl
  exact lv_iand hV.1 hV.2.1 d (k H locs ls hP hS hl)
theorem ax_ior {V : ax_V} {μ : ax_Mu} (hV : ax_ok V μ) {pc nx : Nat} {lv : List (Option Value)} {st : List Value} {x : ax_S} {a b : Int32} (d : ax_D μ.2.1 pc (.ior) 1 nx) (k : ax_At V nx lv (.int (a ||| b) :: st) x) : ax_At V pc lv (.int b :: .int a :: st) x := by
  obtain ⟨Sd, G, ⟨p, l, e, R, s, m, args, below, meth, c⟩, rv, sf⟩ := V
  obtain ⟨d, rfl⟩ := d
  intro H locs ls hP hS hl
  exact lv_ior hV.1 hV.2.1 d (k H locs ls hP hS hl)
theorem ax_ixor {V : ax_V} {μ : ax_Mu} (hV : ax_ok V μ) {pc nx : Nat} {lv : List (Option Value)} {st : List Value} {x : ax_S} {a b : Int32} (d : ax_D μ.2.1 pc (.ixor) 1 nx) (k : ax_At V nx lv (.int (a ^^^ b) :: st) x) : ax_At V pc lv (.int b :: .int a :: st) x := by
  obtain ⟨Sd, G, ⟨p, l, e, R, s, m, args, below, meth, c⟩, rv, sf⟩ := V
  obtain ⟨d, rfl⟩ := d
  intro H locs ls hP hS hl
  exact lv_ixor hV.1 hV.2.1 d (k H locs ls hP hS hl)
theorem ax_ishl {V : ax_V} {μ : ax_Mu} (hV : ax_ok V μ) {pc nx : Nat} {lv : List (Option Value)} {st : List Value} {x : ax_S} {a b : Int32} (d : ax_D μ.2.1 pc (.ishl) 1 nx) (k : ax_At V nx lv (.int (a <<< (b &&& 31)) :: st) x) : ax_At V pc lv (.int b :: .int a :: st) x := by
  obtain ⟨Sd, G, ⟨p, l, e, R, s, m, args, below, meth, c⟩, rv, sf⟩ := V
  obtain ⟨d, rfl⟩ := d
  intro H locs ls hP hS hl
  exact lv_ishl hV.1 hV.2.1 d (k H locs ls hP hS hl)
theorem ax_ishr {V : ax_V} {μ : ax_Mu} (hV : ax_ok V μ) {pc nx : Nat} {lv : List (Option Value)} {st : List Value} {x : ax_S} {a b : Int32} (d : ax_D μ.2.1 pc (.ishr) 1 nx) (k : ax_At V nx lv (.int (a >>> (b &&& 31)) :: st) x) : ax_At V pc lv (.int b :: .int a :: st) x := by
  obtain ⟨Sd, G, ⟨p, l, e, R, s, m, args, below, meth, c⟩, rv, sf⟩ := V
  obtain ⟨d, rfl⟩ := d
  intro H locs ls hP hS hl
  exact lv_ishr hV.1 hV.2.1 d (k H locs ls hP hS hl)
theorem ax_ladd {V : ax_V} {μ : ax_Mu} (hV : ax_ok V μ) {pc nx : Nat} {lv : List (Option Value)} {st : List Value} {x : ax_S} {a b : Int64} (d : ax_D μ.2.1 pc (.ladd) 1 nx) (k : ax_At V nx lv (.long (a + b) :: st) x) : ax_At V pc lv (.long b :: .long a :: st) x := by
  obtain ⟨Sd, G, ⟨p, l, e, R, s, m, args, below, meth, c⟩, rv, sf⟩ := V
  obtain ⟨d, rfl⟩ := d
  intro H locs ls hP hS hl
  exact lv_ladd hV.1 hV.2.1 d (k H locs ls hP hS hl)
theorem ax_lsub {V : ax_V} {μ : ax_Mu} (hV : ax_ok V μ) {pc nx : Nat} {lv : List (Option Value)} {st : List Value} {x : ax_S} {a b : Int64} (d : ax_D μ.2.1 pc (.lsub) 1 nx) (k : ax_At V nx lv (.long (a - b) :: st) x) : ax_At V pc lv (.long b :: .long a :: st) x := by
  obtain ⟨Sd, G, ⟨p, l, e, R, s, m, args, below, meth, c⟩, rv, sf⟩ := V
  obtain ⟨d, rfl⟩ := d
  intro H locs ls hP hS hl
  exact lv_lsub hV.1 hV.2.1 d (k H locs ls hP hS hl)
theorem ax_lmul {V : ax_V} {μ : ax_Mu} (hV : ax_ok V μ) {pc nx : Nat} {lv : List (Option Value)} {st : List Value} {x : ax_S} {a b : Int64} (d : ax_D μ.2.1 pc (.lmul) 1 nx) (k : ax_At V nx lv (.long (a * b) :: st) x) : ax_At V pc lv (.long b :: .long a :: st) x := by
  obtain ⟨Sd, G, ⟨p, l, e, R, s, m, args, below, meth, c⟩, rv, sf⟩ := V
  obtain ⟨d, rfl⟩ := d
  intro H locs ls hP hS hl
  exact lv_lmul hV.1 hV.2.1 d (k H locs ls hP hS hl)
theorem ax_land {V : ax_V} {μ : ax_Mu} (hV : ax_ok V μ) {pc nx : Nat} {lv : List (Option Value)} {st : List Value} {x : ax_S} {a b : Int64} (d : ax_D μ.2.1 pc (.land) 1 nx) (k : ax_At V nx lv (.long (a &&& b) :: st) x) : ax_At V pc lv (.long b :: .long a :: st) x := by
  obtain ⟨Sd, G, ⟨p, l, e, R, s, m, args, below, meth, c⟩, rv, sf⟩ := V
  obtain ⟨d, rfl⟩ := d
  intro H locs ls hP hS hl
  exact lv_land hV.1 hV.2.1 d (k H locs ls hP hS hl)
theorem ax_lor {V : ax_V} {μ : ax_Mu} (hV : ax_ok V μ) {pc nx : Nat} {lv : List (Option Value)} {st : List Value} {x : ax_S} {a b : Int64} (d : ax_D μ.2.1 pc (.lor) 1 nx) (k : ax_At V nx lv (.long (a ||| b) :: st) x) : ax_At V pc lv (.long b :: .long a :: st) x := by
  obtain ⟨Sd, G, ⟨p, l, e, R, s, m, args, below, meth, c⟩, rv, sf⟩ := V
  obtain ⟨d, rfl⟩ := d
  intro H locs ls hP hS hl
  exact lv_lor hV.1 hV.2.1 d (k H locs ls hP hS hl)
theorem ax_lxor {V : ax_V} {μ : ax_Mu} (hV : ax_ok V μ) {pc nx : Nat} {lv : List (Option Value)} {st : List Value} {x : ax_S} {a b : Int64} (d : ax_D μ.2.1 pc (.lxor) 1 nx) (k : ax_At V nx lv (.long (a ^^^ b) :: st) x) : ax_At V pc lv (.long b :: .long a :: st) x := by
  obtain ⟨Sd, G, ⟨p, l, e, R, s, m, args, below, meth, c⟩, rv, sf⟩ := V
  obtain ⟨d, rfl⟩ := d
  intro H locs ls hP hS hl
  exact lv_lxor hV.1 hV.2.1 d (k H locs ls hP hS hl)
def ax_iushr (a b : Int32) : Int32 := (a.toUInt32 >>> (b.toUInt32 &&& Int32.toUInt32 31)).toInt32
def ax_lushr (a : Int64) (b : Int32) : Int64 := (a.toUInt64 >>> (b.toInt64.toUInt64 &&& Int64.toUInt64 63)).toInt64
def ax_lshl (a : Int64) (b : Int32) : Int64 := a <<< (b.toInt64 &&& 63)
def ax_lshr (a : Int64) (b : Int32) : Int64 := a >>> (b.toInt64 &&& 63)
theorem ax_iushr_ {V : ax_V} {μ : ax_Mu} (hV : ax_ok V μ) {pc nx : Nat} {lv : List (Option Value)} {st : List Value} {x : ax_S} {a b : Int32} (d : ax_D μ.2.1 pc (.iushr) 1 nx) (k : ax_At V nx lv (.int (ax_iushr a b) :: st) x) : ax_At V pc lv (.int b :: .int a :: st) x := by
  obtain ⟨Sd, G, ⟨p, l, e, R, s, m, args, below, meth, c⟩, rv, sf⟩ := V
  obtain ⟨d, rfl⟩ := d
  intro H locs ls hP hS hl
  exact lv_iushr hV.1 hV.2.1 d rfl (k H locs ls hP hS hl)
theorem ax_lushr_ {V : ax_V} {μ : ax_Mu} (hV : ax_ok V μ) {pc nx : Nat} {lv : List (Option Value)} {st : List Value} {x : ax_S} {a : Int64} {b : Int32} (d : ax_D μ.2.1 pc (.lushr) 1 nx) (k : ax_At V nx lv (.long (ax_lushr a b) :: st) x) : ax_At V pc lv (.int b :: .long a :: st) x := by
  obtain ⟨Sd, G, ⟨p, l, e, R, s, m, args, below, meth, c⟩, rv, sf⟩ := V
  obtain ⟨d, rfl⟩ := d
  intro H locs ls hP hS hl
  exact lv_lushr hV.1 hV.2.1 d rfl (k H locs ls hP hS hl)
theorem ax_lshl_ {V : ax_V} {μ : ax_Mu} (hV : ax_ok V μ) {pc nx : Nat} {lv : List (Option Value)} {st : List Value} {x : ax_S} {a : Int64} {b : Int32} (d : ax_D μ.2.1 pc (.lshl) 1 nx) (k : ax_At V nx lv (.long (ax_lshl a b) :: st) x) : ax_At V pc lv (.int b :: .long a :: st) x := by
  obtain ⟨Sd, G, ⟨p, l, e, R, s, m, args, below, meth, c⟩, rv, sf⟩ := V
  obtain ⟨d, rfl⟩ := d
  intro H locs ls hP hS hl
  exact lv_lshl hV.1 hV.2.1 d rfl (k H locs ls hP hS hl)
theorem ax_lshr_ {V : ax_V} {μ : ax_Mu} (hV : ax_ok V μ) {pc nx : Nat} {lv : List (Option Value)} {st : List Value} {x : ax_S} {a : Int64} {b : Int32} (d : ax_D μ.2.1 pc (.lshr) 1 nx) (k : ax_At V nx lv (.long (ax_lshr a b) :: st) x) : ax_At V pc lv (.int b :: .long a :: st) x := by
  obtain ⟨Sd, G, ⟨p, l, e, R, s, m, args, below, meth, c⟩, rv, sf⟩ := V
  obtain ⟨d, rfl⟩ := d
  intro H locs ls hP hS hl
  exact lv_lshr hV.1 hV.2.1 d rfl (k H locs ls hP hS hl)
theorem ax_ineg {V : ax_V} {μ : ax_Mu} (hV : ax_ok V μ) {pc nx : Nat} {lv : List (Option Value)} {st : List Value} {x : ax_S} {a : Int32} (d : ax_D μ.2.1 pc (.ineg) 1 nx) (k : ax_At V nx lv (.int (-a) :: st) x) : ax_At V pc lv (.int a :: st) x := by
  obtain ⟨Sd, G, ⟨p, l, e, R, s, m, args, below, meth, c⟩, rv, sf⟩ := V
  obtain ⟨d, rfl⟩ := d
  intro H locs ls hP hS hl
  exact lv_ineg hV.1 hV.2.1 d (k H locs ls hP hS hl)
theorem ax_i2l {V : ax_V} {μ : ax_Mu} (hV : ax_ok V μ) {pc nx : Nat} {lv : List (Option Value)} {st : List Value} {x : ax_S} {a : Int32} (d : ax_D μ.2.1 pc (.i2l) 1 nx) (k : ax_At V nx lv (.long a.toInt64 :: st) x) : ax_At V pc lv (.int a :: st) x := by
  obtain ⟨Sd, G, ⟨p, l, e, R, s, m, args, below, meth, c⟩, rv, sf⟩ := V
  obtain ⟨d, rfl⟩ := d
  intro H locs ls hP hS hl
  exact lv_i2l hV.1 hV.2.1 d rfl (k H locs ls hP hS hl)
theorem ax_l2i {V : ax_V} {μ : ax_Mu} (hV : ax_ok V μ) {pc nx : Nat} {lv : List (Option Value)} {st : List Value} {x : ax_S} {a : Int64} (d : ax_D μ.2.1 pc (.l2i) 1 nx) (k : ax_At V nx lv (.int a.toInt32 :: st) x) : ax_At V pc lv (.long a :: st) x := by
  obtain ⟨Sd, G, ⟨p, l, e, R, s, m, args, below, meth, c⟩, rv, sf⟩ := V
  obtain ⟨d, rfl⟩ := d
  intro H locs ls hP hS hl
  exact lv_l2i hV.1 hV.2.1 d rfl (k H locs ls hP hS hl)
theorem ax_i2b {V : ax_V} {μ : ax_Mu} (hV : ax_ok V μ) {pc nx : Nat} {lv : List (Option Value)} {st : List Value} {x : ax_S} {a : Int32} (d : ax_D μ.2.1 pc (.i2b) 1 nx) (k : ax_At V nx lv (.int a.toInt8.toInt32 :: st) x) : ax_At V pc lv (.int a :: st) x := by
  obtain ⟨Sd, G, ⟨p, l, e, R, s, m, args, below, meth, c⟩, rv, sf⟩ := V
  obtain ⟨d, rfl⟩ := d
  intro H locs ls hP hS hl
  exact lv_i2b hV.1 hV.2.1 d rfl (k H locs ls hP hS hl)
theorem ax_i2s {V : ax_V} {μ : ax_Mu} (hV : ax_ok V μ) {pc nx : Nat} {lv : List (Option Value)} {st : List Value} {x : ax_S} {a : Int32} (d : ax_D μ.2.1 pc (.i2s) 1 nx) (k : ax_At V nx lv (.int a.toInt16.toInt32 :: st) x) : ax_At V pc lv (.int a :: st) x := by
  obtain ⟨Sd, G, ⟨p, l, e, R, s, m, args, below, meth, c⟩, rv, sf⟩ := V
  obtain ⟨d, rfl⟩ := d
  intro H locs ls hP hS hl
  exact lv_i2s hV.1 hV.2.1 d rfl (k H locs ls hP hS hl)
theorem ax_lcmp {V : ax_V} {μ : ax_Mu} (hV : ax_ok V μ) {pc nx : Nat} {lv : List (Option Value)} {st : List Value} {x : ax_S} {a b : Int64} (d : ax_D μ.2.1 pc (.lcmp) 1 nx) (k : ax_At V nx lv (.int (lg_cmp a b) :: st) x) : ax_At V pc lv (.long b :: .long a :: st) x := by
  obtain ⟨Sd, G, ⟨p, l, e, R, s, m, args, below, meth, c⟩, rv, sf⟩ := V
  obtain ⟨d, rfl⟩ := d
  intro H locs ls hP hS hl
  exact W.lcmp hV.1 hV.2.1 d (k H locs ls hP hS hl)
theorem ax_dup {V : ax_V} {μ : ax_Mu} (hV : ax_ok V μ) {pc nx : Nat} {lv : List (Option Value)} {st : List Value} {x : ax_S} {va : Value} (d : ax_D μ.2.1 pc (.dup) 1 nx) (hva : va.category = 1) (k : ax_At V nx lv (va :: va :: st) x) : ax_At V pc lv (va :: st) x := by
  obtain ⟨Sd, G, ⟨p, l, e, R, s, m, args, below, meth, c⟩, rv, sf⟩ := V
  obtain ⟨d, rfl⟩ := d
  intro H locs ls hP hS hl
  exact lv_dup hV.1 hV.2.1 d hva (k H locs ls hP hS hl)
theorem ax_pop {V : ax_V} {μ : ax_Mu} (hV : ax_ok V μ) {pc nx : Nat} {lv : List (Option Value)} {st : List Value} {x : ax_S} {va : Value} (d : ax_D μ.2.1 pc (.pop) 1 nx) (hva : va.category = 1) (k : ax_At V nx lv (st) x) : ax_At V pc lv (va :: st) x := by
  obtain ⟨Sd, G, ⟨p, l, e, R, s, m, args, below, meth, c⟩, rv, sf⟩ := V
  obtain ⟨d, rfl⟩ := d
  intro H locs ls hP hS hl
  exact lv_pop hV.1 hV.2.1 d hva (k H locs ls hP hS hl)
theorem ax_dup2 {V : ax_V} {μ : ax_Mu} (hV : ax_ok V μ) {pc nx : Nat} {lv : List (Option Value)} {st : List Value} {x : ax_S} {va vb : Value} (d : ax_D μ.2.1 pc (.dup2) 1 nx) (hva : va.category = 1) (hvb : vb.category = 1) (k : ax_At V nx lv (va :: vb :: va :: vb :: st) x) : ax_At V pc lv (va :: vb :: st) x := by
  obtain ⟨Sd, G, ⟨p, l, e, R, s, m, args, below, meth, c⟩, rv, sf⟩ := V
  obtain ⟨d, rfl⟩ := d
  intro H locs ls hP hS hl
  exact lv_dup2_11 hV.1 hV.2.1 d hva hvb (k H locs ls hP hS hl)
def ax_idiv (a b : Int32) : Option Int32 := if b = 0 then none else some (a / b)
theorem ax_idiv_ {V : ax_V} {μ : ax_Mu} (hV : ax_ok V μ) {pc nx : Nat} {lv : List (Option Value)} {st : List Value} {x : ax_S} {a b : Int32} (d : ax_D μ.2.1 pc (.idiv) 1 nx) (v : Int32) (ho : ax_idiv a b = some v) (k : ax_At V nx lv (.int v :: st) x) : ax_At V pc lv (.int b :: .int a :: st) x := by
  obtain ⟨Sd, G, ⟨p, l, e, R, s, m, args, below, meth, c⟩, rv, sf⟩ := V
  obtain ⟨d, rfl⟩ := d
  unfold ax_idiv at ho
  split at ho
  · cases ho
  · rename_i hb
    cases ho
    intro H locs ls hP hS hl
    exact lv_idiv hV.1 hV.2.1 d hb (k H locs ls hP hS hl)
def ax_irem (a b : Int32) : Option Int32 := if b = 0 then none else some (a - a / b * b)
theorem ax_irem_ {V : ax_V} {μ : ax_Mu} (hV : ax_ok V μ) {pc nx : Nat} {lv : List (Option Value)} {st : List Value} {x : ax_S} {a b : Int32} (d : ax_D μ.2.1 pc (.irem) 1 nx) (v : Int32) (ho : ax_irem a b = some v) (k : ax_At V nx lv (.int v :: st) x) : ax_At V pc lv (.int b :: .int a :: st) x := by
  obtain ⟨Sd, G, ⟨p, l, e, R, s, m, args, below, meth, c⟩, rv, sf⟩ := V
  obtain ⟨d, rfl⟩ := d
  unfold ax_irem at ho
  split at ho
  · cases ho
  · rename_i hb
    cases ho
    intro H locs ls hP hS hl
    exact lv_irem hV.1 hV.2.1 d hb (k H locs ls hP hS hl)
def ax_ldiv (a b : Int64) : Option Int64 := if b = 0 then none else some (a / b)
theorem ax_ldiv_ {V : ax_V} {μ : ax_Mu} (hV : ax_ok V μ) {pc nx : Nat} {lv : List (Option Value)} {st : List Value} {x : ax_S} {a b : Int64} (d : ax_D μ.2.1 pc (.ldiv) 1 nx) (v : Int64) (ho : ax_ldiv a b = some v) (k : ax_At V nx lv (.long v :: st) x) : ax_At V pc lv (.long b :: .long a :: st) x := by
  obtain ⟨Sd, G, ⟨p, l, e, R, s, m, args, below, meth, c⟩, rv, sf⟩ := V
  obtain ⟨d, rfl⟩ := d
  unfold ax_ldiv at ho
  split at ho
  · cases ho
  · rename_i hb
    cases ho
    intro H locs ls hP hS hl
    exact lv_ldiv hV.1 hV.2.1 d hb (k H locs ls hP hS hl)
def ax_lrem (a b : Int64) : Option Int64 := if b = 0 then none else some (a - a / b * b)
theorem ax_lrem_ {V : ax_V} {μ : ax_Mu} (hV : ax_ok V μ) {pc nx : Nat} {lv : List (Option Value)} {st : List Value} {x : ax_S} {a b : Int64} (d : ax_D μ.2.1 pc (.lrem) 1 nx) (v : Int64) (ho : ax_lrem a b = some v) (k : ax_At V nx lv (.long v :: st) x) : ax_At V pc lv (.long b :: .long a :: st) x := by
  obtain ⟨Sd, G, ⟨p, l, e, R, s, m, args, below, meth, c⟩, rv, sf⟩ := V
  obtain ⟨d, rfl⟩ := d
  unfold ax_lrem at ho
  split at ho
  · cases ho
  · rename_i hb
    cases ho
    intro H locs ls hP hS hl
    exact lv_lrem hV.1 hV.2.1 d hb (k H locs ls hP hS hl)
theorem ax_icmp_eq {V : ax_V} {μ : ax_Mu} (hV : ax_ok V μ) {pc nx : Nat} {lv : List (Option Value)} {st : List Value} {x : ax_S} {tgt : Nat} {a b : Int32} (d : ax_B μ.2.1 pc (.if_icmp .eq) nx tgt) (k1 : a = b → ax_At V tgt lv st x) (k2 : ¬ a = b → ax_At V nx lv st x) : ax_At V pc lv (.int b :: .int a :: st) x := by
  obtain ⟨Sd, G, ⟨p, l, e, R, s, m, args, below, meth, c⟩, rv, sf⟩ := V
  obtain ⟨off, d, rfl, ht⟩ := d
  intro H locs ls hP hS hl
  exact lv_icmp_eq hV.1 hV.2.1 d ht (fun q => k1 q H locs ls hP hS hl) (fun q => k2 q H locs ls hP hS hl)
theorem ax_if_eq {V : ax_V} {μ : ax_Mu} (hV : ax_ok V μ) {pc nx : Nat} {lv : List (Option Value)} {st : List Value} {x : ax_S} {tgt : Nat} {a : Int32} (d : ax_B μ.2.1 pc (.ifCond .eq) nx tgt) (k1 : a = 0 → ax_At V tgt lv st x) (k2 : ¬ a = 0 → ax_At V nx lv st x) : ax_At V pc lv (.int a :: st) x := by
  obtain ⟨Sd, G, ⟨p, l, e, R, s, m, args, below, meth, c⟩, rv, sf⟩ := V
  obtain ⟨off, d, rfl, ht⟩ := d
  intro H locs ls hP hS hl
  exact lv_if_eq hV.1 hV.2.1 d ht (fun q => k1 q H locs ls hP hS hl) (fun q => k2 q H locs ls hP hS hl)
theorem ax_icmp_ne {V : ax_V} {μ : ax_Mu} (hV : ax_ok V μ) {pc nx : Nat} {lv : List (Option Value)} {st : List Value} {x : ax_S} {tgt : Nat} {a b : Int32} (d : ax_B μ.2.1 pc (.if_icmp .ne) nx tgt) (k1 : a = b → ax_At V nx lv st x) (k2 : ¬ a = b → ax_At V tgt lv st x) : ax_At V pc lv (.int b :: .int a :: st) x := by
  obtain ⟨Sd, G, ⟨p, l, e, R, s, m, args, below, meth, c⟩, rv, sf⟩ := V
  obtain ⟨off, d, rfl, ht⟩ := d
  intro H locs ls hP hS hl
  exact lv_icmp_ne hV.1 hV.2.1 d ht (fun q => k2 q H locs ls hP hS hl) (fun q => k1 q H locs ls hP hS hl)
theorem ax_if_ne {V : ax_V} {μ : ax_Mu} (hV : ax_ok V μ) {pc nx : Nat} {lv : List (Option Value)} {st : List Value} {x : ax_S} {tgt : Nat} {a : Int32} (d : ax_B μ.2.1 pc (.ifCond .ne) nx tgt) (k1 : a = 0 → ax_At V nx lv st x) (k2 : ¬ a = 0 → ax_At V tgt lv st x) : ax_At V pc lv (.int a :: st) x := by
  obtain ⟨Sd, G, ⟨p, l, e, R, s, m, args, below, meth, c⟩, rv, sf⟩ := V
  obtain ⟨off, d, rfl, ht⟩ := d
  intro H locs ls hP hS hl
  exact lv_if_ne hV.1 hV.2.1 d ht (fun q => k2 q H locs ls hP hS hl) (fun q => k1 q H locs ls hP hS hl)
theorem ax_icmp_lt {V : ax_V} {μ : ax_Mu} (hV : ax_ok V μ) {pc nx : Nat} {lv : List (Option Value)} {st : List Value} {x : ax_S} {tgt : Nat} {a b : Int32} (d : ax_B μ.2.1 pc (.if_icmp .lt) nx tgt) (k1 : a < b → ax_At V tgt lv st x) (k2 : ¬ a < b → ax_At V nx lv st x) : ax_At V pc lv (.int b :: .int a :: st) x := by
  obtain ⟨Sd, G, ⟨p, l, e, R, s, m, args, below, meth, c⟩, rv, sf⟩ := V
  obtain ⟨off, d, rfl, ht⟩ := d
  intro H locs ls hP hS hl
  exact lv_icmp_lt hV.1 hV.2.1 d ht (fun q => k1 q H locs ls hP hS hl) (fun q => k2 q H locs ls hP hS hl)
theorem ax_if_lt {V : ax_V} {μ : ax_Mu} (hV : ax_ok V μ) {pc nx : Nat} {lv : List (Option Value)} {st : List Value} {x : ax_S} {tgt : Nat} {a : Int32} (d : ax_B μ.2.1 pc (.ifCond .lt) nx tgt) (k1 : a < 0 → ax_At V tgt lv st x) (k2 : ¬ a < 0 → ax_At V nx lv st x) : ax_At V pc lv (.int a :: st) x := by
  obtain ⟨Sd, G, ⟨p, l, e, R, s, m, args, below, meth, c⟩, rv, sf⟩ := V
  obtain ⟨off, d, rfl, ht⟩ := d
  intro H locs ls hP hS hl
  exact lv_if_lt hV.1 hV.2.1 d ht (fun q => k1 q H locs ls hP hS hl) (fun q => k2 q H locs ls hP hS hl)
theorem ax_icmp_ge {V : ax_V} {μ : ax_Mu} (hV : ax_ok V μ) {pc nx : Nat} {lv : List (Option Value)} {st : List Value} {x : ax_S} {tgt : Nat} {a b : Int32} (d : ax_B μ.2.1 pc (.if_icmp .ge) nx tgt) (k1 : b ≤ a → ax_At V tgt lv st x) (k2 : ¬ b ≤ a → ax_At V nx lv st x) : ax_At V pc lv (.int b :: .int a :: st) x := by
  obtain ⟨Sd, G, ⟨p, l, e, R, s, m, args, below, meth, c⟩, rv, sf⟩ := V
  obtain ⟨off, d, rfl, ht⟩ := d
  intro H locs ls hP hS hl
  exact lv_icmp_ge hV.1 hV.2.1 d ht (fun q => k1 q H locs ls hP hS hl) (fun q => k2 q H locs ls hP hS hl)
theorem ax_if_ge {V : ax_V} {μ : ax_Mu} (hV : ax_ok V μ) {pc nx : Nat} {lv : List (Option Value)} {st : List Value} {x : ax_S} {tgt : Nat} {a : Int32} (d : ax_B μ.2.1 pc (.ifCond .ge) nx tgt) (k1 : 0 ≤ a → ax_At V tgt lv st x) (k2 : ¬ 0 ≤ a → ax_At V nx lv st x) : ax_At V pc lv (.int a :: st) x := by
  obtain ⟨Sd, G, ⟨p, l, e, R, s, m, args, below, meth, c⟩, rv, sf⟩ := V
  obtain ⟨off, d, rfl, ht⟩ := d
  intro H locs ls hP hS hl
  exact lv_if_ge hV.1 hV.2.1 d ht (fun q => k1 q H locs ls hP hS hl) (fun q => k2 q H locs ls hP hS hl)
theorem ax_icmp_gt {V : ax_V} {μ : ax_Mu} (hV : ax_ok V μ) {pc nx : Nat} {lv : List (Option Value)} {st : List Value} {x : ax_S} {tgt : Nat} {a b : Int32} (d : ax_B μ.2.1 pc (.if_icmp .gt) nx tgt) (k1 : b < a → ax_At V tgt lv st x) (k2 : ¬ b < a → ax_At V nx lv st x) : ax_At V pc lv (.int b :: .int a :: st) x := by
  obtain ⟨Sd, G, ⟨p, l, e, R, s, m, args, below, meth, c⟩, rv, sf⟩ := V
  obtain ⟨off, d, rfl, ht⟩ := d
  intro H locs ls hP hS hl
  exact lv_icmp_gt hV.1 hV.2.1 d ht (fun q => k1 q H locs ls hP hS hl) (fun q => k2 q H locs ls hP hS hl)
theorem ax_if_gt {V : ax_V} {μ : ax_Mu} (hV : ax_ok V μ) {pc nx : Nat} {lv : List (Option Value)} {st : List Value} {x : ax_S} {tgt : Nat} {a : Int32} (d : ax_B μ.2.1 pc (.ifCond .gt) nx tgt) (k1 : 0 < a → ax_At V tgt lv st x) (k2 : ¬ 0 < a → ax_At V nx lv st x) : ax_At V pc lv (.int a :: st) x := by
  obtain ⟨Sd, G, ⟨p, l, e, R, s, m, args, below, meth, c⟩, rv, sf⟩ := V
  obtain ⟨off, d, rfl, ht⟩ := d
  intro H locs ls hP hS hl
  exact lv_if_gt hV.1 hV.2.1 d ht (fun q => k1 q H locs ls hP hS hl) (fun q => k2 q H locs ls hP hS hl)
theorem ax_icmp_le {V : ax_V} {μ : ax_Mu} (hV : ax_ok V μ) {pc nx : Nat} {lv : List (Option Value)} {st : List Value} {x : ax_S} {tgt : Nat} {a b : Int32} (d : ax_B μ.2.1 pc (.if_icmp .le) nx tgt) (k1 : a ≤ b → ax_At V tgt lv st x) (k2 : ¬ a ≤ b → ax_At V nx lv st x) : ax_At V pc lv (.int b :: .int a :: st) x := by
  obtain ⟨Sd, G, ⟨p, l, e, R, s, m, args, below, meth, c⟩, rv, sf⟩ := V
  obtain ⟨off, d, rfl, ht⟩ := d
  intro H locs ls hP hS hl
  exact lv_icmp_le hV.1 hV.2.1 d ht (fun q => k1 q H locs ls hP hS hl) (fun q => k2 q H locs ls hP hS hl)
theorem ax_if_le {V : ax_V} {μ : ax_Mu} (hV : ax_ok V μ) {pc nx : Nat} {lv : List (Option Value)} {st : List Value} {x : ax_S} {tgt : Nat} {a : Int32} (d : ax_B μ.2.1 pc (.ifCond .le) nx tgt) (k1 : a ≤ 0 → ax_At V tgt lv st x) (k2 : ¬ a ≤ 0 → ax_At V nx lv st x) : ax_At V pc lv (.int a :: st) x := by
  obtain ⟨Sd, G, ⟨p, l, e, R, s, m, args, below, meth, c⟩, rv, sf⟩ := V
  obtain ⟨off, d, rfl, ht⟩ := d
  intro H locs ls hP hS hl
  exact lv_if_le hV.1 hV.2.1 d ht (fun q => k1 q H locs ls hP hS hl) (fun q => k2 q H locs ls hP hS hl)
theorem ax_goto {V : ax_V} {μ : ax_Mu} (hV : ax_ok V μ) {pc nx : Nat} {lv : List (Option Value)} {st : List Value} {x : ax_S} {tgt : Nat} (d : ax_B μ.2.1 pc (.goto) nx tgt) (k : ax_At V tgt lv st x) : ax_At V pc lv st x := by
  obtain ⟨Sd, G, ⟨p, l, e, R, s, m, args, below, meth, c⟩, rv, sf⟩ := V
  obtain ⟨off, d, rfl, ht⟩ := d
  intro H locs ls hP hS hl
  exact lv_goto hV.1 hV.2.1 d ht (k H locs ls hP hS hl)
theorem ax_tsw {V : ax_V} {μ : ax_Mu} (hV : ax_ok V μ) {pc nx : Nat} {lv : List (Option Value)} {st : List Value} {x : ax_S} {dflt hi : Int} {offs : Array Int} {len : Nat} {a : Int32} (i : Nat) (ha : a = Int32.ofNat i) {off : Int} {tgt : Nat} (d : ax_D μ.2.1 pc (.tableswitch dflt 0 hi offs) len nx) (ho : offs[i]? = some off) (ht : (pc : Int) + off = (tgt : Int)) (hi1 : (i : Int) ≤ hi) (hi2 : hi < 1000) (k : ax_At V tgt lv st x) : ax_At V pc lv (.int a :: st) x := by
  obtain ⟨Sd, G, ⟨p, l, e, R, s, m, args, below, meth, c⟩, rv, sf⟩ := V
  have d := d.1
  subst ha
  have hv : (Int32.ofNat i).toInt = (i : Int) := Int32.toInt_ofNat_of_lt (by omega)
  intro H locs ls hP hS hl
  exact lv_tableIn hV.1 hV.2.1 d (by rw [hv]; omega) (by rw [hv]; omega) (by rw [hv]; simpa using ho) ht (k H locs ls hP hS hl)
def ax_nk (a : Int32) (n : Nat) : Prop := ∀ k : Nat, k < n → ¬ a = Int32.ofNat k
theorem ax_nk_0 {a : Int32} : ax_nk a 0 := fun k h => absurd h (by omega)
theorem ax_nk_s {a : Int32} {n : Nat} (h : ax_nk a n) (h2 : ¬ a = Int32.ofNat n) : ax_nk a (n + 1) := fun k hk => by
  rcases Nat.lt_or_ge k n with q | q
  · exact h k q
  · have : k = n := by omega
    subst this
    exact h2
theorem ax_tswd {V : ax_V} {μ : ax_Mu} (hV : ax_ok V μ) {pc nx : Nat} {lv : List (Option Value)} {st : List Value} {x : ax_S} {dflt hi : Int} {offs : Array Int} {len : Nat} {a : Int32} {n : Nat} (hn : ax_nk a n) {tgt : Nat} (d : ax_D μ.2.1 pc (.tableswitch dflt 0 hi offs) len nx) (ht : (pc : Int) + dflt = (tgt : Int)) (hh : hi + 1 = (n : Int)) (k : ax_At V tgt lv st x) : ax_At V pc lv (.int a :: st) x := by
  obtain ⟨Sd, G, ⟨p, l, e, R, s, m, args, below, meth, c⟩, rv, sf⟩ := V
  have d := d.1
  intro H locs ls hP hS hl
  refine lv_tableOut hV.1 hV.2.1 d ?_ ht (k H locs ls hP hS hl)
  by_cases h1 : a.toInt < 0
  · exact Or.inl h1
  · refine Or.inr ?_
    rcases Int.lt_or_le hi a.toInt with q | q
    · exact q
    · refine absurd ?_ (hn a.toInt.toNat (by omega))
      apply Int32.toInt_inj.mp
      have := a.toInt_lt
      rw [Int32.toInt_ofNat_of_lt (by omega)]
      omega
/-- the field link: class ci of cx_cls, its field j -/
def ax_F (own : String) (ix ci j : Nat) : Prop := ∃ (C : String) (T : u_T) (N : Nat), cx_cls[ci]? = some (C, T, N) ∧ j < N ∧ (∀ w ∈ u_ws C T N, w ∈ ax_tb) ∧ Cond.fieldLink own ix (T j).1 (T j).2.1 (T j).2.2.1 ∈ ax_tb
def ax_Fp (own : String) (ix ci j : Nat) (ty : FieldType) : Prop := ∃ (C : String) (T : u_T) (N : Nat) (ty0 : Nat → FieldType), cx_cls[ci]? = some (C, T, N) ∧ j < N ∧ (∀ w ∈ u_ws C T N, w ∈ ax_tb) ∧ Cond.fieldLink own ix (T j).1 (T j).2.1 (T j).2.2.1 ∈ ax_tb ∧ (∀ k, k < N → parseFieldDescriptor (T k).2.2.1 = some (ty0 k)) ∧ (∀ a, a < N → ∀ b, b < N → a ≠ b → (T a).2.1 ≠ (T b).2.1) ∧ (T j).2.2.2 = false ∧ parseFieldDescriptor (T j).2.2.1 = some ty
theorem ax_fs_get {ad : Nat → Nat} {s : ax_S} {k j t : Nat} {fds : List Nat} (h : fds[j]? = some t) : (ax_fs ad s k fds)[j]? = some (ax_fv ad s k j t) := by
  simp [ax_fs, ax_mi_get, h]
theorem ax_fs_len {ad : Nat → Nat} {s : ax_S} {k : Nat} {fds : List Nat} : (ax_fs ad s k fds).length = fds.length := by simp [ax_fs, ax_mi_len]
theorem ax_gf {V : ax_V} {μ : ax_Mu} (hV : ax_ok V μ) {pc nx : Nat} {lv : List (Option Value)} {st : List Value} {x : ax_S} {ix ci j t a : Nat} {fds : List Nat} (hf : ax_F μ.1.cls ix ci j) (d : ax_D μ.2.1 pc (.getfield ix) 3 nx) (hL : V.1.1[a]? = some (0, ci, fds)) (ht : fds[j]? = some t) (k : ax_At V nx lv (ax_fv (ax_ad V) x a j t :: st) x) : ax_At V pc lv (.ref (ax_ad V a) :: st) x := by
  obtain ⟨Sd, G, ⟨p, l, e, R, s, m, args, below, meth, c⟩, rv, sf⟩ := V
  obtain ⟨d, rfl⟩ := d
  obtain ⟨C, T, N, hc, hj, hin, hlk⟩ := hf
  intro H locs ls hP hS hl
  exact va_get hV.1 hV.2.1 hV.2.2.2.2.1 hin hV.2.2.2.1 hV.2.2.2.2.2.1 hP a (ax_ws_get (G := G) (s := x) hL) hc j hj (hV.2.2.2.2.1 _ hlk) (fun _ h => h) (ax_fs_get ht) d (k H locs ls hP hS hl)
theorem ax_gfi {V : ax_V} {μ : ax_Mu} (hV : ax_ok V μ) {pc nx : Nat} {lv : List (Option Value)} {st : List Value} {x : ax_S} {ix ci j a : Nat} {fds : List Nat} (hf : ax_F μ.1.cls ix ci j) (d : ax_D μ.2.1 pc (.getfield ix) 3 nx) (hL : V.1.1[a]? = some (0, ci, fds)) (ht : fds[j]? = some 0) (k : ax_At V nx lv (.int (x.1 a j) :: st) x) : ax_At V pc lv (.ref (ax_ad V a) :: st) x := ax_gf hV hf d hL ht k
theorem ax_gfl {V : ax_V} {μ : ax_Mu} (hV : ax_ok V μ) {pc nx : Nat} {lv : List (Option Value)} {st : List Value} {x : ax_S} {ix ci j a : Nat} {fds : List Nat} (hf : ax_F μ.1.cls ix ci j) (d : ax_D μ.2.1 pc (.getfield ix) 3 nx) (hL : V.1.1[a]? = some (0, ci, fds)) (ht : fds[j]? = some 1) (k : ax_At V nx lv (.long (x.2 a j) :: st) x) : ax_At V pc lv (.ref (ax_ad V a) :: st) x := ax_gf hV hf d hL ht k
theorem ax_gfr {V : ax_V} {μ : ax_Mu} (hV : ax_ok V μ) {pc nx : Nat} {lv : List (Option Value)} {st : List Value} {x : ax_S} {ix ci j a b : Nat} {fds : List Nat} (hf : ax_F μ.1.cls ix ci j) (d : ax_D μ.2.1 pc (.getfield ix) 3 nx) (hL : V.1.1[a]? = some (0, ci, fds)) (ht : fds[j]? = some (b + 2)) (k : ax_At V nx lv (.ref (ax_ad V b) :: st) x) : ax_At V pc lv (.ref (ax_ad V a) :: st) x := ax_gf hV hf d hL ht k
theorem ax_fs_ui {ad : Nat → Nat} {s : ax_S} {k j : Nat} {v : Int32} {fds : List Nat} (h : fds[j]? = some 0) : (ax_fs ad s k fds).set j (.int v) = ax_fs ad (ax_ui s k j v) k fds := by
  apply List.ext_getElem?
  intro i
  by_cases hi : j = i
  · subst hi
    rw [List.getElem?_set_self (by rw [ax_fs_len]; exact (List.getElem?_eq_some_iff.mp h).1), ax_fs_get h]
    simp [ax_fv, ax_ui]
  · rw [List.getElem?_set_ne hi]
    simp only [ax_fs, ax_mi_get, Nat.zero_add]
    cases hf : fds[i]? with
    | none => rfl
    | some t =>
      have hi2 : ¬ i = j := fun q => hi q.symm
      match t with
      | 0 => simp [ax_fv, ax_ui, hi2]
      | 1 => simp [ax_fv, ax_ui]
      | t + 2 => simp [ax_fv]
theorem ax_fs_ul {ad : Nat → Nat} {s : ax_S} {k j : Nat} {v : Int64} {fds : List Nat} (h : fds[j]? = some 1) : (ax_fs ad s k fds).set j (.long v) = ax_fs ad (ax_ul s k j v) k fds := by
  apply List.ext_getElem?
  intro i
  by_cases hi : j = i
  · subst hi
    rw [List.getElem?_set_self (by rw [ax_fs_len]; exact (List.getElem?_eq_some_iff.mp h).1), ax_fs_get h]
    simp [ax_fv, ax_ul]
  · rw [List.getElem?_set_ne hi]
    simp only [ax_fs, ax_mi_get, Nat.zero_add]
    cases hf : fds[i]? with
    | none => rfl
    | some t =>
      have hi2 : ¬ i = j := fun q => hi q.symm
      match t with
      | 0 => simp [ax_fv, ax_ul]
      | 1 => simp [ax_fv, ax_ul, hi2]
      | t + 2 => simp [ax_fv]
theorem ax_pfi {V : ax_V} {μ : ax_Mu} (hV : ax_ok V μ) {pc nx : Nat} {lv : List (Option Value)} {st : List Value} {x : ax_S} {ix ci j a : Nat} {fds : List Nat} {v : Int32} (hf : ax_Fp μ.1.cls ix ci j .int) (d : ax_D μ.2.1 pc (.putfield ix) 3 nx) (hL : V.1.1[a]? = some (0, ci, fds)) (ht : fds[j]? = some 0) (k : ax_At V nx lv st (ax_ui x a j v)) : ax_At V pc lv (.int v :: .ref (ax_ad V a) :: st) x := by
  obtain ⟨Sd, G, ⟨p, l, e, R, s, m, args, below, meth, c⟩, rv, sf⟩ := V
  obtain ⟨d, rfl⟩ := d
  obtain ⟨C, T, N, ty0, hc, hj, hin, hlk, hty, hnm, hfin, hd⟩ := hf
  intro H locs ls hP hS hl
  refine va_put hV.1 hV.2.1 hV.2.2.2.2.1 hin ty0 hty hnm hV.2.2.2.1 hV.2.2.2.2.2.1 hP (ax_D_of hV.2.2.2.2.2.2.1 x) hS a (ax_ws_get (G := G) (s := x) hL) hc j hj (hV.2.2.2.2.1 _ hlk) (fun _ h => h) hfin hd rfl rfl (by rw [ax_fs_len]; exact (List.getElem?_eq_some_iff.mp ht).1) d (fun H1 locs1 hP1 _ hS1 => ?_)
  refine k H1 locs1 ls ?_ hS1 hl
  rw [ax_ws_set (s' := ax_ui x a j v) hL (by simp only [ax_e]; rw [ax_fs_ui ht]) (fun i d' hi => ax_e_congr (by exact ax_ui_ne hi) (by rfl) d')] at hP1
  exact hP1
theorem ax_pfl {V : ax_V} {μ : ax_Mu} (hV : ax_ok V μ) {pc nx : Nat} {lv : List (Option Value)} {st : List Value} {x : ax_S} {ix ci j a : Nat} {fds : List Nat} {v : Int64} (hf : ax_Fp μ.1.cls ix ci j .long) (d : ax_D μ.2.1 pc (.putfield ix) 3 nx) (hL : V.1.1[a]? = some (0, ci, fds)) (ht : fds[j]? = some 1) (k : ax_At V nx lv st (ax_ul x a j v)) : ax_At V pc lv (.long v :: .ref (ax_ad V a) :: st) x := by
  obtain ⟨Sd, G, ⟨p, l, e, R, s, m, args, below, meth, c⟩, rv, sf⟩ := V
  obtain ⟨d, rfl⟩ := d
  obtain ⟨C, T, N, ty0, hc, hj, hin, hlk, hty, hnm, hfin, hd⟩ := hf
  intro H locs ls hP hS hl
  refine va_put hV.1 hV.2.1 hV.2.2.2.2.1 hin ty0 hty hnm hV.2.2.2.1 hV.2.2.2.2.2.1 hP (ax_D_of hV.2.2.2.2.2.2.1 x) hS a (ax_ws_get (G := G) (s := x) hL) hc j hj (hV.2.2.2.2.1 _ hlk) (fun _ h => h) hfin hd rfl rfl (by rw [ax_fs_len]; exact (List.getElem?_eq_some_iff.mp ht).1) d (fun H1 locs1 hP1 _ hS1 => ?_)
  refine k H1 locs1 ls ?_ hS1 hl
  rw [ax_ws_set (s' := ax_ul x a j v) hL (by simp only [ax_e]; rw [ax_fs_ul ht]) (fun i d' hi => ax_e_congr (by rfl) (by exact ax_ul_ne hi) d')] at hP1
  exact hP1
def ax_zb (v : Int32) : Option Int32 := if v &&& 1 = v ∧ (v = 0 ∨ v = 1) then some v else none
theorem ax_pfz {V : ax_V} {μ : ax_Mu} (hV : ax_ok V μ) {pc nx : Nat} {lv : List (Option Value)} {st : List Value} {x : ax_S} {ix ci j a : Nat} {fds : List Nat} {v : Int32} (hf : ax_Fp μ.1.cls ix ci j .boolean) (d : ax_D μ.2.1 pc (.putfield ix) 3 nx) (hL : V.1.1[a]? = some (0, ci, fds)) (ht : fds[j]? = some 0) (v' : Int32) (ho : ax_zb v = some v') (k : ax_At V nx lv st (ax_ui x a j v')) : ax_At V pc lv (.int v :: .ref (ax_ad V a) :: st) x := by
  obtain ⟨Sd, G, ⟨p, l, e, R, s, m, args, below, meth, c⟩, rv, sf⟩ := V
  obtain ⟨d, rfl⟩ := d
  unfold ax_zb at ho
  split at ho
  · rename_i hz
    cases ho
    obtain ⟨C, T, N, ty0, hc, hj, hin, hlk, hty, hnm, hfin, hd⟩ := hf
    intro H locs ls hP hS hl
    refine va_put hV.1 hV.2.1 hV.2.2.2.2.1 hin ty0 hty hnm hV.2.2.2.1 hV.2.2.2.2.2.1 hP (ax_D_of hV.2.2.2.2.2.2.1 x) hS a (ax_ws_get (G := G) (s := x) hL) hc j hj (hV.2.2.2.2.1 _ hlk) (fun _ h => h) hfin hd (by simp only [narrow]; rw [hz.1]) (by rcases hz.2 with h | h <;> subst h <;> rfl) (by rw [ax_fs_len]; exact (List.getElem?_eq_some_iff.mp ht).1) d (fun H1 locs1 hP1 _ hS1 => ?_)
    refine k H1 locs1 ls ?_ hS1 hl
    rw [ax_ws_set (s' := ax_ui x a j v) hL (by simp only [ax_e]; rw [ax_fs_ui ht]) (fun i d' hi => ax_e_congr (by exact ax_ui_ne hi) (by rfl) d')] at hP1
    exact hP1
  · cases ho
end
section
def ax_len (Sd : ax_Sd) (kd a : Nat) : Option Nat := match Sd.1[a]? with
  | some (k, n, _) => if k = kd then some n else none
  | none => none
theorem ax_len_some {Sd : ax_Sd} {kd a n : Nat} (h : ax_len Sd kd a = some n) : ∃ fds, Sd.1[a]? = some (kd, n, fds) := by
  unfold ax_len at h
  cases hs : Sd.1[a]? with
  | none => rw [hs] at h; cases h
  | some q =>
    obtain ⟨k, m, fds⟩ := q
    rw [hs] at h
    simp only at h
    split at h
    · rename_i hk
      cases h
      subst hk
      exact ⟨fds, rfl⟩
    · cases h
def ax_ai (Sd : ax_Sd) (x : ax_S) (a : Nat) (i : Int32) : Option Int32 := (ax_len Sd 1 a).bind (fun n => if i < 0 ∨ n ≤ i.toNatClampNeg then none else some (x.1 a i.toNatClampNeg))
def ax_al (Sd : ax_Sd) (x : ax_S) (a : Nat) (i : Int32) : Option Int64 := (ax_len Sd 2 a).bind (fun n => if i < 0 ∨ n ≤ i.toNatClampNeg then none else some (x.2 a i.toNatClampNeg))
def ax_ab (Sd : ax_Sd) (x : ax_S) (a : Nat) (i : Int32) : Option Int32 := (ax_len Sd 3 a).bind (fun n => if i < 0 ∨ n ≤ i.toNatClampNeg then none else some (x.1 a i.toNatClampNeg))
def ax_si (Sd : ax_Sd) (x : ax_S) (a : Nat) (i v : Int32) : Option ax_S := (ax_len Sd 1 a).bind (fun n => if i < 0 ∨ n ≤ i.toNatClampNeg then none else some (ax_ui x a i.toNatClampNeg v))
def ax_sl (Sd : ax_Sd) (x : ax_S) (a : Nat) (i : Int32) (v : Int64) : Option ax_S := (ax_len Sd 2 a).bind (fun n => if i < 0 ∨ n ≤ i.toNatClampNeg then none else some (ax_ul x a i.toNatClampNeg v))
def ax_sb (Sd : ax_Sd) (x : ax_S) (a : Nat) (i v : Int32) : Option ax_S := (ax_len Sd 3 a).bind (fun n => if i < 0 ∨ n ≤ i.toNatClampNeg then none else some (ax_ui x a i.toNatClampNeg (vp_nar .boolean v)))
def ax_ln (Sd : ax_Sd) (a : Nat) : Option Int32 := (ax_len Sd 1 a).map Int32.ofNat
theorem ax_iald {V : ax_V} {μ : ax_Mu} (hV : ax_ok V μ) {pc nx : Nat} {lv : List (Option Value)} {st : List Value} {x : ax_S} {a : Nat} {i : Int32} (d : ax_D μ.2.1 pc .iaload 1 nx) (v : Int32) (ho : ax_ai V.1 x a i = some v) (k : ax_At V nx lv (.int v :: st) x) : ax_At V pc lv (.int i :: .ref (ax_ad V a) :: st) x := by
  obtain ⟨Sd, G, ⟨p, l, e, R, s, m, args, below, meth, c⟩, rv, sf⟩ := V
  obtain ⟨d, rfl⟩ := d
  obtain ⟨n, hn, hi⟩ := Option.bind_eq_some_iff.mp ho
  obtain ⟨fds, hL⟩ := ax_len_some hn
  split at hi
  · cases hi
  · rename_i hin
    cases hi
    intro H locs ls hP hS hl
    exact va_iald hV.1 hV.2.1 hV.2.2.2.2.2.1 hP a 0 (ax_ws_get (G := G) (s := x) hL) rfl hin d (k H locs ls hP hS hl)
theorem ax_lald {V : ax_V} {μ : ax_Mu} (hV : ax_ok V μ) {pc nx : Nat} {lv : List (Option Value)} {st : List Value} {x : ax_S} {a : Nat} {i : Int32} (d : ax_D μ.2.1 pc .laload 1 nx) (v : Int64) (ho : ax_al V.1 x a i = some v) (k : ax_At V nx lv (.long v :: st) x) : ax_At V pc lv (.int i :: .ref (ax_ad V a) :: st) x := by
  obtain ⟨Sd, G, ⟨p, l, e, R, s, m, args, below, meth, c⟩, rv, sf⟩ := V
  obtain ⟨d, rfl⟩ := d
  obtain ⟨n, hn, hi⟩ := Option.bind_eq_some_iff.mp ho
  obtain ⟨fds, hL⟩ := ax_len_some hn
  split at hi
  · cases hi
  · rename_i hin
    cases hi
    intro H locs ls hP hS hl
    exact va_lald hV.1 hV.2.1 hV.2.2.2.2.2.1 hP a 1 (ax_ws_get (G := G) (s := x) hL) rfl hin d (k H locs ls hP hS hl)
theorem ax_bald {V : ax_V} {μ : ax_Mu} (hV : ax_ok V μ) {pc nx : Nat} {lv : List (Option Value)} {st : List Value} {x : ax_S} {a : Nat} {i : Int32} (d : ax_D μ.2.1 pc .baload 1 nx) (v : Int32) (ho : ax_ab V.1 x a i = some v) (k : ax_At V nx lv (.int v :: st) x) : ax_At V pc lv (.int i :: .ref (ax_ad V a) :: st) x := by
  obtain ⟨Sd, G, ⟨p, l, e, R, s, m, args, below, meth, c⟩, rv, sf⟩ := V
  obtain ⟨d, rfl⟩ := d
  obtain ⟨n, hn, hi⟩ := Option.bind_eq_some_iff.mp ho
  obtain ⟨fds, hL⟩ := ax_len_some hn
  split at hi
  · cases hi
  · rename_i hin
    cases hi
    intro H locs ls hP hS hl
    exact va_zald hV.1 hV.2.1 hV.2.2.2.2.2.1 hP a 2 (ax_ws_get (G := G) (s := x) hL) rfl hin d (k H locs ls hP hS hl)
theorem ax_iast {V : ax_V} {μ : ax_Mu} (hV : ax_ok V μ) {pc nx : Nat} {lv : List (Option Value)} {st : List Value} {x : ax_S} {a : Nat} {i : Int32} {v : Int32} (d : ax_D μ.2.1 pc .iastore 1 nx) (x' : ax_S) (ho : ax_si V.1 x a i v = some x') (k : ax_At V nx lv st x') : ax_At V pc lv (.int v :: .int i :: .ref (ax_ad V a) :: st) x := by
  obtain ⟨Sd, G, ⟨p, l, e, R, s, m, args, below, meth, c⟩, rv, sf⟩ := V
  obtain ⟨d, rfl⟩ := d
  obtain ⟨n, hn, hi⟩ := Option.bind_eq_some_iff.mp ho
  obtain ⟨fds, hL⟩ := ax_len_some hn
  split at hi
  · cases hi
  · rename_i hin
    cases hi
    intro H locs ls hP hS hl
    refine va_iast hV.1 hV.2.1 hV.2.2.2.2.2.1 hP (ax_D_of hV.2.2.2.2.2.2.1 x) hS a 0 (ax_ws_get (G := G) (s := x) hL) rfl hin d (fun H1 locs1 hP1 _ hS1 => ?_)
    refine k H1 locs1 ls ?_ hS1 hl
    rw [ax_ws_set (s' := ax_ui x a i.toNatClampNeg v) hL (by
      simp only [ax_e]
      have : upd (x.1 a) i.toNatClampNeg v = (ax_ui x a i.toNatClampNeg v).1 a := by
        funext j
        simp [upd, ax_ui]
      rw [this]) (fun i d' hi => ax_e_congr (by exact ax_ui_ne hi) (by rfl) d')] at hP1
    exact hP1
theorem ax_last {V : ax_V} {μ : ax_Mu} (hV : ax_ok V μ) {pc nx : Nat} {lv : List (Option Value)} {st : List Value} {x : ax_S} {a : Nat} {i : Int32} {v : Int64} (d : ax_D μ.2.1 pc .lastore 1 nx) (x' : ax_S) (ho : ax_sl V.1 x a i v = some x') (k : ax_At V nx lv st x') : ax_At V pc lv (.long v :: .int i :: .ref (ax_ad V a) :: st) x := by
  obtain ⟨Sd, G, ⟨p, l, e, R, s, m, args, below, meth, c⟩, rv, sf⟩ := V
  obtain ⟨d, rfl⟩ := d
  obtain ⟨n, hn, hi⟩ := Option.bind_eq_some_iff.mp ho
  obtain ⟨fds, hL⟩ := ax_len_some hn
  split at hi
  · cases hi
  · rename_i hin
    cases hi
    intro H locs ls hP hS hl
    refine va_last hV.1 hV.2.1 hV.2.2.2.2.2.1 hP (ax_D_of hV.2.2.2.2.2.2.1 x) hS a 1 (ax_ws_get (G := G) (s := x) hL) rfl hin d (fun H1 locs1 hP1 _ hS1 => ?_)
    refine k H1 locs1 ls ?_ hS1 hl
    rw [ax_ws_set (s' := ax_ul x a i.toNatClampNeg v) hL (by
      simp only [ax_e]
      have : vp_updL (x.2 a) i.toNatClampNeg v = (ax_ul x a i.toNatClampNeg v).2 a := by
        funext j
        simp [vp_updL, ax_ul]
      rw [this]) (fun i d' hi => ax_e_congr (by rfl) (by exact ax_ul_ne hi) d')] at hP1
    exact hP1
theorem ax_bast {V : ax_V} {μ : ax_Mu} (hV : ax_ok V μ) {pc nx : Nat} {lv : List (Option Value)} {st : List Value} {x : ax_S} {a : Nat} {i : Int32} {v : Int32} (d : ax_D μ.2.1 pc .bastore 1 nx) (x' : ax_S) (ho : ax_sb V.1 x a i v = some x') (k : ax_At V nx lv st x') : ax_At V pc lv (.int v :: .int i :: .ref (ax_ad V a) :: st) x := by
  obtain ⟨Sd, G, ⟨p, l, e, R, s, m, args, below, meth, c⟩, rv, sf⟩ := V
  obtain ⟨d, rfl⟩ := d
  obtain ⟨n, hn, hi⟩ := Option.bind_eq_some_iff.mp ho
  obtain ⟨fds, hL⟩ := ax_len_some hn
  split at hi
  · cases hi
  · rename_i hin
    cases hi
    intro H locs ls hP hS hl
    refine va_zast hV.1 hV.2.1 hV.2.2.2.2.2.1 hP (ax_D_of hV.2.2.2.2.2.2.1 x) hS a 2 (ax_ws_get (G := G) (s := x) hL) rfl hin d (fun H1 locs1 hP1 _ hS1 => ?_)
    refine k H1 locs1 ls ?_ hS1 hl
    rw [ax_ws_set (s' := ax_ui x a i.toNatClampNeg (vp_nar .boolean v)) hL (by
      simp only [ax_e]
      have : upd (x.1 a) i.toNatClampNeg (vp_nar .boolean v) = (ax_ui x a i.toNatClampNeg (vp_nar .boolean v)).1 a := by
        funext j
        simp [upd, ax_ui]
      rw [this]) (fun i d' hi => ax_e_congr (by exact ax_ui_ne hi) (by rfl) d')] at hP1
    exact hP1
theorem ax_alen {V : ax_V} {μ : ax_Mu} (hV : ax_ok V μ) {pc nx : Nat} {lv : List (Option Value)} {st : List Value} {x : ax_S} {a : Nat} (d : ax_D μ.2.1 pc .arraylength 1 nx) (v : Int32) (ho : ax_ln V.1 a = some v) (k : ax_At V nx lv (.int v :: st) x) : ax_At V pc lv (.ref (ax_ad V a) :: st) x := by
  obtain ⟨Sd, G, ⟨p, l, e, R, s, m, args, below, meth, c⟩, rv, sf⟩ := V
  obtain ⟨d, rfl⟩ := d
  obtain ⟨n, hn, hi⟩ := Option.map_eq_some_iff.mp ho
  obtain ⟨fds, hL⟩ := ax_len_some hn
  intro H locs ls hP hS hl
  exact va_alen hV.1 hV.2.1 hV.2.2.2.2.2.1 hP a 0 (ax_ws_get (G := G) (s := x) hL) (ty := .int) rfl hi d (k H locs ls hP hS hl)
def ax_sa (N : Nat) (f : Nat → Int32) (i : Int32) : Option Int32 := if i < 0 ∨ N ≤ i.toNatClampNeg then none else some (f i.toNatClampNeg)
theorem ax_gst {V : ax_V} {μ : ax_Mu} (hV : ax_ok V μ) {pc nx : Nat} {lv : List (Option Value)} {st : List Value} {x : ax_S} {ix b N : Nat} {C n : String} {f : Nat → Int32} (hq : (C, n, b, N, f) ∈ V.1.2) (hlk : Cond.fieldLink μ.1.cls ix C n "[I" ∈ ax_tb) (d : ax_D μ.2.1 pc (.getstatic ix) 3 nx) (k : ax_At V nx lv (.ref (ax_ad V b) :: st) x) : ax_At V pc lv st x := by
  obtain ⟨Sd, G, ⟨p, l, e, R, s, m, args, below, meth, c⟩, rv, sf⟩ := V
  obtain ⟨d, rfl⟩ := d
  intro H locs ls hP hS hl
  exact va_gets hV.1 hV.2.1 (hV.2.2.2.2.2.2.2.1 _ hq).1 hS hV.2.2.2.1 (hV.2.2.2.2.1 _ hlk) (fun _ h => h) d (k H locs ls hP hS hl)
theorem ax_sald {V : ax_V} {μ : ax_Mu} (hV : ax_ok V μ) {pc nx : Nat} {lv : List (Option Value)} {st : List Value} {x : ax_S} {b N : Nat} {C n : String} {f : Nat → Int32} {i : Int32} (hq : (C, n, b, N, f) ∈ V.1.2) (d : ax_D μ.2.1 pc .iaload 1 nx) (v : Int32) (ho : ax_sa N f i = some v) (k : ax_At V nx lv (.int v :: st) x) : ax_At V pc lv (.int i :: .ref (ax_ad V b) :: st) x := by
  obtain ⟨Sd, G, ⟨p, l, e, R, s, m, args, below, meth, c⟩, rv, sf⟩ := V
  obtain ⟨d, rfl⟩ := d
  unfold ax_sa at ho
  split at ho
  · cases ho
  · rename_i hin
    cases ho
    intro H locs ls hP hS hl
    exact va_ti hV.1 hV.2.1 (hV.2.2.2.2.2.2.2.1 _ hq).2 hS hin rfl d (k H locs ls hP hS hl)
theorem ax_ir {V : ax_V} {μ : ax_Mu} (hV : ax_ok V μ) {pc nx : Nat} {lv : List (Option Value)} {x : ax_S} {a : Int32} (hr : μ.2.2.2.1 = some .int) (d : ax_D μ.2.1 pc .ireturn 1 nx) (ho : V.2.2.2 = (some (.int a), x)) : ax_At V pc lv [.int a] x := by
  obtain ⟨Sd, G, ⟨p, l, e, R, s, m, args, below, meth, c⟩, rv, sf⟩ := V
  obtain ⟨d, rfl⟩ := d
  cases ho
  intro H locs ls hP hS hl
  exact W.iret hV.1 hV.2.1 (hV.2.2.2.2.2.2.2.2.1.trans hr) (fun t ht _ => ⟨⟨a, (), rfl, rfl, (show va_P G.1 cx_cls (ax_ws Sd.1 G x) t.heap by rw [ht]; exact hP)⟩, by rw [ht]; exact hS.1, fun q hq hA => by rw [ht]; exact hS.2.1 q hq hA⟩) hS.2.2 d hV.2.2.2.2.2.2.2.2.2.1
theorem ax_lr {V : ax_V} {μ : ax_Mu} (hV : ax_ok V μ) {pc nx : Nat} {lv : List (Option Value)} {x : ax_S} {a : Int64} (hr : μ.2.2.2.1 = some .long) (d : ax_D μ.2.1 pc .lreturn 1 nx) (ho : V.2.2.2 = (some (.long a), x)) : ax_At V pc lv [.long a] x := by
  obtain ⟨Sd, G, ⟨p, l, e, R, s, m, args, below, meth, c⟩, rv, sf⟩ := V
  obtain ⟨d, rfl⟩ := d
  cases ho
  intro H locs ls hP hS hl
  exact W.lret hV.1 hV.2.1 (hV.2.2.2.2.2.2.2.2.1.trans hr) (fun t ht _ => ⟨⟨a, (), rfl, rfl, (show va_P G.1 cx_cls (ax_ws Sd.1 G x) t.heap by rw [ht]; exact hP)⟩, by rw [ht]; exact hS.1, fun q hq hA => by rw [ht]; exact hS.2.1 q hq hA⟩) hS.2.2 d hV.2.2.2.2.2.2.2.2.2.1
theorem ax_zr {V : ax_V} {μ : ax_Mu} (hV : ax_ok V μ) {pc nx : Nat} {lv : List (Option Value)} {x : ax_S} {a : Int32} (hr : μ.2.2.2.1 = some .boolean) (hz : a &&& 1 = a) (d : ax_D μ.2.1 pc .ireturn 1 nx) (ho : V.2.2.2 = (some (.int a), x)) : ax_At V pc lv [.int a] x := by
  obtain ⟨Sd, G, ⟨p, l, e, R, s, m, args, below, meth, c⟩, rv, sf⟩ := V
  obtain ⟨d, rfl⟩ := d
  cases ho
  intro H locs ls hP hS hl
  exact W.zret hV.1 hV.2.1 (hV.2.2.2.2.2.2.2.2.1.trans hr) (by simp only [narrow]; rw [hz]) (fun t ht _ => ⟨⟨a, (), rfl, rfl, (show va_P G.1 cx_cls (ax_ws Sd.1 G x) t.heap by rw [ht]; exact hP)⟩, by rw [ht]; exact hS.1, fun q hq hA => by rw [ht]; exact hS.2.1 q hq hA⟩) hS.2.2 d hV.2.2.2.2.2.2.2.2.2.1
theorem ax_zb_and {a b : Int32} (h : ax_zb a = some b) : b &&& 1 = b ∧ a = b := by
  unfold ax_zb at h
  split at h
  · rename_i q
    cases h
    exact ⟨q.1, rfl⟩
  · cases h
theorem ax_zr2 {V : ax_V} {μ : ax_Mu} (hV : ax_ok V μ) {pc nx : Nat} {lv : List (Option Value)} {x : ax_S} {a : Int32} (hr : μ.2.2.2.1 = some .boolean) (d : ax_D μ.2.1 pc .ireturn 1 nx) (b : Int32) (hz : ax_zb a = some b) (ho : V.2.2.2 = (some (.int b), x)) : ax_At V pc lv [.int a] x := by
  obtain ⟨h1, h2⟩ := ax_zb_and hz
  subst h2
  exact ax_zr hV hr h1 d ho
theorem ax_jz {V : ax_V} {ρ : Type} {P : ρ → Prop} {pc : Nat} {lv : List (Option Value)} {st : List Value} {x : ax_S} {o : Option Int32} {K : Int32 → ρ} (h : ∀ v, o = some v → P (K v) → ax_At V pc lv st x) : ax_J V P pc lv st x (o.bind (fun v => some (K v))) := fun r hr hp => by
  cases ho : o with
  | none => rw [ho] at hr; cases hr
  | some v =>
    rw [ho] at hr
    cases hr
    exact h v ho hp
theorem ax_vr {V : ax_V} {μ : ax_Mu} (hV : ax_ok V μ) {pc nx : Nat} {lv : List (Option Value)} {x : ax_S} (hr : μ.2.2.2.1 = none) (d : ax_D μ.2.1 pc .return_ 1 nx) (ho : V.2.2.2 = (none, x)) : ax_At V pc lv [] x := by
  obtain ⟨Sd, G, ⟨p, l, e, R, s, m, args, below, meth, c⟩, rv, sf⟩ := V
  obtain ⟨d, rfl⟩ := d
  cases ho
  intro H locs ls hP hS hl
  exact W.vret hV.1 hV.2.1 (hV.2.2.2.2.2.2.2.2.1.trans hr) (fun t ht _ => ⟨⟨(), rfl, trivial, (show va_P G.1 cx_cls (ax_ws Sd.1 G x) t.heap by rw [ht]; exact hP)⟩, by rw [ht]; exact hS.1, fun q hq hA => by rw [ht]; exact hS.2.1 q hq hA⟩) hS.2.2 d hV.2.2.2.2.2.2.2.2.2.1
theorem ax_Z_S {C n d : String} {v : Value} {A : Nat → Prop} {U : State} {H0 H : Heap} {locs : List Loc} (h : va_Z C n d v A U H0) (hS : va_S A H0 H locs) : va_Z C n d v A U H := by
  obtain ⟨cf, kf, fi, f, a, cell, h1, h2, h3, h4, h5, h6, h7, h8⟩ := h
  exact ⟨cf, kf, fi, f, a, cell, h1, h2, h3, h4, by rw [hS.2.1 a (Array.getElem?_eq_some_iff.mp h5).1 h8]; exact h5, h6, h7, h8⟩
theorem ax_T_S {ty : FieldType} {t N : Nat} {f : Nat → Value} {A : Nat → Prop} {U : State} {H0 H : Heap} {locs : List Loc} (h : va_T ty t N f A U H0) (hS : va_S A H0 H locs) : va_T ty t N f A U H := by
  obtain ⟨cell, h1, h2, h3, h4, h5, h6, h7⟩ := h
  exact ⟨cell, by rw [hS.2.1 t (Array.getElem?_eq_some_iff.mp h1).1 h7]; exact h1, h2, h3, h4, h5, h6, h7⟩
theorem ax_stat_to {St : ax_St} {A : Nat → Prop} {G : ax_G} {s U : State} {H0 H : Heap} {locs : List Loc} (h : ax_stat St A G s H0) (hS : va_S A H0 H locs) (hvm : s.vm.Alike U.vm) : ax_stat St A G U H := fun q hq => ⟨va_Z.moved hvm (ax_Z_S (h q hq).1 hS), va_T.moved hvm (ax_T_S (h q hq).2 hS)⟩
theorem ax_blind {Sd : ax_Sd} {G : ax_G} {av : List Value} {x : ax_S} : FrameBlind (va_Pc av (fun U => va_P G.1 cx_cls (ax_ws Sd.1 G x) U.heap ∧ ax_U Sd G U)) := fun a U g mk q => ⟨q.1, q.2.1, va_K.moved (u := U) (U := U.calling g mk a) (Vm.Alike.refl U.vm) q.2.2.1, fun z hz => ⟨va_Z.moved (u := U) (U := U.calling g mk a) (Vm.Alike.refl U.vm) (q.2.2.2 z hz).1, va_T.moved (u := U) (U := U.calling g mk a) (Vm.Alike.refl U.vm) (q.2.2.2 z hz).2⟩⟩
theorem ax_gw : ax_tb.all goodWord = true := List.all_eq_true.mpr (fun w h => (List.mem_filter.mp h).2)
theorem ax_good : GoodIn ax_tb ax_tb := fun w h => ⟨h, good_of_word (List.all_eq_true.mp ax_gw w h)⟩
theorem ax_goodw {μ : ax_Mu} (h : Cond.code μ.1 μ.2.1 μ.2.2.1 μ.2.2.2.1 ∈ ax_tb) : GoodIn ax_tb (ax_w μ) := fun w hw => by
  rcases List.mem_cons.mp hw with q | q
  · subst q
    exact ax_good _ h
  · exact ax_good w q
def ax_nam (μ : ax_Mu) (n : Nat) : Prop := μ.1.cls ≠ "java/lang/invoke/MethodHandle" ∧ μ.1.cls ≠ "java/lang/invoke/VarHandle" ∧ (parseMethodDescriptor μ.1.desc).map (fun d => d.parameters.length) = some n
def ax_lkV (own : String) (ix : Nat) (μ : ax_Mu) (C : String) (n : Nat) : Prop := GoodIn ax_tb (wsV own ix C μ.1 (ax_w μ)) ∧ μ.1.cls = C ∧ ax_nam μ n
def ax_lkS (own : String) (ix : Nat) (μ : ax_Mu) (n : Nat) : Prop := GoodIn ax_tb (va_wsS own ix μ.1 (ax_w μ)) ∧ ax_nam μ n
theorem ax_lkV_of {own : String} {ix : Nat} {μ : ax_Mu} {C : String} {n : Nat} (h1 : Cond.methodLink own ix μ.1 ∈ ax_tb) (h2 : Cond.instanceMethod μ.1 ∈ ax_tb) (h3 : Cond.selects C μ.1 μ.1 ∈ ax_tb) (h4 : Cond.initialized C ∈ ax_tb) (h5 : Cond.code μ.1 μ.2.1 μ.2.2.1 μ.2.2.2.1 ∈ ax_tb) (hc : μ.1.cls = C) (hn : ax_nam μ n) : ax_lkV own ix μ C n := by
  refine ⟨fun w hw => ?_, hc, hn⟩
  rcases List.mem_append.mp hw with q | q
  · simp only [List.mem_cons, List.not_mem_nil, or_false] at q
    rcases q with q | q | q | q <;> subst q
    · exact ax_good _ h1
    · exact ax_good _ h2
    · exact ax_good _ h3
    · exact ax_good _ h4
  · exact ax_goodw h5 w q
theorem ax_lkS_of {own : String} {ix : Nat} {μ : ax_Mu} {n : Nat} (h1 : Cond.methodLink own ix μ.1 ∈ ax_tb) (h2 : Cond.static μ.1 ∈ ax_tb) (h4 : Cond.initialized μ.1.cls ∈ ax_tb) (h5 : Cond.code μ.1 μ.2.1 μ.2.2.1 μ.2.2.2.1 ∈ ax_tb) (hn : ax_nam μ n) : ax_lkS own ix μ n := by
  refine ⟨fun w hw => ?_, hn⟩
  rcases List.mem_append.mp hw with q | q
  · simp only [List.mem_cons, List.not_mem_nil, or_false] at q
    rcases q with q | q | q <;> subst q
    · exact ax_good _ h1
    · exact ax_good _ h2
    · exact ax_good _ h4
  · exact ax_goodw h5 w q
def ax_rmle (μ' μ : ax_Mu) : Bool := Nat.ble (μ'.2.2.2.2.1 + 1) μ.2.2.2.2.1 && Nat.ble (8 + (μ'.2.2.1 + 11) + μ'.2.2.2.2.2) μ.2.2.2.2.2
theorem ax_rmle_R {μ' μ : ax_Mu} {R : Room} (h : ax_rmle μ' μ = true) (hR : R = ax_rm μ) : (ax_rm μ').frames + 1 ≤ R.frames ∧ 8 + (μ'.2.2.1 + 11) + (ax_rm μ').locals ≤ R.locals := by
  subst hR
  have h := Bool.and_eq_true _ _ ▸ h
  exact ⟨Nat.le_of_ble_eq_true h.1, Nat.le_of_ble_eq_true h.2⟩
theorem ax_cVi {V : ax_V} {μ : ax_Mu} (hV : ax_ok V μ) {pc nx : Nat} {lv : List (Option Value)} {st : List Value} {x : ax_S} {μ' : ax_Mu} {ix n a ci N : Nat} {C : String} {T : u_T} {fds : List Nat} (hlk : ax_lkV μ.1.cls ix μ' C n) (hrm : ax_rmle μ' μ = true) (d : ax_D μ.2.1 pc (.invokevirtual ix) 3 nx) (hL : V.1.1[a]? = some (0, ci, fds)) (hc : cx_cls[ci]? = some (C, T, N)) (As rest : List Value) (av : (Nat → Nat) → List Value) (hav : av (ax_ad V) = .ref (ax_ad V a) :: As) (hn : As.length = n) (hst : st = As.reverse ++ .ref (ax_ad V a) :: rest) (hw : Nat.ble ((rest.map fun v => v.category).sum) 8 = true) (r : Int32) (x' : ax_S) (hm : ax_M V.1 μ' av x (some (.int r)) x') (k : ax_At V nx lv (.int r :: rest) x') : ax_At V pc lv st x := by
  obtain ⟨Sd, G, ⟨p, l, e, R, s, m, args, below, meth, c⟩, rv, sf⟩ := V
  obtain ⟨d, rfl⟩ := d
  have hm := hm l G hV.2.2.2.2.2.2.1
  intro H locs ls hP hS hl
  have hm' : Met l μ'.1 (ax_w μ') (ax_rm μ') (va_Pc (av G.2.1) (fun U => va_P G.1 cx_cls (ax_ws Sd.1 G x) U.heap ∧ ax_U Sd G U)) (va_Qi (fun y (_ : Unit) => y = r) (fun _ t => va_P G.1 cx_cls (ax_ws Sd.1 G x') t.heap) (ax_A Sd.1 G)) 0 0 (ax_A Sd.1 G) := hm
  refine va_calli (va_runV (As := As) (rest := rest) ⟨hV.1, hV.2.1, rfl, hV.2.2.2.1, hV.2.2.2.2.1⟩ hm' (cwV n hV.2.2.2.2.1 hlk.1 rfl rfl rfl ⟨hlk.2.1, hlk.2.2⟩ (ax_rmle_R hrm hV.2.2.2.2.2.2.2.2.2.2)) ⟨ax_blind, va_recv hV.2.2.2.2.2.1 hP hc (ax_ws_get (G := G) (s := x) hL), fun U hU hW => ⟨?_, ?_, va_K.moved hW.alike hV.2.2.2.2.2.1, ?_⟩⟩ rfl hn hl.1 hst (lv_room (Nat.le_of_ble_eq_true hw)) d ⟨Nat.zero_le _, Nat.zero_le _⟩) hS (fun q _ h => h) (fun q h => h) (fun r' u t H1 locs1 ht hvm hpost hB hsz hk hS1 => ?_)
  · exact congrArg List.toArray hav.symm
  · rw [hU]; exact hP
  · rw [hU]; exact ax_stat_to hV.2.2.2.2.2.2.2.1 hS hW.alike
  · have hpost : r' = r := hpost
    subst hpost
    rw [ht] at hB
    exact k H1 locs1 ls hB hS1 hl
theorem ax_cSi {V : ax_V} {μ : ax_Mu} (hV : ax_ok V μ) {pc nx : Nat} {lv : List (Option Value)} {st : List Value} {x : ax_S} {μ' : ax_Mu} {ix n : Nat} (hlk : ax_lkS μ.1.cls ix μ' n) (hrm : ax_rmle μ' μ = true) (d : ax_D μ.2.1 pc (.invokestatic ix) 3 nx) (As rest : List Value) (av : (Nat → Nat) → List Value) (hav : av (ax_ad V) = As) (hn : As.length = n) (hst : st = As.reverse ++ rest) (hw : Nat.ble ((rest.map fun v => v.category).sum) 8 = true) (r : Int32) (x' : ax_S) (hm : ax_M V.1 μ' av x (some (.int r)) x') (k : ax_At V nx lv (.int r :: rest) x') : ax_At V pc lv st x := by
  obtain ⟨Sd, G, ⟨p, l, e, R, s, m, args, below, meth, c⟩, rv, sf⟩ := V
  obtain ⟨d, rfl⟩ := d
  have hm := hm l G hV.2.2.2.2.2.2.1
  intro H locs ls hP hS hl
  have hm' : Met l μ'.1 (ax_w μ') (ax_rm μ') (va_Pc (av G.2.1) (fun U => va_P G.1 cx_cls (ax_ws Sd.1 G x) U.heap ∧ ax_U Sd G U)) (va_Qi (fun y (_ : Unit) => y = r) (fun _ t => va_P G.1 cx_cls (ax_ws Sd.1 G x') t.heap) (ax_A Sd.1 G)) 0 0 (ax_A Sd.1 G) := hm
  refine va_calli (va_runS (As := As) (rest := rest) ⟨hV.1, hV.2.1, rfl, hV.2.2.2.1, hV.2.2.2.2.1⟩ hm' (va_cwS n hV.2.2.2.2.1 hlk.1 rfl rfl rfl hlk.2 (ax_rmle_R hrm hV.2.2.2.2.2.2.2.2.2.2)) ⟨ax_blind, fun U hU hW => ⟨?_, ?_, va_K.moved hW.alike hV.2.2.2.2.2.1, ?_⟩⟩ rfl hn hl.1 hst (lv_room (Nat.le_of_ble_eq_true hw)) d ⟨Nat.zero_le _, Nat.zero_le _⟩) hS (fun q _ h => h) (fun q h => h) (fun r' u t H1 locs1 ht hvm hpost hB hsz hk hS1 => ?_)
  · exact congrArg List.toArray hav.symm
  · rw [hU]; exact hP
  · rw [hU]; exact ax_stat_to hV.2.2.2.2.2.2.2.1 hS hW.alike
  · have hpost : r' = r := hpost
    subst hpost
    rw [ht] at hB
    exact k H1 locs1 ls hB hS1 hl
theorem ax_cVl {V : ax_V} {μ : ax_Mu} (hV : ax_ok V μ) {pc nx : Nat} {lv : List (Option Value)} {st : List Value} {x : ax_S} {μ' : ax_Mu} {ix n a ci N : Nat} {C : String} {T : u_T} {fds : List Nat} (hlk : ax_lkV μ.1.cls ix μ' C n) (hrm : ax_rmle μ' μ = true) (d : ax_D μ.2.1 pc (.invokevirtual ix) 3 nx) (hL : V.1.1[a]? = some (0, ci, fds)) (hc : cx_cls[ci]? = some (C, T, N)) (As rest : List Value) (av : (Nat → Nat) → List Value) (hav : av (ax_ad V) = .ref (ax_ad V a) :: As) (hn : As.length = n) (hst : st = As.reverse ++ .ref (ax_ad V a) :: rest) (hw : Nat.ble ((rest.map fun v => v.category).sum) 8 = true) (r : Int64) (x' : ax_S) (hm : ax_M V.1 μ' av x (some (.long r)) x') (k : ax_At V nx lv (.long r :: rest) x') : ax_At V pc lv st x := by
  obtain ⟨Sd, G, ⟨p, l, e, R, s, m, args, below, meth, c⟩, rv, sf⟩ := V
  obtain ⟨d, rfl⟩ := d
  have hm := hm l G hV.2.2.2.2.2.2.1
  intro H locs ls hP hS hl
  have hm' : Met l μ'.1 (ax_w μ') (ax_rm μ') (va_Pc (av G.2.1) (fun U => va_P G.1 cx_cls (ax_ws Sd.1 G x) U.heap ∧ ax_U Sd G U)) (va_Ql (fun y (_ : Unit) => y = r) (fun _ t => va_P G.1 cx_cls (ax_ws Sd.1 G x') t.heap) (ax_A Sd.1 G)) 0 0 (ax_A Sd.1 G) := hm
  refine va_calll (va_runV (As := As) (rest := rest) ⟨hV.1, hV.2.1, rfl, hV.2.2.2.1, hV.2.2.2.2.1⟩ hm' (cwV n hV.2.2.2.2.1 hlk.1 rfl rfl rfl ⟨hlk.2.1, hlk.2.2⟩ (ax_rmle_R hrm hV.2.2.2.2.2.2.2.2.2.2)) ⟨ax_blind, va_recv hV.2.2.2.2.2.1 hP hc (ax_ws_get (G := G) (s := x) hL), fun U hU hW => ⟨?_, ?_, va_K.moved hW.alike hV.2.2.2.2.2.1, ?_⟩⟩ rfl hn hl.1 hst (lv_room (Nat.le_of_ble_eq_true hw)) d ⟨Nat.zero_le _, Nat.zero_le _⟩) hS (fun q _ h => h) (fun q h => h) (fun r' u t H1 locs1 ht hvm hpost hB hsz hk hS1 => ?_)
  · exact congrArg List.toArray hav.symm
  · rw [hU]; exact hP
  · rw [hU]; exact ax_stat_to hV.2.2.2.2.2.2.2.1 hS hW.alike
  · have hpost : r' = r := hpost
    subst hpost
    rw [ht] at hB
    exact k H1 locs1 ls hB hS1 hl
theorem ax_cSl {V : ax_V} {μ : ax_Mu} (hV : ax_ok V μ) {pc nx : Nat} {lv : List (Option Value)} {st : List Value} {x : ax_S} {μ' : ax_Mu} {ix n : Nat} (hlk : ax_lkS μ.1.cls ix μ' n) (hrm : ax_rmle μ' μ = true) (d : ax_D μ.2.1 pc (.invokestatic ix) 3 nx) (As rest : List Value) (av : (Nat → Nat) → List Value) (hav : av (ax_ad V) = As) (hn : As.length = n) (hst : st = As.reverse ++ rest) (hw : Nat.ble ((rest.map fun v => v.category).sum) 8 = true) (r : Int64) (x' : ax_S) (hm : ax_M V.1 μ' av x (some (.long r)) x') (k : ax_At V nx lv (.long r :: rest) x') : ax_At V pc lv st x := by
  obtain ⟨Sd, G, ⟨p, l, e, R, s, m, args, below, meth, c⟩, rv, sf⟩ := V
  obtain ⟨d, rfl⟩ := d
  have hm := hm l G hV.2.2.2.2.2.2.1
  intro H locs ls hP hS hl
  have hm' : Met l μ'.1 (ax_w μ') (ax_rm μ') (va_Pc (av G.2.1) (fun U => va_P G.1 cx_cls (ax_ws Sd.1 G x) U.heap ∧ ax_U Sd G U)) (va_Ql (fun y (_ : Unit) => y = r) (fun _ t => va_P G.1 cx_cls (ax_ws Sd.1 G x') t.heap) (ax_A Sd.1 G)) 0 0 (ax_A Sd.1 G) := hm
  refine va_calll (va_runS (As := As) (rest := rest) ⟨hV.1, hV.2.1, rfl, hV.2.2.2.1, hV.2.2.2.2.1⟩ hm' (va_cwS n hV.2.2.2.2.1 hlk.1 rfl rfl rfl hlk.2 (ax_rmle_R hrm hV.2.2.2.2.2.2.2.2.2.2)) ⟨ax_blind, fun U hU hW => ⟨?_, ?_, va_K.moved hW.alike hV.2.2.2.2.2.1, ?_⟩⟩ rfl hn hl.1 hst (lv_room (Nat.le_of_ble_eq_true hw)) d ⟨Nat.zero_le _, Nat.zero_le _⟩) hS (fun q _ h => h) (fun q h => h) (fun r' u t H1 locs1 ht hvm hpost hB hsz hk hS1 => ?_)
  · exact congrArg List.toArray hav.symm
  · rw [hU]; exact hP
  · rw [hU]; exact ax_stat_to hV.2.2.2.2.2.2.2.1 hS hW.alike
  · have hpost : r' = r := hpost
    subst hpost
    rw [ht] at hB
    exact k H1 locs1 ls hB hS1 hl
theorem ax_cVv {V : ax_V} {μ : ax_Mu} (hV : ax_ok V μ) {pc nx : Nat} {lv : List (Option Value)} {st : List Value} {x : ax_S} {μ' : ax_Mu} {ix n a ci N : Nat} {C : String} {T : u_T} {fds : List Nat} (hlk : ax_lkV μ.1.cls ix μ' C n) (hrm : ax_rmle μ' μ = true) (d : ax_D μ.2.1 pc (.invokevirtual ix) 3 nx) (hL : V.1.1[a]? = some (0, ci, fds)) (hc : cx_cls[ci]? = some (C, T, N)) (As rest : List Value) (av : (Nat → Nat) → List Value) (hav : av (ax_ad V) = .ref (ax_ad V a) :: As) (hn : As.length = n) (hst : st = As.reverse ++ .ref (ax_ad V a) :: rest) (hw : Nat.ble ((rest.map fun v => v.category).sum) 8 = true) (x' : ax_S) (hm : ax_M V.1 μ' av x none x') (k : ax_At V nx lv (rest) x') : ax_At V pc lv st x := by
  obtain ⟨Sd, G, ⟨p, l, e, R, s, m, args, below, meth, c⟩, rv, sf⟩ := V
  obtain ⟨d, rfl⟩ := d
  have hm := hm l G hV.2.2.2.2.2.2.1
  intro H locs ls hP hS hl
  have hm' : Met l μ'.1 (ax_w μ') (ax_rm μ') (va_Pc (av G.2.1) (fun U => va_P G.1 cx_cls (ax_ws Sd.1 G x) U.heap ∧ ax_U Sd G U)) (va_Qv (fun (_ : Unit) => True) (fun _ t => va_P G.1 cx_cls (ax_ws Sd.1 G x') t.heap) (ax_A Sd.1 G)) 0 0 (ax_A Sd.1 G) := hm
  refine va_callv (va_runV (As := As) (rest := rest) ⟨hV.1, hV.2.1, rfl, hV.2.2.2.1, hV.2.2.2.2.1⟩ hm' (cwV n hV.2.2.2.2.1 hlk.1 rfl rfl rfl ⟨hlk.2.1, hlk.2.2⟩ (ax_rmle_R hrm hV.2.2.2.2.2.2.2.2.2.2)) ⟨ax_blind, va_recv hV.2.2.2.2.2.1 hP hc (ax_ws_get (G := G) (s := x) hL), fun U hU hW => ⟨?_, ?_, va_K.moved hW.alike hV.2.2.2.2.2.1, ?_⟩⟩ rfl hn hl.1 hst (lv_room (Nat.le_of_ble_eq_true hw)) d ⟨Nat.zero_le _, Nat.zero_le _⟩) hS (fun q _ h => h) (fun q h => h) (fun u t H1 locs1 ht hvm hpost hB hsz hk hS1 => ?_)
  · exact congrArg List.toArray hav.symm
  · rw [hU]; exact hP
  · rw [hU]; exact ax_stat_to hV.2.2.2.2.2.2.2.1 hS hW.alike
  · rw [ht] at hB
    exact k H1 locs1 ls hB hS1 hl
theorem ax_cSv {V : ax_V} {μ : ax_Mu} (hV : ax_ok V μ) {pc nx : Nat} {lv : List (Option Value)} {st : List Value} {x : ax_S} {μ' : ax_Mu} {ix n : Nat} (hlk : ax_lkS μ.1.cls ix μ' n) (hrm : ax_rmle μ' μ = true) (d : ax_D μ.2.1 pc (.invokestatic ix) 3 nx) (As rest : List Value) (av : (Nat → Nat) → List Value) (hav : av (ax_ad V) = As) (hn : As.length = n) (hst : st = As.reverse ++ rest) (hw : Nat.ble ((rest.map fun v => v.category).sum) 8 = true) (x' : ax_S) (hm : ax_M V.1 μ' av x none x') (k : ax_At V nx lv (rest) x') : ax_At V pc lv st x := by
  obtain ⟨Sd, G, ⟨p, l, e, R, s, m, args, below, meth, c⟩, rv, sf⟩ := V
  obtain ⟨d, rfl⟩ := d
  have hm := hm l G hV.2.2.2.2.2.2.1
  intro H locs ls hP hS hl
  have hm' : Met l μ'.1 (ax_w μ') (ax_rm μ') (va_Pc (av G.2.1) (fun U => va_P G.1 cx_cls (ax_ws Sd.1 G x) U.heap ∧ ax_U Sd G U)) (va_Qv (fun (_ : Unit) => True) (fun _ t => va_P G.1 cx_cls (ax_ws Sd.1 G x') t.heap) (ax_A Sd.1 G)) 0 0 (ax_A Sd.1 G) := hm
  refine va_callv (va_runS (As := As) (rest := rest) ⟨hV.1, hV.2.1, rfl, hV.2.2.2.1, hV.2.2.2.2.1⟩ hm' (va_cwS n hV.2.2.2.2.1 hlk.1 rfl rfl rfl hlk.2 (ax_rmle_R hrm hV.2.2.2.2.2.2.2.2.2.2)) ⟨ax_blind, fun U hU hW => ⟨?_, ?_, va_K.moved hW.alike hV.2.2.2.2.2.1, ?_⟩⟩ rfl hn hl.1 hst (lv_room (Nat.le_of_ble_eq_true hw)) d ⟨Nat.zero_le _, Nat.zero_le _⟩) hS (fun q _ h => h) (fun q h => h) (fun u t H1 locs1 ht hvm hpost hB hsz hk hS1 => ?_)
  · exact congrArg List.toArray hav.symm
  · rw [hU]; exact hP
  · rw [hU]; exact ax_stat_to hV.2.2.2.2.2.2.2.1 hS hW.alike
  · rw [ht] at hB
    exact k H1 locs1 ls hB hS1 hl
def ax_min (a b : Int32) : Int32 := if b < a then b else a
def ax_max (a b : Int32) : Int32 := if a < b then b else a
def ax_lkM (own : String) (ix : Nat) (y : MethodName) (bs : ByteArray) : Prop := Cond.methodLink own ix y ∈ ax_tb ∧ Cond.static y ∈ ax_tb ∧ Cond.initialized "java/lang/Math" ∈ ax_tb ∧ Cond.code y bs 2 (some .int) ∈ ax_tb
theorem ax_mmin {V : ax_V} {μ : ax_Mu} (hV : ax_ok V μ) {pc nx : Nat} {lv : List (Option Value)} {st : List Value} {x : ax_S} {ix : Nat} {a b : Int32} (hlk : ax_lkM μ.1.cls ix Lib.Math.min.name Lib.Math.min.code) (hrm : (Nat.ble 1 μ.2.2.2.2.1 && Nat.ble ((st.map fun v => v.category).sum + 13) μ.2.2.2.2.2) = true) (d : ax_D μ.2.1 pc (.invokestatic ix) 3 nx) (k : ax_At V nx lv (.int (ax_min a b) :: st) x) : ax_At V pc lv (.int b :: .int a :: st) x := by
  obtain ⟨Sd, G, ⟨p, l, e, R, s, m, args, below, meth, c⟩, rv, sf⟩ := V
  obtain ⟨d, rfl⟩ := d
  have hrm := Bool.and_eq_true _ _ ▸ hrm
  have hR : R = ax_rm μ := hV.2.2.2.2.2.2.2.2.2.2
  subst hR
  intro H locs ls hP hS hl
  exact va_mmin hV.1 hV.2.1 hl.1.symm hV.2.2.2.1 (hV.2.2.2.2.1 _ hlk.1) (hV.2.2.2.2.1 _ hlk.2.1) (hV.2.2.2.2.1 _ hlk.2.2.1) (hV.2.2.2.2.1 _ hlk.2.2.2) (Nat.le_of_ble_eq_true hrm.1) (Nat.le_of_ble_eq_true hrm.2) (Nat.zero_le _) (Nat.zero_le _) d (k H locs ls hP hS hl)
theorem ax_mmax {V : ax_V} {μ : ax_Mu} (hV : ax_ok V μ) {pc nx : Nat} {lv : List (Option Value)} {st : List Value} {x : ax_S} {ix : Nat} {a b : Int32} (hlk : ax_lkM μ.1.cls ix Lib.Math.max.name Lib.Math.max.code) (hrm : (Nat.ble 1 μ.2.2.2.2.1 && Nat.ble ((st.map fun v => v.category).sum + 13) μ.2.2.2.2.2) = true) (d : ax_D μ.2.1 pc (.invokestatic ix) 3 nx) (k : ax_At V nx lv (.int (ax_max a b) :: st) x) : ax_At V pc lv (.int b :: .int a :: st) x := by
  obtain ⟨Sd, G, ⟨p, l, e, R, s, m, args, below, meth, c⟩, rv, sf⟩ := V
  obtain ⟨d, rfl⟩ := d
  have hrm := Bool.and_eq_true _ _ ▸ hrm
  have hR : R = ax_rm μ := hV.2.2.2.2.2.2.2.2.2.2
  subst hR
  intro H locs ls hP hS hl
  exact va_mmax hV.1 hV.2.1 hl.1.symm hV.2.2.2.1 (hV.2.2.2.2.1 _ hlk.1) (hV.2.2.2.2.1 _ hlk.2.1) (hV.2.2.2.2.1 _ hlk.2.2.1) (hV.2.2.2.2.1 _ hlk.2.2.2) (Nat.le_of_ble_eq_true hrm.1) (Nat.le_of_ble_eq_true hrm.2) (Nat.zero_le _) (Nat.zero_le _) d (k H locs ls hP hS hl)
def ax_cp (Sd : ax_Sd) (x : ax_S) (a : Nat) (sp : Int32) (b : Nat) (dp n : Int32) : Option ax_S := (ax_len Sd 1 a).bind (fun na => (ax_len Sd 1 b).bind (fun nb => if sp < 0 ∨ dp < 0 ∨ n < 0 ∨ na < sp.toNatClampNeg + n.toNatClampNeg ∨ nb < dp.toNatClampNeg + n.toNatClampNeg then none else some (ax_wi x b (va_cpy (x.1 a) (x.1 b) sp.toNatClampNeg dp.toNatClampNeg n.toNatClampNeg))))
def ax_lkC (own : String) (ix : Nat) : Prop := Cond.methodLink own ix arraycopyName ∈ ax_tb ∧ Cond.native arraycopyName ∈ ax_tb ∧ Cond.static arraycopyName ∈ ax_tb ∧ Cond.initialized "java/lang/System" ∈ ax_tb
theorem ax_copy {V : ax_V} {μ : ax_Mu} (hV : ax_ok V μ) {pc nx : Nat} {lv : List (Option Value)} {st : List Value} {x : ax_S} {ix a b : Nat} {sp dp n : Int32} (hlk : ax_lkC μ.1.cls ix) (hrm : (Nat.ble 1 μ.2.2.2.2.1 && Nat.ble ((st.map fun v => v.category).sum + (nativeFrameWords "java/lang/System" "arraycopy" 5 + 11)) μ.2.2.2.2.2) = true) (d : ax_D μ.2.1 pc (.invokestatic ix) 3 nx) (x' : ax_S) (ho : ax_cp V.1 x a sp b dp n = some x') (k : ax_At V nx lv st x') : ax_At V pc lv (.int n :: .int dp :: .ref (ax_ad V b) :: .int sp :: .ref (ax_ad V a) :: st) x := by
  obtain ⟨Sd, G, ⟨p, l, e, R, s, m, args, below, meth, c⟩, rv, sf⟩ := V
  obtain ⟨d, rfl⟩ := d
  obtain ⟨na, hna, ho⟩ := Option.bind_eq_some_iff.mp ho
  obtain ⟨nb, hnb, ho⟩ := Option.bind_eq_some_iff.mp ho
  obtain ⟨fa, hLa⟩ := ax_len_some hna
  obtain ⟨fb, hLb⟩ := ax_len_some hnb
  split at ho
  · cases ho
  · rename_i hin
    simp only [not_or, Nat.not_lt] at hin
    cases ho
    have hrm := Bool.and_eq_true _ _ ▸ hrm
    have hR : R = ax_rm μ := hV.2.2.2.2.2.2.2.2.2.2
    subst hR
    intro H locs ls hP hS hl
    refine va_copyi hV.1 hV.2.1 hl.1.symm hV.2.2.2.1 (hV.2.2.2.2.1 _ hlk.1) (hV.2.2.2.2.1 _ hlk.2.1) (hV.2.2.2.2.1 _ hlk.2.2.1) (hV.2.2.2.2.1 _ hlk.2.2.2) hV.2.2.2.2.2.1 hP (ax_D_of hV.2.2.2.2.2.2.1 x) hS a b 0 0 (ax_ws_get (G := G) (s := x) hLa) (ax_ws_get (G := G) (s := x) hLb) (ty := .int) rfl rfl rfl hin.1 hin.2.1 hin.2.2.1 hin.2.2.2.1 hin.2.2.2.2 (fun _ _ => rfl) (Nat.le_of_ble_eq_true hrm.1) (Nat.le_of_ble_eq_true hrm.2) d (fun H1 locs1 hP1 _ hS1 => ?_)
    refine k H1 locs1 ls ?_ hS1 hl
    rw [ax_ws_set (s' := ax_wi x b (va_cpy (x.1 a) (x.1 b) sp.toNatClampNeg dp.toNatClampNeg n.toNatClampNeg)) hLb (by simp [ax_e, ax_wi]) (fun i d' hi => ax_e_congr (by exact ax_wi_ne hi) (by rfl) d')] at hP1
    exact hP1
def ax_en (vs : List Value) : List (Option Value) := vs.flatMap (fun v => if v.category = 2 then [some v, none] else [some v])
theorem ax_en_args (vs : List Value) : ∀ (k i : Nat) (v : Value), (ax_en vs)[i]? = some (some v) → (k + i, v) ∈ lv_args k vs := by
  induction vs with
  | nil => intro k i v h; simp [ax_en] at h
  | cons a vs ih =>
    intro k i v h
    have e : ax_en (a :: vs) = (if a.category = 2 then [some a, none] else [some a]) ++ ax_en vs := by simp [ax_en]
    rw [e] at h
    by_cases hc : a.category = 2
    · rw [if_pos hc] at h
      match i, h with
      | 0, h => cases h; simp [lv_args]
      | 1, h => cases h
      | i + 2, h =>
        have h' : (ax_en vs)[i]? = some (some v) := h
        have := ih (k + 2) i v h'
        simp only [lv_args, hc, List.mem_cons]
        right
        have e2 : k + (i + 2) = k + 2 + i := by omega
        rw [e2]
        simpa using this
    · rw [if_neg hc] at h
      match i, h with
      | 0, h => cases h; simp [lv_args]
      | i + 1, h =>
        have h' : (ax_en vs)[i]? = some (some v) := h
        have hc1 : a.category = 1 := (lv_cat a).resolve_right hc
        have := ih (k + 1) i v h'
        simp only [lv_args, hc1, List.mem_cons]
        right
        have e2 : k + (i + 1) = k + 1 + i := by omega
        rw [e2]
        simpa using this
theorem ax_enter {Sd : ax_Sd} {μ : ax_Mu} {av : (Nat → Nat) → List Value} {s : ax_S} {rv : Option Value} {sf : ax_S} (hy : plainName μ.1.cls = true) (r : Nat) (lv0 : (Nat → Nat) → List (Option Value)) (hlv : ∀ ad, ax_en (av ad) ++ List.replicate r none = lv0 ad) (hn : ∀ ad, (lg_sl (av ad)).length ≤ μ.2.2.1)
    (hb : ∀ X : ax_G × ax_K × Option Value × ax_S, ax_ok (Sd, X) μ → X.2.2 = (rv, sf) → ax_At (Sd, X) 0 (lv0 (ax_ad (Sd, X))) [] s) : ax_M Sd μ av s rv sf := by
  intro l G hinj
  refine Met.ofW (cc := μ.2.1) (maxL := μ.2.2.1) (ret := μ.2.2.2.1) hy rfl ?_
  intro p e s₀ m args below meth c s₁ B hml hv
  obtain ⟨rfl, hP, hK, hst⟩ := hv
  have hts := atoms_spec (ws := ax_w μ) B.pre
  have hl := lv_entry (av G.2.1) (n := μ.2.2.1) (hn G.2.1)
  rw [lg_entry_eq]
  generalize (lg_sl (av G.2.1) ++ List.replicate (μ.2.2.1 - (lg_sl (av G.2.1)).length) Slot.unset).toArray = ls at hl ⊢
  have k := hb (G, (p, l, e, ax_rm μ, s₀, m, (av G.2.1).toArray, below, meth, c), rv, sf) ⟨B.exec, B.bytes, hml, findClass_of_methodNamed B.named, fun w hw => hts w (List.mem_cons_of_mem _ hw), hK, hinj, hst, B.returns, B.notSynchronized, rfl⟩ rfl
  refine k s₀.heap [] ls hP va_S.rf ⟨by rw [hl.1]; exact hml.symm, hl.2.1, fun i v hi => ?_⟩
  have hi : (lv0 G.2.1)[i]? = some (some v) := hi
  rw [← hlv G.2.1] at hi
  rcases Nat.lt_or_ge i (ax_en (av G.2.1)).length with q | q
  · rw [List.getElem?_append_left q] at hi
    have := ax_en_args (av G.2.1) 0 i v hi
    rw [Nat.zero_add] at this
    exact hl.2.2 _ this
  · rw [List.getElem?_append_right q, List.getElem?_replicate] at hi
    split at hi
    · cases hi
    · cases hi
end
section
def cx_f0 : Nat → Int32 := fun k => [31, 28, 31, 30, 31, 30, 31, 31, 30, 31, 30, 31].getD k 0
def cx_f1 : Nat → Int32 := fun k => [0, 31, 59, 90, 120, 151, 181, 212, 243, 273, 304, 334].getD k 0
def cx_f2 : Nat → Int32 := fun k => [-72744, -72742].getD k 0
def cx_C : ax_Sd := ([(0, 8, [3, 5, 4, 6, 7, 8, 9, 10, 0, 0, 0, 0]), (0, 5, [4, 5, 11, 12, 13, 14, 0, 15, 16, 17, 18, 19, 20]), (0, 6, [21, 22, 23, 24, 25, 26, 27, 0]), (0, 0, [28, 29, 30, 0]), (0, 2, [31, 0, 32, 1, 0]), (0, 4, [33, 34, 35, 36, 0]), (0, 3, [37, 0, 0, 0]), (0, 1, [38, 0, 0, 0, 0, 0, 0]), (0, 7, [39, 40, 41]), (1, 40, []), (1, 40, []), (1, 40, []), (1, 40, []), (1, 18, []), (1, 18, []), (1, 18, []), (1, 18, []), (1, 18, []), (1, 18, []), (1, 40, []), (1, 40, []), (1, 40, []), (1, 40, []), (1, 40, []), (1, 40, []), (1, 40, []), (1, 6, []), (1, 6, []), (1, 6, []), (1, 12, []), (1, 40, []), (1, 12, []), (1, 4096, []), (1, 4096, []), (1, 144, []), (1, 12, []), (1, 40, []), (1, 4, []), (1, 4, []), (1, 160, [])], [("WhenItWas$Calendar", "MONTH_DAYS", 100, 12, cx_f0), ("WhenItWas$Calendar", "DAYS_BEFORE_MONTH", 101, 12, cx_f1), ("WhenItWas$Calendar", "FIRST_DAY", 102, 2, cx_f2)])
def cx_R : ax_Sd := ([(0, 9, [0, 0, 0, 3, 4, 5, 0, 6, 7, 8, 9, 10, 11, 12, 0, 13, 14, 15, 0, 0, 0, 16, 17, 18, 19, 0, 20, 1, 21, 22, 0, 23, 0, 0, 0, 0, 24, 25, 26, 27, 28, 0]), (1, 6, []), (1, 6, []), (1, 6, []), (1, 40, []), (1, 40, []), (1, 40, []), (1, 40, []), (1, 40, []), (1, 40, []), (1, 40, []), (1, 361, []), (1, 19, []), (1, 19, []), (1, 6, []), (1, 6, []), (1, 12, []), (1, 12, []), (1, 12, []), (1, 12, []), (2, 4096, []), (1, 40, []), (3, 4, []), (1, 4, []), (1, 4, []), (1, 160, []), (1, 40, [])], [])
theorem ms_0 : ("WhenItWas$Calendar", "MONTH_DAYS", 100, 12, cx_f0) ∈ cx_C.2 := by simp [cx_C]
theorem ms_1 : ("WhenItWas$Calendar", "DAYS_BEFORE_MONTH", 101, 12, cx_f1) ∈ cx_C.2 := by simp [cx_C]
theorem ms_2 : ("WhenItWas$Calendar", "FIRST_DAY", 102, 2, cx_f2) ∈ cx_C.2 := by simp [cx_C]
theorem ax_m1 {w : Cond} (j : Nat) (h : tables_1_1[j]? = some w) (hg : goodWord w = true) : w ∈ ax_tb := List.mem_filter.mpr ⟨List.mem_append_right _ (List.mem_append_left _ (List.mem_of_getElem? h)), hg⟩
theorem ax_m2 {w : Cond} (j : Nat) (h : tables_1_2[j]? = some w) (hg : goodWord w = true) : w ∈ ax_tb := List.mem_filter.mpr ⟨List.mem_append_right _ (List.mem_append_right _ (List.mem_append_left _ (List.mem_of_getElem? h))), hg⟩
theorem ax_m3 {w : Cond} (j : Nat) (h : tables_1_3[j]? = some w) (hg : goodWord w = true) : w ∈ ax_tb := List.mem_filter.mpr ⟨List.mem_append_right _ (List.mem_append_right _ (List.mem_append_right _ (List.mem_append_left _ (List.mem_of_getElem? h)))), hg⟩
theorem ax_m4 {w : Cond} (j : Nat) (h : tables_1_4[j]? = some w) (hg : goodWord w = true) : w ∈ ax_tb := List.mem_filter.mpr ⟨List.mem_append_right _ (List.mem_append_right _ (List.mem_append_right _ (List.mem_append_right _ (List.mem_append_left _ (List.mem_of_getElem? h))))), hg⟩
theorem ax_m5 {w : Cond} (j : Nat) (h : tables_1_5[j]? = some w) (hg : goodWord w = true) : w ∈ ax_tb := List.mem_filter.mpr ⟨List.mem_append_right _ (List.mem_append_right _ (List.mem_append_right _ (List.mem_append_right _ (List.mem_append_right _ (List.mem_append_left _ (List.mem_of_getElem? h)))))), hg⟩
theorem ax_m6 {w : Cond} (j : Nat) (h : tables_1_6[j]? = some w) (hg : goodWord w = true) : w ∈ ax_tb := List.mem_filter.mpr ⟨List.mem_append_right _ (List.mem_append_right _ (List.mem_append_right _ (List.mem_append_right _ (List.mem_append_right _ (List.mem_append_right _ (List.mem_of_getElem? h)))))), hg⟩
theorem ax_mp1 {w : Cond} {q : MethodName × Nat} (j : Nat) (h : lw_privs_1[j]? = some q) (hq : Cond.selects q.1.cls q.1 q.1 = w) (hg : goodWord w = true) : w ∈ ax_tb := List.mem_filter.mpr ⟨List.mem_append_left _ (List.mem_map.mpr ⟨q, List.mem_append_left _ (List.mem_of_getElem? h), hq⟩), hg⟩
theorem ax_mp2 {w : Cond} {q : MethodName × Nat} (j : Nat) (h : lw_privs_2[j]? = some q) (hq : Cond.selects q.1.cls q.1 q.1 = w) (hg : goodWord w = true) : w ∈ ax_tb := List.mem_filter.mpr ⟨List.mem_append_left _ (List.mem_map.mpr ⟨q, List.mem_append_right _ (List.mem_append_left _ (List.mem_of_getElem? h)), hq⟩), hg⟩
theorem ax_mp3 {w : Cond} {q : MethodName × Nat} (j : Nat) (h : lw_privs_3[j]? = some q) (hq : Cond.selects q.1.cls q.1 q.1 = w) (hg : goodWord w = true) : w ∈ ax_tb := List.mem_filter.mpr ⟨List.mem_append_left _ (List.mem_map.mpr ⟨q, List.mem_append_right _ (List.mem_append_right _ (List.mem_append_left _ (List.mem_of_getElem? h))), hq⟩), hg⟩
theorem ax_mp4 {w : Cond} {q : MethodName × Nat} (j : Nat) (h : lw_privs_4[j]? = some q) (hq : Cond.selects q.1.cls q.1 q.1 = w) (hg : goodWord w = true) : w ∈ ax_tb := List.mem_filter.mpr ⟨List.mem_append_left _ (List.mem_map.mpr ⟨q, List.mem_append_right _ (List.mem_append_right _ (List.mem_append_right _ (List.mem_append_left _ (List.mem_of_getElem? h)))), hq⟩), hg⟩
theorem ax_mp5 {w : Cond} {q : MethodName × Nat} (j : Nat) (h : lw_privs_5[j]? = some q) (hq : Cond.selects q.1.cls q.1 q.1 = w) (hg : goodWord w = true) : w ∈ ax_tb := List.mem_filter.mpr ⟨List.mem_append_left _ (List.mem_map.mpr ⟨q, List.mem_append_right _ (List.mem_append_right _ (List.mem_append_right _ (List.mem_append_right _ (List.mem_of_getElem? h)))), hq⟩), hg⟩
theorem in2X0 : ∀ w ∈ wsX00, w ∈ ax_tb := by
  show ∀ w ∈ [Cond.laysFinal "WhenItWas$Books" "WhenItWas$Books" "least" "[I", Cond.laysFinal "WhenItWas$Books" "WhenItWas$Books" "greatest" "[I", Cond.laysFinal "WhenItWas$Books" "WhenItWas$Books" "trust" "[I", Cond.lays "WhenItWas$Books" "WhenItWas$Books" "size" "I"], w ∈ ax_tb
  exact List.forall_mem_cons.mpr ⟨(ax_m1 96 rfl rfl), List.forall_mem_cons.mpr ⟨(ax_m1 98 rfl rfl), List.forall_mem_cons.mpr ⟨(ax_m1 100 rfl rfl), List.forall_mem_cons.mpr ⟨(ax_m1 102 rfl rfl), fun _ h => absurd h List.not_mem_nil⟩⟩⟩⟩
theorem in2X2 : ∀ w ∈ wsX20, w ∈ ax_tb := by
  show ∀ w ∈ [Cond.laysFinal "WhenItWas$Dates" "WhenItWas$Dates" "bytes" "[I", Cond.lays "WhenItWas$Dates" "WhenItWas$Dates" "length" "I", Cond.lays "WhenItWas$Dates" "WhenItWas$Dates" "from" "I", Cond.lays "WhenItWas$Dates" "WhenItWas$Dates" "until" "I", Cond.lays "WhenItWas$Dates" "WhenItWas$Dates" "place" "I", Cond.lays "WhenItWas$Dates" "WhenItWas$Dates" "number" "I", Cond.lays "WhenItWas$Dates" "WhenItWas$Dates" "dayRead" "I"], w ∈ ax_tb
  exact List.forall_mem_cons.mpr ⟨(ax_m1 234 rfl rfl), List.forall_mem_cons.mpr ⟨(ax_m1 236 rfl rfl), List.forall_mem_cons.mpr ⟨(ax_m1 238 rfl rfl), List.forall_mem_cons.mpr ⟨(ax_m2 0 rfl rfl), List.forall_mem_cons.mpr ⟨(ax_m2 2 rfl rfl), List.forall_mem_cons.mpr ⟨(ax_m2 4 rfl rfl), List.forall_mem_cons.mpr ⟨(ax_m2 6 rfl rfl), fun _ h => absurd h List.not_mem_nil⟩⟩⟩⟩⟩⟩⟩
theorem in2X3 : ∀ w ∈ wsX30, w ∈ ax_tb := by
  show ∀ w ∈ [Cond.laysFinal "WhenItWas$Doubt" "WhenItWas$Doubt" "candidates" "[I", Cond.lays "WhenItWas$Doubt" "WhenItWas$Doubt" "size" "I", Cond.laysFinal "WhenItWas$Doubt" "WhenItWas$Doubt" "blame" "[I", Cond.lays "WhenItWas$Doubt" "WhenItWas$Doubt" "best" "J", Cond.lays "WhenItWas$Doubt" "WhenItWas$Doubt" "bestTrust" "I"], w ∈ ax_tb
  exact List.forall_mem_cons.mpr ⟨(ax_m1 162 rfl rfl), List.forall_mem_cons.mpr ⟨(ax_m1 164 rfl rfl), List.forall_mem_cons.mpr ⟨(ax_m1 166 rfl rfl), List.forall_mem_cons.mpr ⟨(ax_m1 168 rfl rfl), List.forall_mem_cons.mpr ⟨(ax_m1 170 rfl rfl), fun _ h => absurd h List.not_mem_nil⟩⟩⟩⟩⟩
theorem in2X4 : ∀ w ∈ wsX40, w ∈ ax_tb := by
  show ∀ w ∈ [Cond.laysFinal "WhenItWas$Kin" "WhenItWas$Kin" "differences" "[I", Cond.lays "WhenItWas$Kin" "WhenItWas$Kin" "size" "I", Cond.lays "WhenItWas$Kin" "WhenItWas$Kin" "most" "I", Cond.lays "WhenItWas$Kin" "WhenItWas$Kin" "number" "I"], w ∈ ax_tb
  exact List.forall_mem_cons.mpr ⟨(ax_m1 209 rfl rfl), List.forall_mem_cons.mpr ⟨(ax_m1 211 rfl rfl), List.forall_mem_cons.mpr ⟨(ax_m1 213 rfl rfl), List.forall_mem_cons.mpr ⟨(ax_m1 215 rfl rfl), fun _ h => absurd h List.not_mem_nil⟩⟩⟩⟩
theorem in2X5 : ∀ w ∈ wsX50, w ∈ ax_tb := by
  show ∀ w ∈ [Cond.laysFinal "WhenItWas$Lines" "WhenItWas$Lines" "before" "[I", Cond.laysFinal "WhenItWas$Lines" "WhenItWas$Lines" "ways" "[I", Cond.laysFinal "WhenItWas$Lines" "WhenItWas$Lines" "waysOn" "[I", Cond.laysFinal "WhenItWas$Lines" "WhenItWas$Lines" "pairs" "[I", Cond.lays "WhenItWas$Lines" "WhenItWas$Lines" "size" "I"], w ∈ ax_tb
  exact List.forall_mem_cons.mpr ⟨(ax_m1 185 rfl rfl), List.forall_mem_cons.mpr ⟨(ax_m1 187 rfl rfl), List.forall_mem_cons.mpr ⟨(ax_m1 189 rfl rfl), List.forall_mem_cons.mpr ⟨(ax_m1 191 rfl rfl), List.forall_mem_cons.mpr ⟨(ax_m1 193 rfl rfl), fun _ h => absurd h List.not_mem_nil⟩⟩⟩⟩⟩
theorem in2X6 : ∀ w ∈ wsX60, w ∈ ax_tb := by
  show ∀ w ∈ [Cond.laysFinal "WhenItWas$Net" "WhenItWas$Net" "rows" "LWhenItWas$Rows;", Cond.laysFinal "WhenItWas$Net" "WhenItWas$Net" "books" "LWhenItWas$Books;", Cond.laysFinal "WhenItWas$Net" "WhenItWas$Net" "from" "[I", Cond.laysFinal "WhenItWas$Net" "WhenItWas$Net" "to" "[I", Cond.laysFinal "WhenItWas$Net" "WhenItWas$Net" "x" "[I", Cond.laysFinal "WhenItWas$Net" "WhenItWas$Net" "y" "[I", Cond.lays "WhenItWas$Net" "WhenItWas$Net" "size" "I", Cond.laysFinal "WhenItWas$Net" "WhenItWas$Net" "floor" "[I", Cond.laysFinal "WhenItWas$Net" "WhenItWas$Net" "ceiling" "[I", Cond.laysFinal "WhenItWas$Net" "WhenItWas$Net" "most" "[I", Cond.laysFinal "WhenItWas$Net" "WhenItWas$Net" "leastTurned" "[I", Cond.laysFinal "WhenItWas$Net" "WhenItWas$Net" "reach" "[I", Cond.laysFinal "WhenItWas$Net" "WhenItWas$Net" "nextReach" "[I"], w ∈ ax_tb
  exact List.forall_mem_cons.mpr ⟨(ax_m1 122 rfl rfl), List.forall_mem_cons.mpr ⟨(ax_m1 124 rfl rfl), List.forall_mem_cons.mpr ⟨(ax_m1 126 rfl rfl), List.forall_mem_cons.mpr ⟨(ax_m1 128 rfl rfl), List.forall_mem_cons.mpr ⟨(ax_m1 130 rfl rfl), List.forall_mem_cons.mpr ⟨(ax_m1 132 rfl rfl), List.forall_mem_cons.mpr ⟨(ax_m1 134 rfl rfl), List.forall_mem_cons.mpr ⟨(ax_m1 136 rfl rfl), List.forall_mem_cons.mpr ⟨(ax_m1 138 rfl rfl), List.forall_mem_cons.mpr ⟨(ax_m1 140 rfl rfl), List.forall_mem_cons.mpr ⟨(ax_m1 142 rfl rfl), List.forall_mem_cons.mpr ⟨(ax_m1 144 rfl rfl), List.forall_mem_cons.mpr ⟨(ax_m1 146 rfl rfl), fun _ h => absurd h List.not_mem_nil⟩⟩⟩⟩⟩⟩⟩⟩⟩⟩⟩⟩⟩
theorem in2X7 : ∀ w ∈ wsX70, w ∈ ax_tb := by
  show ∀ w ∈ [Cond.laysFinal "WhenItWas$Rows" "WhenItWas$Rows" "book" "[I", Cond.laysFinal "WhenItWas$Rows" "WhenItWas$Rows" "thing" "[I", Cond.laysFinal "WhenItWas$Rows" "WhenItWas$Rows" "other" "[I", Cond.laysFinal "WhenItWas$Rows" "WhenItWas$Rows" "x" "[I", Cond.laysFinal "WhenItWas$Rows" "WhenItWas$Rows" "y" "[I", Cond.laysFinal "WhenItWas$Rows" "WhenItWas$Rows" "told" "[I", Cond.laysFinal "WhenItWas$Rows" "WhenItWas$Rows" "taken" "[I", Cond.lays "WhenItWas$Rows" "WhenItWas$Rows" "size" "I"], w ∈ ax_tb
  exact List.forall_mem_cons.mpr ⟨(ax_m1 60 rfl rfl), List.forall_mem_cons.mpr ⟨(ax_m1 62 rfl rfl), List.forall_mem_cons.mpr ⟨(ax_m1 64 rfl rfl), List.forall_mem_cons.mpr ⟨(ax_m1 66 rfl rfl), List.forall_mem_cons.mpr ⟨(ax_m1 68 rfl rfl), List.forall_mem_cons.mpr ⟨(ax_m1 70 rfl rfl), List.forall_mem_cons.mpr ⟨(ax_m1 72 rfl rfl), List.forall_mem_cons.mpr ⟨(ax_m1 74 rfl rfl), fun _ h => absurd h List.not_mem_nil⟩⟩⟩⟩⟩⟩⟩⟩
theorem in2X8 : ∀ w ∈ wsX80, w ∈ ax_tb := by
  show ∀ w ∈ [Cond.laysFinal "WhenItWas$Sheets" "WhenItWas$Sheets" "kind" "[I", Cond.laysFinal "WhenItWas$Sheets" "WhenItWas$Sheets" "size" "[I", Cond.laysFinal "WhenItWas$Sheets" "WhenItWas$Sheets" "items" "[I"], w ∈ ax_tb
  exact List.forall_mem_cons.mpr ⟨(ax_m2 20 rfl rfl), List.forall_mem_cons.mpr ⟨(ax_m2 22 rfl rfl), List.forall_mem_cons.mpr ⟨(ax_m2 24 rfl rfl), fun _ h => absurd h List.not_mem_nil⟩⟩⟩
theorem in2X9 : ∀ w ∈ wsX90, w ∈ ax_tb := by
  show ∀ w ∈ [Cond.laysFinal "WhenItWas" "WhenItWas" "net" "LWhenItWas$Net;", Cond.laysFinal "WhenItWas" "WhenItWas" "books" "LWhenItWas$Books;", Cond.laysFinal "WhenItWas" "WhenItWas" "rows" "LWhenItWas$Rows;", Cond.laysFinal "WhenItWas" "WhenItWas" "doubt" "LWhenItWas$Doubt;", Cond.laysFinal "WhenItWas" "WhenItWas" "lines" "LWhenItWas$Lines;", Cond.laysFinal "WhenItWas" "WhenItWas" "kindred" "LWhenItWas$Kin;", Cond.laysFinal "WhenItWas" "WhenItWas" "dates" "LWhenItWas$Dates;", Cond.laysFinal "WhenItWas" "WhenItWas" "sheets" "LWhenItWas$Sheets;", Cond.lays "WhenItWas" "WhenItWas" "today" "I", Cond.lays "WhenItWas" "WhenItWas" "view" "I", Cond.lays "WhenItWas" "WhenItWas" "things" "I", Cond.lays "WhenItWas" "WhenItWas" "finding" "I"], w ∈ ax_tb
  exact List.forall_mem_cons.mpr ⟨(ax_m2 39 rfl rfl), List.forall_mem_cons.mpr ⟨(ax_m2 41 rfl rfl), List.forall_mem_cons.mpr ⟨(ax_m2 43 rfl rfl), List.forall_mem_cons.mpr ⟨(ax_m2 45 rfl rfl), List.forall_mem_cons.mpr ⟨(ax_m2 47 rfl rfl), List.forall_mem_cons.mpr ⟨(ax_m2 49 rfl rfl), List.forall_mem_cons.mpr ⟨(ax_m2 51 rfl rfl), List.forall_mem_cons.mpr ⟨(ax_m2 53 rfl rfl), List.forall_mem_cons.mpr ⟨(ax_m2 55 rfl rfl), List.forall_mem_cons.mpr ⟨(ax_m2 57 rfl rfl), List.forall_mem_cons.mpr ⟨(ax_m2 59 rfl rfl), List.forall_mem_cons.mpr ⟨(ax_m2 61 rfl rfl), fun _ h => absurd h List.not_mem_nil⟩⟩⟩⟩⟩⟩⟩⟩⟩⟩⟩⟩
theorem in2X10 : ∀ w ∈ wsX100, w ∈ ax_tb := by
  show ∀ w ∈ [Cond.lays "WhenItWasModel" "WhenItWasModel" "day" "I", Cond.lays "WhenItWasModel" "WhenItWasModel" "things" "I", Cond.lays "WhenItWasModel" "WhenItWasModel" "books" "I", Cond.laysFinal "WhenItWasModel" "WhenItWasModel" "clockLow" "[I", Cond.laysFinal "WhenItWasModel" "WhenItWasModel" "clockHigh" "[I", Cond.laysFinal "WhenItWasModel" "WhenItWasModel" "trustOf" "[I", Cond.lays "WhenItWasModel" "WhenItWasModel" "rows" "I", Cond.laysFinal "WhenItWasModel" "WhenItWasModel" "rowBook" "[I", Cond.laysFinal "WhenItWasModel" "WhenItWasModel" "rowThing" "[I", Cond.laysFinal "WhenItWasModel" "WhenItWasModel" "rowOther" "[I", Cond.laysFinal "WhenItWasModel" "WhenItWasModel" "rowX" "[I", Cond.laysFinal "WhenItWasModel" "WhenItWasModel" "rowY" "[I", Cond.laysFinal "WhenItWasModel" "WhenItWasModel" "rowTold" "[I", Cond.laysFinal "WhenItWasModel" "WhenItWasModel" "rowBack" "[I", Cond.lays "WhenItWasModel" "WhenItWasModel" "knownTo" "I", Cond.laysFinal "WhenItWasModel" "WhenItWasModel" "far" "[I", Cond.laysFinal "WhenItWasModel" "WhenItWasModel" "reach" "[I", Cond.laysFinal "WhenItWasModel" "WhenItWasModel" "steps" "[I", Cond.lays "WhenItWasModel" "WhenItWasModel" "couldBe" "Z", Cond.lays "WhenItWasModel" "WhenItWasModel" "leastWas" "I", Cond.lays "WhenItWasModel" "WhenItWasModel" "greatestWas" "I", Cond.laysFinal "WhenItWasModel" "WhenItWasModel" "offLow" "[I", Cond.laysFinal "WhenItWasModel" "WhenItWasModel" "offHigh" "[I", Cond.laysFinal "WhenItWasModel" "WhenItWasModel" "kinBy" "[I", Cond.laysFinal "WhenItWasModel" "WhenItWasModel" "asked" "[I", Cond.lays "WhenItWasModel" "WhenItWasModel" "askedMany" "I", Cond.laysFinal "WhenItWasModel" "WhenItWasModel" "blames" "[I", Cond.lays "WhenItWasModel" "WhenItWasModel" "doubtBits" "J", Cond.laysFinal "WhenItWasModel" "WhenItWasModel" "aheadOf" "[I", Cond.laysFinal "WhenItWasModel" "WhenItWasModel" "countOf" "[J", Cond.lays "WhenItWasModel" "WhenItWasModel" "typed" "I", Cond.laysFinal "WhenItWasModel" "WhenItWasModel" "text" "[I", Cond.lays "WhenItWasModel" "WhenItWasModel" "at" "I", Cond.lays "WhenItWasModel" "WhenItWasModel" "fault" "I", Cond.lays "WhenItWasModel" "WhenItWasModel" "firstDay" "I", Cond.lays "WhenItWasModel" "WhenItWasModel" "secondDay" "I", Cond.laysFinal "WhenItWasModel" "WhenItWasModel" "isThere" "[Z", Cond.laysFinal "WhenItWasModel" "WhenItWasModel" "types" "[I", Cond.laysFinal "WhenItWasModel" "WhenItWasModel" "sizes" "[I", Cond.laysFinal "WhenItWasModel" "WhenItWasModel" "items" "[I", Cond.laysFinal "WhenItWasModel" "WhenItWasModel" "moved" "[I", Cond.lays "WhenItWasModel" "WhenItWasModel" "finding" "I"], w ∈ ax_tb
  exact List.forall_mem_cons.mpr ⟨(ax_m4 211 rfl rfl), List.forall_mem_cons.mpr ⟨(ax_m4 213 rfl rfl), List.forall_mem_cons.mpr ⟨(ax_m4 215 rfl rfl), List.forall_mem_cons.mpr ⟨(ax_m4 217 rfl rfl), List.forall_mem_cons.mpr ⟨(ax_m4 219 rfl rfl), List.forall_mem_cons.mpr ⟨(ax_m4 221 rfl rfl), List.forall_mem_cons.mpr ⟨(ax_m4 223 rfl rfl), List.forall_mem_cons.mpr ⟨(ax_m4 225 rfl rfl), List.forall_mem_cons.mpr ⟨(ax_m4 227 rfl rfl), List.forall_mem_cons.mpr ⟨(ax_m4 229 rfl rfl), List.forall_mem_cons.mpr ⟨(ax_m4 231 rfl rfl), List.forall_mem_cons.mpr ⟨(ax_m4 233 rfl rfl), List.forall_mem_cons.mpr ⟨(ax_m4 235 rfl rfl), List.forall_mem_cons.mpr ⟨(ax_m4 237 rfl rfl), List.forall_mem_cons.mpr ⟨(ax_m4 239 rfl rfl), List.forall_mem_cons.mpr ⟨(ax_m5 1 rfl rfl), List.forall_mem_cons.mpr ⟨(ax_m5 3 rfl rfl), List.forall_mem_cons.mpr ⟨(ax_m5 5 rfl rfl), List.forall_mem_cons.mpr ⟨(ax_m5 7 rfl rfl), List.forall_mem_cons.mpr ⟨(ax_m5 9 rfl rfl), List.forall_mem_cons.mpr ⟨(ax_m5 11 rfl rfl), List.forall_mem_cons.mpr ⟨(ax_m5 13 rfl rfl), List.forall_mem_cons.mpr ⟨(ax_m5 15 rfl rfl), List.forall_mem_cons.mpr ⟨(ax_m5 17 rfl rfl), List.forall_mem_cons.mpr ⟨(ax_m5 19 rfl rfl), List.forall_mem_cons.mpr ⟨(ax_m5 21 rfl rfl), List.forall_mem_cons.mpr ⟨(ax_m5 23 rfl rfl), List.forall_mem_cons.mpr ⟨(ax_m5 25 rfl rfl), List.forall_mem_cons.mpr ⟨(ax_m5 27 rfl rfl), List.forall_mem_cons.mpr ⟨(ax_m5 29 rfl rfl), List.forall_mem_cons.mpr ⟨(ax_m5 31 rfl rfl), List.forall_mem_cons.mpr ⟨(ax_m5 33 rfl rfl), List.forall_mem_cons.mpr ⟨(ax_m5 35 rfl rfl), List.forall_mem_cons.mpr ⟨(ax_m5 37 rfl rfl), List.forall_mem_cons.mpr ⟨(ax_m5 39 rfl rfl), List.forall_mem_cons.mpr ⟨(ax_m5 41 rfl rfl), List.forall_mem_cons.mpr ⟨(ax_m5 43 rfl rfl), List.forall_mem_cons.mpr ⟨(ax_m5 45 rfl rfl), List.forall_mem_cons.mpr ⟨(ax_m5 47 rfl rfl), List.forall_mem_cons.mpr ⟨(ax_m5 49 rfl rfl), List.forall_mem_cons.mpr ⟨(ax_m5 51 rfl rfl), List.forall_mem_cons.mpr ⟨(ax_m5 53 rfl rfl), fun _ h => absurd h List.not_mem_nil⟩⟩⟩⟩⟩⟩⟩⟩⟩⟩⟩⟩⟩⟩⟩⟩⟩⟩⟩⟩⟩⟩⟩⟩⟩⟩⟩⟩⟩⟩⟩⟩⟩⟩⟩⟩⟩⟩⟩⟩⟩⟩
theorem lf_X0_15 : ax_F RX0 15 0 1 := ⟨RX0, TX0, 4, rfl, by decide, in2X0, (ax_m1 87 rfl rfl)⟩
theorem lf_X0_18 : ax_F RX0 18 0 2 := ⟨RX0, TX0, 4, rfl, by decide, in2X0, (ax_m1 90 rfl rfl)⟩
theorem lf_X0_21 : ax_F RX0 21 0 3 := ⟨RX0, TX0, 4, rfl, by decide, in2X0, (ax_m1 93 rfl rfl)⟩
theorem lf_X0_9 : ax_F RX0 9 0 0 := ⟨RX0, TX0, 4, rfl, by decide, in2X0, (ax_m1 84 rfl rfl)⟩
theorem ls_X1_13 : Cond.fieldLink RX1 13 "WhenItWas$Calendar" "MONTH_DAYS" "[I" ∈ ax_tb := (ax_m4 5 rfl rfl)
theorem ls_X1_17 : Cond.fieldLink RX1 17 "WhenItWas$Calendar" "FIRST_DAY" "[I" ∈ ax_tb := (ax_m4 10 rfl rfl)
theorem ls_X1_24 : Cond.fieldLink RX1 24 "WhenItWas$Calendar" "DAYS_BEFORE_MONTH" "[I" ∈ ax_tb := (ax_m4 15 rfl rfl)
theorem lf_X10_101 : ax_F RX10 101 9 2 := ⟨RX10, TX10, 42, rfl, by decide, in2X10, (ax_m4 171 rfl rfl)⟩
theorem lf_X10_104 : ax_F RX10 104 9 0 := ⟨RX10, TX10, 42, rfl, by decide, in2X10, (ax_m4 169 rfl rfl)⟩
theorem lf_X10_111 : ax_F RX10 111 9 6 := ⟨RX10, TX10, 42, rfl, by decide, in2X10, (ax_m4 175 rfl rfl)⟩
theorem lf_X10_13 : ax_F RX10 13 9 4 := ⟨RX10, TX10, 42, rfl, by decide, in2X10, (ax_m4 173 rfl rfl)⟩
theorem lf_X10_16 : ax_F RX10 16 9 5 := ⟨RX10, TX10, 42, rfl, by decide, in2X10, (ax_m4 174 rfl rfl)⟩
theorem lf_X10_19 : ax_F RX10 19 9 7 := ⟨RX10, TX10, 42, rfl, by decide, in2X10, (ax_m4 176 rfl rfl)⟩
theorem lf_X10_192 : ax_F RX10 192 9 18 := ⟨RX10, TX10, 42, rfl, by decide, in2X10, (ax_m4 187 rfl rfl)⟩
theorem lf_X10_196 : ax_F RX10 196 9 19 := ⟨RX10, TX10, 42, rfl, by decide, in2X10, (ax_m4 188 rfl rfl)⟩
theorem lf_X10_199 : ax_F RX10 199 9 20 := ⟨RX10, TX10, 42, rfl, by decide, in2X10, (ax_m4 189 rfl rfl)⟩
theorem lf_X10_215 : ax_F RX10 215 9 25 := ⟨RX10, TX10, 42, rfl, by decide, in2X10, (ax_m4 194 rfl rfl)⟩
theorem lf_X10_218 : ax_F RX10 218 9 27 := ⟨RX10, TX10, 42, rfl, by decide, in2X10, (ax_m4 196 rfl rfl)⟩
theorem lf_X10_22 : ax_F RX10 22 9 8 := ⟨RX10, TX10, 42, rfl, by decide, in2X10, (ax_m4 177 rfl rfl)⟩
theorem lf_X10_25 : ax_F RX10 25 9 9 := ⟨RX10, TX10, 42, rfl, by decide, in2X10, (ax_m4 178 rfl rfl)⟩
theorem lf_X10_267 : ax_F RX10 267 9 30 := ⟨RX10, TX10, 42, rfl, by decide, in2X10, (ax_m4 199 rfl rfl)⟩
theorem lf_X10_270 : ax_F RX10 270 9 32 := ⟨RX10, TX10, 42, rfl, by decide, in2X10, (ax_m4 201 rfl rfl)⟩
theorem lf_X10_273 : ax_F RX10 273 9 33 := ⟨RX10, TX10, 42, rfl, by decide, in2X10, (ax_m4 202 rfl rfl)⟩
theorem lf_X10_28 : ax_F RX10 28 9 10 := ⟨RX10, TX10, 42, rfl, by decide, in2X10, (ax_m4 179 rfl rfl)⟩
theorem lf_X10_288 : ax_F RX10 288 9 34 := ⟨RX10, TX10, 42, rfl, by decide, in2X10, (ax_m4 203 rfl rfl)⟩
theorem lf_X10_291 : ax_F RX10 291 9 35 := ⟨RX10, TX10, 42, rfl, by decide, in2X10, (ax_m4 204 rfl rfl)⟩
theorem lf_X10_297 : ax_F RX10 297 9 41 := ⟨RX10, TX10, 42, rfl, by decide, in2X10, (ax_m4 210 rfl rfl)⟩
theorem lf_X10_31 : ax_F RX10 31 9 11 := ⟨RX10, TX10, 42, rfl, by decide, in2X10, (ax_m4 180 rfl rfl)⟩
theorem lf_X10_34 : ax_F RX10 34 9 12 := ⟨RX10, TX10, 42, rfl, by decide, in2X10, (ax_m4 181 rfl rfl)⟩
theorem lf_X10_37 : ax_F RX10 37 9 13 := ⟨RX10, TX10, 42, rfl, by decide, in2X10, (ax_m4 182 rfl rfl)⟩
theorem lf_X10_40 : ax_F RX10 40 9 14 := ⟨RX10, TX10, 42, rfl, by decide, in2X10, (ax_m4 183 rfl rfl)⟩
theorem lf_X10_44 : ax_F RX10 44 9 15 := ⟨RX10, TX10, 42, rfl, by decide, in2X10, (ax_m4 184 rfl rfl)⟩
theorem lf_X10_47 : ax_F RX10 47 9 16 := ⟨RX10, TX10, 42, rfl, by decide, in2X10, (ax_m4 185 rfl rfl)⟩
theorem lf_X10_50 : ax_F RX10 50 9 17 := ⟨RX10, TX10, 42, rfl, by decide, in2X10, (ax_m4 186 rfl rfl)⟩
theorem lf_X10_53 : ax_F RX10 53 9 21 := ⟨RX10, TX10, 42, rfl, by decide, in2X10, (ax_m4 190 rfl rfl)⟩
theorem lf_X10_56 : ax_F RX10 56 9 22 := ⟨RX10, TX10, 42, rfl, by decide, in2X10, (ax_m4 191 rfl rfl)⟩
theorem lf_X10_59 : ax_F RX10 59 9 23 := ⟨RX10, TX10, 42, rfl, by decide, in2X10, (ax_m4 192 rfl rfl)⟩
theorem lf_X10_62 : ax_F RX10 62 9 24 := ⟨RX10, TX10, 42, rfl, by decide, in2X10, (ax_m4 193 rfl rfl)⟩
theorem lf_X10_65 : ax_F RX10 65 9 26 := ⟨RX10, TX10, 42, rfl, by decide, in2X10, (ax_m4 195 rfl rfl)⟩
theorem lf_X10_68 : ax_F RX10 68 9 28 := ⟨RX10, TX10, 42, rfl, by decide, in2X10, (ax_m4 197 rfl rfl)⟩
theorem lf_X10_71 : ax_F RX10 71 9 29 := ⟨RX10, TX10, 42, rfl, by decide, in2X10, (ax_m4 198 rfl rfl)⟩
theorem lf_X10_75 : ax_F RX10 75 9 31 := ⟨RX10, TX10, 42, rfl, by decide, in2X10, (ax_m4 200 rfl rfl)⟩
theorem lf_X10_78 : ax_F RX10 78 9 36 := ⟨RX10, TX10, 42, rfl, by decide, in2X10, (ax_m4 205 rfl rfl)⟩
theorem lf_X10_82 : ax_F RX10 82 9 37 := ⟨RX10, TX10, 42, rfl, by decide, in2X10, (ax_m4 206 rfl rfl)⟩
theorem lf_X10_85 : ax_F RX10 85 9 38 := ⟨RX10, TX10, 42, rfl, by decide, in2X10, (ax_m4 207 rfl rfl)⟩
theorem lf_X10_88 : ax_F RX10 88 9 39 := ⟨RX10, TX10, 42, rfl, by decide, in2X10, (ax_m4 208 rfl rfl)⟩
theorem lf_X10_9 : ax_F RX10 9 9 3 := ⟨RX10, TX10, 42, rfl, by decide, in2X10, (ax_m4 172 rfl rfl)⟩
theorem lf_X10_91 : ax_F RX10 91 9 40 := ⟨RX10, TX10, 42, rfl, by decide, in2X10, (ax_m4 209 rfl rfl)⟩
theorem lf_X10_94 : ax_F RX10 94 9 1 := ⟨RX10, TX10, 42, rfl, by decide, in2X10, (ax_m4 170 rfl rfl)⟩
theorem lf_X2_15 : ax_F RX2 15 1 1 := ⟨RX2, TX2, 7, rfl, by decide, in2X2, (ax_m1 225 rfl rfl)⟩
theorem lf_X2_19 : ax_F RX2 19 1 2 := ⟨RX2, TX2, 7, rfl, by decide, in2X2, (ax_m1 227 rfl rfl)⟩
theorem lf_X2_25 : ax_F RX2 25 1 4 := ⟨RX2, TX2, 7, rfl, by decide, in2X2, (ax_m1 231 rfl rfl)⟩
theorem lf_X2_28 : ax_F RX2 28 1 5 := ⟨RX2, TX2, 7, rfl, by decide, in2X2, (ax_m1 232 rfl rfl)⟩
theorem lf_X2_31 : ax_F RX2 31 1 6 := ⟨RX2, TX2, 7, rfl, by decide, in2X2, (ax_m1 233 rfl rfl)⟩
theorem lf_X2_9 : ax_F RX2 9 1 0 := ⟨RX2, TX2, 7, rfl, by decide, in2X2, (ax_m1 224 rfl rfl)⟩
theorem lf_X3_15 : ax_F RX3 15 2 1 := ⟨RX3, TX3, 5, rfl, by decide, in2X3, (ax_m1 156 rfl rfl)⟩
theorem lf_X3_19 : ax_F RX3 19 2 2 := ⟨RX3, TX3, 5, rfl, by decide, in2X3, (ax_m1 157 rfl rfl)⟩
theorem lf_X3_22 : ax_F RX3 22 2 3 := ⟨RX3, TX3, 5, rfl, by decide, in2X3, (ax_m1 159 rfl rfl)⟩
theorem lf_X3_26 : ax_F RX3 26 2 4 := ⟨RX3, TX3, 5, rfl, by decide, in2X3, (ax_m1 161 rfl rfl)⟩
theorem lf_X3_69 : ax_F RX3 69 5 1 := ⟨RX6, TX6, 13, rfl, by decide, in2X6, (ax_m1 110 rfl rfl)⟩
theorem lf_X3_73 : ax_F RX3 73 0 2 := ⟨RX0, TX0, 4, rfl, by decide, in2X0, (ax_m1 92 rfl rfl)⟩
theorem lf_X3_78 : ax_F RX3 78 5 0 := ⟨RX6, TX6, 13, rfl, by decide, in2X6, (ax_m1 107 rfl rfl)⟩
theorem lf_X3_82 : ax_F RX3 82 6 0 := ⟨RX7, TX7, 8, rfl, by decide, in2X7, (ax_m1 38 rfl rfl)⟩
theorem lf_X3_9 : ax_F RX3 9 2 0 := ⟨RX3, TX3, 5, rfl, by decide, in2X3, (ax_m1 155 rfl rfl)⟩
theorem lf_X4_15 : ax_F RX4 15 3 1 := ⟨RX4, TX4, 4, rfl, by decide, in2X4, (ax_m1 203 rfl rfl)⟩
theorem lf_X4_19 : ax_F RX4 19 3 2 := ⟨RX4, TX4, 4, rfl, by decide, in2X4, (ax_m1 205 rfl rfl)⟩
theorem lf_X4_22 : ax_F RX4 22 3 3 := ⟨RX4, TX4, 4, rfl, by decide, in2X4, (ax_m1 207 rfl rfl)⟩
theorem lf_X4_9 : ax_F RX4 9 3 0 := ⟨RX4, TX4, 4, rfl, by decide, in2X4, (ax_m1 202 rfl rfl)⟩
theorem lf_X5_15 : ax_F RX5 15 4 1 := ⟨RX5, TX5, 5, rfl, by decide, in2X5, (ax_m1 181 rfl rfl)⟩
theorem lf_X5_18 : ax_F RX5 18 4 2 := ⟨RX5, TX5, 5, rfl, by decide, in2X5, (ax_m1 182 rfl rfl)⟩
theorem lf_X5_21 : ax_F RX5 21 4 3 := ⟨RX5, TX5, 5, rfl, by decide, in2X5, (ax_m1 183 rfl rfl)⟩
theorem lf_X5_24 : ax_F RX5 24 4 4 := ⟨RX5, TX5, 5, rfl, by decide, in2X5, (ax_m1 184 rfl rfl)⟩
theorem lf_X5_9 : ax_F RX5 9 4 0 := ⟨RX5, TX5, 5, rfl, by decide, in2X5, (ax_m1 179 rfl rfl)⟩
theorem lf_X6_111 : ax_F RX6 111 0 3 := ⟨RX0, TX0, 4, rfl, by decide, in2X0, (ax_m1 94 rfl rfl)⟩
theorem lf_X6_112 : ax_F RX6 112 0 1 := ⟨RX0, TX0, 4, rfl, by decide, in2X0, (ax_m1 88 rfl rfl)⟩
theorem lf_X6_115 : ax_F RX6 115 0 0 := ⟨RX0, TX0, 4, rfl, by decide, in2X0, (ax_m1 85 rfl rfl)⟩
theorem lf_X6_118 : ax_F RX6 118 6 7 := ⟨RX7, TX7, 8, rfl, by decide, in2X7, (ax_m1 58 rfl rfl)⟩
theorem lf_X6_12 : ax_F RX6 12 5 0 := ⟨RX6, TX6, 13, rfl, by decide, in2X6, (ax_m1 105 rfl rfl)⟩
theorem lf_X6_123 : ax_F RX6 123 6 2 := ⟨RX7, TX7, 8, rfl, by decide, in2X7, (ax_m1 46 rfl rfl)⟩
theorem lf_X6_126 : ax_F RX6 126 6 0 := ⟨RX7, TX7, 8, rfl, by decide, in2X7, (ax_m1 40 rfl rfl)⟩
theorem lf_X6_129 : ax_F RX6 129 6 1 := ⟨RX7, TX7, 8, rfl, by decide, in2X7, (ax_m1 43 rfl rfl)⟩
theorem lf_X6_132 : ax_F RX6 132 6 3 := ⟨RX7, TX7, 8, rfl, by decide, in2X7, (ax_m1 49 rfl rfl)⟩
theorem lf_X6_133 : ax_F RX6 133 6 4 := ⟨RX7, TX7, 8, rfl, by decide, in2X7, (ax_m1 52 rfl rfl)⟩
theorem lf_X6_21 : ax_F RX6 21 5 1 := ⟨RX6, TX6, 13, rfl, by decide, in2X6, (ax_m1 109 rfl rfl)⟩
theorem lf_X6_25 : ax_F RX6 25 5 2 := ⟨RX6, TX6, 13, rfl, by decide, in2X6, (ax_m1 111 rfl rfl)⟩
theorem lf_X6_29 : ax_F RX6 29 5 3 := ⟨RX6, TX6, 13, rfl, by decide, in2X6, (ax_m1 112 rfl rfl)⟩
theorem lf_X6_32 : ax_F RX6 32 5 4 := ⟨RX6, TX6, 13, rfl, by decide, in2X6, (ax_m1 113 rfl rfl)⟩
theorem lf_X6_35 : ax_F RX6 35 5 5 := ⟨RX6, TX6, 13, rfl, by decide, in2X6, (ax_m1 114 rfl rfl)⟩
theorem lf_X6_38 : ax_F RX6 38 5 6 := ⟨RX6, TX6, 13, rfl, by decide, in2X6, (ax_m1 115 rfl rfl)⟩
theorem lf_X6_42 : ax_F RX6 42 5 7 := ⟨RX6, TX6, 13, rfl, by decide, in2X6, (ax_m1 116 rfl rfl)⟩
theorem lf_X6_45 : ax_F RX6 45 5 8 := ⟨RX6, TX6, 13, rfl, by decide, in2X6, (ax_m1 117 rfl rfl)⟩
theorem lf_X6_48 : ax_F RX6 48 5 9 := ⟨RX6, TX6, 13, rfl, by decide, in2X6, (ax_m1 118 rfl rfl)⟩
theorem lf_X6_51 : ax_F RX6 51 5 10 := ⟨RX6, TX6, 13, rfl, by decide, in2X6, (ax_m1 119 rfl rfl)⟩
theorem lf_X6_54 : ax_F RX6 54 5 11 := ⟨RX6, TX6, 13, rfl, by decide, in2X6, (ax_m1 120 rfl rfl)⟩
theorem lf_X6_57 : ax_F RX6 57 5 12 := ⟨RX6, TX6, 13, rfl, by decide, in2X6, (ax_m1 121 rfl rfl)⟩
theorem lf_X7_15 : ax_F RX7 15 6 1 := ⟨RX7, TX7, 8, rfl, by decide, in2X7, (ax_m1 41 rfl rfl)⟩
theorem lf_X7_18 : ax_F RX7 18 6 2 := ⟨RX7, TX7, 8, rfl, by decide, in2X7, (ax_m1 44 rfl rfl)⟩
theorem lf_X7_21 : ax_F RX7 21 6 3 := ⟨RX7, TX7, 8, rfl, by decide, in2X7, (ax_m1 47 rfl rfl)⟩
theorem lf_X7_24 : ax_F RX7 24 6 4 := ⟨RX7, TX7, 8, rfl, by decide, in2X7, (ax_m1 50 rfl rfl)⟩
theorem lf_X7_27 : ax_F RX7 27 6 5 := ⟨RX7, TX7, 8, rfl, by decide, in2X7, (ax_m1 53 rfl rfl)⟩
theorem lf_X7_30 : ax_F RX7 30 6 6 := ⟨RX7, TX7, 8, rfl, by decide, in2X7, (ax_m1 55 rfl rfl)⟩
theorem lf_X7_33 : ax_F RX7 33 6 7 := ⟨RX7, TX7, 8, rfl, by decide, in2X7, (ax_m1 57 rfl rfl)⟩
theorem lf_X7_9 : ax_F RX7 9 6 0 := ⟨RX7, TX7, 8, rfl, by decide, in2X7, (ax_m1 37 rfl rfl)⟩
theorem lf_X8_15 : ax_F RX8 15 7 1 := ⟨RX8, TX8, 3, rfl, by decide, in2X8, (ax_m2 17 rfl rfl)⟩
theorem lf_X8_18 : ax_F RX8 18 7 2 := ⟨RX8, TX8, 3, rfl, by decide, in2X8, (ax_m2 19 rfl rfl)⟩
theorem lf_X8_9 : ax_F RX8 9 7 0 := ⟨RX8, TX8, 3, rfl, by decide, in2X8, (ax_m2 15 rfl rfl)⟩
theorem lf_X9_10 : ax_F RX9 10 8 0 := ⟨RX9, TX9, 12, rfl, by decide, in2X9, (ax_m2 27 rfl rfl)⟩
theorem lf_X9_117 : ax_F RX9 117 7 1 := ⟨RX8, TX8, 3, rfl, by decide, in2X8, (ax_m2 18 rfl rfl)⟩
theorem lf_X9_126 : ax_F RX9 126 6 6 := ⟨RX7, TX7, 8, rfl, by decide, in2X7, (ax_m1 56 rfl rfl)⟩
theorem lf_X9_130 : ax_F RX9 130 6 0 := ⟨RX7, TX7, 8, rfl, by decide, in2X7, (ax_m1 39 rfl rfl)⟩
theorem lf_X9_133 : ax_F RX9 133 6 1 := ⟨RX7, TX7, 8, rfl, by decide, in2X7, (ax_m1 42 rfl rfl)⟩
theorem lf_X9_136 : ax_F RX9 136 6 2 := ⟨RX7, TX7, 8, rfl, by decide, in2X7, (ax_m1 45 rfl rfl)⟩
theorem lf_X9_139 : ax_F RX9 139 6 3 := ⟨RX7, TX7, 8, rfl, by decide, in2X7, (ax_m1 48 rfl rfl)⟩
theorem lf_X9_142 : ax_F RX9 142 6 4 := ⟨RX7, TX7, 8, rfl, by decide, in2X7, (ax_m1 51 rfl rfl)⟩
theorem lf_X9_145 : ax_F RX9 145 6 5 := ⟨RX7, TX7, 8, rfl, by decide, in2X7, (ax_m1 54 rfl rfl)⟩
theorem lf_X9_159 : ax_F RX9 159 6 7 := ⟨RX7, TX7, 8, rfl, by decide, in2X7, (ax_m1 59 rfl rfl)⟩
theorem lf_X9_20 : ax_F RX9 20 8 1 := ⟨RX9, TX9, 12, rfl, by decide, in2X9, (ax_m2 28 rfl rfl)⟩
theorem lf_X9_221 : ax_F RX9 221 3 1 := ⟨RX4, TX4, 4, rfl, by decide, in2X4, (ax_m1 204 rfl rfl)⟩
theorem lf_X9_222 : ax_F RX9 222 3 2 := ⟨RX4, TX4, 4, rfl, by decide, in2X4, (ax_m1 206 rfl rfl)⟩
theorem lf_X9_225 : ax_F RX9 225 3 3 := ⟨RX4, TX4, 4, rfl, by decide, in2X4, (ax_m1 208 rfl rfl)⟩
theorem lf_X9_235 : ax_F RX9 235 2 3 := ⟨RX3, TX3, 5, rfl, by decide, in2X3, (ax_m1 160 rfl rfl)⟩
theorem lf_X9_239 : ax_F RX9 239 2 2 := ⟨RX3, TX3, 5, rfl, by decide, in2X3, (ax_m1 158 rfl rfl)⟩
theorem lf_X9_25 : ax_F RX9 25 8 2 := ⟨RX9, TX9, 12, rfl, by decide, in2X9, (ax_m2 29 rfl rfl)⟩
theorem lf_X9_257 : ax_F RX9 257 4 0 := ⟨RX5, TX5, 5, rfl, by decide, in2X5, (ax_m1 180 rfl rfl)⟩
theorem lf_X9_289 : ax_F RX9 289 1 1 := ⟨RX2, TX2, 7, rfl, by decide, in2X2, (ax_m1 226 rfl rfl)⟩
theorem lf_X9_29 : ax_F RX9 29 8 3 := ⟨RX9, TX9, 12, rfl, by decide, in2X9, (ax_m2 30 rfl rfl)⟩
theorem lf_X9_295 : ax_F RX9 295 1 2 := ⟨RX2, TX2, 7, rfl, by decide, in2X2, (ax_m1 228 rfl rfl)⟩
theorem lf_X9_298 : ax_F RX9 298 1 3 := ⟨RX2, TX2, 7, rfl, by decide, in2X2, (ax_m1 230 rfl rfl)⟩
theorem lf_X9_308 : ax_F RX9 308 7 0 := ⟨RX8, TX8, 3, rfl, by decide, in2X8, (ax_m2 16 rfl rfl)⟩
theorem lf_X9_333 : ax_F RX9 333 0 3 := ⟨RX0, TX0, 4, rfl, by decide, in2X0, (ax_m1 95 rfl rfl)⟩
theorem lf_X9_36 : ax_F RX9 36 8 4 := ⟨RX9, TX9, 12, rfl, by decide, in2X9, (ax_m2 31 rfl rfl)⟩
theorem lf_X9_378 : ax_F RX9 378 0 0 := ⟨RX0, TX0, 4, rfl, by decide, in2X0, (ax_m1 86 rfl rfl)⟩
theorem lf_X9_381 : ax_F RX9 381 0 1 := ⟨RX0, TX0, 4, rfl, by decide, in2X0, (ax_m1 89 rfl rfl)⟩
theorem lf_X9_43 : ax_F RX9 43 8 5 := ⟨RX9, TX9, 12, rfl, by decide, in2X9, (ax_m2 32 rfl rfl)⟩
theorem lf_X9_50 : ax_F RX9 50 8 6 := ⟨RX9, TX9, 12, rfl, by decide, in2X9, (ax_m2 33 rfl rfl)⟩
theorem lf_X9_57 : ax_F RX9 57 8 7 := ⟨RX9, TX9, 12, rfl, by decide, in2X9, (ax_m2 34 rfl rfl)⟩
theorem lf_X9_61 : ax_F RX9 61 8 8 := ⟨RX9, TX9, 12, rfl, by decide, in2X9, (ax_m2 35 rfl rfl)⟩
theorem lf_X9_65 : ax_F RX9 65 8 9 := ⟨RX9, TX9, 12, rfl, by decide, in2X9, (ax_m2 36 rfl rfl)⟩
theorem lf_X9_68 : ax_F RX9 68 8 10 := ⟨RX9, TX9, 12, rfl, by decide, in2X9, (ax_m2 37 rfl rfl)⟩
theorem lf_X9_71 : ax_F RX9 71 8 11 := ⟨RX9, TX9, 12, rfl, by decide, in2X9, (ax_m2 38 rfl rfl)⟩
theorem lf_X9_88 : ax_F RX9 88 0 2 := ⟨RX0, TX0, 4, rfl, by decide, in2X0, (ax_m1 91 rfl rfl)⟩
theorem lp_X0_21 : ax_Fp RX0 21 0 3 .int := ⟨RX0, TX0, 4, tyX0, rfl, by decide, in2X0, (ax_m1 93 rfl rfl), tyX0_ok, nmX0, rfl, by decide +kernel⟩
theorem lp_X10_101 : ax_Fp RX10 101 9 2 .int := ⟨RX10, TX10, 42, tyX10, rfl, by decide, in2X10, (ax_m4 171 rfl rfl), tyX10_ok, nmX10, rfl, by decide +kernel⟩
theorem lp_X10_104 : ax_Fp RX10 104 9 0 .int := ⟨RX10, TX10, 42, tyX10, rfl, by decide, in2X10, (ax_m4 169 rfl rfl), tyX10_ok, nmX10, rfl, by decide +kernel⟩
theorem lp_X10_111 : ax_Fp RX10 111 9 6 .int := ⟨RX10, TX10, 42, tyX10, rfl, by decide, in2X10, (ax_m4 175 rfl rfl), tyX10_ok, nmX10, rfl, by decide +kernel⟩
theorem lp_X10_192 : ax_Fp RX10 192 9 18 .boolean := ⟨RX10, TX10, 42, tyX10, rfl, by decide, in2X10, (ax_m4 187 rfl rfl), tyX10_ok, nmX10, rfl, by decide +kernel⟩
theorem lp_X10_196 : ax_Fp RX10 196 9 19 .int := ⟨RX10, TX10, 42, tyX10, rfl, by decide, in2X10, (ax_m4 188 rfl rfl), tyX10_ok, nmX10, rfl, by decide +kernel⟩
theorem lp_X10_199 : ax_Fp RX10 199 9 20 .int := ⟨RX10, TX10, 42, tyX10, rfl, by decide, in2X10, (ax_m4 189 rfl rfl), tyX10_ok, nmX10, rfl, by decide +kernel⟩
theorem lp_X10_215 : ax_Fp RX10 215 9 25 .int := ⟨RX10, TX10, 42, tyX10, rfl, by decide, in2X10, (ax_m4 194 rfl rfl), tyX10_ok, nmX10, rfl, by decide +kernel⟩
theorem lp_X10_218 : ax_Fp RX10 218 9 27 .long := ⟨RX10, TX10, 42, tyX10, rfl, by decide, in2X10, (ax_m4 196 rfl rfl), tyX10_ok, nmX10, rfl, by decide +kernel⟩
theorem lp_X10_267 : ax_Fp RX10 267 9 30 .int := ⟨RX10, TX10, 42, tyX10, rfl, by decide, in2X10, (ax_m4 199 rfl rfl), tyX10_ok, nmX10, rfl, by decide +kernel⟩
theorem lp_X10_270 : ax_Fp RX10 270 9 32 .int := ⟨RX10, TX10, 42, tyX10, rfl, by decide, in2X10, (ax_m4 201 rfl rfl), tyX10_ok, nmX10, rfl, by decide +kernel⟩
theorem lp_X10_273 : ax_Fp RX10 273 9 33 .int := ⟨RX10, TX10, 42, tyX10, rfl, by decide, in2X10, (ax_m4 202 rfl rfl), tyX10_ok, nmX10, rfl, by decide +kernel⟩
theorem lp_X10_288 : ax_Fp RX10 288 9 34 .int := ⟨RX10, TX10, 42, tyX10, rfl, by decide, in2X10, (ax_m4 203 rfl rfl), tyX10_ok, nmX10, rfl, by decide +kernel⟩
theorem lp_X10_291 : ax_Fp RX10 291 9 35 .int := ⟨RX10, TX10, 42, tyX10, rfl, by decide, in2X10, (ax_m4 204 rfl rfl), tyX10_ok, nmX10, rfl, by decide +kernel⟩
theorem lp_X10_297 : ax_Fp RX10 297 9 41 .int := ⟨RX10, TX10, 42, tyX10, rfl, by decide, in2X10, (ax_m4 210 rfl rfl), tyX10_ok, nmX10, rfl, by decide +kernel⟩
theorem lp_X10_40 : ax_Fp RX10 40 9 14 .int := ⟨RX10, TX10, 42, tyX10, rfl, by decide, in2X10, (ax_m4 183 rfl rfl), tyX10_ok, nmX10, rfl, by decide +kernel⟩
theorem lp_X10_94 : ax_Fp RX10 94 9 1 .int := ⟨RX10, TX10, 42, tyX10, rfl, by decide, in2X10, (ax_m4 170 rfl rfl), tyX10_ok, nmX10, rfl, by decide +kernel⟩
theorem lp_X2_15 : ax_Fp RX2 15 1 1 .int := ⟨RX2, TX2, 7, tyX2, rfl, by decide, in2X2, (ax_m1 225 rfl rfl), tyX2_ok, nmX2, rfl, by decide +kernel⟩
theorem lp_X2_19 : ax_Fp RX2 19 1 2 .int := ⟨RX2, TX2, 7, tyX2, rfl, by decide, in2X2, (ax_m1 227 rfl rfl), tyX2_ok, nmX2, rfl, by decide +kernel⟩
theorem lp_X2_22 : ax_Fp RX2 22 1 3 .int := ⟨RX2, TX2, 7, tyX2, rfl, by decide, in2X2, (ax_m1 229 rfl rfl), tyX2_ok, nmX2, rfl, by decide +kernel⟩
theorem lp_X2_25 : ax_Fp RX2 25 1 4 .int := ⟨RX2, TX2, 7, tyX2, rfl, by decide, in2X2, (ax_m1 231 rfl rfl), tyX2_ok, nmX2, rfl, by decide +kernel⟩
theorem lp_X2_28 : ax_Fp RX2 28 1 5 .int := ⟨RX2, TX2, 7, tyX2, rfl, by decide, in2X2, (ax_m1 232 rfl rfl), tyX2_ok, nmX2, rfl, by decide +kernel⟩
theorem lp_X2_31 : ax_Fp RX2 31 1 6 .int := ⟨RX2, TX2, 7, tyX2, rfl, by decide, in2X2, (ax_m1 233 rfl rfl), tyX2_ok, nmX2, rfl, by decide +kernel⟩
theorem lp_X3_15 : ax_Fp RX3 15 2 1 .int := ⟨RX3, TX3, 5, tyX3, rfl, by decide, in2X3, (ax_m1 156 rfl rfl), tyX3_ok, nmX3, rfl, by decide +kernel⟩
theorem lp_X3_22 : ax_Fp RX3 22 2 3 .long := ⟨RX3, TX3, 5, tyX3, rfl, by decide, in2X3, (ax_m1 159 rfl rfl), tyX3_ok, nmX3, rfl, by decide +kernel⟩
theorem lp_X3_26 : ax_Fp RX3 26 2 4 .int := ⟨RX3, TX3, 5, tyX3, rfl, by decide, in2X3, (ax_m1 161 rfl rfl), tyX3_ok, nmX3, rfl, by decide +kernel⟩
theorem lp_X4_15 : ax_Fp RX4 15 3 1 .int := ⟨RX4, TX4, 4, tyX4, rfl, by decide, in2X4, (ax_m1 203 rfl rfl), tyX4_ok, nmX4, rfl, by decide +kernel⟩
theorem lp_X4_19 : ax_Fp RX4 19 3 2 .int := ⟨RX4, TX4, 4, tyX4, rfl, by decide, in2X4, (ax_m1 205 rfl rfl), tyX4_ok, nmX4, rfl, by decide +kernel⟩
theorem lp_X4_22 : ax_Fp RX4 22 3 3 .int := ⟨RX4, TX4, 4, tyX4, rfl, by decide, in2X4, (ax_m1 207 rfl rfl), tyX4_ok, nmX4, rfl, by decide +kernel⟩
theorem lp_X5_24 : ax_Fp RX5 24 4 4 .int := ⟨RX5, TX5, 5, tyX5, rfl, by decide, in2X5, (ax_m1 184 rfl rfl), tyX5_ok, nmX5, rfl, by decide +kernel⟩
theorem lp_X6_38 : ax_Fp RX6 38 5 6 .int := ⟨RX6, TX6, 13, tyX6, rfl, by decide, in2X6, (ax_m1 115 rfl rfl), tyX6_ok, nmX6, rfl, by decide +kernel⟩
theorem lp_X7_33 : ax_Fp RX7 33 6 7 .int := ⟨RX7, TX7, 8, tyX7, rfl, by decide, in2X7, (ax_m1 57 rfl rfl), tyX7_ok, nmX7, rfl, by decide +kernel⟩
theorem lp_X9_289 : ax_Fp RX9 289 1 1 .int := ⟨RX2, TX2, 7, tyX2, rfl, by decide, in2X2, (ax_m1 226 rfl rfl), tyX2_ok, nmX2, rfl, by decide +kernel⟩
theorem lp_X9_61 : ax_Fp RX9 61 8 8 .int := ⟨RX9, TX9, 12, tyX9, rfl, by decide, in2X9, (ax_m2 35 rfl rfl), tyX9_ok, nmX9, rfl, by decide +kernel⟩
theorem lp_X9_65 : ax_Fp RX9 65 8 9 .int := ⟨RX9, TX9, 12, tyX9, rfl, by decide, in2X9, (ax_m2 36 rfl rfl), tyX9_ok, nmX9, rfl, by decide +kernel⟩
theorem lp_X9_68 : ax_Fp RX9 68 8 10 .int := ⟨RX9, TX9, 12, tyX9, rfl, by decide, in2X9, (ax_m2 37 rfl rfl), tyX9_ok, nmX9, rfl, by decide +kernel⟩
theorem lp_X9_71 : ax_Fp RX9 71 8 11 .int := ⟨RX9, TX9, 12, tyX9, rfl, by decide, in2X9, (ax_m2 38 rfl rfl), tyX9_ok, nmX9, rfl, by decide +kernel⟩
theorem kc_J13_314 : Cond.constantLong RJ13 314 (6148914691236517205) ∈ ax_tb := (ax_m3 127 rfl rfl)
theorem kc_J13_316 : Cond.constantLong RJ13 316 (3689348814741910323) ∈ ax_tb := (ax_m3 128 rfl rfl)
theorem kc_J13_318 : Cond.constantLong RJ13 318 (1085102592571150095) ∈ ax_tb := (ax_m3 129 rfl rfl)
theorem kc_J6_265 : Cond.constant RJ6 265 (1431655765) ∈ ax_tb := (ax_m3 141 rfl rfl)
theorem kc_J6_266 : Cond.constant RJ6 266 (858993459) ∈ ax_tb := (ax_m3 142 rfl rfl)
theorem kc_J6_267 : Cond.constant RJ6 267 (252645135) ∈ ax_tb := (ax_m3 143 rfl rfl)
theorem kc_X10_125 : Cond.constant RX10 125 (-200000) ∈ ax_tb := (ax_m5 93 rfl rfl)
theorem kc_X10_126 : Cond.constant RX10 126 (200000) ∈ ax_tb := (ax_m5 94 rfl rfl)
theorem kc_X10_131 : Cond.constant RX10 131 (-100000) ∈ ax_tb := (ax_m5 107 rfl rfl)
theorem kc_X10_132 : Cond.constant RX10 132 (100000) ∈ ax_tb := (ax_m5 108 rfl rfl)
theorem kc_X10_150 : Cond.constant RX10 150 (-300000) ∈ ax_tb := (ax_m5 140 rfl rfl)
theorem kc_X10_155 : Cond.constant RX10 155 (100000000) ∈ ax_tb := (ax_m5 162 rfl rfl)
theorem kc_X10_167 : Cond.constantLong RX10 167 (-1) ∈ ax_tb := (ax_m5 157 rfl rfl)
theorem kc_X10_180 : Cond.constant RX10 180 (-300001) ∈ ax_tb := (ax_m5 187 rfl rfl)
theorem kc_X10_187 : Cond.constant RX10 187 (-500000) ∈ ax_tb := (ax_m5 204 rfl rfl)
theorem kc_X10_188 : Cond.constant RX10 188 (-500001) ∈ ax_tb := (ax_m5 205 rfl rfl)
theorem kc_X10_211 : Cond.constantLong RX10 211 (-9223372036854775806) ∈ ax_tb := (ax_m6 6 rfl rfl)
theorem kc_X10_213 : Cond.constantLong RX10 213 (-9223372036854775805) ∈ ax_tb := (ax_m6 7 rfl rfl)
theorem kc_X10_235 : Cond.constantLong RX10 235 (-9223372036854775804) ∈ ax_tb := (ax_m6 27 rfl rfl)
theorem kc_X10_306 : Cond.constant RX10 306 (-2147483648) ∈ ax_tb := (ax_m6 151 rfl rfl)
theorem kc_X10_307 : Cond.constantLong RX10 307 (17) ∈ ax_tb := (ax_m6 168 rfl rfl)
theorem kc_X10_309 : Cond.constantLong RX10 309 (31) ∈ ax_tb := (ax_m6 169 rfl rfl)
theorem kc_X3_49 : Cond.constantLong RX3 49 (-1) ∈ ax_tb := (ax_m3 148 rfl rfl)
theorem kc_X4_31 : Cond.constant RX4 31 (-2147483648) ∈ ax_tb := (ax_m3 98 rfl rfl)
theorem kc_X6_109 : Cond.constant RX6 109 (-200000) ∈ ax_tb := (ax_m2 188 rfl rfl)
theorem kc_X6_110 : Cond.constant RX6 110 (200000) ∈ ax_tb := (ax_m2 192 rfl rfl)
theorem kc_X6_85 : Cond.constantLong RX6 85 (-9223372036854775808) ∈ ax_tb := (ax_m3 40 rfl rfl)
theorem kc_X6_91 : Cond.constantLong RX6 91 (1000000) ∈ ax_tb := (ax_m3 42 rfl rfl)
theorem kc_X6_93 : Cond.constant RX6 93 (1000000000) ∈ ax_tb := (ax_m2 211 rfl rfl)
theorem kc_X7_48 : Cond.constant RX7 48 (-2147483648) ∈ ax_tb := (ax_m3 97 rfl rfl)
theorem kc_X9_106 : Cond.constant RX9 106 (100000) ∈ ax_tb := (ax_m2 112 rfl rfl)
theorem kc_X9_129 : Cond.constant RX9 129 (-300000) ∈ ax_tb := (ax_m2 150 rfl rfl)
theorem kc_X9_165 : Cond.constantLong RX9 165 (-1) ∈ ax_tb := (ax_m2 179 rfl rfl)
theorem kc_X9_177 : Cond.constant RX9 177 (-300001) ∈ ax_tb := (ax_m2 232 rfl rfl)
theorem kc_X9_184 : Cond.constant RX9 184 (-500000) ∈ ax_tb := (ax_m3 9 rfl rfl)
theorem kc_X9_185 : Cond.constant RX9 185 (-500001) ∈ ax_tb := (ax_m3 10 rfl rfl)
theorem kc_X9_317 : Cond.constant RX9 317 (-2147483648) ∈ ax_tb := (ax_m4 120 rfl rfl)
theorem kc_X9_345 : Cond.constantLong RX9 345 (17) ∈ ax_tb := (ax_m4 154 rfl rfl)
theorem kc_X9_347 : Cond.constantLong RX9 347 (31) ∈ ax_tb := (ax_m4 155 rfl rfl)
theorem kc_X9_362 : Cond.constantLong RX9 362 (-9223372036854775808) ∈ ax_tb := (ax_m3 110 rfl rfl)
theorem kc_X9_371 : Cond.constant RX9 371 (-200000) ∈ ax_tb := (ax_m3 58 rfl rfl)
theorem kc_X9_95 : Cond.constant RX9 95 (200000) ∈ ax_tb := (ax_m2 99 rfl rfl)
theorem lm_X5_48 : ax_lkM RX5 48 Lib.Math.max.name Lib.Math.max.code := ⟨(ax_m3 227 rfl rfl), (ax_m3 76 rfl rfl), (ax_m1 13 rfl rfl), (ax_m3 77 rfl rfl)⟩
theorem lm_X6_100 : ax_lkM RX6 100 Lib.Math.min.name Lib.Math.min.code := ⟨(ax_m2 204 rfl rfl), (ax_m2 205 rfl rfl), (ax_m1 13 rfl rfl), (ax_m2 206 rfl rfl)⟩
theorem lm_X6_64 : ax_lkC RX6 64 := ⟨(ax_m2 197 rfl rfl), (ax_m2 199 rfl rfl), (ax_m2 198 rfl rfl), (ax_m1 12 rfl rfl)⟩
theorem lm_X8_29 : ax_lkC RX8 29 := ⟨(ax_m4 133 rfl rfl), (ax_m2 199 rfl rfl), (ax_m2 198 rfl rfl), (ax_m1 12 rfl rfl)⟩
theorem lm_X9_328 : ax_lkM RX9 328 Lib.Math.min.name Lib.Math.min.code := ⟨(ax_m3 78 rfl rfl), (ax_m2 205 rfl rfl), (ax_m1 13 rfl rfl), (ax_m2 206 rfl rfl)⟩
theorem lm_X9_387 : ax_lkM RX9 387 Lib.Math.max.name Lib.Math.max.code := ⟨(ax_m3 75 rfl rfl), (ax_m3 76 rfl rfl), (ax_m1 13 rfl rfl), (ax_m3 77 rfl rfl)⟩
end
section
abbrev cn_V : Type := ax_K × (va_G × ClassId × ClassId × ClassId) × (Nat → Prop) × (State → Prop)
def cn_tys (cI cJ cZ : ClassId) : List (ClassId × FieldType) := [(cI, .int), (cJ, .long), (cZ, .boolean)]
def cn_ok (V : cn_V) (μ : ax_Mu) (cl sl : Nat) : Prop := match V with
  | ((p, _, _, R, s, m, args, _, meth, c), (D, cI, cJ, cZ), A, _) => p.tables.exec = Jvm.exec ∧ c.code = μ.2.1 ∧ c.maxLocals = μ.2.2.1 ∧ s.vm.findClass μ.1.cls = some m.cls ∧ (∀ w ∈ ax_tb, w.before args s = true) ∧ va_K D cx_cls (cn_tys cI cJ cZ) s ∧ (∀ q, s.heap.size ≤ q → A q) ∧ meth.sig.returnType = μ.2.2.2.1 ∧ meth.locks = false ∧ R = { frames := μ.2.2.2.2.1, cells := cl, slots := sl, locals := μ.2.2.2.2.2 }
def cn_At (V : cn_V) (pc : Nat) (lv : List (Option Value)) (st : List Value) (ws : va_W) (ce so : Nat) : Prop := match V with
  | ((p, l, e, R, s, m, args, below, meth, c), (D, _, _, _), A, Q) => ∀ (H : Heap) (locs : List Loc) (ls : Array Slot), va_P D cx_cls ws H → va_D A ws → va_S A s.heap H locs → ax_lv ls c.maxLocals lv → W p l e R s m args below meth c H locs ce so Q (F0 m pc ls st)
theorem cn_iconst {V : cn_V} {μ : ax_Mu} {cl sl : Nat} (hV : cn_ok V μ cl sl) {pc nx : Nat} {lv : List (Option Value)} {st : List Value} {ws : va_W} {ce so : Nat} {n : Int} (v : Int32) (d : ax_D μ.2.1 pc (.iconst n) 1 nx) (hv : Int32.ofInt n = v) (k : cn_At V nx lv (.int v :: st) ws ce so) : cn_At V pc lv (st) ws ce so := by
  obtain ⟨⟨p, l, e, R, s, m, args, below, meth, c⟩, ⟨D, cI, cJ, cZ⟩, A, Q⟩ := V
  obtain ⟨d, rfl⟩ := d
  intro H locs ls hP hD hS hl
  exact lv_iconst hV.1 hV.2.1 d hv (k H locs ls hP hD hS hl)
theorem cn_bipush {V : cn_V} {μ : ax_Mu} {cl sl : Nat} (hV : cn_ok V μ cl sl) {pc nx : Nat} {lv : List (Option Value)} {st : List Value} {ws : va_W} {ce so : Nat} {n : Int} (v : Int32) (d : ax_D μ.2.1 pc (.bipush n) 2 nx) (hv : (Int8.ofInt n).toInt32 = v) (k : cn_At V nx lv (.int v :: st) ws ce so) : cn_At V pc lv (st) ws ce so := by
  obtain ⟨⟨p, l, e, R, s, m, args, below, meth, c⟩, ⟨D, cI, cJ, cZ⟩, A, Q⟩ := V
  obtain ⟨d, rfl⟩ := d
  intro H locs ls hP hD hS hl
  exact lv_bipush hV.1 hV.2.1 d hv (k H locs ls hP hD hS hl)
theorem cn_sipush {V : cn_V} {μ : ax_Mu} {cl sl : Nat} (hV : cn_ok V μ cl sl) {pc nx : Nat} {lv : List (Option Value)} {st : List Value} {ws : va_W} {ce so : Nat} {n : Int} (v : Int32) (d : ax_D μ.2.1 pc (.sipush n) 3 nx) (hv : (Int16.ofInt n).toInt32 = v) (k : cn_At V nx lv (.int v :: st) ws ce so) : cn_At V pc lv (st) ws ce so := by
  obtain ⟨⟨p, l, e, R, s, m, args, below, meth, c⟩, ⟨D, cI, cJ, cZ⟩, A, Q⟩ := V
  obtain ⟨d, rfl⟩ := d
  intro H locs ls hP hD hS hl
  exact lv_sipush hV.1 hV.2.1 d hv (k H locs ls hP hD hS hl)
theorem cn_lconst {V : cn_V} {μ : ax_Mu} {cl sl : Nat} (hV : cn_ok V μ cl sl) {pc nx : Nat} {lv : List (Option Value)} {st : List Value} {ws : va_W} {ce so : Nat} {n : Fin 2} (v : Int64) (d : ax_D μ.2.1 pc (.lconst n) 1 nx) (hv : Int64.ofNat (n : Nat) = v) (k : cn_At V nx lv (.long v :: st) ws ce so) : cn_At V pc lv (st) ws ce so := by
  obtain ⟨⟨p, l, e, R, s, m, args, below, meth, c⟩, ⟨D, cI, cJ, cZ⟩, A, Q⟩ := V
  obtain ⟨d, rfl⟩ := d
  intro H locs ls hP hD hS hl
  exact lv_lconst hV.1 hV.2.1 d hv (k H locs ls hP hD hS hl)
theorem cn_ldc2 {V : cn_V} {μ : ax_Mu} {cl sl : Nat} (hV : cn_ok V μ cl sl) {pc nx : Nat} {lv : List (Option Value)} {st : List Value} {ws : va_W} {ce so : Nat} {ix : Nat} {v : Int64} (hc : Cond.constantLong μ.1.cls ix v ∈ ax_tb) (d : ax_D μ.2.1 pc (.ldc2_w ix) 3 nx) (k : cn_At V nx lv (.long v :: st) ws ce so) : cn_At V pc lv (st) ws ce so := by
  obtain ⟨⟨p, l, e, R, s, m, args, below, meth, c⟩, ⟨D, cI, cJ, cZ⟩, A, Q⟩ := V
  obtain ⟨d, rfl⟩ := d
  intro H locs ls hP hD hS hl
  exact lv_ldc2 hV.1 hV.2.1 hV.2.2.2.1 (hV.2.2.2.2.1 _ hc) d (k H locs ls hP hD hS hl)
theorem cn_iload_n {V : cn_V} {μ : ax_Mu} {cl sl : Nat} (hV : cn_ok V μ cl sl) {pc nx : Nat} {lv : List (Option Value)} {st : List Value} {ws : va_W} {ce so : Nat} {k0 : Fin 4} {a : Int32} (d : ax_D μ.2.1 pc (.iload_n k0) 1 nx) (hi : lv[(k0 : Nat)]? = some (some (.int a))) (k : cn_At V nx lv (.int a :: st) ws ce so) : cn_At V pc lv (st) ws ce so := by
  obtain ⟨⟨p, l, e, R, s, m, args, below, meth, c⟩, ⟨D, cI, cJ, cZ⟩, A, Q⟩ := V
  obtain ⟨d, rfl⟩ := d
  intro H locs ls hP hD hS hl
  exact lv_iload_n hV.1 hV.2.1 d rfl (hl.2.2 _ _ hi) (k H locs ls hP hD hS hl)
theorem cn_aload_n {V : cn_V} {μ : ax_Mu} {cl sl : Nat} (hV : cn_ok V μ cl sl) {pc nx : Nat} {lv : List (Option Value)} {st : List Value} {ws : va_W} {ce so : Nat} {k0 : Fin 4} {a : Nat} (d : ax_D μ.2.1 pc (.aload_n k0) 1 nx) (hi : lv[(k0 : Nat)]? = some (some (.ref a))) (k : cn_At V nx lv (.ref a :: st) ws ce so) : cn_At V pc lv (st) ws ce so := by
  obtain ⟨⟨p, l, e, R, s, m, args, below, meth, c⟩, ⟨D, cI, cJ, cZ⟩, A, Q⟩ := V
  obtain ⟨d, rfl⟩ := d
  intro H locs ls hP hD hS hl
  exact lv_aload_n hV.1 hV.2.1 d rfl (hl.2.2 _ _ hi) (k H locs ls hP hD hS hl)
theorem cn_istore_n {V : cn_V} {μ : ax_Mu} {cl sl : Nat} (hV : cn_ok V μ cl sl) {pc nx : Nat} {lv : List (Option Value)} {st : List Value} {ws : va_W} {ce so : Nat} {k0 : Fin 4} {a : Int32} (lv' : List (Option Value)) (d : ax_D μ.2.1 pc (.istore_n k0) 1 nx) (hs : (lv.set (k0 : Nat) (some (.int a))) = lv') (hc : (ax_ok1 lv (k0 : Nat) && Nat.blt ((k0 : Nat) + 0) μ.2.2.1) = true) (k : cn_At V nx lv' st ws ce so) : cn_At V pc lv (.int a :: st) ws ce so := by
  obtain ⟨⟨p, l, e, R, s, m, args, below, meth, c⟩, ⟨D, cI, cJ, cZ⟩, A, Q⟩ := V
  obtain ⟨d, rfl⟩ := d
  subst hs
  rw [Bool.and_eq_true] at hc
  intro H locs ls hP hD hS hl
  refine lv_istore_n hV.1 hV.2.1 d rfl (ax_lv_has hl) ?_ rfl (fun ls' hl' => k H locs ls' hP hD hS (ax_lv_st1 hc.1 hl'))
  have := Nat.le_of_ble_eq_true hc.2
  rw [show c.maxLocals = μ.2.2.1 from hV.2.2.1]
  omega
theorem cn_astore_n {V : cn_V} {μ : ax_Mu} {cl sl : Nat} (hV : cn_ok V μ cl sl) {pc nx : Nat} {lv : List (Option Value)} {st : List Value} {ws : va_W} {ce so : Nat} {k0 : Fin 4} {a : Nat} (lv' : List (Option Value)) (d : ax_D μ.2.1 pc (.astore_n k0) 1 nx) (hs : (lv.set (k0 : Nat) (some (.ref a))) = lv') (hc : (ax_ok1 lv (k0 : Nat) && Nat.blt ((k0 : Nat) + 0) μ.2.2.1) = true) (k : cn_At V nx lv' st ws ce so) : cn_At V pc lv (.ref a :: st) ws ce so := by
  obtain ⟨⟨p, l, e, R, s, m, args, below, meth, c⟩, ⟨D, cI, cJ, cZ⟩, A, Q⟩ := V
  obtain ⟨d, rfl⟩ := d
  subst hs
  rw [Bool.and_eq_true] at hc
  intro H locs ls hP hD hS hl
  refine lv_astore_n hV.1 hV.2.1 d rfl (ax_lv_has hl) ?_ rfl (fun ls' hl' => k H locs ls' hP hD hS (ax_lv_st1 hc.1 hl'))
  have := Nat.le_of_ble_eq_true hc.2
  rw [show c.maxLocals = μ.2.2.1 from hV.2.2.1]
  omega
theorem cn_iinc {V : cn_V} {μ : ax_Mu} {cl sl : Nat} (hV : cn_ok V μ cl sl) {pc nx : Nat} {lv : List (Option Value)} {st : List Value} {ws : va_W} {ce so : Nat} {i : Nat} {n : Int} {a : Int32} (b : Int32) (lv' : List (Option Value)) (d : ax_D μ.2.1 pc (.iinc i n) 3 nx) (hi : lv[i]? = some (some (.int a))) (hv : a + Int32.ofInt n = b) (hs : lv.set i (some (.int b)) = lv') (hc : (ax_ok1 lv i && Nat.blt (i + 0) μ.2.2.1) = true) (k : cn_At V nx lv' st ws ce so) : cn_At V pc lv st ws ce so := by
  obtain ⟨⟨p, l, e, R, s, m, args, below, meth, c⟩, ⟨D, cI, cJ, cZ⟩, A, Q⟩ := V
  obtain ⟨d, rfl⟩ := d
  subst hs
  rw [Bool.and_eq_true] at hc
  intro H locs ls hP hD hS hl
  obtain ⟨j, hj⟩ := List.getElem?_of_mem (ax_as_mem.mpr (show lv[((i, Value.int a) : Nat × Value).1]? = some (some (i, Value.int a).2) from hi))
  refine lv_iinc hV.1 hV.2.1 d (ax_lv_has hl) hj hv ?_ rfl (fun ls' hl' => k H locs ls' hP hD hS (ax_lv_st1 hc.1 hl'))
  have := Nat.le_of_ble_eq_true hc.2
  rw [show c.maxLocals = μ.2.2.1 from hV.2.2.1]
  omega
theorem cn_iadd {V : cn_V} {μ : ax_Mu} {cl sl : Nat} (hV : cn_ok V μ cl sl) {pc nx : Nat} {lv : List (Option Value)} {st : List Value} {ws : va_W} {ce so : Nat} {a b : Int32} (d : ax_D μ.2.1 pc (.iadd) 1 nx) (k : cn_At V nx lv (.int (a + b) :: st) ws ce so) : cn_At V pc lv (.int b :: .int a :: st) ws ce so := by
  obtain ⟨⟨p, l, e, R, s, m, args, below, meth, c⟩, ⟨D, cI, cJ, cZ⟩, A, Q⟩ := V
  obtain ⟨d, rfl⟩ := d
  intro H locs ls hP hD hS hl
  exact lv_iadd hV.1 hV.2.1 d (k H locs ls hP hD hS hl)
theorem cn_isub {V : cn_V} {μ : ax_Mu} {cl sl : Nat} (hV : cn_ok V μ cl sl) {pc nx : Nat} {lv : List (Option Value)} {st : List Value} {ws : va_W} {ce so : Nat} {a b : Int32} (d : ax_D μ.2.1 pc (.isub) 1 nx) (k : cn_At V nx lv (.int (a - b) :: st) ws ce so) : cn_At V pc lv (.int b :: .int a :: st) ws ce so := by
  obtain ⟨⟨p, l, e, R, s, m, args, below, meth, c⟩, ⟨D, cI, cJ, cZ⟩, A, Q⟩ := V
  obtain ⟨d, rfl⟩ := d
  intro H locs ls hP hD hS hl
  exact lv_isub hV.1 hV.2.1 d (k H locs ls hP hD hS hl)
theorem cn_iand {V : cn_V} {μ : ax_Mu} {cl sl : Nat} (hV : cn_ok V μ cl sl) {pc nx : Nat} {lv : List (Option Value)} {st : List Value} {ws : va_W} {ce so : Nat} {a b : Int32} (d : ax_D μ.2.1 pc (.iand) 1 nx) (k : cn_At V nx lv (.int (a &&& b) :: st) ws ce so) : cn_At V pc lv (.int b :: .int a :: st) ws ce so := by
  obtain ⟨⟨p, l, e, R, s, m, args, below, meth, c⟩, ⟨D, cI, cJ, cZ⟩, A, Q⟩ := V
  obtain ⟨d, rfl⟩ := d
  intro H locs ls hP hD hS hl
  exact lv_iand hV.1 hV.2.1 d (k H locs ls hP hD hS hl)
theorem cn_land {V : cn_V} {μ : ax_Mu} {cl sl : Nat} (hV : cn_ok V μ cl sl) {pc nx : Nat} {lv : List (Option Value)} {st : List Value} {ws : va_W} {ce so : Nat} {a b : Int64} (d : ax_D μ.2.1 pc (.land) 1 nx) (k : cn_At V nx lv (.long (a &&& b) :: st) ws ce so) : cn_At V pc lv (.long b :: .long a :: st) ws ce so := by
  obtain ⟨⟨p, l, e, R, s, m, args, below, meth, c⟩, ⟨D, cI, cJ, cZ⟩, A, Q⟩ := V
  obtain ⟨d, rfl⟩ := d
  intro H locs ls hP hD hS hl
  exact lv_land hV.1 hV.2.1 d (k H locs ls hP hD hS hl)
theorem cn_lor {V : cn_V} {μ : ax_Mu} {cl sl : Nat} (hV : cn_ok V μ cl sl) {pc nx : Nat} {lv : List (Option Value)} {st : List Value} {ws : va_W} {ce so : Nat} {a b : Int64} (d : ax_D μ.2.1 pc (.lor) 1 nx) (k : cn_At V nx lv (.long (a ||| b) :: st) ws ce so) : cn_At V pc lv (.long b :: .long a :: st) ws ce so := by
  obtain ⟨⟨p, l, e, R, s, m, args, below, meth, c⟩, ⟨D, cI, cJ, cZ⟩, A, Q⟩ := V
  obtain ⟨d, rfl⟩ := d
  intro H locs ls hP hD hS hl
  exact lv_lor hV.1 hV.2.1 d (k H locs ls hP hD hS hl)
theorem cn_lshl_ {V : cn_V} {μ : ax_Mu} {cl sl : Nat} (hV : cn_ok V μ cl sl) {pc nx : Nat} {lv : List (Option Value)} {st : List Value} {ws : va_W} {ce so : Nat} {a : Int64} {b : Int32} (d : ax_D μ.2.1 pc (.lshl) 1 nx) (k : cn_At V nx lv (.long (ax_lshl a b) :: st) ws ce so) : cn_At V pc lv (.int b :: .long a :: st) ws ce so := by
  obtain ⟨⟨p, l, e, R, s, m, args, below, meth, c⟩, ⟨D, cI, cJ, cZ⟩, A, Q⟩ := V
  obtain ⟨d, rfl⟩ := d
  intro H locs ls hP hD hS hl
  exact lv_lshl hV.1 hV.2.1 d rfl (k H locs ls hP hD hS hl)
theorem cn_i2l {V : cn_V} {μ : ax_Mu} {cl sl : Nat} (hV : cn_ok V μ cl sl) {pc nx : Nat} {lv : List (Option Value)} {st : List Value} {ws : va_W} {ce so : Nat} {a : Int32} (d : ax_D μ.2.1 pc (.i2l) 1 nx) (k : cn_At V nx lv (.long a.toInt64 :: st) ws ce so) : cn_At V pc lv (.int a :: st) ws ce so := by
  obtain ⟨⟨p, l, e, R, s, m, args, below, meth, c⟩, ⟨D, cI, cJ, cZ⟩, A, Q⟩ := V
  obtain ⟨d, rfl⟩ := d
  intro H locs ls hP hD hS hl
  exact lv_i2l hV.1 hV.2.1 d rfl (k H locs ls hP hD hS hl)
theorem cn_lcmp {V : cn_V} {μ : ax_Mu} {cl sl : Nat} (hV : cn_ok V μ cl sl) {pc nx : Nat} {lv : List (Option Value)} {st : List Value} {ws : va_W} {ce so : Nat} {a b : Int64} (d : ax_D μ.2.1 pc (.lcmp) 1 nx) (k : cn_At V nx lv (.int (lg_cmp a b) :: st) ws ce so) : cn_At V pc lv (.long b :: .long a :: st) ws ce so := by
  obtain ⟨⟨p, l, e, R, s, m, args, below, meth, c⟩, ⟨D, cI, cJ, cZ⟩, A, Q⟩ := V
  obtain ⟨d, rfl⟩ := d
  intro H locs ls hP hD hS hl
  exact W.lcmp hV.1 hV.2.1 d (k H locs ls hP hD hS hl)
theorem cn_dup {V : cn_V} {μ : ax_Mu} {cl sl : Nat} (hV : cn_ok V μ cl sl) {pc nx : Nat} {lv : List (Option Value)} {st : List Value} {ws : va_W} {ce so : Nat} {va : Value} (d : ax_D μ.2.1 pc (.dup) 1 nx) (hva : va.category = 1) (k : cn_At V nx lv (va :: va :: st) ws ce so) : cn_At V pc lv (va :: st) ws ce so := by
  obtain ⟨⟨p, l, e, R, s, m, args, below, meth, c⟩, ⟨D, cI, cJ, cZ⟩, A, Q⟩ := V
  obtain ⟨d, rfl⟩ := d
  intro H locs ls hP hD hS hl
  exact lv_dup hV.1 hV.2.1 d hva (k H locs ls hP hD hS hl)
theorem cn_icmp_eq {V : cn_V} {μ : ax_Mu} {cl sl : Nat} (hV : cn_ok V μ cl sl) {pc nx : Nat} {lv : List (Option Value)} {st : List Value} {ws : va_W} {ce so : Nat} {tgt : Nat} {a b : Int32} (d : ax_B μ.2.1 pc (.if_icmp .eq) nx tgt) (k1 : a = b → cn_At V tgt lv st ws ce so) (k2 : ¬ a = b → cn_At V nx lv st ws ce so) : cn_At V pc lv (.int b :: .int a :: st) ws ce so := by
  obtain ⟨⟨p, l, e, R, s, m, args, below, meth, c⟩, ⟨D, cI, cJ, cZ⟩, A, Q⟩ := V
  obtain ⟨off, d, rfl, ht⟩ := d
  intro H locs ls hP hD hS hl
  exact lv_icmp_eq hV.1 hV.2.1 d ht (fun q => k1 q H locs ls hP hD hS hl) (fun q => k2 q H locs ls hP hD hS hl)
theorem cn_icmp_gt {V : cn_V} {μ : ax_Mu} {cl sl : Nat} (hV : cn_ok V μ cl sl) {pc nx : Nat} {lv : List (Option Value)} {st : List Value} {ws : va_W} {ce so : Nat} {tgt : Nat} {a b : Int32} (d : ax_B μ.2.1 pc (.if_icmp .gt) nx tgt) (k1 : b < a → cn_At V tgt lv st ws ce so) (k2 : ¬ b < a → cn_At V nx lv st ws ce so) : cn_At V pc lv (.int b :: .int a :: st) ws ce so := by
  obtain ⟨⟨p, l, e, R, s, m, args, below, meth, c⟩, ⟨D, cI, cJ, cZ⟩, A, Q⟩ := V
  obtain ⟨off, d, rfl, ht⟩ := d
  intro H locs ls hP hD hS hl
  exact lv_icmp_gt hV.1 hV.2.1 d ht (fun q => k1 q H locs ls hP hD hS hl) (fun q => k2 q H locs ls hP hD hS hl)
theorem cn_if_eq {V : cn_V} {μ : ax_Mu} {cl sl : Nat} (hV : cn_ok V μ cl sl) {pc nx : Nat} {lv : List (Option Value)} {st : List Value} {ws : va_W} {ce so : Nat} {tgt : Nat} {a : Int32} (d : ax_B μ.2.1 pc (.ifCond .eq) nx tgt) (k1 : a = 0 → cn_At V tgt lv st ws ce so) (k2 : ¬ a = 0 → cn_At V nx lv st ws ce so) : cn_At V pc lv (.int a :: st) ws ce so := by
  obtain ⟨⟨p, l, e, R, s, m, args, below, meth, c⟩, ⟨D, cI, cJ, cZ⟩, A, Q⟩ := V
  obtain ⟨off, d, rfl, ht⟩ := d
  intro H locs ls hP hD hS hl
  exact lv_if_eq hV.1 hV.2.1 d ht (fun q => k1 q H locs ls hP hD hS hl) (fun q => k2 q H locs ls hP hD hS hl)
theorem cn_goto {V : cn_V} {μ : ax_Mu} {cl sl : Nat} (hV : cn_ok V μ cl sl) {pc nx : Nat} {lv : List (Option Value)} {st : List Value} {ws : va_W} {ce so : Nat} {tgt : Nat} (d : ax_B μ.2.1 pc (.goto) nx tgt) (k : cn_At V tgt lv st ws ce so) : cn_At V pc lv st ws ce so := by
  obtain ⟨⟨p, l, e, R, s, m, args, below, meth, c⟩, ⟨D, cI, cJ, cZ⟩, A, Q⟩ := V
  obtain ⟨off, d, rfl, ht⟩ := d
  intro H locs ls hP hD hS hl
  exact lv_goto hV.1 hV.2.1 d ht (k H locs ls hP hD hS hl)
theorem cn_tsw {V : cn_V} {μ : ax_Mu} {cl sl : Nat} (hV : cn_ok V μ cl sl) {pc nx : Nat} {lv : List (Option Value)} {st : List Value} {ws : va_W} {ce so : Nat} {dflt hi : Int} {offs : Array Int} {len : Nat} {a : Int32} (i : Nat) (ha : a = Int32.ofNat i) {off : Int} {tgt : Nat} (d : ax_D μ.2.1 pc (.tableswitch dflt 0 hi offs) len nx) (ho : offs[i]? = some off) (ht : (pc : Int) + off = (tgt : Int)) (hi1 : (i : Int) ≤ hi) (hi2 : hi < 1000) (k : cn_At V tgt lv st ws ce so) : cn_At V pc lv (.int a :: st) ws ce so := by
  obtain ⟨⟨p, l, e, R, s, m, args, below, meth, c⟩, ⟨D, cI, cJ, cZ⟩, A, Q⟩ := V
  have d := d.1
  subst ha
  have hv : (Int32.ofNat i).toInt = (i : Int) := Int32.toInt_ofNat_of_lt (by omega)
  intro H locs ls hP hD hS hl
  exact lv_tableIn hV.1 hV.2.1 d (by rw [hv]; omega) (by rw [hv]; omega) (by rw [hv]; simpa using ho) ht (k H locs ls hP hD hS hl)
theorem cn_tswd {V : cn_V} {μ : ax_Mu} {cl sl : Nat} (hV : cn_ok V μ cl sl) {pc nx : Nat} {lv : List (Option Value)} {st : List Value} {ws : va_W} {ce so : Nat} {dflt hi : Int} {offs : Array Int} {len : Nat} {a : Int32} {n : Nat} (hn : ax_nk a n) {tgt : Nat} (d : ax_D μ.2.1 pc (.tableswitch dflt 0 hi offs) len nx) (ht : (pc : Int) + dflt = (tgt : Int)) (hh : hi + 1 = (n : Int)) (k : cn_At V tgt lv st ws ce so) : cn_At V pc lv (.int a :: st) ws ce so := by
  obtain ⟨⟨p, l, e, R, s, m, args, below, meth, c⟩, ⟨D, cI, cJ, cZ⟩, A, Q⟩ := V
  have d := d.1
  intro H locs ls hP hD hS hl
  refine lv_tableOut hV.1 hV.2.1 d ?_ ht (k H locs ls hP hD hS hl)
  by_cases h1 : a.toInt < 0
  · exact Or.inl h1
  · refine Or.inr ?_
    rcases Int.lt_or_le hi a.toInt with q | q
    · exact q
    · refine absurd ?_ (hn a.toInt.toNat (by omega))
      apply Int32.toInt_inj.mp
      have := a.toInt_lt
      rw [Int32.toInt_ofNat_of_lt (by omega)]
      omega
theorem cn_P_app {D : va_G} {cl : List vw_C} {a b : va_W} {H : Heap} : va_P D cl (a ++ b) H ↔ va_P D cl a H ∧ va_P D cl b H := by
  constructor
  · intro h
    refine ⟨fun k q hq => h k q ?_, fun k q hq => h (a.length + k) q ?_⟩
    · rw [List.getElem?_append_left (List.getElem?_eq_some_iff.mp hq).1]; exact hq
    · rw [List.getElem?_append_right (by omega)]; simpa using hq
  · intro h k q hq
    rcases List.mem_append.mp (List.mem_of_getElem? hq) with m | m
    · obtain ⟨i, hi⟩ := List.getElem?_of_mem m
      exact h.1 i q hi
    · obtain ⟨i, hi⟩ := List.getElem?_of_mem m
      exact h.2 i q hi
def cn_nd : va_W → Prop
  | [] => True
  | x :: ws => (∀ q ∈ ws, ¬ q.1 = x.1) ∧ cn_nd ws
theorem cn_D_of {A : Nat → Prop} {ws : va_W} (h : cn_nd ws) (hA : ∀ q ∈ ws, A q.1) : va_D A ws := by
  refine ⟨?_, fun k q hq => hA q (List.mem_of_getElem? hq)⟩
  clear hA
  induction ws with
  | nil => intro i j p q hp; simp at hp
  | cons x ws ih =>
    intro i j p q hp hq he
    match i, j with
    | 0, 0 => rfl
    | 0, j + 1 =>
      simp only [List.getElem?_cons_zero, Option.some.injEq] at hp
      subst hp
      exact absurd he.symm (h.1 q (List.mem_of_getElem? (by simpa using hq)))
    | i + 1, 0 =>
      simp only [List.getElem?_cons_zero, Option.some.injEq] at hq
      subst hq
      exact absurd he (h.1 p (List.mem_of_getElem? (by simpa using hp)))
    | i + 1, j + 1 => rw [ih h.2 i j p q (by simpa using hp) (by simpa using hq) he]
theorem cn_D_nd {A : Nat → Prop} {ws : va_W} (h : va_D A ws) : cn_nd ws ∧ ∀ q ∈ ws, A q.1 := by
  refine ⟨?_, fun q hq => by
    obtain ⟨i, hi⟩ := List.getElem?_of_mem hq
    exact h.2 i q hi⟩
  have h1 := h.1
  clear h
  induction ws with
  | nil => trivial
  | cons x ws ih =>
    refine ⟨fun q hq he => ?_, ih (fun i j p q hp hq he => ?_)⟩
    · obtain ⟨i, hi⟩ := List.getElem?_of_mem hq
      have := h1 (i + 1) 0 q x (by simpa using hi) rfl he
      omega
    · have := h1 (i + 1) (j + 1) p q (by simpa using hp) (by simpa using hq) he
      omega
theorem cn_nd_app {a b : va_W} : cn_nd (a ++ b) ↔ cn_nd a ∧ cn_nd b ∧ ∀ p ∈ a, ∀ q ∈ b, ¬ q.1 = p.1 := by
  induction a with
  | nil => simp [cn_nd]
  | cons x a ih =>
    simp only [List.cons_append, cn_nd, ih, List.mem_append, List.mem_cons]
    constructor
    · rintro ⟨h1, h2, h3, h4⟩
      refine ⟨⟨fun q hq => h1 q (Or.inl hq), h2⟩, h3, ?_⟩
      rintro p (rfl | hp) q hq
      · exact h1 q (Or.inr hq)
      · exact h4 p hp q hq
    · rintro ⟨⟨h1, h2⟩, h3, h4⟩
      refine ⟨?_, h2, h3, fun p hp => h4 p (Or.inr hp)⟩
      rintro q (hq | hq)
      · exact h1 q hq
      · exact h4 x (Or.inl rfl) q hq
theorem cn_at_lt {D : va_G} {cl : List vw_C} {ws : va_W} {H : Heap} (h : va_P D cl ws H) {q : Nat × va_E} (hq : q ∈ ws) : q.1 < H.size := by
  obtain ⟨i, hi⟩ := List.getElem?_of_mem hq
  exact (h i q hi).lt
theorem cn_P_kept {D : va_G} {cl : List vw_C} {ws : va_W} {H H1 : Heap} (h : va_P D cl ws H) (hk : ∀ q ∈ ws, H1[q.1]? = H[q.1]?) : va_P D cl ws H1 := fun k q hq => (h k q hq).kept (hk q (List.mem_of_getElem? hq))
/-- what comes back from a call beside what it did not touch -/
theorem cn_back {A A1 : Nat → Prop} {D : va_G} {wr wc w1 : va_W} {H H1 : Heap} (hP : va_P D cx_cls (wr ++ wc) H) (hD : va_D A (wr ++ wc)) (hk : ∀ q : Nat, q < H.size → ¬ A1 q → H1[q]? = H[q]?) (hr : ∀ q ∈ wr, ¬ A1 q.1) (hP1 : va_P D cx_cls w1 H1) (hD1 : va_D A1 w1) (hA : ∀ q ∈ w1, A q.1) : va_P D cx_cls (wr ++ w1) H1 ∧ va_D A (wr ++ w1) := by
  have hPr := (cn_P_app.mp hP).1
  obtain ⟨hn, ha⟩ := cn_D_nd hD
  obtain ⟨hn1, ha1⟩ := cn_D_nd hD1
  refine ⟨cn_P_app.mpr ⟨cn_P_kept hPr (fun q hq => hk q.1 (cn_at_lt hPr hq) (hr q hq)), hP1⟩, cn_D_of (cn_nd_app.mpr ⟨(cn_nd_app.mp hn).1, hn1, fun p hp q hq he => hr p hp (he ▸ ha1 q hq)⟩) (fun q hq => ?_)⟩
  rcases List.mem_append.mp hq with m | m
  · exact ha q (List.mem_append_left _ m)
  · exact hA q m
theorem cn_new {V : cn_V} {μ : ax_Mu} {cl sl : Nat} (hV : cn_ok V μ cl sl) {pc nx : Nat} {lv : List (Option Value)} {st : List Value} {ws : va_W} {ce so : Nat} {ix ci N : Nat} {C : String} {T : u_T} (d : ax_D μ.2.1 pc (.new ix) 3 nx) (hc : cx_cls[ci]? = some (C, T, N)) (hin : ∀ w ∈ u_ws C T N, w ∈ ax_tb) (ty : Nat → FieldType) (hty : ∀ k, k < N → parseFieldDescriptor (T k).2.2.1 = some (ty k)) (hcl : Cond.classLink μ.1.cls ix C ∈ ax_tb) (hinst : Cond.instantiable C N ∈ ax_tb) (hini : Cond.initialized C ∈ ax_tb) (fs : List Value) (hfs : ∀ j, j < N → defaultValue (ty j) = vp_V fs j) (hce : ce + 1 ≤ cl) (hso : so + N ≤ sl) (k : ∀ q : Nat, cn_At V nx lv (.ref q :: st) (ws ++ [(q, .inr (ci, fs))]) (ce + 1) (so + N)) : cn_At V pc lv st ws ce so := by
  obtain ⟨⟨p, l, e, R, s, m, args, below, meth, c⟩, ⟨D, cI, cJ, cZ⟩, A, Q⟩ := V
  obtain ⟨d, rfl⟩ := d
  have hR := hV.2.2.2.2.2.2.2.2.2
  subst hR
  intro H locs ls hP hD hS hl
  exact va_new (c0 := c) hV.1 hV.2.1 hV.2.2.2.2.1 hin ty hty hV.2.2.2.1 (hV.2.2.2.2.1 _ hcl) (hV.2.2.2.2.1 _ hinst) (hV.2.2.2.2.1 _ hini) hV.2.2.2.2.2.1 hP hD hS hV.2.2.2.2.2.2.1 hc hfs hce hso d (fun q H1 hP1 hD1 hS1 => k q H1 locs ls hP1 hD1 hS1 hl)
theorem cn_newI {V : cn_V} {μ : ax_Mu} {cl sl : Nat} (hV : cn_ok V μ cl sl) {pc nx : Nat} {lv : List (Option Value)} {st : List Value} {ws : va_W} {ce so : Nat} {n : Int32} (N : Nat) (hw : Cond.arrayClass .int ∈ ax_tb) (d : ax_D μ.2.1 pc (.newarray .int) 2 nx) (hn : ¬ n < 0) (hN : n.toNatClampNeg = N) (hbytes : N * componentBytes .int ≤ 536870912) (hce : ce + 1 ≤ cl) (hso : so + N ≤ sl) (k : ∀ q : Nat, cn_At V nx lv (.ref q :: st) (ws ++ [(q, .inl (V.2.1.2.1, N, .inl (fun _ => (0 : Int32))))]) (ce + 1) (so + N)) : cn_At V pc lv (.int n :: st) ws ce so := by
  obtain ⟨⟨p, l, e, R, s, m, args, below, meth, c⟩, ⟨D, cI, cJ, cZ⟩, A, Q⟩ := V
  obtain ⟨d, rfl⟩ := d
  have hR := hV.2.2.2.2.2.2.2.2.2
  subst hR
  intro H locs ls hP hD hS hl
  refine va_newa (atype := .int) (ty := .int) (a0 := (N, .inl (fun _ => (0 : Int32)))) hV.1 hV.2.1 (hV.2.2.2.2.1 _ hw) rfl hV.2.2.2.2.2.1 hP hD hS hV.2.2.2.2.2.2.1 (fun cA => by
    first | rfl | simp [vp_cell, arrV, defaultValue]) hn hN hbytes hce hso d (fun q cA H1 hK1 hP1 hD1 hS1 => ?_)
  have e1 : va_RA s cA .int := (hK1.2 3 (cA, .int) rfl).2
  have e2 : va_RA s cI .int := (hV.2.2.2.2.2.1.2 0 (cI, .int) rfl).2
  have e3 : cA = cI := Option.some.inj (Eq.trans (Eq.symm e1) e2)
  subst e3
  exact k q H1 locs ls hP1 hD1 hS1 hl
theorem cn_newJ {V : cn_V} {μ : ax_Mu} {cl sl : Nat} (hV : cn_ok V μ cl sl) {pc nx : Nat} {lv : List (Option Value)} {st : List Value} {ws : va_W} {ce so : Nat} {n : Int32} (N : Nat) (hw : Cond.arrayClass .long ∈ ax_tb) (d : ax_D μ.2.1 pc (.newarray .long) 2 nx) (hn : ¬ n < 0) (hN : n.toNatClampNeg = N) (hbytes : N * componentBytes .long ≤ 536870912) (hce : ce + 1 ≤ cl) (hso : so + N ≤ sl) (k : ∀ q : Nat, cn_At V nx lv (.ref q :: st) (ws ++ [(q, .inl (V.2.1.2.2.1, N, .inr (.inl (fun _ => (0 : Int64)))))]) (ce + 1) (so + N)) : cn_At V pc lv (.int n :: st) ws ce so := by
  obtain ⟨⟨p, l, e, R, s, m, args, below, meth, c⟩, ⟨D, cI, cJ, cZ⟩, A, Q⟩ := V
  obtain ⟨d, rfl⟩ := d
  have hR := hV.2.2.2.2.2.2.2.2.2
  subst hR
  intro H locs ls hP hD hS hl
  refine va_newa (atype := .long) (ty := .long) (a0 := (N, .inr (.inl (fun _ => (0 : Int64))))) hV.1 hV.2.1 (hV.2.2.2.2.1 _ hw) rfl hV.2.2.2.2.2.1 hP hD hS hV.2.2.2.2.2.2.1 (fun cA => by
    first | rfl | simp [vp_cell, arrV, defaultValue]) hn hN hbytes hce hso d (fun q cA H1 hK1 hP1 hD1 hS1 => ?_)
  have e1 : va_RA s cA .long := (hK1.2 3 (cA, .long) rfl).2
  have e2 : va_RA s cJ .long := (hV.2.2.2.2.2.1.2 1 (cJ, .long) rfl).2
  have e3 : cA = cJ := Option.some.inj (Eq.trans (Eq.symm e1) e2)
  subst e3
  exact k q H1 locs ls hP1 hD1 hS1 hl
theorem cn_newZ {V : cn_V} {μ : ax_Mu} {cl sl : Nat} (hV : cn_ok V μ cl sl) {pc nx : Nat} {lv : List (Option Value)} {st : List Value} {ws : va_W} {ce so : Nat} {n : Int32} (N : Nat) (hw : Cond.arrayClass .boolean ∈ ax_tb) (d : ax_D μ.2.1 pc (.newarray .boolean) 2 nx) (hn : ¬ n < 0) (hN : n.toNatClampNeg = N) (hbytes : N * componentBytes .boolean ≤ 536870912) (hce : ce + 1 ≤ cl) (hso : so + N ≤ sl) (k : ∀ q : Nat, cn_At V nx lv (.ref q :: st) (ws ++ [(q, .inl (V.2.1.2.2.2, N, .inl (fun _ => (0 : Int32))))]) (ce + 1) (so + N)) : cn_At V pc lv (.int n :: st) ws ce so := by
  obtain ⟨⟨p, l, e, R, s, m, args, below, meth, c⟩, ⟨D, cI, cJ, cZ⟩, A, Q⟩ := V
  obtain ⟨d, rfl⟩ := d
  have hR := hV.2.2.2.2.2.2.2.2.2
  subst hR
  intro H locs ls hP hD hS hl
  refine va_newa (atype := .boolean) (ty := .boolean) (a0 := (N, .inl (fun _ => (0 : Int32)))) hV.1 hV.2.1 (hV.2.2.2.2.1 _ hw) rfl hV.2.2.2.2.2.1 hP hD hS hV.2.2.2.2.2.2.1 (fun cA => by
    first | rfl | simp [vp_cell, arrV, defaultValue]) hn hN hbytes hce hso d (fun q cA H1 hK1 hP1 hD1 hS1 => ?_)
  have e1 : va_RA s cA .boolean := (hK1.2 3 (cA, .boolean) rfl).2
  have e2 : va_RA s cZ .boolean := (hV.2.2.2.2.2.1.2 2 (cZ, .boolean) rfl).2
  have e3 : cA = cZ := Option.some.inj (Eq.trans (Eq.symm e1) e2)
  subst e3
  exact k q H1 locs ls hP1 hD1 hS1 hl
def cn_F (own : String) (ix ci j : Nat) (fin : Bool) (ty : FieldType) : Prop := ∃ (C : String) (T : u_T) (N : Nat) (ty0 : Nat → FieldType), cx_cls[ci]? = some (C, T, N) ∧ j < N ∧ (∀ w ∈ u_ws C T N, w ∈ ax_tb) ∧ Cond.fieldLink own ix (T j).1 (T j).2.1 (T j).2.2.1 ∈ ax_tb ∧ (∀ k, k < N → parseFieldDescriptor (T k).2.2.1 = some (ty0 k)) ∧ (∀ a, a < N → ∀ b, b < N → a ≠ b → (T a).2.1 ≠ (T b).2.1) ∧ (T j).2.2.2 = fin ∧ parseFieldDescriptor (T j).2.2.1 = some ty ∧ (fin = true → (T j).1 = own)
theorem cn_put {V : cn_V} {μ : ax_Mu} {cl sl : Nat} (hV : cn_ok V μ cl sl) {pc nx : Nat} {lv : List (Option Value)} {st : List Value} {ws : va_W} {ce so : Nat} {ix ci j a : Nat} {fin : Bool} {ty : FieldType} {v : Value} {fs : List Value} (hin2 : V.1.2.2.2.2.2.2.2.2.1.name = "<init>") (hf : cn_F μ.1.cls ix ci j fin ty) (d : ax_D μ.2.1 pc (.putfield ix) 3 nx) (i : Nat) (ws' : va_W) (hw : ws[i]? = some (a, .inr (ci, fs))) (hn : narrow ty v = v) (hfit : fits ty v = true) (hl0 : j < fs.length) (hs : ws.set i (a, .inr (ci, fs.set j v)) = ws') (k : cn_At V nx lv st ws' ce so) : cn_At V pc lv (v :: .ref a :: st) ws ce so := by
  obtain ⟨⟨p, l, e, R, s, m, args, below, meth, c⟩, ⟨D, cI, cJ, cZ⟩, A, Q⟩ := V
  obtain ⟨d, rfl⟩ := d
  subst hs
  obtain ⟨C, T, N, ty0, hc, hj, hin, hlk, hty, hnm, hfin, hd, hown⟩ := hf
  intro H locs ls hP hD hS hl
  cases fin with
  | false => exact va_put hV.1 hV.2.1 hV.2.2.2.2.1 hin ty0 hty hnm hV.2.2.2.1 hV.2.2.2.2.2.1 hP hD hS i hw hc j hj (hV.2.2.2.2.1 _ hlk) (fun _ h => h) hfin hd hn hfit hl0 d (fun H1 locs1 hP1 hD1 hS1 => k H1 locs1 ls hP1 hD1 hS1 hl)
  | true => exact va_putF hV.1 hV.2.1 hV.2.2.2.2.1 hin ty0 hty hnm hV.2.2.2.1 hV.2.2.2.2.2.1 hP hD hS i hw hc j hj (hV.2.2.2.2.1 _ hlk) (fun _ h => h) hfin hin2 (hown rfl) hd hn hfit hl0 d (fun H1 locs1 hP1 hD1 hS1 => k H1 locs1 ls hP1 hD1 hS1 hl)
theorem cn_get {V : cn_V} {μ : ax_Mu} {cl sl : Nat} (hV : cn_ok V μ cl sl) {pc nx : Nat} {lv : List (Option Value)} {st : List Value} {ws : va_W} {ce so : Nat} {ix ci j a : Nat} {v : Value} {fs : List Value} (hf : ax_F μ.1.cls ix ci j) (d : ax_D μ.2.1 pc (.getfield ix) 3 nx) (i : Nat) (hw : ws[i]? = some (a, .inr (ci, fs))) (hv : fs[j]? = some v) (k : cn_At V nx lv (v :: st) ws ce so) : cn_At V pc lv (.ref a :: st) ws ce so := by
  obtain ⟨⟨p, l, e, R, s, m, args, below, meth, c⟩, ⟨D, cI, cJ, cZ⟩, A, Q⟩ := V
  obtain ⟨d, rfl⟩ := d
  obtain ⟨C, T, N, hc, hj, hin, hlk⟩ := hf
  intro H locs ls hP hD hS hl
  exact va_get hV.1 hV.2.1 hV.2.2.2.2.1 hin hV.2.2.2.1 hV.2.2.2.2.2.1 hP i hw hc j hj (hV.2.2.2.2.1 _ hlk) (fun _ h => h) hv d (k H locs ls hP hD hS hl)
theorem cn_iast {V : cn_V} {μ : ax_Mu} {cl sl : Nat} (hV : cn_ok V μ cl sl) {pc nx : Nat} {lv : List (Option Value)} {st : List Value} {ws : va_W} {ce so : Nat} {a n : Nat} {x y : Int32} {f : Nat → Int32} (d : ax_D μ.2.1 pc .iastore 1 nx) (i : Nat) (ws' : va_W) (hw : ws[i]? = some (a, .inl (V.2.1.2.1, n, .inl f))) (hin : vp_in x n) (hs : ws.set i (a, .inl (V.2.1.2.1, n, .inl (upd f x.toNatClampNeg y))) = ws') (k : cn_At V nx lv st ws' ce so) : cn_At V pc lv (.int y :: .int x :: .ref a :: st) ws ce so := by
  obtain ⟨⟨p, l, e, R, s, m, args, below, meth, c⟩, ⟨D, cI, cJ, cZ⟩, A, Q⟩ := V
  obtain ⟨d, rfl⟩ := d
  subst hs
  intro H locs ls hP hD hS hl
  exact va_iast hV.1 hV.2.1 hV.2.2.2.2.2.1 hP hD hS i 0 hw rfl hin d (fun H1 locs1 hP1 hD1 hS1 => k H1 locs1 ls hP1 hD1 hS1 hl)
theorem cn_obj {V : cn_V} {μ : ax_Mu} {cl sl : Nat} (hV : cn_ok V μ cl sl) {pc nx : Nat} {lv : List (Option Value)} {st : List Value} {ws : va_W} {ce so : Nat} {ix a : Nat} (h1 : Cond.methodLink μ.1.cls ix Lib.objectInit ∈ ax_tb) (h2 : Cond.instanceMethod Lib.objectInit ∈ ax_tb) (h3 : Cond.code Lib.objectInit ⟨#[0xb1]⟩ 1 none ∈ ax_tb) (hrm : (Nat.ble 1 μ.2.2.2.2.1 && Nat.ble ((st.map fun v => v.category).sum + 12) μ.2.2.2.2.2) = true) (d : ax_D μ.2.1 pc (.invokespecial ix) 3 nx) (k : cn_At V nx lv st ws ce so) : cn_At V pc lv (.ref a :: st) ws ce so := by
  obtain ⟨⟨p, l, e, R, s, m, args, below, meth, c⟩, ⟨D, cI, cJ, cZ⟩, A, Q⟩ := V
  obtain ⟨d, rfl⟩ := d
  have hR := hV.2.2.2.2.2.2.2.2.2
  subst hR
  have hrm := Bool.and_eq_true _ _ ▸ hrm
  intro H locs ls hP hD hS hl
  refine W.objInit hV.1 hV.2.1 hV.2.2.2.1 (hV.2.2.2.2.1 _ h1) (hV.2.2.2.2.1 _ h2) (hV.2.2.2.2.1 _ h3) rfl hl.1 rfl d (Nat.le_of_ble_eq_true hrm.1) ?_ (k H locs ls hP hD hS hl)
  have := Nat.le_of_ble_eq_true hrm.2
  simpa [JFrame.monitorRoom] using this
def cn_A (h0 sz : Nat) : Nat → Prop := fun q => q = h0 ∨ sz ≤ q
def cn_rm (μ : ax_Mu) (cl sl : Nat) : Room := { frames := μ.2.2.2.2.1, cells := cl, slots := sl, locals := μ.2.2.2.2.2 }
abbrev cn_N : Type := List (String × Nat × MethodName × String)
def cn_nw (NL : cn_N) (U : State) : Prop := ∀ q ∈ NL, va_Nw (.methodLinkNest q.1 q.2.1 q.2.2.1 q.2.2.2) U
def cn_M (μ : ax_Mu) (cl sl : Nat) (NL : cn_N) (ci : Nat) (fs0 : List Value) (Lc : ax_L) (s0 : ax_S) : Prop :=
  ∀ (l : Launch) (D : va_G) (cI cJ cZ : ClassId) (h0 sz : Nat), Met l μ.1 (ax_w μ) (cn_rm μ cl sl) (va_Pc [.ref h0] (fun U => U.heap.size = sz ∧ va_P D cx_cls [(h0, .inr (ci, fs0))] U.heap ∧ va_K D cx_cls (cn_tys cI cJ cZ) U ∧ cn_nw NL U)) (va_Qv (fun ad : Nat → Nat => ad 0 = h0) (fun ad t => va_P D cx_cls (ax_ws Lc (D, ad, cI, cJ, cZ) s0) t.heap ∧ va_D (cn_A h0 sz) (ax_ws Lc (D, ad, cI, cJ, cZ) s0)) (cn_A h0 sz)) cl sl (cn_A h0 sz)
theorem cn_blind {NL : cn_N} {D : va_G} {cI cJ cZ : ClassId} {h0 sz ci : Nat} {fs0 : List Value} : FrameBlind (va_Pc [.ref h0] (fun U => U.heap.size = sz ∧ va_P D cx_cls [(h0, .inr (ci, fs0))] U.heap ∧ va_K D cx_cls (cn_tys cI cJ cZ) U ∧ cn_nw NL U)) := fun a U g mk q => ⟨q.1, q.2.1, q.2.2.1, va_K.moved (u := U) (U := U.calling g mk a) (Vm.Alike.refl U.vm) q.2.2.2.1, fun z hz => va_Nw.same rfl rfl (q.2.2.2.2 z hz)⟩
theorem cn_enter {μ : ax_Mu} {cl sl : Nat} {NL : cn_N} {ci : Nat} {fs0 : List Value} {Lc : ax_L} {s0 : ax_S} (hy : plainName μ.1.cls = true) (hname : μ.1.name = "<init>") (hret : μ.2.2.2.1 = none) (hn : 1 ≤ μ.2.2.1) (r : Nat) (lv0 : Nat → List (Option Value)) (hlv : ∀ h0, some (Value.ref h0) :: List.replicate r none = lv0 h0)
    (hb : ∀ (K : ax_K) (D : va_G) (cI cJ cZ : ClassId) (h0 sz : Nat) (Q : State → Prop), cn_ok (K, (D, cI, cJ, cZ), cn_A h0 sz, Q) μ cl sl → K.2.2.2.2.2.2.2.2.1.name = "<init>" → cn_nw NL K.2.2.2.2.1 → h0 < sz →
      (∀ (pc nx : Nat) (lv : List (Option Value)) (as : List Nat) (ks : List Nat) (ws : va_W), as.getD 0 0 = h0 → va_nd ks = true → ks.map (fun i => ws[i]?) = (ax_ws Lc (D, (fun k => as.getD k 0), cI, cJ, cZ) s0).map some → ax_D μ.2.1 pc .return_ 1 nx → cn_At (K, (D, cI, cJ, cZ), cn_A h0 sz, Q) pc lv [] ws cl sl) →
      cn_At (K, (D, cI, cJ, cZ), cn_A h0 sz, Q) 0 (lv0 h0) [] [(h0, .inr (ci, fs0))] 0 0) : cn_M μ cl sl NL ci fs0 Lc s0 := by
  intro l D cI cJ cZ h0 sz
  refine Met.ofW (cc := μ.2.1) (maxL := μ.2.2.1) (ret := μ.2.2.2.1) hy rfl ?_
  intro p e s₀ m args below meth c s₁ B hml hv
  obtain ⟨rfl, hsz, hP, hK, hnw⟩ := hv
  have hts := atoms_spec (ws := ax_w μ) B.pre
  have hlt : h0 < s₀.heap.size := cn_at_lt hP (q := (h0, .inr (ci, fs0))) (by simp)
  have hl := lv_entry ([Value.ref h0]) (n := μ.2.2.1) (by simpa [lg_sl, Value.category] using hn)
  rw [lg_entry_eq]
  generalize (lg_sl [Value.ref h0] ++ List.replicate (μ.2.2.1 - (lg_sl [Value.ref h0]).length) Slot.unset).toArray = ls at hl ⊢
  have hmn : meth.name = "<init>" := by rw [(name_of_methodNamed B.named B.method).1]; exact hname
  obtain ⟨Q, hQ⟩ : ∃ Q, Q = MQ below (va_Qv (fun ad : Nat → Nat => ad 0 = h0) (fun ad t => va_P D cx_cls (ax_ws Lc (D, ad, cI, cJ, cZ) s0) t.heap ∧ va_D (cn_A h0 sz) (ax_ws Lc (D, ad, cI, cJ, cZ) s0)) (cn_A h0 sz)) [Value.ref h0].toArray s₀ cl sl (cn_A h0 sz) := ⟨_, rfl⟩
  rw [← hQ]
  have k := hb (p, l, e, cn_rm μ cl sl, s₀, m, [Value.ref h0].toArray, below, meth, c) D cI cJ cZ h0 sz Q ⟨B.exec, B.bytes, hml, findClass_of_methodNamed B.named, fun w hw => hts w (List.mem_cons_of_mem _ hw), hK, fun q hq => Or.inr (by omega), B.returns, B.notSynchronized, rfl⟩ hmn hnw (by omega) ?_
  · refine k s₀.heap [] ls hP (cn_D_of ⟨fun q hq => by simp at hq, trivial⟩ (fun q hq => by
      simp only [List.mem_singleton] at hq
      subst hq
      exact Or.inl rfl)) va_S.rf ⟨by rw [hl.1]; exact hml.symm, hl.2.1, fun i v hi => ?_⟩
    rw [← hlv h0] at hi
    match i, hi with
    | 0, hi =>
      cases hi
      exact hl.2.2 (0, .ref h0) (by simp [lv_args])
    | i + 1, hi =>
      simp only [List.getElem?_cons_succ, List.getElem?_replicate] at hi
      split at hi
      · cases hi
      · cases hi
  · intro pc nx lv as ks ws has hnd hks d H locs ls' hP' hD' hS' hl'
    obtain ⟨d, rfl⟩ := d
    show W _ _ _ _ _ _ _ _ _ _ _ _ _ _ Q _
    rw [hQ]
    have hsub : (ks.filterMap fun i => ws[i]?) = ax_ws Lc (D, (fun k => as.getD k 0), cI, cJ, cZ) s0 := by
      have e : (ks.filterMap fun i => ws[i]?) = (ks.map (fun i => ws[i]?)).filterMap id := by simp [List.filterMap_map]
      rw [e, hks]
      simp [List.filterMap_map]
    refine W.vret B.exec B.bytes (B.returns.trans hret) (fun t ht _ => ⟨⟨fun k => as.getD k 0, rfl, has, ?_, ?_⟩, by rw [ht]; exact hS'.1, fun q hq hA => by rw [ht]; exact hS'.2.1 q hq hA⟩) hS'.2.2 d B.notSynchronized
    · rw [ht]
      exact hP'.sub ks hsub
    · exact hD'.sub ks hnd hks
theorem cn_callN {V : cn_V} {μ : ax_Mu} {cl sl : Nat} (hV : cn_ok V μ cl sl) {pc nx : Nat} {lv : List (Option Value)} {st : List Value} {ws : va_W} {ce so : Nat} {μ' : ax_Mu} {cl' sl' : Nat} {NL NL' : cn_N} {ci ix : Nat} {host : String} {fs0 : List Value} {Lc : ax_L} {s0 : ax_S} (hm : cn_M μ' cl' sl' NL' ci fs0 Lc s0) (hNL : cn_nw NL V.1.2.2.2.2.1) (hsub : ∀ q ∈ NL', q ∈ NL) (hl1 : (μ.1.cls, ix, μ'.1, host) ∈ NL) (hi : Cond.instanceMethod μ'.1 ∈ ax_tb) (hini : Cond.initialized μ'.1.cls ∈ ax_tb) (hcode : Cond.code μ'.1 μ'.2.1 μ'.2.2.1 μ'.2.2.2.1 ∈ ax_tb) (hret : μ'.2.2.2.1 = none) (hnam : ax_nam μ' 0) (hname : μ'.1.name = "<init>") (hrm : ax_rmle μ' μ = true) (hce : ce + cl' ≤ cl) (hso : so + sl' ≤ sl) (d : ax_D μ.2.1 pc (.invokespecial ix) 3 nx) {b : Nat} (hst : Nat.ble ((st.map fun v => v.category).sum) 8 = true)
    (k : ∀ ad : Nat → Nat, ad 0 = b → cn_At V nx lv st (ws ++ ax_ws Lc (V.2.1.1, ad, V.2.1.2.1, V.2.1.2.2.1, V.2.1.2.2.2) s0) (ce + cl') (so + sl')) : cn_At V pc lv (.ref b :: st) (ws ++ [(b, .inr (ci, fs0))]) ce so := by
  obtain ⟨⟨p, l, e, R, s, m, args, below, meth, c⟩, ⟨D, cI, cJ, cZ⟩, A, Q⟩ := V
  obtain ⟨d, rfl⟩ := d
  have hR := hV.2.2.2.2.2.2.2.2.2
  subst hR
  intro H locs ls hP hD hS hl
  have hPc := (cn_P_app.mp hP).2
  have hA' : ∀ q, cn_A b H.size q → A q := fun q hq => by
    rcases hq with rfl | hq
    · exact (cn_D_nd hD).2 (q, .inr (ci, fs0)) (by simp)
    · exact hV.2.2.2.2.2.2.1 q (Nat.le_trans hS.1 hq)
  have hw : ax_w μ' = Cond.code μ'.1 μ'.2.1 μ'.2.2.1 none :: ax_tb := by simp only [ax_w, hret]
  have hrm := Bool.and_eq_true _ _ ▸ hrm
  refine va_callv (va_runIN (As := []) (rest := st) ⟨hV.1, hV.2.1, rfl, hV.2.2.2.1, hV.2.2.2.2.1⟩ (hm l D cI cJ cZ b H.size) ⟨va_cnB 0 hV.2.2.2.2.1 (ax_goodw hcode) hw rfl rfl (hNL _ hl1) (hV.2.2.2.2.1 _ hini) hnam ⟨Nat.le_of_ble_eq_true hrm.1, Nat.le_of_ble_eq_true hrm.2⟩, hname, hV.2.2.2.2.1 _ hi⟩ ⟨cn_blind, fun U hU hW => ⟨rfl, by rw [hU], by rw [hU]; exact hPc, va_K.moved hW.alike hV.2.2.2.2.2.1, fun q hq => va_Nw.warmM hW (hNL q (hsub q hq))⟩⟩ rfl rfl hl.1 rfl (lv_room (Nat.le_of_ble_eq_true hst)) d ⟨hce, hso⟩) hS (fun q _ h => hA' q h) hA' (fun ad t H1 locs1 ht hvm hpost hB hsz hk hS1 => ?_)
  have hB1 := hB.1
  rw [ht] at hB1
  obtain ⟨hP2, hD2⟩ := cn_back hP hD hk (fun q hq h => by
    rcases h with h | h
    · exact (cn_nd_app.mp (cn_D_nd hD).1).2.2 q hq (b, .inr (ci, fs0)) (by simp) h.symm
    · exact absurd (cn_at_lt (cn_P_app.mp hP).1 hq) (Nat.not_lt.mpr h)) hB1 hB.2 (fun q hq => hA' _ ((cn_D_nd hB.2).2 q hq))
  exact k ad hpost H1 locs1 ls hP2 hD2 hS1 hl
end
section
theorem dX7_init_0 : ax_D cX7_init 0 (.aload_n 0) 1 1 := ⟨by decide +kernel, rfl⟩
theorem dX7_init_1 : ax_D cX7_init 1 (.invokespecial 3) 3 4 := ⟨by decide +kernel, rfl⟩
theorem dX7_init_4 : ax_D cX7_init 4 (.aload_n 0) 1 5 := ⟨by decide +kernel, rfl⟩
theorem dX7_init_5 : ax_D cX7_init 5 (.bipush 40) 2 7 := ⟨by decide +kernel, rfl⟩
theorem dX7_init_7 : ax_D cX7_init 7 (.newarray .int) 2 9 := ⟨by decide +kernel, rfl⟩
theorem dX7_init_9 : ax_D cX7_init 9 (.putfield 9) 3 12 := ⟨by decide +kernel, rfl⟩
theorem dX7_init_12 : ax_D cX7_init 12 (.aload_n 0) 1 13 := ⟨by decide +kernel, rfl⟩
theorem dX7_init_13 : ax_D cX7_init 13 (.bipush 40) 2 15 := ⟨by decide +kernel, rfl⟩
theorem dX7_init_15 : ax_D cX7_init 15 (.newarray .int) 2 17 := ⟨by decide +kernel, rfl⟩
theorem dX7_init_17 : ax_D cX7_init 17 (.putfield 15) 3 20 := ⟨by decide +kernel, rfl⟩
theorem dX7_init_20 : ax_D cX7_init 20 (.aload_n 0) 1 21 := ⟨by decide +kernel, rfl⟩
theorem dX7_init_21 : ax_D cX7_init 21 (.bipush 40) 2 23 := ⟨by decide +kernel, rfl⟩
theorem dX7_init_23 : ax_D cX7_init 23 (.newarray .int) 2 25 := ⟨by decide +kernel, rfl⟩
theorem dX7_init_25 : ax_D cX7_init 25 (.putfield 18) 3 28 := ⟨by decide +kernel, rfl⟩
theorem dX7_init_28 : ax_D cX7_init 28 (.aload_n 0) 1 29 := ⟨by decide +kernel, rfl⟩
theorem dX7_init_29 : ax_D cX7_init 29 (.bipush 40) 2 31 := ⟨by decide +kernel, rfl⟩
theorem dX7_init_31 : ax_D cX7_init 31 (.newarray .int) 2 33 := ⟨by decide +kernel, rfl⟩
theorem dX7_init_33 : ax_D cX7_init 33 (.putfield 21) 3 36 := ⟨by decide +kernel, rfl⟩
theorem dX7_init_36 : ax_D cX7_init 36 (.aload_n 0) 1 37 := ⟨by decide +kernel, rfl⟩
theorem dX7_init_37 : ax_D cX7_init 37 (.bipush 40) 2 39 := ⟨by decide +kernel, rfl⟩
theorem dX7_init_39 : ax_D cX7_init 39 (.newarray .int) 2 41 := ⟨by decide +kernel, rfl⟩
theorem dX7_init_41 : ax_D cX7_init 41 (.putfield 24) 3 44 := ⟨by decide +kernel, rfl⟩
theorem dX7_init_44 : ax_D cX7_init 44 (.aload_n 0) 1 45 := ⟨by decide +kernel, rfl⟩
theorem dX7_init_45 : ax_D cX7_init 45 (.bipush 40) 2 47 := ⟨by decide +kernel, rfl⟩
theorem dX7_init_47 : ax_D cX7_init 47 (.newarray .int) 2 49 := ⟨by decide +kernel, rfl⟩
theorem dX7_init_49 : ax_D cX7_init 49 (.putfield 27) 3 52 := ⟨by decide +kernel, rfl⟩
theorem dX7_init_52 : ax_D cX7_init 52 (.aload_n 0) 1 53 := ⟨by decide +kernel, rfl⟩
theorem dX7_init_53 : ax_D cX7_init 53 (.bipush 40) 2 55 := ⟨by decide +kernel, rfl⟩
theorem dX7_init_55 : ax_D cX7_init 55 (.newarray .int) 2 57 := ⟨by decide +kernel, rfl⟩
theorem dX7_init_57 : ax_D cX7_init 57 (.putfield 30) 3 60 := ⟨by decide +kernel, rfl⟩
theorem dX7_init_60 : ax_D cX7_init 60 (.aload_n 0) 1 61 := ⟨by decide +kernel, rfl⟩
theorem dX7_init_61 : ax_D cX7_init 61 (.iconst 0) 1 62 := ⟨by decide +kernel, rfl⟩
theorem dX7_init_62 : ax_D cX7_init 62 (.putfield 33) 3 65 := ⟨by decide +kernel, rfl⟩
theorem dX7_init_65 : ax_D cX7_init 65 (.return_) 1 66 := ⟨by decide +kernel, rfl⟩
theorem dX0_init_0 : ax_D cX0_init 0 (.aload_n 0) 1 1 := ⟨by decide +kernel, rfl⟩
theorem dX0_init_1 : ax_D cX0_init 1 (.invokespecial 3) 3 4 := ⟨by decide +kernel, rfl⟩
theorem dX0_init_4 : ax_D cX0_init 4 (.aload_n 0) 1 5 := ⟨by decide +kernel, rfl⟩
theorem dX0_init_5 : ax_D cX0_init 5 (.bipush 6) 2 7 := ⟨by decide +kernel, rfl⟩
theorem dX0_init_7 : ax_D cX0_init 7 (.newarray .int) 2 9 := ⟨by decide +kernel, rfl⟩
theorem dX0_init_9 : ax_D cX0_init 9 (.putfield 9) 3 12 := ⟨by decide +kernel, rfl⟩
theorem dX0_init_12 : ax_D cX0_init 12 (.aload_n 0) 1 13 := ⟨by decide +kernel, rfl⟩
theorem dX0_init_13 : ax_D cX0_init 13 (.bipush 6) 2 15 := ⟨by decide +kernel, rfl⟩
theorem dX0_init_15 : ax_D cX0_init 15 (.newarray .int) 2 17 := ⟨by decide +kernel, rfl⟩
theorem dX0_init_17 : ax_D cX0_init 17 (.putfield 15) 3 20 := ⟨by decide +kernel, rfl⟩
theorem dX0_init_20 : ax_D cX0_init 20 (.aload_n 0) 1 21 := ⟨by decide +kernel, rfl⟩
theorem dX0_init_21 : ax_D cX0_init 21 (.bipush 6) 2 23 := ⟨by decide +kernel, rfl⟩
theorem dX0_init_23 : ax_D cX0_init 23 (.newarray .int) 2 25 := ⟨by decide +kernel, rfl⟩
theorem dX0_init_25 : ax_D cX0_init 25 (.putfield 18) 3 28 := ⟨by decide +kernel, rfl⟩
theorem dX0_init_28 : ax_D cX0_init 28 (.aload_n 0) 1 29 := ⟨by decide +kernel, rfl⟩
theorem dX0_init_29 : ax_D cX0_init 29 (.iconst 0) 1 30 := ⟨by decide +kernel, rfl⟩
theorem dX0_init_30 : ax_D cX0_init 30 (.putfield 21) 3 33 := ⟨by decide +kernel, rfl⟩
theorem dX0_init_33 : ax_D cX0_init 33 (.return_) 1 34 := ⟨by decide +kernel, rfl⟩
theorem dX6_init_0 : ax_D cX6_init 0 (.aload_n 0) 1 1 := ⟨by decide +kernel, rfl⟩
theorem dX6_init_1 : ax_D cX6_init 1 (.invokespecial 3) 3 4 := ⟨by decide +kernel, rfl⟩
theorem dX6_init_4 : ax_D cX6_init 4 (.aload_n 0) 1 5 := ⟨by decide +kernel, rfl⟩
theorem dX6_init_5 : ax_D cX6_init 5 (.new 9) 3 8 := ⟨by decide +kernel, rfl⟩
theorem dX6_init_8 : ax_D cX6_init 8 (.dup) 1 9 := ⟨by decide +kernel, rfl⟩
theorem dX6_init_9 : ax_D cX6_init 9 (.invokespecial 11) 3 12 := ⟨by decide +kernel, rfl⟩
theorem dX6_init_12 : ax_D cX6_init 12 (.putfield 12) 3 15 := ⟨by decide +kernel, rfl⟩
theorem dX6_init_15 : ax_D cX6_init 15 (.aload_n 0) 1 16 := ⟨by decide +kernel, rfl⟩
theorem dX6_init_16 : ax_D cX6_init 16 (.new 18) 3 19 := ⟨by decide +kernel, rfl⟩
theorem dX6_init_19 : ax_D cX6_init 19 (.dup) 1 20 := ⟨by decide +kernel, rfl⟩
theorem dX6_init_20 : ax_D cX6_init 20 (.invokespecial 20) 3 23 := ⟨by decide +kernel, rfl⟩
theorem dX6_init_23 : ax_D cX6_init 23 (.putfield 21) 3 26 := ⟨by decide +kernel, rfl⟩
theorem dX6_init_26 : ax_D cX6_init 26 (.aload_n 0) 1 27 := ⟨by decide +kernel, rfl⟩
theorem dX6_init_27 : ax_D cX6_init 27 (.bipush 40) 2 29 := ⟨by decide +kernel, rfl⟩
theorem dX6_init_29 : ax_D cX6_init 29 (.newarray .int) 2 31 := ⟨by decide +kernel, rfl⟩
theorem dX6_init_31 : ax_D cX6_init 31 (.putfield 25) 3 34 := ⟨by decide +kernel, rfl⟩
theorem dX6_init_34 : ax_D cX6_init 34 (.aload_n 0) 1 35 := ⟨by decide +kernel, rfl⟩
theorem dX6_init_35 : ax_D cX6_init 35 (.bipush 40) 2 37 := ⟨by decide +kernel, rfl⟩
theorem dX6_init_37 : ax_D cX6_init 37 (.newarray .int) 2 39 := ⟨by decide +kernel, rfl⟩
theorem dX6_init_39 : ax_D cX6_init 39 (.putfield 29) 3 42 := ⟨by decide +kernel, rfl⟩
theorem dX6_init_42 : ax_D cX6_init 42 (.aload_n 0) 1 43 := ⟨by decide +kernel, rfl⟩
theorem dX6_init_43 : ax_D cX6_init 43 (.bipush 40) 2 45 := ⟨by decide +kernel, rfl⟩
theorem dX6_init_45 : ax_D cX6_init 45 (.newarray .int) 2 47 := ⟨by decide +kernel, rfl⟩
theorem dX6_init_47 : ax_D cX6_init 47 (.putfield 32) 3 50 := ⟨by decide +kernel, rfl⟩
theorem dX6_init_50 : ax_D cX6_init 50 (.aload_n 0) 1 51 := ⟨by decide +kernel, rfl⟩
theorem dX6_init_51 : ax_D cX6_init 51 (.bipush 40) 2 53 := ⟨by decide +kernel, rfl⟩
theorem dX6_init_53 : ax_D cX6_init 53 (.newarray .int) 2 55 := ⟨by decide +kernel, rfl⟩
theorem dX6_init_55 : ax_D cX6_init 55 (.putfield 35) 3 58 := ⟨by decide +kernel, rfl⟩
theorem dX6_init_58 : ax_D cX6_init 58 (.aload_n 0) 1 59 := ⟨by decide +kernel, rfl⟩
theorem dX6_init_59 : ax_D cX6_init 59 (.iconst 0) 1 60 := ⟨by decide +kernel, rfl⟩
theorem dX6_init_60 : ax_D cX6_init 60 (.putfield 38) 3 63 := ⟨by decide +kernel, rfl⟩
theorem dX6_init_63 : ax_D cX6_init 63 (.aload_n 0) 1 64 := ⟨by decide +kernel, rfl⟩
theorem dX6_init_64 : ax_D cX6_init 64 (.bipush 18) 2 66 := ⟨by decide +kernel, rfl⟩
theorem dX6_init_66 : ax_D cX6_init 66 (.newarray .int) 2 68 := ⟨by decide +kernel, rfl⟩
theorem dX6_init_68 : ax_D cX6_init 68 (.putfield 42) 3 71 := ⟨by decide +kernel, rfl⟩
theorem dX6_init_71 : ax_D cX6_init 71 (.aload_n 0) 1 72 := ⟨by decide +kernel, rfl⟩
theorem dX6_init_72 : ax_D cX6_init 72 (.bipush 18) 2 74 := ⟨by decide +kernel, rfl⟩
theorem dX6_init_74 : ax_D cX6_init 74 (.newarray .int) 2 76 := ⟨by decide +kernel, rfl⟩
theorem dX6_init_76 : ax_D cX6_init 76 (.putfield 45) 3 79 := ⟨by decide +kernel, rfl⟩
theorem dX6_init_79 : ax_D cX6_init 79 (.aload_n 0) 1 80 := ⟨by decide +kernel, rfl⟩
theorem dX6_init_80 : ax_D cX6_init 80 (.bipush 18) 2 82 := ⟨by decide +kernel, rfl⟩
theorem dX6_init_82 : ax_D cX6_init 82 (.newarray .int) 2 84 := ⟨by decide +kernel, rfl⟩
theorem dX6_init_84 : ax_D cX6_init 84 (.putfield 48) 3 87 := ⟨by decide +kernel, rfl⟩
theorem dX6_init_87 : ax_D cX6_init 87 (.aload_n 0) 1 88 := ⟨by decide +kernel, rfl⟩
theorem dX6_init_88 : ax_D cX6_init 88 (.bipush 18) 2 90 := ⟨by decide +kernel, rfl⟩
theorem dX6_init_90 : ax_D cX6_init 90 (.newarray .int) 2 92 := ⟨by decide +kernel, rfl⟩
theorem dX6_init_92 : ax_D cX6_init 92 (.putfield 51) 3 95 := ⟨by decide +kernel, rfl⟩
theorem dX6_init_95 : ax_D cX6_init 95 (.aload_n 0) 1 96 := ⟨by decide +kernel, rfl⟩
theorem dX6_init_96 : ax_D cX6_init 96 (.bipush 18) 2 98 := ⟨by decide +kernel, rfl⟩
theorem dX6_init_98 : ax_D cX6_init 98 (.newarray .int) 2 100 := ⟨by decide +kernel, rfl⟩
theorem dX6_init_100 : ax_D cX6_init 100 (.putfield 54) 3 103 := ⟨by decide +kernel, rfl⟩
theorem dX6_init_103 : ax_D cX6_init 103 (.aload_n 0) 1 104 := ⟨by decide +kernel, rfl⟩
theorem dX6_init_104 : ax_D cX6_init 104 (.bipush 18) 2 106 := ⟨by decide +kernel, rfl⟩
theorem dX6_init_106 : ax_D cX6_init 106 (.newarray .int) 2 108 := ⟨by decide +kernel, rfl⟩
theorem dX6_init_108 : ax_D cX6_init 108 (.putfield 57) 3 111 := ⟨by decide +kernel, rfl⟩
theorem dX6_init_111 : ax_D cX6_init 111 (.return_) 1 112 := ⟨by decide +kernel, rfl⟩
theorem dX3_init_0 : ax_D cX3_init 0 (.aload_n 0) 1 1 := ⟨by decide +kernel, rfl⟩
theorem dX3_init_1 : ax_D cX3_init 1 (.invokespecial 3) 3 4 := ⟨by decide +kernel, rfl⟩
theorem dX3_init_4 : ax_D cX3_init 4 (.aload_n 0) 1 5 := ⟨by decide +kernel, rfl⟩
theorem dX3_init_5 : ax_D cX3_init 5 (.bipush 12) 2 7 := ⟨by decide +kernel, rfl⟩
theorem dX3_init_7 : ax_D cX3_init 7 (.newarray .int) 2 9 := ⟨by decide +kernel, rfl⟩
theorem dX3_init_9 : ax_D cX3_init 9 (.putfield 9) 3 12 := ⟨by decide +kernel, rfl⟩
theorem dX3_init_12 : ax_D cX3_init 12 (.aload_n 0) 1 13 := ⟨by decide +kernel, rfl⟩
theorem dX3_init_13 : ax_D cX3_init 13 (.iconst 0) 1 14 := ⟨by decide +kernel, rfl⟩
theorem dX3_init_14 : ax_D cX3_init 14 (.putfield 15) 3 17 := ⟨by decide +kernel, rfl⟩
theorem dX3_init_17 : ax_D cX3_init 17 (.aload_n 0) 1 18 := ⟨by decide +kernel, rfl⟩
theorem dX3_init_18 : ax_D cX3_init 18 (.bipush 40) 2 20 := ⟨by decide +kernel, rfl⟩
theorem dX3_init_20 : ax_D cX3_init 20 (.newarray .int) 2 22 := ⟨by decide +kernel, rfl⟩
theorem dX3_init_22 : ax_D cX3_init 22 (.putfield 19) 3 25 := ⟨by decide +kernel, rfl⟩
theorem dX3_init_25 : ax_D cX3_init 25 (.aload_n 0) 1 26 := ⟨by decide +kernel, rfl⟩
theorem dX3_init_26 : ax_D cX3_init 26 (.lconst 0) 1 27 := ⟨by decide +kernel, rfl⟩
theorem dX3_init_27 : ax_D cX3_init 27 (.putfield 22) 3 30 := ⟨by decide +kernel, rfl⟩
theorem dX3_init_30 : ax_D cX3_init 30 (.aload_n 0) 1 31 := ⟨by decide +kernel, rfl⟩
theorem dX3_init_31 : ax_D cX3_init 31 (.iconst 0) 1 32 := ⟨by decide +kernel, rfl⟩
theorem dX3_init_32 : ax_D cX3_init 32 (.putfield 26) 3 35 := ⟨by decide +kernel, rfl⟩
theorem dX3_init_35 : ax_D cX3_init 35 (.return_) 1 36 := ⟨by decide +kernel, rfl⟩
theorem dX5_init_0 : ax_D cX5_init 0 (.aload_n 0) 1 1 := ⟨by decide +kernel, rfl⟩
theorem dX5_init_1 : ax_D cX5_init 1 (.invokespecial 3) 3 4 := ⟨by decide +kernel, rfl⟩
theorem dX5_init_4 : ax_D cX5_init 4 (.aload_n 0) 1 5 := ⟨by decide +kernel, rfl⟩
theorem dX5_init_5 : ax_D cX5_init 5 (.bipush 12) 2 7 := ⟨by decide +kernel, rfl⟩
theorem dX5_init_7 : ax_D cX5_init 7 (.newarray .int) 2 9 := ⟨by decide +kernel, rfl⟩
theorem dX5_init_9 : ax_D cX5_init 9 (.putfield 9) 3 12 := ⟨by decide +kernel, rfl⟩
theorem dX5_init_12 : ax_D cX5_init 12 (.aload_n 0) 1 13 := ⟨by decide +kernel, rfl⟩
theorem dX5_init_13 : ax_D cX5_init 13 (.sipush 4096) 3 16 := ⟨by decide +kernel, rfl⟩
theorem dX5_init_16 : ax_D cX5_init 16 (.newarray .int) 2 18 := ⟨by decide +kernel, rfl⟩
theorem dX5_init_18 : ax_D cX5_init 18 (.putfield 15) 3 21 := ⟨by decide +kernel, rfl⟩
theorem dX5_init_21 : ax_D cX5_init 21 (.aload_n 0) 1 22 := ⟨by decide +kernel, rfl⟩
theorem dX5_init_22 : ax_D cX5_init 22 (.sipush 4096) 3 25 := ⟨by decide +kernel, rfl⟩
theorem dX5_init_25 : ax_D cX5_init 25 (.newarray .int) 2 27 := ⟨by decide +kernel, rfl⟩
theorem dX5_init_27 : ax_D cX5_init 27 (.putfield 18) 3 30 := ⟨by decide +kernel, rfl⟩
theorem dX5_init_30 : ax_D cX5_init 30 (.aload_n 0) 1 31 := ⟨by decide +kernel, rfl⟩
theorem dX5_init_31 : ax_D cX5_init 31 (.sipush 144) 3 34 := ⟨by decide +kernel, rfl⟩
theorem dX5_init_34 : ax_D cX5_init 34 (.newarray .int) 2 36 := ⟨by decide +kernel, rfl⟩
theorem dX5_init_36 : ax_D cX5_init 36 (.putfield 21) 3 39 := ⟨by decide +kernel, rfl⟩
theorem dX5_init_39 : ax_D cX5_init 39 (.aload_n 0) 1 40 := ⟨by decide +kernel, rfl⟩
theorem dX5_init_40 : ax_D cX5_init 40 (.iconst 0) 1 41 := ⟨by decide +kernel, rfl⟩
theorem dX5_init_41 : ax_D cX5_init 41 (.putfield 24) 3 44 := ⟨by decide +kernel, rfl⟩
theorem dX5_init_44 : ax_D cX5_init 44 (.return_) 1 45 := ⟨by decide +kernel, rfl⟩
theorem dX4_init_0 : ax_D cX4_init 0 (.aload_n 0) 1 1 := ⟨by decide +kernel, rfl⟩
theorem dX4_init_1 : ax_D cX4_init 1 (.invokespecial 3) 3 4 := ⟨by decide +kernel, rfl⟩
theorem dX4_init_4 : ax_D cX4_init 4 (.aload_n 0) 1 5 := ⟨by decide +kernel, rfl⟩
theorem dX4_init_5 : ax_D cX4_init 5 (.bipush 12) 2 7 := ⟨by decide +kernel, rfl⟩
theorem dX4_init_7 : ax_D cX4_init 7 (.newarray .int) 2 9 := ⟨by decide +kernel, rfl⟩
theorem dX4_init_9 : ax_D cX4_init 9 (.putfield 9) 3 12 := ⟨by decide +kernel, rfl⟩
theorem dX4_init_12 : ax_D cX4_init 12 (.aload_n 0) 1 13 := ⟨by decide +kernel, rfl⟩
theorem dX4_init_13 : ax_D cX4_init 13 (.iconst 0) 1 14 := ⟨by decide +kernel, rfl⟩
theorem dX4_init_14 : ax_D cX4_init 14 (.putfield 15) 3 17 := ⟨by decide +kernel, rfl⟩
theorem dX4_init_17 : ax_D cX4_init 17 (.aload_n 0) 1 18 := ⟨by decide +kernel, rfl⟩
theorem dX4_init_18 : ax_D cX4_init 18 (.iconst 0) 1 19 := ⟨by decide +kernel, rfl⟩
theorem dX4_init_19 : ax_D cX4_init 19 (.putfield 19) 3 22 := ⟨by decide +kernel, rfl⟩
theorem dX4_init_22 : ax_D cX4_init 22 (.aload_n 0) 1 23 := ⟨by decide +kernel, rfl⟩
theorem dX4_init_23 : ax_D cX4_init 23 (.iconst 0) 1 24 := ⟨by decide +kernel, rfl⟩
theorem dX4_init_24 : ax_D cX4_init 24 (.putfield 22) 3 27 := ⟨by decide +kernel, rfl⟩
theorem dX4_init_27 : ax_D cX4_init 27 (.return_) 1 28 := ⟨by decide +kernel, rfl⟩
theorem dX2_init_0 : ax_D cX2_init 0 (.aload_n 0) 1 1 := ⟨by decide +kernel, rfl⟩
theorem dX2_init_1 : ax_D cX2_init 1 (.invokespecial 3) 3 4 := ⟨by decide +kernel, rfl⟩
theorem dX2_init_4 : ax_D cX2_init 4 (.aload_n 0) 1 5 := ⟨by decide +kernel, rfl⟩
theorem dX2_init_5 : ax_D cX2_init 5 (.bipush 40) 2 7 := ⟨by decide +kernel, rfl⟩
theorem dX2_init_7 : ax_D cX2_init 7 (.newarray .int) 2 9 := ⟨by decide +kernel, rfl⟩
theorem dX2_init_9 : ax_D cX2_init 9 (.putfield 9) 3 12 := ⟨by decide +kernel, rfl⟩
theorem dX2_init_12 : ax_D cX2_init 12 (.aload_n 0) 1 13 := ⟨by decide +kernel, rfl⟩
theorem dX2_init_13 : ax_D cX2_init 13 (.iconst 0) 1 14 := ⟨by decide +kernel, rfl⟩
theorem dX2_init_14 : ax_D cX2_init 14 (.putfield 15) 3 17 := ⟨by decide +kernel, rfl⟩
theorem dX2_init_17 : ax_D cX2_init 17 (.aload_n 0) 1 18 := ⟨by decide +kernel, rfl⟩
theorem dX2_init_18 : ax_D cX2_init 18 (.iconst 0) 1 19 := ⟨by decide +kernel, rfl⟩
theorem dX2_init_19 : ax_D cX2_init 19 (.putfield 19) 3 22 := ⟨by decide +kernel, rfl⟩
theorem dX2_init_22 : ax_D cX2_init 22 (.aload_n 0) 1 23 := ⟨by decide +kernel, rfl⟩
theorem dX2_init_23 : ax_D cX2_init 23 (.iconst 0) 1 24 := ⟨by decide +kernel, rfl⟩
theorem dX2_init_24 : ax_D cX2_init 24 (.putfield 22) 3 27 := ⟨by decide +kernel, rfl⟩
theorem dX2_init_27 : ax_D cX2_init 27 (.aload_n 0) 1 28 := ⟨by decide +kernel, rfl⟩
theorem dX2_init_28 : ax_D cX2_init 28 (.iconst 0) 1 29 := ⟨by decide +kernel, rfl⟩
theorem dX2_init_29 : ax_D cX2_init 29 (.putfield 25) 3 32 := ⟨by decide +kernel, rfl⟩
theorem dX2_init_32 : ax_D cX2_init 32 (.aload_n 0) 1 33 := ⟨by decide +kernel, rfl⟩
theorem dX2_init_33 : ax_D cX2_init 33 (.iconst 0) 1 34 := ⟨by decide +kernel, rfl⟩
theorem dX2_init_34 : ax_D cX2_init 34 (.putfield 28) 3 37 := ⟨by decide +kernel, rfl⟩
theorem dX2_init_37 : ax_D cX2_init 37 (.aload_n 0) 1 38 := ⟨by decide +kernel, rfl⟩
theorem dX2_init_38 : ax_D cX2_init 38 (.iconst 0) 1 39 := ⟨by decide +kernel, rfl⟩
theorem dX2_init_39 : ax_D cX2_init 39 (.putfield 31) 3 42 := ⟨by decide +kernel, rfl⟩
theorem dX2_init_42 : ax_D cX2_init 42 (.return_) 1 43 := ⟨by decide +kernel, rfl⟩
theorem dX8_init_0 : ax_D cX8_init 0 (.aload_n 0) 1 1 := ⟨by decide +kernel, rfl⟩
theorem dX8_init_1 : ax_D cX8_init 1 (.invokespecial 3) 3 4 := ⟨by decide +kernel, rfl⟩
theorem dX8_init_4 : ax_D cX8_init 4 (.aload_n 0) 1 5 := ⟨by decide +kernel, rfl⟩
theorem dX8_init_5 : ax_D cX8_init 5 (.iconst 4) 1 6 := ⟨by decide +kernel, rfl⟩
theorem dX8_init_6 : ax_D cX8_init 6 (.newarray .int) 2 8 := ⟨by decide +kernel, rfl⟩
theorem dX8_init_8 : ax_D cX8_init 8 (.dup) 1 9 := ⟨by decide +kernel, rfl⟩
theorem dX8_init_9 : ax_D cX8_init 9 (.iconst 0) 1 10 := ⟨by decide +kernel, rfl⟩
theorem dX8_init_10 : ax_D cX8_init 10 (.iconst (-1)) 1 11 := ⟨by decide +kernel, rfl⟩
theorem dX8_init_11 : ax_D cX8_init 11 (.iastore) 1 12 := ⟨by decide +kernel, rfl⟩
theorem dX8_init_12 : ax_D cX8_init 12 (.dup) 1 13 := ⟨by decide +kernel, rfl⟩
theorem dX8_init_13 : ax_D cX8_init 13 (.iconst 1) 1 14 := ⟨by decide +kernel, rfl⟩
theorem dX8_init_14 : ax_D cX8_init 14 (.iconst (-1)) 1 15 := ⟨by decide +kernel, rfl⟩
theorem dX8_init_15 : ax_D cX8_init 15 (.iastore) 1 16 := ⟨by decide +kernel, rfl⟩
theorem dX8_init_16 : ax_D cX8_init 16 (.dup) 1 17 := ⟨by decide +kernel, rfl⟩
theorem dX8_init_17 : ax_D cX8_init 17 (.iconst 2) 1 18 := ⟨by decide +kernel, rfl⟩
theorem dX8_init_18 : ax_D cX8_init 18 (.iconst (-1)) 1 19 := ⟨by decide +kernel, rfl⟩
theorem dX8_init_19 : ax_D cX8_init 19 (.iastore) 1 20 := ⟨by decide +kernel, rfl⟩
theorem dX8_init_20 : ax_D cX8_init 20 (.dup) 1 21 := ⟨by decide +kernel, rfl⟩
theorem dX8_init_21 : ax_D cX8_init 21 (.iconst 3) 1 22 := ⟨by decide +kernel, rfl⟩
theorem dX8_init_22 : ax_D cX8_init 22 (.iconst (-1)) 1 23 := ⟨by decide +kernel, rfl⟩
theorem dX8_init_23 : ax_D cX8_init 23 (.iastore) 1 24 := ⟨by decide +kernel, rfl⟩
theorem dX8_init_24 : ax_D cX8_init 24 (.putfield 9) 3 27 := ⟨by decide +kernel, rfl⟩
theorem dX8_init_27 : ax_D cX8_init 27 (.aload_n 0) 1 28 := ⟨by decide +kernel, rfl⟩
theorem dX8_init_28 : ax_D cX8_init 28 (.iconst 4) 1 29 := ⟨by decide +kernel, rfl⟩
theorem dX8_init_29 : ax_D cX8_init 29 (.newarray .int) 2 31 := ⟨by decide +kernel, rfl⟩
theorem dX8_init_31 : ax_D cX8_init 31 (.putfield 15) 3 34 := ⟨by decide +kernel, rfl⟩
theorem dX8_init_34 : ax_D cX8_init 34 (.aload_n 0) 1 35 := ⟨by decide +kernel, rfl⟩
theorem dX8_init_35 : ax_D cX8_init 35 (.sipush 160) 3 38 := ⟨by decide +kernel, rfl⟩
theorem dX8_init_38 : ax_D cX8_init 38 (.newarray .int) 2 40 := ⟨by decide +kernel, rfl⟩
theorem dX8_init_40 : ax_D cX8_init 40 (.putfield 18) 3 43 := ⟨by decide +kernel, rfl⟩
theorem dX8_init_43 : ax_D cX8_init 43 (.return_) 1 44 := ⟨by decide +kernel, rfl⟩
theorem dX9_init_0 : ax_D cX9_init 0 (.aload_n 0) 1 1 := ⟨by decide +kernel, rfl⟩
theorem dX9_init_1 : ax_D cX9_init 1 (.invokespecial 1) 3 4 := ⟨by decide +kernel, rfl⟩
theorem dX9_init_4 : ax_D cX9_init 4 (.aload_n 0) 1 5 := ⟨by decide +kernel, rfl⟩
theorem dX9_init_5 : ax_D cX9_init 5 (.new 7) 3 8 := ⟨by decide +kernel, rfl⟩
theorem dX9_init_8 : ax_D cX9_init 8 (.dup) 1 9 := ⟨by decide +kernel, rfl⟩
theorem dX9_init_9 : ax_D cX9_init 9 (.invokespecial 9) 3 12 := ⟨by decide +kernel, rfl⟩
theorem dX9_init_12 : ax_D cX9_init 12 (.putfield 10) 3 15 := ⟨by decide +kernel, rfl⟩
theorem dX9_init_15 : ax_D cX9_init 15 (.aload_n 0) 1 16 := ⟨by decide +kernel, rfl⟩
theorem dX9_init_16 : ax_D cX9_init 16 (.aload_n 0) 1 17 := ⟨by decide +kernel, rfl⟩
theorem dX9_init_17 : ax_D cX9_init 17 (.getfield 10) 3 20 := ⟨by decide +kernel, rfl⟩
theorem dX9_init_20 : ax_D cX9_init 20 (.getfield 16) 3 23 := ⟨by decide +kernel, rfl⟩
theorem dX9_init_23 : ax_D cX9_init 23 (.putfield 20) 3 26 := ⟨by decide +kernel, rfl⟩
theorem dX9_init_26 : ax_D cX9_init 26 (.aload_n 0) 1 27 := ⟨by decide +kernel, rfl⟩
theorem dX9_init_27 : ax_D cX9_init 27 (.aload_n 0) 1 28 := ⟨by decide +kernel, rfl⟩
theorem dX9_init_28 : ax_D cX9_init 28 (.getfield 10) 3 31 := ⟨by decide +kernel, rfl⟩
theorem dX9_init_31 : ax_D cX9_init 31 (.getfield 21) 3 34 := ⟨by decide +kernel, rfl⟩
theorem dX9_init_34 : ax_D cX9_init 34 (.putfield 25) 3 37 := ⟨by decide +kernel, rfl⟩
theorem dX9_init_37 : ax_D cX9_init 37 (.aload_n 0) 1 38 := ⟨by decide +kernel, rfl⟩
theorem dX9_init_38 : ax_D cX9_init 38 (.new 26) 3 41 := ⟨by decide +kernel, rfl⟩
theorem dX9_init_41 : ax_D cX9_init 41 (.dup) 1 42 := ⟨by decide +kernel, rfl⟩
theorem dX9_init_42 : ax_D cX9_init 42 (.invokespecial 28) 3 45 := ⟨by decide +kernel, rfl⟩
theorem dX9_init_45 : ax_D cX9_init 45 (.putfield 29) 3 48 := ⟨by decide +kernel, rfl⟩
theorem dX9_init_48 : ax_D cX9_init 48 (.aload_n 0) 1 49 := ⟨by decide +kernel, rfl⟩
theorem dX9_init_49 : ax_D cX9_init 49 (.new 33) 3 52 := ⟨by decide +kernel, rfl⟩
theorem dX9_init_52 : ax_D cX9_init 52 (.dup) 1 53 := ⟨by decide +kernel, rfl⟩
theorem dX9_init_53 : ax_D cX9_init 53 (.invokespecial 35) 3 56 := ⟨by decide +kernel, rfl⟩
theorem dX9_init_56 : ax_D cX9_init 56 (.putfield 36) 3 59 := ⟨by decide +kernel, rfl⟩
theorem dX9_init_59 : ax_D cX9_init 59 (.aload_n 0) 1 60 := ⟨by decide +kernel, rfl⟩
theorem dX9_init_60 : ax_D cX9_init 60 (.new 40) 3 63 := ⟨by decide +kernel, rfl⟩
theorem dX9_init_63 : ax_D cX9_init 63 (.dup) 1 64 := ⟨by decide +kernel, rfl⟩
theorem dX9_init_64 : ax_D cX9_init 64 (.invokespecial 42) 3 67 := ⟨by decide +kernel, rfl⟩
theorem dX9_init_67 : ax_D cX9_init 67 (.putfield 43) 3 70 := ⟨by decide +kernel, rfl⟩
theorem dX9_init_70 : ax_D cX9_init 70 (.aload_n 0) 1 71 := ⟨by decide +kernel, rfl⟩
theorem dX9_init_71 : ax_D cX9_init 71 (.new 47) 3 74 := ⟨by decide +kernel, rfl⟩
theorem dX9_init_74 : ax_D cX9_init 74 (.dup) 1 75 := ⟨by decide +kernel, rfl⟩
theorem dX9_init_75 : ax_D cX9_init 75 (.invokespecial 49) 3 78 := ⟨by decide +kernel, rfl⟩
theorem dX9_init_78 : ax_D cX9_init 78 (.putfield 50) 3 81 := ⟨by decide +kernel, rfl⟩
theorem dX9_init_81 : ax_D cX9_init 81 (.aload_n 0) 1 82 := ⟨by decide +kernel, rfl⟩
theorem dX9_init_82 : ax_D cX9_init 82 (.new 54) 3 85 := ⟨by decide +kernel, rfl⟩
theorem dX9_init_85 : ax_D cX9_init 85 (.dup) 1 86 := ⟨by decide +kernel, rfl⟩
theorem dX9_init_86 : ax_D cX9_init 86 (.invokespecial 56) 3 89 := ⟨by decide +kernel, rfl⟩
theorem dX9_init_89 : ax_D cX9_init 89 (.putfield 57) 3 92 := ⟨by decide +kernel, rfl⟩
theorem dX9_init_92 : ax_D cX9_init 92 (.aload_n 0) 1 93 := ⟨by decide +kernel, rfl⟩
theorem dX9_init_93 : ax_D cX9_init 93 (.iconst 0) 1 94 := ⟨by decide +kernel, rfl⟩
theorem dX9_init_94 : ax_D cX9_init 94 (.putfield 61) 3 97 := ⟨by decide +kernel, rfl⟩
theorem dX9_init_97 : ax_D cX9_init 97 (.aload_n 0) 1 98 := ⟨by decide +kernel, rfl⟩
theorem dX9_init_98 : ax_D cX9_init 98 (.iconst (-1)) 1 99 := ⟨by decide +kernel, rfl⟩
theorem dX9_init_99 : ax_D cX9_init 99 (.putfield 65) 3 102 := ⟨by decide +kernel, rfl⟩
theorem dX9_init_102 : ax_D cX9_init 102 (.aload_n 0) 1 103 := ⟨by decide +kernel, rfl⟩
theorem dX9_init_103 : ax_D cX9_init 103 (.iconst 0) 1 104 := ⟨by decide +kernel, rfl⟩
theorem dX9_init_104 : ax_D cX9_init 104 (.putfield 68) 3 107 := ⟨by decide +kernel, rfl⟩
theorem dX9_init_107 : ax_D cX9_init 107 (.aload_n 0) 1 108 := ⟨by decide +kernel, rfl⟩
theorem dX9_init_108 : ax_D cX9_init 108 (.iconst 0) 1 109 := ⟨by decide +kernel, rfl⟩
theorem dX9_init_109 : ax_D cX9_init 109 (.putfield 71) 3 112 := ⟨by decide +kernel, rfl⟩
theorem dX9_init_112 : ax_D cX9_init 112 (.return_) 1 113 := ⟨by decide +kernel, rfl⟩
theorem dX10_init_0 : ax_D cX10_init 0 (.aload_n 0) 1 1 := ⟨by decide +kernel, rfl⟩
theorem dX10_init_1 : ax_D cX10_init 1 (.invokespecial 3) 3 4 := ⟨by decide +kernel, rfl⟩
theorem dX10_init_4 : ax_D cX10_init 4 (.aload_n 0) 1 5 := ⟨by decide +kernel, rfl⟩
theorem dX10_init_5 : ax_D cX10_init 5 (.bipush 6) 2 7 := ⟨by decide +kernel, rfl⟩
theorem dX10_init_7 : ax_D cX10_init 7 (.newarray .int) 2 9 := ⟨by decide +kernel, rfl⟩
theorem dX10_init_9 : ax_D cX10_init 9 (.putfield 9) 3 12 := ⟨by decide +kernel, rfl⟩
theorem dX10_init_12 : ax_D cX10_init 12 (.aload_n 0) 1 13 := ⟨by decide +kernel, rfl⟩
theorem dX10_init_13 : ax_D cX10_init 13 (.bipush 6) 2 15 := ⟨by decide +kernel, rfl⟩
theorem dX10_init_15 : ax_D cX10_init 15 (.newarray .int) 2 17 := ⟨by decide +kernel, rfl⟩
theorem dX10_init_17 : ax_D cX10_init 17 (.putfield 13) 3 20 := ⟨by decide +kernel, rfl⟩
theorem dX10_init_20 : ax_D cX10_init 20 (.aload_n 0) 1 21 := ⟨by decide +kernel, rfl⟩
theorem dX10_init_21 : ax_D cX10_init 21 (.bipush 6) 2 23 := ⟨by decide +kernel, rfl⟩
theorem dX10_init_23 : ax_D cX10_init 23 (.newarray .int) 2 25 := ⟨by decide +kernel, rfl⟩
theorem dX10_init_25 : ax_D cX10_init 25 (.putfield 16) 3 28 := ⟨by decide +kernel, rfl⟩
theorem dX10_init_28 : ax_D cX10_init 28 (.aload_n 0) 1 29 := ⟨by decide +kernel, rfl⟩
theorem dX10_init_29 : ax_D cX10_init 29 (.bipush 40) 2 31 := ⟨by decide +kernel, rfl⟩
theorem dX10_init_31 : ax_D cX10_init 31 (.newarray .int) 2 33 := ⟨by decide +kernel, rfl⟩
theorem dX10_init_33 : ax_D cX10_init 33 (.putfield 19) 3 36 := ⟨by decide +kernel, rfl⟩
theorem dX10_init_36 : ax_D cX10_init 36 (.aload_n 0) 1 37 := ⟨by decide +kernel, rfl⟩
theorem dX10_init_37 : ax_D cX10_init 37 (.bipush 40) 2 39 := ⟨by decide +kernel, rfl⟩
theorem dX10_init_39 : ax_D cX10_init 39 (.newarray .int) 2 41 := ⟨by decide +kernel, rfl⟩
theorem dX10_init_41 : ax_D cX10_init 41 (.putfield 22) 3 44 := ⟨by decide +kernel, rfl⟩
theorem dX10_init_44 : ax_D cX10_init 44 (.aload_n 0) 1 45 := ⟨by decide +kernel, rfl⟩
theorem dX10_init_45 : ax_D cX10_init 45 (.bipush 40) 2 47 := ⟨by decide +kernel, rfl⟩
theorem dX10_init_47 : ax_D cX10_init 47 (.newarray .int) 2 49 := ⟨by decide +kernel, rfl⟩
theorem dX10_init_49 : ax_D cX10_init 49 (.putfield 25) 3 52 := ⟨by decide +kernel, rfl⟩
theorem dX10_init_52 : ax_D cX10_init 52 (.aload_n 0) 1 53 := ⟨by decide +kernel, rfl⟩
theorem dX10_init_53 : ax_D cX10_init 53 (.bipush 40) 2 55 := ⟨by decide +kernel, rfl⟩
theorem dX10_init_55 : ax_D cX10_init 55 (.newarray .int) 2 57 := ⟨by decide +kernel, rfl⟩
theorem dX10_init_57 : ax_D cX10_init 57 (.putfield 28) 3 60 := ⟨by decide +kernel, rfl⟩
theorem dX10_init_60 : ax_D cX10_init 60 (.aload_n 0) 1 61 := ⟨by decide +kernel, rfl⟩
theorem dX10_init_61 : ax_D cX10_init 61 (.bipush 40) 2 63 := ⟨by decide +kernel, rfl⟩
theorem dX10_init_63 : ax_D cX10_init 63 (.newarray .int) 2 65 := ⟨by decide +kernel, rfl⟩
theorem dX10_init_65 : ax_D cX10_init 65 (.putfield 31) 3 68 := ⟨by decide +kernel, rfl⟩
theorem dX10_init_68 : ax_D cX10_init 68 (.aload_n 0) 1 69 := ⟨by decide +kernel, rfl⟩
theorem dX10_init_69 : ax_D cX10_init 69 (.bipush 40) 2 71 := ⟨by decide +kernel, rfl⟩
theorem dX10_init_71 : ax_D cX10_init 71 (.newarray .int) 2 73 := ⟨by decide +kernel, rfl⟩
theorem dX10_init_73 : ax_D cX10_init 73 (.putfield 34) 3 76 := ⟨by decide +kernel, rfl⟩
theorem dX10_init_76 : ax_D cX10_init 76 (.aload_n 0) 1 77 := ⟨by decide +kernel, rfl⟩
theorem dX10_init_77 : ax_D cX10_init 77 (.bipush 40) 2 79 := ⟨by decide +kernel, rfl⟩
theorem dX10_init_79 : ax_D cX10_init 79 (.newarray .int) 2 81 := ⟨by decide +kernel, rfl⟩
theorem dX10_init_81 : ax_D cX10_init 81 (.putfield 37) 3 84 := ⟨by decide +kernel, rfl⟩
theorem dX10_init_84 : ax_D cX10_init 84 (.aload_n 0) 1 85 := ⟨by decide +kernel, rfl⟩
theorem dX10_init_85 : ax_D cX10_init 85 (.iconst (-1)) 1 86 := ⟨by decide +kernel, rfl⟩
theorem dX10_init_86 : ax_D cX10_init 86 (.putfield 40) 3 89 := ⟨by decide +kernel, rfl⟩
theorem dX10_init_89 : ax_D cX10_init 89 (.aload_n 0) 1 90 := ⟨by decide +kernel, rfl⟩
theorem dX10_init_90 : ax_D cX10_init 90 (.sipush 361) 3 93 := ⟨by decide +kernel, rfl⟩
theorem dX10_init_93 : ax_D cX10_init 93 (.newarray .int) 2 95 := ⟨by decide +kernel, rfl⟩
theorem dX10_init_95 : ax_D cX10_init 95 (.putfield 44) 3 98 := ⟨by decide +kernel, rfl⟩
theorem dX10_init_98 : ax_D cX10_init 98 (.aload_n 0) 1 99 := ⟨by decide +kernel, rfl⟩
theorem dX10_init_99 : ax_D cX10_init 99 (.bipush 19) 2 101 := ⟨by decide +kernel, rfl⟩
theorem dX10_init_101 : ax_D cX10_init 101 (.newarray .int) 2 103 := ⟨by decide +kernel, rfl⟩
theorem dX10_init_103 : ax_D cX10_init 103 (.putfield 47) 3 106 := ⟨by decide +kernel, rfl⟩
theorem dX10_init_106 : ax_D cX10_init 106 (.aload_n 0) 1 107 := ⟨by decide +kernel, rfl⟩
theorem dX10_init_107 : ax_D cX10_init 107 (.bipush 19) 2 109 := ⟨by decide +kernel, rfl⟩
theorem dX10_init_109 : ax_D cX10_init 109 (.newarray .int) 2 111 := ⟨by decide +kernel, rfl⟩
theorem dX10_init_111 : ax_D cX10_init 111 (.putfield 50) 3 114 := ⟨by decide +kernel, rfl⟩
theorem dX10_init_114 : ax_D cX10_init 114 (.aload_n 0) 1 115 := ⟨by decide +kernel, rfl⟩
theorem dX10_init_115 : ax_D cX10_init 115 (.bipush 6) 2 117 := ⟨by decide +kernel, rfl⟩
theorem dX10_init_117 : ax_D cX10_init 117 (.newarray .int) 2 119 := ⟨by decide +kernel, rfl⟩
theorem dX10_init_119 : ax_D cX10_init 119 (.putfield 53) 3 122 := ⟨by decide +kernel, rfl⟩
theorem dX10_init_122 : ax_D cX10_init 122 (.aload_n 0) 1 123 := ⟨by decide +kernel, rfl⟩
theorem dX10_init_123 : ax_D cX10_init 123 (.bipush 6) 2 125 := ⟨by decide +kernel, rfl⟩
theorem dX10_init_125 : ax_D cX10_init 125 (.newarray .int) 2 127 := ⟨by decide +kernel, rfl⟩
theorem dX10_init_127 : ax_D cX10_init 127 (.putfield 56) 3 130 := ⟨by decide +kernel, rfl⟩
theorem dX10_init_130 : ax_D cX10_init 130 (.aload_n 0) 1 131 := ⟨by decide +kernel, rfl⟩
theorem dX10_init_131 : ax_D cX10_init 131 (.bipush 12) 2 133 := ⟨by decide +kernel, rfl⟩
theorem dX10_init_133 : ax_D cX10_init 133 (.newarray .int) 2 135 := ⟨by decide +kernel, rfl⟩
theorem dX10_init_135 : ax_D cX10_init 135 (.putfield 59) 3 138 := ⟨by decide +kernel, rfl⟩
theorem dX10_init_138 : ax_D cX10_init 138 (.aload_n 0) 1 139 := ⟨by decide +kernel, rfl⟩
theorem dX10_init_139 : ax_D cX10_init 139 (.bipush 12) 2 141 := ⟨by decide +kernel, rfl⟩
theorem dX10_init_141 : ax_D cX10_init 141 (.newarray .int) 2 143 := ⟨by decide +kernel, rfl⟩
theorem dX10_init_143 : ax_D cX10_init 143 (.putfield 62) 3 146 := ⟨by decide +kernel, rfl⟩
theorem dX10_init_146 : ax_D cX10_init 146 (.aload_n 0) 1 147 := ⟨by decide +kernel, rfl⟩
theorem dX10_init_147 : ax_D cX10_init 147 (.bipush 12) 2 149 := ⟨by decide +kernel, rfl⟩
theorem dX10_init_149 : ax_D cX10_init 149 (.newarray .int) 2 151 := ⟨by decide +kernel, rfl⟩
theorem dX10_init_151 : ax_D cX10_init 151 (.putfield 65) 3 154 := ⟨by decide +kernel, rfl⟩
theorem dX10_init_154 : ax_D cX10_init 154 (.aload_n 0) 1 155 := ⟨by decide +kernel, rfl⟩
theorem dX10_init_155 : ax_D cX10_init 155 (.bipush 12) 2 157 := ⟨by decide +kernel, rfl⟩
theorem dX10_init_157 : ax_D cX10_init 157 (.newarray .int) 2 159 := ⟨by decide +kernel, rfl⟩
theorem dX10_init_159 : ax_D cX10_init 159 (.putfield 68) 3 162 := ⟨by decide +kernel, rfl⟩
theorem dX10_init_162 : ax_D cX10_init 162 (.aload_n 0) 1 163 := ⟨by decide +kernel, rfl⟩
theorem dX10_init_163 : ax_D cX10_init 163 (.sipush 4096) 3 166 := ⟨by decide +kernel, rfl⟩
theorem dX10_init_166 : ax_D cX10_init 166 (.newarray .long) 2 168 := ⟨by decide +kernel, rfl⟩
theorem dX10_init_168 : ax_D cX10_init 168 (.putfield 71) 3 171 := ⟨by decide +kernel, rfl⟩
theorem dX10_init_171 : ax_D cX10_init 171 (.aload_n 0) 1 172 := ⟨by decide +kernel, rfl⟩
theorem dX10_init_172 : ax_D cX10_init 172 (.bipush 40) 2 174 := ⟨by decide +kernel, rfl⟩
theorem dX10_init_174 : ax_D cX10_init 174 (.newarray .int) 2 176 := ⟨by decide +kernel, rfl⟩
theorem dX10_init_176 : ax_D cX10_init 176 (.putfield 75) 3 179 := ⟨by decide +kernel, rfl⟩
theorem dX10_init_179 : ax_D cX10_init 179 (.aload_n 0) 1 180 := ⟨by decide +kernel, rfl⟩
theorem dX10_init_180 : ax_D cX10_init 180 (.iconst 4) 1 181 := ⟨by decide +kernel, rfl⟩
theorem dX10_init_181 : ax_D cX10_init 181 (.newarray .boolean) 2 183 := ⟨by decide +kernel, rfl⟩
theorem dX10_init_183 : ax_D cX10_init 183 (.putfield 78) 3 186 := ⟨by decide +kernel, rfl⟩
theorem dX10_init_186 : ax_D cX10_init 186 (.aload_n 0) 1 187 := ⟨by decide +kernel, rfl⟩
theorem dX10_init_187 : ax_D cX10_init 187 (.iconst 4) 1 188 := ⟨by decide +kernel, rfl⟩
theorem dX10_init_188 : ax_D cX10_init 188 (.newarray .int) 2 190 := ⟨by decide +kernel, rfl⟩
theorem dX10_init_190 : ax_D cX10_init 190 (.putfield 82) 3 193 := ⟨by decide +kernel, rfl⟩
theorem dX10_init_193 : ax_D cX10_init 193 (.aload_n 0) 1 194 := ⟨by decide +kernel, rfl⟩
theorem dX10_init_194 : ax_D cX10_init 194 (.iconst 4) 1 195 := ⟨by decide +kernel, rfl⟩
theorem dX10_init_195 : ax_D cX10_init 195 (.newarray .int) 2 197 := ⟨by decide +kernel, rfl⟩
theorem dX10_init_197 : ax_D cX10_init 197 (.putfield 85) 3 200 := ⟨by decide +kernel, rfl⟩
theorem dX10_init_200 : ax_D cX10_init 200 (.aload_n 0) 1 201 := ⟨by decide +kernel, rfl⟩
theorem dX10_init_201 : ax_D cX10_init 201 (.sipush 160) 3 204 := ⟨by decide +kernel, rfl⟩
theorem dX10_init_204 : ax_D cX10_init 204 (.newarray .int) 2 206 := ⟨by decide +kernel, rfl⟩
theorem dX10_init_206 : ax_D cX10_init 206 (.putfield 88) 3 209 := ⟨by decide +kernel, rfl⟩
theorem dX10_init_209 : ax_D cX10_init 209 (.aload_n 0) 1 210 := ⟨by decide +kernel, rfl⟩
theorem dX10_init_210 : ax_D cX10_init 210 (.bipush 40) 2 212 := ⟨by decide +kernel, rfl⟩
theorem dX10_init_212 : ax_D cX10_init 212 (.newarray .int) 2 214 := ⟨by decide +kernel, rfl⟩
theorem dX10_init_214 : ax_D cX10_init 214 (.putfield 91) 3 217 := ⟨by decide +kernel, rfl⟩
theorem dX10_init_217 : ax_D cX10_init 217 (.return_) 1 218 := ⟨by decide +kernel, rfl⟩
theorem lf_X9_16 : ax_F RX9 16 5 1 := ⟨RX6, TX6, 13, rfl, by decide, in2X6, (ax_m1 108 rfl rfl)⟩
theorem lf_X9_21 : ax_F RX9 21 5 0 := ⟨RX6, TX6, 13, rfl, by decide, in2X6, (ax_m1 106 rfl rfl)⟩
theorem cn_o1 : Cond.instanceMethod Lib.objectInit ∈ ax_tb := (ax_m1 23 rfl rfl)
theorem cn_o2 : Cond.code Lib.objectInit ⟨#[0xb1]⟩ 1 none ∈ ax_tb := (ax_m1 24 rfl rfl)
theorem ca_int : Cond.arrayClass .int ∈ ax_tb := (ax_m1 77 rfl rfl)
theorem ca_long : Cond.arrayClass .long ∈ ax_tb := (ax_m5 56 rfl rfl)
theorem ca_boolean : Cond.arrayClass .boolean ∈ ax_tb := (ax_m5 57 rfl rfl)
def s0_X7 : ax_S := (fun k => (fun _ => (0 : Int32)), fun _ _ => 0)
def cl_X7 : ax_L := [(0, 6, [3, 4, 5, 6, 7, 8, 9, 0]), (1, 40, []), (1, 40, []), (1, 40, []), (1, 40, []), (1, 40, []), (1, 40, []), (1, 40, [])]
def mu_X7_init : ax_Mu := (yX7_init, cX7_init, 1, none, 1, 12)
theorem lc_X7_init : Cond.code mu_X7_init.1 mu_X7_init.2.1 mu_X7_init.2.2.1 mu_X7_init.2.2.2.1 ∈ ax_tb := (ax_m1 35 rfl rfl)
def nl_X7 : cn_N := []
theorem cf_X7_9 : cn_F RX7 9 6 0 true (.array .int) := ⟨RX7, TX7, 8, tyX7, rfl, by decide, in2X7, (ax_m1 37 rfl rfl), tyX7_ok, nmX7, rfl, by decide +kernel, fun _ => rfl⟩
theorem cf_X7_15 : cn_F RX7 15 6 1 true (.array .int) := ⟨RX7, TX7, 8, tyX7, rfl, by decide, in2X7, (ax_m1 41 rfl rfl), tyX7_ok, nmX7, rfl, by decide +kernel, fun _ => rfl⟩
theorem cf_X7_18 : cn_F RX7 18 6 2 true (.array .int) := ⟨RX7, TX7, 8, tyX7, rfl, by decide, in2X7, (ax_m1 44 rfl rfl), tyX7_ok, nmX7, rfl, by decide +kernel, fun _ => rfl⟩
theorem cf_X7_21 : cn_F RX7 21 6 3 true (.array .int) := ⟨RX7, TX7, 8, tyX7, rfl, by decide, in2X7, (ax_m1 47 rfl rfl), tyX7_ok, nmX7, rfl, by decide +kernel, fun _ => rfl⟩
theorem cf_X7_24 : cn_F RX7 24 6 4 true (.array .int) := ⟨RX7, TX7, 8, tyX7, rfl, by decide, in2X7, (ax_m1 50 rfl rfl), tyX7_ok, nmX7, rfl, by decide +kernel, fun _ => rfl⟩
theorem cf_X7_27 : cn_F RX7 27 6 5 true (.array .int) := ⟨RX7, TX7, 8, tyX7, rfl, by decide, in2X7, (ax_m1 53 rfl rfl), tyX7_ok, nmX7, rfl, by decide +kernel, fun _ => rfl⟩
theorem cf_X7_30 : cn_F RX7 30 6 6 true (.array .int) := ⟨RX7, TX7, 8, tyX7, rfl, by decide, in2X7, (ax_m1 55 rfl rfl), tyX7_ok, nmX7, rfl, by decide +kernel, fun _ => rfl⟩
theorem cf_X7_33 : cn_F RX7 33 6 7 false (.int) := ⟨RX7, TX7, 8, tyX7, rfl, by decide, in2X7, (ax_m1 57 rfl rfl), tyX7_ok, nmX7, rfl, by decide +kernel, fun _ => rfl⟩
set_option maxHeartbeats 4000000 in
set_option maxRecDepth 10000 in
theorem c_X7_init : cn_M mu_X7_init 7 280 nl_X7 6 [.null, .null, .null, .null, .null, .null, .null, .int 0] cl_X7 s0_X7 := by
  refine cn_enter (by decide +kernel) rfl rfl (by decide) 0 (fun h0 => [some (.ref h0)]) (fun _ => rfl) (fun K D cI cJ cZ h0 sz Q hV hin hnw hlt hend => ?_)
  refine cn_aload_n hV dX7_init_0 rfl ?_
  refine cn_obj hV (ax_m1 36 rfl rfl) cn_o1 cn_o2 rfl dX7_init_1 ?_
  refine cn_aload_n hV dX7_init_4 rfl ?_
  refine cn_bipush hV (40 : Int32) dX7_init_5 (by decide) ?_
  refine cn_newI hV 40 ca_int dX7_init_7 (by decide) (by decide) (by decide) (by decide) (by decide) (fun q7 => ?_)
  refine cn_put hV hin cf_X7_9 dX7_init_9 0 [(h0, .inr (6, [.ref (q7), .null, .null, .null, .null, .null, .null, .int 0])), (q7, .inl (cI, 40, .inl (fun _ => (0 : Int32))))] rfl rfl rfl (Nat.le_of_ble_eq_true rfl) rfl ?_
  refine cn_aload_n hV dX7_init_12 rfl ?_
  refine cn_bipush hV (40 : Int32) dX7_init_13 (by decide) ?_
  refine cn_newI hV 40 ca_int dX7_init_15 (by decide) (by decide) (by decide) (by decide) (by decide) (fun q15 => ?_)
  refine cn_put hV hin cf_X7_15 dX7_init_17 0 [(h0, .inr (6, [.ref (q7), .ref (q15), .null, .null, .null, .null, .null, .int 0])), (q7, .inl (cI, 40, .inl (fun _ => (0 : Int32)))), (q15, .inl (cI, 40, .inl (fun _ => (0 : Int32))))] rfl rfl rfl (Nat.le_of_ble_eq_true rfl) rfl ?_
  refine cn_aload_n hV dX7_init_20 rfl ?_
  refine cn_bipush hV (40 : Int32) dX7_init_21 (by decide) ?_
  refine cn_newI hV 40 ca_int dX7_init_23 (by decide) (by decide) (by decide) (by decide) (by decide) (fun q23 => ?_)
  refine cn_put hV hin cf_X7_18 dX7_init_25 0 [(h0, .inr (6, [.ref (q7), .ref (q15), .ref (q23), .null, .null, .null, .null, .int 0])), (q7, .inl (cI, 40, .inl (fun _ => (0 : Int32)))), (q15, .inl (cI, 40, .inl (fun _ => (0 : Int32)))), (q23, .inl (cI, 40, .inl (fun _ => (0 : Int32))))] rfl rfl rfl (Nat.le_of_ble_eq_true rfl) rfl ?_
  refine cn_aload_n hV dX7_init_28 rfl ?_
  refine cn_bipush hV (40 : Int32) dX7_init_29 (by decide) ?_
  refine cn_newI hV 40 ca_int dX7_init_31 (by decide) (by decide) (by decide) (by decide) (by decide) (fun q31 => ?_)
  refine cn_put hV hin cf_X7_21 dX7_init_33 0 [(h0, .inr (6, [.ref (q7), .ref (q15), .ref (q23), .ref (q31), .null, .null, .null, .int 0])), (q7, .inl (cI, 40, .inl (fun _ => (0 : Int32)))), (q15, .inl (cI, 40, .inl (fun _ => (0 : Int32)))), (q23, .inl (cI, 40, .inl (fun _ => (0 : Int32)))), (q31, .inl (cI, 40, .inl (fun _ => (0 : Int32))))] rfl rfl rfl (Nat.le_of_ble_eq_true rfl) rfl ?_
  refine cn_aload_n hV dX7_init_36 rfl ?_
  refine cn_bipush hV (40 : Int32) dX7_init_37 (by decide) ?_
  refine cn_newI hV 40 ca_int dX7_init_39 (by decide) (by decide) (by decide) (by decide) (by decide) (fun q39 => ?_)
  refine cn_put hV hin cf_X7_24 dX7_init_41 0 [(h0, .inr (6, [.ref (q7), .ref (q15), .ref (q23), .ref (q31), .ref (q39), .null, .null, .int 0])), (q7, .inl (cI, 40, .inl (fun _ => (0 : Int32)))), (q15, .inl (cI, 40, .inl (fun _ => (0 : Int32)))), (q23, .inl (cI, 40, .inl (fun _ => (0 : Int32)))), (q31, .inl (cI, 40, .inl (fun _ => (0 : Int32)))), (q39, .inl (cI, 40, .inl (fun _ => (0 : Int32))))] rfl rfl rfl (Nat.le_of_ble_eq_true rfl) rfl ?_
  refine cn_aload_n hV dX7_init_44 rfl ?_
  refine cn_bipush hV (40 : Int32) dX7_init_45 (by decide) ?_
  refine cn_newI hV 40 ca_int dX7_init_47 (by decide) (by decide) (by decide) (by decide) (by decide) (fun q47 => ?_)
  refine cn_put hV hin cf_X7_27 dX7_init_49 0 [(h0, .inr (6, [.ref (q7), .ref (q15), .ref (q23), .ref (q31), .ref (q39), .ref (q47), .null, .int 0])), (q7, .inl (cI, 40, .inl (fun _ => (0 : Int32)))), (q15, .inl (cI, 40, .inl (fun _ => (0 : Int32)))), (q23, .inl (cI, 40, .inl (fun _ => (0 : Int32)))), (q31, .inl (cI, 40, .inl (fun _ => (0 : Int32)))), (q39, .inl (cI, 40, .inl (fun _ => (0 : Int32)))), (q47, .inl (cI, 40, .inl (fun _ => (0 : Int32))))] rfl rfl rfl (Nat.le_of_ble_eq_true rfl) rfl ?_
  refine cn_aload_n hV dX7_init_52 rfl ?_
  refine cn_bipush hV (40 : Int32) dX7_init_53 (by decide) ?_
  refine cn_newI hV 40 ca_int dX7_init_55 (by decide) (by decide) (by decide) (by decide) (by decide) (fun q55 => ?_)
  refine cn_put hV hin cf_X7_30 dX7_init_57 0 [(h0, .inr (6, [.ref (q7), .ref (q15), .ref (q23), .ref (q31), .ref (q39), .ref (q47), .ref (q55), .int 0])), (q7, .inl (cI, 40, .inl (fun _ => (0 : Int32)))), (q15, .inl (cI, 40, .inl (fun _ => (0 : Int32)))), (q23, .inl (cI, 40, .inl (fun _ => (0 : Int32)))), (q31, .inl (cI, 40, .inl (fun _ => (0 : Int32)))), (q39, .inl (cI, 40, .inl (fun _ => (0 : Int32)))), (q47, .inl (cI, 40, .inl (fun _ => (0 : Int32)))), (q55, .inl (cI, 40, .inl (fun _ => (0 : Int32))))] rfl rfl rfl (Nat.le_of_ble_eq_true rfl) rfl ?_
  refine cn_aload_n hV dX7_init_60 rfl ?_
  refine cn_iconst hV (0 : Int32) dX7_init_61 (by decide) ?_
  refine cn_put hV hin cf_X7_33 dX7_init_62 0 [(h0, .inr (6, [.ref (q7), .ref (q15), .ref (q23), .ref (q31), .ref (q39), .ref (q47), .ref (q55), .int (0 : Int32)])), (q7, .inl (cI, 40, .inl (fun _ => (0 : Int32)))), (q15, .inl (cI, 40, .inl (fun _ => (0 : Int32)))), (q23, .inl (cI, 40, .inl (fun _ => (0 : Int32)))), (q31, .inl (cI, 40, .inl (fun _ => (0 : Int32)))), (q39, .inl (cI, 40, .inl (fun _ => (0 : Int32)))), (q47, .inl (cI, 40, .inl (fun _ => (0 : Int32)))), (q55, .inl (cI, 40, .inl (fun _ => (0 : Int32))))] rfl rfl rfl (Nat.le_of_ble_eq_true rfl) rfl ?_
  exact hend _ _ _ [h0, q7, q15, q23, q31, q39, q47, q55] [0, 1, 2, 3, 4, 5, 6, 7] [(h0, .inr (6, [.ref (q7), .ref (q15), .ref (q23), .ref (q31), .ref (q39), .ref (q47), .ref (q55), .int (0 : Int32)])), (q7, .inl (cI, 40, .inl (fun _ => (0 : Int32)))), (q15, .inl (cI, 40, .inl (fun _ => (0 : Int32)))), (q23, .inl (cI, 40, .inl (fun _ => (0 : Int32)))), (q31, .inl (cI, 40, .inl (fun _ => (0 : Int32)))), (q39, .inl (cI, 40, .inl (fun _ => (0 : Int32)))), (q47, .inl (cI, 40, .inl (fun _ => (0 : Int32)))), (q55, .inl (cI, 40, .inl (fun _ => (0 : Int32))))] rfl (by decide) rfl dX7_init_65
def s0_X0 : ax_S := (fun k => (fun _ => (0 : Int32)), fun _ _ => 0)
def cl_X0 : ax_L := [(0, 0, [3, 4, 5, 0]), (1, 6, []), (1, 6, []), (1, 6, [])]
def mu_X0_init : ax_Mu := (yX0_init, cX0_init, 1, none, 1, 12)
theorem lc_X0_init : Cond.code mu_X0_init.1 mu_X0_init.2.1 mu_X0_init.2.2.1 mu_X0_init.2.2.2.1 ∈ ax_tb := (ax_m1 82 rfl rfl)
def nl_X0 : cn_N := []
theorem cf_X0_9 : cn_F RX0 9 0 0 true (.array .int) := ⟨RX0, TX0, 4, tyX0, rfl, by decide, in2X0, (ax_m1 84 rfl rfl), tyX0_ok, nmX0, rfl, by decide +kernel, fun _ => rfl⟩
theorem cf_X0_15 : cn_F RX0 15 0 1 true (.array .int) := ⟨RX0, TX0, 4, tyX0, rfl, by decide, in2X0, (ax_m1 87 rfl rfl), tyX0_ok, nmX0, rfl, by decide +kernel, fun _ => rfl⟩
theorem cf_X0_18 : cn_F RX0 18 0 2 true (.array .int) := ⟨RX0, TX0, 4, tyX0, rfl, by decide, in2X0, (ax_m1 90 rfl rfl), tyX0_ok, nmX0, rfl, by decide +kernel, fun _ => rfl⟩
theorem cf_X0_21 : cn_F RX0 21 0 3 false (.int) := ⟨RX0, TX0, 4, tyX0, rfl, by decide, in2X0, (ax_m1 93 rfl rfl), tyX0_ok, nmX0, rfl, by decide +kernel, fun _ => rfl⟩
set_option maxHeartbeats 4000000 in
set_option maxRecDepth 10000 in
theorem c_X0_init : cn_M mu_X0_init 3 18 nl_X0 0 [.null, .null, .null, .int 0] cl_X0 s0_X0 := by
  refine cn_enter (by decide +kernel) rfl rfl (by decide) 0 (fun h0 => [some (.ref h0)]) (fun _ => rfl) (fun K D cI cJ cZ h0 sz Q hV hin hnw hlt hend => ?_)
  refine cn_aload_n hV dX0_init_0 rfl ?_
  refine cn_obj hV (ax_m1 83 rfl rfl) cn_o1 cn_o2 rfl dX0_init_1 ?_
  refine cn_aload_n hV dX0_init_4 rfl ?_
  refine cn_bipush hV (6 : Int32) dX0_init_5 (by decide) ?_
  refine cn_newI hV 6 ca_int dX0_init_7 (by decide) (by decide) (by decide) (by decide) (by decide) (fun q7 => ?_)
  refine cn_put hV hin cf_X0_9 dX0_init_9 0 [(h0, .inr (0, [.ref (q7), .null, .null, .int 0])), (q7, .inl (cI, 6, .inl (fun _ => (0 : Int32))))] rfl rfl rfl (Nat.le_of_ble_eq_true rfl) rfl ?_
  refine cn_aload_n hV dX0_init_12 rfl ?_
  refine cn_bipush hV (6 : Int32) dX0_init_13 (by decide) ?_
  refine cn_newI hV 6 ca_int dX0_init_15 (by decide) (by decide) (by decide) (by decide) (by decide) (fun q15 => ?_)
  refine cn_put hV hin cf_X0_15 dX0_init_17 0 [(h0, .inr (0, [.ref (q7), .ref (q15), .null, .int 0])), (q7, .inl (cI, 6, .inl (fun _ => (0 : Int32)))), (q15, .inl (cI, 6, .inl (fun _ => (0 : Int32))))] rfl rfl rfl (Nat.le_of_ble_eq_true rfl) rfl ?_
  refine cn_aload_n hV dX0_init_20 rfl ?_
  refine cn_bipush hV (6 : Int32) dX0_init_21 (by decide) ?_
  refine cn_newI hV 6 ca_int dX0_init_23 (by decide) (by decide) (by decide) (by decide) (by decide) (fun q23 => ?_)
  refine cn_put hV hin cf_X0_18 dX0_init_25 0 [(h0, .inr (0, [.ref (q7), .ref (q15), .ref (q23), .int 0])), (q7, .inl (cI, 6, .inl (fun _ => (0 : Int32)))), (q15, .inl (cI, 6, .inl (fun _ => (0 : Int32)))), (q23, .inl (cI, 6, .inl (fun _ => (0 : Int32))))] rfl rfl rfl (Nat.le_of_ble_eq_true rfl) rfl ?_
  refine cn_aload_n hV dX0_init_28 rfl ?_
  refine cn_iconst hV (0 : Int32) dX0_init_29 (by decide) ?_
  refine cn_put hV hin cf_X0_21 dX0_init_30 0 [(h0, .inr (0, [.ref (q7), .ref (q15), .ref (q23), .int (0 : Int32)])), (q7, .inl (cI, 6, .inl (fun _ => (0 : Int32)))), (q15, .inl (cI, 6, .inl (fun _ => (0 : Int32)))), (q23, .inl (cI, 6, .inl (fun _ => (0 : Int32))))] rfl rfl rfl (Nat.le_of_ble_eq_true rfl) rfl ?_
  exact hend _ _ _ [h0, q7, q15, q23] [0, 1, 2, 3] [(h0, .inr (0, [.ref (q7), .ref (q15), .ref (q23), .int (0 : Int32)])), (q7, .inl (cI, 6, .inl (fun _ => (0 : Int32)))), (q15, .inl (cI, 6, .inl (fun _ => (0 : Int32)))), (q23, .inl (cI, 6, .inl (fun _ => (0 : Int32))))] rfl (by decide) rfl dX0_init_33
def s0_X6 : ax_S := (fun k => (fun _ => (0 : Int32)), fun _ _ => 0)
def cl_X6 : ax_L := [(0, 5, [3, 4, 5, 6, 7, 8, 0, 9, 10, 11, 12, 13, 14]), (0, 6, [15, 16, 17, 18, 19, 20, 21, 0]), (0, 0, [22, 23, 24, 0]), (1, 40, []), (1, 40, []), (1, 40, []), (1, 40, []), (1, 18, []), (1, 18, []), (1, 18, []), (1, 18, []), (1, 18, []), (1, 18, []), (1, 40, []), (1, 40, []), (1, 40, []), (1, 40, []), (1, 40, []), (1, 40, []), (1, 40, []), (1, 6, []), (1, 6, []), (1, 6, [])]
def mu_X6_init : ax_Mu := (yX6_init, cX6_init, 1, none, 2, 32)
theorem lc_X6_init : Cond.code mu_X6_init.1 mu_X6_init.2.1 mu_X6_init.2.2.1 mu_X6_init.2.2.2.1 ∈ ax_tb := (ax_m1 29 rfl rfl)
def nl_X6 : cn_N := [(RX6, 11, yX7_init, "WhenItWas"), (RX6, 20, yX0_init, "WhenItWas")]
theorem cf_X6_12 : cn_F RX6 12 5 0 true (.object "WhenItWas$Rows") := ⟨RX6, TX6, 13, tyX6, rfl, by decide, in2X6, (ax_m1 105 rfl rfl), tyX6_ok, nmX6, rfl, by decide +kernel, fun _ => rfl⟩
theorem cf_X6_21 : cn_F RX6 21 5 1 true (.object "WhenItWas$Books") := ⟨RX6, TX6, 13, tyX6, rfl, by decide, in2X6, (ax_m1 109 rfl rfl), tyX6_ok, nmX6, rfl, by decide +kernel, fun _ => rfl⟩
theorem cf_X6_25 : cn_F RX6 25 5 2 true (.array .int) := ⟨RX6, TX6, 13, tyX6, rfl, by decide, in2X6, (ax_m1 111 rfl rfl), tyX6_ok, nmX6, rfl, by decide +kernel, fun _ => rfl⟩
theorem cf_X6_29 : cn_F RX6 29 5 3 true (.array .int) := ⟨RX6, TX6, 13, tyX6, rfl, by decide, in2X6, (ax_m1 112 rfl rfl), tyX6_ok, nmX6, rfl, by decide +kernel, fun _ => rfl⟩
theorem cf_X6_32 : cn_F RX6 32 5 4 true (.array .int) := ⟨RX6, TX6, 13, tyX6, rfl, by decide, in2X6, (ax_m1 113 rfl rfl), tyX6_ok, nmX6, rfl, by decide +kernel, fun _ => rfl⟩
theorem cf_X6_35 : cn_F RX6 35 5 5 true (.array .int) := ⟨RX6, TX6, 13, tyX6, rfl, by decide, in2X6, (ax_m1 114 rfl rfl), tyX6_ok, nmX6, rfl, by decide +kernel, fun _ => rfl⟩
theorem cf_X6_38 : cn_F RX6 38 5 6 false (.int) := ⟨RX6, TX6, 13, tyX6, rfl, by decide, in2X6, (ax_m1 115 rfl rfl), tyX6_ok, nmX6, rfl, by decide +kernel, fun _ => rfl⟩
theorem cf_X6_42 : cn_F RX6 42 5 7 true (.array .int) := ⟨RX6, TX6, 13, tyX6, rfl, by decide, in2X6, (ax_m1 116 rfl rfl), tyX6_ok, nmX6, rfl, by decide +kernel, fun _ => rfl⟩
theorem cf_X6_45 : cn_F RX6 45 5 8 true (.array .int) := ⟨RX6, TX6, 13, tyX6, rfl, by decide, in2X6, (ax_m1 117 rfl rfl), tyX6_ok, nmX6, rfl, by decide +kernel, fun _ => rfl⟩
theorem cf_X6_48 : cn_F RX6 48 5 9 true (.array .int) := ⟨RX6, TX6, 13, tyX6, rfl, by decide, in2X6, (ax_m1 118 rfl rfl), tyX6_ok, nmX6, rfl, by decide +kernel, fun _ => rfl⟩
theorem cf_X6_51 : cn_F RX6 51 5 10 true (.array .int) := ⟨RX6, TX6, 13, tyX6, rfl, by decide, in2X6, (ax_m1 119 rfl rfl), tyX6_ok, nmX6, rfl, by decide +kernel, fun _ => rfl⟩
theorem cf_X6_54 : cn_F RX6 54 5 11 true (.array .int) := ⟨RX6, TX6, 13, tyX6, rfl, by decide, in2X6, (ax_m1 120 rfl rfl), tyX6_ok, nmX6, rfl, by decide +kernel, fun _ => rfl⟩
theorem cf_X6_57 : cn_F RX6 57 5 12 true (.array .int) := ⟨RX6, TX6, 13, tyX6, rfl, by decide, in2X6, (ax_m1 121 rfl rfl), tyX6_ok, nmX6, rfl, by decide +kernel, fun _ => rfl⟩
set_option maxHeartbeats 4000000 in
set_option maxRecDepth 10000 in
theorem c_X6_init : cn_M mu_X6_init 22 578 nl_X6 5 [.null, .null, .null, .null, .null, .null, .int 0, .null, .null, .null, .null, .null, .null] cl_X6 s0_X6 := by
  refine cn_enter (by decide +kernel) rfl rfl (by decide) 0 (fun h0 => [some (.ref h0)]) (fun _ => rfl) (fun K D cI cJ cZ h0 sz Q hV hin hnw hlt hend => ?_)
  refine cn_aload_n hV dX6_init_0 rfl ?_
  refine cn_obj hV (ax_m1 30 rfl rfl) cn_o1 cn_o2 rfl dX6_init_1 ?_
  refine cn_aload_n hV dX6_init_4 rfl ?_
  refine cn_new hV (ci := 6) dX6_init_5 rfl in2X7 tyX7 tyX7_ok (ax_m1 31 rfl rfl) (ax_m1 32 rfl rfl) (ax_m1 3 rfl rfl) [.null, .null, .null, .null, .null, .null, .null, .int 0] (fun j hj => by rcases (show j = 0 ∨ j = 1 ∨ j = 2 ∨ j = 3 ∨ j = 4 ∨ j = 5 ∨ j = 6 ∨ j = 7 by omega) with rfl | rfl | rfl | rfl | rfl | rfl | rfl | rfl <;> rfl) (by decide) (by decide) (fun q5 => ?_)
  refine cn_dup hV dX6_init_8 rfl ?_
  refine cn_callN (host := "WhenItWas") hV c_X7_init hnw (by decide +kernel) (by decide +kernel) (ax_m1 34 rfl rfl) (ax_m1 3 rfl rfl) lc_X7_init rfl ⟨by decide +kernel, by decide +kernel, by decide +kernel⟩ rfl rfl (by decide) (by decide) dX6_init_9 rfl (fun ad9 h9 => ?_)
  subst h9
  refine cn_put hV hin cf_X6_12 dX6_init_12 0 [(h0, .inr (5, [.ref ((ad9 0)), .null, .null, .null, .null, .null, .int 0, .null, .null, .null, .null, .null, .null])), ((ad9 0), .inr (6, [.ref (ad9 1), .ref (ad9 2), .ref (ad9 3), .ref (ad9 4), .ref (ad9 5), .ref (ad9 6), .ref (ad9 7), .int 0])), ((ad9 1), .inl (cI, 40, .inl (fun _ => (0 : Int32)))), ((ad9 2), .inl (cI, 40, .inl (fun _ => (0 : Int32)))), ((ad9 3), .inl (cI, 40, .inl (fun _ => (0 : Int32)))), ((ad9 4), .inl (cI, 40, .inl (fun _ => (0 : Int32)))), ((ad9 5), .inl (cI, 40, .inl (fun _ => (0 : Int32)))), ((ad9 6), .inl (cI, 40, .inl (fun _ => (0 : Int32)))), ((ad9 7), .inl (cI, 40, .inl (fun _ => (0 : Int32))))] rfl rfl rfl (Nat.le_of_ble_eq_true rfl) rfl ?_
  refine cn_aload_n hV dX6_init_15 rfl ?_
  refine cn_new hV (ci := 0) dX6_init_16 rfl in2X0 tyX0 tyX0_ok (ax_m1 78 rfl rfl) (ax_m1 79 rfl rfl) (ax_m1 4 rfl rfl) [.null, .null, .null, .int 0] (fun j hj => by rcases (show j = 0 ∨ j = 1 ∨ j = 2 ∨ j = 3 by omega) with rfl | rfl | rfl | rfl <;> rfl) (by decide) (by decide) (fun q16 => ?_)
  refine cn_dup hV dX6_init_19 rfl ?_
  refine cn_callN (host := "WhenItWas") hV c_X0_init hnw (by decide +kernel) (by decide +kernel) (ax_m1 81 rfl rfl) (ax_m1 4 rfl rfl) lc_X0_init rfl ⟨by decide +kernel, by decide +kernel, by decide +kernel⟩ rfl rfl (by decide) (by decide) dX6_init_20 rfl (fun ad20 h20 => ?_)
  subst h20
  refine cn_put hV hin cf_X6_21 dX6_init_23 0 [(h0, .inr (5, [.ref ((ad9 0)), .ref ((ad20 0)), .null, .null, .null, .null, .int 0, .null, .null, .null, .null, .null, .null])), ((ad9 0), .inr (6, [.ref (ad9 1), .ref (ad9 2), .ref (ad9 3), .ref (ad9 4), .ref (ad9 5), .ref (ad9 6), .ref (ad9 7), .int 0])), ((ad9 1), .inl (cI, 40, .inl (fun _ => (0 : Int32)))), ((ad9 2), .inl (cI, 40, .inl (fun _ => (0 : Int32)))), ((ad9 3), .inl (cI, 40, .inl (fun _ => (0 : Int32)))), ((ad9 4), .inl (cI, 40, .inl (fun _ => (0 : Int32)))), ((ad9 5), .inl (cI, 40, .inl (fun _ => (0 : Int32)))), ((ad9 6), .inl (cI, 40, .inl (fun _ => (0 : Int32)))), ((ad9 7), .inl (cI, 40, .inl (fun _ => (0 : Int32)))), ((ad20 0), .inr (0, [.ref (ad20 1), .ref (ad20 2), .ref (ad20 3), .int 0])), ((ad20 1), .inl (cI, 6, .inl (fun _ => (0 : Int32)))), ((ad20 2), .inl (cI, 6, .inl (fun _ => (0 : Int32)))), ((ad20 3), .inl (cI, 6, .inl (fun _ => (0 : Int32))))] rfl rfl rfl (Nat.le_of_ble_eq_true rfl) rfl ?_
  refine cn_aload_n hV dX6_init_26 rfl ?_
  refine cn_bipush hV (40 : Int32) dX6_init_27 (by decide) ?_
  refine cn_newI hV 40 ca_int dX6_init_29 (by decide) (by decide) (by decide) (by decide) (by decide) (fun q29 => ?_)
  refine cn_put hV hin cf_X6_25 dX6_init_31 0 [(h0, .inr (5, [.ref ((ad9 0)), .ref ((ad20 0)), .ref (q29), .null, .null, .null, .int 0, .null, .null, .null, .null, .null, .null])), ((ad9 0), .inr (6, [.ref (ad9 1), .ref (ad9 2), .ref (ad9 3), .ref (ad9 4), .ref (ad9 5), .ref (ad9 6), .ref (ad9 7), .int 0])), ((ad9 1), .inl (cI, 40, .inl (fun _ => (0 : Int32)))), ((ad9 2), .inl (cI, 40, .inl (fun _ => (0 : Int32)))), ((ad9 3), .inl (cI, 40, .inl (fun _ => (0 : Int32)))), ((ad9 4), .inl (cI, 40, .inl (fun _ => (0 : Int32)))), ((ad9 5), .inl (cI, 40, .inl (fun _ => (0 : Int32)))), ((ad9 6), .inl (cI, 40, .inl (fun _ => (0 : Int32)))), ((ad9 7), .inl (cI, 40, .inl (fun _ => (0 : Int32)))), ((ad20 0), .inr (0, [.ref (ad20 1), .ref (ad20 2), .ref (ad20 3), .int 0])), ((ad20 1), .inl (cI, 6, .inl (fun _ => (0 : Int32)))), ((ad20 2), .inl (cI, 6, .inl (fun _ => (0 : Int32)))), ((ad20 3), .inl (cI, 6, .inl (fun _ => (0 : Int32)))), (q29, .inl (cI, 40, .inl (fun _ => (0 : Int32))))] rfl rfl rfl (Nat.le_of_ble_eq_true rfl) rfl ?_
  refine cn_aload_n hV dX6_init_34 rfl ?_
  refine cn_bipush hV (40 : Int32) dX6_init_35 (by decide) ?_
  refine cn_newI hV 40 ca_int dX6_init_37 (by decide) (by decide) (by decide) (by decide) (by decide) (fun q37 => ?_)
  refine cn_put hV hin cf_X6_29 dX6_init_39 0 [(h0, .inr (5, [.ref ((ad9 0)), .ref ((ad20 0)), .ref (q29), .ref (q37), .null, .null, .int 0, .null, .null, .null, .null, .null, .null])), ((ad9 0), .inr (6, [.ref (ad9 1), .ref (ad9 2), .ref (ad9 3), .ref (ad9 4), .ref (ad9 5), .ref (ad9 6), .ref (ad9 7), .int 0])), ((ad9 1), .inl (cI, 40, .inl (fun _ => (0 : Int32)))), ((ad9 2), .inl (cI, 40, .inl (fun _ => (0 : Int32)))), ((ad9 3), .inl (cI, 40, .inl (fun _ => (0 : Int32)))), ((ad9 4), .inl (cI, 40, .inl (fun _ => (0 : Int32)))), ((ad9 5), .inl (cI, 40, .inl (fun _ => (0 : Int32)))), ((ad9 6), .inl (cI, 40, .inl (fun _ => (0 : Int32)))), ((ad9 7), .inl (cI, 40, .inl (fun _ => (0 : Int32)))), ((ad20 0), .inr (0, [.ref (ad20 1), .ref (ad20 2), .ref (ad20 3), .int 0])), ((ad20 1), .inl (cI, 6, .inl (fun _ => (0 : Int32)))), ((ad20 2), .inl (cI, 6, .inl (fun _ => (0 : Int32)))), ((ad20 3), .inl (cI, 6, .inl (fun _ => (0 : Int32)))), (q29, .inl (cI, 40, .inl (fun _ => (0 : Int32)))), (q37, .inl (cI, 40, .inl (fun _ => (0 : Int32))))] rfl rfl rfl (Nat.le_of_ble_eq_true rfl) rfl ?_
  refine cn_aload_n hV dX6_init_42 rfl ?_
  refine cn_bipush hV (40 : Int32) dX6_init_43 (by decide) ?_
  refine cn_newI hV 40 ca_int dX6_init_45 (by decide) (by decide) (by decide) (by decide) (by decide) (fun q45 => ?_)
  refine cn_put hV hin cf_X6_32 dX6_init_47 0 [(h0, .inr (5, [.ref ((ad9 0)), .ref ((ad20 0)), .ref (q29), .ref (q37), .ref (q45), .null, .int 0, .null, .null, .null, .null, .null, .null])), ((ad9 0), .inr (6, [.ref (ad9 1), .ref (ad9 2), .ref (ad9 3), .ref (ad9 4), .ref (ad9 5), .ref (ad9 6), .ref (ad9 7), .int 0])), ((ad9 1), .inl (cI, 40, .inl (fun _ => (0 : Int32)))), ((ad9 2), .inl (cI, 40, .inl (fun _ => (0 : Int32)))), ((ad9 3), .inl (cI, 40, .inl (fun _ => (0 : Int32)))), ((ad9 4), .inl (cI, 40, .inl (fun _ => (0 : Int32)))), ((ad9 5), .inl (cI, 40, .inl (fun _ => (0 : Int32)))), ((ad9 6), .inl (cI, 40, .inl (fun _ => (0 : Int32)))), ((ad9 7), .inl (cI, 40, .inl (fun _ => (0 : Int32)))), ((ad20 0), .inr (0, [.ref (ad20 1), .ref (ad20 2), .ref (ad20 3), .int 0])), ((ad20 1), .inl (cI, 6, .inl (fun _ => (0 : Int32)))), ((ad20 2), .inl (cI, 6, .inl (fun _ => (0 : Int32)))), ((ad20 3), .inl (cI, 6, .inl (fun _ => (0 : Int32)))), (q29, .inl (cI, 40, .inl (fun _ => (0 : Int32)))), (q37, .inl (cI, 40, .inl (fun _ => (0 : Int32)))), (q45, .inl (cI, 40, .inl (fun _ => (0 : Int32))))] rfl rfl rfl (Nat.le_of_ble_eq_true rfl) rfl ?_
  refine cn_aload_n hV dX6_init_50 rfl ?_
  refine cn_bipush hV (40 : Int32) dX6_init_51 (by decide) ?_
  refine cn_newI hV 40 ca_int dX6_init_53 (by decide) (by decide) (by decide) (by decide) (by decide) (fun q53 => ?_)
  refine cn_put hV hin cf_X6_35 dX6_init_55 0 [(h0, .inr (5, [.ref ((ad9 0)), .ref ((ad20 0)), .ref (q29), .ref (q37), .ref (q45), .ref (q53), .int 0, .null, .null, .null, .null, .null, .null])), ((ad9 0), .inr (6, [.ref (ad9 1), .ref (ad9 2), .ref (ad9 3), .ref (ad9 4), .ref (ad9 5), .ref (ad9 6), .ref (ad9 7), .int 0])), ((ad9 1), .inl (cI, 40, .inl (fun _ => (0 : Int32)))), ((ad9 2), .inl (cI, 40, .inl (fun _ => (0 : Int32)))), ((ad9 3), .inl (cI, 40, .inl (fun _ => (0 : Int32)))), ((ad9 4), .inl (cI, 40, .inl (fun _ => (0 : Int32)))), ((ad9 5), .inl (cI, 40, .inl (fun _ => (0 : Int32)))), ((ad9 6), .inl (cI, 40, .inl (fun _ => (0 : Int32)))), ((ad9 7), .inl (cI, 40, .inl (fun _ => (0 : Int32)))), ((ad20 0), .inr (0, [.ref (ad20 1), .ref (ad20 2), .ref (ad20 3), .int 0])), ((ad20 1), .inl (cI, 6, .inl (fun _ => (0 : Int32)))), ((ad20 2), .inl (cI, 6, .inl (fun _ => (0 : Int32)))), ((ad20 3), .inl (cI, 6, .inl (fun _ => (0 : Int32)))), (q29, .inl (cI, 40, .inl (fun _ => (0 : Int32)))), (q37, .inl (cI, 40, .inl (fun _ => (0 : Int32)))), (q45, .inl (cI, 40, .inl (fun _ => (0 : Int32)))), (q53, .inl (cI, 40, .inl (fun _ => (0 : Int32))))] rfl rfl rfl (Nat.le_of_ble_eq_true rfl) rfl ?_
  refine cn_aload_n hV dX6_init_58 rfl ?_
  refine cn_iconst hV (0 : Int32) dX6_init_59 (by decide) ?_
  refine cn_put hV hin cf_X6_38 dX6_init_60 0 [(h0, .inr (5, [.ref ((ad9 0)), .ref ((ad20 0)), .ref (q29), .ref (q37), .ref (q45), .ref (q53), .int (0 : Int32), .null, .null, .null, .null, .null, .null])), ((ad9 0), .inr (6, [.ref (ad9 1), .ref (ad9 2), .ref (ad9 3), .ref (ad9 4), .ref (ad9 5), .ref (ad9 6), .ref (ad9 7), .int 0])), ((ad9 1), .inl (cI, 40, .inl (fun _ => (0 : Int32)))), ((ad9 2), .inl (cI, 40, .inl (fun _ => (0 : Int32)))), ((ad9 3), .inl (cI, 40, .inl (fun _ => (0 : Int32)))), ((ad9 4), .inl (cI, 40, .inl (fun _ => (0 : Int32)))), ((ad9 5), .inl (cI, 40, .inl (fun _ => (0 : Int32)))), ((ad9 6), .inl (cI, 40, .inl (fun _ => (0 : Int32)))), ((ad9 7), .inl (cI, 40, .inl (fun _ => (0 : Int32)))), ((ad20 0), .inr (0, [.ref (ad20 1), .ref (ad20 2), .ref (ad20 3), .int 0])), ((ad20 1), .inl (cI, 6, .inl (fun _ => (0 : Int32)))), ((ad20 2), .inl (cI, 6, .inl (fun _ => (0 : Int32)))), ((ad20 3), .inl (cI, 6, .inl (fun _ => (0 : Int32)))), (q29, .inl (cI, 40, .inl (fun _ => (0 : Int32)))), (q37, .inl (cI, 40, .inl (fun _ => (0 : Int32)))), (q45, .inl (cI, 40, .inl (fun _ => (0 : Int32)))), (q53, .inl (cI, 40, .inl (fun _ => (0 : Int32))))] rfl rfl rfl (Nat.le_of_ble_eq_true rfl) rfl ?_
  refine cn_aload_n hV dX6_init_63 rfl ?_
  refine cn_bipush hV (18 : Int32) dX6_init_64 (by decide) ?_
  refine cn_newI hV 18 ca_int dX6_init_66 (by decide) (by decide) (by decide) (by decide) (by decide) (fun q66 => ?_)
  refine cn_put hV hin cf_X6_42 dX6_init_68 0 [(h0, .inr (5, [.ref ((ad9 0)), .ref ((ad20 0)), .ref (q29), .ref (q37), .ref (q45), .ref (q53), .int (0 : Int32), .ref (q66), .null, .null, .null, .null, .null])), ((ad9 0), .inr (6, [.ref (ad9 1), .ref (ad9 2), .ref (ad9 3), .ref (ad9 4), .ref (ad9 5), .ref (ad9 6), .ref (ad9 7), .int 0])), ((ad9 1), .inl (cI, 40, .inl (fun _ => (0 : Int32)))), ((ad9 2), .inl (cI, 40, .inl (fun _ => (0 : Int32)))), ((ad9 3), .inl (cI, 40, .inl (fun _ => (0 : Int32)))), ((ad9 4), .inl (cI, 40, .inl (fun _ => (0 : Int32)))), ((ad9 5), .inl (cI, 40, .inl (fun _ => (0 : Int32)))), ((ad9 6), .inl (cI, 40, .inl (fun _ => (0 : Int32)))), ((ad9 7), .inl (cI, 40, .inl (fun _ => (0 : Int32)))), ((ad20 0), .inr (0, [.ref (ad20 1), .ref (ad20 2), .ref (ad20 3), .int 0])), ((ad20 1), .inl (cI, 6, .inl (fun _ => (0 : Int32)))), ((ad20 2), .inl (cI, 6, .inl (fun _ => (0 : Int32)))), ((ad20 3), .inl (cI, 6, .inl (fun _ => (0 : Int32)))), (q29, .inl (cI, 40, .inl (fun _ => (0 : Int32)))), (q37, .inl (cI, 40, .inl (fun _ => (0 : Int32)))), (q45, .inl (cI, 40, .inl (fun _ => (0 : Int32)))), (q53, .inl (cI, 40, .inl (fun _ => (0 : Int32)))), (q66, .inl (cI, 18, .inl (fun _ => (0 : Int32))))] rfl rfl rfl (Nat.le_of_ble_eq_true rfl) rfl ?_
  refine cn_aload_n hV dX6_init_71 rfl ?_
  refine cn_bipush hV (18 : Int32) dX6_init_72 (by decide) ?_
  refine cn_newI hV 18 ca_int dX6_init_74 (by decide) (by decide) (by decide) (by decide) (by decide) (fun q74 => ?_)
  refine cn_put hV hin cf_X6_45 dX6_init_76 0 [(h0, .inr (5, [.ref ((ad9 0)), .ref ((ad20 0)), .ref (q29), .ref (q37), .ref (q45), .ref (q53), .int (0 : Int32), .ref (q66), .ref (q74), .null, .null, .null, .null])), ((ad9 0), .inr (6, [.ref (ad9 1), .ref (ad9 2), .ref (ad9 3), .ref (ad9 4), .ref (ad9 5), .ref (ad9 6), .ref (ad9 7), .int 0])), ((ad9 1), .inl (cI, 40, .inl (fun _ => (0 : Int32)))), ((ad9 2), .inl (cI, 40, .inl (fun _ => (0 : Int32)))), ((ad9 3), .inl (cI, 40, .inl (fun _ => (0 : Int32)))), ((ad9 4), .inl (cI, 40, .inl (fun _ => (0 : Int32)))), ((ad9 5), .inl (cI, 40, .inl (fun _ => (0 : Int32)))), ((ad9 6), .inl (cI, 40, .inl (fun _ => (0 : Int32)))), ((ad9 7), .inl (cI, 40, .inl (fun _ => (0 : Int32)))), ((ad20 0), .inr (0, [.ref (ad20 1), .ref (ad20 2), .ref (ad20 3), .int 0])), ((ad20 1), .inl (cI, 6, .inl (fun _ => (0 : Int32)))), ((ad20 2), .inl (cI, 6, .inl (fun _ => (0 : Int32)))), ((ad20 3), .inl (cI, 6, .inl (fun _ => (0 : Int32)))), (q29, .inl (cI, 40, .inl (fun _ => (0 : Int32)))), (q37, .inl (cI, 40, .inl (fun _ => (0 : Int32)))), (q45, .inl (cI, 40, .inl (fun _ => (0 : Int32)))), (q53, .inl (cI, 40, .inl (fun _ => (0 : Int32)))), (q66, .inl (cI, 18, .inl (fun _ => (0 : Int32)))), (q74, .inl (cI, 18, .inl (fun _ => (0 : Int32))))] rfl rfl rfl (Nat.le_of_ble_eq_true rfl) rfl ?_
  refine cn_aload_n hV dX6_init_79 rfl ?_
  refine cn_bipush hV (18 : Int32) dX6_init_80 (by decide) ?_
  refine cn_newI hV 18 ca_int dX6_init_82 (by decide) (by decide) (by decide) (by decide) (by decide) (fun q82 => ?_)
  refine cn_put hV hin cf_X6_48 dX6_init_84 0 [(h0, .inr (5, [.ref ((ad9 0)), .ref ((ad20 0)), .ref (q29), .ref (q37), .ref (q45), .ref (q53), .int (0 : Int32), .ref (q66), .ref (q74), .ref (q82), .null, .null, .null])), ((ad9 0), .inr (6, [.ref (ad9 1), .ref (ad9 2), .ref (ad9 3), .ref (ad9 4), .ref (ad9 5), .ref (ad9 6), .ref (ad9 7), .int 0])), ((ad9 1), .inl (cI, 40, .inl (fun _ => (0 : Int32)))), ((ad9 2), .inl (cI, 40, .inl (fun _ => (0 : Int32)))), ((ad9 3), .inl (cI, 40, .inl (fun _ => (0 : Int32)))), ((ad9 4), .inl (cI, 40, .inl (fun _ => (0 : Int32)))), ((ad9 5), .inl (cI, 40, .inl (fun _ => (0 : Int32)))), ((ad9 6), .inl (cI, 40, .inl (fun _ => (0 : Int32)))), ((ad9 7), .inl (cI, 40, .inl (fun _ => (0 : Int32)))), ((ad20 0), .inr (0, [.ref (ad20 1), .ref (ad20 2), .ref (ad20 3), .int 0])), ((ad20 1), .inl (cI, 6, .inl (fun _ => (0 : Int32)))), ((ad20 2), .inl (cI, 6, .inl (fun _ => (0 : Int32)))), ((ad20 3), .inl (cI, 6, .inl (fun _ => (0 : Int32)))), (q29, .inl (cI, 40, .inl (fun _ => (0 : Int32)))), (q37, .inl (cI, 40, .inl (fun _ => (0 : Int32)))), (q45, .inl (cI, 40, .inl (fun _ => (0 : Int32)))), (q53, .inl (cI, 40, .inl (fun _ => (0 : Int32)))), (q66, .inl (cI, 18, .inl (fun _ => (0 : Int32)))), (q74, .inl (cI, 18, .inl (fun _ => (0 : Int32)))), (q82, .inl (cI, 18, .inl (fun _ => (0 : Int32))))] rfl rfl rfl (Nat.le_of_ble_eq_true rfl) rfl ?_
  refine cn_aload_n hV dX6_init_87 rfl ?_
  refine cn_bipush hV (18 : Int32) dX6_init_88 (by decide) ?_
  refine cn_newI hV 18 ca_int dX6_init_90 (by decide) (by decide) (by decide) (by decide) (by decide) (fun q90 => ?_)
  refine cn_put hV hin cf_X6_51 dX6_init_92 0 [(h0, .inr (5, [.ref ((ad9 0)), .ref ((ad20 0)), .ref (q29), .ref (q37), .ref (q45), .ref (q53), .int (0 : Int32), .ref (q66), .ref (q74), .ref (q82), .ref (q90), .null, .null])), ((ad9 0), .inr (6, [.ref (ad9 1), .ref (ad9 2), .ref (ad9 3), .ref (ad9 4), .ref (ad9 5), .ref (ad9 6), .ref (ad9 7), .int 0])), ((ad9 1), .inl (cI, 40, .inl (fun _ => (0 : Int32)))), ((ad9 2), .inl (cI, 40, .inl (fun _ => (0 : Int32)))), ((ad9 3), .inl (cI, 40, .inl (fun _ => (0 : Int32)))), ((ad9 4), .inl (cI, 40, .inl (fun _ => (0 : Int32)))), ((ad9 5), .inl (cI, 40, .inl (fun _ => (0 : Int32)))), ((ad9 6), .inl (cI, 40, .inl (fun _ => (0 : Int32)))), ((ad9 7), .inl (cI, 40, .inl (fun _ => (0 : Int32)))), ((ad20 0), .inr (0, [.ref (ad20 1), .ref (ad20 2), .ref (ad20 3), .int 0])), ((ad20 1), .inl (cI, 6, .inl (fun _ => (0 : Int32)))), ((ad20 2), .inl (cI, 6, .inl (fun _ => (0 : Int32)))), ((ad20 3), .inl (cI, 6, .inl (fun _ => (0 : Int32)))), (q29, .inl (cI, 40, .inl (fun _ => (0 : Int32)))), (q37, .inl (cI, 40, .inl (fun _ => (0 : Int32)))), (q45, .inl (cI, 40, .inl (fun _ => (0 : Int32)))), (q53, .inl (cI, 40, .inl (fun _ => (0 : Int32)))), (q66, .inl (cI, 18, .inl (fun _ => (0 : Int32)))), (q74, .inl (cI, 18, .inl (fun _ => (0 : Int32)))), (q82, .inl (cI, 18, .inl (fun _ => (0 : Int32)))), (q90, .inl (cI, 18, .inl (fun _ => (0 : Int32))))] rfl rfl rfl (Nat.le_of_ble_eq_true rfl) rfl ?_
  refine cn_aload_n hV dX6_init_95 rfl ?_
  refine cn_bipush hV (18 : Int32) dX6_init_96 (by decide) ?_
  refine cn_newI hV 18 ca_int dX6_init_98 (by decide) (by decide) (by decide) (by decide) (by decide) (fun q98 => ?_)
  refine cn_put hV hin cf_X6_54 dX6_init_100 0 [(h0, .inr (5, [.ref ((ad9 0)), .ref ((ad20 0)), .ref (q29), .ref (q37), .ref (q45), .ref (q53), .int (0 : Int32), .ref (q66), .ref (q74), .ref (q82), .ref (q90), .ref (q98), .null])), ((ad9 0), .inr (6, [.ref (ad9 1), .ref (ad9 2), .ref (ad9 3), .ref (ad9 4), .ref (ad9 5), .ref (ad9 6), .ref (ad9 7), .int 0])), ((ad9 1), .inl (cI, 40, .inl (fun _ => (0 : Int32)))), ((ad9 2), .inl (cI, 40, .inl (fun _ => (0 : Int32)))), ((ad9 3), .inl (cI, 40, .inl (fun _ => (0 : Int32)))), ((ad9 4), .inl (cI, 40, .inl (fun _ => (0 : Int32)))), ((ad9 5), .inl (cI, 40, .inl (fun _ => (0 : Int32)))), ((ad9 6), .inl (cI, 40, .inl (fun _ => (0 : Int32)))), ((ad9 7), .inl (cI, 40, .inl (fun _ => (0 : Int32)))), ((ad20 0), .inr (0, [.ref (ad20 1), .ref (ad20 2), .ref (ad20 3), .int 0])), ((ad20 1), .inl (cI, 6, .inl (fun _ => (0 : Int32)))), ((ad20 2), .inl (cI, 6, .inl (fun _ => (0 : Int32)))), ((ad20 3), .inl (cI, 6, .inl (fun _ => (0 : Int32)))), (q29, .inl (cI, 40, .inl (fun _ => (0 : Int32)))), (q37, .inl (cI, 40, .inl (fun _ => (0 : Int32)))), (q45, .inl (cI, 40, .inl (fun _ => (0 : Int32)))), (q53, .inl (cI, 40, .inl (fun _ => (0 : Int32)))), (q66, .inl (cI, 18, .inl (fun _ => (0 : Int32)))), (q74, .inl (cI, 18, .inl (fun _ => (0 : Int32)))), (q82, .inl (cI, 18, .inl (fun _ => (0 : Int32)))), (q90, .inl (cI, 18, .inl (fun _ => (0 : Int32)))), (q98, .inl (cI, 18, .inl (fun _ => (0 : Int32))))] rfl rfl rfl (Nat.le_of_ble_eq_true rfl) rfl ?_
  refine cn_aload_n hV dX6_init_103 rfl ?_
  refine cn_bipush hV (18 : Int32) dX6_init_104 (by decide) ?_
  refine cn_newI hV 18 ca_int dX6_init_106 (by decide) (by decide) (by decide) (by decide) (by decide) (fun q106 => ?_)
  refine cn_put hV hin cf_X6_57 dX6_init_108 0 [(h0, .inr (5, [.ref ((ad9 0)), .ref ((ad20 0)), .ref (q29), .ref (q37), .ref (q45), .ref (q53), .int (0 : Int32), .ref (q66), .ref (q74), .ref (q82), .ref (q90), .ref (q98), .ref (q106)])), ((ad9 0), .inr (6, [.ref (ad9 1), .ref (ad9 2), .ref (ad9 3), .ref (ad9 4), .ref (ad9 5), .ref (ad9 6), .ref (ad9 7), .int 0])), ((ad9 1), .inl (cI, 40, .inl (fun _ => (0 : Int32)))), ((ad9 2), .inl (cI, 40, .inl (fun _ => (0 : Int32)))), ((ad9 3), .inl (cI, 40, .inl (fun _ => (0 : Int32)))), ((ad9 4), .inl (cI, 40, .inl (fun _ => (0 : Int32)))), ((ad9 5), .inl (cI, 40, .inl (fun _ => (0 : Int32)))), ((ad9 6), .inl (cI, 40, .inl (fun _ => (0 : Int32)))), ((ad9 7), .inl (cI, 40, .inl (fun _ => (0 : Int32)))), ((ad20 0), .inr (0, [.ref (ad20 1), .ref (ad20 2), .ref (ad20 3), .int 0])), ((ad20 1), .inl (cI, 6, .inl (fun _ => (0 : Int32)))), ((ad20 2), .inl (cI, 6, .inl (fun _ => (0 : Int32)))), ((ad20 3), .inl (cI, 6, .inl (fun _ => (0 : Int32)))), (q29, .inl (cI, 40, .inl (fun _ => (0 : Int32)))), (q37, .inl (cI, 40, .inl (fun _ => (0 : Int32)))), (q45, .inl (cI, 40, .inl (fun _ => (0 : Int32)))), (q53, .inl (cI, 40, .inl (fun _ => (0 : Int32)))), (q66, .inl (cI, 18, .inl (fun _ => (0 : Int32)))), (q74, .inl (cI, 18, .inl (fun _ => (0 : Int32)))), (q82, .inl (cI, 18, .inl (fun _ => (0 : Int32)))), (q90, .inl (cI, 18, .inl (fun _ => (0 : Int32)))), (q98, .inl (cI, 18, .inl (fun _ => (0 : Int32)))), (q106, .inl (cI, 18, .inl (fun _ => (0 : Int32))))] rfl rfl rfl (Nat.le_of_ble_eq_true rfl) rfl ?_
  exact hend _ _ _ [h0, (ad9 0), (ad20 0), q29, q37, q45, q53, q66, q74, q82, q90, q98, q106, (ad9 1), (ad9 2), (ad9 3), (ad9 4), (ad9 5), (ad9 6), (ad9 7), (ad20 1), (ad20 2), (ad20 3)] [0, 1, 9, 13, 14, 15, 16, 17, 18, 19, 20, 21, 22, 2, 3, 4, 5, 6, 7, 8, 10, 11, 12] [(h0, .inr (5, [.ref ((ad9 0)), .ref ((ad20 0)), .ref (q29), .ref (q37), .ref (q45), .ref (q53), .int (0 : Int32), .ref (q66), .ref (q74), .ref (q82), .ref (q90), .ref (q98), .ref (q106)])), ((ad9 0), .inr (6, [.ref (ad9 1), .ref (ad9 2), .ref (ad9 3), .ref (ad9 4), .ref (ad9 5), .ref (ad9 6), .ref (ad9 7), .int 0])), ((ad9 1), .inl (cI, 40, .inl (fun _ => (0 : Int32)))), ((ad9 2), .inl (cI, 40, .inl (fun _ => (0 : Int32)))), ((ad9 3), .inl (cI, 40, .inl (fun _ => (0 : Int32)))), ((ad9 4), .inl (cI, 40, .inl (fun _ => (0 : Int32)))), ((ad9 5), .inl (cI, 40, .inl (fun _ => (0 : Int32)))), ((ad9 6), .inl (cI, 40, .inl (fun _ => (0 : Int32)))), ((ad9 7), .inl (cI, 40, .inl (fun _ => (0 : Int32)))), ((ad20 0), .inr (0, [.ref (ad20 1), .ref (ad20 2), .ref (ad20 3), .int 0])), ((ad20 1), .inl (cI, 6, .inl (fun _ => (0 : Int32)))), ((ad20 2), .inl (cI, 6, .inl (fun _ => (0 : Int32)))), ((ad20 3), .inl (cI, 6, .inl (fun _ => (0 : Int32)))), (q29, .inl (cI, 40, .inl (fun _ => (0 : Int32)))), (q37, .inl (cI, 40, .inl (fun _ => (0 : Int32)))), (q45, .inl (cI, 40, .inl (fun _ => (0 : Int32)))), (q53, .inl (cI, 40, .inl (fun _ => (0 : Int32)))), (q66, .inl (cI, 18, .inl (fun _ => (0 : Int32)))), (q74, .inl (cI, 18, .inl (fun _ => (0 : Int32)))), (q82, .inl (cI, 18, .inl (fun _ => (0 : Int32)))), (q90, .inl (cI, 18, .inl (fun _ => (0 : Int32)))), (q98, .inl (cI, 18, .inl (fun _ => (0 : Int32)))), (q106, .inl (cI, 18, .inl (fun _ => (0 : Int32))))] rfl (by decide) rfl dX6_init_111
def s0_X3 : ax_S := (fun k => (fun _ => (0 : Int32)), fun _ _ => 0)
def cl_X3 : ax_L := [(0, 2, [3, 0, 4, 1, 0]), (1, 12, []), (1, 40, [])]
def mu_X3_init : ax_Mu := (yX3_init, cX3_init, 1, none, 1, 12)
theorem lc_X3_init : Cond.code mu_X3_init.1 mu_X3_init.2.1 mu_X3_init.2.2.1 mu_X3_init.2.2.2.1 ∈ ax_tb := (ax_m1 153 rfl rfl)
def nl_X3 : cn_N := []
theorem cf_X3_9 : cn_F RX3 9 2 0 true (.array .int) := ⟨RX3, TX3, 5, tyX3, rfl, by decide, in2X3, (ax_m1 155 rfl rfl), tyX3_ok, nmX3, rfl, by decide +kernel, fun _ => rfl⟩
theorem cf_X3_15 : cn_F RX3 15 2 1 false (.int) := ⟨RX3, TX3, 5, tyX3, rfl, by decide, in2X3, (ax_m1 156 rfl rfl), tyX3_ok, nmX3, rfl, by decide +kernel, fun _ => rfl⟩
theorem cf_X3_19 : cn_F RX3 19 2 2 true (.array .int) := ⟨RX3, TX3, 5, tyX3, rfl, by decide, in2X3, (ax_m1 157 rfl rfl), tyX3_ok, nmX3, rfl, by decide +kernel, fun _ => rfl⟩
theorem cf_X3_22 : cn_F RX3 22 2 3 false (.long) := ⟨RX3, TX3, 5, tyX3, rfl, by decide, in2X3, (ax_m1 159 rfl rfl), tyX3_ok, nmX3, rfl, by decide +kernel, fun _ => rfl⟩
theorem cf_X3_26 : cn_F RX3 26 2 4 false (.int) := ⟨RX3, TX3, 5, tyX3, rfl, by decide, in2X3, (ax_m1 161 rfl rfl), tyX3_ok, nmX3, rfl, by decide +kernel, fun _ => rfl⟩
set_option maxHeartbeats 4000000 in
set_option maxRecDepth 10000 in
theorem c_X3_init : cn_M mu_X3_init 2 52 nl_X3 2 [.null, .int 0, .null, .long 0, .int 0] cl_X3 s0_X3 := by
  refine cn_enter (by decide +kernel) rfl rfl (by decide) 0 (fun h0 => [some (.ref h0)]) (fun _ => rfl) (fun K D cI cJ cZ h0 sz Q hV hin hnw hlt hend => ?_)
  refine cn_aload_n hV dX3_init_0 rfl ?_
  refine cn_obj hV (ax_m1 154 rfl rfl) cn_o1 cn_o2 rfl dX3_init_1 ?_
  refine cn_aload_n hV dX3_init_4 rfl ?_
  refine cn_bipush hV (12 : Int32) dX3_init_5 (by decide) ?_
  refine cn_newI hV 12 ca_int dX3_init_7 (by decide) (by decide) (by decide) (by decide) (by decide) (fun q7 => ?_)
  refine cn_put hV hin cf_X3_9 dX3_init_9 0 [(h0, .inr (2, [.ref (q7), .int 0, .null, .long 0, .int 0])), (q7, .inl (cI, 12, .inl (fun _ => (0 : Int32))))] rfl rfl rfl (Nat.le_of_ble_eq_true rfl) rfl ?_
  refine cn_aload_n hV dX3_init_12 rfl ?_
  refine cn_iconst hV (0 : Int32) dX3_init_13 (by decide) ?_
  refine cn_put hV hin cf_X3_15 dX3_init_14 0 [(h0, .inr (2, [.ref (q7), .int (0 : Int32), .null, .long 0, .int 0])), (q7, .inl (cI, 12, .inl (fun _ => (0 : Int32))))] rfl rfl rfl (Nat.le_of_ble_eq_true rfl) rfl ?_
  refine cn_aload_n hV dX3_init_17 rfl ?_
  refine cn_bipush hV (40 : Int32) dX3_init_18 (by decide) ?_
  refine cn_newI hV 40 ca_int dX3_init_20 (by decide) (by decide) (by decide) (by decide) (by decide) (fun q20 => ?_)
  refine cn_put hV hin cf_X3_19 dX3_init_22 0 [(h0, .inr (2, [.ref (q7), .int (0 : Int32), .ref (q20), .long 0, .int 0])), (q7, .inl (cI, 12, .inl (fun _ => (0 : Int32)))), (q20, .inl (cI, 40, .inl (fun _ => (0 : Int32))))] rfl rfl rfl (Nat.le_of_ble_eq_true rfl) rfl ?_
  refine cn_aload_n hV dX3_init_25 rfl ?_
  refine cn_lconst hV (0 : Int64) dX3_init_26 (by decide) ?_
  refine cn_put hV hin cf_X3_22 dX3_init_27 0 [(h0, .inr (2, [.ref (q7), .int (0 : Int32), .ref (q20), .long (0 : Int64), .int 0])), (q7, .inl (cI, 12, .inl (fun _ => (0 : Int32)))), (q20, .inl (cI, 40, .inl (fun _ => (0 : Int32))))] rfl rfl rfl (Nat.le_of_ble_eq_true rfl) rfl ?_
  refine cn_aload_n hV dX3_init_30 rfl ?_
  refine cn_iconst hV (0 : Int32) dX3_init_31 (by decide) ?_
  refine cn_put hV hin cf_X3_26 dX3_init_32 0 [(h0, .inr (2, [.ref (q7), .int (0 : Int32), .ref (q20), .long (0 : Int64), .int (0 : Int32)])), (q7, .inl (cI, 12, .inl (fun _ => (0 : Int32)))), (q20, .inl (cI, 40, .inl (fun _ => (0 : Int32))))] rfl rfl rfl (Nat.le_of_ble_eq_true rfl) rfl ?_
  exact hend _ _ _ [h0, q7, q20] [0, 1, 2] [(h0, .inr (2, [.ref (q7), .int (0 : Int32), .ref (q20), .long (0 : Int64), .int (0 : Int32)])), (q7, .inl (cI, 12, .inl (fun _ => (0 : Int32)))), (q20, .inl (cI, 40, .inl (fun _ => (0 : Int32))))] rfl (by decide) rfl dX3_init_35
def s0_X5 : ax_S := (fun k => (fun _ => (0 : Int32)), fun _ _ => 0)
def cl_X5 : ax_L := [(0, 4, [3, 4, 5, 6, 0]), (1, 12, []), (1, 4096, []), (1, 4096, []), (1, 144, [])]
def mu_X5_init : ax_Mu := (yX5_init, cX5_init, 1, none, 1, 12)
theorem lc_X5_init : Cond.code mu_X5_init.1 mu_X5_init.2.1 mu_X5_init.2.2.1 mu_X5_init.2.2.2.1 ∈ ax_tb := (ax_m1 177 rfl rfl)
def nl_X5 : cn_N := []
theorem cf_X5_9 : cn_F RX5 9 4 0 true (.array .int) := ⟨RX5, TX5, 5, tyX5, rfl, by decide, in2X5, (ax_m1 179 rfl rfl), tyX5_ok, nmX5, rfl, by decide +kernel, fun _ => rfl⟩
theorem cf_X5_15 : cn_F RX5 15 4 1 true (.array .int) := ⟨RX5, TX5, 5, tyX5, rfl, by decide, in2X5, (ax_m1 181 rfl rfl), tyX5_ok, nmX5, rfl, by decide +kernel, fun _ => rfl⟩
theorem cf_X5_18 : cn_F RX5 18 4 2 true (.array .int) := ⟨RX5, TX5, 5, tyX5, rfl, by decide, in2X5, (ax_m1 182 rfl rfl), tyX5_ok, nmX5, rfl, by decide +kernel, fun _ => rfl⟩
theorem cf_X5_21 : cn_F RX5 21 4 3 true (.array .int) := ⟨RX5, TX5, 5, tyX5, rfl, by decide, in2X5, (ax_m1 183 rfl rfl), tyX5_ok, nmX5, rfl, by decide +kernel, fun _ => rfl⟩
theorem cf_X5_24 : cn_F RX5 24 4 4 false (.int) := ⟨RX5, TX5, 5, tyX5, rfl, by decide, in2X5, (ax_m1 184 rfl rfl), tyX5_ok, nmX5, rfl, by decide +kernel, fun _ => rfl⟩
set_option maxHeartbeats 4000000 in
set_option maxRecDepth 10000 in
theorem c_X5_init : cn_M mu_X5_init 4 8348 nl_X5 4 [.null, .null, .null, .null, .int 0] cl_X5 s0_X5 := by
  refine cn_enter (by decide +kernel) rfl rfl (by decide) 0 (fun h0 => [some (.ref h0)]) (fun _ => rfl) (fun K D cI cJ cZ h0 sz Q hV hin hnw hlt hend => ?_)
  refine cn_aload_n hV dX5_init_0 rfl ?_
  refine cn_obj hV (ax_m1 178 rfl rfl) cn_o1 cn_o2 rfl dX5_init_1 ?_
  refine cn_aload_n hV dX5_init_4 rfl ?_
  refine cn_bipush hV (12 : Int32) dX5_init_5 (by decide) ?_
  refine cn_newI hV 12 ca_int dX5_init_7 (by decide) (by decide) (by decide) (by decide) (by decide) (fun q7 => ?_)
  refine cn_put hV hin cf_X5_9 dX5_init_9 0 [(h0, .inr (4, [.ref (q7), .null, .null, .null, .int 0])), (q7, .inl (cI, 12, .inl (fun _ => (0 : Int32))))] rfl rfl rfl (Nat.le_of_ble_eq_true rfl) rfl ?_
  refine cn_aload_n hV dX5_init_12 rfl ?_
  refine cn_sipush hV (4096 : Int32) dX5_init_13 (by decide) ?_
  refine cn_newI hV 4096 ca_int dX5_init_16 (by decide) (by decide) (by decide) (by decide) (by decide) (fun q16 => ?_)
  refine cn_put hV hin cf_X5_15 dX5_init_18 0 [(h0, .inr (4, [.ref (q7), .ref (q16), .null, .null, .int 0])), (q7, .inl (cI, 12, .inl (fun _ => (0 : Int32)))), (q16, .inl (cI, 4096, .inl (fun _ => (0 : Int32))))] rfl rfl rfl (Nat.le_of_ble_eq_true rfl) rfl ?_
  refine cn_aload_n hV dX5_init_21 rfl ?_
  refine cn_sipush hV (4096 : Int32) dX5_init_22 (by decide) ?_
  refine cn_newI hV 4096 ca_int dX5_init_25 (by decide) (by decide) (by decide) (by decide) (by decide) (fun q25 => ?_)
  refine cn_put hV hin cf_X5_18 dX5_init_27 0 [(h0, .inr (4, [.ref (q7), .ref (q16), .ref (q25), .null, .int 0])), (q7, .inl (cI, 12, .inl (fun _ => (0 : Int32)))), (q16, .inl (cI, 4096, .inl (fun _ => (0 : Int32)))), (q25, .inl (cI, 4096, .inl (fun _ => (0 : Int32))))] rfl rfl rfl (Nat.le_of_ble_eq_true rfl) rfl ?_
  refine cn_aload_n hV dX5_init_30 rfl ?_
  refine cn_sipush hV (144 : Int32) dX5_init_31 (by decide) ?_
  refine cn_newI hV 144 ca_int dX5_init_34 (by decide) (by decide) (by decide) (by decide) (by decide) (fun q34 => ?_)
  refine cn_put hV hin cf_X5_21 dX5_init_36 0 [(h0, .inr (4, [.ref (q7), .ref (q16), .ref (q25), .ref (q34), .int 0])), (q7, .inl (cI, 12, .inl (fun _ => (0 : Int32)))), (q16, .inl (cI, 4096, .inl (fun _ => (0 : Int32)))), (q25, .inl (cI, 4096, .inl (fun _ => (0 : Int32)))), (q34, .inl (cI, 144, .inl (fun _ => (0 : Int32))))] rfl rfl rfl (Nat.le_of_ble_eq_true rfl) rfl ?_
  refine cn_aload_n hV dX5_init_39 rfl ?_
  refine cn_iconst hV (0 : Int32) dX5_init_40 (by decide) ?_
  refine cn_put hV hin cf_X5_24 dX5_init_41 0 [(h0, .inr (4, [.ref (q7), .ref (q16), .ref (q25), .ref (q34), .int (0 : Int32)])), (q7, .inl (cI, 12, .inl (fun _ => (0 : Int32)))), (q16, .inl (cI, 4096, .inl (fun _ => (0 : Int32)))), (q25, .inl (cI, 4096, .inl (fun _ => (0 : Int32)))), (q34, .inl (cI, 144, .inl (fun _ => (0 : Int32))))] rfl rfl rfl (Nat.le_of_ble_eq_true rfl) rfl ?_
  exact hend _ _ _ [h0, q7, q16, q25, q34] [0, 1, 2, 3, 4] [(h0, .inr (4, [.ref (q7), .ref (q16), .ref (q25), .ref (q34), .int (0 : Int32)])), (q7, .inl (cI, 12, .inl (fun _ => (0 : Int32)))), (q16, .inl (cI, 4096, .inl (fun _ => (0 : Int32)))), (q25, .inl (cI, 4096, .inl (fun _ => (0 : Int32)))), (q34, .inl (cI, 144, .inl (fun _ => (0 : Int32))))] rfl (by decide) rfl dX5_init_44
def s0_X4 : ax_S := (fun k => (fun _ => (0 : Int32)), fun _ _ => 0)
def cl_X4 : ax_L := [(0, 3, [3, 0, 0, 0]), (1, 12, [])]
def mu_X4_init : ax_Mu := (yX4_init, cX4_init, 1, none, 1, 12)
theorem lc_X4_init : Cond.code mu_X4_init.1 mu_X4_init.2.1 mu_X4_init.2.2.1 mu_X4_init.2.2.2.1 ∈ ax_tb := (ax_m1 200 rfl rfl)
def nl_X4 : cn_N := []
theorem cf_X4_9 : cn_F RX4 9 3 0 true (.array .int) := ⟨RX4, TX4, 4, tyX4, rfl, by decide, in2X4, (ax_m1 202 rfl rfl), tyX4_ok, nmX4, rfl, by decide +kernel, fun _ => rfl⟩
theorem cf_X4_15 : cn_F RX4 15 3 1 false (.int) := ⟨RX4, TX4, 4, tyX4, rfl, by decide, in2X4, (ax_m1 203 rfl rfl), tyX4_ok, nmX4, rfl, by decide +kernel, fun _ => rfl⟩
theorem cf_X4_19 : cn_F RX4 19 3 2 false (.int) := ⟨RX4, TX4, 4, tyX4, rfl, by decide, in2X4, (ax_m1 205 rfl rfl), tyX4_ok, nmX4, rfl, by decide +kernel, fun _ => rfl⟩
theorem cf_X4_22 : cn_F RX4 22 3 3 false (.int) := ⟨RX4, TX4, 4, tyX4, rfl, by decide, in2X4, (ax_m1 207 rfl rfl), tyX4_ok, nmX4, rfl, by decide +kernel, fun _ => rfl⟩
set_option maxHeartbeats 4000000 in
set_option maxRecDepth 10000 in
theorem c_X4_init : cn_M mu_X4_init 1 12 nl_X4 3 [.null, .int 0, .int 0, .int 0] cl_X4 s0_X4 := by
  refine cn_enter (by decide +kernel) rfl rfl (by decide) 0 (fun h0 => [some (.ref h0)]) (fun _ => rfl) (fun K D cI cJ cZ h0 sz Q hV hin hnw hlt hend => ?_)
  refine cn_aload_n hV dX4_init_0 rfl ?_
  refine cn_obj hV (ax_m1 201 rfl rfl) cn_o1 cn_o2 rfl dX4_init_1 ?_
  refine cn_aload_n hV dX4_init_4 rfl ?_
  refine cn_bipush hV (12 : Int32) dX4_init_5 (by decide) ?_
  refine cn_newI hV 12 ca_int dX4_init_7 (by decide) (by decide) (by decide) (by decide) (by decide) (fun q7 => ?_)
  refine cn_put hV hin cf_X4_9 dX4_init_9 0 [(h0, .inr (3, [.ref (q7), .int 0, .int 0, .int 0])), (q7, .inl (cI, 12, .inl (fun _ => (0 : Int32))))] rfl rfl rfl (Nat.le_of_ble_eq_true rfl) rfl ?_
  refine cn_aload_n hV dX4_init_12 rfl ?_
  refine cn_iconst hV (0 : Int32) dX4_init_13 (by decide) ?_
  refine cn_put hV hin cf_X4_15 dX4_init_14 0 [(h0, .inr (3, [.ref (q7), .int (0 : Int32), .int 0, .int 0])), (q7, .inl (cI, 12, .inl (fun _ => (0 : Int32))))] rfl rfl rfl (Nat.le_of_ble_eq_true rfl) rfl ?_
  refine cn_aload_n hV dX4_init_17 rfl ?_
  refine cn_iconst hV (0 : Int32) dX4_init_18 (by decide) ?_
  refine cn_put hV hin cf_X4_19 dX4_init_19 0 [(h0, .inr (3, [.ref (q7), .int (0 : Int32), .int (0 : Int32), .int 0])), (q7, .inl (cI, 12, .inl (fun _ => (0 : Int32))))] rfl rfl rfl (Nat.le_of_ble_eq_true rfl) rfl ?_
  refine cn_aload_n hV dX4_init_22 rfl ?_
  refine cn_iconst hV (0 : Int32) dX4_init_23 (by decide) ?_
  refine cn_put hV hin cf_X4_22 dX4_init_24 0 [(h0, .inr (3, [.ref (q7), .int (0 : Int32), .int (0 : Int32), .int (0 : Int32)])), (q7, .inl (cI, 12, .inl (fun _ => (0 : Int32))))] rfl rfl rfl (Nat.le_of_ble_eq_true rfl) rfl ?_
  exact hend _ _ _ [h0, q7] [0, 1] [(h0, .inr (3, [.ref (q7), .int (0 : Int32), .int (0 : Int32), .int (0 : Int32)])), (q7, .inl (cI, 12, .inl (fun _ => (0 : Int32))))] rfl (by decide) rfl dX4_init_27
def s0_X2 : ax_S := (fun k => (fun _ => (0 : Int32)), fun _ _ => 0)
def cl_X2 : ax_L := [(0, 1, [3, 0, 0, 0, 0, 0, 0]), (1, 40, [])]
def mu_X2_init : ax_Mu := (yX2_init, cX2_init, 1, none, 1, 12)
theorem lc_X2_init : Cond.code mu_X2_init.1 mu_X2_init.2.1 mu_X2_init.2.2.1 mu_X2_init.2.2.2.1 ∈ ax_tb := (ax_m1 222 rfl rfl)
def nl_X2 : cn_N := []
theorem cf_X2_9 : cn_F RX2 9 1 0 true (.array .int) := ⟨RX2, TX2, 7, tyX2, rfl, by decide, in2X2, (ax_m1 224 rfl rfl), tyX2_ok, nmX2, rfl, by decide +kernel, fun _ => rfl⟩
theorem cf_X2_15 : cn_F RX2 15 1 1 false (.int) := ⟨RX2, TX2, 7, tyX2, rfl, by decide, in2X2, (ax_m1 225 rfl rfl), tyX2_ok, nmX2, rfl, by decide +kernel, fun _ => rfl⟩
theorem cf_X2_19 : cn_F RX2 19 1 2 false (.int) := ⟨RX2, TX2, 7, tyX2, rfl, by decide, in2X2, (ax_m1 227 rfl rfl), tyX2_ok, nmX2, rfl, by decide +kernel, fun _ => rfl⟩
theorem cf_X2_22 : cn_F RX2 22 1 3 false (.int) := ⟨RX2, TX2, 7, tyX2, rfl, by decide, in2X2, (ax_m1 229 rfl rfl), tyX2_ok, nmX2, rfl, by decide +kernel, fun _ => rfl⟩
theorem cf_X2_25 : cn_F RX2 25 1 4 false (.int) := ⟨RX2, TX2, 7, tyX2, rfl, by decide, in2X2, (ax_m1 231 rfl rfl), tyX2_ok, nmX2, rfl, by decide +kernel, fun _ => rfl⟩
theorem cf_X2_28 : cn_F RX2 28 1 5 false (.int) := ⟨RX2, TX2, 7, tyX2, rfl, by decide, in2X2, (ax_m1 232 rfl rfl), tyX2_ok, nmX2, rfl, by decide +kernel, fun _ => rfl⟩
theorem cf_X2_31 : cn_F RX2 31 1 6 false (.int) := ⟨RX2, TX2, 7, tyX2, rfl, by decide, in2X2, (ax_m1 233 rfl rfl), tyX2_ok, nmX2, rfl, by decide +kernel, fun _ => rfl⟩
set_option maxHeartbeats 4000000 in
set_option maxRecDepth 10000 in
theorem c_X2_init : cn_M mu_X2_init 1 40 nl_X2 1 [.null, .int 0, .int 0, .int 0, .int 0, .int 0, .int 0] cl_X2 s0_X2 := by
  refine cn_enter (by decide +kernel) rfl rfl (by decide) 0 (fun h0 => [some (.ref h0)]) (fun _ => rfl) (fun K D cI cJ cZ h0 sz Q hV hin hnw hlt hend => ?_)
  refine cn_aload_n hV dX2_init_0 rfl ?_
  refine cn_obj hV (ax_m1 223 rfl rfl) cn_o1 cn_o2 rfl dX2_init_1 ?_
  refine cn_aload_n hV dX2_init_4 rfl ?_
  refine cn_bipush hV (40 : Int32) dX2_init_5 (by decide) ?_
  refine cn_newI hV 40 ca_int dX2_init_7 (by decide) (by decide) (by decide) (by decide) (by decide) (fun q7 => ?_)
  refine cn_put hV hin cf_X2_9 dX2_init_9 0 [(h0, .inr (1, [.ref (q7), .int 0, .int 0, .int 0, .int 0, .int 0, .int 0])), (q7, .inl (cI, 40, .inl (fun _ => (0 : Int32))))] rfl rfl rfl (Nat.le_of_ble_eq_true rfl) rfl ?_
  refine cn_aload_n hV dX2_init_12 rfl ?_
  refine cn_iconst hV (0 : Int32) dX2_init_13 (by decide) ?_
  refine cn_put hV hin cf_X2_15 dX2_init_14 0 [(h0, .inr (1, [.ref (q7), .int (0 : Int32), .int 0, .int 0, .int 0, .int 0, .int 0])), (q7, .inl (cI, 40, .inl (fun _ => (0 : Int32))))] rfl rfl rfl (Nat.le_of_ble_eq_true rfl) rfl ?_
  refine cn_aload_n hV dX2_init_17 rfl ?_
  refine cn_iconst hV (0 : Int32) dX2_init_18 (by decide) ?_
  refine cn_put hV hin cf_X2_19 dX2_init_19 0 [(h0, .inr (1, [.ref (q7), .int (0 : Int32), .int (0 : Int32), .int 0, .int 0, .int 0, .int 0])), (q7, .inl (cI, 40, .inl (fun _ => (0 : Int32))))] rfl rfl rfl (Nat.le_of_ble_eq_true rfl) rfl ?_
  refine cn_aload_n hV dX2_init_22 rfl ?_
  refine cn_iconst hV (0 : Int32) dX2_init_23 (by decide) ?_
  refine cn_put hV hin cf_X2_22 dX2_init_24 0 [(h0, .inr (1, [.ref (q7), .int (0 : Int32), .int (0 : Int32), .int (0 : Int32), .int 0, .int 0, .int 0])), (q7, .inl (cI, 40, .inl (fun _ => (0 : Int32))))] rfl rfl rfl (Nat.le_of_ble_eq_true rfl) rfl ?_
  refine cn_aload_n hV dX2_init_27 rfl ?_
  refine cn_iconst hV (0 : Int32) dX2_init_28 (by decide) ?_
  refine cn_put hV hin cf_X2_25 dX2_init_29 0 [(h0, .inr (1, [.ref (q7), .int (0 : Int32), .int (0 : Int32), .int (0 : Int32), .int (0 : Int32), .int 0, .int 0])), (q7, .inl (cI, 40, .inl (fun _ => (0 : Int32))))] rfl rfl rfl (Nat.le_of_ble_eq_true rfl) rfl ?_
  refine cn_aload_n hV dX2_init_32 rfl ?_
  refine cn_iconst hV (0 : Int32) dX2_init_33 (by decide) ?_
  refine cn_put hV hin cf_X2_28 dX2_init_34 0 [(h0, .inr (1, [.ref (q7), .int (0 : Int32), .int (0 : Int32), .int (0 : Int32), .int (0 : Int32), .int (0 : Int32), .int 0])), (q7, .inl (cI, 40, .inl (fun _ => (0 : Int32))))] rfl rfl rfl (Nat.le_of_ble_eq_true rfl) rfl ?_
  refine cn_aload_n hV dX2_init_37 rfl ?_
  refine cn_iconst hV (0 : Int32) dX2_init_38 (by decide) ?_
  refine cn_put hV hin cf_X2_31 dX2_init_39 0 [(h0, .inr (1, [.ref (q7), .int (0 : Int32), .int (0 : Int32), .int (0 : Int32), .int (0 : Int32), .int (0 : Int32), .int (0 : Int32)])), (q7, .inl (cI, 40, .inl (fun _ => (0 : Int32))))] rfl rfl rfl (Nat.le_of_ble_eq_true rfl) rfl ?_
  exact hend _ _ _ [h0, q7] [0, 1] [(h0, .inr (1, [.ref (q7), .int (0 : Int32), .int (0 : Int32), .int (0 : Int32), .int (0 : Int32), .int (0 : Int32), .int (0 : Int32)])), (q7, .inl (cI, 40, .inl (fun _ => (0 : Int32))))] rfl (by decide) rfl dX2_init_42
def s0_X8 : ax_S := (fun k => if k = 1 then (upd (upd (upd (upd (fun _ => (0 : Int32)) (0 : Int32).toNatClampNeg (-1 : Int32)) (1 : Int32).toNatClampNeg (-1 : Int32)) (2 : Int32).toNatClampNeg (-1 : Int32)) (3 : Int32).toNatClampNeg (-1 : Int32)) else (fun _ => (0 : Int32)), fun _ _ => 0)
def cl_X8 : ax_L := [(0, 7, [3, 4, 5]), (1, 4, []), (1, 4, []), (1, 160, [])]
def mu_X8_init : ax_Mu := (yX8_init, cX8_init, 1, none, 1, 12)
theorem lc_X8_init : Cond.code mu_X8_init.1 mu_X8_init.2.1 mu_X8_init.2.2.1 mu_X8_init.2.2.2.1 ∈ ax_tb := (ax_m2 13 rfl rfl)
def nl_X8 : cn_N := []
theorem cf_X8_9 : cn_F RX8 9 7 0 true (.array .int) := ⟨RX8, TX8, 3, tyX8, rfl, by decide, in2X8, (ax_m2 15 rfl rfl), tyX8_ok, nmX8, rfl, by decide +kernel, fun _ => rfl⟩
theorem cf_X8_15 : cn_F RX8 15 7 1 true (.array .int) := ⟨RX8, TX8, 3, tyX8, rfl, by decide, in2X8, (ax_m2 17 rfl rfl), tyX8_ok, nmX8, rfl, by decide +kernel, fun _ => rfl⟩
theorem cf_X8_18 : cn_F RX8 18 7 2 true (.array .int) := ⟨RX8, TX8, 3, tyX8, rfl, by decide, in2X8, (ax_m2 19 rfl rfl), tyX8_ok, nmX8, rfl, by decide +kernel, fun _ => rfl⟩
set_option maxHeartbeats 4000000 in
set_option maxRecDepth 10000 in
theorem c_X8_init : cn_M mu_X8_init 3 168 nl_X8 7 [.null, .null, .null] cl_X8 s0_X8 := by
  refine cn_enter (by decide +kernel) rfl rfl (by decide) 0 (fun h0 => [some (.ref h0)]) (fun _ => rfl) (fun K D cI cJ cZ h0 sz Q hV hin hnw hlt hend => ?_)
  refine cn_aload_n hV dX8_init_0 rfl ?_
  refine cn_obj hV (ax_m2 14 rfl rfl) cn_o1 cn_o2 rfl dX8_init_1 ?_
  refine cn_aload_n hV dX8_init_4 rfl ?_
  refine cn_iconst hV (4 : Int32) dX8_init_5 (by decide) ?_
  refine cn_newI hV 4 ca_int dX8_init_6 (by decide) (by decide) (by decide) (by decide) (by decide) (fun q6 => ?_)
  refine cn_dup hV dX8_init_8 rfl ?_
  refine cn_iconst hV (0 : Int32) dX8_init_9 (by decide) ?_
  refine cn_iconst hV (-1 : Int32) dX8_init_10 (by decide) ?_
  refine cn_iast hV dX8_init_11 1 [(h0, .inr (7, [.null, .null, .null])), (q6, .inl (cI, 4, .inl (upd (fun _ => (0 : Int32)) (0 : Int32).toNatClampNeg (-1 : Int32))))] rfl (by unfold vp_in; decide) rfl ?_
  refine cn_dup hV dX8_init_12 rfl ?_
  refine cn_iconst hV (1 : Int32) dX8_init_13 (by decide) ?_
  refine cn_iconst hV (-1 : Int32) dX8_init_14 (by decide) ?_
  refine cn_iast hV dX8_init_15 1 [(h0, .inr (7, [.null, .null, .null])), (q6, .inl (cI, 4, .inl (upd (upd (fun _ => (0 : Int32)) (0 : Int32).toNatClampNeg (-1 : Int32)) (1 : Int32).toNatClampNeg (-1 : Int32))))] rfl (by unfold vp_in; decide) rfl ?_
  refine cn_dup hV dX8_init_16 rfl ?_
  refine cn_iconst hV (2 : Int32) dX8_init_17 (by decide) ?_
  refine cn_iconst hV (-1 : Int32) dX8_init_18 (by decide) ?_
  refine cn_iast hV dX8_init_19 1 [(h0, .inr (7, [.null, .null, .null])), (q6, .inl (cI, 4, .inl (upd (upd (upd (fun _ => (0 : Int32)) (0 : Int32).toNatClampNeg (-1 : Int32)) (1 : Int32).toNatClampNeg (-1 : Int32)) (2 : Int32).toNatClampNeg (-1 : Int32))))] rfl (by unfold vp_in; decide) rfl ?_
  refine cn_dup hV dX8_init_20 rfl ?_
  refine cn_iconst hV (3 : Int32) dX8_init_21 (by decide) ?_
  refine cn_iconst hV (-1 : Int32) dX8_init_22 (by decide) ?_
  refine cn_iast hV dX8_init_23 1 [(h0, .inr (7, [.null, .null, .null])), (q6, .inl (cI, 4, .inl (upd (upd (upd (upd (fun _ => (0 : Int32)) (0 : Int32).toNatClampNeg (-1 : Int32)) (1 : Int32).toNatClampNeg (-1 : Int32)) (2 : Int32).toNatClampNeg (-1 : Int32)) (3 : Int32).toNatClampNeg (-1 : Int32))))] rfl (by unfold vp_in; decide) rfl ?_
  refine cn_put hV hin cf_X8_9 dX8_init_24 0 [(h0, .inr (7, [.ref (q6), .null, .null])), (q6, .inl (cI, 4, .inl (upd (upd (upd (upd (fun _ => (0 : Int32)) (0 : Int32).toNatClampNeg (-1 : Int32)) (1 : Int32).toNatClampNeg (-1 : Int32)) (2 : Int32).toNatClampNeg (-1 : Int32)) (3 : Int32).toNatClampNeg (-1 : Int32))))] rfl rfl rfl (Nat.le_of_ble_eq_true rfl) rfl ?_
  refine cn_aload_n hV dX8_init_27 rfl ?_
  refine cn_iconst hV (4 : Int32) dX8_init_28 (by decide) ?_
  refine cn_newI hV 4 ca_int dX8_init_29 (by decide) (by decide) (by decide) (by decide) (by decide) (fun q29 => ?_)
  refine cn_put hV hin cf_X8_15 dX8_init_31 0 [(h0, .inr (7, [.ref (q6), .ref (q29), .null])), (q6, .inl (cI, 4, .inl (upd (upd (upd (upd (fun _ => (0 : Int32)) (0 : Int32).toNatClampNeg (-1 : Int32)) (1 : Int32).toNatClampNeg (-1 : Int32)) (2 : Int32).toNatClampNeg (-1 : Int32)) (3 : Int32).toNatClampNeg (-1 : Int32)))), (q29, .inl (cI, 4, .inl (fun _ => (0 : Int32))))] rfl rfl rfl (Nat.le_of_ble_eq_true rfl) rfl ?_
  refine cn_aload_n hV dX8_init_34 rfl ?_
  refine cn_sipush hV (160 : Int32) dX8_init_35 (by decide) ?_
  refine cn_newI hV 160 ca_int dX8_init_38 (by decide) (by decide) (by decide) (by decide) (by decide) (fun q38 => ?_)
  refine cn_put hV hin cf_X8_18 dX8_init_40 0 [(h0, .inr (7, [.ref (q6), .ref (q29), .ref (q38)])), (q6, .inl (cI, 4, .inl (upd (upd (upd (upd (fun _ => (0 : Int32)) (0 : Int32).toNatClampNeg (-1 : Int32)) (1 : Int32).toNatClampNeg (-1 : Int32)) (2 : Int32).toNatClampNeg (-1 : Int32)) (3 : Int32).toNatClampNeg (-1 : Int32)))), (q29, .inl (cI, 4, .inl (fun _ => (0 : Int32)))), (q38, .inl (cI, 160, .inl (fun _ => (0 : Int32))))] rfl rfl rfl (Nat.le_of_ble_eq_true rfl) rfl ?_
  exact hend _ _ _ [h0, q6, q29, q38] [0, 1, 2, 3] [(h0, .inr (7, [.ref (q6), .ref (q29), .ref (q38)])), (q6, .inl (cI, 4, .inl (upd (upd (upd (upd (fun _ => (0 : Int32)) (0 : Int32).toNatClampNeg (-1 : Int32)) (1 : Int32).toNatClampNeg (-1 : Int32)) (2 : Int32).toNatClampNeg (-1 : Int32)) (3 : Int32).toNatClampNeg (-1 : Int32)))), (q29, .inl (cI, 4, .inl (fun _ => (0 : Int32)))), (q38, .inl (cI, 160, .inl (fun _ => (0 : Int32))))] rfl (by decide) rfl dX8_init_43
def s0_X9 : ax_S := (fun k => if k = 37 then (upd (upd (upd (upd (fun _ => (0 : Int32)) (0 : Int32).toNatClampNeg (-1 : Int32)) (1 : Int32).toNatClampNeg (-1 : Int32)) (2 : Int32).toNatClampNeg (-1 : Int32)) (3 : Int32).toNatClampNeg (-1 : Int32)) else if k = 0 then (fun j => if j = 9 then (-1 : Int32) else 0) else (fun _ => (0 : Int32)), fun _ _ => 0)
def mu_X9_init : ax_Mu := (yX9_init, cX9_init, 1, none, 3, 52)
theorem lc_X9_init : Cond.code mu_X9_init.1 mu_X9_init.2.1 mu_X9_init.2.2.1 mu_X9_init.2.2.2.1 ∈ ax_tb := (ax_m1 21 rfl rfl)
def nl_X9 : cn_N := [(RX9, 9, yX6_init, "WhenItWas"), (RX6, 11, yX7_init, "WhenItWas"), (RX6, 20, yX0_init, "WhenItWas"), (RX9, 28, yX3_init, "WhenItWas"), (RX9, 35, yX5_init, "WhenItWas"), (RX9, 42, yX4_init, "WhenItWas"), (RX9, 49, yX2_init, "WhenItWas"), (RX9, 56, yX8_init, "WhenItWas")]
theorem cf_X9_10 : cn_F RX9 10 8 0 true (.object "WhenItWas$Net") := ⟨RX9, TX9, 12, tyX9, rfl, by decide, in2X9, (ax_m2 27 rfl rfl), tyX9_ok, nmX9, rfl, by decide +kernel, fun _ => rfl⟩
theorem cf_X9_20 : cn_F RX9 20 8 1 true (.object "WhenItWas$Books") := ⟨RX9, TX9, 12, tyX9, rfl, by decide, in2X9, (ax_m2 28 rfl rfl), tyX9_ok, nmX9, rfl, by decide +kernel, fun _ => rfl⟩
theorem cf_X9_25 : cn_F RX9 25 8 2 true (.object "WhenItWas$Rows") := ⟨RX9, TX9, 12, tyX9, rfl, by decide, in2X9, (ax_m2 29 rfl rfl), tyX9_ok, nmX9, rfl, by decide +kernel, fun _ => rfl⟩
theorem cf_X9_29 : cn_F RX9 29 8 3 true (.object "WhenItWas$Doubt") := ⟨RX9, TX9, 12, tyX9, rfl, by decide, in2X9, (ax_m2 30 rfl rfl), tyX9_ok, nmX9, rfl, by decide +kernel, fun _ => rfl⟩
theorem cf_X9_36 : cn_F RX9 36 8 4 true (.object "WhenItWas$Lines") := ⟨RX9, TX9, 12, tyX9, rfl, by decide, in2X9, (ax_m2 31 rfl rfl), tyX9_ok, nmX9, rfl, by decide +kernel, fun _ => rfl⟩
theorem cf_X9_43 : cn_F RX9 43 8 5 true (.object "WhenItWas$Kin") := ⟨RX9, TX9, 12, tyX9, rfl, by decide, in2X9, (ax_m2 32 rfl rfl), tyX9_ok, nmX9, rfl, by decide +kernel, fun _ => rfl⟩
theorem cf_X9_50 : cn_F RX9 50 8 6 true (.object "WhenItWas$Dates") := ⟨RX9, TX9, 12, tyX9, rfl, by decide, in2X9, (ax_m2 33 rfl rfl), tyX9_ok, nmX9, rfl, by decide +kernel, fun _ => rfl⟩
theorem cf_X9_57 : cn_F RX9 57 8 7 true (.object "WhenItWas$Sheets") := ⟨RX9, TX9, 12, tyX9, rfl, by decide, in2X9, (ax_m2 34 rfl rfl), tyX9_ok, nmX9, rfl, by decide +kernel, fun _ => rfl⟩
theorem cf_X9_61 : cn_F RX9 61 8 8 false (.int) := ⟨RX9, TX9, 12, tyX9, rfl, by decide, in2X9, (ax_m2 35 rfl rfl), tyX9_ok, nmX9, rfl, by decide +kernel, fun _ => rfl⟩
theorem cf_X9_65 : cn_F RX9 65 8 9 false (.int) := ⟨RX9, TX9, 12, tyX9, rfl, by decide, in2X9, (ax_m2 36 rfl rfl), tyX9_ok, nmX9, rfl, by decide +kernel, fun _ => rfl⟩
theorem cf_X9_68 : cn_F RX9 68 8 10 false (.int) := ⟨RX9, TX9, 12, tyX9, rfl, by decide, in2X9, (ax_m2 37 rfl rfl), tyX9_ok, nmX9, rfl, by decide +kernel, fun _ => rfl⟩
theorem cf_X9_71 : cn_F RX9 71 8 11 false (.int) := ⟨RX9, TX9, 12, tyX9, rfl, by decide, in2X9, (ax_m2 38 rfl rfl), tyX9_ok, nmX9, rfl, by decide +kernel, fun _ => rfl⟩
set_option maxHeartbeats 4000000 in
set_option maxRecDepth 10000 in
theorem c_X9_init : cn_M mu_X9_init 39 9235 nl_X9 8 [.null, .null, .null, .null, .null, .null, .null, .null, .int 0, .int 0, .int 0, .int 0] cx_C.1 s0_X9 := by
  refine cn_enter (by decide +kernel) rfl rfl (by decide) 0 (fun h0 => [some (.ref h0)]) (fun _ => rfl) (fun K D cI cJ cZ h0 sz Q hV hin hnw hlt hend => ?_)
  refine cn_aload_n hV dX9_init_0 rfl ?_
  refine cn_obj hV (ax_m1 22 rfl rfl) cn_o1 cn_o2 rfl dX9_init_1 ?_
  refine cn_aload_n hV dX9_init_4 rfl ?_
  refine cn_new hV (ci := 5) dX9_init_5 rfl in2X6 tyX6 tyX6_ok (ax_m1 25 rfl rfl) (ax_m1 26 rfl rfl) (ax_m1 2 rfl rfl) [.null, .null, .null, .null, .null, .null, .int 0, .null, .null, .null, .null, .null, .null] (fun j hj => by rcases (show j = 0 ∨ j = 1 ∨ j = 2 ∨ j = 3 ∨ j = 4 ∨ j = 5 ∨ j = 6 ∨ j = 7 ∨ j = 8 ∨ j = 9 ∨ j = 10 ∨ j = 11 ∨ j = 12 by omega) with rfl | rfl | rfl | rfl | rfl | rfl | rfl | rfl | rfl | rfl | rfl | rfl | rfl <;> rfl) (by decide) (by decide) (fun q5 => ?_)
  refine cn_dup hV dX9_init_8 rfl ?_
  refine cn_callN (host := "WhenItWas") hV c_X6_init hnw (by decide +kernel) (by decide +kernel) (ax_m1 28 rfl rfl) (ax_m1 2 rfl rfl) lc_X6_init rfl ⟨by decide +kernel, by decide +kernel, by decide +kernel⟩ rfl rfl (by decide) (by decide) dX9_init_9 rfl (fun ad9 h9 => ?_)
  subst h9
  refine cn_put hV hin cf_X9_10 dX9_init_12 0 [(h0, .inr (8, [.ref ((ad9 0)), .null, .null, .null, .null, .null, .null, .null, .int 0, .int 0, .int 0, .int 0])), ((ad9 0), .inr (5, [.ref (ad9 1), .ref (ad9 2), .ref (ad9 3), .ref (ad9 4), .ref (ad9 5), .ref (ad9 6), .int 0, .ref (ad9 7), .ref (ad9 8), .ref (ad9 9), .ref (ad9 10), .ref (ad9 11), .ref (ad9 12)])), ((ad9 1), .inr (6, [.ref (ad9 13), .ref (ad9 14), .ref (ad9 15), .ref (ad9 16), .ref (ad9 17), .ref (ad9 18), .ref (ad9 19), .int 0])), ((ad9 2), .inr (0, [.ref (ad9 20), .ref (ad9 21), .ref (ad9 22), .int 0])), ((ad9 3), .inl (cI, 40, .inl (fun _ => (0 : Int32)))), ((ad9 4), .inl (cI, 40, .inl (fun _ => (0 : Int32)))), ((ad9 5), .inl (cI, 40, .inl (fun _ => (0 : Int32)))), ((ad9 6), .inl (cI, 40, .inl (fun _ => (0 : Int32)))), ((ad9 7), .inl (cI, 18, .inl (fun _ => (0 : Int32)))), ((ad9 8), .inl (cI, 18, .inl (fun _ => (0 : Int32)))), ((ad9 9), .inl (cI, 18, .inl (fun _ => (0 : Int32)))), ((ad9 10), .inl (cI, 18, .inl (fun _ => (0 : Int32)))), ((ad9 11), .inl (cI, 18, .inl (fun _ => (0 : Int32)))), ((ad9 12), .inl (cI, 18, .inl (fun _ => (0 : Int32)))), ((ad9 13), .inl (cI, 40, .inl (fun _ => (0 : Int32)))), ((ad9 14), .inl (cI, 40, .inl (fun _ => (0 : Int32)))), ((ad9 15), .inl (cI, 40, .inl (fun _ => (0 : Int32)))), ((ad9 16), .inl (cI, 40, .inl (fun _ => (0 : Int32)))), ((ad9 17), .inl (cI, 40, .inl (fun _ => (0 : Int32)))), ((ad9 18), .inl (cI, 40, .inl (fun _ => (0 : Int32)))), ((ad9 19), .inl (cI, 40, .inl (fun _ => (0 : Int32)))), ((ad9 20), .inl (cI, 6, .inl (fun _ => (0 : Int32)))), ((ad9 21), .inl (cI, 6, .inl (fun _ => (0 : Int32)))), ((ad9 22), .inl (cI, 6, .inl (fun _ => (0 : Int32))))] rfl rfl rfl (Nat.le_of_ble_eq_true rfl) rfl ?_
  refine cn_aload_n hV dX9_init_15 rfl ?_
  refine cn_aload_n hV dX9_init_16 rfl ?_
  refine cn_get hV lf_X9_10 dX9_init_17 0 rfl rfl ?_
  refine cn_get hV lf_X9_16 dX9_init_20 1 rfl rfl ?_
  refine cn_put hV hin cf_X9_20 dX9_init_23 0 [(h0, .inr (8, [.ref ((ad9 0)), .ref (ad9 2), .null, .null, .null, .null, .null, .null, .int 0, .int 0, .int 0, .int 0])), ((ad9 0), .inr (5, [.ref (ad9 1), .ref (ad9 2), .ref (ad9 3), .ref (ad9 4), .ref (ad9 5), .ref (ad9 6), .int 0, .ref (ad9 7), .ref (ad9 8), .ref (ad9 9), .ref (ad9 10), .ref (ad9 11), .ref (ad9 12)])), ((ad9 1), .inr (6, [.ref (ad9 13), .ref (ad9 14), .ref (ad9 15), .ref (ad9 16), .ref (ad9 17), .ref (ad9 18), .ref (ad9 19), .int 0])), ((ad9 2), .inr (0, [.ref (ad9 20), .ref (ad9 21), .ref (ad9 22), .int 0])), ((ad9 3), .inl (cI, 40, .inl (fun _ => (0 : Int32)))), ((ad9 4), .inl (cI, 40, .inl (fun _ => (0 : Int32)))), ((ad9 5), .inl (cI, 40, .inl (fun _ => (0 : Int32)))), ((ad9 6), .inl (cI, 40, .inl (fun _ => (0 : Int32)))), ((ad9 7), .inl (cI, 18, .inl (fun _ => (0 : Int32)))), ((ad9 8), .inl (cI, 18, .inl (fun _ => (0 : Int32)))), ((ad9 9), .inl (cI, 18, .inl (fun _ => (0 : Int32)))), ((ad9 10), .inl (cI, 18, .inl (fun _ => (0 : Int32)))), ((ad9 11), .inl (cI, 18, .inl (fun _ => (0 : Int32)))), ((ad9 12), .inl (cI, 18, .inl (fun _ => (0 : Int32)))), ((ad9 13), .inl (cI, 40, .inl (fun _ => (0 : Int32)))), ((ad9 14), .inl (cI, 40, .inl (fun _ => (0 : Int32)))), ((ad9 15), .inl (cI, 40, .inl (fun _ => (0 : Int32)))), ((ad9 16), .inl (cI, 40, .inl (fun _ => (0 : Int32)))), ((ad9 17), .inl (cI, 40, .inl (fun _ => (0 : Int32)))), ((ad9 18), .inl (cI, 40, .inl (fun _ => (0 : Int32)))), ((ad9 19), .inl (cI, 40, .inl (fun _ => (0 : Int32)))), ((ad9 20), .inl (cI, 6, .inl (fun _ => (0 : Int32)))), ((ad9 21), .inl (cI, 6, .inl (fun _ => (0 : Int32)))), ((ad9 22), .inl (cI, 6, .inl (fun _ => (0 : Int32))))] rfl rfl rfl (Nat.le_of_ble_eq_true rfl) rfl ?_
  refine cn_aload_n hV dX9_init_26 rfl ?_
  refine cn_aload_n hV dX9_init_27 rfl ?_
  refine cn_get hV lf_X9_10 dX9_init_28 0 rfl rfl ?_
  refine cn_get hV lf_X9_21 dX9_init_31 1 rfl rfl ?_
  refine cn_put hV hin cf_X9_25 dX9_init_34 0 [(h0, .inr (8, [.ref ((ad9 0)), .ref (ad9 2), .ref (ad9 1), .null, .null, .null, .null, .null, .int 0, .int 0, .int 0, .int 0])), ((ad9 0), .inr (5, [.ref (ad9 1), .ref (ad9 2), .ref (ad9 3), .ref (ad9 4), .ref (ad9 5), .ref (ad9 6), .int 0, .ref (ad9 7), .ref (ad9 8), .ref (ad9 9), .ref (ad9 10), .ref (ad9 11), .ref (ad9 12)])), ((ad9 1), .inr (6, [.ref (ad9 13), .ref (ad9 14), .ref (ad9 15), .ref (ad9 16), .ref (ad9 17), .ref (ad9 18), .ref (ad9 19), .int 0])), ((ad9 2), .inr (0, [.ref (ad9 20), .ref (ad9 21), .ref (ad9 22), .int 0])), ((ad9 3), .inl (cI, 40, .inl (fun _ => (0 : Int32)))), ((ad9 4), .inl (cI, 40, .inl (fun _ => (0 : Int32)))), ((ad9 5), .inl (cI, 40, .inl (fun _ => (0 : Int32)))), ((ad9 6), .inl (cI, 40, .inl (fun _ => (0 : Int32)))), ((ad9 7), .inl (cI, 18, .inl (fun _ => (0 : Int32)))), ((ad9 8), .inl (cI, 18, .inl (fun _ => (0 : Int32)))), ((ad9 9), .inl (cI, 18, .inl (fun _ => (0 : Int32)))), ((ad9 10), .inl (cI, 18, .inl (fun _ => (0 : Int32)))), ((ad9 11), .inl (cI, 18, .inl (fun _ => (0 : Int32)))), ((ad9 12), .inl (cI, 18, .inl (fun _ => (0 : Int32)))), ((ad9 13), .inl (cI, 40, .inl (fun _ => (0 : Int32)))), ((ad9 14), .inl (cI, 40, .inl (fun _ => (0 : Int32)))), ((ad9 15), .inl (cI, 40, .inl (fun _ => (0 : Int32)))), ((ad9 16), .inl (cI, 40, .inl (fun _ => (0 : Int32)))), ((ad9 17), .inl (cI, 40, .inl (fun _ => (0 : Int32)))), ((ad9 18), .inl (cI, 40, .inl (fun _ => (0 : Int32)))), ((ad9 19), .inl (cI, 40, .inl (fun _ => (0 : Int32)))), ((ad9 20), .inl (cI, 6, .inl (fun _ => (0 : Int32)))), ((ad9 21), .inl (cI, 6, .inl (fun _ => (0 : Int32)))), ((ad9 22), .inl (cI, 6, .inl (fun _ => (0 : Int32))))] rfl rfl rfl (Nat.le_of_ble_eq_true rfl) rfl ?_
  refine cn_aload_n hV dX9_init_37 rfl ?_
  refine cn_new hV (ci := 2) dX9_init_38 rfl in2X3 tyX3 tyX3_ok (ax_m1 149 rfl rfl) (ax_m1 150 rfl rfl) (ax_m1 5 rfl rfl) [.null, .int 0, .null, .long 0, .int 0] (fun j hj => by rcases (show j = 0 ∨ j = 1 ∨ j = 2 ∨ j = 3 ∨ j = 4 by omega) with rfl | rfl | rfl | rfl | rfl <;> rfl) (by decide) (by decide) (fun q38 => ?_)
  refine cn_dup hV dX9_init_41 rfl ?_
  refine cn_callN (host := "WhenItWas") hV c_X3_init hnw (by decide +kernel) (by decide +kernel) (ax_m1 152 rfl rfl) (ax_m1 5 rfl rfl) lc_X3_init rfl ⟨by decide +kernel, by decide +kernel, by decide +kernel⟩ rfl rfl (by decide) (by decide) dX9_init_42 rfl (fun ad42 h42 => ?_)
  subst h42
  refine cn_put hV hin cf_X9_29 dX9_init_45 0 [(h0, .inr (8, [.ref ((ad9 0)), .ref (ad9 2), .ref (ad9 1), .ref ((ad42 0)), .null, .null, .null, .null, .int 0, .int 0, .int 0, .int 0])), ((ad9 0), .inr (5, [.ref (ad9 1), .ref (ad9 2), .ref (ad9 3), .ref (ad9 4), .ref (ad9 5), .ref (ad9 6), .int 0, .ref (ad9 7), .ref (ad9 8), .ref (ad9 9), .ref (ad9 10), .ref (ad9 11), .ref (ad9 12)])), ((ad9 1), .inr (6, [.ref (ad9 13), .ref (ad9 14), .ref (ad9 15), .ref (ad9 16), .ref (ad9 17), .ref (ad9 18), .ref (ad9 19), .int 0])), ((ad9 2), .inr (0, [.ref (ad9 20), .ref (ad9 21), .ref (ad9 22), .int 0])), ((ad9 3), .inl (cI, 40, .inl (fun _ => (0 : Int32)))), ((ad9 4), .inl (cI, 40, .inl (fun _ => (0 : Int32)))), ((ad9 5), .inl (cI, 40, .inl (fun _ => (0 : Int32)))), ((ad9 6), .inl (cI, 40, .inl (fun _ => (0 : Int32)))), ((ad9 7), .inl (cI, 18, .inl (fun _ => (0 : Int32)))), ((ad9 8), .inl (cI, 18, .inl (fun _ => (0 : Int32)))), ((ad9 9), .inl (cI, 18, .inl (fun _ => (0 : Int32)))), ((ad9 10), .inl (cI, 18, .inl (fun _ => (0 : Int32)))), ((ad9 11), .inl (cI, 18, .inl (fun _ => (0 : Int32)))), ((ad9 12), .inl (cI, 18, .inl (fun _ => (0 : Int32)))), ((ad9 13), .inl (cI, 40, .inl (fun _ => (0 : Int32)))), ((ad9 14), .inl (cI, 40, .inl (fun _ => (0 : Int32)))), ((ad9 15), .inl (cI, 40, .inl (fun _ => (0 : Int32)))), ((ad9 16), .inl (cI, 40, .inl (fun _ => (0 : Int32)))), ((ad9 17), .inl (cI, 40, .inl (fun _ => (0 : Int32)))), ((ad9 18), .inl (cI, 40, .inl (fun _ => (0 : Int32)))), ((ad9 19), .inl (cI, 40, .inl (fun _ => (0 : Int32)))), ((ad9 20), .inl (cI, 6, .inl (fun _ => (0 : Int32)))), ((ad9 21), .inl (cI, 6, .inl (fun _ => (0 : Int32)))), ((ad9 22), .inl (cI, 6, .inl (fun _ => (0 : Int32)))), ((ad42 0), .inr (2, [.ref (ad42 1), .int 0, .ref (ad42 2), .long 0, .int 0])), ((ad42 1), .inl (cI, 12, .inl (fun _ => (0 : Int32)))), ((ad42 2), .inl (cI, 40, .inl (fun _ => (0 : Int32))))] rfl rfl rfl (Nat.le_of_ble_eq_true rfl) rfl ?_
  refine cn_aload_n hV dX9_init_48 rfl ?_
  refine cn_new hV (ci := 4) dX9_init_49 rfl in2X5 tyX5 tyX5_ok (ax_m1 173 rfl rfl) (ax_m1 174 rfl rfl) (ax_m1 6 rfl rfl) [.null, .null, .null, .null, .int 0] (fun j hj => by rcases (show j = 0 ∨ j = 1 ∨ j = 2 ∨ j = 3 ∨ j = 4 by omega) with rfl | rfl | rfl | rfl | rfl <;> rfl) (by decide) (by decide) (fun q49 => ?_)
  refine cn_dup hV dX9_init_52 rfl ?_
  refine cn_callN (host := "WhenItWas") hV c_X5_init hnw (by decide +kernel) (by decide +kernel) (ax_m1 176 rfl rfl) (ax_m1 6 rfl rfl) lc_X5_init rfl ⟨by decide +kernel, by decide +kernel, by decide +kernel⟩ rfl rfl (by decide) (by decide) dX9_init_53 rfl (fun ad53 h53 => ?_)
  subst h53
  refine cn_put hV hin cf_X9_36 dX9_init_56 0 [(h0, .inr (8, [.ref ((ad9 0)), .ref (ad9 2), .ref (ad9 1), .ref ((ad42 0)), .ref ((ad53 0)), .null, .null, .null, .int 0, .int 0, .int 0, .int 0])), ((ad9 0), .inr (5, [.ref (ad9 1), .ref (ad9 2), .ref (ad9 3), .ref (ad9 4), .ref (ad9 5), .ref (ad9 6), .int 0, .ref (ad9 7), .ref (ad9 8), .ref (ad9 9), .ref (ad9 10), .ref (ad9 11), .ref (ad9 12)])), ((ad9 1), .inr (6, [.ref (ad9 13), .ref (ad9 14), .ref (ad9 15), .ref (ad9 16), .ref (ad9 17), .ref (ad9 18), .ref (ad9 19), .int 0])), ((ad9 2), .inr (0, [.ref (ad9 20), .ref (ad9 21), .ref (ad9 22), .int 0])), ((ad9 3), .inl (cI, 40, .inl (fun _ => (0 : Int32)))), ((ad9 4), .inl (cI, 40, .inl (fun _ => (0 : Int32)))), ((ad9 5), .inl (cI, 40, .inl (fun _ => (0 : Int32)))), ((ad9 6), .inl (cI, 40, .inl (fun _ => (0 : Int32)))), ((ad9 7), .inl (cI, 18, .inl (fun _ => (0 : Int32)))), ((ad9 8), .inl (cI, 18, .inl (fun _ => (0 : Int32)))), ((ad9 9), .inl (cI, 18, .inl (fun _ => (0 : Int32)))), ((ad9 10), .inl (cI, 18, .inl (fun _ => (0 : Int32)))), ((ad9 11), .inl (cI, 18, .inl (fun _ => (0 : Int32)))), ((ad9 12), .inl (cI, 18, .inl (fun _ => (0 : Int32)))), ((ad9 13), .inl (cI, 40, .inl (fun _ => (0 : Int32)))), ((ad9 14), .inl (cI, 40, .inl (fun _ => (0 : Int32)))), ((ad9 15), .inl (cI, 40, .inl (fun _ => (0 : Int32)))), ((ad9 16), .inl (cI, 40, .inl (fun _ => (0 : Int32)))), ((ad9 17), .inl (cI, 40, .inl (fun _ => (0 : Int32)))), ((ad9 18), .inl (cI, 40, .inl (fun _ => (0 : Int32)))), ((ad9 19), .inl (cI, 40, .inl (fun _ => (0 : Int32)))), ((ad9 20), .inl (cI, 6, .inl (fun _ => (0 : Int32)))), ((ad9 21), .inl (cI, 6, .inl (fun _ => (0 : Int32)))), ((ad9 22), .inl (cI, 6, .inl (fun _ => (0 : Int32)))), ((ad42 0), .inr (2, [.ref (ad42 1), .int 0, .ref (ad42 2), .long 0, .int 0])), ((ad42 1), .inl (cI, 12, .inl (fun _ => (0 : Int32)))), ((ad42 2), .inl (cI, 40, .inl (fun _ => (0 : Int32)))), ((ad53 0), .inr (4, [.ref (ad53 1), .ref (ad53 2), .ref (ad53 3), .ref (ad53 4), .int 0])), ((ad53 1), .inl (cI, 12, .inl (fun _ => (0 : Int32)))), ((ad53 2), .inl (cI, 4096, .inl (fun _ => (0 : Int32)))), ((ad53 3), .inl (cI, 4096, .inl (fun _ => (0 : Int32)))), ((ad53 4), .inl (cI, 144, .inl (fun _ => (0 : Int32))))] rfl rfl rfl (Nat.le_of_ble_eq_true rfl) rfl ?_
  refine cn_aload_n hV dX9_init_59 rfl ?_
  refine cn_new hV (ci := 3) dX9_init_60 rfl in2X4 tyX4 tyX4_ok (ax_m1 196 rfl rfl) (ax_m1 197 rfl rfl) (ax_m1 7 rfl rfl) [.null, .int 0, .int 0, .int 0] (fun j hj => by rcases (show j = 0 ∨ j = 1 ∨ j = 2 ∨ j = 3 by omega) with rfl | rfl | rfl | rfl <;> rfl) (by decide) (by decide) (fun q60 => ?_)
  refine cn_dup hV dX9_init_63 rfl ?_
  refine cn_callN (host := "WhenItWas") hV c_X4_init hnw (by decide +kernel) (by decide +kernel) (ax_m1 199 rfl rfl) (ax_m1 7 rfl rfl) lc_X4_init rfl ⟨by decide +kernel, by decide +kernel, by decide +kernel⟩ rfl rfl (by decide) (by decide) dX9_init_64 rfl (fun ad64 h64 => ?_)
  subst h64
  refine cn_put hV hin cf_X9_43 dX9_init_67 0 [(h0, .inr (8, [.ref ((ad9 0)), .ref (ad9 2), .ref (ad9 1), .ref ((ad42 0)), .ref ((ad53 0)), .ref ((ad64 0)), .null, .null, .int 0, .int 0, .int 0, .int 0])), ((ad9 0), .inr (5, [.ref (ad9 1), .ref (ad9 2), .ref (ad9 3), .ref (ad9 4), .ref (ad9 5), .ref (ad9 6), .int 0, .ref (ad9 7), .ref (ad9 8), .ref (ad9 9), .ref (ad9 10), .ref (ad9 11), .ref (ad9 12)])), ((ad9 1), .inr (6, [.ref (ad9 13), .ref (ad9 14), .ref (ad9 15), .ref (ad9 16), .ref (ad9 17), .ref (ad9 18), .ref (ad9 19), .int 0])), ((ad9 2), .inr (0, [.ref (ad9 20), .ref (ad9 21), .ref (ad9 22), .int 0])), ((ad9 3), .inl (cI, 40, .inl (fun _ => (0 : Int32)))), ((ad9 4), .inl (cI, 40, .inl (fun _ => (0 : Int32)))), ((ad9 5), .inl (cI, 40, .inl (fun _ => (0 : Int32)))), ((ad9 6), .inl (cI, 40, .inl (fun _ => (0 : Int32)))), ((ad9 7), .inl (cI, 18, .inl (fun _ => (0 : Int32)))), ((ad9 8), .inl (cI, 18, .inl (fun _ => (0 : Int32)))), ((ad9 9), .inl (cI, 18, .inl (fun _ => (0 : Int32)))), ((ad9 10), .inl (cI, 18, .inl (fun _ => (0 : Int32)))), ((ad9 11), .inl (cI, 18, .inl (fun _ => (0 : Int32)))), ((ad9 12), .inl (cI, 18, .inl (fun _ => (0 : Int32)))), ((ad9 13), .inl (cI, 40, .inl (fun _ => (0 : Int32)))), ((ad9 14), .inl (cI, 40, .inl (fun _ => (0 : Int32)))), ((ad9 15), .inl (cI, 40, .inl (fun _ => (0 : Int32)))), ((ad9 16), .inl (cI, 40, .inl (fun _ => (0 : Int32)))), ((ad9 17), .inl (cI, 40, .inl (fun _ => (0 : Int32)))), ((ad9 18), .inl (cI, 40, .inl (fun _ => (0 : Int32)))), ((ad9 19), .inl (cI, 40, .inl (fun _ => (0 : Int32)))), ((ad9 20), .inl (cI, 6, .inl (fun _ => (0 : Int32)))), ((ad9 21), .inl (cI, 6, .inl (fun _ => (0 : Int32)))), ((ad9 22), .inl (cI, 6, .inl (fun _ => (0 : Int32)))), ((ad42 0), .inr (2, [.ref (ad42 1), .int 0, .ref (ad42 2), .long 0, .int 0])), ((ad42 1), .inl (cI, 12, .inl (fun _ => (0 : Int32)))), ((ad42 2), .inl (cI, 40, .inl (fun _ => (0 : Int32)))), ((ad53 0), .inr (4, [.ref (ad53 1), .ref (ad53 2), .ref (ad53 3), .ref (ad53 4), .int 0])), ((ad53 1), .inl (cI, 12, .inl (fun _ => (0 : Int32)))), ((ad53 2), .inl (cI, 4096, .inl (fun _ => (0 : Int32)))), ((ad53 3), .inl (cI, 4096, .inl (fun _ => (0 : Int32)))), ((ad53 4), .inl (cI, 144, .inl (fun _ => (0 : Int32)))), ((ad64 0), .inr (3, [.ref (ad64 1), .int 0, .int 0, .int 0])), ((ad64 1), .inl (cI, 12, .inl (fun _ => (0 : Int32))))] rfl rfl rfl (Nat.le_of_ble_eq_true rfl) rfl ?_
  refine cn_aload_n hV dX9_init_70 rfl ?_
  refine cn_new hV (ci := 1) dX9_init_71 rfl in2X2 tyX2 tyX2_ok (ax_m1 218 rfl rfl) (ax_m1 219 rfl rfl) (ax_m1 8 rfl rfl) [.null, .int 0, .int 0, .int 0, .int 0, .int 0, .int 0] (fun j hj => by rcases (show j = 0 ∨ j = 1 ∨ j = 2 ∨ j = 3 ∨ j = 4 ∨ j = 5 ∨ j = 6 by omega) with rfl | rfl | rfl | rfl | rfl | rfl | rfl <;> rfl) (by decide) (by decide) (fun q71 => ?_)
  refine cn_dup hV dX9_init_74 rfl ?_
  refine cn_callN (host := "WhenItWas") hV c_X2_init hnw (by decide +kernel) (by decide +kernel) (ax_m1 221 rfl rfl) (ax_m1 8 rfl rfl) lc_X2_init rfl ⟨by decide +kernel, by decide +kernel, by decide +kernel⟩ rfl rfl (by decide) (by decide) dX9_init_75 rfl (fun ad75 h75 => ?_)
  subst h75
  refine cn_put hV hin cf_X9_50 dX9_init_78 0 [(h0, .inr (8, [.ref ((ad9 0)), .ref (ad9 2), .ref (ad9 1), .ref ((ad42 0)), .ref ((ad53 0)), .ref ((ad64 0)), .ref ((ad75 0)), .null, .int 0, .int 0, .int 0, .int 0])), ((ad9 0), .inr (5, [.ref (ad9 1), .ref (ad9 2), .ref (ad9 3), .ref (ad9 4), .ref (ad9 5), .ref (ad9 6), .int 0, .ref (ad9 7), .ref (ad9 8), .ref (ad9 9), .ref (ad9 10), .ref (ad9 11), .ref (ad9 12)])), ((ad9 1), .inr (6, [.ref (ad9 13), .ref (ad9 14), .ref (ad9 15), .ref (ad9 16), .ref (ad9 17), .ref (ad9 18), .ref (ad9 19), .int 0])), ((ad9 2), .inr (0, [.ref (ad9 20), .ref (ad9 21), .ref (ad9 22), .int 0])), ((ad9 3), .inl (cI, 40, .inl (fun _ => (0 : Int32)))), ((ad9 4), .inl (cI, 40, .inl (fun _ => (0 : Int32)))), ((ad9 5), .inl (cI, 40, .inl (fun _ => (0 : Int32)))), ((ad9 6), .inl (cI, 40, .inl (fun _ => (0 : Int32)))), ((ad9 7), .inl (cI, 18, .inl (fun _ => (0 : Int32)))), ((ad9 8), .inl (cI, 18, .inl (fun _ => (0 : Int32)))), ((ad9 9), .inl (cI, 18, .inl (fun _ => (0 : Int32)))), ((ad9 10), .inl (cI, 18, .inl (fun _ => (0 : Int32)))), ((ad9 11), .inl (cI, 18, .inl (fun _ => (0 : Int32)))), ((ad9 12), .inl (cI, 18, .inl (fun _ => (0 : Int32)))), ((ad9 13), .inl (cI, 40, .inl (fun _ => (0 : Int32)))), ((ad9 14), .inl (cI, 40, .inl (fun _ => (0 : Int32)))), ((ad9 15), .inl (cI, 40, .inl (fun _ => (0 : Int32)))), ((ad9 16), .inl (cI, 40, .inl (fun _ => (0 : Int32)))), ((ad9 17), .inl (cI, 40, .inl (fun _ => (0 : Int32)))), ((ad9 18), .inl (cI, 40, .inl (fun _ => (0 : Int32)))), ((ad9 19), .inl (cI, 40, .inl (fun _ => (0 : Int32)))), ((ad9 20), .inl (cI, 6, .inl (fun _ => (0 : Int32)))), ((ad9 21), .inl (cI, 6, .inl (fun _ => (0 : Int32)))), ((ad9 22), .inl (cI, 6, .inl (fun _ => (0 : Int32)))), ((ad42 0), .inr (2, [.ref (ad42 1), .int 0, .ref (ad42 2), .long 0, .int 0])), ((ad42 1), .inl (cI, 12, .inl (fun _ => (0 : Int32)))), ((ad42 2), .inl (cI, 40, .inl (fun _ => (0 : Int32)))), ((ad53 0), .inr (4, [.ref (ad53 1), .ref (ad53 2), .ref (ad53 3), .ref (ad53 4), .int 0])), ((ad53 1), .inl (cI, 12, .inl (fun _ => (0 : Int32)))), ((ad53 2), .inl (cI, 4096, .inl (fun _ => (0 : Int32)))), ((ad53 3), .inl (cI, 4096, .inl (fun _ => (0 : Int32)))), ((ad53 4), .inl (cI, 144, .inl (fun _ => (0 : Int32)))), ((ad64 0), .inr (3, [.ref (ad64 1), .int 0, .int 0, .int 0])), ((ad64 1), .inl (cI, 12, .inl (fun _ => (0 : Int32)))), ((ad75 0), .inr (1, [.ref (ad75 1), .int 0, .int 0, .int 0, .int 0, .int 0, .int 0])), ((ad75 1), .inl (cI, 40, .inl (fun _ => (0 : Int32))))] rfl rfl rfl (Nat.le_of_ble_eq_true rfl) rfl ?_
  refine cn_aload_n hV dX9_init_81 rfl ?_
  refine cn_new hV (ci := 7) dX9_init_82 rfl in2X8 tyX8 tyX8_ok (ax_m2 9 rfl rfl) (ax_m2 10 rfl rfl) (ax_m1 9 rfl rfl) [.null, .null, .null] (fun j hj => by rcases (show j = 0 ∨ j = 1 ∨ j = 2 by omega) with rfl | rfl | rfl <;> rfl) (by decide) (by decide) (fun q82 => ?_)
  refine cn_dup hV dX9_init_85 rfl ?_
  refine cn_callN (host := "WhenItWas") hV c_X8_init hnw (by decide +kernel) (by decide +kernel) (ax_m2 12 rfl rfl) (ax_m1 9 rfl rfl) lc_X8_init rfl ⟨by decide +kernel, by decide +kernel, by decide +kernel⟩ rfl rfl (by decide) (by decide) dX9_init_86 rfl (fun ad86 h86 => ?_)
  subst h86
  refine cn_put hV hin cf_X9_57 dX9_init_89 0 [(h0, .inr (8, [.ref ((ad9 0)), .ref (ad9 2), .ref (ad9 1), .ref ((ad42 0)), .ref ((ad53 0)), .ref ((ad64 0)), .ref ((ad75 0)), .ref ((ad86 0)), .int 0, .int 0, .int 0, .int 0])), ((ad9 0), .inr (5, [.ref (ad9 1), .ref (ad9 2), .ref (ad9 3), .ref (ad9 4), .ref (ad9 5), .ref (ad9 6), .int 0, .ref (ad9 7), .ref (ad9 8), .ref (ad9 9), .ref (ad9 10), .ref (ad9 11), .ref (ad9 12)])), ((ad9 1), .inr (6, [.ref (ad9 13), .ref (ad9 14), .ref (ad9 15), .ref (ad9 16), .ref (ad9 17), .ref (ad9 18), .ref (ad9 19), .int 0])), ((ad9 2), .inr (0, [.ref (ad9 20), .ref (ad9 21), .ref (ad9 22), .int 0])), ((ad9 3), .inl (cI, 40, .inl (fun _ => (0 : Int32)))), ((ad9 4), .inl (cI, 40, .inl (fun _ => (0 : Int32)))), ((ad9 5), .inl (cI, 40, .inl (fun _ => (0 : Int32)))), ((ad9 6), .inl (cI, 40, .inl (fun _ => (0 : Int32)))), ((ad9 7), .inl (cI, 18, .inl (fun _ => (0 : Int32)))), ((ad9 8), .inl (cI, 18, .inl (fun _ => (0 : Int32)))), ((ad9 9), .inl (cI, 18, .inl (fun _ => (0 : Int32)))), ((ad9 10), .inl (cI, 18, .inl (fun _ => (0 : Int32)))), ((ad9 11), .inl (cI, 18, .inl (fun _ => (0 : Int32)))), ((ad9 12), .inl (cI, 18, .inl (fun _ => (0 : Int32)))), ((ad9 13), .inl (cI, 40, .inl (fun _ => (0 : Int32)))), ((ad9 14), .inl (cI, 40, .inl (fun _ => (0 : Int32)))), ((ad9 15), .inl (cI, 40, .inl (fun _ => (0 : Int32)))), ((ad9 16), .inl (cI, 40, .inl (fun _ => (0 : Int32)))), ((ad9 17), .inl (cI, 40, .inl (fun _ => (0 : Int32)))), ((ad9 18), .inl (cI, 40, .inl (fun _ => (0 : Int32)))), ((ad9 19), .inl (cI, 40, .inl (fun _ => (0 : Int32)))), ((ad9 20), .inl (cI, 6, .inl (fun _ => (0 : Int32)))), ((ad9 21), .inl (cI, 6, .inl (fun _ => (0 : Int32)))), ((ad9 22), .inl (cI, 6, .inl (fun _ => (0 : Int32)))), ((ad42 0), .inr (2, [.ref (ad42 1), .int 0, .ref (ad42 2), .long 0, .int 0])), ((ad42 1), .inl (cI, 12, .inl (fun _ => (0 : Int32)))), ((ad42 2), .inl (cI, 40, .inl (fun _ => (0 : Int32)))), ((ad53 0), .inr (4, [.ref (ad53 1), .ref (ad53 2), .ref (ad53 3), .ref (ad53 4), .int 0])), ((ad53 1), .inl (cI, 12, .inl (fun _ => (0 : Int32)))), ((ad53 2), .inl (cI, 4096, .inl (fun _ => (0 : Int32)))), ((ad53 3), .inl (cI, 4096, .inl (fun _ => (0 : Int32)))), ((ad53 4), .inl (cI, 144, .inl (fun _ => (0 : Int32)))), ((ad64 0), .inr (3, [.ref (ad64 1), .int 0, .int 0, .int 0])), ((ad64 1), .inl (cI, 12, .inl (fun _ => (0 : Int32)))), ((ad75 0), .inr (1, [.ref (ad75 1), .int 0, .int 0, .int 0, .int 0, .int 0, .int 0])), ((ad75 1), .inl (cI, 40, .inl (fun _ => (0 : Int32)))), ((ad86 0), .inr (7, [.ref (ad86 1), .ref (ad86 2), .ref (ad86 3)])), ((ad86 1), .inl (cI, 4, .inl (upd (upd (upd (upd (fun _ => (0 : Int32)) (0 : Int32).toNatClampNeg (-1 : Int32)) (1 : Int32).toNatClampNeg (-1 : Int32)) (2 : Int32).toNatClampNeg (-1 : Int32)) (3 : Int32).toNatClampNeg (-1 : Int32)))), ((ad86 2), .inl (cI, 4, .inl (fun _ => (0 : Int32)))), ((ad86 3), .inl (cI, 160, .inl (fun _ => (0 : Int32))))] rfl rfl rfl (Nat.le_of_ble_eq_true rfl) rfl ?_
  refine cn_aload_n hV dX9_init_92 rfl ?_
  refine cn_iconst hV (0 : Int32) dX9_init_93 (by decide) ?_
  refine cn_put hV hin cf_X9_61 dX9_init_94 0 [(h0, .inr (8, [.ref ((ad9 0)), .ref (ad9 2), .ref (ad9 1), .ref ((ad42 0)), .ref ((ad53 0)), .ref ((ad64 0)), .ref ((ad75 0)), .ref ((ad86 0)), .int (0 : Int32), .int 0, .int 0, .int 0])), ((ad9 0), .inr (5, [.ref (ad9 1), .ref (ad9 2), .ref (ad9 3), .ref (ad9 4), .ref (ad9 5), .ref (ad9 6), .int 0, .ref (ad9 7), .ref (ad9 8), .ref (ad9 9), .ref (ad9 10), .ref (ad9 11), .ref (ad9 12)])), ((ad9 1), .inr (6, [.ref (ad9 13), .ref (ad9 14), .ref (ad9 15), .ref (ad9 16), .ref (ad9 17), .ref (ad9 18), .ref (ad9 19), .int 0])), ((ad9 2), .inr (0, [.ref (ad9 20), .ref (ad9 21), .ref (ad9 22), .int 0])), ((ad9 3), .inl (cI, 40, .inl (fun _ => (0 : Int32)))), ((ad9 4), .inl (cI, 40, .inl (fun _ => (0 : Int32)))), ((ad9 5), .inl (cI, 40, .inl (fun _ => (0 : Int32)))), ((ad9 6), .inl (cI, 40, .inl (fun _ => (0 : Int32)))), ((ad9 7), .inl (cI, 18, .inl (fun _ => (0 : Int32)))), ((ad9 8), .inl (cI, 18, .inl (fun _ => (0 : Int32)))), ((ad9 9), .inl (cI, 18, .inl (fun _ => (0 : Int32)))), ((ad9 10), .inl (cI, 18, .inl (fun _ => (0 : Int32)))), ((ad9 11), .inl (cI, 18, .inl (fun _ => (0 : Int32)))), ((ad9 12), .inl (cI, 18, .inl (fun _ => (0 : Int32)))), ((ad9 13), .inl (cI, 40, .inl (fun _ => (0 : Int32)))), ((ad9 14), .inl (cI, 40, .inl (fun _ => (0 : Int32)))), ((ad9 15), .inl (cI, 40, .inl (fun _ => (0 : Int32)))), ((ad9 16), .inl (cI, 40, .inl (fun _ => (0 : Int32)))), ((ad9 17), .inl (cI, 40, .inl (fun _ => (0 : Int32)))), ((ad9 18), .inl (cI, 40, .inl (fun _ => (0 : Int32)))), ((ad9 19), .inl (cI, 40, .inl (fun _ => (0 : Int32)))), ((ad9 20), .inl (cI, 6, .inl (fun _ => (0 : Int32)))), ((ad9 21), .inl (cI, 6, .inl (fun _ => (0 : Int32)))), ((ad9 22), .inl (cI, 6, .inl (fun _ => (0 : Int32)))), ((ad42 0), .inr (2, [.ref (ad42 1), .int 0, .ref (ad42 2), .long 0, .int 0])), ((ad42 1), .inl (cI, 12, .inl (fun _ => (0 : Int32)))), ((ad42 2), .inl (cI, 40, .inl (fun _ => (0 : Int32)))), ((ad53 0), .inr (4, [.ref (ad53 1), .ref (ad53 2), .ref (ad53 3), .ref (ad53 4), .int 0])), ((ad53 1), .inl (cI, 12, .inl (fun _ => (0 : Int32)))), ((ad53 2), .inl (cI, 4096, .inl (fun _ => (0 : Int32)))), ((ad53 3), .inl (cI, 4096, .inl (fun _ => (0 : Int32)))), ((ad53 4), .inl (cI, 144, .inl (fun _ => (0 : Int32)))), ((ad64 0), .inr (3, [.ref (ad64 1), .int 0, .int 0, .int 0])), ((ad64 1), .inl (cI, 12, .inl (fun _ => (0 : Int32)))), ((ad75 0), .inr (1, [.ref (ad75 1), .int 0, .int 0, .int 0, .int 0, .int 0, .int 0])), ((ad75 1), .inl (cI, 40, .inl (fun _ => (0 : Int32)))), ((ad86 0), .inr (7, [.ref (ad86 1), .ref (ad86 2), .ref (ad86 3)])), ((ad86 1), .inl (cI, 4, .inl (upd (upd (upd (upd (fun _ => (0 : Int32)) (0 : Int32).toNatClampNeg (-1 : Int32)) (1 : Int32).toNatClampNeg (-1 : Int32)) (2 : Int32).toNatClampNeg (-1 : Int32)) (3 : Int32).toNatClampNeg (-1 : Int32)))), ((ad86 2), .inl (cI, 4, .inl (fun _ => (0 : Int32)))), ((ad86 3), .inl (cI, 160, .inl (fun _ => (0 : Int32))))] rfl rfl rfl (Nat.le_of_ble_eq_true rfl) rfl ?_
  refine cn_aload_n hV dX9_init_97 rfl ?_
  refine cn_iconst hV (-1 : Int32) dX9_init_98 (by decide) ?_
  refine cn_put hV hin cf_X9_65 dX9_init_99 0 [(h0, .inr (8, [.ref ((ad9 0)), .ref (ad9 2), .ref (ad9 1), .ref ((ad42 0)), .ref ((ad53 0)), .ref ((ad64 0)), .ref ((ad75 0)), .ref ((ad86 0)), .int (0 : Int32), .int (-1 : Int32), .int 0, .int 0])), ((ad9 0), .inr (5, [.ref (ad9 1), .ref (ad9 2), .ref (ad9 3), .ref (ad9 4), .ref (ad9 5), .ref (ad9 6), .int 0, .ref (ad9 7), .ref (ad9 8), .ref (ad9 9), .ref (ad9 10), .ref (ad9 11), .ref (ad9 12)])), ((ad9 1), .inr (6, [.ref (ad9 13), .ref (ad9 14), .ref (ad9 15), .ref (ad9 16), .ref (ad9 17), .ref (ad9 18), .ref (ad9 19), .int 0])), ((ad9 2), .inr (0, [.ref (ad9 20), .ref (ad9 21), .ref (ad9 22), .int 0])), ((ad9 3), .inl (cI, 40, .inl (fun _ => (0 : Int32)))), ((ad9 4), .inl (cI, 40, .inl (fun _ => (0 : Int32)))), ((ad9 5), .inl (cI, 40, .inl (fun _ => (0 : Int32)))), ((ad9 6), .inl (cI, 40, .inl (fun _ => (0 : Int32)))), ((ad9 7), .inl (cI, 18, .inl (fun _ => (0 : Int32)))), ((ad9 8), .inl (cI, 18, .inl (fun _ => (0 : Int32)))), ((ad9 9), .inl (cI, 18, .inl (fun _ => (0 : Int32)))), ((ad9 10), .inl (cI, 18, .inl (fun _ => (0 : Int32)))), ((ad9 11), .inl (cI, 18, .inl (fun _ => (0 : Int32)))), ((ad9 12), .inl (cI, 18, .inl (fun _ => (0 : Int32)))), ((ad9 13), .inl (cI, 40, .inl (fun _ => (0 : Int32)))), ((ad9 14), .inl (cI, 40, .inl (fun _ => (0 : Int32)))), ((ad9 15), .inl (cI, 40, .inl (fun _ => (0 : Int32)))), ((ad9 16), .inl (cI, 40, .inl (fun _ => (0 : Int32)))), ((ad9 17), .inl (cI, 40, .inl (fun _ => (0 : Int32)))), ((ad9 18), .inl (cI, 40, .inl (fun _ => (0 : Int32)))), ((ad9 19), .inl (cI, 40, .inl (fun _ => (0 : Int32)))), ((ad9 20), .inl (cI, 6, .inl (fun _ => (0 : Int32)))), ((ad9 21), .inl (cI, 6, .inl (fun _ => (0 : Int32)))), ((ad9 22), .inl (cI, 6, .inl (fun _ => (0 : Int32)))), ((ad42 0), .inr (2, [.ref (ad42 1), .int 0, .ref (ad42 2), .long 0, .int 0])), ((ad42 1), .inl (cI, 12, .inl (fun _ => (0 : Int32)))), ((ad42 2), .inl (cI, 40, .inl (fun _ => (0 : Int32)))), ((ad53 0), .inr (4, [.ref (ad53 1), .ref (ad53 2), .ref (ad53 3), .ref (ad53 4), .int 0])), ((ad53 1), .inl (cI, 12, .inl (fun _ => (0 : Int32)))), ((ad53 2), .inl (cI, 4096, .inl (fun _ => (0 : Int32)))), ((ad53 3), .inl (cI, 4096, .inl (fun _ => (0 : Int32)))), ((ad53 4), .inl (cI, 144, .inl (fun _ => (0 : Int32)))), ((ad64 0), .inr (3, [.ref (ad64 1), .int 0, .int 0, .int 0])), ((ad64 1), .inl (cI, 12, .inl (fun _ => (0 : Int32)))), ((ad75 0), .inr (1, [.ref (ad75 1), .int 0, .int 0, .int 0, .int 0, .int 0, .int 0])), ((ad75 1), .inl (cI, 40, .inl (fun _ => (0 : Int32)))), ((ad86 0), .inr (7, [.ref (ad86 1), .ref (ad86 2), .ref (ad86 3)])), ((ad86 1), .inl (cI, 4, .inl (upd (upd (upd (upd (fun _ => (0 : Int32)) (0 : Int32).toNatClampNeg (-1 : Int32)) (1 : Int32).toNatClampNeg (-1 : Int32)) (2 : Int32).toNatClampNeg (-1 : Int32)) (3 : Int32).toNatClampNeg (-1 : Int32)))), ((ad86 2), .inl (cI, 4, .inl (fun _ => (0 : Int32)))), ((ad86 3), .inl (cI, 160, .inl (fun _ => (0 : Int32))))] rfl rfl rfl (Nat.le_of_ble_eq_true rfl) rfl ?_
  refine cn_aload_n hV dX9_init_102 rfl ?_
  refine cn_iconst hV (0 : Int32) dX9_init_103 (by decide) ?_
  refine cn_put hV hin cf_X9_68 dX9_init_104 0 [(h0, .inr (8, [.ref ((ad9 0)), .ref (ad9 2), .ref (ad9 1), .ref ((ad42 0)), .ref ((ad53 0)), .ref ((ad64 0)), .ref ((ad75 0)), .ref ((ad86 0)), .int (0 : Int32), .int (-1 : Int32), .int (0 : Int32), .int 0])), ((ad9 0), .inr (5, [.ref (ad9 1), .ref (ad9 2), .ref (ad9 3), .ref (ad9 4), .ref (ad9 5), .ref (ad9 6), .int 0, .ref (ad9 7), .ref (ad9 8), .ref (ad9 9), .ref (ad9 10), .ref (ad9 11), .ref (ad9 12)])), ((ad9 1), .inr (6, [.ref (ad9 13), .ref (ad9 14), .ref (ad9 15), .ref (ad9 16), .ref (ad9 17), .ref (ad9 18), .ref (ad9 19), .int 0])), ((ad9 2), .inr (0, [.ref (ad9 20), .ref (ad9 21), .ref (ad9 22), .int 0])), ((ad9 3), .inl (cI, 40, .inl (fun _ => (0 : Int32)))), ((ad9 4), .inl (cI, 40, .inl (fun _ => (0 : Int32)))), ((ad9 5), .inl (cI, 40, .inl (fun _ => (0 : Int32)))), ((ad9 6), .inl (cI, 40, .inl (fun _ => (0 : Int32)))), ((ad9 7), .inl (cI, 18, .inl (fun _ => (0 : Int32)))), ((ad9 8), .inl (cI, 18, .inl (fun _ => (0 : Int32)))), ((ad9 9), .inl (cI, 18, .inl (fun _ => (0 : Int32)))), ((ad9 10), .inl (cI, 18, .inl (fun _ => (0 : Int32)))), ((ad9 11), .inl (cI, 18, .inl (fun _ => (0 : Int32)))), ((ad9 12), .inl (cI, 18, .inl (fun _ => (0 : Int32)))), ((ad9 13), .inl (cI, 40, .inl (fun _ => (0 : Int32)))), ((ad9 14), .inl (cI, 40, .inl (fun _ => (0 : Int32)))), ((ad9 15), .inl (cI, 40, .inl (fun _ => (0 : Int32)))), ((ad9 16), .inl (cI, 40, .inl (fun _ => (0 : Int32)))), ((ad9 17), .inl (cI, 40, .inl (fun _ => (0 : Int32)))), ((ad9 18), .inl (cI, 40, .inl (fun _ => (0 : Int32)))), ((ad9 19), .inl (cI, 40, .inl (fun _ => (0 : Int32)))), ((ad9 20), .inl (cI, 6, .inl (fun _ => (0 : Int32)))), ((ad9 21), .inl (cI, 6, .inl (fun _ => (0 : Int32)))), ((ad9 22), .inl (cI, 6, .inl (fun _ => (0 : Int32)))), ((ad42 0), .inr (2, [.ref (ad42 1), .int 0, .ref (ad42 2), .long 0, .int 0])), ((ad42 1), .inl (cI, 12, .inl (fun _ => (0 : Int32)))), ((ad42 2), .inl (cI, 40, .inl (fun _ => (0 : Int32)))), ((ad53 0), .inr (4, [.ref (ad53 1), .ref (ad53 2), .ref (ad53 3), .ref (ad53 4), .int 0])), ((ad53 1), .inl (cI, 12, .inl (fun _ => (0 : Int32)))), ((ad53 2), .inl (cI, 4096, .inl (fun _ => (0 : Int32)))), ((ad53 3), .inl (cI, 4096, .inl (fun _ => (0 : Int32)))), ((ad53 4), .inl (cI, 144, .inl (fun _ => (0 : Int32)))), ((ad64 0), .inr (3, [.ref (ad64 1), .int 0, .int 0, .int 0])), ((ad64 1), .inl (cI, 12, .inl (fun _ => (0 : Int32)))), ((ad75 0), .inr (1, [.ref (ad75 1), .int 0, .int 0, .int 0, .int 0, .int 0, .int 0])), ((ad75 1), .inl (cI, 40, .inl (fun _ => (0 : Int32)))), ((ad86 0), .inr (7, [.ref (ad86 1), .ref (ad86 2), .ref (ad86 3)])), ((ad86 1), .inl (cI, 4, .inl (upd (upd (upd (upd (fun _ => (0 : Int32)) (0 : Int32).toNatClampNeg (-1 : Int32)) (1 : Int32).toNatClampNeg (-1 : Int32)) (2 : Int32).toNatClampNeg (-1 : Int32)) (3 : Int32).toNatClampNeg (-1 : Int32)))), ((ad86 2), .inl (cI, 4, .inl (fun _ => (0 : Int32)))), ((ad86 3), .inl (cI, 160, .inl (fun _ => (0 : Int32))))] rfl rfl rfl (Nat.le_of_ble_eq_true rfl) rfl ?_
  refine cn_aload_n hV dX9_init_107 rfl ?_
  refine cn_iconst hV (0 : Int32) dX9_init_108 (by decide) ?_
  refine cn_put hV hin cf_X9_71 dX9_init_109 0 [(h0, .inr (8, [.ref ((ad9 0)), .ref (ad9 2), .ref (ad9 1), .ref ((ad42 0)), .ref ((ad53 0)), .ref ((ad64 0)), .ref ((ad75 0)), .ref ((ad86 0)), .int (0 : Int32), .int (-1 : Int32), .int (0 : Int32), .int (0 : Int32)])), ((ad9 0), .inr (5, [.ref (ad9 1), .ref (ad9 2), .ref (ad9 3), .ref (ad9 4), .ref (ad9 5), .ref (ad9 6), .int 0, .ref (ad9 7), .ref (ad9 8), .ref (ad9 9), .ref (ad9 10), .ref (ad9 11), .ref (ad9 12)])), ((ad9 1), .inr (6, [.ref (ad9 13), .ref (ad9 14), .ref (ad9 15), .ref (ad9 16), .ref (ad9 17), .ref (ad9 18), .ref (ad9 19), .int 0])), ((ad9 2), .inr (0, [.ref (ad9 20), .ref (ad9 21), .ref (ad9 22), .int 0])), ((ad9 3), .inl (cI, 40, .inl (fun _ => (0 : Int32)))), ((ad9 4), .inl (cI, 40, .inl (fun _ => (0 : Int32)))), ((ad9 5), .inl (cI, 40, .inl (fun _ => (0 : Int32)))), ((ad9 6), .inl (cI, 40, .inl (fun _ => (0 : Int32)))), ((ad9 7), .inl (cI, 18, .inl (fun _ => (0 : Int32)))), ((ad9 8), .inl (cI, 18, .inl (fun _ => (0 : Int32)))), ((ad9 9), .inl (cI, 18, .inl (fun _ => (0 : Int32)))), ((ad9 10), .inl (cI, 18, .inl (fun _ => (0 : Int32)))), ((ad9 11), .inl (cI, 18, .inl (fun _ => (0 : Int32)))), ((ad9 12), .inl (cI, 18, .inl (fun _ => (0 : Int32)))), ((ad9 13), .inl (cI, 40, .inl (fun _ => (0 : Int32)))), ((ad9 14), .inl (cI, 40, .inl (fun _ => (0 : Int32)))), ((ad9 15), .inl (cI, 40, .inl (fun _ => (0 : Int32)))), ((ad9 16), .inl (cI, 40, .inl (fun _ => (0 : Int32)))), ((ad9 17), .inl (cI, 40, .inl (fun _ => (0 : Int32)))), ((ad9 18), .inl (cI, 40, .inl (fun _ => (0 : Int32)))), ((ad9 19), .inl (cI, 40, .inl (fun _ => (0 : Int32)))), ((ad9 20), .inl (cI, 6, .inl (fun _ => (0 : Int32)))), ((ad9 21), .inl (cI, 6, .inl (fun _ => (0 : Int32)))), ((ad9 22), .inl (cI, 6, .inl (fun _ => (0 : Int32)))), ((ad42 0), .inr (2, [.ref (ad42 1), .int 0, .ref (ad42 2), .long 0, .int 0])), ((ad42 1), .inl (cI, 12, .inl (fun _ => (0 : Int32)))), ((ad42 2), .inl (cI, 40, .inl (fun _ => (0 : Int32)))), ((ad53 0), .inr (4, [.ref (ad53 1), .ref (ad53 2), .ref (ad53 3), .ref (ad53 4), .int 0])), ((ad53 1), .inl (cI, 12, .inl (fun _ => (0 : Int32)))), ((ad53 2), .inl (cI, 4096, .inl (fun _ => (0 : Int32)))), ((ad53 3), .inl (cI, 4096, .inl (fun _ => (0 : Int32)))), ((ad53 4), .inl (cI, 144, .inl (fun _ => (0 : Int32)))), ((ad64 0), .inr (3, [.ref (ad64 1), .int 0, .int 0, .int 0])), ((ad64 1), .inl (cI, 12, .inl (fun _ => (0 : Int32)))), ((ad75 0), .inr (1, [.ref (ad75 1), .int 0, .int 0, .int 0, .int 0, .int 0, .int 0])), ((ad75 1), .inl (cI, 40, .inl (fun _ => (0 : Int32)))), ((ad86 0), .inr (7, [.ref (ad86 1), .ref (ad86 2), .ref (ad86 3)])), ((ad86 1), .inl (cI, 4, .inl (upd (upd (upd (upd (fun _ => (0 : Int32)) (0 : Int32).toNatClampNeg (-1 : Int32)) (1 : Int32).toNatClampNeg (-1 : Int32)) (2 : Int32).toNatClampNeg (-1 : Int32)) (3 : Int32).toNatClampNeg (-1 : Int32)))), ((ad86 2), .inl (cI, 4, .inl (fun _ => (0 : Int32)))), ((ad86 3), .inl (cI, 160, .inl (fun _ => (0 : Int32))))] rfl rfl rfl (Nat.le_of_ble_eq_true rfl) rfl ?_
  exact hend _ _ _ [h0, (ad9 0), (ad9 1), (ad9 2), (ad42 0), (ad53 0), (ad64 0), (ad75 0), (ad86 0), (ad9 3), (ad9 4), (ad9 5), (ad9 6), (ad9 7), (ad9 8), (ad9 9), (ad9 10), (ad9 11), (ad9 12), (ad9 13), (ad9 14), (ad9 15), (ad9 16), (ad9 17), (ad9 18), (ad9 19), (ad9 20), (ad9 21), (ad9 22), (ad42 1), (ad42 2), (ad53 1), (ad53 2), (ad53 3), (ad53 4), (ad64 1), (ad75 1), (ad86 1), (ad86 2), (ad86 3)] [0, 1, 2, 3, 24, 27, 32, 34, 36, 4, 5, 6, 7, 8, 9, 10, 11, 12, 13, 14, 15, 16, 17, 18, 19, 20, 21, 22, 23, 25, 26, 28, 29, 30, 31, 33, 35, 37, 38, 39] [(h0, .inr (8, [.ref ((ad9 0)), .ref (ad9 2), .ref (ad9 1), .ref ((ad42 0)), .ref ((ad53 0)), .ref ((ad64 0)), .ref ((ad75 0)), .ref ((ad86 0)), .int (0 : Int32), .int (-1 : Int32), .int (0 : Int32), .int (0 : Int32)])), ((ad9 0), .inr (5, [.ref (ad9 1), .ref (ad9 2), .ref (ad9 3), .ref (ad9 4), .ref (ad9 5), .ref (ad9 6), .int 0, .ref (ad9 7), .ref (ad9 8), .ref (ad9 9), .ref (ad9 10), .ref (ad9 11), .ref (ad9 12)])), ((ad9 1), .inr (6, [.ref (ad9 13), .ref (ad9 14), .ref (ad9 15), .ref (ad9 16), .ref (ad9 17), .ref (ad9 18), .ref (ad9 19), .int 0])), ((ad9 2), .inr (0, [.ref (ad9 20), .ref (ad9 21), .ref (ad9 22), .int 0])), ((ad9 3), .inl (cI, 40, .inl (fun _ => (0 : Int32)))), ((ad9 4), .inl (cI, 40, .inl (fun _ => (0 : Int32)))), ((ad9 5), .inl (cI, 40, .inl (fun _ => (0 : Int32)))), ((ad9 6), .inl (cI, 40, .inl (fun _ => (0 : Int32)))), ((ad9 7), .inl (cI, 18, .inl (fun _ => (0 : Int32)))), ((ad9 8), .inl (cI, 18, .inl (fun _ => (0 : Int32)))), ((ad9 9), .inl (cI, 18, .inl (fun _ => (0 : Int32)))), ((ad9 10), .inl (cI, 18, .inl (fun _ => (0 : Int32)))), ((ad9 11), .inl (cI, 18, .inl (fun _ => (0 : Int32)))), ((ad9 12), .inl (cI, 18, .inl (fun _ => (0 : Int32)))), ((ad9 13), .inl (cI, 40, .inl (fun _ => (0 : Int32)))), ((ad9 14), .inl (cI, 40, .inl (fun _ => (0 : Int32)))), ((ad9 15), .inl (cI, 40, .inl (fun _ => (0 : Int32)))), ((ad9 16), .inl (cI, 40, .inl (fun _ => (0 : Int32)))), ((ad9 17), .inl (cI, 40, .inl (fun _ => (0 : Int32)))), ((ad9 18), .inl (cI, 40, .inl (fun _ => (0 : Int32)))), ((ad9 19), .inl (cI, 40, .inl (fun _ => (0 : Int32)))), ((ad9 20), .inl (cI, 6, .inl (fun _ => (0 : Int32)))), ((ad9 21), .inl (cI, 6, .inl (fun _ => (0 : Int32)))), ((ad9 22), .inl (cI, 6, .inl (fun _ => (0 : Int32)))), ((ad42 0), .inr (2, [.ref (ad42 1), .int 0, .ref (ad42 2), .long 0, .int 0])), ((ad42 1), .inl (cI, 12, .inl (fun _ => (0 : Int32)))), ((ad42 2), .inl (cI, 40, .inl (fun _ => (0 : Int32)))), ((ad53 0), .inr (4, [.ref (ad53 1), .ref (ad53 2), .ref (ad53 3), .ref (ad53 4), .int 0])), ((ad53 1), .inl (cI, 12, .inl (fun _ => (0 : Int32)))), ((ad53 2), .inl (cI, 4096, .inl (fun _ => (0 : Int32)))), ((ad53 3), .inl (cI, 4096, .inl (fun _ => (0 : Int32)))), ((ad53 4), .inl (cI, 144, .inl (fun _ => (0 : Int32)))), ((ad64 0), .inr (3, [.ref (ad64 1), .int 0, .int 0, .int 0])), ((ad64 1), .inl (cI, 12, .inl (fun _ => (0 : Int32)))), ((ad75 0), .inr (1, [.ref (ad75 1), .int 0, .int 0, .int 0, .int 0, .int 0, .int 0])), ((ad75 1), .inl (cI, 40, .inl (fun _ => (0 : Int32)))), ((ad86 0), .inr (7, [.ref (ad86 1), .ref (ad86 2), .ref (ad86 3)])), ((ad86 1), .inl (cI, 4, .inl (upd (upd (upd (upd (fun _ => (0 : Int32)) (0 : Int32).toNatClampNeg (-1 : Int32)) (1 : Int32).toNatClampNeg (-1 : Int32)) (2 : Int32).toNatClampNeg (-1 : Int32)) (3 : Int32).toNatClampNeg (-1 : Int32)))), ((ad86 2), .inl (cI, 4, .inl (fun _ => (0 : Int32)))), ((ad86 3), .inl (cI, 160, .inl (fun _ => (0 : Int32))))] rfl (by decide) rfl dX9_init_112
def s0_X10 : ax_S := (fun k => if k = 0 then (fun j => if j = 14 then (-1 : Int32) else 0) else (fun _ => (0 : Int32)), fun _ _ => 0)
def mu_X10_init : ax_Mu := (yX10_init, cX10_init, 1, none, 1, 12)
theorem lc_X10_init : Cond.code mu_X10_init.1 mu_X10_init.2.1 mu_X10_init.2.2.1 mu_X10_init.2.2.2.1 ∈ ax_tb := (ax_m4 167 rfl rfl)
def nl_X10 : cn_N := []
theorem cf_X10_9 : cn_F RX10 9 9 3 true (.array .int) := ⟨RX10, TX10, 42, tyX10, rfl, by decide, in2X10, (ax_m4 172 rfl rfl), tyX10_ok, nmX10, rfl, by decide +kernel, fun _ => rfl⟩
theorem cf_X10_13 : cn_F RX10 13 9 4 true (.array .int) := ⟨RX10, TX10, 42, tyX10, rfl, by decide, in2X10, (ax_m4 173 rfl rfl), tyX10_ok, nmX10, rfl, by decide +kernel, fun _ => rfl⟩
theorem cf_X10_16 : cn_F RX10 16 9 5 true (.array .int) := ⟨RX10, TX10, 42, tyX10, rfl, by decide, in2X10, (ax_m4 174 rfl rfl), tyX10_ok, nmX10, rfl, by decide +kernel, fun _ => rfl⟩
theorem cf_X10_19 : cn_F RX10 19 9 7 true (.array .int) := ⟨RX10, TX10, 42, tyX10, rfl, by decide, in2X10, (ax_m4 176 rfl rfl), tyX10_ok, nmX10, rfl, by decide +kernel, fun _ => rfl⟩
theorem cf_X10_22 : cn_F RX10 22 9 8 true (.array .int) := ⟨RX10, TX10, 42, tyX10, rfl, by decide, in2X10, (ax_m4 177 rfl rfl), tyX10_ok, nmX10, rfl, by decide +kernel, fun _ => rfl⟩
theorem cf_X10_25 : cn_F RX10 25 9 9 true (.array .int) := ⟨RX10, TX10, 42, tyX10, rfl, by decide, in2X10, (ax_m4 178 rfl rfl), tyX10_ok, nmX10, rfl, by decide +kernel, fun _ => rfl⟩
theorem cf_X10_28 : cn_F RX10 28 9 10 true (.array .int) := ⟨RX10, TX10, 42, tyX10, rfl, by decide, in2X10, (ax_m4 179 rfl rfl), tyX10_ok, nmX10, rfl, by decide +kernel, fun _ => rfl⟩
theorem cf_X10_31 : cn_F RX10 31 9 11 true (.array .int) := ⟨RX10, TX10, 42, tyX10, rfl, by decide, in2X10, (ax_m4 180 rfl rfl), tyX10_ok, nmX10, rfl, by decide +kernel, fun _ => rfl⟩
theorem cf_X10_34 : cn_F RX10 34 9 12 true (.array .int) := ⟨RX10, TX10, 42, tyX10, rfl, by decide, in2X10, (ax_m4 181 rfl rfl), tyX10_ok, nmX10, rfl, by decide +kernel, fun _ => rfl⟩
theorem cf_X10_37 : cn_F RX10 37 9 13 true (.array .int) := ⟨RX10, TX10, 42, tyX10, rfl, by decide, in2X10, (ax_m4 182 rfl rfl), tyX10_ok, nmX10, rfl, by decide +kernel, fun _ => rfl⟩
theorem cf_X10_40 : cn_F RX10 40 9 14 false (.int) := ⟨RX10, TX10, 42, tyX10, rfl, by decide, in2X10, (ax_m4 183 rfl rfl), tyX10_ok, nmX10, rfl, by decide +kernel, fun _ => rfl⟩
theorem cf_X10_44 : cn_F RX10 44 9 15 true (.array .int) := ⟨RX10, TX10, 42, tyX10, rfl, by decide, in2X10, (ax_m4 184 rfl rfl), tyX10_ok, nmX10, rfl, by decide +kernel, fun _ => rfl⟩
theorem cf_X10_47 : cn_F RX10 47 9 16 true (.array .int) := ⟨RX10, TX10, 42, tyX10, rfl, by decide, in2X10, (ax_m4 185 rfl rfl), tyX10_ok, nmX10, rfl, by decide +kernel, fun _ => rfl⟩
theorem cf_X10_50 : cn_F RX10 50 9 17 true (.array .int) := ⟨RX10, TX10, 42, tyX10, rfl, by decide, in2X10, (ax_m4 186 rfl rfl), tyX10_ok, nmX10, rfl, by decide +kernel, fun _ => rfl⟩
theorem cf_X10_53 : cn_F RX10 53 9 21 true (.array .int) := ⟨RX10, TX10, 42, tyX10, rfl, by decide, in2X10, (ax_m4 190 rfl rfl), tyX10_ok, nmX10, rfl, by decide +kernel, fun _ => rfl⟩
theorem cf_X10_56 : cn_F RX10 56 9 22 true (.array .int) := ⟨RX10, TX10, 42, tyX10, rfl, by decide, in2X10, (ax_m4 191 rfl rfl), tyX10_ok, nmX10, rfl, by decide +kernel, fun _ => rfl⟩
theorem cf_X10_59 : cn_F RX10 59 9 23 true (.array .int) := ⟨RX10, TX10, 42, tyX10, rfl, by decide, in2X10, (ax_m4 192 rfl rfl), tyX10_ok, nmX10, rfl, by decide +kernel, fun _ => rfl⟩
theorem cf_X10_62 : cn_F RX10 62 9 24 true (.array .int) := ⟨RX10, TX10, 42, tyX10, rfl, by decide, in2X10, (ax_m4 193 rfl rfl), tyX10_ok, nmX10, rfl, by decide +kernel, fun _ => rfl⟩
theorem cf_X10_65 : cn_F RX10 65 9 26 true (.array .int) := ⟨RX10, TX10, 42, tyX10, rfl, by decide, in2X10, (ax_m4 195 rfl rfl), tyX10_ok, nmX10, rfl, by decide +kernel, fun _ => rfl⟩
theorem cf_X10_68 : cn_F RX10 68 9 28 true (.array .int) := ⟨RX10, TX10, 42, tyX10, rfl, by decide, in2X10, (ax_m4 197 rfl rfl), tyX10_ok, nmX10, rfl, by decide +kernel, fun _ => rfl⟩
theorem cf_X10_71 : cn_F RX10 71 9 29 true (.array .long) := ⟨RX10, TX10, 42, tyX10, rfl, by decide, in2X10, (ax_m4 198 rfl rfl), tyX10_ok, nmX10, rfl, by decide +kernel, fun _ => rfl⟩
theorem cf_X10_75 : cn_F RX10 75 9 31 true (.array .int) := ⟨RX10, TX10, 42, tyX10, rfl, by decide, in2X10, (ax_m4 200 rfl rfl), tyX10_ok, nmX10, rfl, by decide +kernel, fun _ => rfl⟩
theorem cf_X10_78 : cn_F RX10 78 9 36 true (.array .boolean) := ⟨RX10, TX10, 42, tyX10, rfl, by decide, in2X10, (ax_m4 205 rfl rfl), tyX10_ok, nmX10, rfl, by decide +kernel, fun _ => rfl⟩
theorem cf_X10_82 : cn_F RX10 82 9 37 true (.array .int) := ⟨RX10, TX10, 42, tyX10, rfl, by decide, in2X10, (ax_m4 206 rfl rfl), tyX10_ok, nmX10, rfl, by decide +kernel, fun _ => rfl⟩
theorem cf_X10_85 : cn_F RX10 85 9 38 true (.array .int) := ⟨RX10, TX10, 42, tyX10, rfl, by decide, in2X10, (ax_m4 207 rfl rfl), tyX10_ok, nmX10, rfl, by decide +kernel, fun _ => rfl⟩
theorem cf_X10_88 : cn_F RX10 88 9 39 true (.array .int) := ⟨RX10, TX10, 42, tyX10, rfl, by decide, in2X10, (ax_m4 208 rfl rfl), tyX10_ok, nmX10, rfl, by decide +kernel, fun _ => rfl⟩
theorem cf_X10_91 : cn_F RX10 91 9 40 true (.array .int) := ⟨RX10, TX10, 42, tyX10, rfl, by decide, in2X10, (ax_m4 209 rfl rfl), tyX10_ok, nmX10, rfl, by decide +kernel, fun _ => rfl⟩
set_option maxHeartbeats 4000000 in
set_option maxRecDepth 10000 in
theorem c_X10_init : cn_M mu_X10_init 26 5105 nl_X10 9 [.int 0, .int 0, .int 0, .null, .null, .null, .int 0, .null, .null, .null, .null, .null, .null, .null, .int 0, .null, .null, .null, .int 0, .int 0, .int 0, .null, .null, .null, .null, .int 0, .null, .long 0, .null, .null, .int 0, .null, .int 0, .int 0, .int 0, .int 0, .null, .null, .null, .null, .null, .int 0] cx_R.1 s0_X10 := by
  refine cn_enter (by decide +kernel) rfl rfl (by decide) 0 (fun h0 => [some (.ref h0)]) (fun _ => rfl) (fun K D cI cJ cZ h0 sz Q hV hin hnw hlt hend => ?_)
  refine cn_aload_n hV dX10_init_0 rfl ?_
  refine cn_obj hV (ax_m4 168 rfl rfl) cn_o1 cn_o2 rfl dX10_init_1 ?_
  refine cn_aload_n hV dX10_init_4 rfl ?_
  refine cn_bipush hV (6 : Int32) dX10_init_5 (by decide) ?_
  refine cn_newI hV 6 ca_int dX10_init_7 (by decide) (by decide) (by decide) (by decide) (by decide) (fun q7 => ?_)
  refine cn_put hV hin cf_X10_9 dX10_init_9 0 [(h0, .inr (9, [.int 0, .int 0, .int 0, .ref (q7), .null, .null, .int 0, .null, .null, .null, .null, .null, .null, .null, .int 0, .null, .null, .null, .int 0, .int 0, .int 0, .null, .null, .null, .null, .int 0, .null, .long 0, .null, .null, .int 0, .null, .int 0, .int 0, .int 0, .int 0, .null, .null, .null, .null, .null, .int 0])), (q7, .inl (cI, 6, .inl (fun _ => (0 : Int32))))] rfl rfl rfl (Nat.le_of_ble_eq_true rfl) rfl ?_
  refine cn_aload_n hV dX10_init_12 rfl ?_
  refine cn_bipush hV (6 : Int32) dX10_init_13 (by decide) ?_
  refine cn_newI hV 6 ca_int dX10_init_15 (by decide) (by decide) (by decide) (by decide) (by decide) (fun q15 => ?_)
  refine cn_put hV hin cf_X10_13 dX10_init_17 0 [(h0, .inr (9, [.int 0, .int 0, .int 0, .ref (q7), .ref (q15), .null, .int 0, .null, .null, .null, .null, .null, .null, .null, .int 0, .null, .null, .null, .int 0, .int 0, .int 0, .null, .null, .null, .null, .int 0, .null, .long 0, .null, .null, .int 0, .null, .int 0, .int 0, .int 0, .int 0, .null, .null, .null, .null, .null, .int 0])), (q7, .inl (cI, 6, .inl (fun _ => (0 : Int32)))), (q15, .inl (cI, 6, .inl (fun _ => (0 : Int32))))] rfl rfl rfl (Nat.le_of_ble_eq_true rfl) rfl ?_
  refine cn_aload_n hV dX10_init_20 rfl ?_
  refine cn_bipush hV (6 : Int32) dX10_init_21 (by decide) ?_
  refine cn_newI hV 6 ca_int dX10_init_23 (by decide) (by decide) (by decide) (by decide) (by decide) (fun q23 => ?_)
  refine cn_put hV hin cf_X10_16 dX10_init_25 0 [(h0, .inr (9, [.int 0, .int 0, .int 0, .ref (q7), .ref (q15), .ref (q23), .int 0, .null, .null, .null, .null, .null, .null, .null, .int 0, .null, .null, .null, .int 0, .int 0, .int 0, .null, .null, .null, .null, .int 0, .null, .long 0, .null, .null, .int 0, .null, .int 0, .int 0, .int 0, .int 0, .null, .null, .null, .null, .null, .int 0])), (q7, .inl (cI, 6, .inl (fun _ => (0 : Int32)))), (q15, .inl (cI, 6, .inl (fun _ => (0 : Int32)))), (q23, .inl (cI, 6, .inl (fun _ => (0 : Int32))))] rfl rfl rfl (Nat.le_of_ble_eq_true rfl) rfl ?_
  refine cn_aload_n hV dX10_init_28 rfl ?_
  refine cn_bipush hV (40 : Int32) dX10_init_29 (by decide) ?_
  refine cn_newI hV 40 ca_int dX10_init_31 (by decide) (by decide) (by decide) (by decide) (by decide) (fun q31 => ?_)
  refine cn_put hV hin cf_X10_19 dX10_init_33 0 [(h0, .inr (9, [.int 0, .int 0, .int 0, .ref (q7), .ref (q15), .ref (q23), .int 0, .ref (q31), .null, .null, .null, .null, .null, .null, .int 0, .null, .null, .null, .int 0, .int 0, .int 0, .null, .null, .null, .null, .int 0, .null, .long 0, .null, .null, .int 0, .null, .int 0, .int 0, .int 0, .int 0, .null, .null, .null, .null, .null, .int 0])), (q7, .inl (cI, 6, .inl (fun _ => (0 : Int32)))), (q15, .inl (cI, 6, .inl (fun _ => (0 : Int32)))), (q23, .inl (cI, 6, .inl (fun _ => (0 : Int32)))), (q31, .inl (cI, 40, .inl (fun _ => (0 : Int32))))] rfl rfl rfl (Nat.le_of_ble_eq_true rfl) rfl ?_
  refine cn_aload_n hV dX10_init_36 rfl ?_
  refine cn_bipush hV (40 : Int32) dX10_init_37 (by decide) ?_
  refine cn_newI hV 40 ca_int dX10_init_39 (by decide) (by decide) (by decide) (by decide) (by decide) (fun q39 => ?_)
  refine cn_put hV hin cf_X10_22 dX10_init_41 0 [(h0, .inr (9, [.int 0, .int 0, .int 0, .ref (q7), .ref (q15), .ref (q23), .int 0, .ref (q31), .ref (q39), .null, .null, .null, .null, .null, .int 0, .null, .null, .null, .int 0, .int 0, .int 0, .null, .null, .null, .null, .int 0, .null, .long 0, .null, .null, .int 0, .null, .int 0, .int 0, .int 0, .int 0, .null, .null, .null, .null, .null, .int 0])), (q7, .inl (cI, 6, .inl (fun _ => (0 : Int32)))), (q15, .inl (cI, 6, .inl (fun _ => (0 : Int32)))), (q23, .inl (cI, 6, .inl (fun _ => (0 : Int32)))), (q31, .inl (cI, 40, .inl (fun _ => (0 : Int32)))), (q39, .inl (cI, 40, .inl (fun _ => (0 : Int32))))] rfl rfl rfl (Nat.le_of_ble_eq_true rfl) rfl ?_
  refine cn_aload_n hV dX10_init_44 rfl ?_
  refine cn_bipush hV (40 : Int32) dX10_init_45 (by decide) ?_
  refine cn_newI hV 40 ca_int dX10_init_47 (by decide) (by decide) (by decide) (by decide) (by decide) (fun q47 => ?_)
  refine cn_put hV hin cf_X10_25 dX10_init_49 0 [(h0, .inr (9, [.int 0, .int 0, .int 0, .ref (q7), .ref (q15), .ref (q23), .int 0, .ref (q31), .ref (q39), .ref (q47), .null, .null, .null, .null, .int 0, .null, .null, .null, .int 0, .int 0, .int 0, .null, .null, .null, .null, .int 0, .null, .long 0, .null, .null, .int 0, .null, .int 0, .int 0, .int 0, .int 0, .null, .null, .null, .null, .null, .int 0])), (q7, .inl (cI, 6, .inl (fun _ => (0 : Int32)))), (q15, .inl (cI, 6, .inl (fun _ => (0 : Int32)))), (q23, .inl (cI, 6, .inl (fun _ => (0 : Int32)))), (q31, .inl (cI, 40, .inl (fun _ => (0 : Int32)))), (q39, .inl (cI, 40, .inl (fun _ => (0 : Int32)))), (q47, .inl (cI, 40, .inl (fun _ => (0 : Int32))))] rfl rfl rfl (Nat.le_of_ble_eq_true rfl) rfl ?_
  refine cn_aload_n hV dX10_init_52 rfl ?_
  refine cn_bipush hV (40 : Int32) dX10_init_53 (by decide) ?_
  refine cn_newI hV 40 ca_int dX10_init_55 (by decide) (by decide) (by decide) (by decide) (by decide) (fun q55 => ?_)
  refine cn_put hV hin cf_X10_28 dX10_init_57 0 [(h0, .inr (9, [.int 0, .int 0, .int 0, .ref (q7), .ref (q15), .ref (q23), .int 0, .ref (q31), .ref (q39), .ref (q47), .ref (q55), .null, .null, .null, .int 0, .null, .null, .null, .int 0, .int 0, .int 0, .null, .null, .null, .null, .int 0, .null, .long 0, .null, .null, .int 0, .null, .int 0, .int 0, .int 0, .int 0, .null, .null, .null, .null, .null, .int 0])), (q7, .inl (cI, 6, .inl (fun _ => (0 : Int32)))), (q15, .inl (cI, 6, .inl (fun _ => (0 : Int32)))), (q23, .inl (cI, 6, .inl (fun _ => (0 : Int32)))), (q31, .inl (cI, 40, .inl (fun _ => (0 : Int32)))), (q39, .inl (cI, 40, .inl (fun _ => (0 : Int32)))), (q47, .inl (cI, 40, .inl (fun _ => (0 : Int32)))), (q55, .inl (cI, 40, .inl (fun _ => (0 : Int32))))] rfl rfl rfl (Nat.le_of_ble_eq_true rfl) rfl ?_
  refine cn_aload_n hV dX10_init_60 rfl ?_
  refine cn_bipush hV (40 : Int32) dX10_init_61 (by decide) ?_
  refine cn_newI hV 40 ca_int dX10_init_63 (by decide) (by decide) (by decide) (by decide) (by decide) (fun q63 => ?_)
  refine cn_put hV hin cf_X10_31 dX10_init_65 0 [(h0, .inr (9, [.int 0, .int 0, .int 0, .ref (q7), .ref (q15), .ref (q23), .int 0, .ref (q31), .ref (q39), .ref (q47), .ref (q55), .ref (q63), .null, .null, .int 0, .null, .null, .null, .int 0, .int 0, .int 0, .null, .null, .null, .null, .int 0, .null, .long 0, .null, .null, .int 0, .null, .int 0, .int 0, .int 0, .int 0, .null, .null, .null, .null, .null, .int 0])), (q7, .inl (cI, 6, .inl (fun _ => (0 : Int32)))), (q15, .inl (cI, 6, .inl (fun _ => (0 : Int32)))), (q23, .inl (cI, 6, .inl (fun _ => (0 : Int32)))), (q31, .inl (cI, 40, .inl (fun _ => (0 : Int32)))), (q39, .inl (cI, 40, .inl (fun _ => (0 : Int32)))), (q47, .inl (cI, 40, .inl (fun _ => (0 : Int32)))), (q55, .inl (cI, 40, .inl (fun _ => (0 : Int32)))), (q63, .inl (cI, 40, .inl (fun _ => (0 : Int32))))] rfl rfl rfl (Nat.le_of_ble_eq_true rfl) rfl ?_
  refine cn_aload_n hV dX10_init_68 rfl ?_
  refine cn_bipush hV (40 : Int32) dX10_init_69 (by decide) ?_
  refine cn_newI hV 40 ca_int dX10_init_71 (by decide) (by decide) (by decide) (by decide) (by decide) (fun q71 => ?_)
  refine cn_put hV hin cf_X10_34 dX10_init_73 0 [(h0, .inr (9, [.int 0, .int 0, .int 0, .ref (q7), .ref (q15), .ref (q23), .int 0, .ref (q31), .ref (q39), .ref (q47), .ref (q55), .ref (q63), .ref (q71), .null, .int 0, .null, .null, .null, .int 0, .int 0, .int 0, .null, .null, .null, .null, .int 0, .null, .long 0, .null, .null, .int 0, .null, .int 0, .int 0, .int 0, .int 0, .null, .null, .null, .null, .null, .int 0])), (q7, .inl (cI, 6, .inl (fun _ => (0 : Int32)))), (q15, .inl (cI, 6, .inl (fun _ => (0 : Int32)))), (q23, .inl (cI, 6, .inl (fun _ => (0 : Int32)))), (q31, .inl (cI, 40, .inl (fun _ => (0 : Int32)))), (q39, .inl (cI, 40, .inl (fun _ => (0 : Int32)))), (q47, .inl (cI, 40, .inl (fun _ => (0 : Int32)))), (q55, .inl (cI, 40, .inl (fun _ => (0 : Int32)))), (q63, .inl (cI, 40, .inl (fun _ => (0 : Int32)))), (q71, .inl (cI, 40, .inl (fun _ => (0 : Int32))))] rfl rfl rfl (Nat.le_of_ble_eq_true rfl) rfl ?_
  refine cn_aload_n hV dX10_init_76 rfl ?_
  refine cn_bipush hV (40 : Int32) dX10_init_77 (by decide) ?_
  refine cn_newI hV 40 ca_int dX10_init_79 (by decide) (by decide) (by decide) (by decide) (by decide) (fun q79 => ?_)
  refine cn_put hV hin cf_X10_37 dX10_init_81 0 [(h0, .inr (9, [.int 0, .int 0, .int 0, .ref (q7), .ref (q15), .ref (q23), .int 0, .ref (q31), .ref (q39), .ref (q47), .ref (q55), .ref (q63), .ref (q71), .ref (q79), .int 0, .null, .null, .null, .int 0, .int 0, .int 0, .null, .null, .null, .null, .int 0, .null, .long 0, .null, .null, .int 0, .null, .int 0, .int 0, .int 0, .int 0, .null, .null, .null, .null, .null, .int 0])), (q7, .inl (cI, 6, .inl (fun _ => (0 : Int32)))), (q15, .inl (cI, 6, .inl (fun _ => (0 : Int32)))), (q23, .inl (cI, 6, .inl (fun _ => (0 : Int32)))), (q31, .inl (cI, 40, .inl (fun _ => (0 : Int32)))), (q39, .inl (cI, 40, .inl (fun _ => (0 : Int32)))), (q47, .inl (cI, 40, .inl (fun _ => (0 : Int32)))), (q55, .inl (cI, 40, .inl (fun _ => (0 : Int32)))), (q63, .inl (cI, 40, .inl (fun _ => (0 : Int32)))), (q71, .inl (cI, 40, .inl (fun _ => (0 : Int32)))), (q79, .inl (cI, 40, .inl (fun _ => (0 : Int32))))] rfl rfl rfl (Nat.le_of_ble_eq_true rfl) rfl ?_
  refine cn_aload_n hV dX10_init_84 rfl ?_
  refine cn_iconst hV (-1 : Int32) dX10_init_85 (by decide) ?_
  refine cn_put hV hin cf_X10_40 dX10_init_86 0 [(h0, .inr (9, [.int 0, .int 0, .int 0, .ref (q7), .ref (q15), .ref (q23), .int 0, .ref (q31), .ref (q39), .ref (q47), .ref (q55), .ref (q63), .ref (q71), .ref (q79), .int (-1 : Int32), .null, .null, .null, .int 0, .int 0, .int 0, .null, .null, .null, .null, .int 0, .null, .long 0, .null, .null, .int 0, .null, .int 0, .int 0, .int 0, .int 0, .null, .null, .null, .null, .null, .int 0])), (q7, .inl (cI, 6, .inl (fun _ => (0 : Int32)))), (q15, .inl (cI, 6, .inl (fun _ => (0 : Int32)))), (q23, .inl (cI, 6, .inl (fun _ => (0 : Int32)))), (q31, .inl (cI, 40, .inl (fun _ => (0 : Int32)))), (q39, .inl (cI, 40, .inl (fun _ => (0 : Int32)))), (q47, .inl (cI, 40, .inl (fun _ => (0 : Int32)))), (q55, .inl (cI, 40, .inl (fun _ => (0 : Int32)))), (q63, .inl (cI, 40, .inl (fun _ => (0 : Int32)))), (q71, .inl (cI, 40, .inl (fun _ => (0 : Int32)))), (q79, .inl (cI, 40, .inl (fun _ => (0 : Int32))))] rfl rfl rfl (Nat.le_of_ble_eq_true rfl) rfl ?_
  refine cn_aload_n hV dX10_init_89 rfl ?_
  refine cn_sipush hV (361 : Int32) dX10_init_90 (by decide) ?_
  refine cn_newI hV 361 ca_int dX10_init_93 (by decide) (by decide) (by decide) (by decide) (by decide) (fun q93 => ?_)
  refine cn_put hV hin cf_X10_44 dX10_init_95 0 [(h0, .inr (9, [.int 0, .int 0, .int 0, .ref (q7), .ref (q15), .ref (q23), .int 0, .ref (q31), .ref (q39), .ref (q47), .ref (q55), .ref (q63), .ref (q71), .ref (q79), .int (-1 : Int32), .ref (q93), .null, .null, .int 0, .int 0, .int 0, .null, .null, .null, .null, .int 0, .null, .long 0, .null, .null, .int 0, .null, .int 0, .int 0, .int 0, .int 0, .null, .null, .null, .null, .null, .int 0])), (q7, .inl (cI, 6, .inl (fun _ => (0 : Int32)))), (q15, .inl (cI, 6, .inl (fun _ => (0 : Int32)))), (q23, .inl (cI, 6, .inl (fun _ => (0 : Int32)))), (q31, .inl (cI, 40, .inl (fun _ => (0 : Int32)))), (q39, .inl (cI, 40, .inl (fun _ => (0 : Int32)))), (q47, .inl (cI, 40, .inl (fun _ => (0 : Int32)))), (q55, .inl (cI, 40, .inl (fun _ => (0 : Int32)))), (q63, .inl (cI, 40, .inl (fun _ => (0 : Int32)))), (q71, .inl (cI, 40, .inl (fun _ => (0 : Int32)))), (q79, .inl (cI, 40, .inl (fun _ => (0 : Int32)))), (q93, .inl (cI, 361, .inl (fun _ => (0 : Int32))))] rfl rfl rfl (Nat.le_of_ble_eq_true rfl) rfl ?_
  refine cn_aload_n hV dX10_init_98 rfl ?_
  refine cn_bipush hV (19 : Int32) dX10_init_99 (by decide) ?_
  refine cn_newI hV 19 ca_int dX10_init_101 (by decide) (by decide) (by decide) (by decide) (by decide) (fun q101 => ?_)
  refine cn_put hV hin cf_X10_47 dX10_init_103 0 [(h0, .inr (9, [.int 0, .int 0, .int 0, .ref (q7), .ref (q15), .ref (q23), .int 0, .ref (q31), .ref (q39), .ref (q47), .ref (q55), .ref (q63), .ref (q71), .ref (q79), .int (-1 : Int32), .ref (q93), .ref (q101), .null, .int 0, .int 0, .int 0, .null, .null, .null, .null, .int 0, .null, .long 0, .null, .null, .int 0, .null, .int 0, .int 0, .int 0, .int 0, .null, .null, .null, .null, .null, .int 0])), (q7, .inl (cI, 6, .inl (fun _ => (0 : Int32)))), (q15, .inl (cI, 6, .inl (fun _ => (0 : Int32)))), (q23, .inl (cI, 6, .inl (fun _ => (0 : Int32)))), (q31, .inl (cI, 40, .inl (fun _ => (0 : Int32)))), (q39, .inl (cI, 40, .inl (fun _ => (0 : Int32)))), (q47, .inl (cI, 40, .inl (fun _ => (0 : Int32)))), (q55, .inl (cI, 40, .inl (fun _ => (0 : Int32)))), (q63, .inl (cI, 40, .inl (fun _ => (0 : Int32)))), (q71, .inl (cI, 40, .inl (fun _ => (0 : Int32)))), (q79, .inl (cI, 40, .inl (fun _ => (0 : Int32)))), (q93, .inl (cI, 361, .inl (fun _ => (0 : Int32)))), (q101, .inl (cI, 19, .inl (fun _ => (0 : Int32))))] rfl rfl rfl (Nat.le_of_ble_eq_true rfl) rfl ?_
  refine cn_aload_n hV dX10_init_106 rfl ?_
  refine cn_bipush hV (19 : Int32) dX10_init_107 (by decide) ?_
  refine cn_newI hV 19 ca_int dX10_init_109 (by decide) (by decide) (by decide) (by decide) (by decide) (fun q109 => ?_)
  refine cn_put hV hin cf_X10_50 dX10_init_111 0 [(h0, .inr (9, [.int 0, .int 0, .int 0, .ref (q7), .ref (q15), .ref (q23), .int 0, .ref (q31), .ref (q39), .ref (q47), .ref (q55), .ref (q63), .ref (q71), .ref (q79), .int (-1 : Int32), .ref (q93), .ref (q101), .ref (q109), .int 0, .int 0, .int 0, .null, .null, .null, .null, .int 0, .null, .long 0, .null, .null, .int 0, .null, .int 0, .int 0, .int 0, .int 0, .null, .null, .null, .null, .null, .int 0])), (q7, .inl (cI, 6, .inl (fun _ => (0 : Int32)))), (q15, .inl (cI, 6, .inl (fun _ => (0 : Int32)))), (q23, .inl (cI, 6, .inl (fun _ => (0 : Int32)))), (q31, .inl (cI, 40, .inl (fun _ => (0 : Int32)))), (q39, .inl (cI, 40, .inl (fun _ => (0 : Int32)))), (q47, .inl (cI, 40, .inl (fun _ => (0 : Int32)))), (q55, .inl (cI, 40, .inl (fun _ => (0 : Int32)))), (q63, .inl (cI, 40, .inl (fun _ => (0 : Int32)))), (q71, .inl (cI, 40, .inl (fun _ => (0 : Int32)))), (q79, .inl (cI, 40, .inl (fun _ => (0 : Int32)))), (q93, .inl (cI, 361, .inl (fun _ => (0 : Int32)))), (q101, .inl (cI, 19, .inl (fun _ => (0 : Int32)))), (q109, .inl (cI, 19, .inl (fun _ => (0 : Int32))))] rfl rfl rfl (Nat.le_of_ble_eq_true rfl) rfl ?_
  refine cn_aload_n hV dX10_init_114 rfl ?_
  refine cn_bipush hV (6 : Int32) dX10_init_115 (by decide) ?_
  refine cn_newI hV 6 ca_int dX10_init_117 (by decide) (by decide) (by decide) (by decide) (by decide) (fun q117 => ?_)
  refine cn_put hV hin cf_X10_53 dX10_init_119 0 [(h0, .inr (9, [.int 0, .int 0, .int 0, .ref (q7), .ref (q15), .ref (q23), .int 0, .ref (q31), .ref (q39), .ref (q47), .ref (q55), .ref (q63), .ref (q71), .ref (q79), .int (-1 : Int32), .ref (q93), .ref (q101), .ref (q109), .int 0, .int 0, .int 0, .ref (q117), .null, .null, .null, .int 0, .null, .long 0, .null, .null, .int 0, .null, .int 0, .int 0, .int 0, .int 0, .null, .null, .null, .null, .null, .int 0])), (q7, .inl (cI, 6, .inl (fun _ => (0 : Int32)))), (q15, .inl (cI, 6, .inl (fun _ => (0 : Int32)))), (q23, .inl (cI, 6, .inl (fun _ => (0 : Int32)))), (q31, .inl (cI, 40, .inl (fun _ => (0 : Int32)))), (q39, .inl (cI, 40, .inl (fun _ => (0 : Int32)))), (q47, .inl (cI, 40, .inl (fun _ => (0 : Int32)))), (q55, .inl (cI, 40, .inl (fun _ => (0 : Int32)))), (q63, .inl (cI, 40, .inl (fun _ => (0 : Int32)))), (q71, .inl (cI, 40, .inl (fun _ => (0 : Int32)))), (q79, .inl (cI, 40, .inl (fun _ => (0 : Int32)))), (q93, .inl (cI, 361, .inl (fun _ => (0 : Int32)))), (q101, .inl (cI, 19, .inl (fun _ => (0 : Int32)))), (q109, .inl (cI, 19, .inl (fun _ => (0 : Int32)))), (q117, .inl (cI, 6, .inl (fun _ => (0 : Int32))))] rfl rfl rfl (Nat.le_of_ble_eq_true rfl) rfl ?_
  refine cn_aload_n hV dX10_init_122 rfl ?_
  refine cn_bipush hV (6 : Int32) dX10_init_123 (by decide) ?_
  refine cn_newI hV 6 ca_int dX10_init_125 (by decide) (by decide) (by decide) (by decide) (by decide) (fun q125 => ?_)
  refine cn_put hV hin cf_X10_56 dX10_init_127 0 [(h0, .inr (9, [.int 0, .int 0, .int 0, .ref (q7), .ref (q15), .ref (q23), .int 0, .ref (q31), .ref (q39), .ref (q47), .ref (q55), .ref (q63), .ref (q71), .ref (q79), .int (-1 : Int32), .ref (q93), .ref (q101), .ref (q109), .int 0, .int 0, .int 0, .ref (q117), .ref (q125), .null, .null, .int 0, .null, .long 0, .null, .null, .int 0, .null, .int 0, .int 0, .int 0, .int 0, .null, .null, .null, .null, .null, .int 0])), (q7, .inl (cI, 6, .inl (fun _ => (0 : Int32)))), (q15, .inl (cI, 6, .inl (fun _ => (0 : Int32)))), (q23, .inl (cI, 6, .inl (fun _ => (0 : Int32)))), (q31, .inl (cI, 40, .inl (fun _ => (0 : Int32)))), (q39, .inl (cI, 40, .inl (fun _ => (0 : Int32)))), (q47, .inl (cI, 40, .inl (fun _ => (0 : Int32)))), (q55, .inl (cI, 40, .inl (fun _ => (0 : Int32)))), (q63, .inl (cI, 40, .inl (fun _ => (0 : Int32)))), (q71, .inl (cI, 40, .inl (fun _ => (0 : Int32)))), (q79, .inl (cI, 40, .inl (fun _ => (0 : Int32)))), (q93, .inl (cI, 361, .inl (fun _ => (0 : Int32)))), (q101, .inl (cI, 19, .inl (fun _ => (0 : Int32)))), (q109, .inl (cI, 19, .inl (fun _ => (0 : Int32)))), (q117, .inl (cI, 6, .inl (fun _ => (0 : Int32)))), (q125, .inl (cI, 6, .inl (fun _ => (0 : Int32))))] rfl rfl rfl (Nat.le_of_ble_eq_true rfl) rfl ?_
  refine cn_aload_n hV dX10_init_130 rfl ?_
  refine cn_bipush hV (12 : Int32) dX10_init_131 (by decide) ?_
  refine cn_newI hV 12 ca_int dX10_init_133 (by decide) (by decide) (by decide) (by decide) (by decide) (fun q133 => ?_)
  refine cn_put hV hin cf_X10_59 dX10_init_135 0 [(h0, .inr (9, [.int 0, .int 0, .int 0, .ref (q7), .ref (q15), .ref (q23), .int 0, .ref (q31), .ref (q39), .ref (q47), .ref (q55), .ref (q63), .ref (q71), .ref (q79), .int (-1 : Int32), .ref (q93), .ref (q101), .ref (q109), .int 0, .int 0, .int 0, .ref (q117), .ref (q125), .ref (q133), .null, .int 0, .null, .long 0, .null, .null, .int 0, .null, .int 0, .int 0, .int 0, .int 0, .null, .null, .null, .null, .null, .int 0])), (q7, .inl (cI, 6, .inl (fun _ => (0 : Int32)))), (q15, .inl (cI, 6, .inl (fun _ => (0 : Int32)))), (q23, .inl (cI, 6, .inl (fun _ => (0 : Int32)))), (q31, .inl (cI, 40, .inl (fun _ => (0 : Int32)))), (q39, .inl (cI, 40, .inl (fun _ => (0 : Int32)))), (q47, .inl (cI, 40, .inl (fun _ => (0 : Int32)))), (q55, .inl (cI, 40, .inl (fun _ => (0 : Int32)))), (q63, .inl (cI, 40, .inl (fun _ => (0 : Int32)))), (q71, .inl (cI, 40, .inl (fun _ => (0 : Int32)))), (q79, .inl (cI, 40, .inl (fun _ => (0 : Int32)))), (q93, .inl (cI, 361, .inl (fun _ => (0 : Int32)))), (q101, .inl (cI, 19, .inl (fun _ => (0 : Int32)))), (q109, .inl (cI, 19, .inl (fun _ => (0 : Int32)))), (q117, .inl (cI, 6, .inl (fun _ => (0 : Int32)))), (q125, .inl (cI, 6, .inl (fun _ => (0 : Int32)))), (q133, .inl (cI, 12, .inl (fun _ => (0 : Int32))))] rfl rfl rfl (Nat.le_of_ble_eq_true rfl) rfl ?_
  refine cn_aload_n hV dX10_init_138 rfl ?_
  refine cn_bipush hV (12 : Int32) dX10_init_139 (by decide) ?_
  refine cn_newI hV 12 ca_int dX10_init_141 (by decide) (by decide) (by decide) (by decide) (by decide) (fun q141 => ?_)
  refine cn_put hV hin cf_X10_62 dX10_init_143 0 [(h0, .inr (9, [.int 0, .int 0, .int 0, .ref (q7), .ref (q15), .ref (q23), .int 0, .ref (q31), .ref (q39), .ref (q47), .ref (q55), .ref (q63), .ref (q71), .ref (q79), .int (-1 : Int32), .ref (q93), .ref (q101), .ref (q109), .int 0, .int 0, .int 0, .ref (q117), .ref (q125), .ref (q133), .ref (q141), .int 0, .null, .long 0, .null, .null, .int 0, .null, .int 0, .int 0, .int 0, .int 0, .null, .null, .null, .null, .null, .int 0])), (q7, .inl (cI, 6, .inl (fun _ => (0 : Int32)))), (q15, .inl (cI, 6, .inl (fun _ => (0 : Int32)))), (q23, .inl (cI, 6, .inl (fun _ => (0 : Int32)))), (q31, .inl (cI, 40, .inl (fun _ => (0 : Int32)))), (q39, .inl (cI, 40, .inl (fun _ => (0 : Int32)))), (q47, .inl (cI, 40, .inl (fun _ => (0 : Int32)))), (q55, .inl (cI, 40, .inl (fun _ => (0 : Int32)))), (q63, .inl (cI, 40, .inl (fun _ => (0 : Int32)))), (q71, .inl (cI, 40, .inl (fun _ => (0 : Int32)))), (q79, .inl (cI, 40, .inl (fun _ => (0 : Int32)))), (q93, .inl (cI, 361, .inl (fun _ => (0 : Int32)))), (q101, .inl (cI, 19, .inl (fun _ => (0 : Int32)))), (q109, .inl (cI, 19, .inl (fun _ => (0 : Int32)))), (q117, .inl (cI, 6, .inl (fun _ => (0 : Int32)))), (q125, .inl (cI, 6, .inl (fun _ => (0 : Int32)))), (q133, .inl (cI, 12, .inl (fun _ => (0 : Int32)))), (q141, .inl (cI, 12, .inl (fun _ => (0 : Int32))))] rfl rfl rfl (Nat.le_of_ble_eq_true rfl) rfl ?_
  refine cn_aload_n hV dX10_init_146 rfl ?_
  refine cn_bipush hV (12 : Int32) dX10_init_147 (by decide) ?_
  refine cn_newI hV 12 ca_int dX10_init_149 (by decide) (by decide) (by decide) (by decide) (by decide) (fun q149 => ?_)
  refine cn_put hV hin cf_X10_65 dX10_init_151 0 [(h0, .inr (9, [.int 0, .int 0, .int 0, .ref (q7), .ref (q15), .ref (q23), .int 0, .ref (q31), .ref (q39), .ref (q47), .ref (q55), .ref (q63), .ref (q71), .ref (q79), .int (-1 : Int32), .ref (q93), .ref (q101), .ref (q109), .int 0, .int 0, .int 0, .ref (q117), .ref (q125), .ref (q133), .ref (q141), .int 0, .ref (q149), .long 0, .null, .null, .int 0, .null, .int 0, .int 0, .int 0, .int 0, .null, .null, .null, .null, .null, .int 0])), (q7, .inl (cI, 6, .inl (fun _ => (0 : Int32)))), (q15, .inl (cI, 6, .inl (fun _ => (0 : Int32)))), (q23, .inl (cI, 6, .inl (fun _ => (0 : Int32)))), (q31, .inl (cI, 40, .inl (fun _ => (0 : Int32)))), (q39, .inl (cI, 40, .inl (fun _ => (0 : Int32)))), (q47, .inl (cI, 40, .inl (fun _ => (0 : Int32)))), (q55, .inl (cI, 40, .inl (fun _ => (0 : Int32)))), (q63, .inl (cI, 40, .inl (fun _ => (0 : Int32)))), (q71, .inl (cI, 40, .inl (fun _ => (0 : Int32)))), (q79, .inl (cI, 40, .inl (fun _ => (0 : Int32)))), (q93, .inl (cI, 361, .inl (fun _ => (0 : Int32)))), (q101, .inl (cI, 19, .inl (fun _ => (0 : Int32)))), (q109, .inl (cI, 19, .inl (fun _ => (0 : Int32)))), (q117, .inl (cI, 6, .inl (fun _ => (0 : Int32)))), (q125, .inl (cI, 6, .inl (fun _ => (0 : Int32)))), (q133, .inl (cI, 12, .inl (fun _ => (0 : Int32)))), (q141, .inl (cI, 12, .inl (fun _ => (0 : Int32)))), (q149, .inl (cI, 12, .inl (fun _ => (0 : Int32))))] rfl rfl rfl (Nat.le_of_ble_eq_true rfl) rfl ?_
  refine cn_aload_n hV dX10_init_154 rfl ?_
  refine cn_bipush hV (12 : Int32) dX10_init_155 (by decide) ?_
  refine cn_newI hV 12 ca_int dX10_init_157 (by decide) (by decide) (by decide) (by decide) (by decide) (fun q157 => ?_)
  refine cn_put hV hin cf_X10_68 dX10_init_159 0 [(h0, .inr (9, [.int 0, .int 0, .int 0, .ref (q7), .ref (q15), .ref (q23), .int 0, .ref (q31), .ref (q39), .ref (q47), .ref (q55), .ref (q63), .ref (q71), .ref (q79), .int (-1 : Int32), .ref (q93), .ref (q101), .ref (q109), .int 0, .int 0, .int 0, .ref (q117), .ref (q125), .ref (q133), .ref (q141), .int 0, .ref (q149), .long 0, .ref (q157), .null, .int 0, .null, .int 0, .int 0, .int 0, .int 0, .null, .null, .null, .null, .null, .int 0])), (q7, .inl (cI, 6, .inl (fun _ => (0 : Int32)))), (q15, .inl (cI, 6, .inl (fun _ => (0 : Int32)))), (q23, .inl (cI, 6, .inl (fun _ => (0 : Int32)))), (q31, .inl (cI, 40, .inl (fun _ => (0 : Int32)))), (q39, .inl (cI, 40, .inl (fun _ => (0 : Int32)))), (q47, .inl (cI, 40, .inl (fun _ => (0 : Int32)))), (q55, .inl (cI, 40, .inl (fun _ => (0 : Int32)))), (q63, .inl (cI, 40, .inl (fun _ => (0 : Int32)))), (q71, .inl (cI, 40, .inl (fun _ => (0 : Int32)))), (q79, .inl (cI, 40, .inl (fun _ => (0 : Int32)))), (q93, .inl (cI, 361, .inl (fun _ => (0 : Int32)))), (q101, .inl (cI, 19, .inl (fun _ => (0 : Int32)))), (q109, .inl (cI, 19, .inl (fun _ => (0 : Int32)))), (q117, .inl (cI, 6, .inl (fun _ => (0 : Int32)))), (q125, .inl (cI, 6, .inl (fun _ => (0 : Int32)))), (q133, .inl (cI, 12, .inl (fun _ => (0 : Int32)))), (q141, .inl (cI, 12, .inl (fun _ => (0 : Int32)))), (q149, .inl (cI, 12, .inl (fun _ => (0 : Int32)))), (q157, .inl (cI, 12, .inl (fun _ => (0 : Int32))))] rfl rfl rfl (Nat.le_of_ble_eq_true rfl) rfl ?_
  refine cn_aload_n hV dX10_init_162 rfl ?_
  refine cn_sipush hV (4096 : Int32) dX10_init_163 (by decide) ?_
  refine cn_newJ hV 4096 ca_long dX10_init_166 (by decide) (by decide) (by decide) (by decide) (by decide) (fun q166 => ?_)
  refine cn_put hV hin cf_X10_71 dX10_init_168 0 [(h0, .inr (9, [.int 0, .int 0, .int 0, .ref (q7), .ref (q15), .ref (q23), .int 0, .ref (q31), .ref (q39), .ref (q47), .ref (q55), .ref (q63), .ref (q71), .ref (q79), .int (-1 : Int32), .ref (q93), .ref (q101), .ref (q109), .int 0, .int 0, .int 0, .ref (q117), .ref (q125), .ref (q133), .ref (q141), .int 0, .ref (q149), .long 0, .ref (q157), .ref (q166), .int 0, .null, .int 0, .int 0, .int 0, .int 0, .null, .null, .null, .null, .null, .int 0])), (q7, .inl (cI, 6, .inl (fun _ => (0 : Int32)))), (q15, .inl (cI, 6, .inl (fun _ => (0 : Int32)))), (q23, .inl (cI, 6, .inl (fun _ => (0 : Int32)))), (q31, .inl (cI, 40, .inl (fun _ => (0 : Int32)))), (q39, .inl (cI, 40, .inl (fun _ => (0 : Int32)))), (q47, .inl (cI, 40, .inl (fun _ => (0 : Int32)))), (q55, .inl (cI, 40, .inl (fun _ => (0 : Int32)))), (q63, .inl (cI, 40, .inl (fun _ => (0 : Int32)))), (q71, .inl (cI, 40, .inl (fun _ => (0 : Int32)))), (q79, .inl (cI, 40, .inl (fun _ => (0 : Int32)))), (q93, .inl (cI, 361, .inl (fun _ => (0 : Int32)))), (q101, .inl (cI, 19, .inl (fun _ => (0 : Int32)))), (q109, .inl (cI, 19, .inl (fun _ => (0 : Int32)))), (q117, .inl (cI, 6, .inl (fun _ => (0 : Int32)))), (q125, .inl (cI, 6, .inl (fun _ => (0 : Int32)))), (q133, .inl (cI, 12, .inl (fun _ => (0 : Int32)))), (q141, .inl (cI, 12, .inl (fun _ => (0 : Int32)))), (q149, .inl (cI, 12, .inl (fun _ => (0 : Int32)))), (q157, .inl (cI, 12, .inl (fun _ => (0 : Int32)))), (q166, .inl (cJ, 4096, .inr (.inl (fun _ => (0 : Int64)))))] rfl rfl rfl (Nat.le_of_ble_eq_true rfl) rfl ?_
  refine cn_aload_n hV dX10_init_171 rfl ?_
  refine cn_bipush hV (40 : Int32) dX10_init_172 (by decide) ?_
  refine cn_newI hV 40 ca_int dX10_init_174 (by decide) (by decide) (by decide) (by decide) (by decide) (fun q174 => ?_)
  refine cn_put hV hin cf_X10_75 dX10_init_176 0 [(h0, .inr (9, [.int 0, .int 0, .int 0, .ref (q7), .ref (q15), .ref (q23), .int 0, .ref (q31), .ref (q39), .ref (q47), .ref (q55), .ref (q63), .ref (q71), .ref (q79), .int (-1 : Int32), .ref (q93), .ref (q101), .ref (q109), .int 0, .int 0, .int 0, .ref (q117), .ref (q125), .ref (q133), .ref (q141), .int 0, .ref (q149), .long 0, .ref (q157), .ref (q166), .int 0, .ref (q174), .int 0, .int 0, .int 0, .int 0, .null, .null, .null, .null, .null, .int 0])), (q7, .inl (cI, 6, .inl (fun _ => (0 : Int32)))), (q15, .inl (cI, 6, .inl (fun _ => (0 : Int32)))), (q23, .inl (cI, 6, .inl (fun _ => (0 : Int32)))), (q31, .inl (cI, 40, .inl (fun _ => (0 : Int32)))), (q39, .inl (cI, 40, .inl (fun _ => (0 : Int32)))), (q47, .inl (cI, 40, .inl (fun _ => (0 : Int32)))), (q55, .inl (cI, 40, .inl (fun _ => (0 : Int32)))), (q63, .inl (cI, 40, .inl (fun _ => (0 : Int32)))), (q71, .inl (cI, 40, .inl (fun _ => (0 : Int32)))), (q79, .inl (cI, 40, .inl (fun _ => (0 : Int32)))), (q93, .inl (cI, 361, .inl (fun _ => (0 : Int32)))), (q101, .inl (cI, 19, .inl (fun _ => (0 : Int32)))), (q109, .inl (cI, 19, .inl (fun _ => (0 : Int32)))), (q117, .inl (cI, 6, .inl (fun _ => (0 : Int32)))), (q125, .inl (cI, 6, .inl (fun _ => (0 : Int32)))), (q133, .inl (cI, 12, .inl (fun _ => (0 : Int32)))), (q141, .inl (cI, 12, .inl (fun _ => (0 : Int32)))), (q149, .inl (cI, 12, .inl (fun _ => (0 : Int32)))), (q157, .inl (cI, 12, .inl (fun _ => (0 : Int32)))), (q166, .inl (cJ, 4096, .inr (.inl (fun _ => (0 : Int64))))), (q174, .inl (cI, 40, .inl (fun _ => (0 : Int32))))] rfl rfl rfl (Nat.le_of_ble_eq_true rfl) rfl ?_
  refine cn_aload_n hV dX10_init_179 rfl ?_
  refine cn_iconst hV (4 : Int32) dX10_init_180 (by decide) ?_
  refine cn_newZ hV 4 ca_boolean dX10_init_181 (by decide) (by decide) (by decide) (by decide) (by decide) (fun q181 => ?_)
  refine cn_put hV hin cf_X10_78 dX10_init_183 0 [(h0, .inr (9, [.int 0, .int 0, .int 0, .ref (q7), .ref (q15), .ref (q23), .int 0, .ref (q31), .ref (q39), .ref (q47), .ref (q55), .ref (q63), .ref (q71), .ref (q79), .int (-1 : Int32), .ref (q93), .ref (q101), .ref (q109), .int 0, .int 0, .int 0, .ref (q117), .ref (q125), .ref (q133), .ref (q141), .int 0, .ref (q149), .long 0, .ref (q157), .ref (q166), .int 0, .ref (q174), .int 0, .int 0, .int 0, .int 0, .ref (q181), .null, .null, .null, .null, .int 0])), (q7, .inl (cI, 6, .inl (fun _ => (0 : Int32)))), (q15, .inl (cI, 6, .inl (fun _ => (0 : Int32)))), (q23, .inl (cI, 6, .inl (fun _ => (0 : Int32)))), (q31, .inl (cI, 40, .inl (fun _ => (0 : Int32)))), (q39, .inl (cI, 40, .inl (fun _ => (0 : Int32)))), (q47, .inl (cI, 40, .inl (fun _ => (0 : Int32)))), (q55, .inl (cI, 40, .inl (fun _ => (0 : Int32)))), (q63, .inl (cI, 40, .inl (fun _ => (0 : Int32)))), (q71, .inl (cI, 40, .inl (fun _ => (0 : Int32)))), (q79, .inl (cI, 40, .inl (fun _ => (0 : Int32)))), (q93, .inl (cI, 361, .inl (fun _ => (0 : Int32)))), (q101, .inl (cI, 19, .inl (fun _ => (0 : Int32)))), (q109, .inl (cI, 19, .inl (fun _ => (0 : Int32)))), (q117, .inl (cI, 6, .inl (fun _ => (0 : Int32)))), (q125, .inl (cI, 6, .inl (fun _ => (0 : Int32)))), (q133, .inl (cI, 12, .inl (fun _ => (0 : Int32)))), (q141, .inl (cI, 12, .inl (fun _ => (0 : Int32)))), (q149, .inl (cI, 12, .inl (fun _ => (0 : Int32)))), (q157, .inl (cI, 12, .inl (fun _ => (0 : Int32)))), (q166, .inl (cJ, 4096, .inr (.inl (fun _ => (0 : Int64))))), (q174, .inl (cI, 40, .inl (fun _ => (0 : Int32)))), (q181, .inl (cZ, 4, .inl (fun _ => (0 : Int32))))] rfl rfl rfl (Nat.le_of_ble_eq_true rfl) rfl ?_
  refine cn_aload_n hV dX10_init_186 rfl ?_
  refine cn_iconst hV (4 : Int32) dX10_init_187 (by decide) ?_
  refine cn_newI hV 4 ca_int dX10_init_188 (by decide) (by decide) (by decide) (by decide) (by decide) (fun q188 => ?_)
  refine cn_put hV hin cf_X10_82 dX10_init_190 0 [(h0, .inr (9, [.int 0, .int 0, .int 0, .ref (q7), .ref (q15), .ref (q23), .int 0, .ref (q31), .ref (q39), .ref (q47), .ref (q55), .ref (q63), .ref (q71), .ref (q79), .int (-1 : Int32), .ref (q93), .ref (q101), .ref (q109), .int 0, .int 0, .int 0, .ref (q117), .ref (q125), .ref (q133), .ref (q141), .int 0, .ref (q149), .long 0, .ref (q157), .ref (q166), .int 0, .ref (q174), .int 0, .int 0, .int 0, .int 0, .ref (q181), .ref (q188), .null, .null, .null, .int 0])), (q7, .inl (cI, 6, .inl (fun _ => (0 : Int32)))), (q15, .inl (cI, 6, .inl (fun _ => (0 : Int32)))), (q23, .inl (cI, 6, .inl (fun _ => (0 : Int32)))), (q31, .inl (cI, 40, .inl (fun _ => (0 : Int32)))), (q39, .inl (cI, 40, .inl (fun _ => (0 : Int32)))), (q47, .inl (cI, 40, .inl (fun _ => (0 : Int32)))), (q55, .inl (cI, 40, .inl (fun _ => (0 : Int32)))), (q63, .inl (cI, 40, .inl (fun _ => (0 : Int32)))), (q71, .inl (cI, 40, .inl (fun _ => (0 : Int32)))), (q79, .inl (cI, 40, .inl (fun _ => (0 : Int32)))), (q93, .inl (cI, 361, .inl (fun _ => (0 : Int32)))), (q101, .inl (cI, 19, .inl (fun _ => (0 : Int32)))), (q109, .inl (cI, 19, .inl (fun _ => (0 : Int32)))), (q117, .inl (cI, 6, .inl (fun _ => (0 : Int32)))), (q125, .inl (cI, 6, .inl (fun _ => (0 : Int32)))), (q133, .inl (cI, 12, .inl (fun _ => (0 : Int32)))), (q141, .inl (cI, 12, .inl (fun _ => (0 : Int32)))), (q149, .inl (cI, 12, .inl (fun _ => (0 : Int32)))), (q157, .inl (cI, 12, .inl (fun _ => (0 : Int32)))), (q166, .inl (cJ, 4096, .inr (.inl (fun _ => (0 : Int64))))), (q174, .inl (cI, 40, .inl (fun _ => (0 : Int32)))), (q181, .inl (cZ, 4, .inl (fun _ => (0 : Int32)))), (q188, .inl (cI, 4, .inl (fun _ => (0 : Int32))))] rfl rfl rfl (Nat.le_of_ble_eq_true rfl) rfl ?_
  refine cn_aload_n hV dX10_init_193 rfl ?_
  refine cn_iconst hV (4 : Int32) dX10_init_194 (by decide) ?_
  refine cn_newI hV 4 ca_int dX10_init_195 (by decide) (by decide) (by decide) (by decide) (by decide) (fun q195 => ?_)
  refine cn_put hV hin cf_X10_85 dX10_init_197 0 [(h0, .inr (9, [.int 0, .int 0, .int 0, .ref (q7), .ref (q15), .ref (q23), .int 0, .ref (q31), .ref (q39), .ref (q47), .ref (q55), .ref (q63), .ref (q71), .ref (q79), .int (-1 : Int32), .ref (q93), .ref (q101), .ref (q109), .int 0, .int 0, .int 0, .ref (q117), .ref (q125), .ref (q133), .ref (q141), .int 0, .ref (q149), .long 0, .ref (q157), .ref (q166), .int 0, .ref (q174), .int 0, .int 0, .int 0, .int 0, .ref (q181), .ref (q188), .ref (q195), .null, .null, .int 0])), (q7, .inl (cI, 6, .inl (fun _ => (0 : Int32)))), (q15, .inl (cI, 6, .inl (fun _ => (0 : Int32)))), (q23, .inl (cI, 6, .inl (fun _ => (0 : Int32)))), (q31, .inl (cI, 40, .inl (fun _ => (0 : Int32)))), (q39, .inl (cI, 40, .inl (fun _ => (0 : Int32)))), (q47, .inl (cI, 40, .inl (fun _ => (0 : Int32)))), (q55, .inl (cI, 40, .inl (fun _ => (0 : Int32)))), (q63, .inl (cI, 40, .inl (fun _ => (0 : Int32)))), (q71, .inl (cI, 40, .inl (fun _ => (0 : Int32)))), (q79, .inl (cI, 40, .inl (fun _ => (0 : Int32)))), (q93, .inl (cI, 361, .inl (fun _ => (0 : Int32)))), (q101, .inl (cI, 19, .inl (fun _ => (0 : Int32)))), (q109, .inl (cI, 19, .inl (fun _ => (0 : Int32)))), (q117, .inl (cI, 6, .inl (fun _ => (0 : Int32)))), (q125, .inl (cI, 6, .inl (fun _ => (0 : Int32)))), (q133, .inl (cI, 12, .inl (fun _ => (0 : Int32)))), (q141, .inl (cI, 12, .inl (fun _ => (0 : Int32)))), (q149, .inl (cI, 12, .inl (fun _ => (0 : Int32)))), (q157, .inl (cI, 12, .inl (fun _ => (0 : Int32)))), (q166, .inl (cJ, 4096, .inr (.inl (fun _ => (0 : Int64))))), (q174, .inl (cI, 40, .inl (fun _ => (0 : Int32)))), (q181, .inl (cZ, 4, .inl (fun _ => (0 : Int32)))), (q188, .inl (cI, 4, .inl (fun _ => (0 : Int32)))), (q195, .inl (cI, 4, .inl (fun _ => (0 : Int32))))] rfl rfl rfl (Nat.le_of_ble_eq_true rfl) rfl ?_
  refine cn_aload_n hV dX10_init_200 rfl ?_
  refine cn_sipush hV (160 : Int32) dX10_init_201 (by decide) ?_
  refine cn_newI hV 160 ca_int dX10_init_204 (by decide) (by decide) (by decide) (by decide) (by decide) (fun q204 => ?_)
  refine cn_put hV hin cf_X10_88 dX10_init_206 0 [(h0, .inr (9, [.int 0, .int 0, .int 0, .ref (q7), .ref (q15), .ref (q23), .int 0, .ref (q31), .ref (q39), .ref (q47), .ref (q55), .ref (q63), .ref (q71), .ref (q79), .int (-1 : Int32), .ref (q93), .ref (q101), .ref (q109), .int 0, .int 0, .int 0, .ref (q117), .ref (q125), .ref (q133), .ref (q141), .int 0, .ref (q149), .long 0, .ref (q157), .ref (q166), .int 0, .ref (q174), .int 0, .int 0, .int 0, .int 0, .ref (q181), .ref (q188), .ref (q195), .ref (q204), .null, .int 0])), (q7, .inl (cI, 6, .inl (fun _ => (0 : Int32)))), (q15, .inl (cI, 6, .inl (fun _ => (0 : Int32)))), (q23, .inl (cI, 6, .inl (fun _ => (0 : Int32)))), (q31, .inl (cI, 40, .inl (fun _ => (0 : Int32)))), (q39, .inl (cI, 40, .inl (fun _ => (0 : Int32)))), (q47, .inl (cI, 40, .inl (fun _ => (0 : Int32)))), (q55, .inl (cI, 40, .inl (fun _ => (0 : Int32)))), (q63, .inl (cI, 40, .inl (fun _ => (0 : Int32)))), (q71, .inl (cI, 40, .inl (fun _ => (0 : Int32)))), (q79, .inl (cI, 40, .inl (fun _ => (0 : Int32)))), (q93, .inl (cI, 361, .inl (fun _ => (0 : Int32)))), (q101, .inl (cI, 19, .inl (fun _ => (0 : Int32)))), (q109, .inl (cI, 19, .inl (fun _ => (0 : Int32)))), (q117, .inl (cI, 6, .inl (fun _ => (0 : Int32)))), (q125, .inl (cI, 6, .inl (fun _ => (0 : Int32)))), (q133, .inl (cI, 12, .inl (fun _ => (0 : Int32)))), (q141, .inl (cI, 12, .inl (fun _ => (0 : Int32)))), (q149, .inl (cI, 12, .inl (fun _ => (0 : Int32)))), (q157, .inl (cI, 12, .inl (fun _ => (0 : Int32)))), (q166, .inl (cJ, 4096, .inr (.inl (fun _ => (0 : Int64))))), (q174, .inl (cI, 40, .inl (fun _ => (0 : Int32)))), (q181, .inl (cZ, 4, .inl (fun _ => (0 : Int32)))), (q188, .inl (cI, 4, .inl (fun _ => (0 : Int32)))), (q195, .inl (cI, 4, .inl (fun _ => (0 : Int32)))), (q204, .inl (cI, 160, .inl (fun _ => (0 : Int32))))] rfl rfl rfl (Nat.le_of_ble_eq_true rfl) rfl ?_
  refine cn_aload_n hV dX10_init_209 rfl ?_
  refine cn_bipush hV (40 : Int32) dX10_init_210 (by decide) ?_
  refine cn_newI hV 40 ca_int dX10_init_212 (by decide) (by decide) (by decide) (by decide) (by decide) (fun q212 => ?_)
  refine cn_put hV hin cf_X10_91 dX10_init_214 0 [(h0, .inr (9, [.int 0, .int 0, .int 0, .ref (q7), .ref (q15), .ref (q23), .int 0, .ref (q31), .ref (q39), .ref (q47), .ref (q55), .ref (q63), .ref (q71), .ref (q79), .int (-1 : Int32), .ref (q93), .ref (q101), .ref (q109), .int 0, .int 0, .int 0, .ref (q117), .ref (q125), .ref (q133), .ref (q141), .int 0, .ref (q149), .long 0, .ref (q157), .ref (q166), .int 0, .ref (q174), .int 0, .int 0, .int 0, .int 0, .ref (q181), .ref (q188), .ref (q195), .ref (q204), .ref (q212), .int 0])), (q7, .inl (cI, 6, .inl (fun _ => (0 : Int32)))), (q15, .inl (cI, 6, .inl (fun _ => (0 : Int32)))), (q23, .inl (cI, 6, .inl (fun _ => (0 : Int32)))), (q31, .inl (cI, 40, .inl (fun _ => (0 : Int32)))), (q39, .inl (cI, 40, .inl (fun _ => (0 : Int32)))), (q47, .inl (cI, 40, .inl (fun _ => (0 : Int32)))), (q55, .inl (cI, 40, .inl (fun _ => (0 : Int32)))), (q63, .inl (cI, 40, .inl (fun _ => (0 : Int32)))), (q71, .inl (cI, 40, .inl (fun _ => (0 : Int32)))), (q79, .inl (cI, 40, .inl (fun _ => (0 : Int32)))), (q93, .inl (cI, 361, .inl (fun _ => (0 : Int32)))), (q101, .inl (cI, 19, .inl (fun _ => (0 : Int32)))), (q109, .inl (cI, 19, .inl (fun _ => (0 : Int32)))), (q117, .inl (cI, 6, .inl (fun _ => (0 : Int32)))), (q125, .inl (cI, 6, .inl (fun _ => (0 : Int32)))), (q133, .inl (cI, 12, .inl (fun _ => (0 : Int32)))), (q141, .inl (cI, 12, .inl (fun _ => (0 : Int32)))), (q149, .inl (cI, 12, .inl (fun _ => (0 : Int32)))), (q157, .inl (cI, 12, .inl (fun _ => (0 : Int32)))), (q166, .inl (cJ, 4096, .inr (.inl (fun _ => (0 : Int64))))), (q174, .inl (cI, 40, .inl (fun _ => (0 : Int32)))), (q181, .inl (cZ, 4, .inl (fun _ => (0 : Int32)))), (q188, .inl (cI, 4, .inl (fun _ => (0 : Int32)))), (q195, .inl (cI, 4, .inl (fun _ => (0 : Int32)))), (q204, .inl (cI, 160, .inl (fun _ => (0 : Int32)))), (q212, .inl (cI, 40, .inl (fun _ => (0 : Int32))))] rfl rfl rfl (Nat.le_of_ble_eq_true rfl) rfl ?_
  exact hend _ _ _ [h0, q7, q15, q23, q31, q39, q47, q55, q63, q71, q79, q93, q101, q109, q117, q125, q133, q141, q149, q157, q166, q174, q181, q188, q195, q204, q212] [0, 1, 2, 3, 4, 5, 6, 7, 8, 9, 10, 11, 12, 13, 14, 15, 16, 17, 18, 19, 20, 21, 22, 23, 24, 25, 26] [(h0, .inr (9, [.int 0, .int 0, .int 0, .ref (q7), .ref (q15), .ref (q23), .int 0, .ref (q31), .ref (q39), .ref (q47), .ref (q55), .ref (q63), .ref (q71), .ref (q79), .int (-1 : Int32), .ref (q93), .ref (q101), .ref (q109), .int 0, .int 0, .int 0, .ref (q117), .ref (q125), .ref (q133), .ref (q141), .int 0, .ref (q149), .long 0, .ref (q157), .ref (q166), .int 0, .ref (q174), .int 0, .int 0, .int 0, .int 0, .ref (q181), .ref (q188), .ref (q195), .ref (q204), .ref (q212), .int 0])), (q7, .inl (cI, 6, .inl (fun _ => (0 : Int32)))), (q15, .inl (cI, 6, .inl (fun _ => (0 : Int32)))), (q23, .inl (cI, 6, .inl (fun _ => (0 : Int32)))), (q31, .inl (cI, 40, .inl (fun _ => (0 : Int32)))), (q39, .inl (cI, 40, .inl (fun _ => (0 : Int32)))), (q47, .inl (cI, 40, .inl (fun _ => (0 : Int32)))), (q55, .inl (cI, 40, .inl (fun _ => (0 : Int32)))), (q63, .inl (cI, 40, .inl (fun _ => (0 : Int32)))), (q71, .inl (cI, 40, .inl (fun _ => (0 : Int32)))), (q79, .inl (cI, 40, .inl (fun _ => (0 : Int32)))), (q93, .inl (cI, 361, .inl (fun _ => (0 : Int32)))), (q101, .inl (cI, 19, .inl (fun _ => (0 : Int32)))), (q109, .inl (cI, 19, .inl (fun _ => (0 : Int32)))), (q117, .inl (cI, 6, .inl (fun _ => (0 : Int32)))), (q125, .inl (cI, 6, .inl (fun _ => (0 : Int32)))), (q133, .inl (cI, 12, .inl (fun _ => (0 : Int32)))), (q141, .inl (cI, 12, .inl (fun _ => (0 : Int32)))), (q149, .inl (cI, 12, .inl (fun _ => (0 : Int32)))), (q157, .inl (cI, 12, .inl (fun _ => (0 : Int32)))), (q166, .inl (cJ, 4096, .inr (.inl (fun _ => (0 : Int64))))), (q174, .inl (cI, 40, .inl (fun _ => (0 : Int32)))), (q181, .inl (cZ, 4, .inl (fun _ => (0 : Int32)))), (q188, .inl (cI, 4, .inl (fun _ => (0 : Int32)))), (q195, .inl (cI, 4, .inl (fun _ => (0 : Int32)))), (q204, .inl (cI, 160, .inl (fun _ => (0 : Int32)))), (q212, .inl (cI, 40, .inl (fun _ => (0 : Int32))))] rfl (by decide) rfl dX10_init_217
end
