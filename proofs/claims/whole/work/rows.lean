section
-- ===== PART A: goes FIRST, ahead of the names: the tables' words, and 'selects' of the private methods out of them =====
/-- a private method of a class that the tables say can be made, by its rows of tables_1 -/
def lw_okq (q : MethodName × Nat) : Prop := (q.1.cls ≠ "java/lang/invoke/MethodHandle" ∧ q.1.cls ≠ "java/lang/invoke/VarHandle") ∧ Cond.instantiable q.1.cls q.2 ∈ tables_1 ∧ Cond.privateMethod q.1 ∈ tables_1 ∧ Cond.instanceMethod q.1 ∈ tables_1
theorem lw_p0 : lw_okq (⟨"WhenItWas", "isBook", "(I)Z"⟩, 12) := ⟨⟨by decide +kernel, by decide +kernel⟩, List.mem_of_getElem? (i := 18) (by decide +kernel), List.mem_of_getElem? (i := 328) (by decide +kernel), List.mem_of_getElem? (i := 329) (by decide +kernel)⟩
theorem lw_p1 : lw_okq (⟨"WhenItWas", "isThing", "(I)Z"⟩, 12) := ⟨⟨by decide +kernel, by decide +kernel⟩, List.mem_of_getElem? (i := 18) (by decide +kernel), List.mem_of_getElem? (i := 336) (by decide +kernel), List.mem_of_getElem? (i := 337) (by decide +kernel)⟩
theorem lw_p2 : lw_okq (⟨"WhenItWas", "areTwoThings", "(II)Z"⟩, 12) := ⟨⟨by decide +kernel, by decide +kernel⟩, List.mem_of_getElem? (i := 18) (by decide +kernel), List.mem_of_getElem? (i := 349) (by decide +kernel), List.mem_of_getElem? (i := 350) (by decide +kernel)⟩
theorem lw_p3 : lw_okq (⟨"WhenItWas", "found", "(I)I"⟩, 12) := ⟨⟨by decide +kernel, by decide +kernel⟩, List.mem_of_getElem? (i := 18) (by decide +kernel), List.mem_of_getElem? (i := 365) (by decide +kernel), List.mem_of_getElem? (i := 366) (by decide +kernel)⟩
theorem lw_p4 : lw_okq (⟨"WhenItWas", "tellFromSheet", "(II)I"⟩, 12) := ⟨⟨by decide +kernel, by decide +kernel⟩, List.mem_of_getElem? (i := 18) (by decide +kernel), List.mem_of_getElem? (i := 369) (by decide +kernel), List.mem_of_getElem? (i := 370) (by decide +kernel)⟩
theorem lw_p5 : lw_okq (⟨"WhenItWas", "isRow", "(I)Z"⟩, 12) := ⟨⟨by decide +kernel, by decide +kernel⟩, List.mem_of_getElem? (i := 18) (by decide +kernel), List.mem_of_getElem? (i := 383) (by decide +kernel), List.mem_of_getElem? (i := 384) (by decide +kernel)⟩
theorem lw_p6 : lw_okq (⟨"WhenItWas", "dayOfView", "()I"⟩, 12) := ⟨⟨by decide +kernel, by decide +kernel⟩, List.mem_of_getElem? (i := 18) (by decide +kernel), List.mem_of_getElem? (i := 392) (by decide +kernel), List.mem_of_getElem? (i := 393) (by decide +kernel)⟩
theorem lw_p7 : lw_okq (⟨"WhenItWas", "knownRows", "()J"⟩, 12) := ⟨⟨by decide +kernel, by decide +kernel⟩, List.mem_of_getElem? (i := 18) (by decide +kernel), List.mem_of_getElem? (i := 411) (by decide +kernel), List.mem_of_getElem? (i := 412) (by decide +kernel)⟩
theorem lw_p8 : lw_okq (⟨"WhenItWas$Net", "load", "(J)V"⟩, 13) := ⟨⟨by decide +kernel, by decide +kernel⟩, List.mem_of_getElem? (i := 26) (by decide +kernel), List.mem_of_getElem? (i := 425) (by decide +kernel), List.mem_of_getElem? (i := 426) (by decide +kernel)⟩
theorem lw_p9 : lw_okq (⟨"WhenItWas$Net", "addRow", "(I)V"⟩, 13) := ⟨⟨by decide +kernel, by decide +kernel⟩, List.mem_of_getElem? (i := 26) (by decide +kernel), List.mem_of_getElem? (i := 434) (by decide +kernel), List.mem_of_getElem? (i := 435) (by decide +kernel)⟩
theorem lw_p10 : lw_okq (⟨"WhenItWas$Net", "settle", "([IZ)Z"⟩, 13) := ⟨⟨by decide +kernel, by decide +kernel⟩, List.mem_of_getElem? (i := 26) (by decide +kernel), List.mem_of_getElem? (i := 441) (by decide +kernel), List.mem_of_getElem? (i := 442) (by decide +kernel)⟩
theorem lw_p11 : lw_okq (⟨"WhenItWas$Net", "sweep", "([IZ)Z"⟩, 13) := ⟨⟨by decide +kernel, by decide +kernel⟩, List.mem_of_getElem? (i := 26) (by decide +kernel), List.mem_of_getElem? (i := 448) (by decide +kernel), List.mem_of_getElem? (i := 449) (by decide +kernel)⟩
theorem lw_p12 : lw_okq (⟨"WhenItWas$Net", "turnFloorInto", "([I)V"⟩, 13) := ⟨⟨by decide +kernel, by decide +kernel⟩, List.mem_of_getElem? (i := 26) (by decide +kernel), List.mem_of_getElem? (i := 469) (by decide +kernel), List.mem_of_getElem? (i := 470) (by decide +kernel)⟩
theorem lw_p13 : lw_okq (⟨"WhenItWas$Net", "stepOnce", "(Z)V"⟩, 13) := ⟨⟨by decide +kernel, by decide +kernel⟩, List.mem_of_getElem? (i := 26) (by decide +kernel), List.mem_of_getElem? (i := 508) (by decide +kernel), List.mem_of_getElem? (i := 509) (by decide +kernel)⟩
theorem lw_p14 : lw_okq (⟨"WhenItWas", "isFitting", "(I)Z"⟩, 12) := ⟨⟨by decide +kernel, by decide +kernel⟩, List.mem_of_getElem? (i := 18) (by decide +kernel), List.mem_of_getElem? (i := 535) (by decide +kernel), List.mem_of_getElem? (i := 536) (by decide +kernel)⟩
theorem lw_p15 : lw_okq (⟨"WhenItWas", "areApartAsTold", "(I)Z"⟩, 12) := ⟨⟨by decide +kernel, by decide +kernel⟩, List.mem_of_getElem? (i := 18) (by decide +kernel), List.mem_of_getElem? (i := 540) (by decide +kernel), List.mem_of_getElem? (i := 541) (by decide +kernel)⟩
def lw_privs_1 : List (MethodName × Nat) := [(⟨"WhenItWas", "isBook", "(I)Z"⟩, 12), (⟨"WhenItWas", "isThing", "(I)Z"⟩, 12), (⟨"WhenItWas", "areTwoThings", "(II)Z"⟩, 12), (⟨"WhenItWas", "found", "(I)I"⟩, 12), (⟨"WhenItWas", "tellFromSheet", "(II)I"⟩, 12), (⟨"WhenItWas", "isRow", "(I)Z"⟩, 12), (⟨"WhenItWas", "dayOfView", "()I"⟩, 12), (⟨"WhenItWas", "knownRows", "()J"⟩, 12), (⟨"WhenItWas$Net", "load", "(J)V"⟩, 13), (⟨"WhenItWas$Net", "addRow", "(I)V"⟩, 13), (⟨"WhenItWas$Net", "settle", "([IZ)Z"⟩, 13), (⟨"WhenItWas$Net", "sweep", "([IZ)Z"⟩, 13), (⟨"WhenItWas$Net", "turnFloorInto", "([I)V"⟩, 13), (⟨"WhenItWas$Net", "stepOnce", "(Z)V"⟩, 13), (⟨"WhenItWas", "isFitting", "(I)Z"⟩, 12), (⟨"WhenItWas", "areApartAsTold", "(I)Z"⟩, 12)]
theorem lw_r1 : ∀ q ∈ lw_privs_1, lw_okq q := List.forall_mem_cons.mpr ⟨lw_p0, List.forall_mem_cons.mpr ⟨lw_p1, List.forall_mem_cons.mpr ⟨lw_p2, List.forall_mem_cons.mpr ⟨lw_p3, List.forall_mem_cons.mpr ⟨lw_p4, List.forall_mem_cons.mpr ⟨lw_p5, List.forall_mem_cons.mpr ⟨lw_p6, List.forall_mem_cons.mpr ⟨lw_p7, List.forall_mem_cons.mpr ⟨lw_p8, List.forall_mem_cons.mpr ⟨lw_p9, List.forall_mem_cons.mpr ⟨lw_p10, List.forall_mem_cons.mpr ⟨lw_p11, List.forall_mem_cons.mpr ⟨lw_p12, List.forall_mem_cons.mpr ⟨lw_p13, List.forall_mem_cons.mpr ⟨lw_p14, List.forall_mem_cons.mpr ⟨lw_p15, fun _ h => absurd h List.not_mem_nil⟩⟩⟩⟩⟩⟩⟩⟩⟩⟩⟩⟩⟩⟩⟩⟩
theorem lw_p16 : lw_okq (⟨"WhenItWas", "areClocksPossible", "(I)Z"⟩, 12) := ⟨⟨by decide +kernel, by decide +kernel⟩, List.mem_of_getElem? (i := 18) (by decide +kernel), List.mem_of_getElem? (i := 544) (by decide +kernel), List.mem_of_getElem? (i := 545) (by decide +kernel)⟩
theorem lw_p17 : lw_okq (⟨"WhenItWas", "roomByDays", "(II)I"⟩, 12) := ⟨⟨by decide +kernel, by decide +kernel⟩, List.mem_of_getElem? (i := 18) (by decide +kernel), List.mem_of_getElem? (i := 548) (by decide +kernel), List.mem_of_getElem? (i := 549) (by decide +kernel)⟩
theorem lw_p18 : lw_okq (⟨"WhenItWas$Kin", "weigh", "(I)V"⟩, 4) := ⟨⟨by decide +kernel, by decide +kernel⟩, List.mem_of_getElem? (i := 197) (by decide +kernel), List.mem_of_getElem? (i := 580) (by decide +kernel), List.mem_of_getElem? (i := 581) (by decide +kernel)⟩
theorem lw_p19 : lw_okq (⟨"WhenItWas", "lookForDoubts", "(J)I"⟩, 12) := ⟨⟨by decide +kernel, by decide +kernel⟩, List.mem_of_getElem? (i := 18) (by decide +kernel), List.mem_of_getElem? (i := 596) (by decide +kernel), List.mem_of_getElem? (i := 597) (by decide +kernel)⟩
theorem lw_p20 : lw_okq (⟨"WhenItWas$Doubt", "tryAllOfSize", "(LWhenItWas$Net;JI)V"⟩, 5) := ⟨⟨by decide +kernel, by decide +kernel⟩, List.mem_of_getElem? (i := 150) (by decide +kernel), List.mem_of_getElem? (i := 615) (by decide +kernel), List.mem_of_getElem? (i := 616) (by decide +kernel)⟩
theorem lw_p21 : lw_okq (⟨"WhenItWas$Doubt", "rowsOf", "(I)J"⟩, 5) := ⟨⟨by decide +kernel, by decide +kernel⟩, List.mem_of_getElem? (i := 150) (by decide +kernel), List.mem_of_getElem? (i := 625) (by decide +kernel), List.mem_of_getElem? (i := 626) (by decide +kernel)⟩
theorem lw_p22 : lw_okq (⟨"WhenItWas$Doubt", "trustOf", "(LWhenItWas$Net;I)I"⟩, 5) := ⟨⟨by decide +kernel, by decide +kernel⟩, List.mem_of_getElem? (i := 150) (by decide +kernel), List.mem_of_getElem? (i := 631) (by decide +kernel), List.mem_of_getElem? (i := 632) (by decide +kernel)⟩
theorem lw_p23 : lw_okq (⟨"WhenItWas$Doubt", "keep", "(JI)V"⟩, 5) := ⟨⟨by decide +kernel, by decide +kernel⟩, List.mem_of_getElem? (i := 150) (by decide +kernel), List.mem_of_getElem? (i := 635) (by decide +kernel), List.mem_of_getElem? (i := 636) (by decide +kernel)⟩
theorem lw_p24 : lw_okq (⟨"WhenItWas$Doubt", "blameAll", "(I)V"⟩, 5) := ⟨⟨by decide +kernel, by decide +kernel⟩, List.mem_of_getElem? (i := 150) (by decide +kernel), List.mem_of_getElem? (i := 639) (by decide +kernel), List.mem_of_getElem? (i := 640) (by decide +kernel)⟩
theorem lw_p25 : lw_okq (⟨"WhenItWas", "layLines", "()Z"⟩, 12) := ⟨⟨by decide +kernel, by decide +kernel⟩, List.mem_of_getElem? (i := 18) (by decide +kernel), List.mem_of_getElem? (i := 655) (by decide +kernel), List.mem_of_getElem? (i := 656) (by decide +kernel)⟩
theorem lw_p26 : lw_okq (⟨"WhenItWas$Lines", "mayFollow", "(II)Z"⟩, 5) := ⟨⟨by decide +kernel, by decide +kernel⟩, List.mem_of_getElem? (i := 174) (by decide +kernel), List.mem_of_getElem? (i := 672) (by decide +kernel), List.mem_of_getElem? (i := 673) (by decide +kernel)⟩
theorem lw_p27 : lw_okq (⟨"WhenItWas$Lines", "countWaysOn", "()V"⟩, 5) := ⟨⟨by decide +kernel, by decide +kernel⟩, List.mem_of_getElem? (i := 174) (by decide +kernel), List.mem_of_getElem? (i := 696) (by decide +kernel), List.mem_of_getElem? (i := 697) (by decide +kernel)⟩
theorem lw_p28 : lw_okq (⟨"WhenItWas$Lines", "countPairs", "()V"⟩, 5) := ⟨⟨by decide +kernel, by decide +kernel⟩, List.mem_of_getElem? (i := 174) (by decide +kernel), List.mem_of_getElem? (i := 700) (by decide +kernel), List.mem_of_getElem? (i := 701) (by decide +kernel)⟩
theorem lw_p29 : lw_okq (⟨"WhenItWas$Lines", "addToPairs", "(III)V"⟩, 5) := ⟨⟨by decide +kernel, by decide +kernel⟩, List.mem_of_getElem? (i := 174) (by decide +kernel), List.mem_of_getElem? (i := 704) (by decide +kernel), List.mem_of_getElem? (i := 705) (by decide +kernel)⟩
theorem lw_p30 : lw_okq (⟨"WhenItWas$Lines", "isSure", "(II)Z"⟩, 5) := ⟨⟨by decide +kernel, by decide +kernel⟩, List.mem_of_getElem? (i := 174) (by decide +kernel), List.mem_of_getElem? (i := 709) (by decide +kernel), List.mem_of_getElem? (i := 710) (by decide +kernel)⟩
theorem lw_p31 : lw_okq (⟨"WhenItWas$Dates", "readDate", "()I"⟩, 7) := ⟨⟨by decide +kernel, by decide +kernel⟩, List.mem_of_getElem? (i := 219) (by decide +kernel), List.mem_of_getElem? (i := 772) (by decide +kernel), List.mem_of_getElem? (i := 773) (by decide +kernel)⟩
def lw_privs_2 : List (MethodName × Nat) := [(⟨"WhenItWas", "areClocksPossible", "(I)Z"⟩, 12), (⟨"WhenItWas", "roomByDays", "(II)I"⟩, 12), (⟨"WhenItWas$Kin", "weigh", "(I)V"⟩, 4), (⟨"WhenItWas", "lookForDoubts", "(J)I"⟩, 12), (⟨"WhenItWas$Doubt", "tryAllOfSize", "(LWhenItWas$Net;JI)V"⟩, 5), (⟨"WhenItWas$Doubt", "rowsOf", "(I)J"⟩, 5), (⟨"WhenItWas$Doubt", "trustOf", "(LWhenItWas$Net;I)I"⟩, 5), (⟨"WhenItWas$Doubt", "keep", "(JI)V"⟩, 5), (⟨"WhenItWas$Doubt", "blameAll", "(I)V"⟩, 5), (⟨"WhenItWas", "layLines", "()Z"⟩, 12), (⟨"WhenItWas$Lines", "mayFollow", "(II)Z"⟩, 5), (⟨"WhenItWas$Lines", "countWaysOn", "()V"⟩, 5), (⟨"WhenItWas$Lines", "countPairs", "()V"⟩, 5), (⟨"WhenItWas$Lines", "addToPairs", "(III)V"⟩, 5), (⟨"WhenItWas$Lines", "isSure", "(II)Z"⟩, 5), (⟨"WhenItWas$Dates", "readDate", "()I"⟩, 7)]
theorem lw_r2 : ∀ q ∈ lw_privs_2, lw_okq q := List.forall_mem_cons.mpr ⟨lw_p16, List.forall_mem_cons.mpr ⟨lw_p17, List.forall_mem_cons.mpr ⟨lw_p18, List.forall_mem_cons.mpr ⟨lw_p19, List.forall_mem_cons.mpr ⟨lw_p20, List.forall_mem_cons.mpr ⟨lw_p21, List.forall_mem_cons.mpr ⟨lw_p22, List.forall_mem_cons.mpr ⟨lw_p23, List.forall_mem_cons.mpr ⟨lw_p24, List.forall_mem_cons.mpr ⟨lw_p25, List.forall_mem_cons.mpr ⟨lw_p26, List.forall_mem_cons.mpr ⟨lw_p27, List.forall_mem_cons.mpr ⟨lw_p28, List.forall_mem_cons.mpr ⟨lw_p29, List.forall_mem_cons.mpr ⟨lw_p30, List.forall_mem_cons.mpr ⟨lw_p31, fun _ h => absurd h List.not_mem_nil⟩⟩⟩⟩⟩⟩⟩⟩⟩⟩⟩⟩⟩⟩⟩⟩
theorem lw_p32 : lw_okq (⟨"WhenItWas$Dates", "readNumber", "(II)I"⟩, 7) := ⟨⟨by decide +kernel, by decide +kernel⟩, List.mem_of_getElem? (i := 219) (by decide +kernel), List.mem_of_getElem? (i := 776) (by decide +kernel), List.mem_of_getElem? (i := 777) (by decide +kernel)⟩
theorem lw_p33 : lw_okq (⟨"WhenItWas$Dates", "signHere", "()I"⟩, 7) := ⟨⟨by decide +kernel, by decide +kernel⟩, List.mem_of_getElem? (i := 219) (by decide +kernel), List.mem_of_getElem? (i := 780) (by decide +kernel), List.mem_of_getElem? (i := 781) (by decide +kernel)⟩
theorem lw_p34 : lw_okq (⟨"WhenItWas$Dates", "readDot", "()I"⟩, 7) := ⟨⟨by decide +kernel, by decide +kernel⟩, List.mem_of_getElem? (i := 219) (by decide +kernel), List.mem_of_getElem? (i := 787) (by decide +kernel), List.mem_of_getElem? (i := 788) (by decide +kernel)⟩
theorem lw_p35 : lw_okq (⟨"WhenItWas$Dates", "readLetter", "(IIII)I"⟩, 7) := ⟨⟨by decide +kernel, by decide +kernel⟩, List.mem_of_getElem? (i := 219) (by decide +kernel), List.mem_of_getElem? (i := 791) (by decide +kernel), List.mem_of_getElem? (i := 792) (by decide +kernel)⟩
theorem lw_p36 : lw_okq (⟨"WhenItWas$Dates", "readSecond", "()I"⟩, 7) := ⟨⟨by decide +kernel, by decide +kernel⟩, List.mem_of_getElem? (i := 219) (by decide +kernel), List.mem_of_getElem? (i := 798) (by decide +kernel), List.mem_of_getElem? (i := 799) (by decide +kernel)⟩
theorem lw_p37 : lw_okq (⟨"WhenItWas", "digestSpans", "(J)J"⟩, 12) := ⟨⟨by decide +kernel, by decide +kernel⟩, List.mem_of_getElem? (i := 18) (by decide +kernel), List.mem_of_getElem? (i := 879) (by decide +kernel), List.mem_of_getElem? (i := 880) (by decide +kernel)⟩
theorem lw_p38 : lw_okq (⟨"WhenItWasModel", "isBook", "(I)Z"⟩, 42) := ⟨⟨by decide +kernel, by decide +kernel⟩, List.mem_of_getElem? (i := 884) (by decide +kernel), List.mem_of_getElem? (i := 1038) (by decide +kernel), List.mem_of_getElem? (i := 1039) (by decide +kernel)⟩
theorem lw_p39 : lw_okq (⟨"WhenItWasModel", "onMore", "(IIII)I"⟩, 42) := ⟨⟨by decide +kernel, by decide +kernel⟩, List.mem_of_getElem? (i := 884) (by decide +kernel), List.mem_of_getElem? (i := 1046) (by decide +kernel), List.mem_of_getElem? (i := 1047) (by decide +kernel)⟩
theorem lw_p40 : lw_okq (⟨"WhenItWasModel", "isThing", "(I)Z"⟩, 42) := ⟨⟨by decide +kernel, by decide +kernel⟩, List.mem_of_getElem? (i := 884) (by decide +kernel), List.mem_of_getElem? (i := 1050) (by decide +kernel), List.mem_of_getElem? (i := 1051) (by decide +kernel)⟩
theorem lw_p41 : lw_okq (⟨"WhenItWasModel", "rowMore", "(IIIII)I"⟩, 42) := ⟨⟨by decide +kernel, by decide +kernel⟩, List.mem_of_getElem? (i := 884) (by decide +kernel), List.mem_of_getElem? (i := 1056) (by decide +kernel), List.mem_of_getElem? (i := 1057) (by decide +kernel)⟩
theorem lw_p42 : lw_okq (⟨"WhenItWasModel", "apartMore", "(IIIII)I"⟩, 42) := ⟨⟨by decide +kernel, by decide +kernel⟩, List.mem_of_getElem? (i := 884) (by decide +kernel), List.mem_of_getElem? (i := 1064) (by decide +kernel), List.mem_of_getElem? (i := 1065) (by decide +kernel)⟩
theorem lw_p43 : lw_okq (⟨"WhenItWasModel", "meets", "(I)I"⟩, 42) := ⟨⟨by decide +kernel, by decide +kernel⟩, List.mem_of_getElem? (i := 884) (by decide +kernel), List.mem_of_getElem? (i := 1077) (by decide +kernel), List.mem_of_getElem? (i := 1078) (by decide +kernel)⟩
theorem lw_p44 : lw_okq (⟨"WhenItWasModel", "aboutOf", "(II)I"⟩, 42) := ⟨⟨by decide +kernel, by decide +kernel⟩, List.mem_of_getElem? (i := 884) (by decide +kernel), List.mem_of_getElem? (i := 1089) (by decide +kernel), List.mem_of_getElem? (i := 1090) (by decide +kernel)⟩
theorem lw_p45 : lw_okq (⟨"WhenItWasModel", "isKnown", "(I)Z"⟩, 42) := ⟨⟨by decide +kernel, by decide +kernel⟩, List.mem_of_getElem? (i := 884) (by decide +kernel), List.mem_of_getElem? (i := 1093) (by decide +kernel), List.mem_of_getElem? (i := 1094) (by decide +kernel)⟩
theorem lw_p46 : lw_okq (⟨"WhenItWasModel", "isKnownTo", "(II)Z"⟩, 42) := ⟨⟨by decide +kernel, by decide +kernel⟩, List.mem_of_getElem? (i := 884) (by decide +kernel), List.mem_of_getElem? (i := 1097) (by decide +kernel), List.mem_of_getElem? (i := 1098) (by decide +kernel)⟩
theorem lw_p47 : lw_okq (⟨"WhenItWasModel", "knownNow", "()J"⟩, 42) := ⟨⟨by decide +kernel, by decide +kernel⟩, List.mem_of_getElem? (i := 884) (by decide +kernel), List.mem_of_getElem? (i := 1110) (by decide +kernel), List.mem_of_getElem? (i := 1111) (by decide +kernel)⟩
def lw_privs_3 : List (MethodName × Nat) := [(⟨"WhenItWas$Dates", "readNumber", "(II)I"⟩, 7), (⟨"WhenItWas$Dates", "signHere", "()I"⟩, 7), (⟨"WhenItWas$Dates", "readDot", "()I"⟩, 7), (⟨"WhenItWas$Dates", "readLetter", "(IIII)I"⟩, 7), (⟨"WhenItWas$Dates", "readSecond", "()I"⟩, 7), (⟨"WhenItWas", "digestSpans", "(J)J"⟩, 12), (⟨"WhenItWasModel", "isBook", "(I)Z"⟩, 42), (⟨"WhenItWasModel", "onMore", "(IIII)I"⟩, 42), (⟨"WhenItWasModel", "isThing", "(I)Z"⟩, 42), (⟨"WhenItWasModel", "rowMore", "(IIIII)I"⟩, 42), (⟨"WhenItWasModel", "apartMore", "(IIIII)I"⟩, 42), (⟨"WhenItWasModel", "meets", "(I)I"⟩, 42), (⟨"WhenItWasModel", "aboutOf", "(II)I"⟩, 42), (⟨"WhenItWasModel", "isKnown", "(I)Z"⟩, 42), (⟨"WhenItWasModel", "isKnownTo", "(II)Z"⟩, 42), (⟨"WhenItWasModel", "knownNow", "()J"⟩, 42)]
theorem lw_r3 : ∀ q ∈ lw_privs_3, lw_okq q := List.forall_mem_cons.mpr ⟨lw_p32, List.forall_mem_cons.mpr ⟨lw_p33, List.forall_mem_cons.mpr ⟨lw_p34, List.forall_mem_cons.mpr ⟨lw_p35, List.forall_mem_cons.mpr ⟨lw_p36, List.forall_mem_cons.mpr ⟨lw_p37, List.forall_mem_cons.mpr ⟨lw_p38, List.forall_mem_cons.mpr ⟨lw_p39, List.forall_mem_cons.mpr ⟨lw_p40, List.forall_mem_cons.mpr ⟨lw_p41, List.forall_mem_cons.mpr ⟨lw_p42, List.forall_mem_cons.mpr ⟨lw_p43, List.forall_mem_cons.mpr ⟨lw_p44, List.forall_mem_cons.mpr ⟨lw_p45, List.forall_mem_cons.mpr ⟨lw_p46, List.forall_mem_cons.mpr ⟨lw_p47, fun _ h => absurd h List.not_mem_nil⟩⟩⟩⟩⟩⟩⟩⟩⟩⟩⟩⟩⟩⟩⟩⟩
theorem lw_p48 : lw_okq (⟨"WhenItWasModel", "knownBits", "(I)J"⟩, 42) := ⟨⟨by decide +kernel, by decide +kernel⟩, List.mem_of_getElem? (i := 884) (by decide +kernel), List.mem_of_getElem? (i := 1114) (by decide +kernel), List.mem_of_getElem? (i := 1115) (by decide +kernel)⟩
theorem lw_p49 : lw_okq (⟨"WhenItWasModel", "works", "(J)Z"⟩, 42) := ⟨⟨by decide +kernel, by decide +kernel⟩, List.mem_of_getElem? (i := 884) (by decide +kernel), List.mem_of_getElem? (i := 1119) (by decide +kernel), List.mem_of_getElem? (i := 1120) (by decide +kernel)⟩
theorem lw_p50 : lw_okq (⟨"WhenItWasModel", "atMost", "(III)V"⟩, 42) := ⟨⟨by decide +kernel, by decide +kernel⟩, List.mem_of_getElem? (i := 884) (by decide +kernel), List.mem_of_getElem? (i := 1124) (by decide +kernel), List.mem_of_getElem? (i := 1125) (by decide +kernel)⟩
theorem lw_p51 : lw_okq (⟨"WhenItWasModel", "leansOn", "(I)I"⟩, 42) := ⟨⟨by decide +kernel, by decide +kernel⟩, List.mem_of_getElem? (i := 884) (by decide +kernel), List.mem_of_getElem? (i := 1128) (by decide +kernel), List.mem_of_getElem? (i := 1129) (by decide +kernel)⟩
theorem lw_p52 : lw_okq (⟨"WhenItWasModel", "canAll", "()Z"⟩, 42) := ⟨⟨by decide +kernel, by decide +kernel⟩, List.mem_of_getElem? (i := 884) (by decide +kernel), List.mem_of_getElem? (i := 1136) (by decide +kernel), List.mem_of_getElem? (i := 1137) (by decide +kernel)⟩
theorem lw_p53 : lw_okq (⟨"WhenItWasModel", "endOf", "(II)I"⟩, 42) := ⟨⟨by decide +kernel, by decide +kernel⟩, List.mem_of_getElem? (i := 884) (by decide +kernel), List.mem_of_getElem? (i := 1144) (by decide +kernel), List.mem_of_getElem? (i := 1145) (by decide +kernel)⟩
theorem lw_p54 : lw_okq (⟨"WhenItWasModel", "clockEnd", "(II)I"⟩, 42) := ⟨⟨by decide +kernel, by decide +kernel⟩, List.mem_of_getElem? (i := 884) (by decide +kernel), List.mem_of_getElem? (i := 1153) (by decide +kernel), List.mem_of_getElem? (i := 1154) (by decide +kernel)⟩
theorem lw_p55 : lw_okq (⟨"WhenItWasModel", "areTwo", "(II)Z"⟩, 42) := ⟨⟨by decide +kernel, by decide +kernel⟩, List.mem_of_getElem? (i := 884) (by decide +kernel), List.mem_of_getElem? (i := 1161) (by decide +kernel), List.mem_of_getElem? (i := 1162) (by decide +kernel)⟩
theorem lw_p56 : lw_okq (⟨"WhenItWasModel", "nears", "(III)Z"⟩, 42) := ⟨⟨by decide +kernel, by decide +kernel⟩, List.mem_of_getElem? (i := 884) (by decide +kernel), List.mem_of_getElem? (i := 1171) (by decide +kernel), List.mem_of_getElem? (i := 1172) (by decide +kernel)⟩
theorem lw_p57 : lw_okq (⟨"WhenItWasModel", "isOther", "(II)Z"⟩, 42) := ⟨⟨by decide +kernel, by decide +kernel⟩, List.mem_of_getElem? (i := 884) (by decide +kernel), List.mem_of_getElem? (i := 1179) (by decide +kernel), List.mem_of_getElem? (i := 1180) (by decide +kernel)⟩
theorem lw_p58 : lw_okq (⟨"WhenItWasModel", "isFitting", "(I)Z"⟩, 42) := ⟨⟨by decide +kernel, by decide +kernel⟩, List.mem_of_getElem? (i := 884) (by decide +kernel), List.mem_of_getElem? (i := 1187) (by decide +kernel), List.mem_of_getElem? (i := 1188) (by decide +kernel)⟩
theorem lw_p59 : lw_okq (⟨"WhenItWasModel", "latest", "(II)I"⟩, 42) := ⟨⟨by decide +kernel, by decide +kernel⟩, List.mem_of_getElem? (i := 884) (by decide +kernel), List.mem_of_getElem? (i := 1199) (by decide +kernel), List.mem_of_getElem? (i := 1200) (by decide +kernel)⟩
theorem lw_p60 : lw_okq (⟨"WhenItWasModel", "doubtsNow", "()I"⟩, 42) := ⟨⟨by decide +kernel, by decide +kernel⟩, List.mem_of_getElem? (i := 884) (by decide +kernel), List.mem_of_getElem? (i := 1213) (by decide +kernel), List.mem_of_getElem? (i := 1214) (by decide +kernel)⟩
theorem lw_p61 : lw_okq (⟨"WhenItWasModel", "bitsOf", "(I)J"⟩, 42) := ⟨⟨by decide +kernel, by decide +kernel⟩, List.mem_of_getElem? (i := 884) (by decide +kernel), List.mem_of_getElem? (i := 1220) (by decide +kernel), List.mem_of_getElem? (i := 1221) (by decide +kernel)⟩
theorem lw_p62 : lw_okq (⟨"WhenItWasModel", "trustOfSet", "(I)I"⟩, 42) := ⟨⟨by decide +kernel, by decide +kernel⟩, List.mem_of_getElem? (i := 884) (by decide +kernel), List.mem_of_getElem? (i := 1224) (by decide +kernel), List.mem_of_getElem? (i := 1225) (by decide +kernel)⟩
theorem lw_p63 : lw_okq (⟨"WhenItWasModel", "sures", "()Z"⟩, 42) := ⟨⟨by decide +kernel, by decide +kernel⟩, List.mem_of_getElem? (i := 884) (by decide +kernel), List.mem_of_getElem? (i := 1237) (by decide +kernel), List.mem_of_getElem? (i := 1238) (by decide +kernel)⟩
def lw_privs_4 : List (MethodName × Nat) := [(⟨"WhenItWasModel", "knownBits", "(I)J"⟩, 42), (⟨"WhenItWasModel", "works", "(J)Z"⟩, 42), (⟨"WhenItWasModel", "atMost", "(III)V"⟩, 42), (⟨"WhenItWasModel", "leansOn", "(I)I"⟩, 42), (⟨"WhenItWasModel", "canAll", "()Z"⟩, 42), (⟨"WhenItWasModel", "endOf", "(II)I"⟩, 42), (⟨"WhenItWasModel", "clockEnd", "(II)I"⟩, 42), (⟨"WhenItWasModel", "areTwo", "(II)Z"⟩, 42), (⟨"WhenItWasModel", "nears", "(III)Z"⟩, 42), (⟨"WhenItWasModel", "isOther", "(II)Z"⟩, 42), (⟨"WhenItWasModel", "isFitting", "(I)Z"⟩, 42), (⟨"WhenItWasModel", "latest", "(II)I"⟩, 42), (⟨"WhenItWasModel", "doubtsNow", "()I"⟩, 42), (⟨"WhenItWasModel", "bitsOf", "(I)J"⟩, 42), (⟨"WhenItWasModel", "trustOfSet", "(I)I"⟩, 42), (⟨"WhenItWasModel", "sures", "()Z"⟩, 42)]
theorem lw_r4 : ∀ q ∈ lw_privs_4, lw_okq q := List.forall_mem_cons.mpr ⟨lw_p48, List.forall_mem_cons.mpr ⟨lw_p49, List.forall_mem_cons.mpr ⟨lw_p50, List.forall_mem_cons.mpr ⟨lw_p51, List.forall_mem_cons.mpr ⟨lw_p52, List.forall_mem_cons.mpr ⟨lw_p53, List.forall_mem_cons.mpr ⟨lw_p54, List.forall_mem_cons.mpr ⟨lw_p55, List.forall_mem_cons.mpr ⟨lw_p56, List.forall_mem_cons.mpr ⟨lw_p57, List.forall_mem_cons.mpr ⟨lw_p58, List.forall_mem_cons.mpr ⟨lw_p59, List.forall_mem_cons.mpr ⟨lw_p60, List.forall_mem_cons.mpr ⟨lw_p61, List.forall_mem_cons.mpr ⟨lw_p62, List.forall_mem_cons.mpr ⟨lw_p63, fun _ h => absurd h List.not_mem_nil⟩⟩⟩⟩⟩⟩⟩⟩⟩⟩⟩⟩⟩⟩⟩⟩
theorem lw_p64 : lw_okq (⟨"WhenItWasModel", "ordersNow", "()J"⟩, 42) := ⟨⟨by decide +kernel, by decide +kernel⟩, List.mem_of_getElem? (i := 884) (by decide +kernel), List.mem_of_getElem? (i := 1245) (by decide +kernel), List.mem_of_getElem? (i := 1246) (by decide +kernel)⟩
theorem lw_p65 : lw_okq (⟨"WhenItWasModel", "ordersBut", "(I)J"⟩, 42) := ⟨⟨by decide +kernel, by decide +kernel⟩, List.mem_of_getElem? (i := 884) (by decide +kernel), List.mem_of_getElem? (i := 1249) (by decide +kernel), List.mem_of_getElem? (i := 1250) (by decide +kernel)⟩
theorem lw_p66 : lw_okq (⟨"WhenItWasModel", "ordersWith", "(II)J"⟩, 42) := ⟨⟨by decide +kernel, by decide +kernel⟩, List.mem_of_getElem? (i := 884) (by decide +kernel), List.mem_of_getElem? (i := 1257) (by decide +kernel), List.mem_of_getElem? (i := 1258) (by decide +kernel)⟩
theorem lw_p67 : lw_okq (⟨"WhenItWasModel", "faultNow", "()I"⟩, 42) := ⟨⟨by decide +kernel, by decide +kernel⟩, List.mem_of_getElem? (i := 884) (by decide +kernel), List.mem_of_getElem? (i := 1304) (by decide +kernel), List.mem_of_getElem? (i := 1305) (by decide +kernel)⟩
theorem lw_p68 : lw_okq (⟨"WhenItWasModel", "date", "()I"⟩, 42) := ⟨⟨by decide +kernel, by decide +kernel⟩, List.mem_of_getElem? (i := 884) (by decide +kernel), List.mem_of_getElem? (i := 1308) (by decide +kernel), List.mem_of_getElem? (i := 1309) (by decide +kernel)⟩
theorem lw_p69 : lw_okq (⟨"WhenItWasModel", "figures", "(II)I"⟩, 42) := ⟨⟨by decide +kernel, by decide +kernel⟩, List.mem_of_getElem? (i := 884) (by decide +kernel), List.mem_of_getElem? (i := 1312) (by decide +kernel), List.mem_of_getElem? (i := 1313) (by decide +kernel)⟩
theorem lw_p70 : lw_okq (⟨"WhenItWasModel", "byteAt", "(I)I"⟩, 42) := ⟨⟨by decide +kernel, by decide +kernel⟩, List.mem_of_getElem? (i := 884) (by decide +kernel), List.mem_of_getElem? (i := 1316) (by decide +kernel), List.mem_of_getElem? (i := 1317) (by decide +kernel)⟩
theorem lw_p71 : lw_okq (⟨"WhenItWasModel", "dot", "()V"⟩, 42) := ⟨⟨by decide +kernel, by decide +kernel⟩, List.mem_of_getElem? (i := 884) (by decide +kernel), List.mem_of_getElem? (i := 1320) (by decide +kernel), List.mem_of_getElem? (i := 1321) (by decide +kernel)⟩
theorem lw_p72 : lw_okq (⟨"WhenItWasModel", "lacks", "(III)I"⟩, 42) := ⟨⟨by decide +kernel, by decide +kernel⟩, List.mem_of_getElem? (i := 884) (by decide +kernel), List.mem_of_getElem? (i := 1340) (by decide +kernel), List.mem_of_getElem? (i := 1341) (by decide +kernel)⟩
theorem lw_p73 : lw_okq (⟨"WhenItWasModel", "lay", "(III)V"⟩, 42) := ⟨⟨by decide +kernel, by decide +kernel⟩, List.mem_of_getElem? (i := 884) (by decide +kernel), List.mem_of_getElem? (i := 1344) (by decide +kernel), List.mem_of_getElem? (i := 1345) (by decide +kernel)⟩
def lw_privs_5 : List (MethodName × Nat) := [(⟨"WhenItWasModel", "ordersNow", "()J"⟩, 42), (⟨"WhenItWasModel", "ordersBut", "(I)J"⟩, 42), (⟨"WhenItWasModel", "ordersWith", "(II)J"⟩, 42), (⟨"WhenItWasModel", "faultNow", "()I"⟩, 42), (⟨"WhenItWasModel", "date", "()I"⟩, 42), (⟨"WhenItWasModel", "figures", "(II)I"⟩, 42), (⟨"WhenItWasModel", "byteAt", "(I)I"⟩, 42), (⟨"WhenItWasModel", "dot", "()V"⟩, 42), (⟨"WhenItWasModel", "lacks", "(III)I"⟩, 42), (⟨"WhenItWasModel", "lay", "(III)V"⟩, 42)]
theorem lw_r5 : ∀ q ∈ lw_privs_5, lw_okq q := List.forall_mem_cons.mpr ⟨lw_p64, List.forall_mem_cons.mpr ⟨lw_p65, List.forall_mem_cons.mpr ⟨lw_p66, List.forall_mem_cons.mpr ⟨lw_p67, List.forall_mem_cons.mpr ⟨lw_p68, List.forall_mem_cons.mpr ⟨lw_p69, List.forall_mem_cons.mpr ⟨lw_p70, List.forall_mem_cons.mpr ⟨lw_p71, List.forall_mem_cons.mpr ⟨lw_p72, List.forall_mem_cons.mpr ⟨lw_p73, fun _ h => absurd h List.not_mem_nil⟩⟩⟩⟩⟩⟩⟩⟩⟩⟩
def lw_privs : List (MethodName × Nat) := lw_privs_1 ++ (lw_privs_2 ++ (lw_privs_3 ++ (lw_privs_4 ++ (lw_privs_5))))
def lw_tbl : List Cond := k2_sels lw_privs ++ tables_1
theorem lw_privs_ok : ∀ q ∈ lw_privs, lw_okq q := by
  show ∀ q ∈ lw_privs_1 ++ (lw_privs_2 ++ (lw_privs_3 ++ (lw_privs_4 ++ (lw_privs_5)))), lw_okq q
  exact List.forall_mem_append.mpr ⟨lw_r1, List.forall_mem_append.mpr ⟨lw_r2, List.forall_mem_append.mpr ⟨lw_r3, List.forall_mem_append.mpr ⟨lw_r4, lw_r5⟩⟩⟩⟩
end
section
def RX0 : String := "WhenItWas$Books"
def TX0 : u_T := fun k => match k with
  | 0 => ("WhenItWas$Books", "least", "[I", true)
  | 1 => ("WhenItWas$Books", "greatest", "[I", true)
  | 2 => ("WhenItWas$Books", "trust", "[I", true)
  | _ => ("WhenItWas$Books", "size", "I", false)
def tyX0 : Nat → FieldType := fun k => match k with
  | 0 => .array .int
  | 1 => .array .int
  | 2 => .array .int
  | _ => .int
abbrev wsX00 : List Cond := u_ws RX0 TX0 4
theorem nmX0 : ∀ a, a < 4 → ∀ b, b < 4 → a ≠ b → (TX0 a).2.1 ≠ (TX0 b).2.1 := by decide +kernel
theorem tyX0_ok : ∀ k, k < 4 → parseFieldDescriptor (TX0 k).2.2.1 = some (tyX0 k) := by decide +kernel
abbrev cX0_init : ByteArray := prog_2_method_1_code
def yX0_init : MethodName := ⟨RX0, "<init>", "()V"⟩
abbrev cX0_open : ByteArray := prog_2_method_2_code
def yX0_open : MethodName := ⟨RX0, "open", "(II)I"⟩
abbrev cX0_trustTogether : ByteArray := prog_2_method_3_code
def yX0_trustTogether : MethodName := ⟨RX0, "trustTogether", "()I"⟩
def RX1 : String := "WhenItWas$Calendar"
def TX1 : u_T := fun k => match k with
  | _ => ("", "", "", false)
def tyX1 : Nat → FieldType := fun k => match k with
  | _ => .int
abbrev wsX10 : List Cond := u_ws RX1 TX1 0
theorem nmX1 : ∀ a, a < 0 → ∀ b, b < 0 → a ≠ b → (TX1 a).2.1 ≠ (TX1 b).2.1 := by decide +kernel
theorem tyX1_ok : ∀ k, k < 0 → parseFieldDescriptor (TX1 k).2.2.1 = some (tyX1 k) := by decide +kernel
abbrev cX1_isOne : ByteArray := prog_3_method_2_code
def yX1_isOne : MethodName := ⟨RX1, "isOne", "(I)Z"⟩
abbrev cX1_isDate : ByteArray := prog_3_method_3_code
def yX1_isDate : MethodName := ⟨RX1, "isDate", "(IIII)Z"⟩
abbrev cX1_dayNumber : ByteArray := prog_3_method_4_code
def yX1_dayNumber : MethodName := ⟨RX1, "dayNumber", "(IIII)I"⟩
abbrev cX1_hasDay : ByteArray := prog_3_method_5_code
def yX1_hasDay : MethodName := ⟨RX1, "hasDay", "(II)Z"⟩
abbrev cX1_yearWith : ByteArray := prog_3_method_6_code
def yX1_yearWith : MethodName := ⟨RX1, "yearWith", "(II)I"⟩
abbrev cX1_monthWith : ByteArray := prog_3_method_7_code
def yX1_monthWith : MethodName := ⟨RX1, "monthWith", "(III)I"⟩
abbrev cX1_isLeap : ByteArray := prog_3_method_8_code
def yX1_isLeap : MethodName := ⟨RX1, "isLeap", "(II)Z"⟩
abbrev cX1_leapsUpTo : ByteArray := prog_3_method_9_code
def yX1_leapsUpTo : MethodName := ⟨RX1, "leapsUpTo", "(II)I"⟩
def RX2 : String := "WhenItWas$Dates"
def TX2 : u_T := fun k => match k with
  | 0 => ("WhenItWas$Dates", "bytes", "[I", true)
  | 1 => ("WhenItWas$Dates", "length", "I", false)
  | 2 => ("WhenItWas$Dates", "from", "I", false)
  | 3 => ("WhenItWas$Dates", "until", "I", false)
  | 4 => ("WhenItWas$Dates", "place", "I", false)
  | 5 => ("WhenItWas$Dates", "number", "I", false)
  | _ => ("WhenItWas$Dates", "dayRead", "I", false)
def tyX2 : Nat → FieldType := fun k => match k with
  | 0 => .array .int
  | 1 => .int
  | 2 => .int
  | 3 => .int
  | 4 => .int
  | 5 => .int
  | _ => .int
abbrev wsX20 : List Cond := u_ws RX2 TX2 7
theorem nmX2 : ∀ a, a < 7 → ∀ b, b < 7 → a ≠ b → (TX2 a).2.1 ≠ (TX2 b).2.1 := by decide +kernel
theorem tyX2_ok : ∀ k, k < 7 → parseFieldDescriptor (TX2 k).2.2.1 = some (tyX2 k) := by decide +kernel
abbrev cX2_init : ByteArray := prog_4_method_1_code
def yX2_init : MethodName := ⟨RX2, "<init>", "()V"⟩
abbrev cX2_append : ByteArray := prog_4_method_2_code
def yX2_append : MethodName := ⟨RX2, "append", "(I)I"⟩
abbrev cX2_findFault : ByteArray := prog_4_method_3_code
def yX2_findFault : MethodName := ⟨RX2, "findFault", "()I"⟩
abbrev cX2_readSecond : ByteArray := prog_4_method_4_code
def yX2_readSecond : MethodName := ⟨RX2, "readSecond", "()I"⟩
abbrev cX2_readDate : ByteArray := prog_4_method_5_code
def yX2_readDate : MethodName := ⟨RX2, "readDate", "()I"⟩
abbrev cX2_readLetter : ByteArray := prog_4_method_6_code
def yX2_readLetter : MethodName := ⟨RX2, "readLetter", "(IIII)I"⟩
abbrev cX2_readDot : ByteArray := prog_4_method_7_code
def yX2_readDot : MethodName := ⟨RX2, "readDot", "()I"⟩
abbrev cX2_readNumber : ByteArray := prog_4_method_8_code
def yX2_readNumber : MethodName := ⟨RX2, "readNumber", "(II)I"⟩
abbrev cX2_isFigure : ByteArray := prog_4_method_9_code
def yX2_isFigure : MethodName := ⟨RX2, "isFigure", "(I)Z"⟩
abbrev cX2_signHere : ByteArray := prog_4_method_10_code
def yX2_signHere : MethodName := ⟨RX2, "signHere", "()I"⟩
def RX3 : String := "WhenItWas$Doubt"
def TX3 : u_T := fun k => match k with
  | 0 => ("WhenItWas$Doubt", "candidates", "[I", true)
  | 1 => ("WhenItWas$Doubt", "size", "I", false)
  | 2 => ("WhenItWas$Doubt", "blame", "[I", true)
  | 3 => ("WhenItWas$Doubt", "best", "J", false)
  | _ => ("WhenItWas$Doubt", "bestTrust", "I", false)
def tyX3 : Nat → FieldType := fun k => match k with
  | 0 => .array .int
  | 1 => .int
  | 2 => .array .int
  | 3 => .long
  | _ => .int
abbrev wsX30 : List Cond := u_ws RX3 TX3 5
theorem nmX3 : ∀ a, a < 5 → ∀ b, b < 5 → a ≠ b → (TX3 a).2.1 ≠ (TX3 b).2.1 := by decide +kernel
theorem tyX3_ok : ∀ k, k < 5 → parseFieldDescriptor (TX3 k).2.2.1 = some (tyX3 k) := by decide +kernel
abbrev cX3_init : ByteArray := prog_5_method_1_code
def yX3_init : MethodName := ⟨RX3, "<init>", "()V"⟩
abbrev cX3_clear : ByteArray := prog_5_method_2_code
def yX3_clear : MethodName := ⟨RX3, "clear", "()V"⟩
abbrev cX3_search : ByteArray := prog_5_method_3_code
def yX3_search : MethodName := ⟨RX3, "search", "(LWhenItWas$Net;J)V"⟩
abbrev cX3_tryAllOfSize : ByteArray := prog_5_method_4_code
def yX3_tryAllOfSize : MethodName := ⟨RX3, "tryAllOfSize", "(LWhenItWas$Net;JI)V"⟩
abbrev cX3_keep : ByteArray := prog_5_method_5_code
def yX3_keep : MethodName := ⟨RX3, "keep", "(JI)V"⟩
abbrev cX3_rowsOf : ByteArray := prog_5_method_6_code
def yX3_rowsOf : MethodName := ⟨RX3, "rowsOf", "(I)J"⟩
abbrev cX3_trustOf : ByteArray := prog_5_method_7_code
def yX3_trustOf : MethodName := ⟨RX3, "trustOf", "(LWhenItWas$Net;I)I"⟩
abbrev cX3_blameAll : ByteArray := prog_5_method_8_code
def yX3_blameAll : MethodName := ⟨RX3, "blameAll", "(I)V"⟩
def RX4 : String := "WhenItWas$Kin"
def TX4 : u_T := fun k => match k with
  | 0 => ("WhenItWas$Kin", "differences", "[I", true)
  | 1 => ("WhenItWas$Kin", "size", "I", false)
  | 2 => ("WhenItWas$Kin", "most", "I", false)
  | _ => ("WhenItWas$Kin", "number", "I", false)
def tyX4 : Nat → FieldType := fun k => match k with
  | 0 => .array .int
  | 1 => .int
  | 2 => .int
  | _ => .int
abbrev wsX40 : List Cond := u_ws RX4 TX4 4
theorem nmX4 : ∀ a, a < 4 → ∀ b, b < 4 → a ≠ b → (TX4 a).2.1 ≠ (TX4 b).2.1 := by decide +kernel
theorem tyX4_ok : ∀ k, k < 4 → parseFieldDescriptor (TX4 k).2.2.1 = some (tyX4 k) := by decide +kernel
abbrev cX4_init : ByteArray := prog_6_method_1_code
def yX4_init : MethodName := ⟨RX4, "<init>", "()V"⟩
abbrev cX4_compare : ByteArray := prog_6_method_2_code
def yX4_compare : MethodName := ⟨RX4, "compare", "(LWhenItWas$Rows;JII)V"⟩
abbrev cX4_weigh : ByteArray := prog_6_method_3_code
def yX4_weigh : MethodName := ⟨RX4, "weigh", "(I)V"⟩
def RX5 : String := "WhenItWas$Lines"
def TX5 : u_T := fun k => match k with
  | 0 => ("WhenItWas$Lines", "before", "[I", true)
  | 1 => ("WhenItWas$Lines", "ways", "[I", true)
  | 2 => ("WhenItWas$Lines", "waysOn", "[I", true)
  | 3 => ("WhenItWas$Lines", "pairs", "[I", true)
  | _ => ("WhenItWas$Lines", "size", "I", false)
def tyX5 : Nat → FieldType := fun k => match k with
  | 0 => .array .int
  | 1 => .array .int
  | 2 => .array .int
  | 3 => .array .int
  | _ => .int
abbrev wsX50 : List Cond := u_ws RX5 TX5 5
theorem nmX5 : ∀ a, a < 5 → ∀ b, b < 5 → a ≠ b → (TX5 a).2.1 ≠ (TX5 b).2.1 := by decide +kernel
theorem tyX5_ok : ∀ k, k < 5 → parseFieldDescriptor (TX5 k).2.2.1 = some (tyX5 k) := by decide +kernel
abbrev cX5_init : ByteArray := prog_7_method_1_code
def yX5_init : MethodName := ⟨RX5, "<init>", "()V"⟩
abbrev cX5_clear : ByteArray := prog_7_method_2_code
def yX5_clear : MethodName := ⟨RX5, "clear", "(I)V"⟩
abbrev cX5_setAhead : ByteArray := prog_7_method_3_code
def yX5_setAhead : MethodName := ⟨RX5, "setAhead", "(II)V"⟩
abbrev cX5_waysFrom : ByteArray := prog_7_method_4_code
def yX5_waysFrom : MethodName := ⟨RX5, "waysFrom", "(I)I"⟩
abbrev cX5_bestPair : ByteArray := prog_7_method_5_code
def yX5_bestPair : MethodName := ⟨RX5, "bestPair", "()I"⟩
abbrev cX5_isSure : ByteArray := prog_7_method_6_code
def yX5_isSure : MethodName := ⟨RX5, "isSure", "(II)Z"⟩
abbrev cX5_mayFollow : ByteArray := prog_7_method_7_code
def yX5_mayFollow : MethodName := ⟨RX5, "mayFollow", "(II)Z"⟩
abbrev cX5_countWaysOn : ByteArray := prog_7_method_8_code
def yX5_countWaysOn : MethodName := ⟨RX5, "countWaysOn", "()V"⟩
abbrev cX5_countPairs : ByteArray := prog_7_method_9_code
def yX5_countPairs : MethodName := ⟨RX5, "countPairs", "()V"⟩
abbrev cX5_addToPairs : ByteArray := prog_7_method_10_code
def yX5_addToPairs : MethodName := ⟨RX5, "addToPairs", "(III)V"⟩
def RX6 : String := "WhenItWas$Net"
def TX6 : u_T := fun k => match k with
  | 0 => ("WhenItWas$Net", "rows", "LWhenItWas$Rows;", true)
  | 1 => ("WhenItWas$Net", "books", "LWhenItWas$Books;", true)
  | 2 => ("WhenItWas$Net", "from", "[I", true)
  | 3 => ("WhenItWas$Net", "to", "[I", true)
  | 4 => ("WhenItWas$Net", "x", "[I", true)
  | 5 => ("WhenItWas$Net", "y", "[I", true)
  | 6 => ("WhenItWas$Net", "size", "I", false)
  | 7 => ("WhenItWas$Net", "floor", "[I", true)
  | 8 => ("WhenItWas$Net", "ceiling", "[I", true)
  | 9 => ("WhenItWas$Net", "most", "[I", true)
  | 10 => ("WhenItWas$Net", "leastTurned", "[I", true)
  | 11 => ("WhenItWas$Net", "reach", "[I", true)
  | _ => ("WhenItWas$Net", "nextReach", "[I", true)
def tyX6 : Nat → FieldType := fun k => match k with
  | 0 => .object "WhenItWas$Rows"
  | 1 => .object "WhenItWas$Books"
  | 2 => .array .int
  | 3 => .array .int
  | 4 => .array .int
  | 5 => .array .int
  | 6 => .int
  | 7 => .array .int
  | 8 => .array .int
  | 9 => .array .int
  | 10 => .array .int
  | 11 => .array .int
  | _ => .array .int
abbrev wsX60 : List Cond := u_ws RX6 TX6 13
theorem nmX6 : ∀ a, a < 13 → ∀ b, b < 13 → a ≠ b → (TX6 a).2.1 ≠ (TX6 b).2.1 := by decide +kernel
theorem tyX6_ok : ∀ k, k < 13 → parseFieldDescriptor (TX6 k).2.2.1 = some (tyX6 k) := by decide +kernel
abbrev cX6_init : ByteArray := prog_8_method_1_code
def yX6_init : MethodName := ⟨RX6, "<init>", "()V"⟩
abbrev cX6_canHold : ByteArray := prog_8_method_2_code
def yX6_canHold : MethodName := ⟨RX6, "canHold", "(J)Z"⟩
abbrev cX6_solve : ByteArray := prog_8_method_3_code
def yX6_solve : MethodName := ⟨RX6, "solve", "(J)Z"⟩
abbrev cX6_endOfThing : ByteArray := prog_8_method_4_code
def yX6_endOfThing : MethodName := ⟨RX6, "endOfThing", "(II)I"⟩
abbrev cX6_endOfClock : ByteArray := prog_8_method_5_code
def yX6_endOfClock : MethodName := ⟨RX6, "endOfClock", "(II)I"⟩
abbrev cX6_spanKey : ByteArray := prog_8_method_6_code
def yX6_spanKey : MethodName := ⟨RX6, "spanKey", "(IJ)J"⟩
abbrev cX6_measureFrom : ByteArray := prog_8_method_7_code
def yX6_measureFrom : MethodName := ⟨RX6, "measureFrom", "(I)V"⟩
abbrev cX6_mostBehind : ByteArray := prog_8_method_8_code
def yX6_mostBehind : MethodName := ⟨RX6, "mostBehind", "(II)I"⟩
abbrev cX6_stepsToEnd : ByteArray := prog_8_method_9_code
def yX6_stepsToEnd : MethodName := ⟨RX6, "stepsToEnd", "(IZ)I"⟩
abbrev cX6_turnFloorInto : ByteArray := prog_8_method_10_code
def yX6_turnFloorInto : MethodName := ⟨RX6, "turnFloorInto", "([I)V"⟩
abbrev cX6_load : ByteArray := prog_8_method_11_code
def yX6_load : MethodName := ⟨RX6, "load", "(J)V"⟩
abbrev cX6_addRow : ByteArray := prog_8_method_12_code
def yX6_addRow : MethodName := ⟨RX6, "addRow", "(I)V"⟩
abbrev cX6_settle : ByteArray := prog_8_method_13_code
def yX6_settle : MethodName := ⟨RX6, "settle", "([IZ)Z"⟩
abbrev cX6_sweep : ByteArray := prog_8_method_14_code
def yX6_sweep : MethodName := ⟨RX6, "sweep", "([IZ)Z"⟩
abbrev cX6_stepOnce : ByteArray := prog_8_method_15_code
def yX6_stepOnce : MethodName := ⟨RX6, "stepOnce", "(Z)V"⟩
def RX7 : String := "WhenItWas$Rows"
def TX7 : u_T := fun k => match k with
  | 0 => ("WhenItWas$Rows", "book", "[I", true)
  | 1 => ("WhenItWas$Rows", "thing", "[I", true)
  | 2 => ("WhenItWas$Rows", "other", "[I", true)
  | 3 => ("WhenItWas$Rows", "x", "[I", true)
  | 4 => ("WhenItWas$Rows", "y", "[I", true)
  | 5 => ("WhenItWas$Rows", "told", "[I", true)
  | 6 => ("WhenItWas$Rows", "taken", "[I", true)
  | _ => ("WhenItWas$Rows", "size", "I", false)
def tyX7 : Nat → FieldType := fun k => match k with
  | 0 => .array .int
  | 1 => .array .int
  | 2 => .array .int
  | 3 => .array .int
  | 4 => .array .int
  | 5 => .array .int
  | 6 => .array .int
  | _ => .int
abbrev wsX70 : List Cond := u_ws RX7 TX7 8
theorem nmX7 : ∀ a, a < 8 → ∀ b, b < 8 → a ≠ b → (TX7 a).2.1 ≠ (TX7 b).2.1 := by decide +kernel
theorem tyX7_ok : ∀ k, k < 8 → parseFieldDescriptor (TX7 k).2.2.1 = some (tyX7 k) := by decide +kernel
abbrev cX7_init : ByteArray := prog_9_method_1_code
def yX7_init : MethodName := ⟨RX7, "<init>", "()V"⟩
abbrev cX7_tell : ByteArray := prog_9_method_2_code
def yX7_tell : MethodName := ⟨RX7, "tell", "(IIIIII)I"⟩
abbrev cX7_isKnown : ByteArray := prog_9_method_3_code
def yX7_isKnown : MethodName := ⟨RX7, "isKnown", "(II)Z"⟩
abbrev cX7_isOnBy : ByteArray := prog_9_method_4_code
def yX7_isOnBy : MethodName := ⟨RX7, "isOnBy", "(II)Z"⟩
abbrev cX7_knownAsOf : ByteArray := prog_9_method_5_code
def yX7_knownAsOf : MethodName := ⟨RX7, "knownAsOf", "(I)J"⟩
abbrev cX7_howManyOn : ByteArray := prog_9_method_6_code
def yX7_howManyOn : MethodName := ⟨RX7, "howManyOn", "(J)I"⟩
abbrev cX7_nextDayOfNews : ByteArray := prog_9_method_7_code
def yX7_nextDayOfNews : MethodName := ⟨RX7, "nextDayOfNews", "(I)I"⟩
abbrev cX7_nearer : ByteArray := prog_9_method_8_code
def yX7_nearer : MethodName := ⟨RX7, "nearer", "(III)I"⟩
abbrev cX7_exactDay : ByteArray := prog_9_method_9_code
def yX7_exactDay : MethodName := ⟨RX7, "exactDay", "(JII)I"⟩
def RX8 : String := "WhenItWas$Sheets"
def TX8 : u_T := fun k => match k with
  | 0 => ("WhenItWas$Sheets", "kind", "[I", true)
  | 1 => ("WhenItWas$Sheets", "size", "[I", true)
  | _ => ("WhenItWas$Sheets", "items", "[I", true)
def tyX8 : Nat → FieldType := fun k => match k with
  | 0 => .array .int
  | 1 => .array .int
  | _ => .array .int
abbrev wsX80 : List Cond := u_ws RX8 TX8 3
theorem nmX8 : ∀ a, a < 3 → ∀ b, b < 3 → a ≠ b → (TX8 a).2.1 ≠ (TX8 b).2.1 := by decide +kernel
theorem tyX8_ok : ∀ k, k < 3 → parseFieldDescriptor (TX8 k).2.2.1 = some (tyX8 k) := by decide +kernel
abbrev cX8_init : ByteArray := prog_10_method_1_code
def yX8_init : MethodName := ⟨RX8, "<init>", "()V"⟩
abbrev cX8_isLost : ByteArray := prog_10_method_2_code
def yX8_isLost : MethodName := ⟨RX8, "isLost", "(I)Z"⟩
abbrev cX8_renew : ByteArray := prog_10_method_3_code
def yX8_renew : MethodName := ⟨RX8, "renew", "(III)V"⟩
abbrev cX8_hindrance : ByteArray := prog_10_method_4_code
def yX8_hindrance : MethodName := ⟨RX8, "hindrance", "(III)I"⟩
abbrev cX8_has : ByteArray := prog_10_method_5_code
def yX8_has : MethodName := ⟨RX8, "has", "(III)Z"⟩
abbrev cX8_item : ByteArray := prog_10_method_6_code
def yX8_item : MethodName := ⟨RX8, "item", "(II)I"⟩
abbrev cX8_store : ByteArray := prog_10_method_7_code
def yX8_store : MethodName := ⟨RX8, "store", "(III)V"⟩
abbrev cX8_move : ByteArray := prog_10_method_8_code
def yX8_move : MethodName := ⟨RX8, "move", "(IIIII)V"⟩
abbrev cX8_narrowed : ByteArray := prog_10_method_9_code
def yX8_narrowed : MethodName := ⟨RX8, "narrowed", "(II)I"⟩
def RX9 : String := "WhenItWas"
def TX9 : u_T := fun k => match k with
  | 0 => ("WhenItWas", "net", "LWhenItWas$Net;", true)
  | 1 => ("WhenItWas", "books", "LWhenItWas$Books;", true)
  | 2 => ("WhenItWas", "rows", "LWhenItWas$Rows;", true)
  | 3 => ("WhenItWas", "doubt", "LWhenItWas$Doubt;", true)
  | 4 => ("WhenItWas", "lines", "LWhenItWas$Lines;", true)
  | 5 => ("WhenItWas", "kindred", "LWhenItWas$Kin;", true)
  | 6 => ("WhenItWas", "dates", "LWhenItWas$Dates;", true)
  | 7 => ("WhenItWas", "sheets", "LWhenItWas$Sheets;", true)
  | 8 => ("WhenItWas", "today", "I", false)
  | 9 => ("WhenItWas", "view", "I", false)
  | 10 => ("WhenItWas", "things", "I", false)
  | _ => ("WhenItWas", "finding", "I", false)
def tyX9 : Nat → FieldType := fun k => match k with
  | 0 => .object "WhenItWas$Net"
  | 1 => .object "WhenItWas$Books"
  | 2 => .object "WhenItWas$Rows"
  | 3 => .object "WhenItWas$Doubt"
  | 4 => .object "WhenItWas$Lines"
  | 5 => .object "WhenItWas$Kin"
  | 6 => .object "WhenItWas$Dates"
  | 7 => .object "WhenItWas$Sheets"
  | 8 => .int
  | 9 => .int
  | 10 => .int
  | _ => .int
abbrev wsX90 : List Cond := u_ws RX9 TX9 12
theorem nmX9 : ∀ a, a < 12 → ∀ b, b < 12 → a ≠ b → (TX9 a).2.1 ≠ (TX9 b).2.1 := by decide +kernel
theorem tyX9_ok : ∀ k, k < 12 → parseFieldDescriptor (TX9 k).2.2.1 = some (tyX9 k) := by decide +kernel
abbrev cX9_init : ByteArray := prog_1_method_1_code
def yX9_init : MethodName := ⟨RX9, "<init>", "()V"⟩
abbrev cX9_pass : ByteArray := prog_1_method_2_code
def yX9_pass : MethodName := ⟨RX9, "pass", "(I)I"⟩
abbrev cX9_thing : ByteArray := prog_1_method_3_code
def yX9_thing : MethodName := ⟨RX9, "thing", "()I"⟩
abbrev cX9_book : ByteArray := prog_1_method_4_code
def yX9_book : MethodName := ⟨RX9, "book", "(II)I"⟩
abbrev cX9_trust : ByteArray := prog_1_method_5_code
def yX9_trust : MethodName := ⟨RX9, "trust", "(II)I"⟩
abbrev cX9_on : ByteArray := prog_1_method_6_code
def yX9_on : MethodName := ⟨RX9, "on", "(IIII)I"⟩
abbrev cX9_apart : ByteArray := prog_1_method_7_code
def yX9_apart : MethodName := ⟨RX9, "apart", "(IIIII)I"⟩
abbrev cX9_read : ByteArray := prog_1_method_8_code
def yX9_read : MethodName := ⟨RX9, "read", "(I)I"⟩
abbrev cX9_takeBack : ByteArray := prog_1_method_9_code
def yX9_takeBack : MethodName := ⟨RX9, "takeBack", "(I)I"⟩
abbrev cX9_about : ByteArray := prog_1_method_10_code
def yX9_about : MethodName := ⟨RX9, "about", "(II)I"⟩
abbrev cX9_asOf : ByteArray := prog_1_method_11_code
def yX9_asOf : MethodName := ⟨RX9, "asOf", "(I)I"⟩
abbrev cX9_can : ByteArray := prog_1_method_12_code
def yX9_can : MethodName := ⟨RX9, "can", "(J)I"⟩
abbrev cX9_all : ByteArray := prog_1_method_13_code
def yX9_all : MethodName := ⟨RX9, "all", "()I"⟩
abbrev cX9_span : ByteArray := prog_1_method_14_code
def yX9_span : MethodName := ⟨RX9, "span", "(II)I"⟩
abbrev cX9_clock : ByteArray := prog_1_method_15_code
def yX9_clock : MethodName := ⟨RX9, "clock", "(II)I"⟩
abbrev cX9_between : ByteArray := prog_1_method_16_code
def yX9_between : MethodName := ⟨RX9, "between", "(III)I"⟩
abbrev cX9_led : ByteArray := prog_1_method_17_code
def yX9_led : MethodName := ⟨RX9, "led", "(II)I"⟩
abbrev cX9_changed : ByteArray := prog_1_method_18_code
def yX9_changed : MethodName := ⟨RX9, "changed", "(II)I"⟩
abbrev cX9_fits : ByteArray := prog_1_method_19_code
def yX9_fits : MethodName := ⟨RX9, "fits", "(I)I"⟩
abbrev cX9_room : ByteArray := prog_1_method_20_code
def yX9_room : MethodName := ⟨RX9, "room", "(II)I"⟩
abbrev cX9_kin : ByteArray := prog_1_method_21_code
def yX9_kin : MethodName := ⟨RX9, "kin", "(III)I"⟩
abbrev cX9_hangs : ByteArray := prog_1_method_22_code
def yX9_hangs : MethodName := ⟨RX9, "hangs", "(I)J"⟩
abbrev cX9_doubts : ByteArray := prog_1_method_23_code
def yX9_doubts : MethodName := ⟨RX9, "doubts", "()J"⟩
abbrev cX9_blamed : ByteArray := prog_1_method_24_code
def yX9_blamed : MethodName := ⟨RX9, "blamed", "(I)I"⟩
abbrev cX9_ahead : ByteArray := prog_1_method_25_code
def yX9_ahead : MethodName := ⟨RX9, "ahead", "(II)I"⟩
abbrev cX9_orders : ByteArray := prog_1_method_26_code
def yX9_orders : MethodName := ⟨RX9, "orders", "()J"⟩
abbrev cX9_share : ByteArray := prog_1_method_27_code
def yX9_share : MethodName := ⟨RX9, "share", "(III)J"⟩
abbrev cX9_first : ByteArray := prog_1_method_28_code
def yX9_first : MethodName := ⟨RX9, "first", "(I)J"⟩
abbrev cX9_question : ByteArray := prog_1_method_29_code
def yX9_question : MethodName := ⟨RX9, "question", "()I"⟩
abbrev cX9_dayOf : ByteArray := prog_1_method_30_code
def yX9_dayOf : MethodName := ⟨RX9, "dayOf", "(IIII)I"⟩
abbrev cX9_dateOf : ByteArray := prog_1_method_31_code
def yX9_dateOf : MethodName := ⟨RX9, "dateOf", "(III)I"⟩
abbrev cX9_type : ByteArray := prog_1_method_32_code
def yX9_type : MethodName := ⟨RX9, "type", "(I)I"⟩
abbrev cX9_wipe : ByteArray := prog_1_method_33_code
def yX9_wipe : MethodName := ⟨RX9, "wipe", "()I"⟩
abbrev cX9_fault : ByteArray := prog_1_method_34_code
def yX9_fault : MethodName := ⟨RX9, "fault", "()I"⟩
abbrev cX9_said : ByteArray := prog_1_method_35_code
def yX9_said : MethodName := ⟨RX9, "said", "(II)I"⟩
abbrev cX9_sheet : ByteArray := prog_1_method_36_code
def yX9_sheet : MethodName := ⟨RX9, "sheet", "(III)I"⟩
abbrev cX9_lose : ByteArray := prog_1_method_37_code
def yX9_lose : MethodName := ⟨RX9, "lose", "(I)I"⟩
abbrev cX9_put : ByteArray := prog_1_method_38_code
def yX9_put : MethodName := ⟨RX9, "put", "(IIII)I"⟩
abbrev cX9_get : ByteArray := prog_1_method_39_code
def yX9_get : MethodName := ⟨RX9, "get", "(III)I"⟩
abbrev cX9_copy : ByteArray := prog_1_method_40_code
def yX9_copy : MethodName := ⟨RX9, "copy", "(IIIII)I"⟩
abbrev cX9_write : ByteArray := prog_1_method_41_code
def yX9_write : MethodName := ⟨RX9, "write", "(I)I"⟩
abbrev cX9_count : ByteArray := prog_1_method_42_code
def yX9_count : MethodName := ⟨RX9, "count", "(I)I"⟩
abbrev cX9_digest : ByteArray := prog_1_method_43_code
def yX9_digest : MethodName := ⟨RX9, "digest", "()J"⟩
abbrev cX9_digestSpans : ByteArray := prog_1_method_44_code
def yX9_digestSpans : MethodName := ⟨RX9, "digestSpans", "(J)J"⟩
abbrev cX9_isThing : ByteArray := prog_1_method_45_code
def yX9_isThing : MethodName := ⟨RX9, "isThing", "(I)Z"⟩
abbrev cX9_areTwoThings : ByteArray := prog_1_method_46_code
def yX9_areTwoThings : MethodName := ⟨RX9, "areTwoThings", "(II)Z"⟩
abbrev cX9_isBook : ByteArray := prog_1_method_47_code
def yX9_isBook : MethodName := ⟨RX9, "isBook", "(I)Z"⟩
abbrev cX9_isRow : ByteArray := prog_1_method_48_code
def yX9_isRow : MethodName := ⟨RX9, "isRow", "(I)Z"⟩
abbrev cX9_isSheet : ByteArray := prog_1_method_49_code
def yX9_isSheet : MethodName := ⟨RX9, "isSheet", "(I)Z"⟩
abbrev cX9_isType : ByteArray := prog_1_method_50_code
def yX9_isType : MethodName := ⟨RX9, "isType", "(I)Z"⟩
abbrev cX9_isEnd : ByteArray := prog_1_method_51_code
def yX9_isEnd : MethodName := ⟨RX9, "isEnd", "(I)Z"⟩
abbrev cX9_isRange : ByteArray := prog_1_method_52_code
def yX9_isRange : MethodName := ⟨RX9, "isRange", "(III)Z"⟩
abbrev cX9_oneIf : ByteArray := prog_1_method_53_code
def yX9_oneIf : MethodName := ⟨RX9, "oneIf", "(Z)I"⟩
abbrev cX9_asLong : ByteArray := prog_1_method_54_code
def yX9_asLong : MethodName := ⟨RX9, "asLong", "(I)J"⟩
abbrev cX9_commonDivisor : ByteArray := prog_1_method_55_code
def yX9_commonDivisor : MethodName := ⟨RX9, "commonDivisor", "(JJ)J"⟩
abbrev cX9_found : ByteArray := prog_1_method_56_code
def yX9_found : MethodName := ⟨RX9, "found", "(I)I"⟩
abbrev cX9_dayOfView : ByteArray := prog_1_method_57_code
def yX9_dayOfView : MethodName := ⟨RX9, "dayOfView", "()I"⟩
abbrev cX9_knownRows : ByteArray := prog_1_method_58_code
def yX9_knownRows : MethodName := ⟨RX9, "knownRows", "()J"⟩
abbrev cX9_tellFromSheet : ByteArray := prog_1_method_59_code
def yX9_tellFromSheet : MethodName := ⟨RX9, "tellFromSheet", "(II)I"⟩
abbrev cX9_isFitting : ByteArray := prog_1_method_60_code
def yX9_isFitting : MethodName := ⟨RX9, "isFitting", "(I)Z"⟩
abbrev cX9_areApartAsTold : ByteArray := prog_1_method_61_code
def yX9_areApartAsTold : MethodName := ⟨RX9, "areApartAsTold", "(I)Z"⟩
abbrev cX9_areClocksPossible : ByteArray := prog_1_method_62_code
def yX9_areClocksPossible : MethodName := ⟨RX9, "areClocksPossible", "(I)Z"⟩
abbrev cX9_roomByDays : ByteArray := prog_1_method_63_code
def yX9_roomByDays : MethodName := ⟨RX9, "roomByDays", "(II)I"⟩
abbrev cX9_lookForDoubts : ByteArray := prog_1_method_64_code
def yX9_lookForDoubts : MethodName := ⟨RX9, "lookForDoubts", "(J)I"⟩
abbrev cX9_layLines : ByteArray := prog_1_method_65_code
def yX9_layLines : MethodName := ⟨RX9, "layLines", "()Z"⟩
def RX10 : String := "WhenItWasModel"
def TX10 : u_T := fun k => match k with
  | 0 => ("WhenItWasModel", "day", "I", false)
  | 1 => ("WhenItWasModel", "things", "I", false)
  | 2 => ("WhenItWasModel", "books", "I", false)
  | 3 => ("WhenItWasModel", "clockLow", "[I", true)
  | 4 => ("WhenItWasModel", "clockHigh", "[I", true)
  | 5 => ("WhenItWasModel", "trustOf", "[I", true)
  | 6 => ("WhenItWasModel", "rows", "I", false)
  | 7 => ("WhenItWasModel", "rowBook", "[I", true)
  | 8 => ("WhenItWasModel", "rowThing", "[I", true)
  | 9 => ("WhenItWasModel", "rowOther", "[I", true)
  | 10 => ("WhenItWasModel", "rowX", "[I", true)
  | 11 => ("WhenItWasModel", "rowY", "[I", true)
  | 12 => ("WhenItWasModel", "rowTold", "[I", true)
  | 13 => ("WhenItWasModel", "rowBack", "[I", true)
  | 14 => ("WhenItWasModel", "knownTo", "I", false)
  | 15 => ("WhenItWasModel", "far", "[I", true)
  | 16 => ("WhenItWasModel", "reach", "[I", true)
  | 17 => ("WhenItWasModel", "steps", "[I", true)
  | 18 => ("WhenItWasModel", "couldBe", "Z", false)
  | 19 => ("WhenItWasModel", "leastWas", "I", false)
  | 20 => ("WhenItWasModel", "greatestWas", "I", false)
  | 21 => ("WhenItWasModel", "offLow", "[I", true)
  | 22 => ("WhenItWasModel", "offHigh", "[I", true)
  | 23 => ("WhenItWasModel", "kinBy", "[I", true)
  | 24 => ("WhenItWasModel", "asked", "[I", true)
  | 25 => ("WhenItWasModel", "askedMany", "I", false)
  | 26 => ("WhenItWasModel", "blames", "[I", true)
  | 27 => ("WhenItWasModel", "doubtBits", "J", false)
  | 28 => ("WhenItWasModel", "aheadOf", "[I", true)
  | 29 => ("WhenItWasModel", "countOf", "[J", true)
  | 30 => ("WhenItWasModel", "typed", "I", false)
  | 31 => ("WhenItWasModel", "text", "[I", true)
  | 32 => ("WhenItWasModel", "at", "I", false)
  | 33 => ("WhenItWasModel", "fault", "I", false)
  | 34 => ("WhenItWasModel", "firstDay", "I", false)
  | 35 => ("WhenItWasModel", "secondDay", "I", false)
  | 36 => ("WhenItWasModel", "isThere", "[Z", true)
  | 37 => ("WhenItWasModel", "types", "[I", true)
  | 38 => ("WhenItWasModel", "sizes", "[I", true)
  | 39 => ("WhenItWasModel", "items", "[I", true)
  | 40 => ("WhenItWasModel", "moved", "[I", true)
  | _ => ("WhenItWasModel", "finding", "I", false)
def tyX10 : Nat → FieldType := fun k => match k with
  | 0 => .int
  | 1 => .int
  | 2 => .int
  | 3 => .array .int
  | 4 => .array .int
  | 5 => .array .int
  | 6 => .int
  | 7 => .array .int
  | 8 => .array .int
  | 9 => .array .int
  | 10 => .array .int
  | 11 => .array .int
  | 12 => .array .int
  | 13 => .array .int
  | 14 => .int
  | 15 => .array .int
  | 16 => .array .int
  | 17 => .array .int
  | 18 => .boolean
  | 19 => .int
  | 20 => .int
  | 21 => .array .int
  | 22 => .array .int
  | 23 => .array .int
  | 24 => .array .int
  | 25 => .int
  | 26 => .array .int
  | 27 => .long
  | 28 => .array .int
  | 29 => .array .long
  | 30 => .int
  | 31 => .array .int
  | 32 => .int
  | 33 => .int
  | 34 => .int
  | 35 => .int
  | 36 => .array .boolean
  | 37 => .array .int
  | 38 => .array .int
  | 39 => .array .int
  | 40 => .array .int
  | _ => .int
abbrev wsX100 : List Cond := u_ws RX10 TX10 42
theorem nmX10 : ∀ a, a < 42 → ∀ b, b < 42 → a ≠ b → (TX10 a).2.1 ≠ (TX10 b).2.1 := by decide +kernel
theorem tyX10_ok : ∀ k, k < 42 → parseFieldDescriptor (TX10 k).2.2.1 = some (tyX10 k) := by decide +kernel
abbrev cX10_init : ByteArray := prog_12_method_1_code
def yX10_init : MethodName := ⟨RX10, "<init>", "()V"⟩
abbrev cX10_in : ByteArray := prog_12_method_3_code
def yX10_in : MethodName := ⟨RX10, "in", "(III)Z"⟩
abbrev cX10_isThing : ByteArray := prog_12_method_4_code
def yX10_isThing : MethodName := ⟨RX10, "isThing", "(I)Z"⟩
abbrev cX10_isBook : ByteArray := prog_12_method_5_code
def yX10_isBook : MethodName := ⟨RX10, "isBook", "(I)Z"⟩
abbrev cX10_isKnownTo : ByteArray := prog_12_method_6_code
def yX10_isKnownTo : MethodName := ⟨RX10, "isKnownTo", "(II)Z"⟩
abbrev cX10_isKnown : ByteArray := prog_12_method_7_code
def yX10_isKnown : MethodName := ⟨RX10, "isKnown", "(I)Z"⟩
abbrev cX10_knownBits : ByteArray := prog_12_method_8_code
def yX10_knownBits : MethodName := ⟨RX10, "knownBits", "(I)J"⟩
abbrev cX10_knownNow : ByteArray := prog_12_method_9_code
def yX10_knownNow : MethodName := ⟨RX10, "knownNow", "()J"⟩
abbrev cX10_pass : ByteArray := prog_12_method_10_code
def yX10_pass : MethodName := ⟨RX10, "pass", "(I)I"⟩
abbrev cX10_thing : ByteArray := prog_12_method_11_code
def yX10_thing : MethodName := ⟨RX10, "thing", "()I"⟩
abbrev cX10_book : ByteArray := prog_12_method_12_code
def yX10_book : MethodName := ⟨RX10, "book", "(II)I"⟩
abbrev cX10_trust : ByteArray := prog_12_method_13_code
def yX10_trust : MethodName := ⟨RX10, "trust", "(II)I"⟩
abbrev cX10_rowMore : ByteArray := prog_12_method_14_code
def yX10_rowMore : MethodName := ⟨RX10, "rowMore", "(IIIII)I"⟩
abbrev cX10_onMore : ByteArray := prog_12_method_15_code
def yX10_onMore : MethodName := ⟨RX10, "onMore", "(IIII)I"⟩
abbrev cX10_apartMore : ByteArray := prog_12_method_16_code
def yX10_apartMore : MethodName := ⟨RX10, "apartMore", "(IIIII)I"⟩
abbrev cX10_on : ByteArray := prog_12_method_17_code
def yX10_on : MethodName := ⟨RX10, "on", "(IIII)I"⟩
abbrev cX10_apart : ByteArray := prog_12_method_18_code
def yX10_apart : MethodName := ⟨RX10, "apart", "(IIIII)I"⟩
abbrev cX10_read : ByteArray := prog_12_method_19_code
def yX10_read : MethodName := ⟨RX10, "read", "(I)I"⟩
abbrev cX10_takeBack : ByteArray := prog_12_method_20_code
def yX10_takeBack : MethodName := ⟨RX10, "takeBack", "(I)I"⟩
abbrev cX10_aboutOf : ByteArray := prog_12_method_21_code
def yX10_aboutOf : MethodName := ⟨RX10, "aboutOf", "(II)I"⟩
abbrev cX10_about : ByteArray := prog_12_method_22_code
def yX10_about : MethodName := ⟨RX10, "about", "(II)I"⟩
abbrev cX10_asOf : ByteArray := prog_12_method_23_code
def yX10_asOf : MethodName := ⟨RX10, "asOf", "(I)I"⟩
abbrev cX10_atMost : ByteArray := prog_12_method_24_code
def yX10_atMost : MethodName := ⟨RX10, "atMost", "(III)V"⟩
abbrev cX10_leansOn : ByteArray := prog_12_method_25_code
def yX10_leansOn : MethodName := ⟨RX10, "leansOn", "(I)I"⟩
abbrev cX10_works : ByteArray := prog_12_method_26_code
def yX10_works : MethodName := ⟨RX10, "works", "(J)Z"⟩
abbrev cX10_can : ByteArray := prog_12_method_27_code
def yX10_can : MethodName := ⟨RX10, "can", "(J)I"⟩
abbrev cX10_canAll : ByteArray := prog_12_method_28_code
def yX10_canAll : MethodName := ⟨RX10, "canAll", "()Z"⟩
abbrev cX10_all : ByteArray := prog_12_method_29_code
def yX10_all : MethodName := ⟨RX10, "all", "()I"⟩
abbrev cX10_endOf : ByteArray := prog_12_method_30_code
def yX10_endOf : MethodName := ⟨RX10, "endOf", "(II)I"⟩
abbrev cX10_span : ByteArray := prog_12_method_31_code
def yX10_span : MethodName := ⟨RX10, "span", "(II)I"⟩
abbrev cX10_clockEnd : ByteArray := prog_12_method_32_code
def yX10_clockEnd : MethodName := ⟨RX10, "clockEnd", "(II)I"⟩
abbrev cX10_clock : ByteArray := prog_12_method_33_code
def yX10_clock : MethodName := ⟨RX10, "clock", "(II)I"⟩
abbrev cX10_areTwo : ByteArray := prog_12_method_34_code
def yX10_areTwo : MethodName := ⟨RX10, "areTwo", "(II)Z"⟩
abbrev cX10_between : ByteArray := prog_12_method_35_code
def yX10_between : MethodName := ⟨RX10, "between", "(III)I"⟩
abbrev cX10_nears : ByteArray := prog_12_method_36_code
def yX10_nears : MethodName := ⟨RX10, "nears", "(III)Z"⟩
abbrev cX10_led : ByteArray := prog_12_method_37_code
def yX10_led : MethodName := ⟨RX10, "led", "(II)I"⟩
abbrev cX10_isOther : ByteArray := prog_12_method_38_code
def yX10_isOther : MethodName := ⟨RX10, "isOther", "(II)Z"⟩
abbrev cX10_changed : ByteArray := prog_12_method_39_code
def yX10_changed : MethodName := ⟨RX10, "changed", "(II)I"⟩
abbrev cX10_isFitting : ByteArray := prog_12_method_40_code
def yX10_isFitting : MethodName := ⟨RX10, "isFitting", "(I)Z"⟩
abbrev cX10_fits : ByteArray := prog_12_method_41_code
def yX10_fits : MethodName := ⟨RX10, "fits", "(I)I"⟩
abbrev cX10_room : ByteArray := prog_12_method_42_code
def yX10_room : MethodName := ⟨RX10, "room", "(II)I"⟩
abbrev cX10_latest : ByteArray := prog_12_method_43_code
def yX10_latest : MethodName := ⟨RX10, "latest", "(II)I"⟩
abbrev cX10_kin : ByteArray := prog_12_method_44_code
def yX10_kin : MethodName := ⟨RX10, "kin", "(III)I"⟩
abbrev cX10_hangs : ByteArray := prog_12_method_45_code
def yX10_hangs : MethodName := ⟨RX10, "hangs", "(I)J"⟩
abbrev cX10_ones : ByteArray := prog_12_method_46_code
def yX10_ones : MethodName := ⟨RX10, "ones", "(I)I"⟩
abbrev cX10_trustOfSet : ByteArray := prog_12_method_47_code
def yX10_trustOfSet : MethodName := ⟨RX10, "trustOfSet", "(I)I"⟩
abbrev cX10_bitsOf : ByteArray := prog_12_method_48_code
def yX10_bitsOf : MethodName := ⟨RX10, "bitsOf", "(I)J"⟩
abbrev cX10_doubtsNow : ByteArray := prog_12_method_49_code
def yX10_doubtsNow : MethodName := ⟨RX10, "doubtsNow", "()I"⟩
abbrev cX10_doubts : ByteArray := prog_12_method_50_code
def yX10_doubts : MethodName := ⟨RX10, "doubts", "()J"⟩
abbrev cX10_blamed : ByteArray := prog_12_method_51_code
def yX10_blamed : MethodName := ⟨RX10, "blamed", "(I)I"⟩
abbrev cX10_sures : ByteArray := prog_12_method_52_code
def yX10_sures : MethodName := ⟨RX10, "sures", "()Z"⟩
abbrev cX10_ordersBut : ByteArray := prog_12_method_53_code
def yX10_ordersBut : MethodName := ⟨RX10, "ordersBut", "(I)J"⟩
abbrev cX10_ordersWith : ByteArray := prog_12_method_54_code
def yX10_ordersWith : MethodName := ⟨RX10, "ordersWith", "(II)J"⟩
abbrev cX10_ahead : ByteArray := prog_12_method_55_code
def yX10_ahead : MethodName := ⟨RX10, "ahead", "(II)I"⟩
abbrev cX10_ordersNow : ByteArray := prog_12_method_56_code
def yX10_ordersNow : MethodName := ⟨RX10, "ordersNow", "()J"⟩
abbrev cX10_orders : ByteArray := prog_12_method_57_code
def yX10_orders : MethodName := ⟨RX10, "orders", "()J"⟩
abbrev cX10_divisor : ByteArray := prog_12_method_58_code
def yX10_divisor : MethodName := ⟨RX10, "divisor", "(JJ)J"⟩
abbrev cX10_share : ByteArray := prog_12_method_59_code
def yX10_share : MethodName := ⟨RX10, "share", "(III)J"⟩
abbrev cX10_first : ByteArray := prog_12_method_60_code
def yX10_first : MethodName := ⟨RX10, "first", "(I)J"⟩
abbrev cX10_question : ByteArray := prog_12_method_61_code
def yX10_question : MethodName := ⟨RX10, "question", "()I"⟩
abbrev cX10_isLeap : ByteArray := prog_12_method_62_code
def yX10_isLeap : MethodName := ⟨RX10, "isLeap", "(II)Z"⟩
abbrev cX10_daysOf : ByteArray := prog_12_method_63_code
def yX10_daysOf : MethodName := ⟨RX10, "daysOf", "(III)I"⟩
abbrev cX10_daysTo : ByteArray := prog_12_method_64_code
def yX10_daysTo : MethodName := ⟨RX10, "daysTo", "(IIII)I"⟩
abbrev cX10_dayNumber : ByteArray := prog_12_method_65_code
def yX10_dayNumber : MethodName := ⟨RX10, "dayNumber", "(IIII)I"⟩
abbrev cX10_dayOf : ByteArray := prog_12_method_66_code
def yX10_dayOf : MethodName := ⟨RX10, "dayOf", "(IIII)I"⟩
abbrev cX10_dateOf : ByteArray := prog_12_method_67_code
def yX10_dateOf : MethodName := ⟨RX10, "dateOf", "(III)I"⟩
abbrev cX10_type : ByteArray := prog_12_method_68_code
def yX10_type : MethodName := ⟨RX10, "type", "(I)I"⟩
abbrev cX10_wipe : ByteArray := prog_12_method_69_code
def yX10_wipe : MethodName := ⟨RX10, "wipe", "()I"⟩
abbrev cX10_byteAt : ByteArray := prog_12_method_70_code
def yX10_byteAt : MethodName := ⟨RX10, "byteAt", "(I)I"⟩
abbrev cX10_figures : ByteArray := prog_12_method_71_code
def yX10_figures : MethodName := ⟨RX10, "figures", "(II)I"⟩
abbrev cX10_dot : ByteArray := prog_12_method_72_code
def yX10_dot : MethodName := ⟨RX10, "dot", "()V"⟩
abbrev cX10_date : ByteArray := prog_12_method_73_code
def yX10_date : MethodName := ⟨RX10, "date", "()I"⟩
abbrev cX10_faultNow : ByteArray := prog_12_method_74_code
def yX10_faultNow : MethodName := ⟨RX10, "faultNow", "()I"⟩
abbrev cX10_fault : ByteArray := prog_12_method_75_code
def yX10_fault : MethodName := ⟨RX10, "fault", "()I"⟩
abbrev cX10_said : ByteArray := prog_12_method_76_code
def yX10_said : MethodName := ⟨RX10, "said", "(II)I"⟩
abbrev cX10_meets : ByteArray := prog_12_method_77_code
def yX10_meets : MethodName := ⟨RX10, "meets", "(I)I"⟩
abbrev cX10_isSheet : ByteArray := prog_12_method_78_code
def yX10_isSheet : MethodName := ⟨RX10, "isSheet", "(I)Z"⟩
abbrev cX10_sheet : ByteArray := prog_12_method_79_code
def yX10_sheet : MethodName := ⟨RX10, "sheet", "(III)I"⟩
abbrev cX10_lose : ByteArray := prog_12_method_80_code
def yX10_lose : MethodName := ⟨RX10, "lose", "(I)I"⟩
abbrev cX10_lacks : ByteArray := prog_12_method_81_code
def yX10_lacks : MethodName := ⟨RX10, "lacks", "(III)I"⟩
abbrev cX10_lay : ByteArray := prog_12_method_82_code
def yX10_lay : MethodName := ⟨RX10, "lay", "(III)V"⟩
abbrev cX10_put : ByteArray := prog_12_method_83_code
def yX10_put : MethodName := ⟨RX10, "put", "(IIII)I"⟩
abbrev cX10_get : ByteArray := prog_12_method_84_code
def yX10_get : MethodName := ⟨RX10, "get", "(III)I"⟩
abbrev cX10_copy : ByteArray := prog_12_method_85_code
def yX10_copy : MethodName := ⟨RX10, "copy", "(IIIII)I"⟩
abbrev cX10_write : ByteArray := prog_12_method_86_code
def yX10_write : MethodName := ⟨RX10, "write", "(I)I"⟩
abbrev cX10_count : ByteArray := prog_12_method_87_code
def yX10_count : MethodName := ⟨RX10, "count", "(I)I"⟩
abbrev cX10_digest : ByteArray := prog_12_method_88_code
def yX10_digest : MethodName := ⟨RX10, "digest", "()J"⟩
def RJ6 : String := "java/lang/Integer"
def TJ6 : u_T := fun k => match k with
  | _ => ("", "", "", false)
def tyJ6 : Nat → FieldType := fun k => match k with
  | _ => .int
abbrev wsJ60 : List Cond := u_ws RJ6 TJ6 0
theorem nmJ6 : ∀ a, a < 0 → ∀ b, b < 0 → a ≠ b → (TJ6 a).2.1 ≠ (TJ6 b).2.1 := by decide +kernel
theorem tyJ6_ok : ∀ k, k < 0 → parseFieldDescriptor (TJ6 k).2.2.1 = some (tyJ6 k) := by decide +kernel
abbrev cJ6_bitCount_0f7a4 : ByteArray := prog_13_method_49_code
def yJ6_bitCount_0f7a4 : MethodName := ⟨RJ6, "bitCount", "(I)I"⟩
def RJ13 : String := "java/lang/Long"
def TJ13 : u_T := fun k => match k with
  | _ => ("", "", "", false)
def tyJ13 : Nat → FieldType := fun k => match k with
  | _ => .int
abbrev wsJ130 : List Cond := u_ws RJ13 TJ13 0
theorem nmJ13 : ∀ a, a < 0 → ∀ b, b < 0 → a ≠ b → (TJ13 a).2.1 ≠ (TJ13 b).2.1 := by decide +kernel
theorem tyJ13_ok : ∀ k, k < 0 → parseFieldDescriptor (TJ13 k).2.2.1 = some (tyJ13 k) := by decide +kernel
abbrev cJ13_bitCount_95d88 : ByteArray := prog_14_method_50_code
def yJ13_bitCount_95d88 : MethodName := ⟨RJ13, "bitCount", "(J)I"⟩
def RJ9 : String := "java/lang/Math"
def TJ9 : u_T := fun k => match k with
  | _ => ("", "", "", false)
def tyJ9 : Nat → FieldType := fun k => match k with
  | _ => .int
abbrev wsJ90 : List Cond := u_ws RJ9 TJ9 0
theorem nmJ9 : ∀ a, a < 0 → ∀ b, b < 0 → a ≠ b → (TJ9 a).2.1 ≠ (TJ9 b).2.1 := by decide +kernel
theorem tyJ9_ok : ∀ k, k < 0 → parseFieldDescriptor (TJ9 k).2.2.1 = some (tyJ9 k) := by decide +kernel
abbrev cJ9_max_7cf53 : ByteArray := prog_15_method_65_code
def yJ9_max_7cf53 : MethodName := ⟨RJ9, "max", "(II)I"⟩
abbrev cJ9_min_7cf53 : ByteArray := prog_15_method_69_code
def yJ9_min_7cf53 : MethodName := ⟨RJ9, "min", "(II)I"⟩
def RJ10 : String := "java/lang/System"
def TJ10 : u_T := fun k => match k with
  | _ => ("", "", "", false)
def tyJ10 : Nat → FieldType := fun k => match k with
  | _ => .int
abbrev wsJ100 : List Cond := u_ws RJ10 TJ10 0
theorem nmJ10 : ∀ a, a < 0 → ∀ b, b < 0 → a ≠ b → (TJ10 a).2.1 ≠ (TJ10 b).2.1 := by decide +kernel
theorem tyJ10_ok : ∀ k, k < 0 → parseFieldDescriptor (TJ10 k).2.2.1 = some (tyJ10 k) := by decide +kernel
def RJ7 : String := "java/util/Arrays"
def TJ7 : u_T := fun k => match k with
  | _ => ("", "", "", false)
def tyJ7 : Nat → FieldType := fun k => match k with
  | _ => .int
abbrev wsJ70 : List Cond := u_ws RJ7 TJ7 0
theorem nmJ7 : ∀ a, a < 0 → ∀ b, b < 0 → a ≠ b → (TJ7 a).2.1 ≠ (TJ7 b).2.1 := by decide +kernel
theorem tyJ7_ok : ∀ k, k < 0 → parseFieldDescriptor (TJ7 k).2.2.1 = some (tyJ7 k) := by decide +kernel
abbrev cJ7_fill_53178 : ByteArray := prog_17_method_103_code
def yJ7_fill_53178 : MethodName := ⟨RJ7, "fill", "([II)V"⟩
def RL : String := "WhenItWasLaw"
abbrev cL_law : ByteArray := code
def yL_law : MethodName := ⟨RL, "law", "([I)Z"⟩
theorem inX0 : ∀ w ∈ wsX00, w ∈ lw_tbl := by decide +kernel
theorem inX2 : ∀ w ∈ wsX20, w ∈ lw_tbl := by decide +kernel
theorem inX3 : ∀ w ∈ wsX30, w ∈ lw_tbl := by decide +kernel
theorem inX4 : ∀ w ∈ wsX40, w ∈ lw_tbl := by decide +kernel
theorem inX5 : ∀ w ∈ wsX50, w ∈ lw_tbl := by decide +kernel
theorem inX6 : ∀ w ∈ wsX60, w ∈ lw_tbl := by decide +kernel
theorem inX7 : ∀ w ∈ wsX70, w ∈ lw_tbl := by decide +kernel
theorem inX8 : ∀ w ∈ wsX80, w ∈ lw_tbl := by decide +kernel
theorem inX9 : ∀ w ∈ wsX90, w ∈ lw_tbl := by decide +kernel
theorem inX10 : ∀ w ∈ wsX100, w ∈ lw_tbl := by decide +kernel
/-- the classes whose objects the worlds hold -/
abbrev cx_cls : List vw_C := [(RX0, TX0, 4), (RX2, TX2, 7), (RX3, TX3, 5), (RX4, TX4, 4), (RX5, TX5, 5), (RX6, TX6, 13), (RX7, TX7, 8), (RX8, TX8, 3), (RX9, TX9, 12), (RX10, TX10, 42)]
end
section
/-! THE LAYER: a side's cells as one value (ints and longs by cell and place), and a judgement over it -/
def ax_tb : List Cond := lw_tbl.filter goodWord
abbrev ax_S : Type := (Nat → Nat → Int32) × (Nat → Nat → Int64)
abbrev ax_L : Type := List (Nat × Nat × List Nat)
abbrev ax_St : Type := List (String × String × Nat × Nat × (Nat → Int32))
abbrev ax_Sd : Type := ax_L × ax_St
abbrev ax_G : Type := va_G × (Nat → Nat) × ClassId × ClassId × ClassId
abbrev ax_Mu : Type := MethodName × ByteArray × Nat × Option FieldType × Nat × Nat
abbrev ax_K : Type := Program × Launch × Env × Room × State × MethodId × Array Value × List Frame × Method × Code
abbrev ax_V : Type := ax_Sd × ax_G × ax_K × Option Value × ax_S
def ax_ad (V : ax_V) (k : Nat) : Nat := V.2.1.2.1 k
def ax_fv (ad : Nat → Nat) (s : ax_S) (k j t : Nat) : Value := match t with
  | 0 => .int (s.1 k j)
  | 1 => .long (s.2 k j)
  | t + 2 => .ref (ad t)
def ax_fs (ad : Nat → Nat) (s : ax_S) (k : Nat) (fds : List Nat) : List Value := fds.mapIdx (fun j t => ax_fv ad s k j t)
def ax_e (G : ax_G) (s : ax_S) (k : Nat) (d : Nat × Nat × List Nat) : va_E := match d.1 with
  | 0 => .inr (d.2.1, ax_fs G.2.1 s k d.2.2)
  | 1 => .inl (G.2.2.1, d.2.1, .inl (s.1 k))
  | 2 => .inl (G.2.2.2.1, d.2.1, .inr (.inl (s.2 k)))
  | _ => .inl (G.2.2.2.2, d.2.1, .inl (s.1 k))
def ax_ws (L : ax_L) (G : ax_G) (s : ax_S) : va_W := L.mapIdx (fun k d => (G.2.1 k, ax_e G s k d))
def ax_tys (G : ax_G) : List (ClassId × FieldType) := [(G.2.2.1, .int), (G.2.2.2.1, .long), (G.2.2.2.2, .boolean)]
def ax_A (L : ax_L) (G : ax_G) : Nat → Prop := fun q => ∃ k, k < L.length ∧ q = G.2.1 k
def ax_inj (L : ax_L) (G : ax_G) : Prop := ∀ i j, i < L.length → j < L.length → G.2.1 i = G.2.1 j → i = j
def ax_stat (St : ax_St) (A : Nat → Prop) (G : ax_G) (U : State) (H : Heap) : Prop := ∀ q ∈ St, va_Z q.1 q.2.1 "[I" (.ref (G.2.1 q.2.2.1)) A U H ∧ va_T .int (G.2.1 q.2.2.1) q.2.2.2.1 (fun j => .int (q.2.2.2.2 j)) A U H
def ax_ui (s : ax_S) (k j : Nat) (v : Int32) : ax_S := (fun a b => if a = k ∧ b = j then v else s.1 a b, s.2)
def ax_ul (s : ax_S) (k j : Nat) (v : Int64) : ax_S := (s.1, fun a b => if a = k ∧ b = j then v else s.2 a b)
def ax_wi (s : ax_S) (k : Nat) (f : Nat → Int32) : ax_S := (fun a => if a = k then f else s.1 a, s.2)
theorem ax_ws_get {L : ax_L} {G : ax_G} {s : ax_S} {k : Nat} {d : Nat × Nat × List Nat} (h : L[k]? = some d) : (ax_ws L G s)[k]? = some (G.2.1 k, ax_e G s k d) := by
  simp [ax_ws, List.getElem?_mapIdx, h]
theorem ax_ws_of {L : ax_L} {G : ax_G} {s : ax_S} {k : Nat} {q : Nat × va_E} (h : (ax_ws L G s)[k]? = some q) : ∃ d, L[k]? = some d ∧ q = (G.2.1 k, ax_e G s k d) := by
  simp only [ax_ws, List.getElem?_mapIdx, Option.map_eq_some_iff] at h
  obtain ⟨d, hd, he⟩ := h
  exact ⟨d, hd, he.symm⟩
theorem ax_D_of {L : ax_L} {G : ax_G} (hi : ax_inj L G) (s : ax_S) : va_D (ax_A L G) (ax_ws L G s) := by
  refine ⟨fun i j p q hp hq he => ?_, fun k q hq => ?_⟩
  · obtain ⟨d, hd, rfl⟩ := ax_ws_of hp
    obtain ⟨d', hd', rfl⟩ := ax_ws_of hq
    exact hi i j (List.getElem?_eq_some_iff.mp hd).1 (List.getElem?_eq_some_iff.mp hd').1 he
  · obtain ⟨d, hd, rfl⟩ := ax_ws_of hq
    exact ⟨k, (List.getElem?_eq_some_iff.mp hd).1, rfl⟩
theorem ax_ws_set {L : ax_L} {G : ax_G} {s s' : ax_S} {k : Nat} {d : Nat × Nat × List Nat} {x : va_E} (h : L[k]? = some d) (hx : x = ax_e G s' k d) (hd : ∀ j d', j ≠ k → ax_e G s' j d' = ax_e G s j d') : (ax_ws L G s).set k (G.2.1 k, x) = ax_ws L G s' := by
  subst hx
  apply List.ext_getElem?
  intro i
  by_cases hi : k = i
  · subst hi
    rw [ax_ws_get h, List.getElem?_set_self (by simpa [ax_ws] using (List.getElem?_eq_some_iff.mp h).1)]
  · rw [List.getElem?_set_ne hi]
    simp only [ax_ws, List.getElem?_mapIdx]
    cases hl : L[i]? with
    | none => rfl
    | some d' => simp only [Option.map_some, hd i d' (fun q => hi q.symm)]
theorem ax_ui_ne {s : ax_S} {k j : Nat} {v : Int32} {a : Nat} (h : a ≠ k) : (ax_ui s k j v).1 a = s.1 a := by
  funext b
  simp [ax_ui, h]
theorem ax_ul_ne {s : ax_S} {k j : Nat} {v : Int64} {a : Nat} (h : a ≠ k) : (ax_ul s k j v).2 a = s.2 a := by
  funext b
  simp [ax_ul, h]
theorem ax_wi_ne {s : ax_S} {k : Nat} {f : Nat → Int32} {a : Nat} (h : a ≠ k) : (ax_wi s k f).1 a = s.1 a := by
  simp [ax_wi, h]
theorem ax_fs_congr {ad : Nat → Nat} {s s' : ax_S} {k : Nat} (h1 : s'.1 k = s.1 k) (h2 : s'.2 k = s.2 k) (fds : List Nat) : ax_fs ad s' k fds = ax_fs ad s k fds := by
  have : (fun j t => ax_fv ad s' k j t) = (fun j t => ax_fv ad s k j t) := by
    funext j t
    match t with
    | 0 => simp only [ax_fv, h1]
    | 1 => simp only [ax_fv, h2]
    | t + 2 => rfl
  simp only [ax_fs, this]
theorem ax_e_congr {G : ax_G} {s s' : ax_S} {k : Nat} (h1 : s'.1 k = s.1 k) (h2 : s'.2 k = s.2 k) (d : Nat × Nat × List Nat) : ax_e G s' k d = ax_e G s k d := by
  obtain ⟨a, n, fds⟩ := d
  match a with
  | 0 => simp only [ax_e, ax_fs_congr h1 h2]
  | 1 => simp only [ax_e, h1]
  | 2 => simp only [ax_e, h2]
  | a + 3 => simp only [ax_e, h1]
/-- locals by their places: a place that is 'none' says nothing -/
def ax_lv (ls : Array Slot) (nL : Nat) (lv : List (Option Value)) : Prop := ls.size = nL ∧ lv_wf ls ∧ ∀ (i : Nat) (v : Value), lv[i]? = some (some v) → ls[i]? = some (.val v)
def ax_as (lv : List (Option Value)) : List (Nat × Value) := lv.zipIdx.filterMap (fun q => q.1.map (fun v => (q.2, v)))
theorem ax_as_mem {lv : List (Option Value)} {q : Nat × Value} : q ∈ ax_as lv ↔ lv[q.1]? = some (some q.2) := by
  simp only [ax_as, List.mem_filterMap, Option.map_eq_some_iff]
  constructor
  · rintro ⟨⟨o, i⟩, hm, v, rfl, rfl⟩
    exact List.mem_zipIdx_iff_getElem?.mp hm
  · intro h
    exact ⟨(some q.2, q.1), List.mem_zipIdx_iff_getElem?.mpr h, q.2, rfl, rfl⟩
theorem ax_lv_has {ls : Array Slot} {nL : Nat} {lv : List (Option Value)} (h : ax_lv ls nL lv) : lv_has ls nL (ax_as lv) := ⟨h.1, h.2.1, fun q hq => h.2.2 q.1 q.2 (ax_as_mem.mp hq)⟩
/-- a store at i leaves the value ahead of it whole -/
def ax_ok1 (lv : List (Option Value)) (i : Nat) : Bool := match i with
  | 0 => true
  | j + 1 => match lv[j]? with
    | some (some v) => v.category == 1
    | _ => true
theorem ax_lv_st1 {ls : Array Slot} {nL : Nat} {lv : List (Option Value)} {i : Nat} {v : Value} (ho : ax_ok1 lv i = true) (h : lv_has ls nL ((i, v) :: (ax_as lv).filter (fun q => !(q.1 == i) && !(q.1 + 1 == i && q.2.category == 2)))) : ax_lv ls nL (lv.set i (some v)) := by
  refine ⟨h.1, h.2.1, fun j w hj => ?_⟩
  by_cases hi : i = j
  · subst hi
    have hlt : i < lv.length := by
      have := (List.getElem?_eq_some_iff.mp hj).1
      simpa using this
    rw [List.getElem?_set_self hlt] at hj
    cases hj
    exact h.2.2 (i, v) List.mem_cons_self
  · rw [List.getElem?_set_ne hi] at hj
    refine h.2.2 (j, w) (List.mem_cons_of_mem _ (List.mem_filter.mpr ⟨ax_as_mem.mpr hj, ?_⟩))
    have h1 : (j == i) = false := by simpa using fun q => hi q.symm
    simp only [h1, Bool.not_false, Bool.true_and]
    by_cases h2 : j + 1 = i
    · subst h2
      simp only [ax_ok1, hj] at ho
      simp only [beq_self_eq_true, Bool.true_and]
      have : w.category = 1 := by simpa using ho
      simp [this]
    · have : (j + 1 == i) = false := by simpa using h2
      simp [this]
theorem ax_lv_st2 {ls : Array Slot} {nL : Nat} {lv : List (Option Value)} {i : Nat} {v : Value} (ho : ax_ok1 lv i = true) (h : lv_has ls nL ((i, v) :: (ax_as lv).filter (fun q => !(q.1 == i) && (!(q.1 == i + 1) && !(q.1 + 1 == i && q.2.category == 2))))) : ax_lv ls nL ((lv.set i (some v)).set (i + 1) none) := by
  refine ⟨h.1, h.2.1, fun j w hj => ?_⟩
  by_cases hi1 : i + 1 = j
  · subst hi1
    have hlt : i + 1 < (lv.set i (some v)).length := by
      have := (List.getElem?_eq_some_iff.mp hj).1
      simpa using this
    rw [List.getElem?_set_self hlt] at hj
    cases hj
  rw [List.getElem?_set_ne hi1] at hj
  by_cases hi : i = j
  · subst hi
    have hlt : i < lv.length := by
      have := (List.getElem?_eq_some_iff.mp hj).1
      simpa using this
    rw [List.getElem?_set_self hlt] at hj
    cases hj
    exact h.2.2 (i, v) List.mem_cons_self
  · rw [List.getElem?_set_ne hi] at hj
    refine h.2.2 (j, w) (List.mem_cons_of_mem _ (List.mem_filter.mpr ⟨ax_as_mem.mpr hj, ?_⟩))
    have h1 : (j == i) = false := by simpa using fun q => hi q.symm
    have h1' : (j == i + 1) = false := by simpa using fun q => hi1 q.symm
    simp only [h1, h1', Bool.not_false, Bool.true_and]
    by_cases h2 : j + 1 = i
    · subst h2
      simp only [ax_ok1, hj] at ho
      simp only [beq_self_eq_true, Bool.true_and]
      have : w.category = 1 := by simpa using ho
      simp [this]
    · have : (j + 1 == i) = false := by simpa using h2
      simp [this]
/-- the places that are kept -/
def ax_mk (ks : List Bool) (lv : List (Option Value)) : List (Option Value) := List.zipWith (fun k o => if k then o else none) ks lv
theorem ax_lv_mk {ls : Array Slot} {nL : Nat} {lv : List (Option Value)} (ks : List Bool) (h : ax_lv ls nL lv) : ax_lv ls nL (ax_mk ks lv) := by
  refine ⟨h.1, h.2.1, fun i v hi => h.2.2 i v ?_⟩
  simp only [ax_mk, List.getElem?_zipWith] at hi
  cases hk : ks[i]? with
  | none => simp [hk] at hi
  | some k =>
    cases hl : lv[i]? with
    | none => simp [hk, hl] at hi
    | some o =>
      simp only [hk, hl, Option.some.injEq] at hi
      cases k
      · simp at hi
      · simpa using hi
def ax_rm (μ : ax_Mu) : Room := { frames := μ.2.2.2.2.1, cells := 0, slots := 0, locals := μ.2.2.2.2.2 }
def ax_w (μ : ax_Mu) : List Cond := Cond.code μ.1 μ.2.1 μ.2.2.1 μ.2.2.2.1 :: ax_tb
def ax_U (Sd : ax_Sd) (G : ax_G) (U : State) : Prop := va_K G.1 cx_cls (ax_tys G) U ∧ ax_stat Sd.2 (ax_A Sd.1 G) G U U.heap
def ax_Q (Sd : ax_Sd) (G : ax_G) (rv : Option Value) (sf : ax_S) : Array Value → State → Outcome → State → Prop := match rv with
  | some (.int r) => va_Qi (fun x (_ : Unit) => x = r) (fun _ t => va_P G.1 cx_cls (ax_ws Sd.1 G sf) t.heap) (ax_A Sd.1 G)
  | some (.long r) => va_Ql (fun x (_ : Unit) => x = r) (fun _ t => va_P G.1 cx_cls (ax_ws Sd.1 G sf) t.heap) (ax_A Sd.1 G)
  | _ => va_Qv (fun (_ : Unit) => True) (fun _ t => va_P G.1 cx_cls (ax_ws Sd.1 G sf) t.heap) (ax_A Sd.1 G)
/-- a method's contract: from the cells s, with these arguments, it answers rv and leaves the cells sf -/
def ax_M (Sd : ax_Sd) (μ : ax_Mu) (av : (Nat → Nat) → List Value) (s : ax_S) (rv : Option Value) (sf : ax_S) : Prop :=
  ∀ (l : Launch) (G : ax_G), ax_inj Sd.1 G → Met l μ.1 (ax_w μ) (ax_rm μ) (va_Pc (av G.2.1) (fun U => va_P G.1 cx_cls (ax_ws Sd.1 G s) U.heap ∧ ax_U Sd G U)) (ax_Q Sd G rv sf) 0 0 (ax_A Sd.1 G)
def ax_ok (V : ax_V) (μ : ax_Mu) : Prop := match V with
  | (Sd, G, (p, _, _, R, s, m, args, _, meth, c), _, _) => p.tables.exec = Jvm.exec ∧ c.code = μ.2.1 ∧ c.maxLocals = μ.2.2.1 ∧ s.vm.findClass μ.1.cls = some m.cls ∧ (∀ w ∈ ax_tb, w.before args s = true) ∧ va_K G.1 cx_cls (ax_tys G) s ∧ ax_inj Sd.1 G ∧ ax_stat Sd.2 (ax_A Sd.1 G) G s s.heap ∧ meth.sig.returnType = μ.2.2.2.1 ∧ meth.locks = false ∧ R = ax_rm μ
def ax_At (V : ax_V) (pc : Nat) (lv : List (Option Value)) (st : List Value) (x : ax_S) : Prop := match V with
  | (Sd, G, (p, l, e, R, s, m, args, below, meth, c), rv, sf) => ∀ (H : Heap) (locs : List Loc) (ls : Array Slot), va_P G.1 cx_cls (ax_ws Sd.1 G x) H → va_S (ax_A Sd.1 G) s.heap H locs → ax_lv ls c.maxLocals lv →
      W p l e R s m args below meth c H locs 0 0 (MQ below (ax_Q Sd G rv sf) args s 0 0 (ax_A Sd.1 G)) (F0 m pc ls st)
/-- if the answer o is there, and P holds of it, the machine comes from here to its end -/
def ax_J (V : ax_V) {ρ : Type} (P : ρ → Prop) (pc : Nat) (lv : List (Option Value)) (st : List Value) (x : ax_S) (o : Option ρ) : Prop := ∀ r, o = some r → P r → ax_At V pc lv st x
def ax_D (b : ByteArray) (pc : Nat) (i : Instr) (n nx : Nat) : Prop := decode b pc = .ok (i, n) ∧ pc + n = nx
def ax_B (b : ByteArray) (pc : Nat) (i : Int → Instr) (nx tgt : Nat) : Prop := ∃ off : Int, decode b pc = .ok (i off, 3) ∧ pc + 3 = nx ∧ (pc : Int) + off = (tgt : Int)
end
section
theorem ax_j {V : ax_V} {ρ : Type} {P : ρ → Prop} {pc pc2 : Nat} {lv lv2 : List (Option Value)} {st st2 : List Value} {x x2 : ax_S} {o : Option ρ} (h : ax_At V pc2 lv2 st2 x2 → ax_At V pc lv st x) (k : ax_J V P pc2 lv2 st2 x2 o) : ax_J V P pc lv st x o := fun r hr hp => h (k r hr hp)
theorem ax_jl {V : ax_V} {ρ : Type} {P : ρ → Prop} {pc : Nat} {lv : List (Option Value)} {st : List Value} {x : ax_S} {r : ρ} (h : P r → ax_At V pc lv st x) : ax_J V P pc lv st x (some r) := fun r' hr hp => by
  cases hr
  exact h hp
theorem ax_jn {V : ax_V} {ρ : Type} {P : ρ → Prop} {pc : Nat} {lv : List (Option Value)} {st : List Value} {x : ax_S} : ax_J V P pc lv st x none := fun r' hr hp => by cases hr
theorem ax_jif {V : ax_V} {ρ : Type} {P : ρ → Prop} {pc pc2 pc3 : Nat} {lv lv2 lv3 : List (Option Value)} {st st2 st3 : List Value} {x x2 x3 : ax_S} {o o2 : Option ρ} {c : Prop} [Decidable c] (h : (c → ax_At V pc2 lv2 st2 x2) → (¬ c → ax_At V pc3 lv3 st3 x3) → ax_At V pc lv st x) (k : ax_J V P pc2 lv2 st2 x2 o) (k2 : ax_J V P pc3 lv3 st3 x3 o2) : ax_J V P pc lv st x (if c then o else o2) := fun r hr hp => by
  by_cases hc : c
  · rw [if_pos hc] at hr
    exact h (fun _ => k r hr hp) (fun q => absurd hc q)
  · rw [if_neg hc] at hr
    exact h (fun q => absurd q hc) (fun _ => k2 r hr hp)
theorem ax_jc {V : ax_V} {ρ : Type} {P : ρ → Prop} {pc : Nat} {lv : List (Option Value)} {st : List Value} {x : ax_S} {o o2 : Option ρ} {c : Prop} [Decidable c] (k : c → ax_J V P pc lv st x o) (k2 : ¬ c → ax_J V P pc lv st x o2) : ax_J V P pc lv st x (if c then o else o2) := by
  by_cases hc : c
  · rw [if_pos hc]
    exact k hc
  · rw [if_neg hc]
    exact k2 hc
theorem ax_jb {V : ax_V} {ρ τ : Type} {P : ρ → Prop} {pc : Nat} {pc2 : τ → Nat} {lv : List (Option Value)} {lv2 : τ → List (Option Value)} {st : List Value} {st2 : τ → List Value} {x : ax_S} {x2 : τ → ax_S} {o : Option τ} {K : τ → Option ρ} (h : ∀ v, o = some v → ax_At V (pc2 v) (lv2 v) (st2 v) (x2 v) → ax_At V pc lv st x) (k : ∀ v, ax_J V P (pc2 v) (lv2 v) (st2 v) (x2 v) (K v)) : ax_J V P pc lv st x (o.bind K) := fun r hr hp => by
  cases ho : o with
  | none => rw [ho] at hr; cases hr
  | some v =>
    rw [ho] at hr
    exact h v ho (k v r hr hp)
theorem ax_jf {V : ax_V} {ρ : Type} {P : ρ → Prop} {pc : Nat} {lv : List (Option Value)} {st : List Value} {x : ax_S} {o : Option ρ} (ks : List Bool) {lv' : List (Option Value)} (hm : ax_mk ks lv = lv') (k : ax_J V P pc lv' st x o) : ax_J V P pc lv st x o := fun r hr hp => by
  have k' := k r hr hp
  obtain ⟨Sd, G, ⟨p, l, e, R, s, m, args, below, meth, c⟩, rv, sf⟩ := V
  subst hm
  intro H locs ls hP hS hl
  exact k' H locs ls hP hS (ax_lv_mk ks hl)
theorem ax_af {V : ax_V} {pc : Nat} {lv : List (Option Value)} {st : List Value} {x : ax_S} (ks : List Bool) {lv' : List (Option Value)} (hm : ax_mk ks lv = lv') (k : ax_At V pc lv' st x) : ax_At V pc lv st x := by
  obtain ⟨Sd, G, ⟨p, l, e, R, s, m, args, below, meth, c⟩, rv, sf⟩ := V
  subst hm
  intro H locs ls hP hS hl
  exact k H locs ls hP hS (ax_lv_mk ks hl)
/-- a loop's answer: the body again and again until it goes out -/
def ax_itn {α ε : Type} (f : α → Option (α ⊕ ε)) : Nat → α → Option ε
  | 0, _ => none
  | n + 1, a => (f a).bind (fun q => match q with
    | .inl a' => ax_itn f n a'
    | .inr e => some e)
noncomputable def ax_lp {α ε : Type} (f : α → Option (α ⊕ ε)) (a : α) : Option ε := by
  classical exact if h : ∃ e, ∃ n, ax_itn f n a = some e then some h.choose else none
theorem ax_lp_some {α ε : Type} {f : α → Option (α ⊕ ε)} {a : α} {e : ε} (h : ax_lp f a = some e) : ∃ n, ax_itn f n a = some e := by
  unfold ax_lp at h
  split at h
  · rename_i q
    cases h
    exact q.choose_spec
  · cases h
theorem ax_lp_end {V : ax_V} {α ε : Type} {P' : α ⊕ ε → Prop} {pc : Nat} {lv : α → List (Option Value)} {x : α → ax_S} {f : α → Option (α ⊕ ε)} {a : α} {e : ε} (hI : ∀ a, ax_At V pc (lv a) [] (x a) → P' (.inl a)) (hO : P' (.inr e))
    (hb : ∀ a, ax_J V P' pc (lv a) [] (x a) (f a)) (h : ax_lp f a = some e) : ax_At V pc (lv a) [] (x a) := by
  obtain ⟨n, hn⟩ := ax_lp_some h
  clear h
  induction n generalizing a with
  | zero => cases hn
  | succ n ih =>
    simp only [ax_itn] at hn
    cases hf : f a with
    | none => rw [hf] at hn; cases hn
    | some q =>
      rw [hf] at hn
      match q, hf, hn with
      | .inl a', hf, hn => exact hb a _ hf (hI _ (ih hn))
      | .inr e', hf, hn =>
        cases hn
        exact hb a _ hf hO
theorem ax_jlp {V : ax_V} {ρ α ε : Type} {P : ρ → Prop} {pc pcx : Nat} (a : α) (lv : α → List (Option Value)) (x : α → ax_S) (lvx : ε → List (Option Value)) (xx : ε → ax_S) {f : α → Option (α ⊕ ε)} {K : ε → Option ρ}
    (hb : ∀ P' : α ⊕ ε → Prop, (∀ a, P' (.inl a) → ax_At V pc (lv a) [] (x a)) → (∀ e, P' (.inr e) → ax_At V pcx (lvx e) [] (xx e)) → ∀ a, ax_J V P' pc (lv a) [] (x a) (f a))
    (k : ∀ e, ax_J V P pcx (lvx e) [] (xx e) (K e)) : ax_J V P pc (lv a) [] (x a) ((ax_lp f a).bind K) := fun r hr hp => by
  obtain ⟨e, he, hk⟩ := Option.bind_eq_some_iff.mp hr
  exact ax_lp_end (P' := Sum.elim (fun a => ax_At V pc (lv a) [] (x a)) (fun e => ax_At V pcx (lvx e) [] (xx e))) (fun a h => h) (k e r hk hp) (fun a => hb _ (fun a h => h) (fun e h => h) a) he
/-- a loop that may also end in the method's own answer -/
theorem ax_jlr {V : ax_V} {ρ ρm α ε : Type} {P : ρ → Prop} {pc pcx : Nat} (a : α) (lv : α → List (Option Value)) (x : α → ax_S) (lvx : ε → List (Option Value)) (xx : ε → ax_S) {f : α → Option (α ⊕ (ε ⊕ ρm))} {K : ε → Option ρ} {em : ρm → ρ}
    (hb : ∀ P' : α ⊕ (ε ⊕ ρm) → Prop, (∀ a, P' (.inl a) → ax_At V pc (lv a) [] (x a)) → (∀ e, P' (.inr (.inl e)) → ax_At V pcx (lvx e) [] (xx e)) → (∀ r, P' (.inr (.inr r)) → P (em r)) → ∀ a, ax_J V P' pc (lv a) [] (x a) (f a))
    (k : ∀ e, ax_J V P pcx (lvx e) [] (xx e) (K e)) : ax_J V P pc (lv a) [] (x a) ((ax_lp f a).bind (Sum.elim K (fun r => some (em r)))) := fun r hr hp => by
  obtain ⟨q, hq, hk⟩ := Option.bind_eq_some_iff.mp hr
  refine ax_lp_end (P' := Sum.elim (fun a => ax_At V pc (lv a) [] (x a)) (Sum.elim (fun e => ax_At V pcx (lvx e) [] (xx e)) (fun r => P (em r)))) (fun a h => h) ?_ (fun a => hb _ (fun a h => h) (fun e h => h) (fun r h => h) a) hq
  cases q with
  | inl e => exact k e r hk hp
  | inr r' =>
    cases hk
    exact hp
theorem ax_go {V : ax_V} {ρ : Type} {pc : Nat} {lv : List (Option Value)} {st : List Value} {x : ax_S} {o : Option ρ} {r : ρ} (em : ρ → Option Value × ax_S) (hb : ∀ P : ρ → Prop, (∀ r, P r → V.2.2.2 = em r) → ax_J V P pc lv st x o) (h : o = some r) (ho : V.2.2.2 = em r) : ax_At V pc lv st x := hb (fun r => V.2.2.2 = em r) (fun _ h => h) r h ho
theorem ax_iconst {V : ax_V} {μ : ax_Mu} (hV : ax_ok V μ) {pc nx : Nat} {lv : List (Option Value)} {st : List Value} {x : ax_S} {n : Int} (v : Int32) (d : ax_D μ.2.1 pc (.iconst n) 1 nx) (hv : Int32.ofInt n = v) (k : ax_At V nx lv (.int v :: st) x) : ax_At V pc lv (st) x := by
  obtain ⟨Sd, G, ⟨p, l, e, R, s, m, args, below, meth, c⟩, rv, sf⟩ := V
  obtain ⟨d, rfl⟩ := d
  intro H locs ls hP hS hl
  exact lv_iconst hV.1 hV.2.1 d hv (k H locs ls hP hS hl)
theorem ax_bipush {V : ax_V} {μ : ax_Mu} (hV : ax_ok V μ) {pc nx : Nat} {lv : List (Option Value)} {st : List Value} {x : ax_S} {n : Int} (v : Int32) (d : ax_D μ.2.1 pc (.bipush n) 2 nx) (hv : (Int8.ofInt n).toInt32 = v) (k : ax_At V nx lv (.int v :: st) x) : ax_At V pc lv (st) x := by
  obtain ⟨Sd, G, ⟨p, l, e, R, s, m, args, below, meth, c⟩, rv, sf⟩ := V
  obtain ⟨d, rfl⟩ := d
  intro H locs ls hP hS hl
  exact lv_bipush hV.1 hV.2.1 d hv (k H locs ls hP hS hl)
theorem ax_sipush {V : ax_V} {μ : ax_Mu} (hV : ax_ok V μ) {pc nx : Nat} {lv : List (Option Value)} {st : List Value} {x : ax_S} {n : Int} (v : Int32) (d : ax_D μ.2.1 pc (.sipush n) 3 nx) (hv : (Int16.ofInt n).toInt32 = v) (k : ax_At V nx lv (.int v :: st) x) : ax_At V pc lv (st) x := by
  obtain ⟨Sd, G, ⟨p, l, e, R, s, m, args, below, meth, c⟩, rv, sf⟩ := V
  obtain ⟨d, rfl⟩ := d
  intro H locs ls hP hS hl
  exact lv_sipush hV.1 hV.2.1 d hv (k H locs ls hP hS hl)
theorem ax_lconst {V : ax_V} {μ : ax_Mu} (hV : ax_ok V μ) {pc nx : Nat} {lv : List (Option Value)} {st : List Value} {x : ax_S} {n : Fin 2} (v : Int64) (d : ax_D μ.2.1 pc (.lconst n) 1 nx) (hv : Int64.ofNat (n : Nat) = v) (k : ax_At V nx lv (.long v :: st) x) : ax_At V pc lv (st) x := by
  obtain ⟨Sd, G, ⟨p, l, e, R, s, m, args, below, meth, c⟩, rv, sf⟩ := V
  obtain ⟨d, rfl⟩ := d
  intro H locs ls hP hS hl
  exact lv_lconst hV.1 hV.2.1 d hv (k H locs ls hP hS hl)
theorem ax_ldc {V : ax_V} {μ : ax_Mu} (hV : ax_ok V μ) {pc nx : Nat} {lv : List (Option Value)} {st : List Value} {x : ax_S} {ix : Nat} {v : Int32} (hc : Cond.constant μ.1.cls ix v ∈ ax_tb) (d : ax_D μ.2.1 pc (.ldc ix) 2 nx) (k : ax_At V nx lv (.int v :: st) x) : ax_At V pc lv (st) x := by
  obtain ⟨Sd, G, ⟨p, l, e, R, s, m, args, below, meth, c⟩, rv, sf⟩ := V
  obtain ⟨d, rfl⟩ := d
  intro H locs ls hP hS hl
  exact lv_ldc hV.1 hV.2.1 hV.2.2.2.1 (hV.2.2.2.2.1 _ hc) d (k H locs ls hP hS hl)
theorem ax_ldcw {V : ax_V} {μ : ax_Mu} (hV : ax_ok V μ) {pc nx : Nat} {lv : List (Option Value)} {st : List Value} {x : ax_S} {ix : Nat} {v : Int32} (hc : Cond.constant μ.1.cls ix v ∈ ax_tb) (d : ax_D μ.2.1 pc (.ldc_w ix) 3 nx) (k : ax_At V nx lv (.int v :: st) x) : ax_At V pc lv (st) x := by
  obtain ⟨Sd, G, ⟨p, l, e, R, s, m, args, below, meth, c⟩, rv, sf⟩ := V
  obtain ⟨d, rfl⟩ := d
  intro H locs ls hP hS hl
  exact lv_ldcw hV.1 hV.2.1 hV.2.2.2.1 (hV.2.2.2.2.1 _ hc) d (k H locs ls hP hS hl)
theorem ax_ldc2 {V : ax_V} {μ : ax_Mu} (hV : ax_ok V μ) {pc nx : Nat} {lv : List (Option Value)} {st : List Value} {x : ax_S} {ix : Nat} {v : Int64} (hc : Cond.constantLong μ.1.cls ix v ∈ ax_tb) (d : ax_D μ.2.1 pc (.ldc2_w ix) 3 nx) (k : ax_At V nx lv (.long v :: st) x) : ax_At V pc lv (st) x := by
  obtain ⟨Sd, G, ⟨p, l, e, R, s, m, args, below, meth, c⟩, rv, sf⟩ := V
  obtain ⟨d, rfl⟩ := d
  intro H locs ls hP hS hl
  exact lv_ldc2 hV.1 hV.2.1 hV.2.2.2.1 (hV.2.2.2.2.1 _ hc) d (k H locs ls hP hS hl)
theorem ax_iload_n {V : ax_V} {μ : ax_Mu} (hV : ax_ok V μ) {pc nx : Nat} {lv : List (Option Value)} {st : List Value} {x : ax_S} {k0 : Fin 4} {a : Int32} (d : ax_D μ.2.1 pc (.iload_n k0) 1 nx) (hi : lv[(k0 : Nat)]? = some (some (.int a))) (k : ax_At V nx lv (.int a :: st) x) : ax_At V pc lv (st) x := by
  obtain ⟨Sd, G, ⟨p, l, e, R, s, m, args, below, meth, c⟩, rv, sf⟩ := V
  obtain ⟨d, rfl⟩ := d
  intro H locs ls hP hS hl
  exact lv_iload_n hV.1 hV.2.1 d rfl (hl.2.2 _ _ hi) (k H locs ls hP hS hl)
theorem ax_iload {V : ax_V} {μ : ax_Mu} (hV : ax_ok V μ) {pc nx : Nat} {lv : List (Option Value)} {st : List Value} {x : ax_S} {i : Nat} {a : Int32} (d : ax_D μ.2.1 pc (.iload i) 2 nx) (hi : lv[i]? = some (some (.int a))) (k : ax_At V nx lv (.int a :: st) x) : ax_At V pc lv (st) x := by
  obtain ⟨Sd, G, ⟨p, l, e, R, s, m, args, below, meth, c⟩, rv, sf⟩ := V
  obtain ⟨d, rfl⟩ := d
  intro H locs ls hP hS hl
  exact lv_iload hV.1 hV.2.1 d (hl.2.2 _ _ hi) (k H locs ls hP hS hl)
theorem ax_lload_n {V : ax_V} {μ : ax_Mu} (hV : ax_ok V μ) {pc nx : Nat} {lv : List (Option Value)} {st : List Value} {x : ax_S} {k0 : Fin 4} {a : Int64} (d : ax_D μ.2.1 pc (.lload_n k0) 1 nx) (hi : lv[(k0 : Nat)]? = some (some (.long a))) (k : ax_At V nx lv (.long a :: st) x) : ax_At V pc lv (st) x := by
  obtain ⟨Sd, G, ⟨p, l, e, R, s, m, args, below, meth, c⟩, rv, sf⟩ := V
  obtain ⟨d, rfl⟩ := d
  intro H locs ls hP hS hl
  exact lv_lload_n hV.1 hV.2.1 d rfl (hl.2.2 _ _ hi) (k H locs ls hP hS hl)
theorem ax_lload {V : ax_V} {μ : ax_Mu} (hV : ax_ok V μ) {pc nx : Nat} {lv : List (Option Value)} {st : List Value} {x : ax_S} {i : Nat} {a : Int64} (d : ax_D μ.2.1 pc (.lload i) 2 nx) (hi : lv[i]? = some (some (.long a))) (k : ax_At V nx lv (.long a :: st) x) : ax_At V pc lv (st) x := by
  obtain ⟨Sd, G, ⟨p, l, e, R, s, m, args, below, meth, c⟩, rv, sf⟩ := V
  obtain ⟨d, rfl⟩ := d
  intro H locs ls hP hS hl
  exact lv_lload hV.1 hV.2.1 d (hl.2.2 _ _ hi) (k H locs ls hP hS hl)
theorem ax_aload_n {V : ax_V} {μ : ax_Mu} (hV : ax_ok V μ) {pc nx : Nat} {lv : List (Option Value)} {st : List Value} {x : ax_S} {k0 : Fin 4} {a : Nat} (d : ax_D μ.2.1 pc (.aload_n k0) 1 nx) (hi : lv[(k0 : Nat)]? = some (some (.ref a))) (k : ax_At V nx lv (.ref a :: st) x) : ax_At V pc lv (st) x := by
  obtain ⟨Sd, G, ⟨p, l, e, R, s, m, args, below, meth, c⟩, rv, sf⟩ := V
  obtain ⟨d, rfl⟩ := d
  intro H locs ls hP hS hl
  exact lv_aload_n hV.1 hV.2.1 d rfl (hl.2.2 _ _ hi) (k H locs ls hP hS hl)
theorem ax_aload {V : ax_V} {μ : ax_Mu} (hV : ax_ok V μ) {pc nx : Nat} {lv : List (Option Value)} {st : List Value} {x : ax_S} {i : Nat} {a : Nat} (d : ax_D μ.2.1 pc (.aload i) 2 nx) (hi : lv[i]? = some (some (.ref a))) (k : ax_At V nx lv (.ref a :: st) x) : ax_At V pc lv (st) x := by
  obtain ⟨Sd, G, ⟨p, l, e, R, s, m, args, below, meth, c⟩, rv, sf⟩ := V
  obtain ⟨d, rfl⟩ := d
  intro H locs ls hP hS hl
  exact lv_aload hV.1 hV.2.1 d (hl.2.2 _ _ hi) (k H locs ls hP hS hl)
theorem ax_istore_n {V : ax_V} {μ : ax_Mu} (hV : ax_ok V μ) {pc nx : Nat} {lv : List (Option Value)} {st : List Value} {x : ax_S} {k0 : Fin 4} {a : Int32} (lv' : List (Option Value)) (d : ax_D μ.2.1 pc (.istore_n k0) 1 nx) (hs : (lv.set (k0 : Nat) (some (.int a))) = lv') (hc : (ax_ok1 lv (k0 : Nat) && Nat.blt ((k0 : Nat) + 0) μ.2.2.1) = true) (k : ax_At V nx lv' st x) : ax_At V pc lv (.int a :: st) x := by
  obtain ⟨Sd, G, ⟨p, l, e, R, s, m, args, below, meth, c⟩, rv, sf⟩ := V
  obtain ⟨d, rfl⟩ := d
  subst hs
  rw [Bool.and_eq_true] at hc
  intro H locs ls hP hS hl
  refine lv_istore_n hV.1 hV.2.1 d rfl (ax_lv_has hl) ?_ rfl (fun ls' hl' => k H locs ls' hP hS (ax_lv_st1 hc.1 hl'))
  have := Nat.le_of_ble_eq_true hc.2
  rw [show c.maxLocals = μ.2.2.1 from hV.2.2.1]
  omega
theorem ax_istore {V : ax_V} {μ : ax_Mu} (hV : ax_ok V μ) {pc nx : Nat} {lv : List (Option Value)} {st : List Value} {x : ax_S} {i : Nat} {a : Int32} (lv' : List (Option Value)) (d : ax_D μ.2.1 pc (.istore i) 2 nx) (hs : (lv.set i (some (.int a))) = lv') (hc : (ax_ok1 lv i && Nat.blt (i + 0) μ.2.2.1) = true) (k : ax_At V nx lv' st x) : ax_At V pc lv (.int a :: st) x := by
  obtain ⟨Sd, G, ⟨p, l, e, R, s, m, args, below, meth, c⟩, rv, sf⟩ := V
  obtain ⟨d, rfl⟩ := d
  subst hs
  rw [Bool.and_eq_true] at hc
  intro H locs ls hP hS hl
  refine lv_istore hV.1 hV.2.1 d (ax_lv_has hl) ?_ rfl (fun ls' hl' => k H locs ls' hP hS (ax_lv_st1 hc.1 hl'))
  have := Nat.le_of_ble_eq_true hc.2
  rw [show c.maxLocals = μ.2.2.1 from hV.2.2.1]
  omega
theorem ax_lstore_n {V : ax_V} {μ : ax_Mu} (hV : ax_ok V μ) {pc nx : Nat} {lv : List (Option Value)} {st : List Value} {x : ax_S} {k0 : Fin 4} {a : Int64} (lv' : List (Option Value)) (d : ax_D μ.2.1 pc (.lstore_n k0) 1 nx) (hs : ((lv.set (k0 : Nat) (some (.long a))).set ((k0 : Nat) + 1) none) = lv') (hc : (ax_ok1 lv (k0 : Nat) && Nat.blt ((k0 : Nat) + 1) μ.2.2.1) = true) (k : ax_At V nx lv' st x) : ax_At V pc lv (.long a :: st) x := by
  obtain ⟨Sd, G, ⟨p, l, e, R, s, m, args, below, meth, c⟩, rv, sf⟩ := V
  obtain ⟨d, rfl⟩ := d
  subst hs
  rw [Bool.and_eq_true] at hc
  intro H locs ls hP hS hl
  refine lv_lstore_n hV.1 hV.2.1 d rfl (ax_lv_has hl) ?_ rfl (fun ls' hl' => k H locs ls' hP hS (ax_lv_st2 hc.1 hl'))
  have := Nat.le_of_ble_eq_true hc.2
  rw [show c.maxLocals = μ.2.2.1 from hV.2.2.1]
  omega
theorem ax_lstore {V : ax_V} {μ : ax_Mu} (hV : ax_ok V μ) {pc nx : Nat} {lv : List (Option Value)} {st : List Value} {x : ax_S} {i : Nat} {a : Int64} (lv' : List (Option Value)) (d : ax_D μ.2.1 pc (.lstore i) 2 nx) (hs : ((lv.set i (some (.long a))).set (i + 1) none) = lv') (hc : (ax_ok1 lv i && Nat.blt (i + 1) μ.2.2.1) = true) (k : ax_At V nx lv' st x) : ax_At V pc lv (.long a :: st) x := by
  obtain ⟨Sd, G, ⟨p, l, e, R, s, m, args, below, meth, c⟩, rv, sf⟩ := V
  obtain ⟨d, rfl⟩ := d
  subst hs
  rw [Bool.and_eq_true] at hc
  intro H locs ls hP hS hl
  refine lv_lstore hV.1 hV.2.1 d (ax_lv_has hl) ?_ rfl (fun ls' hl' => k H locs ls' hP hS (ax_lv_st2 hc.1 hl'))
  have := Nat.le_of_ble_eq_true hc.2
  rw [show c.maxLocals = μ.2.2.1 from hV.2.2.1]
  omega
theorem ax_iinc {V : ax_V} {μ : ax_Mu} (hV : ax_ok V μ) {pc nx : Nat} {lv : List (Option Value)} {st : List Value} {x : ax_S} {i : Nat} {n : Int} {a : Int32} (b : Int32) (lv' : List (Option Value)) (d : ax_D μ.2.1 pc (.iinc i n) 3 nx) (hi : lv[i]? = some (some (.int a))) (hv : a + Int32.ofInt n = b) (hs : lv.set i (some (.int b)) = lv') (hc : (ax_ok1 lv i && Nat.blt (i + 0) μ.2.2.1) = true) (k : ax_At V nx lv' st x) : ax_At V pc lv st x := by
  obtain ⟨Sd, G, ⟨p, l, e, R, s, m, args, below, meth, c⟩, rv, sf⟩ := V
  obtain ⟨d, rfl⟩ := d
  subst hs
  rw [Bool.and_eq_true] at hc
  intro H locs ls hP hS hl
  obtain ⟨j, hj⟩ := List.getElem?_of_mem (ax_as_mem.mpr (show lv[((i, Value.int a) : Nat × Value).1]? = some (some (i, Value.int a).2) from hi))
  refine lv_iinc hV.1 hV.2.1 d (ax_lv_has hl) hj hv ?_ rfl (fun ls' hl' => k H locs ls' hP hS (ax_lv_st1 hc.1 hl'))
  have := Nat.le_of_ble_eq_true hc.2
  rw [show c.maxLocals = μ.2.2.1 from hV.2.2.1]
  omega
theorem ax_iadd {V : ax_V} {μ : ax_Mu} (hV : ax_ok V μ) {pc nx : Nat} {lv : List (Option Value)} {st : List Value} {x : ax_S} {a b : Int32} (d : ax_D μ.2.1 pc (.iadd) 1 nx) (k : ax_At V nx lv (.int (a + b) :: st) x) : ax_At V pc lv (.int b :: .int a :: st) x := by
  obtain ⟨Sd, G, ⟨p, l, e, R, s, m, args, below, meth, c⟩, rv, sf⟩ := V
  obtain ⟨d, rfl⟩ := d
  intro H locs ls hP hS hl
  exact lv_iadd hV.1 hV.2.1 d (k H locs ls hP hS hl)
theorem ax_isub {V : ax_V} {μ : ax_Mu} (hV : ax_ok V μ) {pc nx : Nat} {lv : List (Option Value)} {st : List Value} {x : ax_S} {a b : Int32} (d : ax_D μ.2.1 pc (.isub) 1 nx) (k : ax_At V nx lv (.int (a - b) :: st) x) : ax_At V pc lv (.int b :: .int a :: st) x := by
  obtain ⟨Sd, G, ⟨p, l, e, R, s, m, args, below, meth, c⟩, rv, sf⟩ := V
  obtain ⟨d, rfl⟩ := d
  intro H locs ls hP hS hl
  exact lv_isub hV.1 hV.2.1 d (k H locs ls hP hS hl)
theorem ax_imul {V : ax_V} {μ : ax_Mu} (hV : ax_ok V μ) {pc nx : Nat} {lv : List (Option Value)} {st : List Value} {x : ax_S} {a b : Int32} (d : ax_D μ.2.1 pc (.imul) 1 nx) (k : ax_At V nx lv (.int (a * b) :: st) x) : ax_At V pc lv (.int b :: .int a :: st) x := by
  obtain ⟨Sd, G, ⟨p, l, e, R, s, m, args, below, meth, c⟩, rv, sf⟩ := V
  obtain ⟨d, rfl⟩ := d
  intro H locs ls hP hS hl
  exact lv_imul hV.1 hV.2.1 d (k H locs ls hP hS hl)
theorem ax_iand {V : ax_V} {μ : ax_Mu} (hV : ax_ok V μ) {pc nx : Nat} {lv : List (Option Value)} {st : List Value} {x : ax_S} {a b : Int32} (d : ax_D μ.2.1 pc (.iand) 1 nx) (k : ax_At V nx lv (.int (a &&& b) :: st) x) : ax_At V pc lv (.int b :: .int a :: st) x := by
  obtain ⟨Sd, G, ⟨p, l, e, R, s, m, args, below, meth, c⟩, rv, sf⟩ := V
  obtain ⟨d, rfl⟩ := d
  intro H locs ls hP hS hl
  exact lv_iand hV.1 hV.2.1 d (k H locs ls hP hS hl)
theorem ax_ior {V : ax_V} {μ : ax_Mu} (hV : ax_ok V μ) {pc nx : Nat} {lv : List (Option Value)} {st : List Value} {x : ax_S} {a b : Int32} (d : ax_D μ.2.1 pc (.ior) 1 nx) (k : ax_At V nx lv (.int (a ||| b) :: st) x) : ax_At V pc lv (.int b :: .int a :: st) x := by
  obtain ⟨Sd, G, ⟨p, l, e, R, s, m, args, below, meth, c⟩, rv, sf⟩ := V
  obtain ⟨d, rfl⟩ := d
  intro H locs ls hP hS hl
  exact lv_ior hV.1 hV.2.1 d (k H locs ls hP hS hl)
theorem ax_ixor {V : ax_V} {μ : ax_Mu} (hV : ax_ok V μ) {pc nx : Nat} {lv : List (Option Value)} {st : List Value} {x : ax_S} {a b : Int32} (d : ax_D μ.2.1 pc (.ixor) 1 nx) (k : ax_At V nx lv (.int (a ^^^ b) :: st) x) : ax_At V pc lv (.int b :: .int a :: st) x := by
  obtain ⟨Sd, G, ⟨p, l, e, R, s, m, args, below, meth, c⟩, rv, sf⟩ := V
  obtain ⟨d, rfl⟩ := d
  intro H locs ls hP hS hl
  exact lv_ixor hV.1 hV.2.1 d (k H locs ls hP hS hl)
theorem ax_ishl {V : ax_V} {μ : ax_Mu} (hV : ax_ok V μ) {pc nx : Nat} {lv : List (Option Value)} {st : List Value} {x : ax_S} {a b : Int32} (d : ax_D μ.2.1 pc (.ishl) 1 nx) (k : ax_At V nx lv (.int (a <<< (b &&& 31)) :: st) x) : ax_At V pc lv (.int b :: .int a :: st) x := by
  obtain ⟨Sd, G, ⟨p, l, e, R, s, m, args, below, meth, c⟩, rv, sf⟩ := V
  obtain ⟨d, rfl⟩ := d
  intro H locs ls hP hS hl
  exact lv_ishl hV.1 hV.2.1 d (k H locs ls hP hS hl)
theorem ax_ishr {V : ax_V} {μ : ax_Mu} (hV : ax_ok V μ) {pc nx : Nat} {lv : List (Option Value)} {st : List Value} {x : ax_S} {a b : Int32} (d : ax_D μ.2.1 pc (.ishr) 1 nx) (k : ax_At V nx lv (.int (a >>> (b &&& 31)) :: st) x) : ax_At V pc lv (.int b :: .int a :: st) x := by
  obtain ⟨Sd, G, ⟨p, l, e, R, s, m, args, below, meth, c⟩, rv, sf⟩ := V
  obtain ⟨d, rfl⟩ := d
  intro H locs ls hP hS hl
  exact lv_ishr hV.1 hV.2.1 d (k H locs ls hP hS hl)
theorem ax_ladd {V : ax_V} {μ : ax_Mu} (hV : ax_ok V μ) {pc nx : Nat} {lv : List (Option Value)} {st : List Value} {x : ax_S} {a b : Int64} (d : ax_D μ.2.1 pc (.ladd) 1 nx) (k : ax_At V nx lv (.long (a + b) :: st) x) : ax_At V pc lv (.long b :: .long a :: st) x := by
  obtain ⟨Sd, G, ⟨p, l, e, R, s, m, args, below, meth, c⟩, rv, sf⟩ := V
  obtain ⟨d, rfl⟩ := d
  intro H locs ls hP hS hl
  exact lv_ladd hV.1 hV.2.1 d (k H locs ls hP hS hl)
theorem ax_lsub {V : ax_V} {μ : ax_Mu} (hV : ax_ok V μ) {pc nx : Nat} {lv : List (Option Value)} {st : List Value} {x : ax_S} {a b : Int64} (d : ax_D μ.2.1 pc (.lsub) 1 nx) (k : ax_At V nx lv (.long (a - b) :: st) x) : ax_At V pc lv (.long b :: .long a :: st) x := by
  obtain ⟨Sd, G, ⟨p, l, e, R, s, m, args, below, meth, c⟩, rv, sf⟩ := V
  obtain ⟨d, rfl⟩ := d
  intro H locs ls hP hS hl
  exact lv_lsub hV.1 hV.2.1 d (k H locs ls hP hS hl)
theorem ax_lmul {V : ax_V} {μ : ax_Mu} (hV : ax_ok V μ) {pc nx : Nat} {lv : List (Option Value)} {st : List Value} {x : ax_S} {a b : Int64} (d : ax_D μ.2.1 pc (.lmul) 1 nx) (k : ax_At V nx lv (.long (a * b) :: st) x) : ax_At V pc lv (.long b :: .long a :: st) x := by
  obtain ⟨Sd, G, ⟨p, l, e, R, s, m, args, below, meth, c⟩, rv, sf⟩ := V
  obtain ⟨d, rfl⟩ := d
  intro H locs ls hP hS hl
  exact lv_lmul hV.1 hV.2.1 d (k H locs ls hP hS hl)
theorem ax_land {V : ax_V} {μ : ax_Mu} (hV : ax_ok V μ) {pc nx : Nat} {lv : List (Option Value)} {st : List Value} {x : ax_S} {a b : Int64} (d : ax_D μ.2.1 pc (.land) 1 nx) (k : ax_At V nx lv (.long (a &&& b) :: st) x) : ax_At V pc lv (.long b :: .long a :: st) x := by
  obtain ⟨Sd, G, ⟨p, l, e, R, s, m, args, below, meth, c⟩, rv, sf⟩ := V
  obtain ⟨d, rfl⟩ := d
  intro H locs ls hP hS hl
  exact lv_land hV.1 hV.2.1 d (k H locs ls hP hS hl)
theorem ax_lor {V : ax_V} {μ : ax_Mu} (hV : ax_ok V μ) {pc nx : Nat} {lv : List (Option Value)} {st : List Value} {x : ax_S} {a b : Int64} (d : ax_D μ.2.1 pc (.lor) 1 nx) (k : ax_At V nx lv (.long (a ||| b) :: st) x) : ax_At V pc lv (.long b :: .long a :: st) x := by
  obtain ⟨Sd, G, ⟨p, l, e, R, s, m, args, below, meth, c⟩, rv, sf⟩ := V
  obtain ⟨d, rfl⟩ := d
  intro H locs ls hP hS hl
  exact lv_lor hV.1 hV.2.1 d (k H locs ls hP hS hl)
theorem ax_lxor {V : ax_V} {μ : ax_Mu} (hV : ax_ok V μ) {pc nx : Nat} {lv : List (Option Value)} {st : List Value} {x : ax_S} {a b : Int64} (d : ax_D μ.2.1 pc (.lxor) 1 nx) (k : ax_At V nx lv (.long (a ^^^ b) :: st) x) : ax_At V pc lv (.long b :: .long a :: st) x := by
  obtain ⟨Sd, G, ⟨p, l, e, R, s, m, args, below, meth, c⟩, rv, sf⟩ := V
  obtain ⟨d, rfl⟩ := d
  intro H locs ls hP hS hl
  exact lv_lxor hV.1 hV.2.1 d (k H locs ls hP hS hl)
def ax_iushr (a b : Int32) : Int32 := (a.toUInt32 >>> (b.toUInt32 &&& Int32.toUInt32 31)).toInt32
def ax_lushr (a : Int64) (b : Int32) : Int64 := (a.toUInt64 >>> (b.toInt64.toUInt64 &&& Int64.toUInt64 63)).toInt64
def ax_lshl (a : Int64) (b : Int32) : Int64 := a <<< (b.toInt64 &&& 63)
def ax_lshr (a : Int64) (b : Int32) : Int64 := a >>> (b.toInt64 &&& 63)
theorem ax_iushr_ {V : ax_V} {μ : ax_Mu} (hV : ax_ok V μ) {pc nx : Nat} {lv : List (Option Value)} {st : List Value} {x : ax_S} {a b : Int32} (d : ax_D μ.2.1 pc (.iushr) 1 nx) (k : ax_At V nx lv (.int (ax_iushr a b) :: st) x) : ax_At V pc lv (.int b :: .int a :: st) x := by
  obtain ⟨Sd, G, ⟨p, l, e, R, s, m, args, below, meth, c⟩, rv, sf⟩ := V
  obtain ⟨d, rfl⟩ := d
  intro H locs ls hP hS hl
  exact lv_iushr hV.1 hV.2.1 d rfl (k H locs ls hP hS hl)
theorem ax_lushr_ {V : ax_V} {μ : ax_Mu} (hV : ax_ok V μ) {pc nx : Nat} {lv : List (Option Value)} {st : List Value} {x : ax_S} {a : Int64} {b : Int32} (d : ax_D μ.2.1 pc (.lushr) 1 nx) (k : ax_At V nx lv (.long (ax_lushr a b) :: st) x) : ax_At V pc lv (.int b :: .long a :: st) x := by
  obtain ⟨Sd, G, ⟨p, l, e, R, s, m, args, below, meth, c⟩, rv, sf⟩ := V
  obtain ⟨d, rfl⟩ := d
  intro H locs ls hP hS hl
  exact lv_lushr hV.1 hV.2.1 d rfl (k H locs ls hP hS hl)
theorem ax_lshl_ {V : ax_V} {μ : ax_Mu} (hV : ax_ok V μ) {pc nx : Nat} {lv : List (Option Value)} {st : List Value} {x : ax_S} {a : Int64} {b : Int32} (d : ax_D μ.2.1 pc (.lshl) 1 nx) (k : ax_At V nx lv (.long (ax_lshl a b) :: st) x) : ax_At V pc lv (.int b :: .long a :: st) x := by
  obtain ⟨Sd, G, ⟨p, l, e, R, s, m, args, below, meth, c⟩, rv, sf⟩ := V
  obtain ⟨d, rfl⟩ := d
  intro H locs ls hP hS hl
  exact lv_lshl hV.1 hV.2.1 d rfl (k H locs ls hP hS hl)
theorem ax_lshr_ {V : ax_V} {μ : ax_Mu} (hV : ax_ok V μ) {pc nx : Nat} {lv : List (Option Value)} {st : List Value} {x : ax_S} {a : Int64} {b : Int32} (d : ax_D μ.2.1 pc (.lshr) 1 nx) (k : ax_At V nx lv (.long (ax_lshr a b) :: st) x) : ax_At V pc lv (.int b :: .long a :: st) x := by
  obtain ⟨Sd, G, ⟨p, l, e, R, s, m, args, below, meth, c⟩, rv, sf⟩ := V
  obtain ⟨d, rfl⟩ := d
  intro H locs ls hP hS hl
  exact lv_lshr hV.1 hV.2.1 d rfl (k H locs ls hP hS hl)
theorem ax_ineg {V : ax_V} {μ : ax_Mu} (hV : ax_ok V μ) {pc nx : Nat} {lv : List (Option Value)} {st : List Value} {x : ax_S} {a : Int32} (d : ax_D μ.2.1 pc (.ineg) 1 nx) (k : ax_At V nx lv (.int (-a) :: st) x) : ax_At V pc lv (.int a :: st) x := by
  obtain ⟨Sd, G, ⟨p, l, e, R, s, m, args, below, meth, c⟩, rv, sf⟩ := V
  obtain ⟨d, rfl⟩ := d
  intro H locs ls hP hS hl
  exact lv_ineg hV.1 hV.2.1 d (k H locs ls hP hS hl)
theorem ax_i2l {V : ax_V} {μ : ax_Mu} (hV : ax_ok V μ) {pc nx : Nat} {lv : List (Option Value)} {st : List Value} {x : ax_S} {a : Int32} (d : ax_D μ.2.1 pc (.i2l) 1 nx) (k : ax_At V nx lv (.long a.toInt64 :: st) x) : ax_At V pc lv (.int a :: st) x := by
  obtain ⟨Sd, G, ⟨p, l, e, R, s, m, args, below, meth, c⟩, rv, sf⟩ := V
  obtain ⟨d, rfl⟩ := d
  intro H locs ls hP hS hl
  exact lv_i2l hV.1 hV.2.1 d rfl (k H locs ls hP hS hl)
theorem ax_l2i {V : ax_V} {μ : ax_Mu} (hV : ax_ok V μ) {pc nx : Nat} {lv : List (Option Value)} {st : List Value} {x : ax_S} {a : Int64} (d : ax_D μ.2.1 pc (.l2i) 1 nx) (k : ax_At V nx lv (.int a.toInt32 :: st) x) : ax_At V pc lv (.long a :: st) x := by
  obtain ⟨Sd, G, ⟨p, l, e, R, s, m, args, below, meth, c⟩, rv, sf⟩ := V
  obtain ⟨d, rfl⟩ := d
  intro H locs ls hP hS hl
  exact lv_l2i hV.1 hV.2.1 d rfl (k H locs ls hP hS hl)
theorem ax_i2b {V : ax_V} {μ : ax_Mu} (hV : ax_ok V μ) {pc nx : Nat} {lv : List (Option Value)} {st : List Value} {x : ax_S} {a : Int32} (d : ax_D μ.2.1 pc (.i2b) 1 nx) (k : ax_At V nx lv (.int a.toInt8.toInt32 :: st) x) : ax_At V pc lv (.int a :: st) x := by
  obtain ⟨Sd, G, ⟨p, l, e, R, s, m, args, below, meth, c⟩, rv, sf⟩ := V
  obtain ⟨d, rfl⟩ := d
  intro H locs ls hP hS hl
  exact lv_i2b hV.1 hV.2.1 d rfl (k H locs ls hP hS hl)
theorem ax_i2s {V : ax_V} {μ : ax_Mu} (hV : ax_ok V μ) {pc nx : Nat} {lv : List (Option Value)} {st : List Value} {x : ax_S} {a : Int32} (d : ax_D μ.2.1 pc (.i2s) 1 nx) (k : ax_At V nx lv (.int a.toInt16.toInt32 :: st) x) : ax_At V pc lv (.int a :: st) x := by
  obtain ⟨Sd, G, ⟨p, l, e, R, s, m, args, below, meth, c⟩, rv, sf⟩ := V
  obtain ⟨d, rfl⟩ := d
  intro H locs ls hP hS hl
  exact lv_i2s hV.1 hV.2.1 d rfl (k H locs ls hP hS hl)
theorem ax_lcmp {V : ax_V} {μ : ax_Mu} (hV : ax_ok V μ) {pc nx : Nat} {lv : List (Option Value)} {st : List Value} {x : ax_S} {a b : Int64} (d : ax_D μ.2.1 pc (.lcmp) 1 nx) (k : ax_At V nx lv (.int (lg_cmp a b) :: st) x) : ax_At V pc lv (.long b :: .long a :: st) x := by
  obtain ⟨Sd, G, ⟨p, l, e, R, s, m, args, below, meth, c⟩, rv, sf⟩ := V
  obtain ⟨d, rfl⟩ := d
  intro H locs ls hP hS hl
  exact W.lcmp hV.1 hV.2.1 d (k H locs ls hP hS hl)
theorem ax_dup {V : ax_V} {μ : ax_Mu} (hV : ax_ok V μ) {pc nx : Nat} {lv : List (Option Value)} {st : List Value} {x : ax_S} {va : Value} (d : ax_D μ.2.1 pc (.dup) 1 nx) (hva : va.category = 1) (k : ax_At V nx lv (va :: va :: st) x) : ax_At V pc lv (va :: st) x := by
  obtain ⟨Sd, G, ⟨p, l, e, R, s, m, args, below, meth, c⟩, rv, sf⟩ := V
  obtain ⟨d, rfl⟩ := d
  intro H locs ls hP hS hl
  exact lv_dup hV.1 hV.2.1 d hva (k H locs ls hP hS hl)
theorem ax_pop {V : ax_V} {μ : ax_Mu} (hV : ax_ok V μ) {pc nx : Nat} {lv : List (Option Value)} {st : List Value} {x : ax_S} {va : Value} (d : ax_D μ.2.1 pc (.pop) 1 nx) (hva : va.category = 1) (k : ax_At V nx lv (st) x) : ax_At V pc lv (va :: st) x := by
  obtain ⟨Sd, G, ⟨p, l, e, R, s, m, args, below, meth, c⟩, rv, sf⟩ := V
  obtain ⟨d, rfl⟩ := d
  intro H locs ls hP hS hl
  exact lv_pop hV.1 hV.2.1 d hva (k H locs ls hP hS hl)
theorem ax_dup2 {V : ax_V} {μ : ax_Mu} (hV : ax_ok V μ) {pc nx : Nat} {lv : List (Option Value)} {st : List Value} {x : ax_S} {va vb : Value} (d : ax_D μ.2.1 pc (.dup2) 1 nx) (hva : va.category = 1) (hvb : vb.category = 1) (k : ax_At V nx lv (va :: vb :: va :: vb :: st) x) : ax_At V pc lv (va :: vb :: st) x := by
  obtain ⟨Sd, G, ⟨p, l, e, R, s, m, args, below, meth, c⟩, rv, sf⟩ := V
  obtain ⟨d, rfl⟩ := d
  intro H locs ls hP hS hl
  exact lv_dup2_11 hV.1 hV.2.1 d hva hvb (k H locs ls hP hS hl)
def ax_idiv (a b : Int32) : Option Int32 := if b = 0 then none else some (a / b)
theorem ax_idiv_ {V : ax_V} {μ : ax_Mu} (hV : ax_ok V μ) {pc nx : Nat} {lv : List (Option Value)} {st : List Value} {x : ax_S} {a b : Int32} (d : ax_D μ.2.1 pc (.idiv) 1 nx) (v : Int32) (ho : ax_idiv a b = some v) (k : ax_At V nx lv (.int v :: st) x) : ax_At V pc lv (.int b :: .int a :: st) x := by
  obtain ⟨Sd, G, ⟨p, l, e, R, s, m, args, below, meth, c⟩, rv, sf⟩ := V
  obtain ⟨d, rfl⟩ := d
  unfold ax_idiv at ho
  split at ho
  · cases ho
  · rename_i hb
    cases ho
    intro H locs ls hP hS hl
    exact lv_idiv hV.1 hV.2.1 d hb (k H locs ls hP hS hl)
def ax_irem (a b : Int32) : Option Int32 := if b = 0 then none else some (a - a / b * b)
theorem ax_irem_ {V : ax_V} {μ : ax_Mu} (hV : ax_ok V μ) {pc nx : Nat} {lv : List (Option Value)} {st : List Value} {x : ax_S} {a b : Int32} (d : ax_D μ.2.1 pc (.irem) 1 nx) (v : Int32) (ho : ax_irem a b = some v) (k : ax_At V nx lv (.int v :: st) x) : ax_At V pc lv (.int b :: .int a :: st) x := by
  obtain ⟨Sd, G, ⟨p, l, e, R, s, m, args, below, meth, c⟩, rv, sf⟩ := V
  obtain ⟨d, rfl⟩ := d
  unfold ax_irem at ho
  split at ho
  · cases ho
  · rename_i hb
    cases ho
    intro H locs ls hP hS hl
    exact lv_irem hV.1 hV.2.1 d hb (k H locs ls hP hS hl)
def ax_ldiv (a b : Int64) : Option Int64 := if b = 0 then none else some (a / b)
theorem ax_ldiv_ {V : ax_V} {μ : ax_Mu} (hV : ax_ok V μ) {pc nx : Nat} {lv : List (Option Value)} {st : List Value} {x : ax_S} {a b : Int64} (d : ax_D μ.2.1 pc (.ldiv) 1 nx) (v : Int64) (ho : ax_ldiv a b = some v) (k : ax_At V nx lv (.long v :: st) x) : ax_At V pc lv (.long b :: .long a :: st) x := by
  obtain ⟨Sd, G, ⟨p, l, e, R, s, m, args, below, meth, c⟩, rv, sf⟩ := V
  obtain ⟨d, rfl⟩ := d
  unfold ax_ldiv at ho
  split at ho
  · cases ho
  · rename_i hb
    cases ho
    intro H locs ls hP hS hl
    exact lv_ldiv hV.1 hV.2.1 d hb (k H locs ls hP hS hl)
def ax_lrem (a b : Int64) : Option Int64 := if b = 0 then none else some (a - a / b * b)
theorem ax_lrem_ {V : ax_V} {μ : ax_Mu} (hV : ax_ok V μ) {pc nx : Nat} {lv : List (Option Value)} {st : List Value} {x : ax_S} {a b : Int64} (d : ax_D μ.2.1 pc (.lrem) 1 nx) (v : Int64) (ho : ax_lrem a b = some v) (k : ax_At V nx lv (.long v :: st) x) : ax_At V pc lv (.long b :: .long a :: st) x := by
  obtain ⟨Sd, G, ⟨p, l, e, R, s, m, args, below, meth, c⟩, rv, sf⟩ := V
  obtain ⟨d, rfl⟩ := d
  unfold ax_lrem at ho
  split at ho
  · cases ho
  · rename_i hb
    cases ho
    intro H locs ls hP hS hl
    exact lv_lrem hV.1 hV.2.1 d hb (k H locs ls hP hS hl)
theorem ax_icmp_eq {V : ax_V} {μ : ax_Mu} (hV : ax_ok V μ) {pc nx : Nat} {lv : List (Option Value)} {st : List Value} {x : ax_S} {tgt : Nat} {a b : Int32} (d : ax_B μ.2.1 pc (.if_icmp .eq) nx tgt) (k1 : a = b → ax_At V tgt lv st x) (k2 : ¬ a = b → ax_At V nx lv st x) : ax_At V pc lv (.int b :: .int a :: st) x := by
  obtain ⟨Sd, G, ⟨p, l, e, R, s, m, args, below, meth, c⟩, rv, sf⟩ := V
  obtain ⟨off, d, rfl, ht⟩ := d
  intro H locs ls hP hS hl
  exact lv_icmp_eq hV.1 hV.2.1 d ht (fun q => k1 q H locs ls hP hS hl) (fun q => k2 q H locs ls hP hS hl)
theorem ax_if_eq {V : ax_V} {μ : ax_Mu} (hV : ax_ok V μ) {pc nx : Nat} {lv : List (Option Value)} {st : List Value} {x : ax_S} {tgt : Nat} {a : Int32} (d : ax_B μ.2.1 pc (.ifCond .eq) nx tgt) (k1 : a = 0 → ax_At V tgt lv st x) (k2 : ¬ a = 0 → ax_At V nx lv st x) : ax_At V pc lv (.int a :: st) x := by
  obtain ⟨Sd, G, ⟨p, l, e, R, s, m, args, below, meth, c⟩, rv, sf⟩ := V
  obtain ⟨off, d, rfl, ht⟩ := d
  intro H locs ls hP hS hl
  exact lv_if_eq hV.1 hV.2.1 d ht (fun q => k1 q H locs ls hP hS hl) (fun q => k2 q H locs ls hP hS hl)
theorem ax_icmp_ne {V : ax_V} {μ : ax_Mu} (hV : ax_ok V μ) {pc nx : Nat} {lv : List (Option Value)} {st : List Value} {x : ax_S} {tgt : Nat} {a b : Int32} (d : ax_B μ.2.1 pc (.if_icmp .ne) nx tgt) (k1 : a = b → ax_At V nx lv st x) (k2 : ¬ a = b → ax_At V tgt lv st x) : ax_At V pc lv (.int b :: .int a :: st) x := by
  obtain ⟨Sd, G, ⟨p, l, e, R, s, m, args, below, meth, c⟩, rv, sf⟩ := V
  obtain ⟨off, d, rfl, ht⟩ := d
  intro H locs ls hP hS hl
  exact lv_icmp_ne hV.1 hV.2.1 d ht (fun q => k2 q H locs ls hP hS hl) (fun q => k1 q H locs ls hP hS hl)
theorem ax_if_ne {V : ax_V} {μ : ax_Mu} (hV : ax_ok V μ) {pc nx : Nat} {lv : List (Option Value)} {st : List Value} {x : ax_S} {tgt : Nat} {a : Int32} (d : ax_B μ.2.1 pc (.ifCond .ne) nx tgt) (k1 : a = 0 → ax_At V nx lv st x) (k2 : ¬ a = 0 → ax_At V tgt lv st x) : ax_At V pc lv (.int a :: st) x := by
  obtain ⟨Sd, G, ⟨p, l, e, R, s, m, args, below, meth, c⟩, rv, sf⟩ := V
  obtain ⟨off, d, rfl, ht⟩ := d
  intro H locs ls hP hS hl
  exact lv_if_ne hV.1 hV.2.1 d ht (fun q => k2 q H locs ls hP hS hl) (fun q => k1 q H locs ls hP hS hl)
theorem ax_icmp_lt {V : ax_V} {μ : ax_Mu} (hV : ax_ok V μ) {pc nx : Nat} {lv : List (Option Value)} {st : List Value} {x : ax_S} {tgt : Nat} {a b : Int32} (d : ax_B μ.2.1 pc (.if_icmp .lt) nx tgt) (k1 : a < b → ax_At V tgt lv st x) (k2 : ¬ a < b → ax_At V nx lv st x) : ax_At V pc lv (.int b :: .int a :: st) x := by
  obtain ⟨Sd, G, ⟨p, l, e, R, s, m, args, below, meth, c⟩, rv, sf⟩ := V
  obtain ⟨off, d, rfl, ht⟩ := d
  intro H locs ls hP hS hl
  exact lv_icmp_lt hV.1 hV.2.1 d ht (fun q => k1 q H locs ls hP hS hl) (fun q => k2 q H locs ls hP hS hl)
theorem ax_if_lt {V : ax_V} {μ : ax_Mu} (hV : ax_ok V μ) {pc nx : Nat} {lv : List (Option Value)} {st : List Value} {x : ax_S} {tgt : Nat} {a : Int32} (d : ax_B μ.2.1 pc (.ifCond .lt) nx tgt) (k1 : a < 0 → ax_At V tgt lv st x) (k2 : ¬ a < 0 → ax_At V nx lv st x) : ax_At V pc lv (.int a :: st) x := by
  obtain ⟨Sd, G, ⟨p, l, e, R, s, m, args, below, meth, c⟩, rv, sf⟩ := V
  obtain ⟨off, d, rfl, ht⟩ := d
  intro H locs ls hP hS hl
  exact lv_if_lt hV.1 hV.2.1 d ht (fun q => k1 q H locs ls hP hS hl) (fun q => k2 q H locs ls hP hS hl)
theorem ax_icmp_ge {V : ax_V} {μ : ax_Mu} (hV : ax_ok V μ) {pc nx : Nat} {lv : List (Option Value)} {st : List Value} {x : ax_S} {tgt : Nat} {a b : Int32} (d : ax_B μ.2.1 pc (.if_icmp .ge) nx tgt) (k1 : b ≤ a → ax_At V tgt lv st x) (k2 : ¬ b ≤ a → ax_At V nx lv st x) : ax_At V pc lv (.int b :: .int a :: st) x := by
  obtain ⟨Sd, G, ⟨p, l, e, R, s, m, args, below, meth, c⟩, rv, sf⟩ := V
  obtain ⟨off, d, rfl, ht⟩ := d
  intro H locs ls hP hS hl
  exact lv_icmp_ge hV.1 hV.2.1 d ht (fun q => k1 q H locs ls hP hS hl) (fun q => k2 q H locs ls hP hS hl)
theorem ax_if_ge {V : ax_V} {μ : ax_Mu} (hV : ax_ok V μ) {pc nx : Nat} {lv : List (Option Value)} {st : List Value} {x : ax_S} {tgt : Nat} {a : Int32} (d : ax_B μ.2.1 pc (.ifCond .ge) nx tgt) (k1 : 0 ≤ a → ax_At V tgt lv st x) (k2 : ¬ 0 ≤ a → ax_At V nx lv st x) : ax_At V pc lv (.int a :: st) x := by
  obtain ⟨Sd, G, ⟨p, l, e, R, s, m, args, below, meth, c⟩, rv, sf⟩ := V
  obtain ⟨off, d, rfl, ht⟩ := d
  intro H locs ls hP hS hl
  exact lv_if_ge hV.1 hV.2.1 d ht (fun q => k1 q H locs ls hP hS hl) (fun q => k2 q H locs ls hP hS hl)
theorem ax_icmp_gt {V : ax_V} {μ : ax_Mu} (hV : ax_ok V μ) {pc nx : Nat} {lv : List (Option Value)} {st : List Value} {x : ax_S} {tgt : Nat} {a b : Int32} (d : ax_B μ.2.1 pc (.if_icmp .gt) nx tgt) (k1 : b < a → ax_At V tgt lv st x) (k2 : ¬ b < a → ax_At V nx lv st x) : ax_At V pc lv (.int b :: .int a :: st) x := by
  obtain ⟨Sd, G, ⟨p, l, e, R, s, m, args, below, meth, c⟩, rv, sf⟩ := V
  obtain ⟨off, d, rfl, ht⟩ := d
  intro H locs ls hP hS hl
  exact lv_icmp_gt hV.1 hV.2.1 d ht (fun q => k1 q H locs ls hP hS hl) (fun q => k2 q H locs ls hP hS hl)
theorem ax_if_gt {V : ax_V} {μ : ax_Mu} (hV : ax_ok V μ) {pc nx : Nat} {lv : List (Option Value)} {st : List Value} {x : ax_S} {tgt : Nat} {a : Int32} (d : ax_B μ.2.1 pc (.ifCond .gt) nx tgt) (k1 : 0 < a → ax_At V tgt lv st x) (k2 : ¬ 0 < a → ax_At V nx lv st x) : ax_At V pc lv (.int a :: st) x := by
  obtain ⟨Sd, G, ⟨p, l, e, R, s, m, args, below, meth, c⟩, rv, sf⟩ := V
  obtain ⟨off, d, rfl, ht⟩ := d
  intro H locs ls hP hS hl
  exact lv_if_gt hV.1 hV.2.1 d ht (fun q => k1 q H locs ls hP hS hl) (fun q => k2 q H locs ls hP hS hl)
theorem ax_icmp_le {V : ax_V} {μ : ax_Mu} (hV : ax_ok V μ) {pc nx : Nat} {lv : List (Option Value)} {st : List Value} {x : ax_S} {tgt : Nat} {a b : Int32} (d : ax_B μ.2.1 pc (.if_icmp .le) nx tgt) (k1 : a ≤ b → ax_At V tgt lv st x) (k2 : ¬ a ≤ b → ax_At V nx lv st x) : ax_At V pc lv (.int b :: .int a :: st) x := by
  obtain ⟨Sd, G, ⟨p, l, e, R, s, m, args, below, meth, c⟩, rv, sf⟩ := V
  obtain ⟨off, d, rfl, ht⟩ := d
  intro H locs ls hP hS hl
  exact lv_icmp_le hV.1 hV.2.1 d ht (fun q => k1 q H locs ls hP hS hl) (fun q => k2 q H locs ls hP hS hl)
theorem ax_if_le {V : ax_V} {μ : ax_Mu} (hV : ax_ok V μ) {pc nx : Nat} {lv : List (Option Value)} {st : List Value} {x : ax_S} {tgt : Nat} {a : Int32} (d : ax_B μ.2.1 pc (.ifCond .le) nx tgt) (k1 : a ≤ 0 → ax_At V tgt lv st x) (k2 : ¬ a ≤ 0 → ax_At V nx lv st x) : ax_At V pc lv (.int a :: st) x := by
  obtain ⟨Sd, G, ⟨p, l, e, R, s, m, args, below, meth, c⟩, rv, sf⟩ := V
  obtain ⟨off, d, rfl, ht⟩ := d
  intro H locs ls hP hS hl
  exact lv_if_le hV.1 hV.2.1 d ht (fun q => k1 q H locs ls hP hS hl) (fun q => k2 q H locs ls hP hS hl)
theorem ax_goto {V : ax_V} {μ : ax_Mu} (hV : ax_ok V μ) {pc nx : Nat} {lv : List (Option Value)} {st : List Value} {x : ax_S} {tgt : Nat} (d : ax_B μ.2.1 pc (.goto) nx tgt) (k : ax_At V tgt lv st x) : ax_At V pc lv st x := by
  obtain ⟨Sd, G, ⟨p, l, e, R, s, m, args, below, meth, c⟩, rv, sf⟩ := V
  obtain ⟨off, d, rfl, ht⟩ := d
  intro H locs ls hP hS hl
  exact lv_goto hV.1 hV.2.1 d ht (k H locs ls hP hS hl)
theorem ax_tsw {V : ax_V} {μ : ax_Mu} (hV : ax_ok V μ) {pc nx : Nat} {lv : List (Option Value)} {st : List Value} {x : ax_S} {dflt hi : Int} {offs : Array Int} {len : Nat} {a : Int32} (i : Nat) (ha : a = Int32.ofNat i) {off : Int} {tgt : Nat} (d : ax_D μ.2.1 pc (.tableswitch dflt 0 hi offs) len nx) (ho : offs[i]? = some off) (ht : (pc : Int) + off = (tgt : Int)) (hi1 : (i : Int) ≤ hi) (hi2 : hi < 1000) (k : ax_At V tgt lv st x) : ax_At V pc lv (.int a :: st) x := by
  obtain ⟨Sd, G, ⟨p, l, e, R, s, m, args, below, meth, c⟩, rv, sf⟩ := V
  have d := d.1
  subst ha
  have hv : (Int32.ofNat i).toInt = (i : Int) := Int32.toInt_ofNat_of_lt (by omega)
  intro H locs ls hP hS hl
  exact lv_tableIn hV.1 hV.2.1 d (by rw [hv]; omega) (by rw [hv]; omega) (by rw [hv]; simpa using ho) ht (k H locs ls hP hS hl)
def ax_nk (a : Int32) (n : Nat) : Prop := ∀ k : Nat, k < n → ¬ a = Int32.ofNat k
theorem ax_nk_0 {a : Int32} : ax_nk a 0 := fun k h => absurd h (by omega)
theorem ax_nk_s {a : Int32} {n : Nat} (h : ax_nk a n) (h2 : ¬ a = Int32.ofNat n) : ax_nk a (n + 1) := fun k hk => by
  rcases Nat.lt_or_ge k n with q | q
  · exact h k q
  · have : k = n := by omega
    subst this
    exact h2
theorem ax_tswd {V : ax_V} {μ : ax_Mu} (hV : ax_ok V μ) {pc nx : Nat} {lv : List (Option Value)} {st : List Value} {x : ax_S} {dflt hi : Int} {offs : Array Int} {len : Nat} {a : Int32} {n : Nat} (hn : ax_nk a n) {tgt : Nat} (d : ax_D μ.2.1 pc (.tableswitch dflt 0 hi offs) len nx) (ht : (pc : Int) + dflt = (tgt : Int)) (hh : hi + 1 = (n : Int)) (k : ax_At V tgt lv st x) : ax_At V pc lv (.int a :: st) x := by
  obtain ⟨Sd, G, ⟨p, l, e, R, s, m, args, below, meth, c⟩, rv, sf⟩ := V
  have d := d.1
  intro H locs ls hP hS hl
  refine lv_tableOut hV.1 hV.2.1 d ?_ ht (k H locs ls hP hS hl)
  by_cases h1 : a.toInt < 0
  · exact Or.inl h1
  · refine Or.inr ?_
    rcases Int.lt_or_le hi a.toInt with q | q
    · exact q
    · refine absurd ?_ (hn a.toInt.toNat (by omega))
      apply Int32.toInt_inj.mp
      have := a.toInt_lt
      rw [Int32.toInt_ofNat_of_lt (by omega)]
      omega
/-- the field link: class ci of cx_cls, its field j -/
def ax_F (own : String) (ix ci j : Nat) : Prop := ∃ (C : String) (T : u_T) (N : Nat), cx_cls[ci]? = some (C, T, N) ∧ j < N ∧ (∀ w ∈ u_ws C T N, w ∈ ax_tb) ∧ Cond.fieldLink own ix (T j).1 (T j).2.1 (T j).2.2.1 ∈ ax_tb
def ax_Fp (own : String) (ix ci j : Nat) (ty : FieldType) : Prop := ∃ (C : String) (T : u_T) (N : Nat) (ty0 : Nat → FieldType), cx_cls[ci]? = some (C, T, N) ∧ j < N ∧ (∀ w ∈ u_ws C T N, w ∈ ax_tb) ∧ Cond.fieldLink own ix (T j).1 (T j).2.1 (T j).2.2.1 ∈ ax_tb ∧ (∀ k, k < N → parseFieldDescriptor (T k).2.2.1 = some (ty0 k)) ∧ (∀ a, a < N → ∀ b, b < N → a ≠ b → (T a).2.1 ≠ (T b).2.1) ∧ (T j).2.2.2 = false ∧ parseFieldDescriptor (T j).2.2.1 = some ty
theorem ax_fs_get {ad : Nat → Nat} {s : ax_S} {k j t : Nat} {fds : List Nat} (h : fds[j]? = some t) : (ax_fs ad s k fds)[j]? = some (ax_fv ad s k j t) := by
  simp [ax_fs, List.getElem?_mapIdx, h]
theorem ax_fs_len {ad : Nat → Nat} {s : ax_S} {k : Nat} {fds : List Nat} : (ax_fs ad s k fds).length = fds.length := by simp [ax_fs]
theorem ax_gf {V : ax_V} {μ : ax_Mu} (hV : ax_ok V μ) {pc nx : Nat} {lv : List (Option Value)} {st : List Value} {x : ax_S} {ix ci j t a : Nat} {fds : List Nat} (hf : ax_F μ.1.cls ix ci j) (d : ax_D μ.2.1 pc (.getfield ix) 3 nx) (hL : V.1.1[a]? = some (0, ci, fds)) (ht : fds[j]? = some t) (k : ax_At V nx lv (ax_fv (ax_ad V) x a j t :: st) x) : ax_At V pc lv (.ref (ax_ad V a) :: st) x := by
  obtain ⟨Sd, G, ⟨p, l, e, R, s, m, args, below, meth, c⟩, rv, sf⟩ := V
  obtain ⟨d, rfl⟩ := d
  obtain ⟨C, T, N, hc, hj, hin, hlk⟩ := hf
  intro H locs ls hP hS hl
  exact va_get hV.1 hV.2.1 hV.2.2.2.2.1 hin hV.2.2.2.1 hV.2.2.2.2.2.1 hP a (ax_ws_get (G := G) (s := x) hL) hc j hj (hV.2.2.2.2.1 _ hlk) (fun _ h => h) (ax_fs_get ht) d (k H locs ls hP hS hl)
theorem ax_gfi {V : ax_V} {μ : ax_Mu} (hV : ax_ok V μ) {pc nx : Nat} {lv : List (Option Value)} {st : List Value} {x : ax_S} {ix ci j a : Nat} {fds : List Nat} (hf : ax_F μ.1.cls ix ci j) (d : ax_D μ.2.1 pc (.getfield ix) 3 nx) (hL : V.1.1[a]? = some (0, ci, fds)) (ht : fds[j]? = some 0) (k : ax_At V nx lv (.int (x.1 a j) :: st) x) : ax_At V pc lv (.ref (ax_ad V a) :: st) x := ax_gf hV hf d hL ht k
theorem ax_gfl {V : ax_V} {μ : ax_Mu} (hV : ax_ok V μ) {pc nx : Nat} {lv : List (Option Value)} {st : List Value} {x : ax_S} {ix ci j a : Nat} {fds : List Nat} (hf : ax_F μ.1.cls ix ci j) (d : ax_D μ.2.1 pc (.getfield ix) 3 nx) (hL : V.1.1[a]? = some (0, ci, fds)) (ht : fds[j]? = some 1) (k : ax_At V nx lv (.long (x.2 a j) :: st) x) : ax_At V pc lv (.ref (ax_ad V a) :: st) x := ax_gf hV hf d hL ht k
theorem ax_gfr {V : ax_V} {μ : ax_Mu} (hV : ax_ok V μ) {pc nx : Nat} {lv : List (Option Value)} {st : List Value} {x : ax_S} {ix ci j a b : Nat} {fds : List Nat} (hf : ax_F μ.1.cls ix ci j) (d : ax_D μ.2.1 pc (.getfield ix) 3 nx) (hL : V.1.1[a]? = some (0, ci, fds)) (ht : fds[j]? = some (b + 2)) (k : ax_At V nx lv (.ref (ax_ad V b) :: st) x) : ax_At V pc lv (.ref (ax_ad V a) :: st) x := ax_gf hV hf d hL ht k
theorem ax_fs_ui {ad : Nat → Nat} {s : ax_S} {k j : Nat} {v : Int32} {fds : List Nat} (h : fds[j]? = some 0) : (ax_fs ad s k fds).set j (.int v) = ax_fs ad (ax_ui s k j v) k fds := by
  apply List.ext_getElem?
  intro i
  by_cases hi : j = i
  · subst hi
    rw [List.getElem?_set_self (by rw [ax_fs_len]; exact (List.getElem?_eq_some_iff.mp h).1), ax_fs_get h]
    simp [ax_fv, ax_ui]
  · rw [List.getElem?_set_ne hi]
    simp only [ax_fs, List.getElem?_mapIdx]
    cases hf : fds[i]? with
    | none => rfl
    | some t =>
      have hi2 : ¬ i = j := fun q => hi q.symm
      match t with
      | 0 => simp [ax_fv, ax_ui, hi2]
      | 1 => simp [ax_fv, ax_ui]
      | t + 2 => simp [ax_fv]
theorem ax_fs_ul {ad : Nat → Nat} {s : ax_S} {k j : Nat} {v : Int64} {fds : List Nat} (h : fds[j]? = some 1) : (ax_fs ad s k fds).set j (.long v) = ax_fs ad (ax_ul s k j v) k fds := by
  apply List.ext_getElem?
  intro i
  by_cases hi : j = i
  · subst hi
    rw [List.getElem?_set_self (by rw [ax_fs_len]; exact (List.getElem?_eq_some_iff.mp h).1), ax_fs_get h]
    simp [ax_fv, ax_ul]
  · rw [List.getElem?_set_ne hi]
    simp only [ax_fs, List.getElem?_mapIdx]
    cases hf : fds[i]? with
    | none => rfl
    | some t =>
      have hi2 : ¬ i = j := fun q => hi q.symm
      match t with
      | 0 => simp [ax_fv, ax_ul]
      | 1 => simp [ax_fv, ax_ul, hi2]
      | t + 2 => simp [ax_fv]
theorem ax_pfi {V : ax_V} {μ : ax_Mu} (hV : ax_ok V μ) {pc nx : Nat} {lv : List (Option Value)} {st : List Value} {x : ax_S} {ix ci j a : Nat} {fds : List Nat} {v : Int32} (hf : ax_Fp μ.1.cls ix ci j .int) (d : ax_D μ.2.1 pc (.putfield ix) 3 nx) (hL : V.1.1[a]? = some (0, ci, fds)) (ht : fds[j]? = some 0) (k : ax_At V nx lv st (ax_ui x a j v)) : ax_At V pc lv (.int v :: .ref (ax_ad V a) :: st) x := by
  obtain ⟨Sd, G, ⟨p, l, e, R, s, m, args, below, meth, c⟩, rv, sf⟩ := V
  obtain ⟨d, rfl⟩ := d
  obtain ⟨C, T, N, ty0, hc, hj, hin, hlk, hty, hnm, hfin, hd⟩ := hf
  intro H locs ls hP hS hl
  refine va_put hV.1 hV.2.1 hV.2.2.2.2.1 hin ty0 hty hnm hV.2.2.2.1 hV.2.2.2.2.2.1 hP (ax_D_of hV.2.2.2.2.2.2.1 x) hS a (ax_ws_get (G := G) (s := x) hL) hc j hj (hV.2.2.2.2.1 _ hlk) (fun _ h => h) hfin hd rfl rfl (by rw [ax_fs_len]; exact (List.getElem?_eq_some_iff.mp ht).1) d (fun H1 locs1 hP1 _ hS1 => ?_)
  refine k H1 locs1 ls ?_ hS1 hl
  rw [ax_ws_set (s' := ax_ui x a j v) hL (by simp only [ax_e]; rw [ax_fs_ui ht]) (fun i d' hi => ax_e_congr (by exact ax_ui_ne hi) (by rfl) d')] at hP1
  exact hP1
theorem ax_pfl {V : ax_V} {μ : ax_Mu} (hV : ax_ok V μ) {pc nx : Nat} {lv : List (Option Value)} {st : List Value} {x : ax_S} {ix ci j a : Nat} {fds : List Nat} {v : Int64} (hf : ax_Fp μ.1.cls ix ci j .long) (d : ax_D μ.2.1 pc (.putfield ix) 3 nx) (hL : V.1.1[a]? = some (0, ci, fds)) (ht : fds[j]? = some 1) (k : ax_At V nx lv st (ax_ul x a j v)) : ax_At V pc lv (.long v :: .ref (ax_ad V a) :: st) x := by
  obtain ⟨Sd, G, ⟨p, l, e, R, s, m, args, below, meth, c⟩, rv, sf⟩ := V
  obtain ⟨d, rfl⟩ := d
  obtain ⟨C, T, N, ty0, hc, hj, hin, hlk, hty, hnm, hfin, hd⟩ := hf
  intro H locs ls hP hS hl
  refine va_put hV.1 hV.2.1 hV.2.2.2.2.1 hin ty0 hty hnm hV.2.2.2.1 hV.2.2.2.2.2.1 hP (ax_D_of hV.2.2.2.2.2.2.1 x) hS a (ax_ws_get (G := G) (s := x) hL) hc j hj (hV.2.2.2.2.1 _ hlk) (fun _ h => h) hfin hd rfl rfl (by rw [ax_fs_len]; exact (List.getElem?_eq_some_iff.mp ht).1) d (fun H1 locs1 hP1 _ hS1 => ?_)
  refine k H1 locs1 ls ?_ hS1 hl
  rw [ax_ws_set (s' := ax_ul x a j v) hL (by simp only [ax_e]; rw [ax_fs_ul ht]) (fun i d' hi => ax_e_congr (by rfl) (by exact ax_ul_ne hi) d')] at hP1
  exact hP1
def ax_zb (v : Int32) : Option Int32 := if v &&& 1 = v ∧ (v = 0 ∨ v = 1) then some v else none
theorem ax_pfz {V : ax_V} {μ : ax_Mu} (hV : ax_ok V μ) {pc nx : Nat} {lv : List (Option Value)} {st : List Value} {x : ax_S} {ix ci j a : Nat} {fds : List Nat} {v : Int32} (hf : ax_Fp μ.1.cls ix ci j .boolean) (d : ax_D μ.2.1 pc (.putfield ix) 3 nx) (hL : V.1.1[a]? = some (0, ci, fds)) (ht : fds[j]? = some 0) (v' : Int32) (ho : ax_zb v = some v') (k : ax_At V nx lv st (ax_ui x a j v')) : ax_At V pc lv (.int v :: .ref (ax_ad V a) :: st) x := by
  obtain ⟨Sd, G, ⟨p, l, e, R, s, m, args, below, meth, c⟩, rv, sf⟩ := V
  obtain ⟨d, rfl⟩ := d
  unfold ax_zb at ho
  split at ho
  · rename_i hz
    cases ho
    obtain ⟨C, T, N, ty0, hc, hj, hin, hlk, hty, hnm, hfin, hd⟩ := hf
    intro H locs ls hP hS hl
    refine va_put hV.1 hV.2.1 hV.2.2.2.2.1 hin ty0 hty hnm hV.2.2.2.1 hV.2.2.2.2.2.1 hP (ax_D_of hV.2.2.2.2.2.2.1 x) hS a (ax_ws_get (G := G) (s := x) hL) hc j hj (hV.2.2.2.2.1 _ hlk) (fun _ h => h) hfin hd (by simp only [narrow]; rw [hz.1]) (by rcases hz.2 with h | h <;> subst h <;> rfl) (by rw [ax_fs_len]; exact (List.getElem?_eq_some_iff.mp ht).1) d (fun H1 locs1 hP1 _ hS1 => ?_)
    refine k H1 locs1 ls ?_ hS1 hl
    rw [ax_ws_set (s' := ax_ui x a j v) hL (by simp only [ax_e]; rw [ax_fs_ui ht]) (fun i d' hi => ax_e_congr (by exact ax_ui_ne hi) (by rfl) d')] at hP1
    exact hP1
  · cases ho
end
section
def ax_len (Sd : ax_Sd) (kd a : Nat) : Option Nat := match Sd.1[a]? with
  | some (k, n, _) => if k = kd then some n else none
  | none => none
theorem ax_len_some {Sd : ax_Sd} {kd a n : Nat} (h : ax_len Sd kd a = some n) : ∃ fds, Sd.1[a]? = some (kd, n, fds) := by
  unfold ax_len at h
  cases hs : Sd.1[a]? with
  | none => rw [hs] at h; cases h
  | some q =>
    obtain ⟨k, m, fds⟩ := q
    rw [hs] at h
    simp only at h
    split at h
    · rename_i hk
      cases h
      subst hk
      exact ⟨fds, rfl⟩
    · cases h
def ax_ai (Sd : ax_Sd) (x : ax_S) (a : Nat) (i : Int32) : Option Int32 := (ax_len Sd 1 a).bind (fun n => if i < 0 ∨ n ≤ i.toNatClampNeg then none else some (x.1 a i.toNatClampNeg))
def ax_al (Sd : ax_Sd) (x : ax_S) (a : Nat) (i : Int32) : Option Int64 := (ax_len Sd 2 a).bind (fun n => if i < 0 ∨ n ≤ i.toNatClampNeg then none else some (x.2 a i.toNatClampNeg))
def ax_ab (Sd : ax_Sd) (x : ax_S) (a : Nat) (i : Int32) : Option Int32 := (ax_len Sd 3 a).bind (fun n => if i < 0 ∨ n ≤ i.toNatClampNeg then none else some (x.1 a i.toNatClampNeg))
def ax_si (Sd : ax_Sd) (x : ax_S) (a : Nat) (i v : Int32) : Option ax_S := (ax_len Sd 1 a).bind (fun n => if i < 0 ∨ n ≤ i.toNatClampNeg then none else some (ax_ui x a i.toNatClampNeg v))
def ax_sl (Sd : ax_Sd) (x : ax_S) (a : Nat) (i : Int32) (v : Int64) : Option ax_S := (ax_len Sd 2 a).bind (fun n => if i < 0 ∨ n ≤ i.toNatClampNeg then none else some (ax_ul x a i.toNatClampNeg v))
def ax_sb (Sd : ax_Sd) (x : ax_S) (a : Nat) (i v : Int32) : Option ax_S := (ax_len Sd 3 a).bind (fun n => if i < 0 ∨ n ≤ i.toNatClampNeg then none else some (ax_ui x a i.toNatClampNeg (vp_nar .boolean v)))
def ax_ln (Sd : ax_Sd) (a : Nat) : Option Int32 := (ax_len Sd 1 a).map Int32.ofNat
theorem ax_iald {V : ax_V} {μ : ax_Mu} (hV : ax_ok V μ) {pc nx : Nat} {lv : List (Option Value)} {st : List Value} {x : ax_S} {a : Nat} {i : Int32} (d : ax_D μ.2.1 pc .iaload 1 nx) (v : Int32) (ho : ax_ai V.1 x a i = some v) (k : ax_At V nx lv (.int v :: st) x) : ax_At V pc lv (.int i :: .ref (ax_ad V a) :: st) x := by
  obtain ⟨Sd, G, ⟨p, l, e, R, s, m, args, below, meth, c⟩, rv, sf⟩ := V
  obtain ⟨d, rfl⟩ := d
  obtain ⟨n, hn, hi⟩ := Option.bind_eq_some_iff.mp ho
  obtain ⟨fds, hL⟩ := ax_len_some hn
  split at hi
  · cases hi
  · rename_i hin
    cases hi
    intro H locs ls hP hS hl
    exact va_iald hV.1 hV.2.1 hV.2.2.2.2.2.1 hP a 0 (ax_ws_get (G := G) (s := x) hL) rfl hin d (k H locs ls hP hS hl)
theorem ax_lald {V : ax_V} {μ : ax_Mu} (hV : ax_ok V μ) {pc nx : Nat} {lv : List (Option Value)} {st : List Value} {x : ax_S} {a : Nat} {i : Int32} (d : ax_D μ.2.1 pc .laload 1 nx) (v : Int64) (ho : ax_al V.1 x a i = some v) (k : ax_At V nx lv (.long v :: st) x) : ax_At V pc lv (.int i :: .ref (ax_ad V a) :: st) x := by
  obtain ⟨Sd, G, ⟨p, l, e, R, s, m, args, below, meth, c⟩, rv, sf⟩ := V
  obtain ⟨d, rfl⟩ := d
  obtain ⟨n, hn, hi⟩ := Option.bind_eq_some_iff.mp ho
  obtain ⟨fds, hL⟩ := ax_len_some hn
  split at hi
  · cases hi
  · rename_i hin
    cases hi
    intro H locs ls hP hS hl
    exact va_lald hV.1 hV.2.1 hV.2.2.2.2.2.1 hP a 1 (ax_ws_get (G := G) (s := x) hL) rfl hin d (k H locs ls hP hS hl)
theorem ax_bald {V : ax_V} {μ : ax_Mu} (hV : ax_ok V μ) {pc nx : Nat} {lv : List (Option Value)} {st : List Value} {x : ax_S} {a : Nat} {i : Int32} (d : ax_D μ.2.1 pc .baload 1 nx) (v : Int32) (ho : ax_ab V.1 x a i = some v) (k : ax_At V nx lv (.int v :: st) x) : ax_At V pc lv (.int i :: .ref (ax_ad V a) :: st) x := by
  obtain ⟨Sd, G, ⟨p, l, e, R, s, m, args, below, meth, c⟩, rv, sf⟩ := V
  obtain ⟨d, rfl⟩ := d
  obtain ⟨n, hn, hi⟩ := Option.bind_eq_some_iff.mp ho
  obtain ⟨fds, hL⟩ := ax_len_some hn
  split at hi
  · cases hi
  · rename_i hin
    cases hi
    intro H locs ls hP hS hl
    exact va_zald hV.1 hV.2.1 hV.2.2.2.2.2.1 hP a 2 (ax_ws_get (G := G) (s := x) hL) rfl hin d (k H locs ls hP hS hl)
theorem ax_iast {V : ax_V} {μ : ax_Mu} (hV : ax_ok V μ) {pc nx : Nat} {lv : List (Option Value)} {st : List Value} {x : ax_S} {a : Nat} {i : Int32} {v : Int32} (d : ax_D μ.2.1 pc .iastore 1 nx) (x' : ax_S) (ho : ax_si V.1 x a i v = some x') (k : ax_At V nx lv st x') : ax_At V pc lv (.int v :: .int i :: .ref (ax_ad V a) :: st) x := by
  obtain ⟨Sd, G, ⟨p, l, e, R, s, m, args, below, meth, c⟩, rv, sf⟩ := V
  obtain ⟨d, rfl⟩ := d
  obtain ⟨n, hn, hi⟩ := Option.bind_eq_some_iff.mp ho
  obtain ⟨fds, hL⟩ := ax_len_some hn
  split at hi
  · cases hi
  · rename_i hin
    cases hi
    intro H locs ls hP hS hl
    refine va_iast hV.1 hV.2.1 hV.2.2.2.2.2.1 hP (ax_D_of hV.2.2.2.2.2.2.1 x) hS a 0 (ax_ws_get (G := G) (s := x) hL) rfl hin d (fun H1 locs1 hP1 _ hS1 => ?_)
    refine k H1 locs1 ls ?_ hS1 hl
    rw [ax_ws_set (s' := ax_ui x a i.toNatClampNeg v) hL (by
      simp only [ax_e]
      have : upd (x.1 a) i.toNatClampNeg v = (ax_ui x a i.toNatClampNeg v).1 a := by
        funext j
        simp [upd, ax_ui]
      rw [this]) (fun i d' hi => ax_e_congr (by exact ax_ui_ne hi) (by rfl) d')] at hP1
    exact hP1
theorem ax_last {V : ax_V} {μ : ax_Mu} (hV : ax_ok V μ) {pc nx : Nat} {lv : List (Option Value)} {st : List Value} {x : ax_S} {a : Nat} {i : Int32} {v : Int64} (d : ax_D μ.2.1 pc .lastore 1 nx) (x' : ax_S) (ho : ax_sl V.1 x a i v = some x') (k : ax_At V nx lv st x') : ax_At V pc lv (.long v :: .int i :: .ref (ax_ad V a) :: st) x := by
  obtain ⟨Sd, G, ⟨p, l, e, R, s, m, args, below, meth, c⟩, rv, sf⟩ := V
  obtain ⟨d, rfl⟩ := d
  obtain ⟨n, hn, hi⟩ := Option.bind_eq_some_iff.mp ho
  obtain ⟨fds, hL⟩ := ax_len_some hn
  split at hi
  · cases hi
  · rename_i hin
    cases hi
    intro H locs ls hP hS hl
    refine va_last hV.1 hV.2.1 hV.2.2.2.2.2.1 hP (ax_D_of hV.2.2.2.2.2.2.1 x) hS a 1 (ax_ws_get (G := G) (s := x) hL) rfl hin d (fun H1 locs1 hP1 _ hS1 => ?_)
    refine k H1 locs1 ls ?_ hS1 hl
    rw [ax_ws_set (s' := ax_ul x a i.toNatClampNeg v) hL (by
      simp only [ax_e]
      have : vp_updL (x.2 a) i.toNatClampNeg v = (ax_ul x a i.toNatClampNeg v).2 a := by
        funext j
        simp [vp_updL, ax_ul]
      rw [this]) (fun i d' hi => ax_e_congr (by rfl) (by exact ax_ul_ne hi) d')] at hP1
    exact hP1
theorem ax_bast {V : ax_V} {μ : ax_Mu} (hV : ax_ok V μ) {pc nx : Nat} {lv : List (Option Value)} {st : List Value} {x : ax_S} {a : Nat} {i : Int32} {v : Int32} (d : ax_D μ.2.1 pc .bastore 1 nx) (x' : ax_S) (ho : ax_sb V.1 x a i v = some x') (k : ax_At V nx lv st x') : ax_At V pc lv (.int v :: .int i :: .ref (ax_ad V a) :: st) x := by
  obtain ⟨Sd, G, ⟨p, l, e, R, s, m, args, below, meth, c⟩, rv, sf⟩ := V
  obtain ⟨d, rfl⟩ := d
  obtain ⟨n, hn, hi⟩ := Option.bind_eq_some_iff.mp ho
  obtain ⟨fds, hL⟩ := ax_len_some hn
  split at hi
  · cases hi
  · rename_i hin
    cases hi
    intro H locs ls hP hS hl
    refine va_zast hV.1 hV.2.1 hV.2.2.2.2.2.1 hP (ax_D_of hV.2.2.2.2.2.2.1 x) hS a 2 (ax_ws_get (G := G) (s := x) hL) rfl hin d (fun H1 locs1 hP1 _ hS1 => ?_)
    refine k H1 locs1 ls ?_ hS1 hl
    rw [ax_ws_set (s' := ax_ui x a i.toNatClampNeg (vp_nar .boolean v)) hL (by
      simp only [ax_e]
      have : upd (x.1 a) i.toNatClampNeg (vp_nar .boolean v) = (ax_ui x a i.toNatClampNeg (vp_nar .boolean v)).1 a := by
        funext j
        simp [upd, ax_ui]
      rw [this]) (fun i d' hi => ax_e_congr (by exact ax_ui_ne hi) (by rfl) d')] at hP1
    exact hP1
theorem ax_alen {V : ax_V} {μ : ax_Mu} (hV : ax_ok V μ) {pc nx : Nat} {lv : List (Option Value)} {st : List Value} {x : ax_S} {a : Nat} (d : ax_D μ.2.1 pc .arraylength 1 nx) (v : Int32) (ho : ax_ln V.1 a = some v) (k : ax_At V nx lv (.int v :: st) x) : ax_At V pc lv (.ref (ax_ad V a) :: st) x := by
  obtain ⟨Sd, G, ⟨p, l, e, R, s, m, args, below, meth, c⟩, rv, sf⟩ := V
  obtain ⟨d, rfl⟩ := d
  obtain ⟨n, hn, hi⟩ := Option.map_eq_some_iff.mp ho
  obtain ⟨fds, hL⟩ := ax_len_some hn
  intro H locs ls hP hS hl
  exact va_alen hV.1 hV.2.1 hV.2.2.2.2.2.1 hP a 0 (ax_ws_get (G := G) (s := x) hL) (ty := .int) rfl hi d (k H locs ls hP hS hl)
def ax_sa (N : Nat) (f : Nat → Int32) (i : Int32) : Option Int32 := if i < 0 ∨ N ≤ i.toNatClampNeg then none else some (f i.toNatClampNeg)
theorem ax_gst {V : ax_V} {μ : ax_Mu} (hV : ax_ok V μ) {pc nx : Nat} {lv : List (Option Value)} {st : List Value} {x : ax_S} {ix b N : Nat} {C n : String} {f : Nat → Int32} (hq : (C, n, b, N, f) ∈ V.1.2) (hlk : Cond.fieldLink μ.1.cls ix C n "[I" ∈ ax_tb) (d : ax_D μ.2.1 pc (.getstatic ix) 3 nx) (k : ax_At V nx lv (.ref (ax_ad V b) :: st) x) : ax_At V pc lv st x := by
  obtain ⟨Sd, G, ⟨p, l, e, R, s, m, args, below, meth, c⟩, rv, sf⟩ := V
  obtain ⟨d, rfl⟩ := d
  intro H locs ls hP hS hl
  exact va_gets hV.1 hV.2.1 (hV.2.2.2.2.2.2.2.1 _ hq).1 hS hV.2.2.2.1 (hV.2.2.2.2.1 _ hlk) (fun _ h => h) d (k H locs ls hP hS hl)
theorem ax_sald {V : ax_V} {μ : ax_Mu} (hV : ax_ok V μ) {pc nx : Nat} {lv : List (Option Value)} {st : List Value} {x : ax_S} {b N : Nat} {C n : String} {f : Nat → Int32} {i : Int32} (hq : (C, n, b, N, f) ∈ V.1.2) (d : ax_D μ.2.1 pc .iaload 1 nx) (v : Int32) (ho : ax_sa N f i = some v) (k : ax_At V nx lv (.int v :: st) x) : ax_At V pc lv (.int i :: .ref (ax_ad V b) :: st) x := by
  obtain ⟨Sd, G, ⟨p, l, e, R, s, m, args, below, meth, c⟩, rv, sf⟩ := V
  obtain ⟨d, rfl⟩ := d
  unfold ax_sa at ho
  split at ho
  · cases ho
  · rename_i hin
    cases ho
    intro H locs ls hP hS hl
    exact va_ti hV.1 hV.2.1 (hV.2.2.2.2.2.2.2.1 _ hq).2 hS hin rfl d (k H locs ls hP hS hl)
theorem ax_ir {V : ax_V} {μ : ax_Mu} (hV : ax_ok V μ) {pc nx : Nat} {lv : List (Option Value)} {x : ax_S} {a : Int32} (hr : μ.2.2.2.1 = some .int) (d : ax_D μ.2.1 pc .ireturn 1 nx) (ho : V.2.2.2 = (some (.int a), x)) : ax_At V pc lv [.int a] x := by
  obtain ⟨Sd, G, ⟨p, l, e, R, s, m, args, below, meth, c⟩, rv, sf⟩ := V
  obtain ⟨d, rfl⟩ := d
  cases ho
  intro H locs ls hP hS hl
  exact W.iret hV.1 hV.2.1 (hV.2.2.2.2.2.2.2.2.1.trans hr) (fun t ht _ => ⟨⟨a, (), rfl, rfl, (show va_P G.1 cx_cls (ax_ws Sd.1 G x) t.heap by rw [ht]; exact hP)⟩, by rw [ht]; exact hS.1, fun q hq hA => by rw [ht]; exact hS.2.1 q hq hA⟩) hS.2.2 d hV.2.2.2.2.2.2.2.2.2.1
theorem ax_lr {V : ax_V} {μ : ax_Mu} (hV : ax_ok V μ) {pc nx : Nat} {lv : List (Option Value)} {x : ax_S} {a : Int64} (hr : μ.2.2.2.1 = some .long) (d : ax_D μ.2.1 pc .lreturn 1 nx) (ho : V.2.2.2 = (some (.long a), x)) : ax_At V pc lv [.long a] x := by
  obtain ⟨Sd, G, ⟨p, l, e, R, s, m, args, below, meth, c⟩, rv, sf⟩ := V
  obtain ⟨d, rfl⟩ := d
  cases ho
  intro H locs ls hP hS hl
  exact W.lret hV.1 hV.2.1 (hV.2.2.2.2.2.2.2.2.1.trans hr) (fun t ht _ => ⟨⟨a, (), rfl, rfl, (show va_P G.1 cx_cls (ax_ws Sd.1 G x) t.heap by rw [ht]; exact hP)⟩, by rw [ht]; exact hS.1, fun q hq hA => by rw [ht]; exact hS.2.1 q hq hA⟩) hS.2.2 d hV.2.2.2.2.2.2.2.2.2.1
theorem ax_zr {V : ax_V} {μ : ax_Mu} (hV : ax_ok V μ) {pc nx : Nat} {lv : List (Option Value)} {x : ax_S} {a : Int32} (hr : μ.2.2.2.1 = some .boolean) (hz : a &&& 1 = a) (d : ax_D μ.2.1 pc .ireturn 1 nx) (ho : V.2.2.2 = (some (.int a), x)) : ax_At V pc lv [.int a] x := by
  obtain ⟨Sd, G, ⟨p, l, e, R, s, m, args, below, meth, c⟩, rv, sf⟩ := V
  obtain ⟨d, rfl⟩ := d
  cases ho
  intro H locs ls hP hS hl
  exact W.zret hV.1 hV.2.1 (hV.2.2.2.2.2.2.2.2.1.trans hr) (by simp only [narrow]; rw [hz]) (fun t ht _ => ⟨⟨a, (), rfl, rfl, (show va_P G.1 cx_cls (ax_ws Sd.1 G x) t.heap by rw [ht]; exact hP)⟩, by rw [ht]; exact hS.1, fun q hq hA => by rw [ht]; exact hS.2.1 q hq hA⟩) hS.2.2 d hV.2.2.2.2.2.2.2.2.2.1
theorem ax_zb_and {a b : Int32} (h : ax_zb a = some b) : b &&& 1 = b ∧ a = b := by
  unfold ax_zb at h
  split at h
  · rename_i q
    cases h
    exact ⟨q.1, rfl⟩
  · cases h
theorem ax_zr2 {V : ax_V} {μ : ax_Mu} (hV : ax_ok V μ) {pc nx : Nat} {lv : List (Option Value)} {x : ax_S} {a : Int32} (hr : μ.2.2.2.1 = some .boolean) (d : ax_D μ.2.1 pc .ireturn 1 nx) (b : Int32) (hz : ax_zb a = some b) (ho : V.2.2.2 = (some (.int b), x)) : ax_At V pc lv [.int a] x := by
  obtain ⟨h1, h2⟩ := ax_zb_and hz
  subst h2
  exact ax_zr hV hr h1 d ho
theorem ax_jz {V : ax_V} {ρ : Type} {P : ρ → Prop} {pc : Nat} {lv : List (Option Value)} {st : List Value} {x : ax_S} {o : Option Int32} {K : Int32 → ρ} (h : ∀ v, o = some v → P (K v) → ax_At V pc lv st x) : ax_J V P pc lv st x (o.bind (fun v => some (K v))) := fun r hr hp => by
  cases ho : o with
  | none => rw [ho] at hr; cases hr
  | some v =>
    rw [ho] at hr
    cases hr
    exact h v ho hp
theorem ax_vr {V : ax_V} {μ : ax_Mu} (hV : ax_ok V μ) {pc nx : Nat} {lv : List (Option Value)} {x : ax_S} (hr : μ.2.2.2.1 = none) (d : ax_D μ.2.1 pc .return_ 1 nx) (ho : V.2.2.2 = (none, x)) : ax_At V pc lv [] x := by
  obtain ⟨Sd, G, ⟨p, l, e, R, s, m, args, below, meth, c⟩, rv, sf⟩ := V
  obtain ⟨d, rfl⟩ := d
  cases ho
  intro H locs ls hP hS hl
  exact W.vret hV.1 hV.2.1 (hV.2.2.2.2.2.2.2.2.1.trans hr) (fun t ht _ => ⟨⟨(), rfl, trivial, (show va_P G.1 cx_cls (ax_ws Sd.1 G x) t.heap by rw [ht]; exact hP)⟩, by rw [ht]; exact hS.1, fun q hq hA => by rw [ht]; exact hS.2.1 q hq hA⟩) hS.2.2 d hV.2.2.2.2.2.2.2.2.2.1
theorem ax_Z_S {C n d : String} {v : Value} {A : Nat → Prop} {U : State} {H0 H : Heap} {locs : List Loc} (h : va_Z C n d v A U H0) (hS : va_S A H0 H locs) : va_Z C n d v A U H := by
  obtain ⟨cf, kf, fi, f, a, cell, h1, h2, h3, h4, h5, h6, h7, h8⟩ := h
  exact ⟨cf, kf, fi, f, a, cell, h1, h2, h3, h4, by rw [hS.2.1 a (Array.getElem?_eq_some_iff.mp h5).1 h8]; exact h5, h6, h7, h8⟩
theorem ax_T_S {ty : FieldType} {t N : Nat} {f : Nat → Value} {A : Nat → Prop} {U : State} {H0 H : Heap} {locs : List Loc} (h : va_T ty t N f A U H0) (hS : va_S A H0 H locs) : va_T ty t N f A U H := by
  obtain ⟨cell, h1, h2, h3, h4, h5, h6, h7⟩ := h
  exact ⟨cell, by rw [hS.2.1 t (Array.getElem?_eq_some_iff.mp h1).1 h7]; exact h1, h2, h3, h4, h5, h6, h7⟩
theorem ax_stat_to {St : ax_St} {A : Nat → Prop} {G : ax_G} {s U : State} {H0 H : Heap} {locs : List Loc} (h : ax_stat St A G s H0) (hS : va_S A H0 H locs) (hvm : s.vm.Alike U.vm) : ax_stat St A G U H := fun q hq => ⟨va_Z.moved hvm (ax_Z_S (h q hq).1 hS), va_T.moved hvm (ax_T_S (h q hq).2 hS)⟩
theorem ax_blind {Sd : ax_Sd} {G : ax_G} {av : List Value} {x : ax_S} : FrameBlind (va_Pc av (fun U => va_P G.1 cx_cls (ax_ws Sd.1 G x) U.heap ∧ ax_U Sd G U)) := fun a U g mk q => ⟨q.1, q.2.1, va_K.moved (u := U) (U := U.calling g mk a) (Vm.Alike.refl U.vm) q.2.2.1, fun z hz => ⟨va_Z.moved (u := U) (U := U.calling g mk a) (Vm.Alike.refl U.vm) (q.2.2.2 z hz).1, va_T.moved (u := U) (U := U.calling g mk a) (Vm.Alike.refl U.vm) (q.2.2.2 z hz).2⟩⟩
theorem ax_gw : ax_tb.all goodWord = true := List.all_eq_true.mpr (fun w h => (List.mem_filter.mp h).2)
theorem ax_good : GoodIn ax_tb ax_tb := fun w h => ⟨h, good_of_word (List.all_eq_true.mp ax_gw w h)⟩
theorem ax_goodw {μ : ax_Mu} (h : Cond.code μ.1 μ.2.1 μ.2.2.1 μ.2.2.2.1 ∈ ax_tb) : GoodIn ax_tb (ax_w μ) := fun w hw => by
  rcases List.mem_cons.mp hw with q | q
  · subst q
    exact ax_good _ h
  · exact ax_good w q
def ax_nam (μ : ax_Mu) (n : Nat) : Prop := μ.1.cls ≠ "java/lang/invoke/MethodHandle" ∧ μ.1.cls ≠ "java/lang/invoke/VarHandle" ∧ (parseMethodDescriptor μ.1.desc).map (fun d => d.parameters.length) = some n
def ax_lkV (own : String) (ix : Nat) (μ : ax_Mu) (C : String) (n : Nat) : Prop := GoodIn ax_tb (wsV own ix C μ.1 (ax_w μ)) ∧ μ.1.cls = C ∧ ax_nam μ n
def ax_lkS (own : String) (ix : Nat) (μ : ax_Mu) (n : Nat) : Prop := GoodIn ax_tb (va_wsS own ix μ.1 (ax_w μ)) ∧ ax_nam μ n
theorem ax_lkV_of {own : String} {ix : Nat} {μ : ax_Mu} {C : String} {n : Nat} (h1 : Cond.methodLink own ix μ.1 ∈ ax_tb) (h2 : Cond.instanceMethod μ.1 ∈ ax_tb) (h3 : Cond.selects C μ.1 μ.1 ∈ ax_tb) (h4 : Cond.initialized C ∈ ax_tb) (h5 : Cond.code μ.1 μ.2.1 μ.2.2.1 μ.2.2.2.1 ∈ ax_tb) (hc : μ.1.cls = C) (hn : ax_nam μ n) : ax_lkV own ix μ C n := by
  refine ⟨fun w hw => ?_, hc, hn⟩
  rcases List.mem_append.mp hw with q | q
  · simp only [List.mem_cons, List.not_mem_nil, or_false] at q
    rcases q with q | q | q | q <;> subst q
    · exact ax_good _ h1
    · exact ax_good _ h2
    · exact ax_good _ h3
    · exact ax_good _ h4
  · exact ax_goodw h5 w q
theorem ax_lkS_of {own : String} {ix : Nat} {μ : ax_Mu} {n : Nat} (h1 : Cond.methodLink own ix μ.1 ∈ ax_tb) (h2 : Cond.static μ.1 ∈ ax_tb) (h4 : Cond.initialized μ.1.cls ∈ ax_tb) (h5 : Cond.code μ.1 μ.2.1 μ.2.2.1 μ.2.2.2.1 ∈ ax_tb) (hn : ax_nam μ n) : ax_lkS own ix μ n := by
  refine ⟨fun w hw => ?_, hn⟩
  rcases List.mem_append.mp hw with q | q
  · simp only [List.mem_cons, List.not_mem_nil, or_false] at q
    rcases q with q | q | q <;> subst q
    · exact ax_good _ h1
    · exact ax_good _ h2
    · exact ax_good _ h4
  · exact ax_goodw h5 w q
def ax_rmle (μ' μ : ax_Mu) : Bool := Nat.ble (μ'.2.2.2.2.1 + 1) μ.2.2.2.2.1 && Nat.ble (8 + (μ'.2.2.1 + 11) + μ'.2.2.2.2.2) μ.2.2.2.2.2
theorem ax_rmle_R {μ' μ : ax_Mu} {R : Room} (h : ax_rmle μ' μ = true) (hR : R = ax_rm μ) : (ax_rm μ').frames + 1 ≤ R.frames ∧ 8 + (μ'.2.2.1 + 11) + (ax_rm μ').locals ≤ R.locals := by
  subst hR
  have h := Bool.and_eq_true _ _ ▸ h
  exact ⟨Nat.le_of_ble_eq_true h.1, Nat.le_of_ble_eq_true h.2⟩
theorem ax_cVi {V : ax_V} {μ : ax_Mu} (hV : ax_ok V μ) {pc nx : Nat} {lv : List (Option Value)} {st : List Value} {x : ax_S} {μ' : ax_Mu} {ix n a ci N : Nat} {C : String} {T : u_T} {fds : List Nat} (hlk : ax_lkV μ.1.cls ix μ' C n) (hrm : ax_rmle μ' μ = true) (d : ax_D μ.2.1 pc (.invokevirtual ix) 3 nx) (hL : V.1.1[a]? = some (0, ci, fds)) (hc : cx_cls[ci]? = some (C, T, N)) (As rest : List Value) (av : (Nat → Nat) → List Value) (hav : av (ax_ad V) = .ref (ax_ad V a) :: As) (hn : As.length = n) (hst : st = As.reverse ++ .ref (ax_ad V a) :: rest) (hw : Nat.ble ((rest.map fun v => v.category).sum) 8 = true) (r : Int32) (x' : ax_S) (hm : ax_M V.1 μ' av x (some (.int r)) x') (k : ax_At V nx lv (.int r :: rest) x') : ax_At V pc lv st x := by
  obtain ⟨Sd, G, ⟨p, l, e, R, s, m, args, below, meth, c⟩, rv, sf⟩ := V
  obtain ⟨d, rfl⟩ := d
  have hm := hm l G hV.2.2.2.2.2.2.1
  intro H locs ls hP hS hl
  have hm' : Met l μ'.1 (ax_w μ') (ax_rm μ') (va_Pc (av G.2.1) (fun U => va_P G.1 cx_cls (ax_ws Sd.1 G x) U.heap ∧ ax_U Sd G U)) (va_Qi (fun y (_ : Unit) => y = r) (fun _ t => va_P G.1 cx_cls (ax_ws Sd.1 G x') t.heap) (ax_A Sd.1 G)) 0 0 (ax_A Sd.1 G) := hm
  refine va_calli (va_runV (As := As) (rest := rest) ⟨hV.1, hV.2.1, rfl, hV.2.2.2.1, hV.2.2.2.2.1⟩ hm' (cwV n hV.2.2.2.2.1 hlk.1 rfl rfl rfl ⟨hlk.2.1, hlk.2.2⟩ (ax_rmle_R hrm hV.2.2.2.2.2.2.2.2.2.2)) ⟨ax_blind, va_recv hV.2.2.2.2.2.1 hP hc (ax_ws_get (G := G) (s := x) hL), fun U hU hW => ⟨?_, ?_, va_K.moved hW.alike hV.2.2.2.2.2.1, ?_⟩⟩ rfl hn hl.1 hst (lv_room (Nat.le_of_ble_eq_true hw)) d ⟨Nat.zero_le _, Nat.zero_le _⟩) hS (fun q _ h => h) (fun q h => h) (fun r' u t H1 locs1 ht hvm hpost hB hsz hk hS1 => ?_)
  · exact congrArg List.toArray hav.symm
  · rw [hU]; exact hP
  · rw [hU]; exact ax_stat_to hV.2.2.2.2.2.2.2.1 hS hW.alike
  · have hpost : r' = r := hpost
    subst hpost
    rw [ht] at hB
    exact k H1 locs1 ls hB hS1 hl
theorem ax_cSi {V : ax_V} {μ : ax_Mu} (hV : ax_ok V μ) {pc nx : Nat} {lv : List (Option Value)} {st : List Value} {x : ax_S} {μ' : ax_Mu} {ix n : Nat} (hlk : ax_lkS μ.1.cls ix μ' n) (hrm : ax_rmle μ' μ = true) (d : ax_D μ.2.1 pc (.invokestatic ix) 3 nx) (As rest : List Value) (av : (Nat → Nat) → List Value) (hav : av (ax_ad V) = As) (hn : As.length = n) (hst : st = As.reverse ++ rest) (hw : Nat.ble ((rest.map fun v => v.category).sum) 8 = true) (r : Int32) (x' : ax_S) (hm : ax_M V.1 μ' av x (some (.int r)) x') (k : ax_At V nx lv (.int r :: rest) x') : ax_At V pc lv st x := by
  obtain ⟨Sd, G, ⟨p, l, e, R, s, m, args, below, meth, c⟩, rv, sf⟩ := V
  obtain ⟨d, rfl⟩ := d
  have hm := hm l G hV.2.2.2.2.2.2.1
  intro H locs ls hP hS hl
  have hm' : Met l μ'.1 (ax_w μ') (ax_rm μ') (va_Pc (av G.2.1) (fun U => va_P G.1 cx_cls (ax_ws Sd.1 G x) U.heap ∧ ax_U Sd G U)) (va_Qi (fun y (_ : Unit) => y = r) (fun _ t => va_P G.1 cx_cls (ax_ws Sd.1 G x') t.heap) (ax_A Sd.1 G)) 0 0 (ax_A Sd.1 G) := hm
  refine va_calli (va_runS (As := As) (rest := rest) ⟨hV.1, hV.2.1, rfl, hV.2.2.2.1, hV.2.2.2.2.1⟩ hm' (va_cwS n hV.2.2.2.2.1 hlk.1 rfl rfl rfl hlk.2 (ax_rmle_R hrm hV.2.2.2.2.2.2.2.2.2.2)) ⟨ax_blind, fun U hU hW => ⟨?_, ?_, va_K.moved hW.alike hV.2.2.2.2.2.1, ?_⟩⟩ rfl hn hl.1 hst (lv_room (Nat.le_of_ble_eq_true hw)) d ⟨Nat.zero_le _, Nat.zero_le _⟩) hS (fun q _ h => h) (fun q h => h) (fun r' u t H1 locs1 ht hvm hpost hB hsz hk hS1 => ?_)
  · exact congrArg List.toArray hav.symm
  · rw [hU]; exact hP
  · rw [hU]; exact ax_stat_to hV.2.2.2.2.2.2.2.1 hS hW.alike
  · have hpost : r' = r := hpost
    subst hpost
    rw [ht] at hB
    exact k H1 locs1 ls hB hS1 hl
theorem ax_cVl {V : ax_V} {μ : ax_Mu} (hV : ax_ok V μ) {pc nx : Nat} {lv : List (Option Value)} {st : List Value} {x : ax_S} {μ' : ax_Mu} {ix n a ci N : Nat} {C : String} {T : u_T} {fds : List Nat} (hlk : ax_lkV μ.1.cls ix μ' C n) (hrm : ax_rmle μ' μ = true) (d : ax_D μ.2.1 pc (.invokevirtual ix) 3 nx) (hL : V.1.1[a]? = some (0, ci, fds)) (hc : cx_cls[ci]? = some (C, T, N)) (As rest : List Value) (av : (Nat → Nat) → List Value) (hav : av (ax_ad V) = .ref (ax_ad V a) :: As) (hn : As.length = n) (hst : st = As.reverse ++ .ref (ax_ad V a) :: rest) (hw : Nat.ble ((rest.map fun v => v.category).sum) 8 = true) (r : Int64) (x' : ax_S) (hm : ax_M V.1 μ' av x (some (.long r)) x') (k : ax_At V nx lv (.long r :: rest) x') : ax_At V pc lv st x := by
  obtain ⟨Sd, G, ⟨p, l, e, R, s, m, args, below, meth, c⟩, rv, sf⟩ := V
  obtain ⟨d, rfl⟩ := d
  have hm := hm l G hV.2.2.2.2.2.2.1
  intro H locs ls hP hS hl
  have hm' : Met l μ'.1 (ax_w μ') (ax_rm μ') (va_Pc (av G.2.1) (fun U => va_P G.1 cx_cls (ax_ws Sd.1 G x) U.heap ∧ ax_U Sd G U)) (va_Ql (fun y (_ : Unit) => y = r) (fun _ t => va_P G.1 cx_cls (ax_ws Sd.1 G x') t.heap) (ax_A Sd.1 G)) 0 0 (ax_A Sd.1 G) := hm
  refine va_calll (va_runV (As := As) (rest := rest) ⟨hV.1, hV.2.1, rfl, hV.2.2.2.1, hV.2.2.2.2.1⟩ hm' (cwV n hV.2.2.2.2.1 hlk.1 rfl rfl rfl ⟨hlk.2.1, hlk.2.2⟩ (ax_rmle_R hrm hV.2.2.2.2.2.2.2.2.2.2)) ⟨ax_blind, va_recv hV.2.2.2.2.2.1 hP hc (ax_ws_get (G := G) (s := x) hL), fun U hU hW => ⟨?_, ?_, va_K.moved hW.alike hV.2.2.2.2.2.1, ?_⟩⟩ rfl hn hl.1 hst (lv_room (Nat.le_of_ble_eq_true hw)) d ⟨Nat.zero_le _, Nat.zero_le _⟩) hS (fun q _ h => h) (fun q h => h) (fun r' u t H1 locs1 ht hvm hpost hB hsz hk hS1 => ?_)
  · exact congrArg List.toArray hav.symm
  · rw [hU]; exact hP
  · rw [hU]; exact ax_stat_to hV.2.2.2.2.2.2.2.1 hS hW.alike
  · have hpost : r' = r := hpost
    subst hpost
    rw [ht] at hB
    exact k H1 locs1 ls hB hS1 hl
theorem ax_cSl {V : ax_V} {μ : ax_Mu} (hV : ax_ok V μ) {pc nx : Nat} {lv : List (Option Value)} {st : List Value} {x : ax_S} {μ' : ax_Mu} {ix n : Nat} (hlk : ax_lkS μ.1.cls ix μ' n) (hrm : ax_rmle μ' μ = true) (d : ax_D μ.2.1 pc (.invokestatic ix) 3 nx) (As rest : List Value) (av : (Nat → Nat) → List Value) (hav : av (ax_ad V) = As) (hn : As.length = n) (hst : st = As.reverse ++ rest) (hw : Nat.ble ((rest.map fun v => v.category).sum) 8 = true) (r : Int64) (x' : ax_S) (hm : ax_M V.1 μ' av x (some (.long r)) x') (k : ax_At V nx lv (.long r :: rest) x') : ax_At V pc lv st x := by
  obtain ⟨Sd, G, ⟨p, l, e, R, s, m, args, below, meth, c⟩, rv, sf⟩ := V
  obtain ⟨d, rfl⟩ := d
  have hm := hm l G hV.2.2.2.2.2.2.1
  intro H locs ls hP hS hl
  have hm' : Met l μ'.1 (ax_w μ') (ax_rm μ') (va_Pc (av G.2.1) (fun U => va_P G.1 cx_cls (ax_ws Sd.1 G x) U.heap ∧ ax_U Sd G U)) (va_Ql (fun y (_ : Unit) => y = r) (fun _ t => va_P G.1 cx_cls (ax_ws Sd.1 G x') t.heap) (ax_A Sd.1 G)) 0 0 (ax_A Sd.1 G) := hm
  refine va_calll (va_runS (As := As) (rest := rest) ⟨hV.1, hV.2.1, rfl, hV.2.2.2.1, hV.2.2.2.2.1⟩ hm' (va_cwS n hV.2.2.2.2.1 hlk.1 rfl rfl rfl hlk.2 (ax_rmle_R hrm hV.2.2.2.2.2.2.2.2.2.2)) ⟨ax_blind, fun U hU hW => ⟨?_, ?_, va_K.moved hW.alike hV.2.2.2.2.2.1, ?_⟩⟩ rfl hn hl.1 hst (lv_room (Nat.le_of_ble_eq_true hw)) d ⟨Nat.zero_le _, Nat.zero_le _⟩) hS (fun q _ h => h) (fun q h => h) (fun r' u t H1 locs1 ht hvm hpost hB hsz hk hS1 => ?_)
  · exact congrArg List.toArray hav.symm
  · rw [hU]; exact hP
  · rw [hU]; exact ax_stat_to hV.2.2.2.2.2.2.2.1 hS hW.alike
  · have hpost : r' = r := hpost
    subst hpost
    rw [ht] at hB
    exact k H1 locs1 ls hB hS1 hl
theorem ax_cVv {V : ax_V} {μ : ax_Mu} (hV : ax_ok V μ) {pc nx : Nat} {lv : List (Option Value)} {st : List Value} {x : ax_S} {μ' : ax_Mu} {ix n a ci N : Nat} {C : String} {T : u_T} {fds : List Nat} (hlk : ax_lkV μ.1.cls ix μ' C n) (hrm : ax_rmle μ' μ = true) (d : ax_D μ.2.1 pc (.invokevirtual ix) 3 nx) (hL : V.1.1[a]? = some (0, ci, fds)) (hc : cx_cls[ci]? = some (C, T, N)) (As rest : List Value) (av : (Nat → Nat) → List Value) (hav : av (ax_ad V) = .ref (ax_ad V a) :: As) (hn : As.length = n) (hst : st = As.reverse ++ .ref (ax_ad V a) :: rest) (hw : Nat.ble ((rest.map fun v => v.category).sum) 8 = true) (x' : ax_S) (hm : ax_M V.1 μ' av x none x') (k : ax_At V nx lv (rest) x') : ax_At V pc lv st x := by
  obtain ⟨Sd, G, ⟨p, l, e, R, s, m, args, below, meth, c⟩, rv, sf⟩ := V
  obtain ⟨d, rfl⟩ := d
  have hm := hm l G hV.2.2.2.2.2.2.1
  intro H locs ls hP hS hl
  have hm' : Met l μ'.1 (ax_w μ') (ax_rm μ') (va_Pc (av G.2.1) (fun U => va_P G.1 cx_cls (ax_ws Sd.1 G x) U.heap ∧ ax_U Sd G U)) (va_Qv (fun (_ : Unit) => True) (fun _ t => va_P G.1 cx_cls (ax_ws Sd.1 G x') t.heap) (ax_A Sd.1 G)) 0 0 (ax_A Sd.1 G) := hm
  refine va_callv (va_runV (As := As) (rest := rest) ⟨hV.1, hV.2.1, rfl, hV.2.2.2.1, hV.2.2.2.2.1⟩ hm' (cwV n hV.2.2.2.2.1 hlk.1 rfl rfl rfl ⟨hlk.2.1, hlk.2.2⟩ (ax_rmle_R hrm hV.2.2.2.2.2.2.2.2.2.2)) ⟨ax_blind, va_recv hV.2.2.2.2.2.1 hP hc (ax_ws_get (G := G) (s := x) hL), fun U hU hW => ⟨?_, ?_, va_K.moved hW.alike hV.2.2.2.2.2.1, ?_⟩⟩ rfl hn hl.1 hst (lv_room (Nat.le_of_ble_eq_true hw)) d ⟨Nat.zero_le _, Nat.zero_le _⟩) hS (fun q _ h => h) (fun q h => h) (fun u t H1 locs1 ht hvm hpost hB hsz hk hS1 => ?_)
  · exact congrArg List.toArray hav.symm
  · rw [hU]; exact hP
  · rw [hU]; exact ax_stat_to hV.2.2.2.2.2.2.2.1 hS hW.alike
  · rw [ht] at hB
    exact k H1 locs1 ls hB hS1 hl
theorem ax_cSv {V : ax_V} {μ : ax_Mu} (hV : ax_ok V μ) {pc nx : Nat} {lv : List (Option Value)} {st : List Value} {x : ax_S} {μ' : ax_Mu} {ix n : Nat} (hlk : ax_lkS μ.1.cls ix μ' n) (hrm : ax_rmle μ' μ = true) (d : ax_D μ.2.1 pc (.invokestatic ix) 3 nx) (As rest : List Value) (av : (Nat → Nat) → List Value) (hav : av (ax_ad V) = As) (hn : As.length = n) (hst : st = As.reverse ++ rest) (hw : Nat.ble ((rest.map fun v => v.category).sum) 8 = true) (x' : ax_S) (hm : ax_M V.1 μ' av x none x') (k : ax_At V nx lv (rest) x') : ax_At V pc lv st x := by
  obtain ⟨Sd, G, ⟨p, l, e, R, s, m, args, below, meth, c⟩, rv, sf⟩ := V
  obtain ⟨d, rfl⟩ := d
  have hm := hm l G hV.2.2.2.2.2.2.1
  intro H locs ls hP hS hl
  have hm' : Met l μ'.1 (ax_w μ') (ax_rm μ') (va_Pc (av G.2.1) (fun U => va_P G.1 cx_cls (ax_ws Sd.1 G x) U.heap ∧ ax_U Sd G U)) (va_Qv (fun (_ : Unit) => True) (fun _ t => va_P G.1 cx_cls (ax_ws Sd.1 G x') t.heap) (ax_A Sd.1 G)) 0 0 (ax_A Sd.1 G) := hm
  refine va_callv (va_runS (As := As) (rest := rest) ⟨hV.1, hV.2.1, rfl, hV.2.2.2.1, hV.2.2.2.2.1⟩ hm' (va_cwS n hV.2.2.2.2.1 hlk.1 rfl rfl rfl hlk.2 (ax_rmle_R hrm hV.2.2.2.2.2.2.2.2.2.2)) ⟨ax_blind, fun U hU hW => ⟨?_, ?_, va_K.moved hW.alike hV.2.2.2.2.2.1, ?_⟩⟩ rfl hn hl.1 hst (lv_room (Nat.le_of_ble_eq_true hw)) d ⟨Nat.zero_le _, Nat.zero_le _⟩) hS (fun q _ h => h) (fun q h => h) (fun u t H1 locs1 ht hvm hpost hB hsz hk hS1 => ?_)
  · exact congrArg List.toArray hav.symm
  · rw [hU]; exact hP
  · rw [hU]; exact ax_stat_to hV.2.2.2.2.2.2.2.1 hS hW.alike
  · rw [ht] at hB
    exact k H1 locs1 ls hB hS1 hl
def ax_min (a b : Int32) : Int32 := if b < a then b else a
def ax_max (a b : Int32) : Int32 := if a < b then b else a
def ax_lkM (own : String) (ix : Nat) (y : MethodName) (bs : ByteArray) : Prop := Cond.methodLink own ix y ∈ ax_tb ∧ Cond.static y ∈ ax_tb ∧ Cond.initialized "java/lang/Math" ∈ ax_tb ∧ Cond.code y bs 2 (some .int) ∈ ax_tb
theorem ax_mmin {V : ax_V} {μ : ax_Mu} (hV : ax_ok V μ) {pc nx : Nat} {lv : List (Option Value)} {st : List Value} {x : ax_S} {ix : Nat} {a b : Int32} (hlk : ax_lkM μ.1.cls ix Lib.Math.min.name Lib.Math.min.code) (hrm : (Nat.ble 1 μ.2.2.2.2.1 && Nat.ble ((st.map fun v => v.category).sum + 13) μ.2.2.2.2.2) = true) (d : ax_D μ.2.1 pc (.invokestatic ix) 3 nx) (k : ax_At V nx lv (.int (ax_min a b) :: st) x) : ax_At V pc lv (.int b :: .int a :: st) x := by
  obtain ⟨Sd, G, ⟨p, l, e, R, s, m, args, below, meth, c⟩, rv, sf⟩ := V
  obtain ⟨d, rfl⟩ := d
  have hrm := Bool.and_eq_true _ _ ▸ hrm
  have hR : R = ax_rm μ := hV.2.2.2.2.2.2.2.2.2.2
  subst hR
  intro H locs ls hP hS hl
  exact va_mmin hV.1 hV.2.1 hl.1.symm hV.2.2.2.1 (hV.2.2.2.2.1 _ hlk.1) (hV.2.2.2.2.1 _ hlk.2.1) (hV.2.2.2.2.1 _ hlk.2.2.1) (hV.2.2.2.2.1 _ hlk.2.2.2) (Nat.le_of_ble_eq_true hrm.1) (Nat.le_of_ble_eq_true hrm.2) (Nat.zero_le _) (Nat.zero_le _) d (k H locs ls hP hS hl)
theorem ax_mmax {V : ax_V} {μ : ax_Mu} (hV : ax_ok V μ) {pc nx : Nat} {lv : List (Option Value)} {st : List Value} {x : ax_S} {ix : Nat} {a b : Int32} (hlk : ax_lkM μ.1.cls ix Lib.Math.max.name Lib.Math.max.code) (hrm : (Nat.ble 1 μ.2.2.2.2.1 && Nat.ble ((st.map fun v => v.category).sum + 13) μ.2.2.2.2.2) = true) (d : ax_D μ.2.1 pc (.invokestatic ix) 3 nx) (k : ax_At V nx lv (.int (ax_max a b) :: st) x) : ax_At V pc lv (.int b :: .int a :: st) x := by
  obtain ⟨Sd, G, ⟨p, l, e, R, s, m, args, below, meth, c⟩, rv, sf⟩ := V
  obtain ⟨d, rfl⟩ := d
  have hrm := Bool.and_eq_true _ _ ▸ hrm
  have hR : R = ax_rm μ := hV.2.2.2.2.2.2.2.2.2.2
  subst hR
  intro H locs ls hP hS hl
  exact va_mmax hV.1 hV.2.1 hl.1.symm hV.2.2.2.1 (hV.2.2.2.2.1 _ hlk.1) (hV.2.2.2.2.1 _ hlk.2.1) (hV.2.2.2.2.1 _ hlk.2.2.1) (hV.2.2.2.2.1 _ hlk.2.2.2) (Nat.le_of_ble_eq_true hrm.1) (Nat.le_of_ble_eq_true hrm.2) (Nat.zero_le _) (Nat.zero_le _) d (k H locs ls hP hS hl)
def ax_cp (Sd : ax_Sd) (x : ax_S) (a : Nat) (sp : Int32) (b : Nat) (dp n : Int32) : Option ax_S := (ax_len Sd 1 a).bind (fun na => (ax_len Sd 1 b).bind (fun nb => if sp < 0 ∨ dp < 0 ∨ n < 0 ∨ na < sp.toNatClampNeg + n.toNatClampNeg ∨ nb < dp.toNatClampNeg + n.toNatClampNeg then none else some (ax_wi x b (va_cpy (x.1 a) (x.1 b) sp.toNatClampNeg dp.toNatClampNeg n.toNatClampNeg))))
def ax_lkC (own : String) (ix : Nat) : Prop := Cond.methodLink own ix arraycopyName ∈ ax_tb ∧ Cond.native arraycopyName ∈ ax_tb ∧ Cond.static arraycopyName ∈ ax_tb ∧ Cond.initialized "java/lang/System" ∈ ax_tb
theorem ax_copy {V : ax_V} {μ : ax_Mu} (hV : ax_ok V μ) {pc nx : Nat} {lv : List (Option Value)} {st : List Value} {x : ax_S} {ix a b : Nat} {sp dp n : Int32} (hlk : ax_lkC μ.1.cls ix) (hrm : (Nat.ble 1 μ.2.2.2.2.1 && Nat.ble ((st.map fun v => v.category).sum + (nativeFrameWords "java/lang/System" "arraycopy" 5 + 11)) μ.2.2.2.2.2) = true) (d : ax_D μ.2.1 pc (.invokestatic ix) 3 nx) (x' : ax_S) (ho : ax_cp V.1 x a sp b dp n = some x') (k : ax_At V nx lv st x') : ax_At V pc lv (.int n :: .int dp :: .ref (ax_ad V b) :: .int sp :: .ref (ax_ad V a) :: st) x := by
  obtain ⟨Sd, G, ⟨p, l, e, R, s, m, args, below, meth, c⟩, rv, sf⟩ := V
  obtain ⟨d, rfl⟩ := d
  obtain ⟨na, hna, ho⟩ := Option.bind_eq_some_iff.mp ho
  obtain ⟨nb, hnb, ho⟩ := Option.bind_eq_some_iff.mp ho
  obtain ⟨fa, hLa⟩ := ax_len_some hna
  obtain ⟨fb, hLb⟩ := ax_len_some hnb
  split at ho
  · cases ho
  · rename_i hin
    simp only [not_or, Nat.not_lt] at hin
    cases ho
    have hrm := Bool.and_eq_true _ _ ▸ hrm
    have hR : R = ax_rm μ := hV.2.2.2.2.2.2.2.2.2.2
    subst hR
    intro H locs ls hP hS hl
    refine va_copyi hV.1 hV.2.1 hl.1.symm hV.2.2.2.1 (hV.2.2.2.2.1 _ hlk.1) (hV.2.2.2.2.1 _ hlk.2.1) (hV.2.2.2.2.1 _ hlk.2.2.1) (hV.2.2.2.2.1 _ hlk.2.2.2) hV.2.2.2.2.2.1 hP (ax_D_of hV.2.2.2.2.2.2.1 x) hS a b 0 0 (ax_ws_get (G := G) (s := x) hLa) (ax_ws_get (G := G) (s := x) hLb) (ty := .int) rfl rfl rfl hin.1 hin.2.1 hin.2.2.1 hin.2.2.2.1 hin.2.2.2.2 (fun _ _ => rfl) (Nat.le_of_ble_eq_true hrm.1) (Nat.le_of_ble_eq_true hrm.2) d (fun H1 locs1 hP1 _ hS1 => ?_)
    refine k H1 locs1 ls ?_ hS1 hl
    rw [ax_ws_set (s' := ax_wi x b (va_cpy (x.1 a) (x.1 b) sp.toNatClampNeg dp.toNatClampNeg n.toNatClampNeg)) hLb (by simp [ax_e, ax_wi]) (fun i d' hi => ax_e_congr (by exact ax_wi_ne hi) (by rfl) d')] at hP1
    exact hP1
def ax_en (vs : List Value) : List (Option Value) := vs.flatMap (fun v => if v.category = 2 then [some v, none] else [some v])
theorem ax_en_args (vs : List Value) : ∀ (k i : Nat) (v : Value), (ax_en vs)[i]? = some (some v) → (k + i, v) ∈ lv_args k vs := by
  induction vs with
  | nil => intro k i v h; simp [ax_en] at h
  | cons a vs ih =>
    intro k i v h
    have e : ax_en (a :: vs) = (if a.category = 2 then [some a, none] else [some a]) ++ ax_en vs := by simp [ax_en]
    rw [e] at h
    by_cases hc : a.category = 2
    · rw [if_pos hc] at h
      match i, h with
      | 0, h => cases h; simp [lv_args]
      | 1, h => cases h
      | i + 2, h =>
        have h' : (ax_en vs)[i]? = some (some v) := h
        have := ih (k + 2) i v h'
        simp only [lv_args, hc, List.mem_cons]
        right
        have e2 : k + (i + 2) = k + 2 + i := by omega
        rw [e2]
        simpa using this
    · rw [if_neg hc] at h
      match i, h with
      | 0, h => cases h; simp [lv_args]
      | i + 1, h =>
        have h' : (ax_en vs)[i]? = some (some v) := h
        have hc1 : a.category = 1 := (lv_cat a).resolve_right hc
        have := ih (k + 1) i v h'
        simp only [lv_args, hc1, List.mem_cons]
        right
        have e2 : k + (i + 1) = k + 1 + i := by omega
        rw [e2]
        simpa using this
theorem ax_enter {Sd : ax_Sd} {μ : ax_Mu} {av : (Nat → Nat) → List Value} {s : ax_S} {rv : Option Value} {sf : ax_S} (hy : plainName μ.1.cls = true) (r : Nat) (lv0 : (Nat → Nat) → List (Option Value)) (hlv : ∀ ad, ax_en (av ad) ++ List.replicate r none = lv0 ad) (hn : ∀ ad, (lg_sl (av ad)).length ≤ μ.2.2.1)
    (hb : ∀ X : ax_G × ax_K × Option Value × ax_S, ax_ok (Sd, X) μ → X.2.2 = (rv, sf) → ax_At (Sd, X) 0 (lv0 (ax_ad (Sd, X))) [] s) : ax_M Sd μ av s rv sf := by
  intro l G hinj
  refine Met.ofW (cc := μ.2.1) (maxL := μ.2.2.1) (ret := μ.2.2.2.1) hy rfl ?_
  intro p e s₀ m args below meth c s₁ B hml hv
  obtain ⟨rfl, hP, hK, hst⟩ := hv
  have hts := atoms_spec (ws := ax_w μ) B.pre
  have hl := lv_entry (av G.2.1) (n := μ.2.2.1) (hn G.2.1)
  rw [lg_entry_eq]
  generalize (lg_sl (av G.2.1) ++ List.replicate (μ.2.2.1 - (lg_sl (av G.2.1)).length) Slot.unset).toArray = ls at hl ⊢
  have k := hb (G, (p, l, e, ax_rm μ, s₀, m, (av G.2.1).toArray, below, meth, c), rv, sf) ⟨B.exec, B.bytes, hml, findClass_of_methodNamed B.named, fun w hw => hts w (List.mem_cons_of_mem _ hw), hK, hinj, hst, B.returns, B.notSynchronized, rfl⟩ rfl
  refine k s₀.heap [] ls hP va_S.rf ⟨by rw [hl.1]; exact hml.symm, hl.2.1, fun i v hi => ?_⟩
  have hi : (lv0 G.2.1)[i]? = some (some v) := hi
  rw [← hlv G.2.1] at hi
  rcases Nat.lt_or_ge i (ax_en (av G.2.1)).length with q | q
  · rw [List.getElem?_append_left q] at hi
    have := ax_en_args (av G.2.1) 0 i v hi
    rw [Nat.zero_add] at this
    exact hl.2.2 _ this
  · rw [List.getElem?_append_right q, List.getElem?_replicate] at hi
    split at hi
    · cases hi
    · cases hi
end
section
def cx_f0 : Nat → Int32 := fun k => [31, 28, 31, 30, 31, 30, 31, 31, 30, 31, 30, 31].getD k 0
def cx_f1 : Nat → Int32 := fun k => [0, 31, 59, 90, 120, 151, 181, 212, 243, 273, 304, 334].getD k 0
def cx_f2 : Nat → Int32 := fun k => [-72744, -72742].getD k 0
def cx_C : ax_Sd := ([(0, 8, [3, 5, 4, 6, 7, 8, 9, 10, 0, 0, 0, 0]), (0, 5, [4, 5, 11, 12, 13, 14, 0, 15, 16, 17, 18, 19, 20]), (0, 6, [21, 22, 23, 24, 25, 26, 27, 0]), (0, 0, [28, 29, 30, 0]), (0, 2, [31, 0, 32, 1, 0]), (0, 4, [33, 34, 35, 36, 0]), (0, 3, [37, 0, 0, 0]), (0, 1, [38, 0, 0, 0, 0, 0, 0]), (0, 7, [39, 40, 41]), (1, 40, []), (1, 40, []), (1, 40, []), (1, 40, []), (1, 18, []), (1, 18, []), (1, 18, []), (1, 18, []), (1, 18, []), (1, 18, []), (1, 40, []), (1, 40, []), (1, 40, []), (1, 40, []), (1, 40, []), (1, 40, []), (1, 40, []), (1, 6, []), (1, 6, []), (1, 6, []), (1, 12, []), (1, 40, []), (1, 12, []), (1, 4096, []), (1, 4096, []), (1, 144, []), (1, 12, []), (1, 40, []), (1, 4, []), (1, 4, []), (1, 160, [])], [("WhenItWas$Calendar", "MONTH_DAYS", 100, 12, cx_f0), ("WhenItWas$Calendar", "DAYS_BEFORE_MONTH", 101, 12, cx_f1), ("WhenItWas$Calendar", "FIRST_DAY", 102, 2, cx_f2)])
def cx_R : ax_Sd := ([(0, 9, [0, 0, 0, 3, 4, 5, 0, 6, 7, 8, 9, 10, 11, 12, 0, 13, 14, 15, 0, 0, 0, 16, 17, 18, 19, 0, 20, 1, 21, 22, 0, 23, 0, 0, 0, 0, 24, 25, 26, 27, 28, 0]), (1, 6, []), (1, 6, []), (1, 6, []), (1, 40, []), (1, 40, []), (1, 40, []), (1, 40, []), (1, 40, []), (1, 40, []), (1, 40, []), (1, 361, []), (1, 19, []), (1, 19, []), (1, 6, []), (1, 6, []), (1, 12, []), (1, 12, []), (1, 12, []), (1, 12, []), (2, 4096, []), (1, 40, []), (3, 4, []), (1, 4, []), (1, 4, []), (1, 160, []), (1, 40, [])], [])
theorem ms_0 : ("WhenItWas$Calendar", "MONTH_DAYS", 100, 12, cx_f0) ∈ cx_C.2 := by simp [cx_C]
theorem ms_1 : ("WhenItWas$Calendar", "DAYS_BEFORE_MONTH", 101, 12, cx_f1) ∈ cx_C.2 := by simp [cx_C]
theorem ms_2 : ("WhenItWas$Calendar", "FIRST_DAY", 102, 2, cx_f2) ∈ cx_C.2 := by simp [cx_C]
theorem ax_m1 {w : Cond} (j : Nat) (h : tables_1_1[j]? = some w) (hg : goodWord w = true) : w ∈ ax_tb := List.mem_filter.mpr ⟨List.mem_append_right _ (List.mem_append_left _ (List.mem_of_getElem? h)), hg⟩
theorem ax_m2 {w : Cond} (j : Nat) (h : tables_1_2[j]? = some w) (hg : goodWord w = true) : w ∈ ax_tb := List.mem_filter.mpr ⟨List.mem_append_right _ (List.mem_append_right _ (List.mem_append_left _ (List.mem_of_getElem? h))), hg⟩
theorem ax_m3 {w : Cond} (j : Nat) (h : tables_1_3[j]? = some w) (hg : goodWord w = true) : w ∈ ax_tb := List.mem_filter.mpr ⟨List.mem_append_right _ (List.mem_append_right _ (List.mem_append_right _ (List.mem_append_left _ (List.mem_of_getElem? h)))), hg⟩
theorem ax_m4 {w : Cond} (j : Nat) (h : tables_1_4[j]? = some w) (hg : goodWord w = true) : w ∈ ax_tb := List.mem_filter.mpr ⟨List.mem_append_right _ (List.mem_append_right _ (List.mem_append_right _ (List.mem_append_right _ (List.mem_append_left _ (List.mem_of_getElem? h))))), hg⟩
theorem ax_m5 {w : Cond} (j : Nat) (h : tables_1_5[j]? = some w) (hg : goodWord w = true) : w ∈ ax_tb := List.mem_filter.mpr ⟨List.mem_append_right _ (List.mem_append_right _ (List.mem_append_right _ (List.mem_append_right _ (List.mem_append_right _ (List.mem_append_left _ (List.mem_of_getElem? h)))))), hg⟩
theorem ax_m6 {w : Cond} (j : Nat) (h : tables_1_6[j]? = some w) (hg : goodWord w = true) : w ∈ ax_tb := List.mem_filter.mpr ⟨List.mem_append_right _ (List.mem_append_right _ (List.mem_append_right _ (List.mem_append_right _ (List.mem_append_right _ (List.mem_append_right _ (List.mem_of_getElem? h)))))), hg⟩
theorem ax_mp1 {w : Cond} {q : MethodName × Nat} (j : Nat) (h : lw_privs_1[j]? = some q) (hq : Cond.selects q.1.cls q.1 q.1 = w) (hg : goodWord w = true) : w ∈ ax_tb := List.mem_filter.mpr ⟨List.mem_append_left _ (List.mem_map.mpr ⟨q, List.mem_append_left _ (List.mem_of_getElem? h), hq⟩), hg⟩
theorem ax_mp2 {w : Cond} {q : MethodName × Nat} (j : Nat) (h : lw_privs_2[j]? = some q) (hq : Cond.selects q.1.cls q.1 q.1 = w) (hg : goodWord w = true) : w ∈ ax_tb := List.mem_filter.mpr ⟨List.mem_append_left _ (List.mem_map.mpr ⟨q, List.mem_append_right _ (List.mem_append_left _ (List.mem_of_getElem? h)), hq⟩), hg⟩
theorem ax_mp3 {w : Cond} {q : MethodName × Nat} (j : Nat) (h : lw_privs_3[j]? = some q) (hq : Cond.selects q.1.cls q.1 q.1 = w) (hg : goodWord w = true) : w ∈ ax_tb := List.mem_filter.mpr ⟨List.mem_append_left _ (List.mem_map.mpr ⟨q, List.mem_append_right _ (List.mem_append_right _ (List.mem_append_left _ (List.mem_of_getElem? h))), hq⟩), hg⟩
theorem ax_mp4 {w : Cond} {q : MethodName × Nat} (j : Nat) (h : lw_privs_4[j]? = some q) (hq : Cond.selects q.1.cls q.1 q.1 = w) (hg : goodWord w = true) : w ∈ ax_tb := List.mem_filter.mpr ⟨List.mem_append_left _ (List.mem_map.mpr ⟨q, List.mem_append_right _ (List.mem_append_right _ (List.mem_append_right _ (List.mem_append_left _ (List.mem_of_getElem? h)))), hq⟩), hg⟩
theorem ax_mp5 {w : Cond} {q : MethodName × Nat} (j : Nat) (h : lw_privs_5[j]? = some q) (hq : Cond.selects q.1.cls q.1 q.1 = w) (hg : goodWord w = true) : w ∈ ax_tb := List.mem_filter.mpr ⟨List.mem_append_left _ (List.mem_map.mpr ⟨q, List.mem_append_right _ (List.mem_append_right _ (List.mem_append_right _ (List.mem_append_right _ (List.mem_of_getElem? h)))), hq⟩), hg⟩
theorem in2X0 : ∀ w ∈ wsX00, w ∈ ax_tb := by
  show ∀ w ∈ [Cond.laysFinal "WhenItWas$Books" "WhenItWas$Books" "least" "[I", Cond.laysFinal "WhenItWas$Books" "WhenItWas$Books" "greatest" "[I", Cond.laysFinal "WhenItWas$Books" "WhenItWas$Books" "trust" "[I", Cond.lays "WhenItWas$Books" "WhenItWas$Books" "size" "I"], w ∈ ax_tb
  exact List.forall_mem_cons.mpr ⟨(ax_m1 96 rfl rfl), List.forall_mem_cons.mpr ⟨(ax_m1 98 rfl rfl), List.forall_mem_cons.mpr ⟨(ax_m1 100 rfl rfl), List.forall_mem_cons.mpr ⟨(ax_m1 102 rfl rfl), fun _ h => absurd h List.not_mem_nil⟩⟩⟩⟩
theorem in2X2 : ∀ w ∈ wsX20, w ∈ ax_tb := by
  show ∀ w ∈ [Cond.laysFinal "WhenItWas$Dates" "WhenItWas$Dates" "bytes" "[I", Cond.lays "WhenItWas$Dates" "WhenItWas$Dates" "length" "I", Cond.lays "WhenItWas$Dates" "WhenItWas$Dates" "from" "I", Cond.lays "WhenItWas$Dates" "WhenItWas$Dates" "until" "I", Cond.lays "WhenItWas$Dates" "WhenItWas$Dates" "place" "I", Cond.lays "WhenItWas$Dates" "WhenItWas$Dates" "number" "I", Cond.lays "WhenItWas$Dates" "WhenItWas$Dates" "dayRead" "I"], w ∈ ax_tb
  exact List.forall_mem_cons.mpr ⟨(ax_m1 234 rfl rfl), List.forall_mem_cons.mpr ⟨(ax_m1 236 rfl rfl), List.forall_mem_cons.mpr ⟨(ax_m1 238 rfl rfl), List.forall_mem_cons.mpr ⟨(ax_m2 0 rfl rfl), List.forall_mem_cons.mpr ⟨(ax_m2 2 rfl rfl), List.forall_mem_cons.mpr ⟨(ax_m2 4 rfl rfl), List.forall_mem_cons.mpr ⟨(ax_m2 6 rfl rfl), fun _ h => absurd h List.not_mem_nil⟩⟩⟩⟩⟩⟩⟩
theorem in2X3 : ∀ w ∈ wsX30, w ∈ ax_tb := by
  show ∀ w ∈ [Cond.laysFinal "WhenItWas$Doubt" "WhenItWas$Doubt" "candidates" "[I", Cond.lays "WhenItWas$Doubt" "WhenItWas$Doubt" "size" "I", Cond.laysFinal "WhenItWas$Doubt" "WhenItWas$Doubt" "blame" "[I", Cond.lays "WhenItWas$Doubt" "WhenItWas$Doubt" "best" "J", Cond.lays "WhenItWas$Doubt" "WhenItWas$Doubt" "bestTrust" "I"], w ∈ ax_tb
  exact List.forall_mem_cons.mpr ⟨(ax_m1 162 rfl rfl), List.forall_mem_cons.mpr ⟨(ax_m1 164 rfl rfl), List.forall_mem_cons.mpr ⟨(ax_m1 166 rfl rfl), List.forall_mem_cons.mpr ⟨(ax_m1 168 rfl rfl), List.forall_mem_cons.mpr ⟨(ax_m1 170 rfl rfl), fun _ h => absurd h List.not_mem_nil⟩⟩⟩⟩⟩
theorem in2X4 : ∀ w ∈ wsX40, w ∈ ax_tb := by
  show ∀ w ∈ [Cond.laysFinal "WhenItWas$Kin" "WhenItWas$Kin" "differences" "[I", Cond.lays "WhenItWas$Kin" "WhenItWas$Kin" "size" "I", Cond.lays "WhenItWas$Kin" "WhenItWas$Kin" "most" "I", Cond.lays "WhenItWas$Kin" "WhenItWas$Kin" "number" "I"], w ∈ ax_tb
  exact List.forall_mem_cons.mpr ⟨(ax_m1 209 rfl rfl), List.forall_mem_cons.mpr ⟨(ax_m1 211 rfl rfl), List.forall_mem_cons.mpr ⟨(ax_m1 213 rfl rfl), List.forall_mem_cons.mpr ⟨(ax_m1 215 rfl rfl), fun _ h => absurd h List.not_mem_nil⟩⟩⟩⟩
theorem in2X5 : ∀ w ∈ wsX50, w ∈ ax_tb := by
  show ∀ w ∈ [Cond.laysFinal "WhenItWas$Lines" "WhenItWas$Lines" "before" "[I", Cond.laysFinal "WhenItWas$Lines" "WhenItWas$Lines" "ways" "[I", Cond.laysFinal "WhenItWas$Lines" "WhenItWas$Lines" "waysOn" "[I", Cond.laysFinal "WhenItWas$Lines" "WhenItWas$Lines" "pairs" "[I", Cond.lays "WhenItWas$Lines" "WhenItWas$Lines" "size" "I"], w ∈ ax_tb
  exact List.forall_mem_cons.mpr ⟨(ax_m1 185 rfl rfl), List.forall_mem_cons.mpr ⟨(ax_m1 187 rfl rfl), List.forall_mem_cons.mpr ⟨(ax_m1 189 rfl rfl), List.forall_mem_cons.mpr ⟨(ax_m1 191 rfl rfl), List.forall_mem_cons.mpr ⟨(ax_m1 193 rfl rfl), fun _ h => absurd h List.not_mem_nil⟩⟩⟩⟩⟩
theorem in2X6 : ∀ w ∈ wsX60, w ∈ ax_tb := by
  show ∀ w ∈ [Cond.laysFinal "WhenItWas$Net" "WhenItWas$Net" "rows" "LWhenItWas$Rows;", Cond.laysFinal "WhenItWas$Net" "WhenItWas$Net" "books" "LWhenItWas$Books;", Cond.laysFinal "WhenItWas$Net" "WhenItWas$Net" "from" "[I", Cond.laysFinal "WhenItWas$Net" "WhenItWas$Net" "to" "[I", Cond.laysFinal "WhenItWas$Net" "WhenItWas$Net" "x" "[I", Cond.laysFinal "WhenItWas$Net" "WhenItWas$Net" "y" "[I", Cond.lays "WhenItWas$Net" "WhenItWas$Net" "size" "I", Cond.laysFinal "WhenItWas$Net" "WhenItWas$Net" "floor" "[I", Cond.laysFinal "WhenItWas$Net" "WhenItWas$Net" "ceiling" "[I", Cond.laysFinal "WhenItWas$Net" "WhenItWas$Net" "most" "[I", Cond.laysFinal "WhenItWas$Net" "WhenItWas$Net" "leastTurned" "[I", Cond.laysFinal "WhenItWas$Net" "WhenItWas$Net" "reach" "[I", Cond.laysFinal "WhenItWas$Net" "WhenItWas$Net" "nextReach" "[I"], w ∈ ax_tb
  exact List.forall_mem_cons.mpr ⟨(ax_m1 122 rfl rfl), List.forall_mem_cons.mpr ⟨(ax_m1 124 rfl rfl), List.forall_mem_cons.mpr ⟨(ax_m1 126 rfl rfl), List.forall_mem_cons.mpr ⟨(ax_m1 128 rfl rfl), List.forall_mem_cons.mpr ⟨(ax_m1 130 rfl rfl), List.forall_mem_cons.mpr ⟨(ax_m1 132 rfl rfl), List.forall_mem_cons.mpr ⟨(ax_m1 134 rfl rfl), List.forall_mem_cons.mpr ⟨(ax_m1 136 rfl rfl), List.forall_mem_cons.mpr ⟨(ax_m1 138 rfl rfl), List.forall_mem_cons.mpr ⟨(ax_m1 140 rfl rfl), List.forall_mem_cons.mpr ⟨(ax_m1 142 rfl rfl), List.forall_mem_cons.mpr ⟨(ax_m1 144 rfl rfl), List.forall_mem_cons.mpr ⟨(ax_m1 146 rfl rfl), fun _ h => absurd h List.not_mem_nil⟩⟩⟩⟩⟩⟩⟩⟩⟩⟩⟩⟩⟩
theorem in2X7 : ∀ w ∈ wsX70, w ∈ ax_tb := by
  show ∀ w ∈ [Cond.laysFinal "WhenItWas$Rows" "WhenItWas$Rows" "book" "[I", Cond.laysFinal "WhenItWas$Rows" "WhenItWas$Rows" "thing" "[I", Cond.laysFinal "WhenItWas$Rows" "WhenItWas$Rows" "other" "[I", Cond.laysFinal "WhenItWas$Rows" "WhenItWas$Rows" "x" "[I", Cond.laysFinal "WhenItWas$Rows" "WhenItWas$Rows" "y" "[I", Cond.laysFinal "WhenItWas$Rows" "WhenItWas$Rows" "told" "[I", Cond.laysFinal "WhenItWas$Rows" "WhenItWas$Rows" "taken" "[I", Cond.lays "WhenItWas$Rows" "WhenItWas$Rows" "size" "I"], w ∈ ax_tb
  exact List.forall_mem_cons.mpr ⟨(ax_m1 60 rfl rfl), List.forall_mem_cons.mpr ⟨(ax_m1 62 rfl rfl), List.forall_mem_cons.mpr ⟨(ax_m1 64 rfl rfl), List.forall_mem_cons.mpr ⟨(ax_m1 66 rfl rfl), List.forall_mem_cons.mpr ⟨(ax_m1 68 rfl rfl), List.forall_mem_cons.mpr ⟨(ax_m1 70 rfl rfl), List.forall_mem_cons.mpr ⟨(ax_m1 72 rfl rfl), List.forall_mem_cons.mpr ⟨(ax_m1 74 rfl rfl), fun _ h => absurd h List.not_mem_nil⟩⟩⟩⟩⟩⟩⟩⟩
theorem in2X8 : ∀ w ∈ wsX80, w ∈ ax_tb := by
  show ∀ w ∈ [Cond.laysFinal "WhenItWas$Sheets" "WhenItWas$Sheets" "kind" "[I", Cond.laysFinal "WhenItWas$Sheets" "WhenItWas$Sheets" "size" "[I", Cond.laysFinal "WhenItWas$Sheets" "WhenItWas$Sheets" "items" "[I"], w ∈ ax_tb
  exact List.forall_mem_cons.mpr ⟨(ax_m2 20 rfl rfl), List.forall_mem_cons.mpr ⟨(ax_m2 22 rfl rfl), List.forall_mem_cons.mpr ⟨(ax_m2 24 rfl rfl), fun _ h => absurd h List.not_mem_nil⟩⟩⟩
theorem in2X9 : ∀ w ∈ wsX90, w ∈ ax_tb := by
  show ∀ w ∈ [Cond.laysFinal "WhenItWas" "WhenItWas" "net" "LWhenItWas$Net;", Cond.laysFinal "WhenItWas" "WhenItWas" "books" "LWhenItWas$Books;", Cond.laysFinal "WhenItWas" "WhenItWas" "rows" "LWhenItWas$Rows;", Cond.laysFinal "WhenItWas" "WhenItWas" "doubt" "LWhenItWas$Doubt;", Cond.laysFinal "WhenItWas" "WhenItWas" "lines" "LWhenItWas$Lines;", Cond.laysFinal "WhenItWas" "WhenItWas" "kindred" "LWhenItWas$Kin;", Cond.laysFinal "WhenItWas" "WhenItWas" "dates" "LWhenItWas$Dates;", Cond.laysFinal "WhenItWas" "WhenItWas" "sheets" "LWhenItWas$Sheets;", Cond.lays "WhenItWas" "WhenItWas" "today" "I", Cond.lays "WhenItWas" "WhenItWas" "view" "I", Cond.lays "WhenItWas" "WhenItWas" "things" "I", Cond.lays "WhenItWas" "WhenItWas" "finding" "I"], w ∈ ax_tb
  exact List.forall_mem_cons.mpr ⟨(ax_m2 39 rfl rfl), List.forall_mem_cons.mpr ⟨(ax_m2 41 rfl rfl), List.forall_mem_cons.mpr ⟨(ax_m2 43 rfl rfl), List.forall_mem_cons.mpr ⟨(ax_m2 45 rfl rfl), List.forall_mem_cons.mpr ⟨(ax_m2 47 rfl rfl), List.forall_mem_cons.mpr ⟨(ax_m2 49 rfl rfl), List.forall_mem_cons.mpr ⟨(ax_m2 51 rfl rfl), List.forall_mem_cons.mpr ⟨(ax_m2 53 rfl rfl), List.forall_mem_cons.mpr ⟨(ax_m2 55 rfl rfl), List.forall_mem_cons.mpr ⟨(ax_m2 57 rfl rfl), List.forall_mem_cons.mpr ⟨(ax_m2 59 rfl rfl), List.forall_mem_cons.mpr ⟨(ax_m2 61 rfl rfl), fun _ h => absurd h List.not_mem_nil⟩⟩⟩⟩⟩⟩⟩⟩⟩⟩⟩⟩
theorem in2X10 : ∀ w ∈ wsX100, w ∈ ax_tb := by
  show ∀ w ∈ [Cond.lays "WhenItWasModel" "WhenItWasModel" "day" "I", Cond.lays "WhenItWasModel" "WhenItWasModel" "things" "I", Cond.lays "WhenItWasModel" "WhenItWasModel" "books" "I", Cond.laysFinal "WhenItWasModel" "WhenItWasModel" "clockLow" "[I", Cond.laysFinal "WhenItWasModel" "WhenItWasModel" "clockHigh" "[I", Cond.laysFinal "WhenItWasModel" "WhenItWasModel" "trustOf" "[I", Cond.lays "WhenItWasModel" "WhenItWasModel" "rows" "I", Cond.laysFinal "WhenItWasModel" "WhenItWasModel" "rowBook" "[I", Cond.laysFinal "WhenItWasModel" "WhenItWasModel" "rowThing" "[I", Cond.laysFinal "WhenItWasModel" "WhenItWasModel" "rowOther" "[I", Cond.laysFinal "WhenItWasModel" "WhenItWasModel" "rowX" "[I", Cond.laysFinal "WhenItWasModel" "WhenItWasModel" "rowY" "[I", Cond.laysFinal "WhenItWasModel" "WhenItWasModel" "rowTold" "[I", Cond.laysFinal "WhenItWasModel" "WhenItWasModel" "rowBack" "[I", Cond.lays "WhenItWasModel" "WhenItWasModel" "knownTo" "I", Cond.laysFinal "WhenItWasModel" "WhenItWasModel" "far" "[I", Cond.laysFinal "WhenItWasModel" "WhenItWasModel" "reach" "[I", Cond.laysFinal "WhenItWasModel" "WhenItWasModel" "steps" "[I", Cond.lays "WhenItWasModel" "WhenItWasModel" "couldBe" "Z", Cond.lays "WhenItWasModel" "WhenItWasModel" "leastWas" "I", Cond.lays "WhenItWasModel" "WhenItWasModel" "greatestWas" "I", Cond.laysFinal "WhenItWasModel" "WhenItWasModel" "offLow" "[I", Cond.laysFinal "WhenItWasModel" "WhenItWasModel" "offHigh" "[I", Cond.laysFinal "WhenItWasModel" "WhenItWasModel" "kinBy" "[I", Cond.laysFinal "WhenItWasModel" "WhenItWasModel" "asked" "[I", Cond.lays "WhenItWasModel" "WhenItWasModel" "askedMany" "I", Cond.laysFinal "WhenItWasModel" "WhenItWasModel" "blames" "[I", Cond.lays "WhenItWasModel" "WhenItWasModel" "doubtBits" "J", Cond.laysFinal "WhenItWasModel" "WhenItWasModel" "aheadOf" "[I", Cond.laysFinal "WhenItWasModel" "WhenItWasModel" "countOf" "[J", Cond.lays "WhenItWasModel" "WhenItWasModel" "typed" "I", Cond.laysFinal "WhenItWasModel" "WhenItWasModel" "text" "[I", Cond.lays "WhenItWasModel" "WhenItWasModel" "at" "I", Cond.lays "WhenItWasModel" "WhenItWasModel" "fault" "I", Cond.lays "WhenItWasModel" "WhenItWasModel" "firstDay" "I", Cond.lays "WhenItWasModel" "WhenItWasModel" "secondDay" "I", Cond.laysFinal "WhenItWasModel" "WhenItWasModel" "isThere" "[Z", Cond.laysFinal "WhenItWasModel" "WhenItWasModel" "types" "[I", Cond.laysFinal "WhenItWasModel" "WhenItWasModel" "sizes" "[I", Cond.laysFinal "WhenItWasModel" "WhenItWasModel" "items" "[I", Cond.laysFinal "WhenItWasModel" "WhenItWasModel" "moved" "[I", Cond.lays "WhenItWasModel" "WhenItWasModel" "finding" "I"], w ∈ ax_tb
  exact List.forall_mem_cons.mpr ⟨(ax_m4 211 rfl rfl), List.forall_mem_cons.mpr ⟨(ax_m4 213 rfl rfl), List.forall_mem_cons.mpr ⟨(ax_m4 215 rfl rfl), List.forall_mem_cons.mpr ⟨(ax_m4 217 rfl rfl), List.forall_mem_cons.mpr ⟨(ax_m4 219 rfl rfl), List.forall_mem_cons.mpr ⟨(ax_m4 221 rfl rfl), List.forall_mem_cons.mpr ⟨(ax_m4 223 rfl rfl), List.forall_mem_cons.mpr ⟨(ax_m4 225 rfl rfl), List.forall_mem_cons.mpr ⟨(ax_m4 227 rfl rfl), List.forall_mem_cons.mpr ⟨(ax_m4 229 rfl rfl), List.forall_mem_cons.mpr ⟨(ax_m4 231 rfl rfl), List.forall_mem_cons.mpr ⟨(ax_m4 233 rfl rfl), List.forall_mem_cons.mpr ⟨(ax_m4 235 rfl rfl), List.forall_mem_cons.mpr ⟨(ax_m4 237 rfl rfl), List.forall_mem_cons.mpr ⟨(ax_m4 239 rfl rfl), List.forall_mem_cons.mpr ⟨(ax_m5 1 rfl rfl), List.forall_mem_cons.mpr ⟨(ax_m5 3 rfl rfl), List.forall_mem_cons.mpr ⟨(ax_m5 5 rfl rfl), List.forall_mem_cons.mpr ⟨(ax_m5 7 rfl rfl), List.forall_mem_cons.mpr ⟨(ax_m5 9 rfl rfl), List.forall_mem_cons.mpr ⟨(ax_m5 11 rfl rfl), List.forall_mem_cons.mpr ⟨(ax_m5 13 rfl rfl), List.forall_mem_cons.mpr ⟨(ax_m5 15 rfl rfl), List.forall_mem_cons.mpr ⟨(ax_m5 17 rfl rfl), List.forall_mem_cons.mpr ⟨(ax_m5 19 rfl rfl), List.forall_mem_cons.mpr ⟨(ax_m5 21 rfl rfl), List.forall_mem_cons.mpr ⟨(ax_m5 23 rfl rfl), List.forall_mem_cons.mpr ⟨(ax_m5 25 rfl rfl), List.forall_mem_cons.mpr ⟨(ax_m5 27 rfl rfl), List.forall_mem_cons.mpr ⟨(ax_m5 29 rfl rfl), List.forall_mem_cons.mpr ⟨(ax_m5 31 rfl rfl), List.forall_mem_cons.mpr ⟨(ax_m5 33 rfl rfl), List.forall_mem_cons.mpr ⟨(ax_m5 35 rfl rfl), List.forall_mem_cons.mpr ⟨(ax_m5 37 rfl rfl), List.forall_mem_cons.mpr ⟨(ax_m5 39 rfl rfl), List.forall_mem_cons.mpr ⟨(ax_m5 41 rfl rfl), List.forall_mem_cons.mpr ⟨(ax_m5 43 rfl rfl), List.forall_mem_cons.mpr ⟨(ax_m5 45 rfl rfl), List.forall_mem_cons.mpr ⟨(ax_m5 47 rfl rfl), List.forall_mem_cons.mpr ⟨(ax_m5 49 rfl rfl), List.forall_mem_cons.mpr ⟨(ax_m5 51 rfl rfl), List.forall_mem_cons.mpr ⟨(ax_m5 53 rfl rfl), fun _ h => absurd h List.not_mem_nil⟩⟩⟩⟩⟩⟩⟩⟩⟩⟩⟩⟩⟩⟩⟩⟩⟩⟩⟩⟩⟩⟩⟩⟩⟩⟩⟩⟩⟩⟩⟩⟩⟩⟩⟩⟩⟩⟩⟩⟩⟩⟩
theorem lf_X0_15 : ax_F RX0 15 0 1 := ⟨RX0, TX0, 4, rfl, by decide, in2X0, (ax_m1 87 rfl rfl)⟩
theorem lf_X0_18 : ax_F RX0 18 0 2 := ⟨RX0, TX0, 4, rfl, by decide, in2X0, (ax_m1 90 rfl rfl)⟩
theorem lf_X0_21 : ax_F RX0 21 0 3 := ⟨RX0, TX0, 4, rfl, by decide, in2X0, (ax_m1 93 rfl rfl)⟩
theorem lf_X0_9 : ax_F RX0 9 0 0 := ⟨RX0, TX0, 4, rfl, by decide, in2X0, (ax_m1 84 rfl rfl)⟩
theorem ls_X1_13 : Cond.fieldLink RX1 13 "WhenItWas$Calendar" "MONTH_DAYS" "[I" ∈ ax_tb := (ax_m4 5 rfl rfl)
theorem ls_X1_17 : Cond.fieldLink RX1 17 "WhenItWas$Calendar" "FIRST_DAY" "[I" ∈ ax_tb := (ax_m4 10 rfl rfl)
theorem ls_X1_24 : Cond.fieldLink RX1 24 "WhenItWas$Calendar" "DAYS_BEFORE_MONTH" "[I" ∈ ax_tb := (ax_m4 15 rfl rfl)
theorem lf_X10_101 : ax_F RX10 101 9 2 := ⟨RX10, TX10, 42, rfl, by decide, in2X10, (ax_m4 171 rfl rfl)⟩
theorem lf_X10_104 : ax_F RX10 104 9 0 := ⟨RX10, TX10, 42, rfl, by decide, in2X10, (ax_m4 169 rfl rfl)⟩
theorem lf_X10_111 : ax_F RX10 111 9 6 := ⟨RX10, TX10, 42, rfl, by decide, in2X10, (ax_m4 175 rfl rfl)⟩
theorem lf_X10_13 : ax_F RX10 13 9 4 := ⟨RX10, TX10, 42, rfl, by decide, in2X10, (ax_m4 173 rfl rfl)⟩
theorem lf_X10_16 : ax_F RX10 16 9 5 := ⟨RX10, TX10, 42, rfl, by decide, in2X10, (ax_m4 174 rfl rfl)⟩
theorem lf_X10_19 : ax_F RX10 19 9 7 := ⟨RX10, TX10, 42, rfl, by decide, in2X10, (ax_m4 176 rfl rfl)⟩
theorem lf_X10_192 : ax_F RX10 192 9 18 := ⟨RX10, TX10, 42, rfl, by decide, in2X10, (ax_m4 187 rfl rfl)⟩
theorem lf_X10_196 : ax_F RX10 196 9 19 := ⟨RX10, TX10, 42, rfl, by decide, in2X10, (ax_m4 188 rfl rfl)⟩
theorem lf_X10_199 : ax_F RX10 199 9 20 := ⟨RX10, TX10, 42, rfl, by decide, in2X10, (ax_m4 189 rfl rfl)⟩
theorem lf_X10_215 : ax_F RX10 215 9 25 := ⟨RX10, TX10, 42, rfl, by decide, in2X10, (ax_m4 194 rfl rfl)⟩
theorem lf_X10_218 : ax_F RX10 218 9 27 := ⟨RX10, TX10, 42, rfl, by decide, in2X10, (ax_m4 196 rfl rfl)⟩
theorem lf_X10_22 : ax_F RX10 22 9 8 := ⟨RX10, TX10, 42, rfl, by decide, in2X10, (ax_m4 177 rfl rfl)⟩
theorem lf_X10_25 : ax_F RX10 25 9 9 := ⟨RX10, TX10, 42, rfl, by decide, in2X10, (ax_m4 178 rfl rfl)⟩
theorem lf_X10_267 : ax_F RX10 267 9 30 := ⟨RX10, TX10, 42, rfl, by decide, in2X10, (ax_m4 199 rfl rfl)⟩
theorem lf_X10_270 : ax_F RX10 270 9 32 := ⟨RX10, TX10, 42, rfl, by decide, in2X10, (ax_m4 201 rfl rfl)⟩
theorem lf_X10_273 : ax_F RX10 273 9 33 := ⟨RX10, TX10, 42, rfl, by decide, in2X10, (ax_m4 202 rfl rfl)⟩
theorem lf_X10_28 : ax_F RX10 28 9 10 := ⟨RX10, TX10, 42, rfl, by decide, in2X10, (ax_m4 179 rfl rfl)⟩
theorem lf_X10_288 : ax_F RX10 288 9 34 := ⟨RX10, TX10, 42, rfl, by decide, in2X10, (ax_m4 203 rfl rfl)⟩
theorem lf_X10_291 : ax_F RX10 291 9 35 := ⟨RX10, TX10, 42, rfl, by decide, in2X10, (ax_m4 204 rfl rfl)⟩
theorem lf_X10_297 : ax_F RX10 297 9 41 := ⟨RX10, TX10, 42, rfl, by decide, in2X10, (ax_m4 210 rfl rfl)⟩
theorem lf_X10_31 : ax_F RX10 31 9 11 := ⟨RX10, TX10, 42, rfl, by decide, in2X10, (ax_m4 180 rfl rfl)⟩
theorem lf_X10_34 : ax_F RX10 34 9 12 := ⟨RX10, TX10, 42, rfl, by decide, in2X10, (ax_m4 181 rfl rfl)⟩
theorem lf_X10_37 : ax_F RX10 37 9 13 := ⟨RX10, TX10, 42, rfl, by decide, in2X10, (ax_m4 182 rfl rfl)⟩
theorem lf_X10_40 : ax_F RX10 40 9 14 := ⟨RX10, TX10, 42, rfl, by decide, in2X10, (ax_m4 183 rfl rfl)⟩
theorem lf_X10_44 : ax_F RX10 44 9 15 := ⟨RX10, TX10, 42, rfl, by decide, in2X10, (ax_m4 184 rfl rfl)⟩
theorem lf_X10_47 : ax_F RX10 47 9 16 := ⟨RX10, TX10, 42, rfl, by decide, in2X10, (ax_m4 185 rfl rfl)⟩
theorem lf_X10_50 : ax_F RX10 50 9 17 := ⟨RX10, TX10, 42, rfl, by decide, in2X10, (ax_m4 186 rfl rfl)⟩
theorem lf_X10_53 : ax_F RX10 53 9 21 := ⟨RX10, TX10, 42, rfl, by decide, in2X10, (ax_m4 190 rfl rfl)⟩
theorem lf_X10_56 : ax_F RX10 56 9 22 := ⟨RX10, TX10, 42, rfl, by decide, in2X10, (ax_m4 191 rfl rfl)⟩
theorem lf_X10_59 : ax_F RX10 59 9 23 := ⟨RX10, TX10, 42, rfl, by decide, in2X10, (ax_m4 192 rfl rfl)⟩
theorem lf_X10_62 : ax_F RX10 62 9 24 := ⟨RX10, TX10, 42, rfl, by decide, in2X10, (ax_m4 193 rfl rfl)⟩
theorem lf_X10_65 : ax_F RX10 65 9 26 := ⟨RX10, TX10, 42, rfl, by decide, in2X10, (ax_m4 195 rfl rfl)⟩
theorem lf_X10_68 : ax_F RX10 68 9 28 := ⟨RX10, TX10, 42, rfl, by decide, in2X10, (ax_m4 197 rfl rfl)⟩
theorem lf_X10_71 : ax_F RX10 71 9 29 := ⟨RX10, TX10, 42, rfl, by decide, in2X10, (ax_m4 198 rfl rfl)⟩
theorem lf_X10_75 : ax_F RX10 75 9 31 := ⟨RX10, TX10, 42, rfl, by decide, in2X10, (ax_m4 200 rfl rfl)⟩
theorem lf_X10_78 : ax_F RX10 78 9 36 := ⟨RX10, TX10, 42, rfl, by decide, in2X10, (ax_m4 205 rfl rfl)⟩
theorem lf_X10_82 : ax_F RX10 82 9 37 := ⟨RX10, TX10, 42, rfl, by decide, in2X10, (ax_m4 206 rfl rfl)⟩
theorem lf_X10_85 : ax_F RX10 85 9 38 := ⟨RX10, TX10, 42, rfl, by decide, in2X10, (ax_m4 207 rfl rfl)⟩
theorem lf_X10_88 : ax_F RX10 88 9 39 := ⟨RX10, TX10, 42, rfl, by decide, in2X10, (ax_m4 208 rfl rfl)⟩
theorem lf_X10_9 : ax_F RX10 9 9 3 := ⟨RX10, TX10, 42, rfl, by decide, in2X10, (ax_m4 172 rfl rfl)⟩
theorem lf_X10_91 : ax_F RX10 91 9 40 := ⟨RX10, TX10, 42, rfl, by decide, in2X10, (ax_m4 209 rfl rfl)⟩
theorem lf_X10_94 : ax_F RX10 94 9 1 := ⟨RX10, TX10, 42, rfl, by decide, in2X10, (ax_m4 170 rfl rfl)⟩
theorem lf_X2_15 : ax_F RX2 15 1 1 := ⟨RX2, TX2, 7, rfl, by decide, in2X2, (ax_m1 225 rfl rfl)⟩
theorem lf_X2_19 : ax_F RX2 19 1 2 := ⟨RX2, TX2, 7, rfl, by decide, in2X2, (ax_m1 227 rfl rfl)⟩
theorem lf_X2_25 : ax_F RX2 25 1 4 := ⟨RX2, TX2, 7, rfl, by decide, in2X2, (ax_m1 231 rfl rfl)⟩
theorem lf_X2_28 : ax_F RX2 28 1 5 := ⟨RX2, TX2, 7, rfl, by decide, in2X2, (ax_m1 232 rfl rfl)⟩
theorem lf_X2_31 : ax_F RX2 31 1 6 := ⟨RX2, TX2, 7, rfl, by decide, in2X2, (ax_m1 233 rfl rfl)⟩
theorem lf_X2_9 : ax_F RX2 9 1 0 := ⟨RX2, TX2, 7, rfl, by decide, in2X2, (ax_m1 224 rfl rfl)⟩
theorem lf_X3_15 : ax_F RX3 15 2 1 := ⟨RX3, TX3, 5, rfl, by decide, in2X3, (ax_m1 156 rfl rfl)⟩
theorem lf_X3_19 : ax_F RX3 19 2 2 := ⟨RX3, TX3, 5, rfl, by decide, in2X3, (ax_m1 157 rfl rfl)⟩
theorem lf_X3_22 : ax_F RX3 22 2 3 := ⟨RX3, TX3, 5, rfl, by decide, in2X3, (ax_m1 159 rfl rfl)⟩
theorem lf_X3_26 : ax_F RX3 26 2 4 := ⟨RX3, TX3, 5, rfl, by decide, in2X3, (ax_m1 161 rfl rfl)⟩
theorem lf_X3_69 : ax_F RX3 69 5 1 := ⟨RX6, TX6, 13, rfl, by decide, in2X6, (ax_m1 110 rfl rfl)⟩
theorem lf_X3_73 : ax_F RX3 73 0 2 := ⟨RX0, TX0, 4, rfl, by decide, in2X0, (ax_m1 92 rfl rfl)⟩
theorem lf_X3_78 : ax_F RX3 78 5 0 := ⟨RX6, TX6, 13, rfl, by decide, in2X6, (ax_m1 107 rfl rfl)⟩
theorem lf_X3_82 : ax_F RX3 82 6 0 := ⟨RX7, TX7, 8, rfl, by decide, in2X7, (ax_m1 38 rfl rfl)⟩
theorem lf_X3_9 : ax_F RX3 9 2 0 := ⟨RX3, TX3, 5, rfl, by decide, in2X3, (ax_m1 155 rfl rfl)⟩
theorem lf_X4_15 : ax_F RX4 15 3 1 := ⟨RX4, TX4, 4, rfl, by decide, in2X4, (ax_m1 203 rfl rfl)⟩
theorem lf_X4_19 : ax_F RX4 19 3 2 := ⟨RX4, TX4, 4, rfl, by decide, in2X4, (ax_m1 205 rfl rfl)⟩
theorem lf_X4_22 : ax_F RX4 22 3 3 := ⟨RX4, TX4, 4, rfl, by decide, in2X4, (ax_m1 207 rfl rfl)⟩
theorem lf_X4_9 : ax_F RX4 9 3 0 := ⟨RX4, TX4, 4, rfl, by decide, in2X4, (ax_m1 202 rfl rfl)⟩
theorem lf_X5_15 : ax_F RX5 15 4 1 := ⟨RX5, TX5, 5, rfl, by decide, in2X5, (ax_m1 181 rfl rfl)⟩
theorem lf_X5_18 : ax_F RX5 18 4 2 := ⟨RX5, TX5, 5, rfl, by decide, in2X5, (ax_m1 182 rfl rfl)⟩
theorem lf_X5_21 : ax_F RX5 21 4 3 := ⟨RX5, TX5, 5, rfl, by decide, in2X5, (ax_m1 183 rfl rfl)⟩
theorem lf_X5_24 : ax_F RX5 24 4 4 := ⟨RX5, TX5, 5, rfl, by decide, in2X5, (ax_m1 184 rfl rfl)⟩
theorem lf_X5_9 : ax_F RX5 9 4 0 := ⟨RX5, TX5, 5, rfl, by decide, in2X5, (ax_m1 179 rfl rfl)⟩
theorem lf_X6_111 : ax_F RX6 111 0 3 := ⟨RX0, TX0, 4, rfl, by decide, in2X0, (ax_m1 94 rfl rfl)⟩
theorem lf_X6_112 : ax_F RX6 112 0 1 := ⟨RX0, TX0, 4, rfl, by decide, in2X0, (ax_m1 88 rfl rfl)⟩
theorem lf_X6_115 : ax_F RX6 115 0 0 := ⟨RX0, TX0, 4, rfl, by decide, in2X0, (ax_m1 85 rfl rfl)⟩
theorem lf_X6_118 : ax_F RX6 118 6 7 := ⟨RX7, TX7, 8, rfl, by decide, in2X7, (ax_m1 58 rfl rfl)⟩
theorem lf_X6_12 : ax_F RX6 12 5 0 := ⟨RX6, TX6, 13, rfl, by decide, in2X6, (ax_m1 105 rfl rfl)⟩
theorem lf_X6_123 : ax_F RX6 123 6 2 := ⟨RX7, TX7, 8, rfl, by decide, in2X7, (ax_m1 46 rfl rfl)⟩
theorem lf_X6_126 : ax_F RX6 126 6 0 := ⟨RX7, TX7, 8, rfl, by decide, in2X7, (ax_m1 40 rfl rfl)⟩
theorem lf_X6_129 : ax_F RX6 129 6 1 := ⟨RX7, TX7, 8, rfl, by decide, in2X7, (ax_m1 43 rfl rfl)⟩
theorem lf_X6_132 : ax_F RX6 132 6 3 := ⟨RX7, TX7, 8, rfl, by decide, in2X7, (ax_m1 49 rfl rfl)⟩
theorem lf_X6_133 : ax_F RX6 133 6 4 := ⟨RX7, TX7, 8, rfl, by decide, in2X7, (ax_m1 52 rfl rfl)⟩
theorem lf_X6_21 : ax_F RX6 21 5 1 := ⟨RX6, TX6, 13, rfl, by decide, in2X6, (ax_m1 109 rfl rfl)⟩
theorem lf_X6_25 : ax_F RX6 25 5 2 := ⟨RX6, TX6, 13, rfl, by decide, in2X6, (ax_m1 111 rfl rfl)⟩
theorem lf_X6_29 : ax_F RX6 29 5 3 := ⟨RX6, TX6, 13, rfl, by decide, in2X6, (ax_m1 112 rfl rfl)⟩
theorem lf_X6_32 : ax_F RX6 32 5 4 := ⟨RX6, TX6, 13, rfl, by decide, in2X6, (ax_m1 113 rfl rfl)⟩
theorem lf_X6_35 : ax_F RX6 35 5 5 := ⟨RX6, TX6, 13, rfl, by decide, in2X6, (ax_m1 114 rfl rfl)⟩
theorem lf_X6_38 : ax_F RX6 38 5 6 := ⟨RX6, TX6, 13, rfl, by decide, in2X6, (ax_m1 115 rfl rfl)⟩
theorem lf_X6_42 : ax_F RX6 42 5 7 := ⟨RX6, TX6, 13, rfl, by decide, in2X6, (ax_m1 116 rfl rfl)⟩
theorem lf_X6_45 : ax_F RX6 45 5 8 := ⟨RX6, TX6, 13, rfl, by decide, in2X6, (ax_m1 117 rfl rfl)⟩
theorem lf_X6_48 : ax_F RX6 48 5 9 := ⟨RX6, TX6, 13, rfl, by decide, in2X6, (ax_m1 118 rfl rfl)⟩
theorem lf_X6_51 : ax_F RX6 51 5 10 := ⟨RX6, TX6, 13, rfl, by decide, in2X6, (ax_m1 119 rfl rfl)⟩
theorem lf_X6_54 : ax_F RX6 54 5 11 := ⟨RX6, TX6, 13, rfl, by decide, in2X6, (ax_m1 120 rfl rfl)⟩
theorem lf_X6_57 : ax_F RX6 57 5 12 := ⟨RX6, TX6, 13, rfl, by decide, in2X6, (ax_m1 121 rfl rfl)⟩
theorem lf_X7_15 : ax_F RX7 15 6 1 := ⟨RX7, TX7, 8, rfl, by decide, in2X7, (ax_m1 41 rfl rfl)⟩
theorem lf_X7_18 : ax_F RX7 18 6 2 := ⟨RX7, TX7, 8, rfl, by decide, in2X7, (ax_m1 44 rfl rfl)⟩
theorem lf_X7_21 : ax_F RX7 21 6 3 := ⟨RX7, TX7, 8, rfl, by decide, in2X7, (ax_m1 47 rfl rfl)⟩
theorem lf_X7_24 : ax_F RX7 24 6 4 := ⟨RX7, TX7, 8, rfl, by decide, in2X7, (ax_m1 50 rfl rfl)⟩
theorem lf_X7_27 : ax_F RX7 27 6 5 := ⟨RX7, TX7, 8, rfl, by decide, in2X7, (ax_m1 53 rfl rfl)⟩
theorem lf_X7_30 : ax_F RX7 30 6 6 := ⟨RX7, TX7, 8, rfl, by decide, in2X7, (ax_m1 55 rfl rfl)⟩
theorem lf_X7_33 : ax_F RX7 33 6 7 := ⟨RX7, TX7, 8, rfl, by decide, in2X7, (ax_m1 57 rfl rfl)⟩
theorem lf_X7_9 : ax_F RX7 9 6 0 := ⟨RX7, TX7, 8, rfl, by decide, in2X7, (ax_m1 37 rfl rfl)⟩
theorem lf_X8_15 : ax_F RX8 15 7 1 := ⟨RX8, TX8, 3, rfl, by decide, in2X8, (ax_m2 17 rfl rfl)⟩
theorem lf_X8_18 : ax_F RX8 18 7 2 := ⟨RX8, TX8, 3, rfl, by decide, in2X8, (ax_m2 19 rfl rfl)⟩
theorem lf_X8_9 : ax_F RX8 9 7 0 := ⟨RX8, TX8, 3, rfl, by decide, in2X8, (ax_m2 15 rfl rfl)⟩
theorem lf_X9_10 : ax_F RX9 10 8 0 := ⟨RX9, TX9, 12, rfl, by decide, in2X9, (ax_m2 27 rfl rfl)⟩
theorem lf_X9_117 : ax_F RX9 117 7 1 := ⟨RX8, TX8, 3, rfl, by decide, in2X8, (ax_m2 18 rfl rfl)⟩
theorem lf_X9_126 : ax_F RX9 126 6 6 := ⟨RX7, TX7, 8, rfl, by decide, in2X7, (ax_m1 56 rfl rfl)⟩
theorem lf_X9_130 : ax_F RX9 130 6 0 := ⟨RX7, TX7, 8, rfl, by decide, in2X7, (ax_m1 39 rfl rfl)⟩
theorem lf_X9_133 : ax_F RX9 133 6 1 := ⟨RX7, TX7, 8, rfl, by decide, in2X7, (ax_m1 42 rfl rfl)⟩
theorem lf_X9_136 : ax_F RX9 136 6 2 := ⟨RX7, TX7, 8, rfl, by decide, in2X7, (ax_m1 45 rfl rfl)⟩
theorem lf_X9_139 : ax_F RX9 139 6 3 := ⟨RX7, TX7, 8, rfl, by decide, in2X7, (ax_m1 48 rfl rfl)⟩
theorem lf_X9_142 : ax_F RX9 142 6 4 := ⟨RX7, TX7, 8, rfl, by decide, in2X7, (ax_m1 51 rfl rfl)⟩
theorem lf_X9_145 : ax_F RX9 145 6 5 := ⟨RX7, TX7, 8, rfl, by decide, in2X7, (ax_m1 54 rfl rfl)⟩
theorem lf_X9_159 : ax_F RX9 159 6 7 := ⟨RX7, TX7, 8, rfl, by decide, in2X7, (ax_m1 59 rfl rfl)⟩
theorem lf_X9_20 : ax_F RX9 20 8 1 := ⟨RX9, TX9, 12, rfl, by decide, in2X9, (ax_m2 28 rfl rfl)⟩
theorem lf_X9_221 : ax_F RX9 221 3 1 := ⟨RX4, TX4, 4, rfl, by decide, in2X4, (ax_m1 204 rfl rfl)⟩
theorem lf_X9_222 : ax_F RX9 222 3 2 := ⟨RX4, TX4, 4, rfl, by decide, in2X4, (ax_m1 206 rfl rfl)⟩
theorem lf_X9_225 : ax_F RX9 225 3 3 := ⟨RX4, TX4, 4, rfl, by decide, in2X4, (ax_m1 208 rfl rfl)⟩
theorem lf_X9_235 : ax_F RX9 235 2 3 := ⟨RX3, TX3, 5, rfl, by decide, in2X3, (ax_m1 160 rfl rfl)⟩
theorem lf_X9_239 : ax_F RX9 239 2 2 := ⟨RX3, TX3, 5, rfl, by decide, in2X3, (ax_m1 158 rfl rfl)⟩
theorem lf_X9_25 : ax_F RX9 25 8 2 := ⟨RX9, TX9, 12, rfl, by decide, in2X9, (ax_m2 29 rfl rfl)⟩
theorem lf_X9_257 : ax_F RX9 257 4 0 := ⟨RX5, TX5, 5, rfl, by decide, in2X5, (ax_m1 180 rfl rfl)⟩
theorem lf_X9_289 : ax_F RX9 289 1 1 := ⟨RX2, TX2, 7, rfl, by decide, in2X2, (ax_m1 226 rfl rfl)⟩
theorem lf_X9_29 : ax_F RX9 29 8 3 := ⟨RX9, TX9, 12, rfl, by decide, in2X9, (ax_m2 30 rfl rfl)⟩
theorem lf_X9_295 : ax_F RX9 295 1 2 := ⟨RX2, TX2, 7, rfl, by decide, in2X2, (ax_m1 228 rfl rfl)⟩
theorem lf_X9_298 : ax_F RX9 298 1 3 := ⟨RX2, TX2, 7, rfl, by decide, in2X2, (ax_m1 230 rfl rfl)⟩
theorem lf_X9_308 : ax_F RX9 308 7 0 := ⟨RX8, TX8, 3, rfl, by decide, in2X8, (ax_m2 16 rfl rfl)⟩
theorem lf_X9_333 : ax_F RX9 333 0 3 := ⟨RX0, TX0, 4, rfl, by decide, in2X0, (ax_m1 95 rfl rfl)⟩
theorem lf_X9_36 : ax_F RX9 36 8 4 := ⟨RX9, TX9, 12, rfl, by decide, in2X9, (ax_m2 31 rfl rfl)⟩
theorem lf_X9_378 : ax_F RX9 378 0 0 := ⟨RX0, TX0, 4, rfl, by decide, in2X0, (ax_m1 86 rfl rfl)⟩
theorem lf_X9_381 : ax_F RX9 381 0 1 := ⟨RX0, TX0, 4, rfl, by decide, in2X0, (ax_m1 89 rfl rfl)⟩
theorem lf_X9_43 : ax_F RX9 43 8 5 := ⟨RX9, TX9, 12, rfl, by decide, in2X9, (ax_m2 32 rfl rfl)⟩
theorem lf_X9_50 : ax_F RX9 50 8 6 := ⟨RX9, TX9, 12, rfl, by decide, in2X9, (ax_m2 33 rfl rfl)⟩
theorem lf_X9_57 : ax_F RX9 57 8 7 := ⟨RX9, TX9, 12, rfl, by decide, in2X9, (ax_m2 34 rfl rfl)⟩
theorem lf_X9_61 : ax_F RX9 61 8 8 := ⟨RX9, TX9, 12, rfl, by decide, in2X9, (ax_m2 35 rfl rfl)⟩
theorem lf_X9_65 : ax_F RX9 65 8 9 := ⟨RX9, TX9, 12, rfl, by decide, in2X9, (ax_m2 36 rfl rfl)⟩
theorem lf_X9_68 : ax_F RX9 68 8 10 := ⟨RX9, TX9, 12, rfl, by decide, in2X9, (ax_m2 37 rfl rfl)⟩
theorem lf_X9_71 : ax_F RX9 71 8 11 := ⟨RX9, TX9, 12, rfl, by decide, in2X9, (ax_m2 38 rfl rfl)⟩
theorem lf_X9_88 : ax_F RX9 88 0 2 := ⟨RX0, TX0, 4, rfl, by decide, in2X0, (ax_m1 91 rfl rfl)⟩
theorem lp_X0_21 : ax_Fp RX0 21 0 3 .int := ⟨RX0, TX0, 4, tyX0, rfl, by decide, in2X0, (ax_m1 93 rfl rfl), tyX0_ok, nmX0, rfl, by decide +kernel⟩
theorem lp_X10_101 : ax_Fp RX10 101 9 2 .int := ⟨RX10, TX10, 42, tyX10, rfl, by decide, in2X10, (ax_m4 171 rfl rfl), tyX10_ok, nmX10, rfl, by decide +kernel⟩
theorem lp_X10_104 : ax_Fp RX10 104 9 0 .int := ⟨RX10, TX10, 42, tyX10, rfl, by decide, in2X10, (ax_m4 169 rfl rfl), tyX10_ok, nmX10, rfl, by decide +kernel⟩
theorem lp_X10_111 : ax_Fp RX10 111 9 6 .int := ⟨RX10, TX10, 42, tyX10, rfl, by decide, in2X10, (ax_m4 175 rfl rfl), tyX10_ok, nmX10, rfl, by decide +kernel⟩
theorem lp_X10_192 : ax_Fp RX10 192 9 18 .boolean := ⟨RX10, TX10, 42, tyX10, rfl, by decide, in2X10, (ax_m4 187 rfl rfl), tyX10_ok, nmX10, rfl, by decide +kernel⟩
theorem lp_X10_196 : ax_Fp RX10 196 9 19 .int := ⟨RX10, TX10, 42, tyX10, rfl, by decide, in2X10, (ax_m4 188 rfl rfl), tyX10_ok, nmX10, rfl, by decide +kernel⟩
theorem lp_X10_199 : ax_Fp RX10 199 9 20 .int := ⟨RX10, TX10, 42, tyX10, rfl, by decide, in2X10, (ax_m4 189 rfl rfl), tyX10_ok, nmX10, rfl, by decide +kernel⟩
theorem lp_X10_215 : ax_Fp RX10 215 9 25 .int := ⟨RX10, TX10, 42, tyX10, rfl, by decide, in2X10, (ax_m4 194 rfl rfl), tyX10_ok, nmX10, rfl, by decide +kernel⟩
theorem lp_X10_218 : ax_Fp RX10 218 9 27 .long := ⟨RX10, TX10, 42, tyX10, rfl, by decide, in2X10, (ax_m4 196 rfl rfl), tyX10_ok, nmX10, rfl, by decide +kernel⟩
theorem lp_X10_267 : ax_Fp RX10 267 9 30 .int := ⟨RX10, TX10, 42, tyX10, rfl, by decide, in2X10, (ax_m4 199 rfl rfl), tyX10_ok, nmX10, rfl, by decide +kernel⟩
theorem lp_X10_270 : ax_Fp RX10 270 9 32 .int := ⟨RX10, TX10, 42, tyX10, rfl, by decide, in2X10, (ax_m4 201 rfl rfl), tyX10_ok, nmX10, rfl, by decide +kernel⟩
theorem lp_X10_273 : ax_Fp RX10 273 9 33 .int := ⟨RX10, TX10, 42, tyX10, rfl, by decide, in2X10, (ax_m4 202 rfl rfl), tyX10_ok, nmX10, rfl, by decide +kernel⟩
theorem lp_X10_288 : ax_Fp RX10 288 9 34 .int := ⟨RX10, TX10, 42, tyX10, rfl, by decide, in2X10, (ax_m4 203 rfl rfl), tyX10_ok, nmX10, rfl, by decide +kernel⟩
theorem lp_X10_291 : ax_Fp RX10 291 9 35 .int := ⟨RX10, TX10, 42, tyX10, rfl, by decide, in2X10, (ax_m4 204 rfl rfl), tyX10_ok, nmX10, rfl, by decide +kernel⟩
theorem lp_X10_297 : ax_Fp RX10 297 9 41 .int := ⟨RX10, TX10, 42, tyX10, rfl, by decide, in2X10, (ax_m4 210 rfl rfl), tyX10_ok, nmX10, rfl, by decide +kernel⟩
theorem lp_X10_40 : ax_Fp RX10 40 9 14 .int := ⟨RX10, TX10, 42, tyX10, rfl, by decide, in2X10, (ax_m4 183 rfl rfl), tyX10_ok, nmX10, rfl, by decide +kernel⟩
theorem lp_X10_94 : ax_Fp RX10 94 9 1 .int := ⟨RX10, TX10, 42, tyX10, rfl, by decide, in2X10, (ax_m4 170 rfl rfl), tyX10_ok, nmX10, rfl, by decide +kernel⟩
theorem lp_X2_15 : ax_Fp RX2 15 1 1 .int := ⟨RX2, TX2, 7, tyX2, rfl, by decide, in2X2, (ax_m1 225 rfl rfl), tyX2_ok, nmX2, rfl, by decide +kernel⟩
theorem lp_X2_19 : ax_Fp RX2 19 1 2 .int := ⟨RX2, TX2, 7, tyX2, rfl, by decide, in2X2, (ax_m1 227 rfl rfl), tyX2_ok, nmX2, rfl, by decide +kernel⟩
theorem lp_X2_22 : ax_Fp RX2 22 1 3 .int := ⟨RX2, TX2, 7, tyX2, rfl, by decide, in2X2, (ax_m1 229 rfl rfl), tyX2_ok, nmX2, rfl, by decide +kernel⟩
theorem lp_X2_25 : ax_Fp RX2 25 1 4 .int := ⟨RX2, TX2, 7, tyX2, rfl, by decide, in2X2, (ax_m1 231 rfl rfl), tyX2_ok, nmX2, rfl, by decide +kernel⟩
theorem lp_X2_28 : ax_Fp RX2 28 1 5 .int := ⟨RX2, TX2, 7, tyX2, rfl, by decide, in2X2, (ax_m1 232 rfl rfl), tyX2_ok, nmX2, rfl, by decide +kernel⟩
theorem lp_X2_31 : ax_Fp RX2 31 1 6 .int := ⟨RX2, TX2, 7, tyX2, rfl, by decide, in2X2, (ax_m1 233 rfl rfl), tyX2_ok, nmX2, rfl, by decide +kernel⟩
theorem lp_X3_15 : ax_Fp RX3 15 2 1 .int := ⟨RX3, TX3, 5, tyX3, rfl, by decide, in2X3, (ax_m1 156 rfl rfl), tyX3_ok, nmX3, rfl, by decide +kernel⟩
theorem lp_X3_22 : ax_Fp RX3 22 2 3 .long := ⟨RX3, TX3, 5, tyX3, rfl, by decide, in2X3, (ax_m1 159 rfl rfl), tyX3_ok, nmX3, rfl, by decide +kernel⟩
theorem lp_X3_26 : ax_Fp RX3 26 2 4 .int := ⟨RX3, TX3, 5, tyX3, rfl, by decide, in2X3, (ax_m1 161 rfl rfl), tyX3_ok, nmX3, rfl, by decide +kernel⟩
theorem lp_X4_15 : ax_Fp RX4 15 3 1 .int := ⟨RX4, TX4, 4, tyX4, rfl, by decide, in2X4, (ax_m1 203 rfl rfl), tyX4_ok, nmX4, rfl, by decide +kernel⟩
theorem lp_X4_19 : ax_Fp RX4 19 3 2 .int := ⟨RX4, TX4, 4, tyX4, rfl, by decide, in2X4, (ax_m1 205 rfl rfl), tyX4_ok, nmX4, rfl, by decide +kernel⟩
theorem lp_X4_22 : ax_Fp RX4 22 3 3 .int := ⟨RX4, TX4, 4, tyX4, rfl, by decide, in2X4, (ax_m1 207 rfl rfl), tyX4_ok, nmX4, rfl, by decide +kernel⟩
theorem lp_X5_24 : ax_Fp RX5 24 4 4 .int := ⟨RX5, TX5, 5, tyX5, rfl, by decide, in2X5, (ax_m1 184 rfl rfl), tyX5_ok, nmX5, rfl, by decide +kernel⟩
theorem lp_X6_38 : ax_Fp RX6 38 5 6 .int := ⟨RX6, TX6, 13, tyX6, rfl, by decide, in2X6, (ax_m1 115 rfl rfl), tyX6_ok, nmX6, rfl, by decide +kernel⟩
theorem lp_X7_33 : ax_Fp RX7 33 6 7 .int := ⟨RX7, TX7, 8, tyX7, rfl, by decide, in2X7, (ax_m1 57 rfl rfl), tyX7_ok, nmX7, rfl, by decide +kernel⟩
theorem lp_X9_289 : ax_Fp RX9 289 1 1 .int := ⟨RX2, TX2, 7, tyX2, rfl, by decide, in2X2, (ax_m1 226 rfl rfl), tyX2_ok, nmX2, rfl, by decide +kernel⟩
theorem lp_X9_61 : ax_Fp RX9 61 8 8 .int := ⟨RX9, TX9, 12, tyX9, rfl, by decide, in2X9, (ax_m2 35 rfl rfl), tyX9_ok, nmX9, rfl, by decide +kernel⟩
theorem lp_X9_65 : ax_Fp RX9 65 8 9 .int := ⟨RX9, TX9, 12, tyX9, rfl, by decide, in2X9, (ax_m2 36 rfl rfl), tyX9_ok, nmX9, rfl, by decide +kernel⟩
theorem lp_X9_68 : ax_Fp RX9 68 8 10 .int := ⟨RX9, TX9, 12, tyX9, rfl, by decide, in2X9, (ax_m2 37 rfl rfl), tyX9_ok, nmX9, rfl, by decide +kernel⟩
theorem lp_X9_71 : ax_Fp RX9 71 8 11 .int := ⟨RX9, TX9, 12, tyX9, rfl, by decide, in2X9, (ax_m2 38 rfl rfl), tyX9_ok, nmX9, rfl, by decide +kernel⟩
theorem kc_J13_314 : Cond.constantLong RJ13 314 (6148914691236517205) ∈ ax_tb := (ax_m3 127 rfl rfl)
theorem kc_J13_316 : Cond.constantLong RJ13 316 (3689348814741910323) ∈ ax_tb := (ax_m3 128 rfl rfl)
theorem kc_J13_318 : Cond.constantLong RJ13 318 (1085102592571150095) ∈ ax_tb := (ax_m3 129 rfl rfl)
theorem kc_J6_265 : Cond.constant RJ6 265 (1431655765) ∈ ax_tb := (ax_m3 141 rfl rfl)
theorem kc_J6_266 : Cond.constant RJ6 266 (858993459) ∈ ax_tb := (ax_m3 142 rfl rfl)
theorem kc_J6_267 : Cond.constant RJ6 267 (252645135) ∈ ax_tb := (ax_m3 143 rfl rfl)
theorem kc_X10_125 : Cond.constant RX10 125 (-200000) ∈ ax_tb := (ax_m5 93 rfl rfl)
theorem kc_X10_126 : Cond.constant RX10 126 (200000) ∈ ax_tb := (ax_m5 94 rfl rfl)
theorem kc_X10_131 : Cond.constant RX10 131 (-100000) ∈ ax_tb := (ax_m5 107 rfl rfl)
theorem kc_X10_132 : Cond.constant RX10 132 (100000) ∈ ax_tb := (ax_m5 108 rfl rfl)
theorem kc_X10_150 : Cond.constant RX10 150 (-300000) ∈ ax_tb := (ax_m5 140 rfl rfl)
theorem kc_X10_155 : Cond.constant RX10 155 (100000000) ∈ ax_tb := (ax_m5 162 rfl rfl)
theorem kc_X10_167 : Cond.constantLong RX10 167 (-1) ∈ ax_tb := (ax_m5 157 rfl rfl)
theorem kc_X10_180 : Cond.constant RX10 180 (-300001) ∈ ax_tb := (ax_m5 187 rfl rfl)
theorem kc_X10_187 : Cond.constant RX10 187 (-500000) ∈ ax_tb := (ax_m5 204 rfl rfl)
theorem kc_X10_188 : Cond.constant RX10 188 (-500001) ∈ ax_tb := (ax_m5 205 rfl rfl)
theorem kc_X10_211 : Cond.constantLong RX10 211 (-9223372036854775806) ∈ ax_tb := (ax_m6 6 rfl rfl)
theorem kc_X10_213 : Cond.constantLong RX10 213 (-9223372036854775805) ∈ ax_tb := (ax_m6 7 rfl rfl)
theorem kc_X10_235 : Cond.constantLong RX10 235 (-9223372036854775804) ∈ ax_tb := (ax_m6 27 rfl rfl)
theorem kc_X10_306 : Cond.constant RX10 306 (-2147483648) ∈ ax_tb := (ax_m6 151 rfl rfl)
theorem kc_X10_307 : Cond.constantLong RX10 307 (17) ∈ ax_tb := (ax_m6 168 rfl rfl)
theorem kc_X10_309 : Cond.constantLong RX10 309 (31) ∈ ax_tb := (ax_m6 169 rfl rfl)
theorem kc_X3_49 : Cond.constantLong RX3 49 (-1) ∈ ax_tb := (ax_m3 148 rfl rfl)
theorem kc_X4_31 : Cond.constant RX4 31 (-2147483648) ∈ ax_tb := (ax_m3 98 rfl rfl)
theorem kc_X6_109 : Cond.constant RX6 109 (-200000) ∈ ax_tb := (ax_m2 188 rfl rfl)
theorem kc_X6_110 : Cond.constant RX6 110 (200000) ∈ ax_tb := (ax_m2 192 rfl rfl)
theorem kc_X6_85 : Cond.constantLong RX6 85 (-9223372036854775808) ∈ ax_tb := (ax_m3 40 rfl rfl)
theorem kc_X6_91 : Cond.constantLong RX6 91 (1000000) ∈ ax_tb := (ax_m3 42 rfl rfl)
theorem kc_X6_93 : Cond.constant RX6 93 (1000000000) ∈ ax_tb := (ax_m2 211 rfl rfl)
theorem kc_X7_48 : Cond.constant RX7 48 (-2147483648) ∈ ax_tb := (ax_m3 97 rfl rfl)
theorem kc_X9_106 : Cond.constant RX9 106 (100000) ∈ ax_tb := (ax_m2 112 rfl rfl)
theorem kc_X9_129 : Cond.constant RX9 129 (-300000) ∈ ax_tb := (ax_m2 150 rfl rfl)
theorem kc_X9_165 : Cond.constantLong RX9 165 (-1) ∈ ax_tb := (ax_m2 179 rfl rfl)
theorem kc_X9_177 : Cond.constant RX9 177 (-300001) ∈ ax_tb := (ax_m2 232 rfl rfl)
theorem kc_X9_184 : Cond.constant RX9 184 (-500000) ∈ ax_tb := (ax_m3 9 rfl rfl)
theorem kc_X9_185 : Cond.constant RX9 185 (-500001) ∈ ax_tb := (ax_m3 10 rfl rfl)
theorem kc_X9_317 : Cond.constant RX9 317 (-2147483648) ∈ ax_tb := (ax_m4 120 rfl rfl)
theorem kc_X9_345 : Cond.constantLong RX9 345 (17) ∈ ax_tb := (ax_m4 154 rfl rfl)
theorem kc_X9_347 : Cond.constantLong RX9 347 (31) ∈ ax_tb := (ax_m4 155 rfl rfl)
theorem kc_X9_362 : Cond.constantLong RX9 362 (-9223372036854775808) ∈ ax_tb := (ax_m3 110 rfl rfl)
theorem kc_X9_371 : Cond.constant RX9 371 (-200000) ∈ ax_tb := (ax_m3 58 rfl rfl)
theorem kc_X9_95 : Cond.constant RX9 95 (200000) ∈ ax_tb := (ax_m2 99 rfl rfl)
theorem lm_X5_48 : ax_lkM RX5 48 Lib.Math.max.name Lib.Math.max.code := ⟨(ax_m3 227 rfl rfl), (ax_m3 76 rfl rfl), (ax_m1 13 rfl rfl), (ax_m3 77 rfl rfl)⟩
theorem lm_X6_100 : ax_lkM RX6 100 Lib.Math.min.name Lib.Math.min.code := ⟨(ax_m2 204 rfl rfl), (ax_m2 205 rfl rfl), (ax_m1 13 rfl rfl), (ax_m2 206 rfl rfl)⟩
theorem lm_X6_64 : ax_lkC RX6 64 := ⟨(ax_m2 197 rfl rfl), (ax_m2 199 rfl rfl), (ax_m2 198 rfl rfl), (ax_m1 12 rfl rfl)⟩
theorem lm_X8_29 : ax_lkC RX8 29 := ⟨(ax_m4 133 rfl rfl), (ax_m2 199 rfl rfl), (ax_m2 198 rfl rfl), (ax_m1 12 rfl rfl)⟩
theorem lm_X9_328 : ax_lkM RX9 328 Lib.Math.min.name Lib.Math.min.code := ⟨(ax_m3 78 rfl rfl), (ax_m2 205 rfl rfl), (ax_m1 13 rfl rfl), (ax_m2 206 rfl rfl)⟩
theorem lm_X9_387 : ax_lkM RX9 387 Lib.Math.max.name Lib.Math.max.code := ⟨(ax_m3 75 rfl rfl), (ax_m3 76 rfl rfl), (ax_m1 13 rfl rfl), (ax_m3 77 rfl rfl)⟩
end
section
theorem dX0_open_0 : ax_D cX0_open 0 (.aload_n 0) 1 1 := ⟨by decide +kernel, rfl⟩
theorem dX0_open_1 : ax_D cX0_open 1 (.getfield 21) 3 4 := ⟨by decide +kernel, rfl⟩
theorem dX0_open_4 : ax_D cX0_open 4 (.bipush 6) 2 6 := ⟨by decide +kernel, rfl⟩
theorem dX0_open_6 : ax_B cX0_open 6 (.if_icmp .lt) 9 12 := ⟨6, by decide +kernel, rfl, by decide⟩
theorem dX0_open_9 : ax_D cX0_open 9 (.bipush (-4)) 2 11 := ⟨by decide +kernel, rfl⟩
theorem dX0_open_11 : ax_D cX0_open 11 (.ireturn) 1 12 := ⟨by decide +kernel, rfl⟩
theorem dX0_open_12 : ax_D cX0_open 12 (.aload_n 0) 1 13 := ⟨by decide +kernel, rfl⟩
theorem dX0_open_13 : ax_D cX0_open 13 (.getfield 9) 3 16 := ⟨by decide +kernel, rfl⟩
theorem dX0_open_16 : ax_D cX0_open 16 (.aload_n 0) 1 17 := ⟨by decide +kernel, rfl⟩
theorem dX0_open_17 : ax_D cX0_open 17 (.getfield 21) 3 20 := ⟨by decide +kernel, rfl⟩
theorem dX0_open_20 : ax_D cX0_open 20 (.iload_n 1) 1 21 := ⟨by decide +kernel, rfl⟩
theorem dX0_open_21 : ax_D cX0_open 21 (.iastore) 1 22 := ⟨by decide +kernel, rfl⟩
theorem dX0_open_22 : ax_D cX0_open 22 (.aload_n 0) 1 23 := ⟨by decide +kernel, rfl⟩
theorem dX0_open_23 : ax_D cX0_open 23 (.getfield 15) 3 26 := ⟨by decide +kernel, rfl⟩
theorem dX0_open_26 : ax_D cX0_open 26 (.aload_n 0) 1 27 := ⟨by decide +kernel, rfl⟩
theorem dX0_open_27 : ax_D cX0_open 27 (.getfield 21) 3 30 := ⟨by decide +kernel, rfl⟩
theorem dX0_open_30 : ax_D cX0_open 30 (.iload_n 2) 1 31 := ⟨by decide +kernel, rfl⟩
theorem dX0_open_31 : ax_D cX0_open 31 (.iastore) 1 32 := ⟨by decide +kernel, rfl⟩
theorem dX0_open_32 : ax_D cX0_open 32 (.aload_n 0) 1 33 := ⟨by decide +kernel, rfl⟩
theorem dX0_open_33 : ax_D cX0_open 33 (.getfield 18) 3 36 := ⟨by decide +kernel, rfl⟩
theorem dX0_open_36 : ax_D cX0_open 36 (.aload_n 0) 1 37 := ⟨by decide +kernel, rfl⟩
theorem dX0_open_37 : ax_D cX0_open 37 (.getfield 21) 3 40 := ⟨by decide +kernel, rfl⟩
theorem dX0_open_40 : ax_D cX0_open 40 (.iconst 5) 1 41 := ⟨by decide +kernel, rfl⟩
theorem dX0_open_41 : ax_D cX0_open 41 (.iastore) 1 42 := ⟨by decide +kernel, rfl⟩
theorem dX0_open_42 : ax_D cX0_open 42 (.aload_n 0) 1 43 := ⟨by decide +kernel, rfl⟩
theorem dX0_open_43 : ax_D cX0_open 43 (.dup) 1 44 := ⟨by decide +kernel, rfl⟩
theorem dX0_open_44 : ax_D cX0_open 44 (.getfield 21) 3 47 := ⟨by decide +kernel, rfl⟩
theorem dX0_open_47 : ax_D cX0_open 47 (.iconst 1) 1 48 := ⟨by decide +kernel, rfl⟩
theorem dX0_open_48 : ax_D cX0_open 48 (.iadd) 1 49 := ⟨by decide +kernel, rfl⟩
theorem dX0_open_49 : ax_D cX0_open 49 (.putfield 21) 3 52 := ⟨by decide +kernel, rfl⟩
theorem dX0_open_52 : ax_D cX0_open 52 (.aload_n 0) 1 53 := ⟨by decide +kernel, rfl⟩
theorem dX0_open_53 : ax_D cX0_open 53 (.getfield 21) 3 56 := ⟨by decide +kernel, rfl⟩
theorem dX0_open_56 : ax_D cX0_open 56 (.iconst 1) 1 57 := ⟨by decide +kernel, rfl⟩
theorem dX0_open_57 : ax_D cX0_open 57 (.isub) 1 58 := ⟨by decide +kernel, rfl⟩
theorem dX0_open_58 : ax_D cX0_open 58 (.ireturn) 1 59 := ⟨by decide +kernel, rfl⟩
theorem dX0_trustTogether_0 : ax_D cX0_trustTogether 0 (.iconst 0) 1 1 := ⟨by decide +kernel, rfl⟩
theorem dX0_trustTogether_1 : ax_D cX0_trustTogether 1 (.istore_n 1) 1 2 := ⟨by decide +kernel, rfl⟩
theorem dX0_trustTogether_2 : ax_D cX0_trustTogether 2 (.iconst 0) 1 3 := ⟨by decide +kernel, rfl⟩
theorem dX0_trustTogether_3 : ax_D cX0_trustTogether 3 (.istore_n 2) 1 4 := ⟨by decide +kernel, rfl⟩
theorem dX0_trustTogether_4 : ax_D cX0_trustTogether 4 (.iload_n 2) 1 5 := ⟨by decide +kernel, rfl⟩
theorem dX0_trustTogether_5 : ax_D cX0_trustTogether 5 (.aload_n 0) 1 6 := ⟨by decide +kernel, rfl⟩
theorem dX0_trustTogether_6 : ax_D cX0_trustTogether 6 (.getfield 21) 3 9 := ⟨by decide +kernel, rfl⟩
theorem dX0_trustTogether_9 : ax_B cX0_trustTogether 9 (.if_icmp .ge) 12 27 := ⟨18, by decide +kernel, rfl, by decide⟩
theorem dX0_trustTogether_12 : ax_D cX0_trustTogether 12 (.iload_n 1) 1 13 := ⟨by decide +kernel, rfl⟩
theorem dX0_trustTogether_13 : ax_D cX0_trustTogether 13 (.aload_n 0) 1 14 := ⟨by decide +kernel, rfl⟩
theorem dX0_trustTogether_14 : ax_D cX0_trustTogether 14 (.getfield 18) 3 17 := ⟨by decide +kernel, rfl⟩
theorem dX0_trustTogether_17 : ax_D cX0_trustTogether 17 (.iload_n 2) 1 18 := ⟨by decide +kernel, rfl⟩
theorem dX0_trustTogether_18 : ax_D cX0_trustTogether 18 (.iaload) 1 19 := ⟨by decide +kernel, rfl⟩
theorem dX0_trustTogether_19 : ax_D cX0_trustTogether 19 (.iadd) 1 20 := ⟨by decide +kernel, rfl⟩
theorem dX0_trustTogether_20 : ax_D cX0_trustTogether 20 (.istore_n 1) 1 21 := ⟨by decide +kernel, rfl⟩
theorem dX0_trustTogether_21 : ax_D cX0_trustTogether 21 (.iinc 2 1) 3 24 := ⟨by decide +kernel, rfl⟩
theorem dX0_trustTogether_24 : ax_B cX0_trustTogether 24 (.goto) 27 4 := ⟨(-20), by decide +kernel, rfl, by decide⟩
theorem dX0_trustTogether_27 : ax_D cX0_trustTogether 27 (.iload_n 1) 1 28 := ⟨by decide +kernel, rfl⟩
theorem dX0_trustTogether_28 : ax_D cX0_trustTogether 28 (.ireturn) 1 29 := ⟨by decide +kernel, rfl⟩
theorem dX1_isOne_0 : ax_D cX1_isOne 0 (.iload_n 0) 1 1 := ⟨by decide +kernel, rfl⟩
theorem dX1_isOne_1 : ax_B cX1_isOne 1 (.ifCond .eq) 4 9 := ⟨8, by decide +kernel, rfl, by decide⟩
theorem dX1_isOne_4 : ax_D cX1_isOne 4 (.iload_n 0) 1 5 := ⟨by decide +kernel, rfl⟩
theorem dX1_isOne_5 : ax_D cX1_isOne 5 (.iconst 1) 1 6 := ⟨by decide +kernel, rfl⟩
theorem dX1_isOne_6 : ax_B cX1_isOne 6 (.if_icmp .ne) 9 13 := ⟨7, by decide +kernel, rfl, by decide⟩
theorem dX1_isOne_9 : ax_D cX1_isOne 9 (.iconst 1) 1 10 := ⟨by decide +kernel, rfl⟩
theorem dX1_isOne_10 : ax_B cX1_isOne 10 (.goto) 13 14 := ⟨4, by decide +kernel, rfl, by decide⟩
theorem dX1_isOne_13 : ax_D cX1_isOne 13 (.iconst 0) 1 14 := ⟨by decide +kernel, rfl⟩
theorem dX1_isOne_14 : ax_D cX1_isOne 14 (.ireturn) 1 15 := ⟨by decide +kernel, rfl⟩
theorem dX1_isLeap_0 : ax_D cX1_isLeap 0 (.iload_n 1) 1 1 := ⟨by decide +kernel, rfl⟩
theorem dX1_isLeap_1 : ax_D cX1_isLeap 1 (.iconst 4) 1 2 := ⟨by decide +kernel, rfl⟩
theorem dX1_isLeap_2 : ax_D cX1_isLeap 2 (.irem) 1 3 := ⟨by decide +kernel, rfl⟩
theorem dX1_isLeap_3 : ax_B cX1_isLeap 3 (.ifCond .ne) 6 29 := ⟨26, by decide +kernel, rfl, by decide⟩
theorem dX1_isLeap_6 : ax_D cX1_isLeap 6 (.iload_n 0) 1 7 := ⟨by decide +kernel, rfl⟩
theorem dX1_isLeap_7 : ax_B cX1_isLeap 7 (.ifCond .eq) 10 25 := ⟨18, by decide +kernel, rfl, by decide⟩
theorem dX1_isLeap_10 : ax_D cX1_isLeap 10 (.iload_n 1) 1 11 := ⟨by decide +kernel, rfl⟩
theorem dX1_isLeap_11 : ax_D cX1_isLeap 11 (.bipush 100) 2 13 := ⟨by decide +kernel, rfl⟩
theorem dX1_isLeap_13 : ax_D cX1_isLeap 13 (.irem) 1 14 := ⟨by decide +kernel, rfl⟩
theorem dX1_isLeap_14 : ax_B cX1_isLeap 14 (.ifCond .ne) 17 25 := ⟨11, by decide +kernel, rfl, by decide⟩
theorem dX1_isLeap_17 : ax_D cX1_isLeap 17 (.iload_n 1) 1 18 := ⟨by decide +kernel, rfl⟩
theorem dX1_isLeap_18 : ax_D cX1_isLeap 18 (.sipush 400) 3 21 := ⟨by decide +kernel, rfl⟩
theorem dX1_isLeap_21 : ax_D cX1_isLeap 21 (.irem) 1 22 := ⟨by decide +kernel, rfl⟩
theorem dX1_isLeap_22 : ax_B cX1_isLeap 22 (.ifCond .ne) 25 29 := ⟨7, by decide +kernel, rfl, by decide⟩
theorem dX1_isLeap_25 : ax_D cX1_isLeap 25 (.iconst 1) 1 26 := ⟨by decide +kernel, rfl⟩
theorem dX1_isLeap_26 : ax_B cX1_isLeap 26 (.goto) 29 30 := ⟨4, by decide +kernel, rfl, by decide⟩
theorem dX1_isLeap_29 : ax_D cX1_isLeap 29 (.iconst 0) 1 30 := ⟨by decide +kernel, rfl⟩
theorem dX1_isLeap_30 : ax_D cX1_isLeap 30 (.ireturn) 1 31 := ⟨by decide +kernel, rfl⟩
theorem dX1_isDate_0 : ax_D cX1_isDate 0 (.iload_n 3) 1 1 := ⟨by decide +kernel, rfl⟩
theorem dX1_isDate_1 : ax_D cX1_isDate 1 (.iconst 1) 1 2 := ⟨by decide +kernel, rfl⟩
theorem dX1_isDate_2 : ax_B cX1_isDate 2 (.if_icmp .lt) 5 23 := ⟨21, by decide +kernel, rfl, by decide⟩
theorem dX1_isDate_5 : ax_D cX1_isDate 5 (.iload_n 3) 1 6 := ⟨by decide +kernel, rfl⟩
theorem dX1_isDate_6 : ax_D cX1_isDate 6 (.sipush 600) 3 9 := ⟨by decide +kernel, rfl⟩
theorem dX1_isDate_9 : ax_B cX1_isDate 9 (.if_icmp .gt) 12 23 := ⟨14, by decide +kernel, rfl, by decide⟩
theorem dX1_isDate_12 : ax_D cX1_isDate 12 (.iload_n 2) 1 13 := ⟨by decide +kernel, rfl⟩
theorem dX1_isDate_13 : ax_D cX1_isDate 13 (.iconst 1) 1 14 := ⟨by decide +kernel, rfl⟩
theorem dX1_isDate_14 : ax_B cX1_isDate 14 (.if_icmp .lt) 17 23 := ⟨9, by decide +kernel, rfl, by decide⟩
theorem dX1_isDate_17 : ax_D cX1_isDate 17 (.iload_n 2) 1 18 := ⟨by decide +kernel, rfl⟩
theorem dX1_isDate_18 : ax_D cX1_isDate 18 (.bipush 12) 2 20 := ⟨by decide +kernel, rfl⟩
theorem dX1_isDate_20 : ax_B cX1_isDate 20 (.if_icmp .le) 23 25 := ⟨5, by decide +kernel, rfl, by decide⟩
theorem dX1_isDate_23 : ax_D cX1_isDate 23 (.iconst 0) 1 24 := ⟨by decide +kernel, rfl⟩
theorem dX1_isDate_24 : ax_D cX1_isDate 24 (.ireturn) 1 25 := ⟨by decide +kernel, rfl⟩
theorem dX1_isDate_25 : ax_D cX1_isDate 25 (.iload_n 2) 1 26 := ⟨by decide +kernel, rfl⟩
theorem dX1_isDate_26 : ax_D cX1_isDate 26 (.iconst 2) 1 27 := ⟨by decide +kernel, rfl⟩
theorem dX1_isDate_27 : ax_B cX1_isDate 27 (.if_icmp .ne) 30 42 := ⟨15, by decide +kernel, rfl, by decide⟩
theorem dX1_isDate_30 : ax_D cX1_isDate 30 (.iload_n 0) 1 31 := ⟨by decide +kernel, rfl⟩
theorem dX1_isDate_31 : ax_D cX1_isDate 31 (.iload_n 3) 1 32 := ⟨by decide +kernel, rfl⟩
theorem dX1_isDate_32 : ax_D cX1_isDate 32 (.invokestatic 9) 3 35 := ⟨by decide +kernel, rfl⟩
theorem dX1_isDate_35 : ax_B cX1_isDate 35 (.ifCond .eq) 38 42 := ⟨7, by decide +kernel, rfl, by decide⟩
theorem dX1_isDate_38 : ax_D cX1_isDate 38 (.iconst 1) 1 39 := ⟨by decide +kernel, rfl⟩
theorem dX1_isDate_39 : ax_B cX1_isDate 39 (.goto) 42 43 := ⟨4, by decide +kernel, rfl, by decide⟩
theorem dX1_isDate_42 : ax_D cX1_isDate 42 (.iconst 0) 1 43 := ⟨by decide +kernel, rfl⟩
theorem dX1_isDate_43 : ax_D cX1_isDate 43 (.istore 4) 2 45 := ⟨by decide +kernel, rfl⟩
theorem dX1_isDate_45 : ax_D cX1_isDate 45 (.iload_n 1) 1 46 := ⟨by decide +kernel, rfl⟩
theorem dX1_isDate_46 : ax_D cX1_isDate 46 (.iconst 1) 1 47 := ⟨by decide +kernel, rfl⟩
theorem dX1_isDate_47 : ax_B cX1_isDate 47 (.if_icmp .lt) 50 68 := ⟨21, by decide +kernel, rfl, by decide⟩
theorem dX1_isDate_50 : ax_D cX1_isDate 50 (.iload_n 1) 1 51 := ⟨by decide +kernel, rfl⟩
theorem dX1_isDate_51 : ax_D cX1_isDate 51 (.getstatic 13) 3 54 := ⟨by decide +kernel, rfl⟩
theorem dX1_isDate_54 : ax_D cX1_isDate 54 (.iload_n 2) 1 55 := ⟨by decide +kernel, rfl⟩
theorem dX1_isDate_55 : ax_D cX1_isDate 55 (.iconst 1) 1 56 := ⟨by decide +kernel, rfl⟩
theorem dX1_isDate_56 : ax_D cX1_isDate 56 (.isub) 1 57 := ⟨by decide +kernel, rfl⟩
theorem dX1_isDate_57 : ax_D cX1_isDate 57 (.iaload) 1 58 := ⟨by decide +kernel, rfl⟩
theorem dX1_isDate_58 : ax_D cX1_isDate 58 (.iload 4) 2 60 := ⟨by decide +kernel, rfl⟩
theorem dX1_isDate_60 : ax_D cX1_isDate 60 (.iadd) 1 61 := ⟨by decide +kernel, rfl⟩
theorem dX1_isDate_61 : ax_B cX1_isDate 61 (.if_icmp .gt) 64 68 := ⟨7, by decide +kernel, rfl, by decide⟩
theorem dX1_isDate_64 : ax_D cX1_isDate 64 (.iconst 1) 1 65 := ⟨by decide +kernel, rfl⟩
theorem dX1_isDate_65 : ax_B cX1_isDate 65 (.goto) 68 69 := ⟨4, by decide +kernel, rfl, by decide⟩
theorem dX1_isDate_68 : ax_D cX1_isDate 68 (.iconst 0) 1 69 := ⟨by decide +kernel, rfl⟩
theorem dX1_isDate_69 : ax_D cX1_isDate 69 (.ireturn) 1 70 := ⟨by decide +kernel, rfl⟩
theorem dX1_leapsUpTo_0 : ax_D cX1_leapsUpTo 0 (.iload_n 0) 1 1 := ⟨by decide +kernel, rfl⟩
theorem dX1_leapsUpTo_1 : ax_B cX1_leapsUpTo 1 (.ifCond .ne) 4 10 := ⟨9, by decide +kernel, rfl, by decide⟩
theorem dX1_leapsUpTo_4 : ax_D cX1_leapsUpTo 4 (.iload_n 1) 1 5 := ⟨by decide +kernel, rfl⟩
theorem dX1_leapsUpTo_5 : ax_D cX1_leapsUpTo 5 (.iconst 4) 1 6 := ⟨by decide +kernel, rfl⟩
theorem dX1_leapsUpTo_6 : ax_D cX1_leapsUpTo 6 (.idiv) 1 7 := ⟨by decide +kernel, rfl⟩
theorem dX1_leapsUpTo_7 : ax_B cX1_leapsUpTo 7 (.goto) 10 24 := ⟨17, by decide +kernel, rfl, by decide⟩
theorem dX1_leapsUpTo_10 : ax_D cX1_leapsUpTo 10 (.iload_n 1) 1 11 := ⟨by decide +kernel, rfl⟩
theorem dX1_leapsUpTo_11 : ax_D cX1_leapsUpTo 11 (.iconst 4) 1 12 := ⟨by decide +kernel, rfl⟩
theorem dX1_leapsUpTo_12 : ax_D cX1_leapsUpTo 12 (.idiv) 1 13 := ⟨by decide +kernel, rfl⟩
theorem dX1_leapsUpTo_13 : ax_D cX1_leapsUpTo 13 (.iload_n 1) 1 14 := ⟨by decide +kernel, rfl⟩
theorem dX1_leapsUpTo_14 : ax_D cX1_leapsUpTo 14 (.bipush 100) 2 16 := ⟨by decide +kernel, rfl⟩
theorem dX1_leapsUpTo_16 : ax_D cX1_leapsUpTo 16 (.idiv) 1 17 := ⟨by decide +kernel, rfl⟩
theorem dX1_leapsUpTo_17 : ax_D cX1_leapsUpTo 17 (.isub) 1 18 := ⟨by decide +kernel, rfl⟩
theorem dX1_leapsUpTo_18 : ax_D cX1_leapsUpTo 18 (.iload_n 1) 1 19 := ⟨by decide +kernel, rfl⟩
theorem dX1_leapsUpTo_19 : ax_D cX1_leapsUpTo 19 (.sipush 400) 3 22 := ⟨by decide +kernel, rfl⟩
theorem dX1_leapsUpTo_22 : ax_D cX1_leapsUpTo 22 (.idiv) 1 23 := ⟨by decide +kernel, rfl⟩
theorem dX1_leapsUpTo_23 : ax_D cX1_leapsUpTo 23 (.iadd) 1 24 := ⟨by decide +kernel, rfl⟩
theorem dX1_leapsUpTo_24 : ax_D cX1_leapsUpTo 24 (.ireturn) 1 25 := ⟨by decide +kernel, rfl⟩
theorem dX1_dayNumber_0 : ax_D cX1_dayNumber 0 (.iload_n 2) 1 1 := ⟨by decide +kernel, rfl⟩
theorem dX1_dayNumber_1 : ax_D cX1_dayNumber 1 (.iconst 2) 1 2 := ⟨by decide +kernel, rfl⟩
theorem dX1_dayNumber_2 : ax_B cX1_dayNumber 2 (.if_icmp .le) 5 17 := ⟨15, by decide +kernel, rfl, by decide⟩
theorem dX1_dayNumber_5 : ax_D cX1_dayNumber 5 (.iload_n 0) 1 6 := ⟨by decide +kernel, rfl⟩
theorem dX1_dayNumber_6 : ax_D cX1_dayNumber 6 (.iload_n 3) 1 7 := ⟨by decide +kernel, rfl⟩
theorem dX1_dayNumber_7 : ax_D cX1_dayNumber 7 (.invokestatic 9) 3 10 := ⟨by decide +kernel, rfl⟩
theorem dX1_dayNumber_10 : ax_B cX1_dayNumber 10 (.ifCond .eq) 13 17 := ⟨7, by decide +kernel, rfl, by decide⟩
theorem dX1_dayNumber_13 : ax_D cX1_dayNumber 13 (.iconst 1) 1 14 := ⟨by decide +kernel, rfl⟩
theorem dX1_dayNumber_14 : ax_B cX1_dayNumber 14 (.goto) 17 18 := ⟨4, by decide +kernel, rfl, by decide⟩
theorem dX1_dayNumber_17 : ax_D cX1_dayNumber 17 (.iconst 0) 1 18 := ⟨by decide +kernel, rfl⟩
theorem dX1_dayNumber_18 : ax_D cX1_dayNumber 18 (.istore 4) 2 20 := ⟨by decide +kernel, rfl⟩
theorem dX1_dayNumber_20 : ax_D cX1_dayNumber 20 (.getstatic 17) 3 23 := ⟨by decide +kernel, rfl⟩
theorem dX1_dayNumber_23 : ax_D cX1_dayNumber 23 (.iload_n 0) 1 24 := ⟨by decide +kernel, rfl⟩
theorem dX1_dayNumber_24 : ax_D cX1_dayNumber 24 (.iaload) 1 25 := ⟨by decide +kernel, rfl⟩
theorem dX1_dayNumber_25 : ax_D cX1_dayNumber 25 (.sipush 365) 3 28 := ⟨by decide +kernel, rfl⟩
theorem dX1_dayNumber_28 : ax_D cX1_dayNumber 28 (.iload_n 3) 1 29 := ⟨by decide +kernel, rfl⟩
theorem dX1_dayNumber_29 : ax_D cX1_dayNumber 29 (.iconst 1) 1 30 := ⟨by decide +kernel, rfl⟩
theorem dX1_dayNumber_30 : ax_D cX1_dayNumber 30 (.isub) 1 31 := ⟨by decide +kernel, rfl⟩
theorem dX1_dayNumber_31 : ax_D cX1_dayNumber 31 (.imul) 1 32 := ⟨by decide +kernel, rfl⟩
theorem dX1_dayNumber_32 : ax_D cX1_dayNumber 32 (.iadd) 1 33 := ⟨by decide +kernel, rfl⟩
theorem dX1_dayNumber_33 : ax_D cX1_dayNumber 33 (.iload_n 0) 1 34 := ⟨by decide +kernel, rfl⟩
theorem dX1_dayNumber_34 : ax_D cX1_dayNumber 34 (.iload_n 3) 1 35 := ⟨by decide +kernel, rfl⟩
theorem dX1_dayNumber_35 : ax_D cX1_dayNumber 35 (.iconst 1) 1 36 := ⟨by decide +kernel, rfl⟩
theorem dX1_dayNumber_36 : ax_D cX1_dayNumber 36 (.isub) 1 37 := ⟨by decide +kernel, rfl⟩
theorem dX1_dayNumber_37 : ax_D cX1_dayNumber 37 (.invokestatic 20) 3 40 := ⟨by decide +kernel, rfl⟩
theorem dX1_dayNumber_40 : ax_D cX1_dayNumber 40 (.iadd) 1 41 := ⟨by decide +kernel, rfl⟩
theorem dX1_dayNumber_41 : ax_D cX1_dayNumber 41 (.getstatic 24) 3 44 := ⟨by decide +kernel, rfl⟩
theorem dX1_dayNumber_44 : ax_D cX1_dayNumber 44 (.iload_n 2) 1 45 := ⟨by decide +kernel, rfl⟩
theorem dX1_dayNumber_45 : ax_D cX1_dayNumber 45 (.iconst 1) 1 46 := ⟨by decide +kernel, rfl⟩
theorem dX1_dayNumber_46 : ax_D cX1_dayNumber 46 (.isub) 1 47 := ⟨by decide +kernel, rfl⟩
theorem dX1_dayNumber_47 : ax_D cX1_dayNumber 47 (.iaload) 1 48 := ⟨by decide +kernel, rfl⟩
theorem dX1_dayNumber_48 : ax_D cX1_dayNumber 48 (.iadd) 1 49 := ⟨by decide +kernel, rfl⟩
theorem dX1_dayNumber_49 : ax_D cX1_dayNumber 49 (.iload 4) 2 51 := ⟨by decide +kernel, rfl⟩
theorem dX1_dayNumber_51 : ax_D cX1_dayNumber 51 (.iadd) 1 52 := ⟨by decide +kernel, rfl⟩
theorem dX1_dayNumber_52 : ax_D cX1_dayNumber 52 (.iload_n 1) 1 53 := ⟨by decide +kernel, rfl⟩
theorem dX1_dayNumber_53 : ax_D cX1_dayNumber 53 (.iadd) 1 54 := ⟨by decide +kernel, rfl⟩
theorem dX1_dayNumber_54 : ax_D cX1_dayNumber 54 (.iconst 1) 1 55 := ⟨by decide +kernel, rfl⟩
theorem dX1_dayNumber_55 : ax_D cX1_dayNumber 55 (.isub) 1 56 := ⟨by decide +kernel, rfl⟩
theorem dX1_dayNumber_56 : ax_D cX1_dayNumber 56 (.ireturn) 1 57 := ⟨by decide +kernel, rfl⟩
theorem dX1_hasDay_0 : ax_D cX1_hasDay 0 (.iload_n 1) 1 1 := ⟨by decide +kernel, rfl⟩
theorem dX1_hasDay_1 : ax_D cX1_hasDay 1 (.getstatic 17) 3 4 := ⟨by decide +kernel, rfl⟩
theorem dX1_hasDay_4 : ax_D cX1_hasDay 4 (.iload_n 0) 1 5 := ⟨by decide +kernel, rfl⟩
theorem dX1_hasDay_5 : ax_D cX1_hasDay 5 (.iaload) 1 6 := ⟨by decide +kernel, rfl⟩
theorem dX1_hasDay_6 : ax_B cX1_hasDay 6 (.if_icmp .lt) 9 28 := ⟨22, by decide +kernel, rfl, by decide⟩
theorem dX1_hasDay_9 : ax_D cX1_hasDay 9 (.iload_n 1) 1 10 := ⟨by decide +kernel, rfl⟩
theorem dX1_hasDay_10 : ax_D cX1_hasDay 10 (.iload_n 0) 1 11 := ⟨by decide +kernel, rfl⟩
theorem dX1_hasDay_11 : ax_D cX1_hasDay 11 (.bipush 31) 2 13 := ⟨by decide +kernel, rfl⟩
theorem dX1_hasDay_13 : ax_D cX1_hasDay 13 (.bipush 12) 2 15 := ⟨by decide +kernel, rfl⟩
theorem dX1_hasDay_15 : ax_D cX1_hasDay 15 (.sipush 600) 3 18 := ⟨by decide +kernel, rfl⟩
theorem dX1_hasDay_18 : ax_D cX1_hasDay 18 (.invokestatic 27) 3 21 := ⟨by decide +kernel, rfl⟩
theorem dX1_hasDay_21 : ax_B cX1_hasDay 21 (.if_icmp .gt) 24 28 := ⟨7, by decide +kernel, rfl, by decide⟩
theorem dX1_hasDay_24 : ax_D cX1_hasDay 24 (.iconst 1) 1 25 := ⟨by decide +kernel, rfl⟩
theorem dX1_hasDay_25 : ax_B cX1_hasDay 25 (.goto) 28 29 := ⟨4, by decide +kernel, rfl, by decide⟩
theorem dX1_hasDay_28 : ax_D cX1_hasDay 28 (.iconst 0) 1 29 := ⟨by decide +kernel, rfl⟩
theorem dX1_hasDay_29 : ax_D cX1_hasDay 29 (.ireturn) 1 30 := ⟨by decide +kernel, rfl⟩
theorem dX1_yearWith_0 : ax_D cX1_yearWith 0 (.iload_n 1) 1 1 := ⟨by decide +kernel, rfl⟩
theorem dX1_yearWith_1 : ax_D cX1_yearWith 1 (.getstatic 17) 3 4 := ⟨by decide +kernel, rfl⟩
theorem dX1_yearWith_4 : ax_D cX1_yearWith 4 (.iload_n 0) 1 5 := ⟨by decide +kernel, rfl⟩
theorem dX1_yearWith_5 : ax_D cX1_yearWith 5 (.iaload) 1 6 := ⟨by decide +kernel, rfl⟩
theorem dX1_yearWith_6 : ax_D cX1_yearWith 6 (.isub) 1 7 := ⟨by decide +kernel, rfl⟩
theorem dX1_yearWith_7 : ax_D cX1_yearWith 7 (.sipush 366) 3 10 := ⟨by decide +kernel, rfl⟩
theorem dX1_yearWith_10 : ax_D cX1_yearWith 10 (.idiv) 1 11 := ⟨by decide +kernel, rfl⟩
theorem dX1_yearWith_11 : ax_D cX1_yearWith 11 (.iconst 1) 1 12 := ⟨by decide +kernel, rfl⟩
theorem dX1_yearWith_12 : ax_D cX1_yearWith 12 (.iadd) 1 13 := ⟨by decide +kernel, rfl⟩
theorem dX1_yearWith_13 : ax_D cX1_yearWith 13 (.istore_n 2) 1 14 := ⟨by decide +kernel, rfl⟩
theorem dX1_yearWith_14 : ax_D cX1_yearWith 14 (.iload_n 2) 1 15 := ⟨by decide +kernel, rfl⟩
theorem dX1_yearWith_15 : ax_D cX1_yearWith 15 (.sipush 600) 3 18 := ⟨by decide +kernel, rfl⟩
theorem dX1_yearWith_18 : ax_B cX1_yearWith 18 (.if_icmp .ge) 21 40 := ⟨22, by decide +kernel, rfl, by decide⟩
theorem dX1_yearWith_21 : ax_D cX1_yearWith 21 (.iload_n 0) 1 22 := ⟨by decide +kernel, rfl⟩
theorem dX1_yearWith_22 : ax_D cX1_yearWith 22 (.iconst 1) 1 23 := ⟨by decide +kernel, rfl⟩
theorem dX1_yearWith_23 : ax_D cX1_yearWith 23 (.iconst 1) 1 24 := ⟨by decide +kernel, rfl⟩
theorem dX1_yearWith_24 : ax_D cX1_yearWith 24 (.iload_n 2) 1 25 := ⟨by decide +kernel, rfl⟩
theorem dX1_yearWith_25 : ax_D cX1_yearWith 25 (.iconst 1) 1 26 := ⟨by decide +kernel, rfl⟩
theorem dX1_yearWith_26 : ax_D cX1_yearWith 26 (.iadd) 1 27 := ⟨by decide +kernel, rfl⟩
theorem dX1_yearWith_27 : ax_D cX1_yearWith 27 (.invokestatic 27) 3 30 := ⟨by decide +kernel, rfl⟩
theorem dX1_yearWith_30 : ax_D cX1_yearWith 30 (.iload_n 1) 1 31 := ⟨by decide +kernel, rfl⟩
theorem dX1_yearWith_31 : ax_B cX1_yearWith 31 (.if_icmp .gt) 34 40 := ⟨9, by decide +kernel, rfl, by decide⟩
theorem dX1_yearWith_34 : ax_D cX1_yearWith 34 (.iinc 2 1) 3 37 := ⟨by decide +kernel, rfl⟩
theorem dX1_yearWith_37 : ax_B cX1_yearWith 37 (.goto) 40 14 := ⟨(-23), by decide +kernel, rfl, by decide⟩
theorem dX1_yearWith_40 : ax_D cX1_yearWith 40 (.iload_n 2) 1 41 := ⟨by decide +kernel, rfl⟩
theorem dX1_yearWith_41 : ax_D cX1_yearWith 41 (.ireturn) 1 42 := ⟨by decide +kernel, rfl⟩
theorem dX1_monthWith_0 : ax_D cX1_monthWith 0 (.iconst 1) 1 1 := ⟨by decide +kernel, rfl⟩
theorem dX1_monthWith_1 : ax_D cX1_monthWith 1 (.istore_n 3) 1 2 := ⟨by decide +kernel, rfl⟩
theorem dX1_monthWith_2 : ax_D cX1_monthWith 2 (.iload_n 3) 1 3 := ⟨by decide +kernel, rfl⟩
theorem dX1_monthWith_3 : ax_D cX1_monthWith 3 (.bipush 12) 2 5 := ⟨by decide +kernel, rfl⟩
theorem dX1_monthWith_5 : ax_B cX1_monthWith 5 (.if_icmp .ge) 8 27 := ⟨22, by decide +kernel, rfl, by decide⟩
theorem dX1_monthWith_8 : ax_D cX1_monthWith 8 (.iload_n 0) 1 9 := ⟨by decide +kernel, rfl⟩
theorem dX1_monthWith_9 : ax_D cX1_monthWith 9 (.iconst 1) 1 10 := ⟨by decide +kernel, rfl⟩
theorem dX1_monthWith_10 : ax_D cX1_monthWith 10 (.iload_n 3) 1 11 := ⟨by decide +kernel, rfl⟩
theorem dX1_monthWith_11 : ax_D cX1_monthWith 11 (.iconst 1) 1 12 := ⟨by decide +kernel, rfl⟩
theorem dX1_monthWith_12 : ax_D cX1_monthWith 12 (.iadd) 1 13 := ⟨by decide +kernel, rfl⟩
theorem dX1_monthWith_13 : ax_D cX1_monthWith 13 (.iload_n 2) 1 14 := ⟨by decide +kernel, rfl⟩
theorem dX1_monthWith_14 : ax_D cX1_monthWith 14 (.invokestatic 27) 3 17 := ⟨by decide +kernel, rfl⟩
theorem dX1_monthWith_17 : ax_D cX1_monthWith 17 (.iload_n 1) 1 18 := ⟨by decide +kernel, rfl⟩
theorem dX1_monthWith_18 : ax_B cX1_monthWith 18 (.if_icmp .gt) 21 27 := ⟨9, by decide +kernel, rfl, by decide⟩
theorem dX1_monthWith_21 : ax_D cX1_monthWith 21 (.iinc 3 1) 3 24 := ⟨by decide +kernel, rfl⟩
theorem dX1_monthWith_24 : ax_B cX1_monthWith 24 (.goto) 27 2 := ⟨(-22), by decide +kernel, rfl, by decide⟩
theorem dX1_monthWith_27 : ax_D cX1_monthWith 27 (.iload_n 3) 1 28 := ⟨by decide +kernel, rfl⟩
theorem dX1_monthWith_28 : ax_D cX1_monthWith 28 (.ireturn) 1 29 := ⟨by decide +kernel, rfl⟩
theorem dX2_append_0 : ax_D cX2_append 0 (.aload_n 0) 1 1 := ⟨by decide +kernel, rfl⟩
theorem dX2_append_1 : ax_D cX2_append 1 (.getfield 15) 3 4 := ⟨by decide +kernel, rfl⟩
theorem dX2_append_4 : ax_D cX2_append 4 (.bipush 40) 2 6 := ⟨by decide +kernel, rfl⟩
theorem dX2_append_6 : ax_B cX2_append 6 (.if_icmp .lt) 9 12 := ⟨6, by decide +kernel, rfl, by decide⟩
theorem dX2_append_9 : ax_D cX2_append 9 (.bipush (-4)) 2 11 := ⟨by decide +kernel, rfl⟩
theorem dX2_append_11 : ax_D cX2_append 11 (.ireturn) 1 12 := ⟨by decide +kernel, rfl⟩
theorem dX2_append_12 : ax_D cX2_append 12 (.aload_n 0) 1 13 := ⟨by decide +kernel, rfl⟩
theorem dX2_append_13 : ax_D cX2_append 13 (.getfield 9) 3 16 := ⟨by decide +kernel, rfl⟩
theorem dX2_append_16 : ax_D cX2_append 16 (.aload_n 0) 1 17 := ⟨by decide +kernel, rfl⟩
theorem dX2_append_17 : ax_D cX2_append 17 (.getfield 15) 3 20 := ⟨by decide +kernel, rfl⟩
theorem dX2_append_20 : ax_D cX2_append 20 (.iload_n 1) 1 21 := ⟨by decide +kernel, rfl⟩
theorem dX2_append_21 : ax_D cX2_append 21 (.iastore) 1 22 := ⟨by decide +kernel, rfl⟩
theorem dX2_append_22 : ax_D cX2_append 22 (.aload_n 0) 1 23 := ⟨by decide +kernel, rfl⟩
theorem dX2_append_23 : ax_D cX2_append 23 (.dup) 1 24 := ⟨by decide +kernel, rfl⟩
theorem dX2_append_24 : ax_D cX2_append 24 (.getfield 15) 3 27 := ⟨by decide +kernel, rfl⟩
theorem dX2_append_27 : ax_D cX2_append 27 (.iconst 1) 1 28 := ⟨by decide +kernel, rfl⟩
theorem dX2_append_28 : ax_D cX2_append 28 (.iadd) 1 29 := ⟨by decide +kernel, rfl⟩
theorem dX2_append_29 : ax_D cX2_append 29 (.putfield 15) 3 32 := ⟨by decide +kernel, rfl⟩
theorem dX2_append_32 : ax_D cX2_append 32 (.aload_n 0) 1 33 := ⟨by decide +kernel, rfl⟩
theorem dX2_append_33 : ax_D cX2_append 33 (.getfield 15) 3 36 := ⟨by decide +kernel, rfl⟩
theorem dX2_append_36 : ax_D cX2_append 36 (.ireturn) 1 37 := ⟨by decide +kernel, rfl⟩
theorem dX2_signHere_0 : ax_D cX2_signHere 0 (.aload_n 0) 1 1 := ⟨by decide +kernel, rfl⟩
theorem dX2_signHere_1 : ax_D cX2_signHere 1 (.getfield 25) 3 4 := ⟨by decide +kernel, rfl⟩
theorem dX2_signHere_4 : ax_D cX2_signHere 4 (.aload_n 0) 1 5 := ⟨by decide +kernel, rfl⟩
theorem dX2_signHere_5 : ax_D cX2_signHere 5 (.getfield 15) 3 8 := ⟨by decide +kernel, rfl⟩
theorem dX2_signHere_8 : ax_B cX2_signHere 8 (.if_icmp .ge) 11 23 := ⟨15, by decide +kernel, rfl, by decide⟩
theorem dX2_signHere_11 : ax_D cX2_signHere 11 (.aload_n 0) 1 12 := ⟨by decide +kernel, rfl⟩
theorem dX2_signHere_12 : ax_D cX2_signHere 12 (.getfield 9) 3 15 := ⟨by decide +kernel, rfl⟩
theorem dX2_signHere_15 : ax_D cX2_signHere 15 (.aload_n 0) 1 16 := ⟨by decide +kernel, rfl⟩
theorem dX2_signHere_16 : ax_D cX2_signHere 16 (.getfield 25) 3 19 := ⟨by decide +kernel, rfl⟩
theorem dX2_signHere_19 : ax_D cX2_signHere 19 (.iaload) 1 20 := ⟨by decide +kernel, rfl⟩
theorem dX2_signHere_20 : ax_B cX2_signHere 20 (.goto) 23 24 := ⟨4, by decide +kernel, rfl, by decide⟩
theorem dX2_signHere_23 : ax_D cX2_signHere 23 (.iconst (-1)) 1 24 := ⟨by decide +kernel, rfl⟩
theorem dX2_signHere_24 : ax_D cX2_signHere 24 (.ireturn) 1 25 := ⟨by decide +kernel, rfl⟩
theorem dX2_isFigure_0 : ax_D cX2_isFigure 0 (.iload_n 0) 1 1 := ⟨by decide +kernel, rfl⟩
theorem dX2_isFigure_1 : ax_D cX2_isFigure 1 (.bipush 48) 2 3 := ⟨by decide +kernel, rfl⟩
theorem dX2_isFigure_3 : ax_B cX2_isFigure 3 (.if_icmp .lt) 6 16 := ⟨13, by decide +kernel, rfl, by decide⟩
theorem dX2_isFigure_6 : ax_D cX2_isFigure 6 (.iload_n 0) 1 7 := ⟨by decide +kernel, rfl⟩
theorem dX2_isFigure_7 : ax_D cX2_isFigure 7 (.bipush 57) 2 9 := ⟨by decide +kernel, rfl⟩
theorem dX2_isFigure_9 : ax_B cX2_isFigure 9 (.if_icmp .gt) 12 16 := ⟨7, by decide +kernel, rfl, by decide⟩
theorem dX2_isFigure_12 : ax_D cX2_isFigure 12 (.iconst 1) 1 13 := ⟨by decide +kernel, rfl⟩
theorem dX2_isFigure_13 : ax_B cX2_isFigure 13 (.goto) 16 17 := ⟨4, by decide +kernel, rfl, by decide⟩
theorem dX2_isFigure_16 : ax_D cX2_isFigure 16 (.iconst 0) 1 17 := ⟨by decide +kernel, rfl⟩
theorem dX2_isFigure_17 : ax_D cX2_isFigure 17 (.ireturn) 1 18 := ⟨by decide +kernel, rfl⟩
theorem dX2_readNumber_0 : ax_D cX2_readNumber 0 (.aload_n 0) 1 1 := ⟨by decide +kernel, rfl⟩
theorem dX2_readNumber_1 : ax_D cX2_readNumber 1 (.getfield 25) 3 4 := ⟨by decide +kernel, rfl⟩
theorem dX2_readNumber_4 : ax_D cX2_readNumber 4 (.istore_n 3) 1 5 := ⟨by decide +kernel, rfl⟩
theorem dX2_readNumber_5 : ax_D cX2_readNumber 5 (.aload_n 0) 1 6 := ⟨by decide +kernel, rfl⟩
theorem dX2_readNumber_6 : ax_D cX2_readNumber 6 (.iconst 0) 1 7 := ⟨by decide +kernel, rfl⟩
theorem dX2_readNumber_7 : ax_D cX2_readNumber 7 (.putfield 28) 3 10 := ⟨by decide +kernel, rfl⟩
theorem dX2_readNumber_10 : ax_D cX2_readNumber 10 (.iconst 0) 1 11 := ⟨by decide +kernel, rfl⟩
theorem dX2_readNumber_11 : ax_D cX2_readNumber 11 (.istore 4) 2 13 := ⟨by decide +kernel, rfl⟩
theorem dX2_readNumber_13 : ax_D cX2_readNumber 13 (.iload 4) 2 15 := ⟨by decide +kernel, rfl⟩
theorem dX2_readNumber_15 : ax_D cX2_readNumber 15 (.iload_n 1) 1 16 := ⟨by decide +kernel, rfl⟩
theorem dX2_readNumber_16 : ax_B cX2_readNumber 16 (.if_icmp .ge) 19 64 := ⟨48, by decide +kernel, rfl, by decide⟩
theorem dX2_readNumber_19 : ax_D cX2_readNumber 19 (.aload_n 0) 1 20 := ⟨by decide +kernel, rfl⟩
theorem dX2_readNumber_20 : ax_D cX2_readNumber 20 (.invokevirtual 38) 3 23 := ⟨by decide +kernel, rfl⟩
theorem dX2_readNumber_23 : ax_D cX2_readNumber 23 (.invokestatic 68) 3 26 := ⟨by decide +kernel, rfl⟩
theorem dX2_readNumber_26 : ax_B cX2_readNumber 26 (.ifCond .eq) 29 64 := ⟨38, by decide +kernel, rfl, by decide⟩
theorem dX2_readNumber_29 : ax_D cX2_readNumber 29 (.aload_n 0) 1 30 := ⟨by decide +kernel, rfl⟩
theorem dX2_readNumber_30 : ax_D cX2_readNumber 30 (.bipush 10) 2 32 := ⟨by decide +kernel, rfl⟩
theorem dX2_readNumber_32 : ax_D cX2_readNumber 32 (.aload_n 0) 1 33 := ⟨by decide +kernel, rfl⟩
theorem dX2_readNumber_33 : ax_D cX2_readNumber 33 (.getfield 28) 3 36 := ⟨by decide +kernel, rfl⟩
theorem dX2_readNumber_36 : ax_D cX2_readNumber 36 (.imul) 1 37 := ⟨by decide +kernel, rfl⟩
theorem dX2_readNumber_37 : ax_D cX2_readNumber 37 (.aload_n 0) 1 38 := ⟨by decide +kernel, rfl⟩
theorem dX2_readNumber_38 : ax_D cX2_readNumber 38 (.invokevirtual 38) 3 41 := ⟨by decide +kernel, rfl⟩
theorem dX2_readNumber_41 : ax_D cX2_readNumber 41 (.iadd) 1 42 := ⟨by decide +kernel, rfl⟩
theorem dX2_readNumber_42 : ax_D cX2_readNumber 42 (.bipush 48) 2 44 := ⟨by decide +kernel, rfl⟩
theorem dX2_readNumber_44 : ax_D cX2_readNumber 44 (.isub) 1 45 := ⟨by decide +kernel, rfl⟩
theorem dX2_readNumber_45 : ax_D cX2_readNumber 45 (.putfield 28) 3 48 := ⟨by decide +kernel, rfl⟩
theorem dX2_readNumber_48 : ax_D cX2_readNumber 48 (.aload_n 0) 1 49 := ⟨by decide +kernel, rfl⟩
theorem dX2_readNumber_49 : ax_D cX2_readNumber 49 (.dup) 1 50 := ⟨by decide +kernel, rfl⟩
theorem dX2_readNumber_50 : ax_D cX2_readNumber 50 (.getfield 25) 3 53 := ⟨by decide +kernel, rfl⟩
theorem dX2_readNumber_53 : ax_D cX2_readNumber 53 (.iconst 1) 1 54 := ⟨by decide +kernel, rfl⟩
theorem dX2_readNumber_54 : ax_D cX2_readNumber 54 (.iadd) 1 55 := ⟨by decide +kernel, rfl⟩
theorem dX2_readNumber_55 : ax_D cX2_readNumber 55 (.putfield 25) 3 58 := ⟨by decide +kernel, rfl⟩
theorem dX2_readNumber_58 : ax_D cX2_readNumber 58 (.iinc 4 1) 3 61 := ⟨by decide +kernel, rfl⟩
theorem dX2_readNumber_61 : ax_B cX2_readNumber 61 (.goto) 64 13 := ⟨(-48), by decide +kernel, rfl, by decide⟩
theorem dX2_readNumber_64 : ax_D cX2_readNumber 64 (.aload_n 0) 1 65 := ⟨by decide +kernel, rfl⟩
theorem dX2_readNumber_65 : ax_D cX2_readNumber 65 (.getfield 28) 3 68 := ⟨by decide +kernel, rfl⟩
theorem dX2_readNumber_68 : ax_D cX2_readNumber 68 (.iconst 1) 1 69 := ⟨by decide +kernel, rfl⟩
theorem dX2_readNumber_69 : ax_B cX2_readNumber 69 (.if_icmp .lt) 72 80 := ⟨11, by decide +kernel, rfl, by decide⟩
theorem dX2_readNumber_72 : ax_D cX2_readNumber 72 (.aload_n 0) 1 73 := ⟨by decide +kernel, rfl⟩
theorem dX2_readNumber_73 : ax_D cX2_readNumber 73 (.getfield 28) 3 76 := ⟨by decide +kernel, rfl⟩
theorem dX2_readNumber_76 : ax_D cX2_readNumber 76 (.iload_n 2) 1 77 := ⟨by decide +kernel, rfl⟩
theorem dX2_readNumber_77 : ax_B cX2_readNumber 77 (.if_icmp .le) 80 84 := ⟨7, by decide +kernel, rfl, by decide⟩
theorem dX2_readNumber_80 : ax_D cX2_readNumber 80 (.iload_n 3) 1 81 := ⟨by decide +kernel, rfl⟩
theorem dX2_readNumber_81 : ax_B cX2_readNumber 81 (.goto) 84 85 := ⟨4, by decide +kernel, rfl, by decide⟩
theorem dX2_readNumber_84 : ax_D cX2_readNumber 84 (.iconst (-1)) 1 85 := ⟨by decide +kernel, rfl⟩
theorem dX2_readNumber_85 : ax_D cX2_readNumber 85 (.ireturn) 1 86 := ⟨by decide +kernel, rfl⟩
end
section
def mu_X0_open : ax_Mu := (yX0_open, cX0_open, 3, some .int, 0, 0)
theorem lc_X0_open : Cond.code mu_X0_open.1 mu_X0_open.2.1 mu_X0_open.2.2.1 mu_X0_open.2.2.2.1 ∈ ax_tb := (ax_m2 82 rfl rfl)
noncomputable def f_X0_open (p1 : Int32) (p2 : Int32) (s : ax_S) : Option (Int32 × ax_S) := (if (s.1 3 3) < (6 : Int32) then (ax_si cx_C s 26 (s.1 3 3) p1).bind (fun s21 => (ax_si cx_C s21 27 (s21.1 3 3) p2).bind (fun s31 => (ax_si cx_C s31 28 (s31.1 3 3) (5 : Int32)).bind (fun s41 => some (((((ax_ui s41 3 3 ((s41.1 3 3) + (1 : Int32))).1 3 3) - (1 : Int32)), (ax_ui s41 3 3 ((s41.1 3 3) + (1 : Int32)))))))) else some (((-4 : Int32), s)))
theorem T_X0_open (p1 : Int32) (p2 : Int32) (s : ax_S) (r : Int32 × ax_S) (h : f_X0_open p1 p2 s = some r) : ax_M cx_C mu_X0_open (fun ad => [.ref (ad 3), .int p1, .int p2]) s (some (.int r.1)) r.2 := by
  refine ax_enter (by decide +kernel) 0 (fun ad => [some (.ref (ad 3)), some (.int p1), some (.int p2)]) (fun ad => rfl) (fun ad => Nat.le_of_ble_eq_true rfl) (fun X hV ho => ?_)
  refine ax_go (fun r : Int32 × ax_S => (some (Value.int r.1), r.2)) (fun P hP => ?_) h ho
  unfold f_X0_open
  refine ax_j (ax_aload_n hV dX0_open_0 rfl) ?_
  refine ax_j (ax_gfi hV lf_X0_21 dX0_open_1 rfl rfl) ?_
  refine ax_j (ax_bipush hV (6 : Int32) dX0_open_4 (by decide)) ?_
  refine ax_jif (ax_icmp_lt hV dX0_open_6) ?_ ?_
  · refine ax_j (ax_aload_n hV dX0_open_12 rfl) ?_
    refine ax_j (ax_gfr hV lf_X0_9 dX0_open_13 rfl rfl) ?_
    refine ax_j (ax_aload_n hV dX0_open_16 rfl) ?_
    refine ax_j (ax_gfi hV lf_X0_21 dX0_open_17 rfl rfl) ?_
    refine ax_j (ax_iload_n hV dX0_open_20 rfl) ?_
    refine ax_jb (ax_iast hV dX0_open_21) (fun s21 => ?_)
    refine ax_j (ax_aload_n hV dX0_open_22 rfl) ?_
    refine ax_j (ax_gfr hV lf_X0_15 dX0_open_23 rfl rfl) ?_
    refine ax_j (ax_aload_n hV dX0_open_26 rfl) ?_
    refine ax_j (ax_gfi hV lf_X0_21 dX0_open_27 rfl rfl) ?_
    refine ax_j (ax_iload_n hV dX0_open_30 rfl) ?_
    refine ax_jb (ax_iast hV dX0_open_31) (fun s31 => ?_)
    refine ax_j (ax_aload_n hV dX0_open_32 rfl) ?_
    refine ax_j (ax_gfr hV lf_X0_18 dX0_open_33 rfl rfl) ?_
    refine ax_j (ax_aload_n hV dX0_open_36 rfl) ?_
    refine ax_j (ax_gfi hV lf_X0_21 dX0_open_37 rfl rfl) ?_
    refine ax_j (ax_iconst hV (5 : Int32) dX0_open_40 (by decide)) ?_
    refine ax_jb (ax_iast hV dX0_open_41) (fun s41 => ?_)
    refine ax_j (ax_aload_n hV dX0_open_42 rfl) ?_
    refine ax_j (ax_dup hV dX0_open_43 rfl) ?_
    refine ax_j (ax_gfi hV lf_X0_21 dX0_open_44 rfl rfl) ?_
    refine ax_j (ax_iconst hV (1 : Int32) dX0_open_47 (by decide)) ?_
    refine ax_j (ax_iadd hV dX0_open_48) ?_
    refine ax_j (ax_pfi hV lp_X0_21 dX0_open_49 rfl rfl) ?_
    refine ax_j (ax_aload_n hV dX0_open_52 rfl) ?_
    refine ax_j (ax_gfi hV lf_X0_21 dX0_open_53 rfl rfl) ?_
    refine ax_j (ax_iconst hV (1 : Int32) dX0_open_56 (by decide)) ?_
    refine ax_j (ax_isub hV dX0_open_57) ?_
    exact ax_jl (fun h => ax_ir hV rfl dX0_open_58 (hP ((((ax_ui s41 3 3 ((s41.1 3 3) + (1 : Int32))).1 3 3) - (1 : Int32)), (ax_ui s41 3 3 ((s41.1 3 3) + (1 : Int32)))) h))
  · refine ax_j (ax_bipush hV (-4 : Int32) dX0_open_9 (by decide)) ?_
    exact ax_jl (fun h => ax_ir hV rfl dX0_open_11 (hP ((-4 : Int32), s) h))
theorem lk_X9_78 : ax_lkV RX9 78 mu_X0_open RX0 2 := ax_lkV_of (ax_m2 79 rfl rfl) (ax_m2 80 rfl rfl) (ax_m2 81 rfl rfl) (ax_m1 4 rfl rfl) lc_X0_open rfl ⟨by decide +kernel, by decide +kernel, by decide +kernel⟩
def mu_X0_trustTogether : ax_Mu := (yX0_trustTogether, cX0_trustTogether, 3, some .int, 0, 0)
theorem lc_X0_trustTogether : Cond.code mu_X0_trustTogether.1 mu_X0_trustTogether.2.1 mu_X0_trustTogether.2.2.1 mu_X0_trustTogether.2.2.2.1 ∈ ax_tb := (ax_m4 149 rfl rfl)
noncomputable def b_X0_trustTogether_4 (s : ax_S) (a : Int32 × Int32) : Option ((Int32 × Int32) ⊕ (Int32)) := (if (s.1 3 3) ≤ a.2 then some (.inr a.1) else (ax_ai cx_C s 28 a.2).bind (fun v18 => some (.inl ((a.1 + v18), (a.2 + 1)))))
noncomputable def f_X0_trustTogether  (s : ax_S) : Option (Int32) := (ax_lp (b_X0_trustTogether_4 s) ((0 : Int32), (0 : Int32))).bind (fun e4 => some (e4))
theorem B_X0_trustTogether_4 (X : ax_G × ax_K × Option Value × ax_S) (hV : ax_ok (cx_C, X) mu_X0_trustTogether) (s : ax_S) (P : ((Int32 × Int32) ⊕ (Int32)) → Prop) (hI : ∀ a : Int32 × Int32, P (.inl a) → ax_At (cx_C, X) 4 [some (.ref (ax_ad (cx_C, X) 3)), some (.int a.1), some (.int a.2)] [] s) (hO : ∀ e : Int32, P (.inr e) → ax_At (cx_C, X) 27 [none, some (.int e), none] [] s) (a : Int32 × Int32) : ax_J (cx_C, X) P 4 [some (.ref (ax_ad (cx_C, X) 3)), some (.int a.1), some (.int a.2)] [] s (b_X0_trustTogether_4 s a) := by
  unfold b_X0_trustTogether_4
  refine ax_j (ax_iload_n hV dX0_trustTogether_4 rfl) ?_
  refine ax_j (ax_aload_n hV dX0_trustTogether_5 rfl) ?_
  refine ax_j (ax_gfi hV lf_X0_21 dX0_trustTogether_6 rfl rfl) ?_
  refine ax_jif (ax_icmp_ge hV dX0_trustTogether_9) ?_ ?_
  · refine ax_jf (lv' := [none, some (.int a.1), none]) [false, true, false] rfl ?_
    exact ax_jl (fun h => hO a.1 h)
  · refine ax_j (ax_iload_n hV dX0_trustTogether_12 rfl) ?_
    refine ax_j (ax_aload_n hV dX0_trustTogether_13 rfl) ?_
    refine ax_j (ax_gfr hV lf_X0_18 dX0_trustTogether_14 rfl rfl) ?_
    refine ax_j (ax_iload_n hV dX0_trustTogether_17 rfl) ?_
    refine ax_jb (ax_iald hV dX0_trustTogether_18) (fun v18 => ?_)
    refine ax_j (ax_iadd hV dX0_trustTogether_19) ?_
    refine ax_j (ax_istore_n hV [some (.ref (ax_ad (cx_C, X) 3)), some (.int (a.1 + v18)), some (.int a.2)] dX0_trustTogether_20 rfl rfl) ?_
    refine ax_j (ax_iinc hV (a.2 + 1) [some (.ref (ax_ad (cx_C, X) 3)), some (.int (a.1 + v18)), some (.int (a.2 + 1))] dX0_trustTogether_21 rfl rfl rfl rfl) ?_
    refine ax_j (ax_goto hV dX0_trustTogether_24) ?_
    exact ax_jl (fun h => hI ((a.1 + v18), (a.2 + 1)) h)
theorem T_X0_trustTogether  (s : ax_S) (r : Int32) (h : f_X0_trustTogether s = some r) : ax_M cx_C mu_X0_trustTogether (fun ad => [.ref (ad 3)]) s (some (.int r)) s := by
  refine ax_enter (by decide +kernel) 2 (fun ad => [some (.ref (ad 3)), none, none]) (fun ad => rfl) (fun ad => Nat.le_of_ble_eq_true rfl) (fun X hV ho => ?_)
  refine ax_go (fun r : Int32 => (some (Value.int r), s)) (fun P hP => ?_) h ho
  unfold f_X0_trustTogether
  refine ax_j (ax_iconst hV (0 : Int32) dX0_trustTogether_0 (by decide)) ?_
  refine ax_j (ax_istore_n hV [some (.ref (ax_ad (cx_C, X) 3)), some (.int (0 : Int32)), none] dX0_trustTogether_1 rfl rfl) ?_
  refine ax_j (ax_iconst hV (0 : Int32) dX0_trustTogether_2 (by decide)) ?_
  refine ax_j (ax_istore_n hV [some (.ref (ax_ad (cx_C, X) 3)), some (.int (0 : Int32)), some (.int (0 : Int32))] dX0_trustTogether_3 rfl rfl) ?_
  refine ax_jlp ((0 : Int32), (0 : Int32)) (fun a => [some (.ref (ax_ad (cx_C, X) 3)), some (.int a.1), some (.int a.2)]) (fun a => s) (fun e => [none, some (.int e), none]) (fun e => s) (fun P' h1 h2 a => B_X0_trustTogether_4 X hV s P' h1 h2 a) (fun e4 => ?_)
  refine ax_j (ax_iload_n hV dX0_trustTogether_27 rfl) ?_
  exact ax_jl (fun h => ax_ir hV rfl dX0_trustTogether_28 (hP e4 h))
theorem lk_X9_342 : ax_lkV RX9 342 mu_X0_trustTogether RX0 0 := ax_lkV_of (ax_m4 146 rfl rfl) (ax_m4 147 rfl rfl) (ax_m4 148 rfl rfl) (ax_m1 4 rfl rfl) lc_X0_trustTogether rfl ⟨by decide +kernel, by decide +kernel, by decide +kernel⟩
def mu_X1_isOne : ax_Mu := (yX1_isOne, cX1_isOne, 1, some .boolean, 0, 0)
theorem lc_X1_isOne : Cond.code mu_X1_isOne.1 mu_X1_isOne.2.1 mu_X1_isOne.2.2.1 mu_X1_isOne.2.2.2.1 ∈ ax_tb := (ax_m3 238 rfl rfl)
noncomputable def f_X1_isOne (p1 : Int32) : Option (Int32) := (if p1 = 0 then some ((1 : Int32)) else (if p1 = (1 : Int32) then some ((1 : Int32)) else some ((0 : Int32))))
theorem T_X1_isOne (p1 : Int32) (s : ax_S) (r : Int32) (h : f_X1_isOne p1 = some r) : ax_M cx_C mu_X1_isOne (fun ad => [.int p1]) s (some (.int r)) s := by
  refine ax_enter (by decide +kernel) 0 (fun ad => [some (.int p1)]) (fun ad => rfl) (fun ad => Nat.le_of_ble_eq_true rfl) (fun X hV ho => ?_)
  refine ax_go (fun r : Int32 => (some (Value.int r), s)) (fun P hP => ?_) h ho
  unfold f_X1_isOne
  refine ax_j (ax_iload_n hV dX1_isOne_0 rfl) ?_
  refine ax_jif (ax_if_eq hV dX1_isOne_1) ?_ ?_
  · refine ax_j (ax_iconst hV (1 : Int32) dX1_isOne_9 (by decide)) ?_
    refine ax_j (ax_goto hV dX1_isOne_10) ?_
    exact ax_jl (fun h => ax_zr hV rfl (by decide) dX1_isOne_14 (hP (1 : Int32) h))
  · refine ax_j (ax_iload_n hV dX1_isOne_4 rfl) ?_
    refine ax_j (ax_iconst hV (1 : Int32) dX1_isOne_5 (by decide)) ?_
    refine ax_jif (ax_icmp_ne hV dX1_isOne_6) ?_ ?_
    · refine ax_j (ax_iconst hV (1 : Int32) dX1_isOne_9 (by decide)) ?_
      refine ax_j (ax_goto hV dX1_isOne_10) ?_
      exact ax_jl (fun h => ax_zr hV rfl (by decide) dX1_isOne_14 (hP (1 : Int32) h))
    · refine ax_j (ax_iconst hV (0 : Int32) dX1_isOne_13 (by decide)) ?_
      exact ax_jl (fun h => ax_zr hV rfl (by decide) dX1_isOne_14 (hP (0 : Int32) h))
theorem lk_X2_57 : ax_lkS RX2 57 mu_X1_isOne 1 := ax_lkS_of (ax_m4 74 rfl rfl) (ax_m3 237 rfl rfl) (ax_m1 16 rfl rfl) lc_X1_isOne ⟨by decide +kernel, by decide +kernel, by decide +kernel⟩
theorem lk_X9_263 : ax_lkS RX9 263 mu_X1_isOne 1 := ax_lkS_of (ax_m3 236 rfl rfl) (ax_m3 237 rfl rfl) (ax_m1 16 rfl rfl) lc_X1_isOne ⟨by decide +kernel, by decide +kernel, by decide +kernel⟩
def mu_X1_isLeap : ax_Mu := (yX1_isLeap, cX1_isLeap, 2, some .boolean, 0, 0)
theorem lc_X1_isLeap : Cond.code mu_X1_isLeap.1 mu_X1_isLeap.2.1 mu_X1_isLeap.2.2.1 mu_X1_isLeap.2.2.2.1 ∈ ax_tb := (ax_m4 4 rfl rfl)
noncomputable def f_X1_isLeap (p1 : Int32) (p2 : Int32) : Option (Int32) := (ax_irem p2 (4 : Int32)).bind (fun v2 => (if v2 = 0 then (if p1 = 0 then some ((1 : Int32)) else (ax_irem p2 (100 : Int32)).bind (fun v13 => (if v13 = 0 then (ax_irem p2 (400 : Int32)).bind (fun v21 => (if v21 = 0 then some ((1 : Int32)) else some ((0 : Int32)))) else some ((1 : Int32))))) else some ((0 : Int32))))
theorem T_X1_isLeap (p1 : Int32) (p2 : Int32) (s : ax_S) (r : Int32) (h : f_X1_isLeap p1 p2 = some r) : ax_M cx_C mu_X1_isLeap (fun ad => [.int p1, .int p2]) s (some (.int r)) s := by
  refine ax_enter (by decide +kernel) 0 (fun ad => [some (.int p1), some (.int p2)]) (fun ad => rfl) (fun ad => Nat.le_of_ble_eq_true rfl) (fun X hV ho => ?_)
  refine ax_go (fun r : Int32 => (some (Value.int r), s)) (fun P hP => ?_) h ho
  unfold f_X1_isLeap
  refine ax_j (ax_iload_n hV dX1_isLeap_0 rfl) ?_
  refine ax_j (ax_iconst hV (4 : Int32) dX1_isLeap_1 (by decide)) ?_
  refine ax_jb (ax_irem_ hV dX1_isLeap_2) (fun v2 => ?_)
  refine ax_jif (ax_if_ne hV dX1_isLeap_3) ?_ ?_
  · refine ax_j (ax_iload_n hV dX1_isLeap_6 rfl) ?_
    refine ax_jif (ax_if_eq hV dX1_isLeap_7) ?_ ?_
    · refine ax_j (ax_iconst hV (1 : Int32) dX1_isLeap_25 (by decide)) ?_
      refine ax_j (ax_goto hV dX1_isLeap_26) ?_
      exact ax_jl (fun h => ax_zr hV rfl (by decide) dX1_isLeap_30 (hP (1 : Int32) h))
    · refine ax_j (ax_iload_n hV dX1_isLeap_10 rfl) ?_
      refine ax_j (ax_bipush hV (100 : Int32) dX1_isLeap_11 (by decide)) ?_
      refine ax_jb (ax_irem_ hV dX1_isLeap_13) (fun v13 => ?_)
      refine ax_jif (ax_if_ne hV dX1_isLeap_14) ?_ ?_
      · refine ax_j (ax_iload_n hV dX1_isLeap_17 rfl) ?_
        refine ax_j (ax_sipush hV (400 : Int32) dX1_isLeap_18 (by decide)) ?_
        refine ax_jb (ax_irem_ hV dX1_isLeap_21) (fun v21 => ?_)
        refine ax_jif (ax_if_ne hV dX1_isLeap_22) ?_ ?_
        · refine ax_j (ax_iconst hV (1 : Int32) dX1_isLeap_25 (by decide)) ?_
          refine ax_j (ax_goto hV dX1_isLeap_26) ?_
          exact ax_jl (fun h => ax_zr hV rfl (by decide) dX1_isLeap_30 (hP (1 : Int32) h))
        · refine ax_j (ax_iconst hV (0 : Int32) dX1_isLeap_29 (by decide)) ?_
          exact ax_jl (fun h => ax_zr hV rfl (by decide) dX1_isLeap_30 (hP (0 : Int32) h))
      · refine ax_j (ax_iconst hV (1 : Int32) dX1_isLeap_25 (by decide)) ?_
        refine ax_j (ax_goto hV dX1_isLeap_26) ?_
        exact ax_jl (fun h => ax_zr hV rfl (by decide) dX1_isLeap_30 (hP (1 : Int32) h))
  · refine ax_j (ax_iconst hV (0 : Int32) dX1_isLeap_29 (by decide)) ?_
    exact ax_jl (fun h => ax_zr hV rfl (by decide) dX1_isLeap_30 (hP (0 : Int32) h))
theorem lk_X1_9 : ax_lkS RX1 9 mu_X1_isLeap 2 := ax_lkS_of (ax_m4 2 rfl rfl) (ax_m4 3 rfl rfl) (ax_m1 16 rfl rfl) lc_X1_isLeap ⟨by decide +kernel, by decide +kernel, by decide +kernel⟩
def mu_X1_isDate : ax_Mu := (yX1_isDate, cX1_isDate, 5, some .boolean, 1, 21)
theorem lc_X1_isDate : Cond.code mu_X1_isDate.1 mu_X1_isDate.2.1 mu_X1_isDate.2.2.1 mu_X1_isDate.2.2.2.1 ∈ ax_tb := (ax_m4 1 rfl rfl)
noncomputable def j_X1_isDate_43 (l1 : Int32) (l2 : Int32) (k0 : Int32) (s : ax_S) : Option (Int32) := (if l1 < (1 : Int32) then some ((0 : Int32)) else (ax_sa 12 cx_f0 (l2 - (1 : Int32))).bind (fun v57 => (if (v57 + k0) < l1 then some ((0 : Int32)) else some ((1 : Int32)))))
noncomputable def j_X1_isDate_42 (l1 : Int32) (l2 : Int32) (s : ax_S) : Option (Int32) := j_X1_isDate_43 l1 l2 (0 : Int32) s
noncomputable def f_X1_isDate (p1 : Int32) (p2 : Int32) (p3 : Int32) (p4 : Int32) (s : ax_S) : Option (Int32) := (if p4 < (1 : Int32) then some ((0 : Int32)) else (if (600 : Int32) < p4 then some ((0 : Int32)) else (if p3 < (1 : Int32) then some ((0 : Int32)) else (if p3 ≤ (12 : Int32) then (if p3 = (2 : Int32) then (f_X1_isLeap p1 p4).bind (fun q32 => (if q32 = 0 then j_X1_isDate_42 p2 p3 s else j_X1_isDate_43 p2 p3 (1 : Int32) s)) else j_X1_isDate_42 p2 p3 s) else some ((0 : Int32))))))
theorem N_X1_isDate_43 (X : ax_G × ax_K × Option Value × ax_S) (hV : ax_ok (cx_C, X) mu_X1_isDate) (s : ax_S) (P : (Int32) → Prop) (hP : ∀ r : Int32, P r → X.2.2 = (fun r : Int32 => (some (Value.int r), s)) r) (l1 : Int32) (l2 : Int32) (k0 : Int32) : ax_J (cx_C, X) P 43 [none, some (.int l1), some (.int l2), none, none] [.int k0] s (j_X1_isDate_43 l1 l2 k0 s) := by
  unfold j_X1_isDate_43
  refine ax_j (ax_istore hV [none, some (.int l1), some (.int l2), none, some (.int k0)] dX1_isDate_43 rfl rfl) ?_
  refine ax_j (ax_iload_n hV dX1_isDate_45 rfl) ?_
  refine ax_j (ax_iconst hV (1 : Int32) dX1_isDate_46 (by decide)) ?_
  refine ax_jif (ax_icmp_lt hV dX1_isDate_47) ?_ ?_
  · refine ax_j (ax_iconst hV (0 : Int32) dX1_isDate_68 (by decide)) ?_
    exact ax_jl (fun h => ax_zr hV rfl (by decide) dX1_isDate_69 (hP (0 : Int32) h))
  · refine ax_j (ax_iload_n hV dX1_isDate_50 rfl) ?_
    refine ax_j (ax_gst hV ms_0 ls_X1_13 dX1_isDate_51) ?_
    refine ax_j (ax_iload_n hV dX1_isDate_54 rfl) ?_
    refine ax_j (ax_iconst hV (1 : Int32) dX1_isDate_55 (by decide)) ?_
    refine ax_j (ax_isub hV dX1_isDate_56) ?_
    refine ax_jb (ax_sald hV ms_0 dX1_isDate_57) (fun v57 => ?_)
    refine ax_j (ax_iload hV dX1_isDate_58 rfl) ?_
    refine ax_j (ax_iadd hV dX1_isDate_60) ?_
    refine ax_jif (ax_icmp_gt hV dX1_isDate_61) ?_ ?_
    · refine ax_j (ax_iconst hV (0 : Int32) dX1_isDate_68 (by decide)) ?_
      exact ax_jl (fun h => ax_zr hV rfl (by decide) dX1_isDate_69 (hP (0 : Int32) h))
    · refine ax_j (ax_iconst hV (1 : Int32) dX1_isDate_64 (by decide)) ?_
      refine ax_j (ax_goto hV dX1_isDate_65) ?_
      exact ax_jl (fun h => ax_zr hV rfl (by decide) dX1_isDate_69 (hP (1 : Int32) h))
theorem N_X1_isDate_42 (X : ax_G × ax_K × Option Value × ax_S) (hV : ax_ok (cx_C, X) mu_X1_isDate) (s : ax_S) (P : (Int32) → Prop) (hP : ∀ r : Int32, P r → X.2.2 = (fun r : Int32 => (some (Value.int r), s)) r) (l1 : Int32) (l2 : Int32) : ax_J (cx_C, X) P 42 [none, some (.int l1), some (.int l2), none, none] [] s (j_X1_isDate_42 l1 l2 s) := by
  unfold j_X1_isDate_42
  refine ax_j (ax_iconst hV (0 : Int32) dX1_isDate_42 (by decide)) ?_
  exact N_X1_isDate_43 X hV s P hP l1 l2 (0 : Int32)
theorem T_X1_isDate (p1 : Int32) (p2 : Int32) (p3 : Int32) (p4 : Int32) (s : ax_S) (r : Int32) (h : f_X1_isDate p1 p2 p3 p4 s = some r) : ax_M cx_C mu_X1_isDate (fun ad => [.int p1, .int p2, .int p3, .int p4]) s (some (.int r)) s := by
  refine ax_enter (by decide +kernel) 1 (fun ad => [some (.int p1), some (.int p2), some (.int p3), some (.int p4), none]) (fun ad => rfl) (fun ad => Nat.le_of_ble_eq_true rfl) (fun X hV ho => ?_)
  refine ax_go (fun r : Int32 => (some (Value.int r), s)) (fun P hP => ?_) h ho
  unfold f_X1_isDate
  refine ax_j (ax_iload_n hV dX1_isDate_0 rfl) ?_
  refine ax_j (ax_iconst hV (1 : Int32) dX1_isDate_1 (by decide)) ?_
  refine ax_jif (ax_icmp_lt hV dX1_isDate_2) ?_ ?_
  · refine ax_j (ax_iconst hV (0 : Int32) dX1_isDate_23 (by decide)) ?_
    exact ax_jl (fun h => ax_zr hV rfl (by decide) dX1_isDate_24 (hP (0 : Int32) h))
  · refine ax_j (ax_iload_n hV dX1_isDate_5 rfl) ?_
    refine ax_j (ax_sipush hV (600 : Int32) dX1_isDate_6 (by decide)) ?_
    refine ax_jif (ax_icmp_gt hV dX1_isDate_9) ?_ ?_
    · refine ax_j (ax_iconst hV (0 : Int32) dX1_isDate_23 (by decide)) ?_
      exact ax_jl (fun h => ax_zr hV rfl (by decide) dX1_isDate_24 (hP (0 : Int32) h))
    · refine ax_j (ax_iload_n hV dX1_isDate_12 rfl) ?_
      refine ax_j (ax_iconst hV (1 : Int32) dX1_isDate_13 (by decide)) ?_
      refine ax_jif (ax_icmp_lt hV dX1_isDate_14) ?_ ?_
      · refine ax_j (ax_iconst hV (0 : Int32) dX1_isDate_23 (by decide)) ?_
        exact ax_jl (fun h => ax_zr hV rfl (by decide) dX1_isDate_24 (hP (0 : Int32) h))
      · refine ax_j (ax_iload_n hV dX1_isDate_17 rfl) ?_
        refine ax_j (ax_bipush hV (12 : Int32) dX1_isDate_18 (by decide)) ?_
        refine ax_jif (ax_icmp_le hV dX1_isDate_20) ?_ ?_
        · refine ax_j (ax_iload_n hV dX1_isDate_25 rfl) ?_
          refine ax_j (ax_iconst hV (2 : Int32) dX1_isDate_26 (by decide)) ?_
          refine ax_jif (ax_icmp_ne hV dX1_isDate_27) ?_ ?_
          · refine ax_j (ax_iload_n hV dX1_isDate_30 rfl) ?_
            refine ax_j (ax_iload_n hV dX1_isDate_31 rfl) ?_
            refine ax_jb (fun v ho => ax_cSi hV lk_X1_9 rfl dX1_isDate_32 [.int p1, .int p4] [] (fun ad => [.int p1, .int p4]) rfl rfl rfl rfl v s (T_X1_isLeap p1 p4 s v ho)) (fun q32 => ?_)
            refine ax_jif (ax_if_eq hV dX1_isDate_35) ?_ ?_
            · refine ax_jf (lv' := [none, some (.int p2), some (.int p3), none, none]) [false, true, true, false, false] rfl ?_
              exact N_X1_isDate_42 X hV s P hP p2 p3
            · refine ax_j (ax_iconst hV (1 : Int32) dX1_isDate_38 (by decide)) ?_
              refine ax_j (ax_goto hV dX1_isDate_39) ?_
              refine ax_jf (lv' := [none, some (.int p2), some (.int p3), none, none]) [false, true, true, false, false] rfl ?_
              exact N_X1_isDate_43 X hV s P hP p2 p3 (1 : Int32)
          · refine ax_jf (lv' := [none, some (.int p2), some (.int p3), none, none]) [false, true, true, false, false] rfl ?_
            exact N_X1_isDate_42 X hV s P hP p2 p3
        · refine ax_j (ax_iconst hV (0 : Int32) dX1_isDate_23 (by decide)) ?_
          exact ax_jl (fun h => ax_zr hV rfl (by decide) dX1_isDate_24 (hP (0 : Int32) h))
theorem lk_X2_61 : ax_lkS RX2 61 mu_X1_isDate 4 := ax_lkS_of (ax_m4 75 rfl rfl) (ax_m4 0 rfl rfl) (ax_m1 16 rfl rfl) lc_X1_isDate ⟨by decide +kernel, by decide +kernel, by decide +kernel⟩
theorem lk_X9_268 : ax_lkS RX9 268 mu_X1_isDate 4 := ax_lkS_of (ax_m3 239 rfl rfl) (ax_m4 0 rfl rfl) (ax_m1 16 rfl rfl) lc_X1_isDate ⟨by decide +kernel, by decide +kernel, by decide +kernel⟩
def mu_X1_leapsUpTo : ax_Mu := (yX1_leapsUpTo, cX1_leapsUpTo, 2, some .int, 0, 0)
theorem lc_X1_leapsUpTo : Cond.code mu_X1_leapsUpTo.1 mu_X1_leapsUpTo.2.1 mu_X1_leapsUpTo.2.2.1 mu_X1_leapsUpTo.2.2.2.1 ∈ ax_tb := (ax_m4 14 rfl rfl)
noncomputable def f_X1_leapsUpTo (p1 : Int32) (p2 : Int32) : Option (Int32) := (if p1 = 0 then (ax_idiv p2 (4 : Int32)).bind (fun v6 => some (v6)) else (ax_idiv p2 (4 : Int32)).bind (fun v12 => (ax_idiv p2 (100 : Int32)).bind (fun v16 => (ax_idiv p2 (400 : Int32)).bind (fun v22 => some (((v12 - v16) + v22))))))
theorem T_X1_leapsUpTo (p1 : Int32) (p2 : Int32) (s : ax_S) (r : Int32) (h : f_X1_leapsUpTo p1 p2 = some r) : ax_M cx_C mu_X1_leapsUpTo (fun ad => [.int p1, .int p2]) s (some (.int r)) s := by
  refine ax_enter (by decide +kernel) 0 (fun ad => [some (.int p1), some (.int p2)]) (fun ad => rfl) (fun ad => Nat.le_of_ble_eq_true rfl) (fun X hV ho => ?_)
  refine ax_go (fun r : Int32 => (some (Value.int r), s)) (fun P hP => ?_) h ho
  unfold f_X1_leapsUpTo
  refine ax_j (ax_iload_n hV dX1_leapsUpTo_0 rfl) ?_
  refine ax_jif (ax_if_ne hV dX1_leapsUpTo_1) ?_ ?_
  · refine ax_j (ax_iload_n hV dX1_leapsUpTo_4 rfl) ?_
    refine ax_j (ax_iconst hV (4 : Int32) dX1_leapsUpTo_5 (by decide)) ?_
    refine ax_jb (ax_idiv_ hV dX1_leapsUpTo_6) (fun v6 => ?_)
    refine ax_j (ax_goto hV dX1_leapsUpTo_7) ?_
    exact ax_jl (fun h => ax_ir hV rfl dX1_leapsUpTo_24 (hP v6 h))
  · refine ax_j (ax_iload_n hV dX1_leapsUpTo_10 rfl) ?_
    refine ax_j (ax_iconst hV (4 : Int32) dX1_leapsUpTo_11 (by decide)) ?_
    refine ax_jb (ax_idiv_ hV dX1_leapsUpTo_12) (fun v12 => ?_)
    refine ax_j (ax_iload_n hV dX1_leapsUpTo_13 rfl) ?_
    refine ax_j (ax_bipush hV (100 : Int32) dX1_leapsUpTo_14 (by decide)) ?_
    refine ax_jb (ax_idiv_ hV dX1_leapsUpTo_16) (fun v16 => ?_)
    refine ax_j (ax_isub hV dX1_leapsUpTo_17) ?_
    refine ax_j (ax_iload_n hV dX1_leapsUpTo_18 rfl) ?_
    refine ax_j (ax_sipush hV (400 : Int32) dX1_leapsUpTo_19 (by decide)) ?_
    refine ax_jb (ax_idiv_ hV dX1_leapsUpTo_22) (fun v22 => ?_)
    refine ax_j (ax_iadd hV dX1_leapsUpTo_23) ?_
    exact ax_jl (fun h => ax_ir hV rfl dX1_leapsUpTo_24 (hP ((v12 - v16) + v22) h))
theorem lk_X1_20 : ax_lkS RX1 20 mu_X1_leapsUpTo 2 := ax_lkS_of (ax_m4 12 rfl rfl) (ax_m4 13 rfl rfl) (ax_m1 16 rfl rfl) lc_X1_leapsUpTo ⟨by decide +kernel, by decide +kernel, by decide +kernel⟩
def mu_X1_dayNumber : ax_Mu := (yX1_dayNumber, cX1_dayNumber, 5, some .int, 1, 21)
theorem lc_X1_dayNumber : Cond.code mu_X1_dayNumber.1 mu_X1_dayNumber.2.1 mu_X1_dayNumber.2.2.1 mu_X1_dayNumber.2.2.2.1 ∈ ax_tb := (ax_m4 9 rfl rfl)
noncomputable def j_X1_dayNumber_18 (l0 : Int32) (l1 : Int32) (l2 : Int32) (l3 : Int32) (k0 : Int32) (s : ax_S) : Option (Int32) := (ax_sa 2 cx_f2 l0).bind (fun v24 => (f_X1_leapsUpTo l0 (l3 - (1 : Int32))).bind (fun q37 => (ax_sa 12 cx_f1 (l2 - (1 : Int32))).bind (fun v47 => some (((((((v24 + ((365 : Int32) * (l3 - (1 : Int32)))) + q37) + v47) + k0) + l1) - (1 : Int32))))))
noncomputable def j_X1_dayNumber_17 (l0 : Int32) (l1 : Int32) (l2 : Int32) (l3 : Int32) (s : ax_S) : Option (Int32) := j_X1_dayNumber_18 l0 l1 l2 l3 (0 : Int32) s
noncomputable def f_X1_dayNumber (p1 : Int32) (p2 : Int32) (p3 : Int32) (p4 : Int32) (s : ax_S) : Option (Int32) := (if p3 ≤ (2 : Int32) then j_X1_dayNumber_17 p1 p2 p3 p4 s else (f_X1_isLeap p1 p4).bind (fun q7 => (if q7 = 0 then j_X1_dayNumber_17 p1 p2 p3 p4 s else j_X1_dayNumber_18 p1 p2 p3 p4 (1 : Int32) s)))
theorem N_X1_dayNumber_18 (X : ax_G × ax_K × Option Value × ax_S) (hV : ax_ok (cx_C, X) mu_X1_dayNumber) (s : ax_S) (P : (Int32) → Prop) (hP : ∀ r : Int32, P r → X.2.2 = (fun r : Int32 => (some (Value.int r), s)) r) (l0 : Int32) (l1 : Int32) (l2 : Int32) (l3 : Int32) (k0 : Int32) : ax_J (cx_C, X) P 18 [some (.int l0), some (.int l1), some (.int l2), some (.int l3), none] [.int k0] s (j_X1_dayNumber_18 l0 l1 l2 l3 k0 s) := by
  unfold j_X1_dayNumber_18
  refine ax_j (ax_istore hV [some (.int l0), some (.int l1), some (.int l2), some (.int l3), some (.int k0)] dX1_dayNumber_18 rfl rfl) ?_
  refine ax_j (ax_gst hV ms_2 ls_X1_17 dX1_dayNumber_20) ?_
  refine ax_j (ax_iload_n hV dX1_dayNumber_23 rfl) ?_
  refine ax_jb (ax_sald hV ms_2 dX1_dayNumber_24) (fun v24 => ?_)
  refine ax_j (ax_sipush hV (365 : Int32) dX1_dayNumber_25 (by decide)) ?_
  refine ax_j (ax_iload_n hV dX1_dayNumber_28 rfl) ?_
  refine ax_j (ax_iconst hV (1 : Int32) dX1_dayNumber_29 (by decide)) ?_
  refine ax_j (ax_isub hV dX1_dayNumber_30) ?_
  refine ax_j (ax_imul hV dX1_dayNumber_31) ?_
  refine ax_j (ax_iadd hV dX1_dayNumber_32) ?_
  refine ax_j (ax_iload_n hV dX1_dayNumber_33 rfl) ?_
  refine ax_j (ax_iload_n hV dX1_dayNumber_34 rfl) ?_
  refine ax_j (ax_iconst hV (1 : Int32) dX1_dayNumber_35 (by decide)) ?_
  refine ax_j (ax_isub hV dX1_dayNumber_36) ?_
  refine ax_jb (fun v ho => ax_cSi hV lk_X1_20 rfl dX1_dayNumber_37 [.int l0, .int (l3 - (1 : Int32))] [.int (v24 + ((365 : Int32) * (l3 - (1 : Int32))))] (fun ad => [.int l0, .int (l3 - (1 : Int32))]) rfl rfl rfl rfl v s (T_X1_leapsUpTo l0 (l3 - (1 : Int32)) s v ho)) (fun q37 => ?_)
  refine ax_j (ax_iadd hV dX1_dayNumber_40) ?_
  refine ax_j (ax_gst hV ms_1 ls_X1_24 dX1_dayNumber_41) ?_
  refine ax_j (ax_iload_n hV dX1_dayNumber_44 rfl) ?_
  refine ax_j (ax_iconst hV (1 : Int32) dX1_dayNumber_45 (by decide)) ?_
  refine ax_j (ax_isub hV dX1_dayNumber_46) ?_
  refine ax_jb (ax_sald hV ms_1 dX1_dayNumber_47) (fun v47 => ?_)
  refine ax_j (ax_iadd hV dX1_dayNumber_48) ?_
  refine ax_j (ax_iload hV dX1_dayNumber_49 rfl) ?_
  refine ax_j (ax_iadd hV dX1_dayNumber_51) ?_
  refine ax_j (ax_iload_n hV dX1_dayNumber_52 rfl) ?_
  refine ax_j (ax_iadd hV dX1_dayNumber_53) ?_
  refine ax_j (ax_iconst hV (1 : Int32) dX1_dayNumber_54 (by decide)) ?_
  refine ax_j (ax_isub hV dX1_dayNumber_55) ?_
  exact ax_jl (fun h => ax_ir hV rfl dX1_dayNumber_56 (hP ((((((v24 + ((365 : Int32) * (l3 - (1 : Int32)))) + q37) + v47) + k0) + l1) - (1 : Int32)) h))
theorem N_X1_dayNumber_17 (X : ax_G × ax_K × Option Value × ax_S) (hV : ax_ok (cx_C, X) mu_X1_dayNumber) (s : ax_S) (P : (Int32) → Prop) (hP : ∀ r : Int32, P r → X.2.2 = (fun r : Int32 => (some (Value.int r), s)) r) (l0 : Int32) (l1 : Int32) (l2 : Int32) (l3 : Int32) : ax_J (cx_C, X) P 17 [some (.int l0), some (.int l1), some (.int l2), some (.int l3), none] [] s (j_X1_dayNumber_17 l0 l1 l2 l3 s) := by
  unfold j_X1_dayNumber_17
  refine ax_j (ax_iconst hV (0 : Int32) dX1_dayNumber_17 (by decide)) ?_
  exact N_X1_dayNumber_18 X hV s P hP l0 l1 l2 l3 (0 : Int32)
theorem T_X1_dayNumber (p1 : Int32) (p2 : Int32) (p3 : Int32) (p4 : Int32) (s : ax_S) (r : Int32) (h : f_X1_dayNumber p1 p2 p3 p4 s = some r) : ax_M cx_C mu_X1_dayNumber (fun ad => [.int p1, .int p2, .int p3, .int p4]) s (some (.int r)) s := by
  refine ax_enter (by decide +kernel) 1 (fun ad => [some (.int p1), some (.int p2), some (.int p3), some (.int p4), none]) (fun ad => rfl) (fun ad => Nat.le_of_ble_eq_true rfl) (fun X hV ho => ?_)
  refine ax_go (fun r : Int32 => (some (Value.int r), s)) (fun P hP => ?_) h ho
  unfold f_X1_dayNumber
  refine ax_j (ax_iload_n hV dX1_dayNumber_0 rfl) ?_
  refine ax_j (ax_iconst hV (2 : Int32) dX1_dayNumber_1 (by decide)) ?_
  refine ax_jif (ax_icmp_le hV dX1_dayNumber_2) ?_ ?_
  · exact N_X1_dayNumber_17 X hV s P hP p1 p2 p3 p4
  · refine ax_j (ax_iload_n hV dX1_dayNumber_5 rfl) ?_
    refine ax_j (ax_iload_n hV dX1_dayNumber_6 rfl) ?_
    refine ax_jb (fun v ho => ax_cSi hV lk_X1_9 rfl dX1_dayNumber_7 [.int p1, .int p4] [] (fun ad => [.int p1, .int p4]) rfl rfl rfl rfl v s (T_X1_isLeap p1 p4 s v ho)) (fun q7 => ?_)
    refine ax_jif (ax_if_eq hV dX1_dayNumber_10) ?_ ?_
    · exact N_X1_dayNumber_17 X hV s P hP p1 p2 p3 p4
    · refine ax_j (ax_iconst hV (1 : Int32) dX1_dayNumber_13 (by decide)) ?_
      refine ax_j (ax_goto hV dX1_dayNumber_14) ?_
      exact N_X1_dayNumber_18 X hV s P hP p1 p2 p3 p4 (1 : Int32)
theorem lk_X1_27 : ax_lkS RX1 27 mu_X1_dayNumber 4 := ax_lkS_of (ax_m4 24 rfl rfl) (ax_m4 8 rfl rfl) (ax_m1 16 rfl rfl) lc_X1_dayNumber ⟨by decide +kernel, by decide +kernel, by decide +kernel⟩
theorem lk_X2_65 : ax_lkS RX2 65 mu_X1_dayNumber 4 := ax_lkS_of (ax_m4 76 rfl rfl) (ax_m4 8 rfl rfl) (ax_m1 16 rfl rfl) lc_X1_dayNumber ⟨by decide +kernel, by decide +kernel, by decide +kernel⟩
theorem lk_X9_272 : ax_lkS RX9 272 mu_X1_dayNumber 4 := ax_lkS_of (ax_m4 7 rfl rfl) (ax_m4 8 rfl rfl) (ax_m1 16 rfl rfl) lc_X1_dayNumber ⟨by decide +kernel, by decide +kernel, by decide +kernel⟩
def mu_X1_hasDay : ax_Mu := (yX1_hasDay, cX1_hasDay, 2, some .boolean, 2, 45)
theorem lc_X1_hasDay : Cond.code mu_X1_hasDay.1 mu_X1_hasDay.2.1 mu_X1_hasDay.2.2.1 mu_X1_hasDay.2.2.2.1 ∈ ax_tb := (ax_m4 23 rfl rfl)
noncomputable def f_X1_hasDay (p1 : Int32) (p2 : Int32) (s : ax_S) : Option (Int32) := (ax_sa 2 cx_f2 p1).bind (fun v5 => (if p2 < v5 then some ((0 : Int32)) else (f_X1_dayNumber p1 (31 : Int32) (12 : Int32) (600 : Int32) s).bind (fun q18 => (if q18 < p2 then some ((0 : Int32)) else some ((1 : Int32))))))
theorem T_X1_hasDay (p1 : Int32) (p2 : Int32) (s : ax_S) (r : Int32) (h : f_X1_hasDay p1 p2 s = some r) : ax_M cx_C mu_X1_hasDay (fun ad => [.int p1, .int p2]) s (some (.int r)) s := by
  refine ax_enter (by decide +kernel) 0 (fun ad => [some (.int p1), some (.int p2)]) (fun ad => rfl) (fun ad => Nat.le_of_ble_eq_true rfl) (fun X hV ho => ?_)
  refine ax_go (fun r : Int32 => (some (Value.int r), s)) (fun P hP => ?_) h ho
  unfold f_X1_hasDay
  refine ax_j (ax_iload_n hV dX1_hasDay_0 rfl) ?_
  refine ax_j (ax_gst hV ms_2 ls_X1_17 dX1_hasDay_1) ?_
  refine ax_j (ax_iload_n hV dX1_hasDay_4 rfl) ?_
  refine ax_jb (ax_sald hV ms_2 dX1_hasDay_5) (fun v5 => ?_)
  refine ax_jif (ax_icmp_lt hV dX1_hasDay_6) ?_ ?_
  · refine ax_j (ax_iconst hV (0 : Int32) dX1_hasDay_28 (by decide)) ?_
    exact ax_jl (fun h => ax_zr hV rfl (by decide) dX1_hasDay_29 (hP (0 : Int32) h))
  · refine ax_j (ax_iload_n hV dX1_hasDay_9 rfl) ?_
    refine ax_j (ax_iload_n hV dX1_hasDay_10 rfl) ?_
    refine ax_j (ax_bipush hV (31 : Int32) dX1_hasDay_11 (by decide)) ?_
    refine ax_j (ax_bipush hV (12 : Int32) dX1_hasDay_13 (by decide)) ?_
    refine ax_j (ax_sipush hV (600 : Int32) dX1_hasDay_15 (by decide)) ?_
    refine ax_jb (fun v ho => ax_cSi hV lk_X1_27 rfl dX1_hasDay_18 [.int p1, .int (31 : Int32), .int (12 : Int32), .int (600 : Int32)] [.int p2] (fun ad => [.int p1, .int (31 : Int32), .int (12 : Int32), .int (600 : Int32)]) rfl rfl rfl rfl v s (T_X1_dayNumber p1 (31 : Int32) (12 : Int32) (600 : Int32) s v ho)) (fun q18 => ?_)
    refine ax_jif (ax_icmp_gt hV dX1_hasDay_21) ?_ ?_
    · refine ax_j (ax_iconst hV (0 : Int32) dX1_hasDay_28 (by decide)) ?_
      exact ax_jl (fun h => ax_zr hV rfl (by decide) dX1_hasDay_29 (hP (0 : Int32) h))
    · refine ax_j (ax_iconst hV (1 : Int32) dX1_hasDay_24 (by decide)) ?_
      refine ax_j (ax_goto hV dX1_hasDay_25) ?_
      exact ax_jl (fun h => ax_zr hV rfl (by decide) dX1_hasDay_29 (hP (1 : Int32) h))
theorem lk_X9_276 : ax_lkS RX9 276 mu_X1_hasDay 2 := ax_lkS_of (ax_m4 21 rfl rfl) (ax_m4 22 rfl rfl) (ax_m1 16 rfl rfl) lc_X1_hasDay ⟨by decide +kernel, by decide +kernel, by decide +kernel⟩
def mu_X1_yearWith : ax_Mu := (yX1_yearWith, cX1_yearWith, 3, some .int, 2, 45)
theorem lc_X1_yearWith : Cond.code mu_X1_yearWith.1 mu_X1_yearWith.2.1 mu_X1_yearWith.2.2.1 mu_X1_yearWith.2.2.2.1 ∈ ax_tb := (ax_m4 27 rfl rfl)
noncomputable def b_X1_yearWith_14 (l0 : Int32) (l1 : Int32) (s : ax_S) (a : Int32) : Option ((Int32) ⊕ (Int32)) := (if (600 : Int32) ≤ a then some (.inr a) else (f_X1_dayNumber l0 (1 : Int32) (1 : Int32) (a + (1 : Int32)) s).bind (fun q27 => (if l1 < q27 then some (.inr a) else some (.inl (a + 1)))))
noncomputable def f_X1_yearWith (p1 : Int32) (p2 : Int32) (s : ax_S) : Option (Int32) := (ax_sa 2 cx_f2 p1).bind (fun v5 => (ax_idiv (p2 - v5) (366 : Int32)).bind (fun v10 => (ax_lp (b_X1_yearWith_14 p1 p2 s) (v10 + (1 : Int32))).bind (fun e14 => some (e14))))
theorem B_X1_yearWith_14 (X : ax_G × ax_K × Option Value × ax_S) (hV : ax_ok (cx_C, X) mu_X1_yearWith) (l0 : Int32) (l1 : Int32) (s : ax_S) (P : ((Int32) ⊕ (Int32)) → Prop) (hI : ∀ a : Int32, P (.inl a) → ax_At (cx_C, X) 14 [some (.int l0), some (.int l1), some (.int a)] [] s) (hO : ∀ e : Int32, P (.inr e) → ax_At (cx_C, X) 40 [none, none, some (.int e)] [] s) (a : Int32) : ax_J (cx_C, X) P 14 [some (.int l0), some (.int l1), some (.int a)] [] s (b_X1_yearWith_14 l0 l1 s a) := by
  unfold b_X1_yearWith_14
  refine ax_j (ax_iload_n hV dX1_yearWith_14 rfl) ?_
  refine ax_j (ax_sipush hV (600 : Int32) dX1_yearWith_15 (by decide)) ?_
  refine ax_jif (ax_icmp_ge hV dX1_yearWith_18) ?_ ?_
  · refine ax_jf (lv' := [none, none, some (.int a)]) [false, false, true] rfl ?_
    exact ax_jl (fun h => hO a h)
  · refine ax_j (ax_iload_n hV dX1_yearWith_21 rfl) ?_
    refine ax_j (ax_iconst hV (1 : Int32) dX1_yearWith_22 (by decide)) ?_
    refine ax_j (ax_iconst hV (1 : Int32) dX1_yearWith_23 (by decide)) ?_
    refine ax_j (ax_iload_n hV dX1_yearWith_24 rfl) ?_
    refine ax_j (ax_iconst hV (1 : Int32) dX1_yearWith_25 (by decide)) ?_
    refine ax_j (ax_iadd hV dX1_yearWith_26) ?_
    refine ax_jb (fun v ho => ax_cSi hV lk_X1_27 rfl dX1_yearWith_27 [.int l0, .int (1 : Int32), .int (1 : Int32), .int (a + (1 : Int32))] [] (fun ad => [.int l0, .int (1 : Int32), .int (1 : Int32), .int (a + (1 : Int32))]) rfl rfl rfl rfl v s (T_X1_dayNumber l0 (1 : Int32) (1 : Int32) (a + (1 : Int32)) s v ho)) (fun q27 => ?_)
    refine ax_j (ax_iload_n hV dX1_yearWith_30 rfl) ?_
    refine ax_jif (ax_icmp_gt hV dX1_yearWith_31) ?_ ?_
    · refine ax_jf (lv' := [none, none, some (.int a)]) [false, false, true] rfl ?_
      exact ax_jl (fun h => hO a h)
    · refine ax_j (ax_iinc hV (a + 1) [some (.int l0), some (.int l1), some (.int (a + 1))] dX1_yearWith_34 rfl rfl rfl rfl) ?_
      refine ax_j (ax_goto hV dX1_yearWith_37) ?_
      exact ax_jl (fun h => hI (a + 1) h)
theorem T_X1_yearWith (p1 : Int32) (p2 : Int32) (s : ax_S) (r : Int32) (h : f_X1_yearWith p1 p2 s = some r) : ax_M cx_C mu_X1_yearWith (fun ad => [.int p1, .int p2]) s (some (.int r)) s := by
  refine ax_enter (by decide +kernel) 1 (fun ad => [some (.int p1), some (.int p2), none]) (fun ad => rfl) (fun ad => Nat.le_of_ble_eq_true rfl) (fun X hV ho => ?_)
  refine ax_go (fun r : Int32 => (some (Value.int r), s)) (fun P hP => ?_) h ho
  unfold f_X1_yearWith
  refine ax_j (ax_iload_n hV dX1_yearWith_0 rfl) ?_
  refine ax_j (ax_gst hV ms_2 ls_X1_17 dX1_yearWith_1) ?_
  refine ax_j (ax_iload_n hV dX1_yearWith_4 rfl) ?_
  refine ax_jb (ax_sald hV ms_2 dX1_yearWith_5) (fun v5 => ?_)
  refine ax_j (ax_isub hV dX1_yearWith_6) ?_
  refine ax_j (ax_sipush hV (366 : Int32) dX1_yearWith_7 (by decide)) ?_
  refine ax_jb (ax_idiv_ hV dX1_yearWith_10) (fun v10 => ?_)
  refine ax_j (ax_iconst hV (1 : Int32) dX1_yearWith_11 (by decide)) ?_
  refine ax_j (ax_iadd hV dX1_yearWith_12) ?_
  refine ax_j (ax_istore_n hV [some (.int p1), some (.int p2), some (.int (v10 + (1 : Int32)))] dX1_yearWith_13 rfl rfl) ?_
  refine ax_jlp (v10 + (1 : Int32)) (fun a => [some (.int p1), some (.int p2), some (.int a)]) (fun a => s) (fun e => [none, none, some (.int e)]) (fun e => s) (fun P' h1 h2 a => B_X1_yearWith_14 X hV p1 p2 s P' h1 h2 a) (fun e14 => ?_)
  refine ax_j (ax_iload_n hV dX1_yearWith_40 rfl) ?_
  exact ax_jl (fun h => ax_ir hV rfl dX1_yearWith_41 (hP e14 h))
theorem lk_X9_279 : ax_lkS RX9 279 mu_X1_yearWith 2 := ax_lkS_of (ax_m4 25 rfl rfl) (ax_m4 26 rfl rfl) (ax_m1 16 rfl rfl) lc_X1_yearWith ⟨by decide +kernel, by decide +kernel, by decide +kernel⟩
def mu_X1_monthWith : ax_Mu := (yX1_monthWith, cX1_monthWith, 4, some .int, 2, 45)
theorem lc_X1_monthWith : Cond.code mu_X1_monthWith.1 mu_X1_monthWith.2.1 mu_X1_monthWith.2.2.1 mu_X1_monthWith.2.2.2.1 ∈ ax_tb := (ax_m4 30 rfl rfl)
noncomputable def b_X1_monthWith_2 (l0 : Int32) (l1 : Int32) (l2 : Int32) (s : ax_S) (a : Int32) : Option ((Int32) ⊕ (Int32)) := (if (12 : Int32) ≤ a then some (.inr a) else (f_X1_dayNumber l0 (1 : Int32) (a + (1 : Int32)) l2 s).bind (fun q14 => (if l1 < q14 then some (.inr a) else some (.inl (a + 1)))))
noncomputable def f_X1_monthWith (p1 : Int32) (p2 : Int32) (p3 : Int32) (s : ax_S) : Option (Int32) := (ax_lp (b_X1_monthWith_2 p1 p2 p3 s) (1 : Int32)).bind (fun e2 => some (e2))
theorem B_X1_monthWith_2 (X : ax_G × ax_K × Option Value × ax_S) (hV : ax_ok (cx_C, X) mu_X1_monthWith) (l0 : Int32) (l1 : Int32) (l2 : Int32) (s : ax_S) (P : ((Int32) ⊕ (Int32)) → Prop) (hI : ∀ a : Int32, P (.inl a) → ax_At (cx_C, X) 2 [some (.int l0), some (.int l1), some (.int l2), some (.int a)] [] s) (hO : ∀ e : Int32, P (.inr e) → ax_At (cx_C, X) 27 [none, none, none, some (.int e)] [] s) (a : Int32) : ax_J (cx_C, X) P 2 [some (.int l0), some (.int l1), some (.int l2), some (.int a)] [] s (b_X1_monthWith_2 l0 l1 l2 s a) := by
  unfold b_X1_monthWith_2
  refine ax_j (ax_iload_n hV dX1_monthWith_2 rfl) ?_
  refine ax_j (ax_bipush hV (12 : Int32) dX1_monthWith_3 (by decide)) ?_
  refine ax_jif (ax_icmp_ge hV dX1_monthWith_5) ?_ ?_
  · refine ax_jf (lv' := [none, none, none, some (.int a)]) [false, false, false, true] rfl ?_
    exact ax_jl (fun h => hO a h)
  · refine ax_j (ax_iload_n hV dX1_monthWith_8 rfl) ?_
    refine ax_j (ax_iconst hV (1 : Int32) dX1_monthWith_9 (by decide)) ?_
    refine ax_j (ax_iload_n hV dX1_monthWith_10 rfl) ?_
    refine ax_j (ax_iconst hV (1 : Int32) dX1_monthWith_11 (by decide)) ?_
    refine ax_j (ax_iadd hV dX1_monthWith_12) ?_
    refine ax_j (ax_iload_n hV dX1_monthWith_13 rfl) ?_
    refine ax_jb (fun v ho => ax_cSi hV lk_X1_27 rfl dX1_monthWith_14 [.int l0, .int (1 : Int32), .int (a + (1 : Int32)), .int l2] [] (fun ad => [.int l0, .int (1 : Int32), .int (a + (1 : Int32)), .int l2]) rfl rfl rfl rfl v s (T_X1_dayNumber l0 (1 : Int32) (a + (1 : Int32)) l2 s v ho)) (fun q14 => ?_)
    refine ax_j (ax_iload_n hV dX1_monthWith_17 rfl) ?_
    refine ax_jif (ax_icmp_gt hV dX1_monthWith_18) ?_ ?_
    · refine ax_jf (lv' := [none, none, none, some (.int a)]) [false, false, false, true] rfl ?_
      exact ax_jl (fun h => hO a h)
    · refine ax_j (ax_iinc hV (a + 1) [some (.int l0), some (.int l1), some (.int l2), some (.int (a + 1))] dX1_monthWith_21 rfl rfl rfl rfl) ?_
      refine ax_j (ax_goto hV dX1_monthWith_24) ?_
      exact ax_jl (fun h => hI (a + 1) h)
theorem T_X1_monthWith (p1 : Int32) (p2 : Int32) (p3 : Int32) (s : ax_S) (r : Int32) (h : f_X1_monthWith p1 p2 p3 s = some r) : ax_M cx_C mu_X1_monthWith (fun ad => [.int p1, .int p2, .int p3]) s (some (.int r)) s := by
  refine ax_enter (by decide +kernel) 1 (fun ad => [some (.int p1), some (.int p2), some (.int p3), none]) (fun ad => rfl) (fun ad => Nat.le_of_ble_eq_true rfl) (fun X hV ho => ?_)
  refine ax_go (fun r : Int32 => (some (Value.int r), s)) (fun P hP => ?_) h ho
  unfold f_X1_monthWith
  refine ax_j (ax_iconst hV (1 : Int32) dX1_monthWith_0 (by decide)) ?_
  refine ax_j (ax_istore_n hV [some (.int p1), some (.int p2), some (.int p3), some (.int (1 : Int32))] dX1_monthWith_1 rfl rfl) ?_
  refine ax_jlp (1 : Int32) (fun a => [some (.int p1), some (.int p2), some (.int p3), some (.int a)]) (fun a => s) (fun e => [none, none, none, some (.int e)]) (fun e => s) (fun P' h1 h2 a => B_X1_monthWith_2 X hV p1 p2 p3 s P' h1 h2 a) (fun e2 => ?_)
  refine ax_j (ax_iload_n hV dX1_monthWith_27 rfl) ?_
  exact ax_jl (fun h => ax_ir hV rfl dX1_monthWith_28 (hP e2 h))
theorem lk_X9_282 : ax_lkS RX9 282 mu_X1_monthWith 3 := ax_lkS_of (ax_m4 28 rfl rfl) (ax_m4 29 rfl rfl) (ax_m1 16 rfl rfl) lc_X1_monthWith ⟨by decide +kernel, by decide +kernel, by decide +kernel⟩
def mu_X2_append : ax_Mu := (yX2_append, cX2_append, 2, some .int, 0, 0)
theorem lc_X2_append : Cond.code mu_X2_append.1 mu_X2_append.2.1 mu_X2_append.2.2.1 mu_X2_append.2.2.2.1 ∈ ax_tb := (ax_m4 38 rfl rfl)
noncomputable def f_X2_append (p1 : Int32) (s : ax_S) : Option (Int32 × ax_S) := (if (s.1 7 1) < (40 : Int32) then (ax_si cx_C s 36 (s.1 7 1) p1).bind (fun s21 => some ((((ax_ui s21 7 1 ((s21.1 7 1) + (1 : Int32))).1 7 1), (ax_ui s21 7 1 ((s21.1 7 1) + (1 : Int32)))))) else some (((-4 : Int32), s)))
theorem T_X2_append (p1 : Int32) (s : ax_S) (r : Int32 × ax_S) (h : f_X2_append p1 s = some r) : ax_M cx_C mu_X2_append (fun ad => [.ref (ad 7), .int p1]) s (some (.int r.1)) r.2 := by
  refine ax_enter (by decide +kernel) 0 (fun ad => [some (.ref (ad 7)), some (.int p1)]) (fun ad => rfl) (fun ad => Nat.le_of_ble_eq_true rfl) (fun X hV ho => ?_)
  refine ax_go (fun r : Int32 × ax_S => (some (Value.int r.1), r.2)) (fun P hP => ?_) h ho
  unfold f_X2_append
  refine ax_j (ax_aload_n hV dX2_append_0 rfl) ?_
  refine ax_j (ax_gfi hV lf_X2_15 dX2_append_1 rfl rfl) ?_
  refine ax_j (ax_bipush hV (40 : Int32) dX2_append_4 (by decide)) ?_
  refine ax_jif (ax_icmp_lt hV dX2_append_6) ?_ ?_
  · refine ax_j (ax_aload_n hV dX2_append_12 rfl) ?_
    refine ax_j (ax_gfr hV lf_X2_9 dX2_append_13 rfl rfl) ?_
    refine ax_j (ax_aload_n hV dX2_append_16 rfl) ?_
    refine ax_j (ax_gfi hV lf_X2_15 dX2_append_17 rfl rfl) ?_
    refine ax_j (ax_iload_n hV dX2_append_20 rfl) ?_
    refine ax_jb (ax_iast hV dX2_append_21) (fun s21 => ?_)
    refine ax_j (ax_aload_n hV dX2_append_22 rfl) ?_
    refine ax_j (ax_dup hV dX2_append_23 rfl) ?_
    refine ax_j (ax_gfi hV lf_X2_15 dX2_append_24 rfl rfl) ?_
    refine ax_j (ax_iconst hV (1 : Int32) dX2_append_27 (by decide)) ?_
    refine ax_j (ax_iadd hV dX2_append_28) ?_
    refine ax_j (ax_pfi hV lp_X2_15 dX2_append_29 rfl rfl) ?_
    refine ax_j (ax_aload_n hV dX2_append_32 rfl) ?_
    refine ax_j (ax_gfi hV lf_X2_15 dX2_append_33 rfl rfl) ?_
    exact ax_jl (fun h => ax_ir hV rfl dX2_append_36 (hP (((ax_ui s21 7 1 ((s21.1 7 1) + (1 : Int32))).1 7 1), (ax_ui s21 7 1 ((s21.1 7 1) + (1 : Int32)))) h))
  · refine ax_j (ax_bipush hV (-4 : Int32) dX2_append_9 (by decide)) ?_
    exact ax_jl (fun h => ax_ir hV rfl dX2_append_11 (hP ((-4 : Int32), s) h))
theorem lk_X9_286 : ax_lkV RX9 286 mu_X2_append RX2 1 := ax_lkV_of (ax_m4 35 rfl rfl) (ax_m4 36 rfl rfl) (ax_m4 37 rfl rfl) (ax_m1 8 rfl rfl) lc_X2_append rfl ⟨by decide +kernel, by decide +kernel, by decide +kernel⟩
def mu_X2_signHere : ax_Mu := (yX2_signHere, cX2_signHere, 1, some .int, 0, 0)
theorem lc_X2_signHere : Cond.code mu_X2_signHere.1 mu_X2_signHere.2.1 mu_X2_signHere.2.2.1 mu_X2_signHere.2.2.2.1 ∈ ax_tb := (ax_m4 62 rfl rfl)
noncomputable def f_X2_signHere  (s : ax_S) : Option (Int32) := (if (s.1 7 1) ≤ (s.1 7 4) then some ((-1 : Int32)) else (ax_ai cx_C s 36 (s.1 7 4)).bind (fun v19 => some (v19)))
theorem T_X2_signHere  (s : ax_S) (r : Int32) (h : f_X2_signHere s = some r) : ax_M cx_C mu_X2_signHere (fun ad => [.ref (ad 7)]) s (some (.int r)) s := by
  refine ax_enter (by decide +kernel) 0 (fun ad => [some (.ref (ad 7))]) (fun ad => rfl) (fun ad => Nat.le_of_ble_eq_true rfl) (fun X hV ho => ?_)
  refine ax_go (fun r : Int32 => (some (Value.int r), s)) (fun P hP => ?_) h ho
  unfold f_X2_signHere
  refine ax_j (ax_aload_n hV dX2_signHere_0 rfl) ?_
  refine ax_j (ax_gfi hV lf_X2_25 dX2_signHere_1 rfl rfl) ?_
  refine ax_j (ax_aload_n hV dX2_signHere_4 rfl) ?_
  refine ax_j (ax_gfi hV lf_X2_15 dX2_signHere_5 rfl rfl) ?_
  refine ax_jif (ax_icmp_ge hV dX2_signHere_8) ?_ ?_
  · refine ax_j (ax_iconst hV (-1 : Int32) dX2_signHere_23 (by decide)) ?_
    exact ax_jl (fun h => ax_ir hV rfl dX2_signHere_24 (hP (-1 : Int32) h))
  · refine ax_j (ax_aload_n hV dX2_signHere_11 rfl) ?_
    refine ax_j (ax_gfr hV lf_X2_9 dX2_signHere_12 rfl rfl) ?_
    refine ax_j (ax_aload_n hV dX2_signHere_15 rfl) ?_
    refine ax_j (ax_gfi hV lf_X2_25 dX2_signHere_16 rfl rfl) ?_
    refine ax_jb (ax_iald hV dX2_signHere_19) (fun v19 => ?_)
    refine ax_j (ax_goto hV dX2_signHere_20) ?_
    exact ax_jl (fun h => ax_ir hV rfl dX2_signHere_24 (hP v19 h))
theorem lk_X2_38 : ax_lkV RX2 38 mu_X2_signHere RX2 0 := ax_lkV_of (ax_m4 59 rfl rfl) (ax_m4 61 rfl rfl) (ax_mp3 1 rfl rfl rfl) (ax_m1 8 rfl rfl) lc_X2_signHere rfl ⟨by decide +kernel, by decide +kernel, by decide +kernel⟩
def mu_X2_isFigure : ax_Mu := (yX2_isFigure, cX2_isFigure, 1, some .boolean, 0, 0)
theorem lc_X2_isFigure : Cond.code mu_X2_isFigure.1 mu_X2_isFigure.2.1 mu_X2_isFigure.2.2.1 mu_X2_isFigure.2.2.2.1 ∈ ax_tb := (ax_m4 65 rfl rfl)
noncomputable def f_X2_isFigure (p1 : Int32) : Option (Int32) := (if p1 < (48 : Int32) then some ((0 : Int32)) else (if (57 : Int32) < p1 then some ((0 : Int32)) else some ((1 : Int32))))
theorem T_X2_isFigure (p1 : Int32) (s : ax_S) (r : Int32) (h : f_X2_isFigure p1 = some r) : ax_M cx_C mu_X2_isFigure (fun ad => [.int p1]) s (some (.int r)) s := by
  refine ax_enter (by decide +kernel) 0 (fun ad => [some (.int p1)]) (fun ad => rfl) (fun ad => Nat.le_of_ble_eq_true rfl) (fun X hV ho => ?_)
  refine ax_go (fun r : Int32 => (some (Value.int r), s)) (fun P hP => ?_) h ho
  unfold f_X2_isFigure
  refine ax_j (ax_iload_n hV dX2_isFigure_0 rfl) ?_
  refine ax_j (ax_bipush hV (48 : Int32) dX2_isFigure_1 (by decide)) ?_
  refine ax_jif (ax_icmp_lt hV dX2_isFigure_3) ?_ ?_
  · refine ax_j (ax_iconst hV (0 : Int32) dX2_isFigure_16 (by decide)) ?_
    exact ax_jl (fun h => ax_zr hV rfl (by decide) dX2_isFigure_17 (hP (0 : Int32) h))
  · refine ax_j (ax_iload_n hV dX2_isFigure_6 rfl) ?_
    refine ax_j (ax_bipush hV (57 : Int32) dX2_isFigure_7 (by decide)) ?_
    refine ax_jif (ax_icmp_gt hV dX2_isFigure_9) ?_ ?_
    · refine ax_j (ax_iconst hV (0 : Int32) dX2_isFigure_16 (by decide)) ?_
      exact ax_jl (fun h => ax_zr hV rfl (by decide) dX2_isFigure_17 (hP (0 : Int32) h))
    · refine ax_j (ax_iconst hV (1 : Int32) dX2_isFigure_12 (by decide)) ?_
      refine ax_j (ax_goto hV dX2_isFigure_13) ?_
      exact ax_jl (fun h => ax_zr hV rfl (by decide) dX2_isFigure_17 (hP (1 : Int32) h))
theorem lk_X2_68 : ax_lkS RX2 68 mu_X2_isFigure 1 := ax_lkS_of (ax_m4 63 rfl rfl) (ax_m4 64 rfl rfl) (ax_m1 8 rfl rfl) lc_X2_isFigure ⟨by decide +kernel, by decide +kernel, by decide +kernel⟩
def mu_X2_readNumber : ax_Mu := (yX2_readNumber, cX2_readNumber, 5, some .int, 1, 20)
theorem lc_X2_readNumber : Cond.code mu_X2_readNumber.1 mu_X2_readNumber.2.1 mu_X2_readNumber.2.2.1 mu_X2_readNumber.2.2.2.1 ∈ ax_tb := (ax_m4 58 rfl rfl)
noncomputable def b_X2_readNumber_13 (l1 : Int32) (l2 : Int32) (l3 : Int32) (a : Int32 × ax_S) : Option ((Int32 × ax_S) ⊕ (ax_S)) := (if l1 ≤ a.1 then some (.inr a.2) else (f_X2_signHere a.2).bind (fun q20 => (f_X2_isFigure q20).bind (fun q23 => (if q23 = 0 then some (.inr a.2) else (f_X2_signHere a.2).bind (fun q38 => some (.inl ((a.1 + 1), (ax_ui (ax_ui a.2 7 5 ((((10 : Int32) * (a.2.1 7 5)) + q38) - (48 : Int32))) 7 4 (((ax_ui a.2 7 5 ((((10 : Int32) * (a.2.1 7 5)) + q38) - (48 : Int32))).1 7 4) + (1 : Int32))))))))))
noncomputable def j_X2_readNumber_64 (l2 : Int32) (l3 : Int32) (s : ax_S) : Option (Int32 × ax_S) := (if (s.1 7 5) < (1 : Int32) then some ((l3, s)) else (if (s.1 7 5) ≤ l2 then some (((-1 : Int32), s)) else some ((l3, s))))
noncomputable def f_X2_readNumber (p1 : Int32) (p2 : Int32) (s : ax_S) : Option (Int32 × ax_S) := (ax_lp (b_X2_readNumber_13 p1 p2 (s.1 7 4)) ((0 : Int32), (ax_ui s 7 5 (0 : Int32)))).bind (fun e13 => j_X2_readNumber_64 p2 (s.1 7 4) e13)
theorem B_X2_readNumber_13 (X : ax_G × ax_K × Option Value × ax_S) (hV : ax_ok (cx_C, X) mu_X2_readNumber) (l1 : Int32) (l2 : Int32) (l3 : Int32) (P : ((Int32 × ax_S) ⊕ (ax_S)) → Prop) (hI : ∀ a : Int32 × ax_S, P (.inl a) → ax_At (cx_C, X) 13 [some (.ref (ax_ad (cx_C, X) 7)), some (.int l1), some (.int l2), some (.int l3), some (.int a.1)] [] a.2) (hO : ∀ e : ax_S, P (.inr e) → ax_At (cx_C, X) 64 [some (.ref (ax_ad (cx_C, X) 7)), none, some (.int l2), some (.int l3), none] [] e) (a : Int32 × ax_S) : ax_J (cx_C, X) P 13 [some (.ref (ax_ad (cx_C, X) 7)), some (.int l1), some (.int l2), some (.int l3), some (.int a.1)] [] a.2 (b_X2_readNumber_13 l1 l2 l3 a) := by
  unfold b_X2_readNumber_13
  refine ax_j (ax_iload hV dX2_readNumber_13 rfl) ?_
  refine ax_j (ax_iload_n hV dX2_readNumber_15 rfl) ?_
  refine ax_jif (ax_icmp_ge hV dX2_readNumber_16) ?_ ?_
  · refine ax_jf (lv' := [some (.ref (ax_ad (cx_C, X) 7)), none, some (.int l2), some (.int l3), none]) [true, false, true, true, false] rfl ?_
    exact ax_jl (fun h => hO a.2 h)
  · refine ax_j (ax_aload_n hV dX2_readNumber_19 rfl) ?_
    refine ax_jb (fun v ho => ax_cVi hV lk_X2_38 rfl dX2_readNumber_20 rfl rfl [] [] (fun ad => [.ref (ad 7)]) rfl rfl rfl rfl v a.2 (T_X2_signHere a.2 v ho)) (fun q20 => ?_)
    refine ax_jb (fun v ho => ax_cSi hV lk_X2_68 rfl dX2_readNumber_23 [.int q20] [] (fun ad => [.int q20]) rfl rfl rfl rfl v a.2 (T_X2_isFigure q20 a.2 v ho)) (fun q23 => ?_)
    refine ax_jif (ax_if_eq hV dX2_readNumber_26) ?_ ?_
    · refine ax_jf (lv' := [some (.ref (ax_ad (cx_C, X) 7)), none, some (.int l2), some (.int l3), none]) [true, false, true, true, false] rfl ?_
      exact ax_jl (fun h => hO a.2 h)
    · refine ax_j (ax_aload_n hV dX2_readNumber_29 rfl) ?_
      refine ax_j (ax_bipush hV (10 : Int32) dX2_readNumber_30 (by decide)) ?_
      refine ax_j (ax_aload_n hV dX2_readNumber_32 rfl) ?_
      refine ax_j (ax_gfi hV lf_X2_28 dX2_readNumber_33 rfl rfl) ?_
      refine ax_j (ax_imul hV dX2_readNumber_36) ?_
      refine ax_j (ax_aload_n hV dX2_readNumber_37 rfl) ?_
      refine ax_jb (fun v ho => ax_cVi hV lk_X2_38 rfl dX2_readNumber_38 rfl rfl [] [.int ((10 : Int32) * (a.2.1 7 5)), .ref (ax_ad (cx_C, X) 7)] (fun ad => [.ref (ad 7)]) rfl rfl rfl rfl v a.2 (T_X2_signHere a.2 v ho)) (fun q38 => ?_)
      refine ax_j (ax_iadd hV dX2_readNumber_41) ?_
      refine ax_j (ax_bipush hV (48 : Int32) dX2_readNumber_42 (by decide)) ?_
      refine ax_j (ax_isub hV dX2_readNumber_44) ?_
      refine ax_j (ax_pfi hV lp_X2_28 dX2_readNumber_45 rfl rfl) ?_
      refine ax_j (ax_aload_n hV dX2_readNumber_48 rfl) ?_
      refine ax_j (ax_dup hV dX2_readNumber_49 rfl) ?_
      refine ax_j (ax_gfi hV lf_X2_25 dX2_readNumber_50 rfl rfl) ?_
      refine ax_j (ax_iconst hV (1 : Int32) dX2_readNumber_53 (by decide)) ?_
      refine ax_j (ax_iadd hV dX2_readNumber_54) ?_
      refine ax_j (ax_pfi hV lp_X2_25 dX2_readNumber_55 rfl rfl) ?_
      refine ax_j (ax_iinc hV (a.1 + 1) [some (.ref (ax_ad (cx_C, X) 7)), some (.int l1), some (.int l2), some (.int l3), some (.int (a.1 + 1))] dX2_readNumber_58 rfl rfl rfl rfl) ?_
      refine ax_j (ax_goto hV dX2_readNumber_61) ?_
      exact ax_jl (fun h => hI ((a.1 + 1), (ax_ui (ax_ui a.2 7 5 ((((10 : Int32) * (a.2.1 7 5)) + q38) - (48 : Int32))) 7 4 (((ax_ui a.2 7 5 ((((10 : Int32) * (a.2.1 7 5)) + q38) - (48 : Int32))).1 7 4) + (1 : Int32)))) h)
theorem N_X2_readNumber_64 (X : ax_G × ax_K × Option Value × ax_S) (hV : ax_ok (cx_C, X) mu_X2_readNumber)  (P : (Int32 × ax_S) → Prop) (hP : ∀ r : Int32 × ax_S, P r → X.2.2 = (fun r : Int32 × ax_S => (some (Value.int r.1), r.2)) r) (l2 : Int32) (l3 : Int32) (s : ax_S) : ax_J (cx_C, X) P 64 [some (.ref (ax_ad (cx_C, X) 7)), none, some (.int l2), some (.int l3), none] [] s (j_X2_readNumber_64 l2 l3 s) := by
  unfold j_X2_readNumber_64
  refine ax_j (ax_aload_n hV dX2_readNumber_64 rfl) ?_
  refine ax_j (ax_gfi hV lf_X2_28 dX2_readNumber_65 rfl rfl) ?_
  refine ax_j (ax_iconst hV (1 : Int32) dX2_readNumber_68 (by decide)) ?_
  refine ax_jif (ax_icmp_lt hV dX2_readNumber_69) ?_ ?_
  · refine ax_j (ax_iload_n hV dX2_readNumber_80 rfl) ?_
    refine ax_j (ax_goto hV dX2_readNumber_81) ?_
    exact ax_jl (fun h => ax_ir hV rfl dX2_readNumber_85 (hP (l3, s) h))
  · refine ax_j (ax_aload_n hV dX2_readNumber_72 rfl) ?_
    refine ax_j (ax_gfi hV lf_X2_28 dX2_readNumber_73 rfl rfl) ?_
    refine ax_j (ax_iload_n hV dX2_readNumber_76 rfl) ?_
    refine ax_jif (ax_icmp_le hV dX2_readNumber_77) ?_ ?_
    · refine ax_j (ax_iconst hV (-1 : Int32) dX2_readNumber_84 (by decide)) ?_
      exact ax_jl (fun h => ax_ir hV rfl dX2_readNumber_85 (hP ((-1 : Int32), s) h))
    · refine ax_j (ax_iload_n hV dX2_readNumber_80 rfl) ?_
      refine ax_j (ax_goto hV dX2_readNumber_81) ?_
      exact ax_jl (fun h => ax_ir hV rfl dX2_readNumber_85 (hP (l3, s) h))
theorem T_X2_readNumber (p1 : Int32) (p2 : Int32) (s : ax_S) (r : Int32 × ax_S) (h : f_X2_readNumber p1 p2 s = some r) : ax_M cx_C mu_X2_readNumber (fun ad => [.ref (ad 7), .int p1, .int p2]) s (some (.int r.1)) r.2 := by
  refine ax_enter (by decide +kernel) 2 (fun ad => [some (.ref (ad 7)), some (.int p1), some (.int p2), none, none]) (fun ad => rfl) (fun ad => Nat.le_of_ble_eq_true rfl) (fun X hV ho => ?_)
  refine ax_go (fun r : Int32 × ax_S => (some (Value.int r.1), r.2)) (fun P hP => ?_) h ho
  unfold f_X2_readNumber
  refine ax_j (ax_aload_n hV dX2_readNumber_0 rfl) ?_
  refine ax_j (ax_gfi hV lf_X2_25 dX2_readNumber_1 rfl rfl) ?_
  refine ax_j (ax_istore_n hV [some (.ref (ax_ad (cx_C, X) 7)), some (.int p1), some (.int p2), some (.int (s.1 7 4)), none] dX2_readNumber_4 rfl rfl) ?_
  refine ax_j (ax_aload_n hV dX2_readNumber_5 rfl) ?_
  refine ax_j (ax_iconst hV (0 : Int32) dX2_readNumber_6 (by decide)) ?_
  refine ax_j (ax_pfi hV lp_X2_28 dX2_readNumber_7 rfl rfl) ?_
  refine ax_j (ax_iconst hV (0 : Int32) dX2_readNumber_10 (by decide)) ?_
  refine ax_j (ax_istore hV [some (.ref (ax_ad (cx_C, X) 7)), some (.int p1), some (.int p2), some (.int (s.1 7 4)), some (.int (0 : Int32))] dX2_readNumber_11 rfl rfl) ?_
  refine ax_jlp ((0 : Int32), (ax_ui s 7 5 (0 : Int32))) (fun a => [some (.ref (ax_ad (cx_C, X) 7)), some (.int p1), some (.int p2), some (.int (s.1 7 4)), some (.int a.1)]) (fun a => a.2) (fun e => [some (.ref (ax_ad (cx_C, X) 7)), none, some (.int p2), some (.int (s.1 7 4)), none]) (fun e => e) (fun P' h1 h2 a => B_X2_readNumber_13 X hV p1 p2 (s.1 7 4) P' h1 h2 a) (fun e13 => ?_)
  exact N_X2_readNumber_64 X hV  P hP p2 (s.1 7 4) e13
theorem lk_X2_44 : ax_lkV RX2 44 mu_X2_readNumber RX2 2 := ax_lkV_of (ax_m4 55 rfl rfl) (ax_m4 57 rfl rfl) (ax_mp3 0 rfl rfl rfl) (ax_m1 8 rfl rfl) lc_X2_readNumber rfl ⟨by decide +kernel, by decide +kernel, by decide +kernel⟩
end
