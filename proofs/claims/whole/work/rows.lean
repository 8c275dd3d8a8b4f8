section
-- ===== PART A: goes FIRST, ahead of the names: the tables' words, and 'selects' of the private methods out of them =====
/-- a private method of a class that the tables say can be made, by its rows of tables_1 -/
def lw_okq (q : MethodName × Nat) : Prop := (q.1.cls ≠ "java/lang/invoke/MethodHandle" ∧ q.1.cls ≠ "java/lang/invoke/VarHandle") ∧ Cond.instantiable q.1.cls q.2 ∈ tables_1 ∧ Cond.privateMethod q.1 ∈ tables_1 ∧ Cond.instanceMethod q.1 ∈ tables_1
theorem lw_p0 : lw_okq (⟨"WhenItWas", "isBook", "(I)Z"⟩, 12) := ⟨⟨by decide +kernel, by decide +kernel⟩, List.mem_of_getElem? (i := 18) (by decide +kernel), List.mem_of_getElem? (i := 328) (by decide +kernel), List.mem_of_getElem? (i := 329) (by decide +kernel)⟩
theorem lw_p1 : lw_okq (⟨"WhenItWas", "isThing", "(I)Z"⟩, 12) := ⟨⟨by decide +kernel, by decide +kernel⟩, List.mem_of_getElem? (i := 18) (by decide +kernel), List.mem_of_getElem? (i := 336) (by decide +kernel), List.mem_of_getElem? (i := 337) (by decide +kernel)⟩
theorem lw_p2 : lw_okq (⟨"WhenItWas", "areTwoThings", "(II)Z"⟩, 12) := ⟨⟨by decide +kernel, by decide +kernel⟩, List.mem_of_getElem? (i := 18) (by decide +kernel), List.mem_of_getElem? (i := 349) (by decide +kernel), List.mem_of_getElem? (i := 350) (by decide +kernel)⟩
theorem lw_p3 : lw_okq (⟨"WhenItWas", "found", "(I)I"⟩, 12) := ⟨⟨by decide +kernel, by decide +kernel⟩, List.mem_of_getElem? (i := 18) (by decide +kernel), List.mem_of_getElem? (i := 365) (by decide +kernel), List.mem_of_getElem? (i := 366) (by decide +kernel)⟩
theorem lw_p4 : lw_okq (⟨"WhenItWas", "tellFromSheet", "(II)I"⟩, 12) := ⟨⟨by decide +kernel, by decide +kernel⟩, List.mem_of_getElem? (i := 18) (by decide +kernel), List.mem_of_getElem? (i := 369) (by decide +kernel), List.mem_of_getElem? (i := 370) (by decide +kernel)⟩
theorem lw_p5 : lw_okq (⟨"WhenItWas", "isRow", "(I)Z"⟩, 12) := ⟨⟨by decide +kernel, by decide +kernel⟩, List.mem_of_getElem? (i := 18) (by decide +kernel), List.mem_of_getElem? (i := 383) (by decide +kernel), List.mem_of_getElem? (i := 384) (by decide +kernel)⟩
theorem lw_p6 : lw_okq (⟨"WhenItWas", "dayOfView", "()I"⟩, 12) := ⟨⟨by decide +kernel, by decide +kernel⟩, List.mem_of_getElem? (i := 18) (by decide +kernel), List.mem_of_getElem? (i := 392) (by decide +kernel), List.mem_of_getElem? (i := 393) (by decide +kernel)⟩
theorem lw_p7 : lw_okq (⟨"WhenItWas", "knownRows", "()J"⟩, 12) := ⟨⟨by decide +kernel, by decide +kernel⟩, List.mem_of_getElem? (i := 18) (by decide +kernel), List.mem_of_getElem? (i := 411) (by decide +kernel), List.mem_of_getElem? (i := 412) (by decide +kernel)⟩
theorem lw_p8 : lw_okq (⟨"WhenItWas$Net", "load", "(J)V"⟩, 13) := ⟨⟨by decide +kernel, by decide +kernel⟩, List.mem_of_getElem? (i := 26) (by decide +kernel), List.mem_of_getElem? (i := 425) (by decide +kernel), List.mem_of_getElem? (i := 426) (by decide +kernel)⟩
theorem lw_p9 : lw_okq (⟨"WhenItWas$Net", "addRow", "(I)V"⟩, 13) := ⟨⟨by decide +kernel, by decide +kernel⟩, List.mem_of_getElem? (i := 26) (by decide +kernel), List.mem_of_getElem? (i := 434) (by decide +kernel), List.mem_of_getElem? (i := 435) (by decide +kernel)⟩
theorem lw_p10 : lw_okq (⟨"WhenItWas$Net", "settle", "([IZ)Z"⟩, 13) := ⟨⟨by decide +kernel, by decide +kernel⟩, List.mem_of_getElem? (i := 26) (by decide +kernel), List.mem_of_getElem? (i := 441) (by decide +kernel), List.mem_of_getElem? (i := 442) (by decide +kernel)⟩
theorem lw_p11 : lw_okq (⟨"WhenItWas$Net", "sweep", "([IZ)Z"⟩, 13) := ⟨⟨by decide +kernel, by decide +kernel⟩, List.mem_of_getElem? (i := 26) (by decide +kernel), List.mem_of_getElem? (i := 448) (by decide +kernel), List.mem_of_getElem? (i := 449) (by decide +kernel)⟩
theorem lw_p12 : lw_okq (⟨"WhenItWas$Net", "turnFloorInto", "([I)V"⟩, 13) := ⟨⟨by decide +kernel, by decide +kernel⟩, List.mem_of_getElem? (i := 26) (by decide +kernel), List.mem_of_getElem? (i := 469) (by decide +kernel), List.mem_of_getElem? (i := 470) (by decide +kernel)⟩
theorem lw_p13 : lw_okq (⟨"WhenItWas$Net", "stepOnce", "(Z)V"⟩, 13) := ⟨⟨by decide +kernel, by decide +kernel⟩, List.mem_of_getElem? (i := 26) (by decide +kernel), List.mem_of_getElem? (i := 508) (by decide +kernel), List.mem_of_getElem? (i := 509) (by decide +kernel)⟩
theorem lw_p14 : lw_okq (⟨"WhenItWas", "isFitting", "(I)Z"⟩, 12) := ⟨⟨by decide +kernel, by decide +kernel⟩, List.mem_of_getElem? (i := 18) (by decide +kernel), List.mem_of_getElem? (i := 535) (by decide +kernel), List.mem_of_getElem? (i := 536) (by decide +kernel)⟩
theorem lw_p15 : lw_okq (⟨"WhenItWas", "areApartAsTold", "(I)Z"⟩, 12) := ⟨⟨by decide +kernel, by decide +kernel⟩, List.mem_of_getElem? (i := 18) (by decide +kernel), List.mem_of_getElem? (i := 540) (by decide +kernel), List.mem_of_getElem? (i := 541) (by decide +kernel)⟩
def lw_privs_1 : List (MethodName × Nat) := [(⟨"WhenItWas", "isBook", "(I)Z"⟩, 12), (⟨"WhenItWas", "isThing", "(I)Z"⟩, 12), (⟨"WhenItWas", "areTwoThings", "(II)Z"⟩, 12), (⟨"WhenItWas", "found", "(I)I"⟩, 12), (⟨"WhenItWas", "tellFromSheet", "(II)I"⟩, 12), (⟨"WhenItWas", "isRow", "(I)Z"⟩, 12), (⟨"WhenItWas", "dayOfView", "()I"⟩, 12), (⟨"WhenItWas", "knownRows", "()J"⟩, 12), (⟨"WhenItWas$Net", "load", "(J)V"⟩, 13), (⟨"WhenItWas$Net", "addRow", "(I)V"⟩, 13), (⟨"WhenItWas$Net", "settle", "([IZ)Z"⟩, 13), (⟨"WhenItWas$Net", "sweep", "([IZ)Z"⟩, 13), (⟨"WhenItWas$Net", "turnFloorInto", "([I)V"⟩, 13), (⟨"WhenItWas$Net", "stepOnce", "(Z)V"⟩, 13), (⟨"WhenItWas", "isFitting", "(I)Z"⟩, 12), (⟨"WhenItWas", "areApartAsTold", "(I)Z"⟩, 12)]
theorem lw_r1 : ∀ q ∈ lw_privs_1, lw_okq q := List.forall_mem_cons.mpr ⟨lw_p0, List.forall_mem_cons.mpr ⟨lw_p1, List.forall_mem_cons.mpr ⟨lw_p2, List.forall_mem_cons.mpr ⟨lw_p3, List.forall_mem_cons.mpr ⟨lw_p4, List.forall_mem_cons.mpr ⟨lw_p5, List.forall_mem_cons.mpr ⟨lw_p6, List.forall_mem_cons.mpr ⟨lw_p7, List.forall_mem_cons.mpr ⟨lw_p8, List.forall_mem_cons.mpr ⟨lw_p9, List.forall_mem_cons.mpr ⟨lw_p10, List.forall_mem_cons.mpr ⟨lw_p11, List.forall_mem_cons.mpr ⟨lw_p12, List.forall_mem_cons.mpr ⟨lw_p13, List.forall_mem_cons.mpr ⟨lw_p14, List.forall_mem_cons.mpr ⟨lw_p15, fun _ h => absurd h List.not_mem_nil⟩⟩⟩⟩⟩⟩⟩⟩⟩⟩⟩⟩⟩⟩⟩⟩
theorem lw_p16 : lw_okq (⟨"WhenItWas", "areClocksPossible", "(I)Z"⟩, 12) := ⟨⟨by decide +kernel, by decide +kernel⟩, List.mem_of_getElem? (i := 18) (by decide +kernel), List.mem_of_getElem? (i := 544) (by decide +kernel), List.mem_of_getElem? (i := 545) (by decide +kernel)⟩
theorem lw_p17 : lw_okq (⟨"WhenItWas", "roomByDays", "(II)I"⟩, 12) := ⟨⟨by decide +kernel, by decide +kernel⟩, List.mem_of_getElem? (i := 18) (by decide +kernel), List.mem_of_getElem? (i := 548) (by decide +kernel), List.mem_of_getElem? (i := 549) (by decide +kernel)⟩
theorem lw_p18 : lw_okq (⟨"WhenItWas$Kin", "weigh", "(I)V"⟩, 4) := ⟨⟨by decide +kernel, by decide +kernel⟩, List.mem_of_getElem? (i := 197) (by decide +kernel), List.mem_of_getElem? (i := 580) (by decide +kernel), List.mem_of_getElem? (i := 581) (by decide +kernel)⟩
theorem lw_p19 : lw_okq (⟨"WhenItWas", "lookForDoubts", "(J)I"⟩, 12) := ⟨⟨by decide +kernel, by decide +kernel⟩, List.mem_of_getElem? (i := 18) (by decide +kernel), List.mem_of_getElem? (i := 596) (by decide +kernel), List.mem_of_getElem? (i := 597) (by decide +kernel)⟩
theorem lw_p20 : lw_okq (⟨"WhenItWas$Doubt", "tryAllOfSize", "(LWhenItWas$Net;JI)V"⟩, 5) := ⟨⟨by decide +kernel, by decide +kernel⟩, List.mem_of_getElem? (i := 150) (by decide +kernel), List.mem_of_getElem? (i := 615) (by decide +kernel), List.mem_of_getElem? (i := 616) (by decide +kernel)⟩
theorem lw_p21 : lw_okq (⟨"WhenItWas$Doubt", "rowsOf", "(I)J"⟩, 5) := ⟨⟨by decide +kernel, by decide +kernel⟩, List.mem_of_getElem? (i := 150) (by decide +kernel), List.mem_of_getElem? (i := 625) (by decide +kernel), List.mem_of_getElem? (i := 626) (by decide +kernel)⟩
theorem lw_p22 : lw_okq (⟨"WhenItWas$Doubt", "trustOf", "(LWhenItWas$Net;I)I"⟩, 5) := ⟨⟨by decide +kernel, by decide +kernel⟩, List.mem_of_getElem? (i := 150) (by decide +kernel), List.mem_of_getElem? (i := 631) (by decide +kernel), List.mem_of_getElem? (i := 632) (by decide +kernel)⟩
theorem lw_p23 : lw_okq (⟨"WhenItWas$Doubt", "keep", "(JI)V"⟩, 5) := ⟨⟨by decide +kernel, by decide +kernel⟩, List.mem_of_getElem? (i := 150) (by decide +kernel), List.mem_of_getElem? (i := 635) (by decide +kernel), List.mem_of_getElem? (i := 636) (by decide +kernel)⟩
theorem lw_p24 : lw_okq (⟨"WhenItWas$Doubt", "blameAll", "(I)V"⟩, 5) := ⟨⟨by decide +kernel, by decide +kernel⟩, List.mem_of_getElem? (i := 150) (by decide +kernel), List.mem_of_getElem? (i := 639) (by decide +kernel), List.mem_of_getElem? (i := 640) (by decide +kernel)⟩
theorem lw_p25 : lw_okq (⟨"WhenItWas", "layLines", "()Z"⟩, 12) := ⟨⟨by decide +kernel, by decide +kernel⟩, List.mem_of_getElem? (i := 18) (by decide +kernel), List.mem_of_getElem? (i := 655) (by decide +kernel), List.mem_of_getElem? (i := 656) (by decide +kernel)⟩
theorem lw_p26 : lw_okq (⟨"WhenItWas$Lines", "mayFollow", "(II)Z"⟩, 5) := ⟨⟨by decide +kernel, by decide +kernel⟩, List.mem_of_getElem? (i := 174) (by decide +kernel), List.mem_of_getElem? (i := 672) (by decide +kernel), List.mem_of_getElem? (i := 673) (by decide +kernel)⟩
theorem lw_p27 : lw_okq (⟨"WhenItWas$Lines", "countWaysOn", "()V"⟩, 5) := ⟨⟨by decide +kernel, by decide +kernel⟩, List.mem_of_getElem? (i := 174) (by decide +kernel), List.mem_of_getElem? (i := 696) (by decide +kernel), List.mem_of_getElem? (i := 697) (by decide +kernel)⟩
theorem lw_p28 : lw_okq (⟨"WhenItWas$Lines", "countPairs", "()V"⟩, 5) := ⟨⟨by decide +kernel, by decide +kernel⟩, List.mem_of_getElem? (i := 174) (by decide +kernel), List.mem_of_getElem? (i := 700) (by decide +kernel), List.mem_of_getElem? (i := 701) (by decide +kernel)⟩
theorem lw_p29 : lw_okq (⟨"WhenItWas$Lines", "addToPairs", "(III)V"⟩, 5) := ⟨⟨by decide +kernel, by decide +kernel⟩, List.mem_of_getElem? (i := 174) (by decide +kernel), List.mem_of_getElem? (i := 704) (by decide +kernel), List.mem_of_getElem? (i := 705) (by decide +kernel)⟩
theorem lw_p30 : lw_okq (⟨"WhenItWas$Lines", "isSure", "(II)Z"⟩, 5) := ⟨⟨by decide +kernel, by decide +kernel⟩, List.mem_of_getElem? (i := 174) (by decide +kernel), List.mem_of_getElem? (i := 709) (by decide +kernel), List.mem_of_getElem? (i := 710) (by decide +kernel)⟩
theorem lw_p31 : lw_okq (⟨"WhenItWas$Dates", "readDate", "()I"⟩, 7) := ⟨⟨by decide +kernel, by decide +kernel⟩, List.mem_of_getElem? (i := 219) (by decide +kernel), List.mem_of_getElem? (i := 772) (by decide +kernel), List.mem_of_getElem? (i := 773) (by decide +kernel)⟩
def lw_privs_2 : List (MethodName × Nat) := [(⟨"WhenItWas", "areClocksPossible", "(I)Z"⟩, 12), (⟨"WhenItWas", "roomByDays", "(II)I"⟩, 12), (⟨"WhenItWas$Kin", "weigh", "(I)V"⟩, 4), (⟨"WhenItWas", "lookForDoubts", "(J)I"⟩, 12), (⟨"WhenItWas$Doubt", "tryAllOfSize", "(LWhenItWas$Net;JI)V"⟩, 5), (⟨"WhenItWas$Doubt", "rowsOf", "(I)J"⟩, 5), (⟨"WhenItWas$Doubt", "trustOf", "(LWhenItWas$Net;I)I"⟩, 5), (⟨"WhenItWas$Doubt", "keep", "(JI)V"⟩, 5), (⟨"WhenItWas$Doubt", "blameAll", "(I)V"⟩, 5), (⟨"WhenItWas", "layLines", "()Z"⟩, 12), (⟨"WhenItWas$Lines", "mayFollow", "(II)Z"⟩, 5), (⟨"WhenItWas$Lines", "countWaysOn", "()V"⟩, 5), (⟨"WhenItWas$Lines", "countPairs", "()V"⟩, 5), (⟨"WhenItWas$Lines", "addToPairs", "(III)V"⟩, 5), (⟨"WhenItWas$Lines", "isSure", "(II)Z"⟩, 5), (⟨"WhenItWas$Dates", "readDate", "()I"⟩, 7)]
theorem lw_r2 : ∀ q ∈ lw_privs_2, lw_okq q := List.forall_mem_cons.mpr ⟨lw_p16, List.forall_mem_cons.mpr ⟨lw_p17, List.forall_mem_cons.mpr ⟨lw_p18, List.forall_mem_cons.mpr ⟨lw_p19, List.forall_mem_cons.mpr ⟨lw_p20, List.forall_mem_cons.mpr ⟨lw_p21, List.forall_mem_cons.mpr ⟨lw_p22, List.forall_mem_cons.mpr ⟨lw_p23, List.forall_mem_cons.mpr ⟨lw_p24, List.forall_mem_cons.mpr ⟨lw_p25, List.forall_mem_cons.mpr ⟨lw_p26, List.forall_mem_cons.mpr ⟨lw_p27, List.forall_mem_cons.mpr ⟨lw_p28, List.forall_mem_cons.mpr ⟨lw_p29, List.forall_mem_cons.mpr ⟨lw_p30, List.forall_mem_cons.mpr ⟨lw_p31, fun _ h => absurd h List.not_mem_nil⟩⟩⟩⟩⟩⟩⟩⟩⟩⟩⟩⟩⟩⟩⟩⟩
theorem lw_p32 : lw_okq (⟨"WhenItWas$Dates", "readNumber", "(II)I"⟩, 7) := ⟨⟨by decide +kernel, by decide +kernel⟩, List.mem_of_getElem? (i := 219) (by decide +kernel), List.mem_of_getElem? (i := 776) (by decide +kernel), List.mem_of_getElem? (i := 777) (by decide +kernel)⟩
theorem lw_p33 : lw_okq (⟨"WhenItWas$Dates", "signHere", "()I"⟩, 7) := ⟨⟨by decide +kernel, by decide +kernel⟩, List.mem_of_getElem? (i := 219) (by decide +kernel), List.mem_of_getElem? (i := 780) (by decide +kernel), List.mem_of_getElem? (i := 781) (by decide +kernel)⟩
theorem lw_p34 : lw_okq (⟨"WhenItWas$Dates", "readDot", "()I"⟩, 7) := ⟨⟨by decide +kernel, by decide +kernel⟩, List.mem_of_getElem? (i := 219) (by decide +kernel), List.mem_of_getElem? (i := 787) (by decide +kernel), List.mem_of_getElem? (i := 788) (by decide +kernel)⟩
theorem lw_p35 : lw_okq (⟨"WhenItWas$Dates", "readLetter", "(IIII)I"⟩, 7) := ⟨⟨by decide +kernel, by decide +kernel⟩, List.mem_of_getElem? (i := 219) (by decide +kernel), List.mem_of_getElem? (i := 791) (by decide +kernel), List.mem_of_getElem? (i := 792) (by decide +kernel)⟩
theorem lw_p36 : lw_okq (⟨"WhenItWas$Dates", "readSecond", "()I"⟩, 7) := ⟨⟨by decide +kernel, by decide +kernel⟩, List.mem_of_getElem? (i := 219) (by decide +kernel), List.mem_of_getElem? (i := 798) (by decide +kernel), List.mem_of_getElem? (i := 799) (by decide +kernel)⟩
theorem lw_p37 : lw_okq (⟨"WhenItWas", "digestSpans", "(J)J"⟩, 12) := ⟨⟨by decide +kernel, by decide +kernel⟩, List.mem_of_getElem? (i := 18) (by decide +kernel), List.mem_of_getElem? (i := 879) (by decide +kernel), List.mem_of_getElem? (i := 880) (by decide +kernel)⟩
theorem lw_p38 : lw_okq (⟨"WhenItWasModel", "isBook", "(I)Z"⟩, 42) := ⟨⟨by decide +kernel, by decide +kernel⟩, List.mem_of_getElem? (i := 884) (by decide +kernel), List.mem_of_getElem? (i := 1038) (by decide +kernel), List.mem_of_getElem? (i := 1039) (by decide +kernel)⟩
theorem lw_p39 : lw_okq (⟨"WhenItWasModel", "onMore", "(IIII)I"⟩, 42) := ⟨⟨by decide +kernel, by decide +kernel⟩, List.mem_of_getElem? (i := 884) (by decide +kernel), List.mem_of_getElem? (i := 1046) (by decide +kernel), List.mem_of_getElem? (i := 1047) (by decide +kernel)⟩
theorem lw_p40 : lw_okq (⟨"WhenItWasModel", "isThing", "(I)Z"⟩, 42) := ⟨⟨by decide +kernel, by decide +kernel⟩, List.mem_of_getElem? (i := 884) (by decide +kernel), List.mem_of_getElem? (i := 1050) (by decide +kernel), List.mem_of_getElem? (i := 1051) (by decide +kernel)⟩
theorem lw_p41 : lw_okq (⟨"WhenItWasModel", "rowMore", "(IIIII)I"⟩, 42) := ⟨⟨by decide +kernel, by decide +kernel⟩, List.mem_of_getElem? (i := 884) (by decide +kernel), List.mem_of_getElem? (i := 1056) (by decide +kernel), List.mem_of_getElem? (i := 1057) (by decide +kernel)⟩
theorem lw_p42 : lw_okq (⟨"WhenItWasModel", "apartMore", "(IIIII)I"⟩, 42) := ⟨⟨by decide +kernel, by decide +kernel⟩, List.mem_of_getElem? (i := 884) (by decide +kernel), List.mem_of_getElem? (i := 1064) (by decide +kernel), List.mem_of_getElem? (i := 1065) (by decide +kernel)⟩
theorem lw_p43 : lw_okq (⟨"WhenItWasModel", "meets", "(I)I"⟩, 42) := ⟨⟨by decide +kernel, by decide +kernel⟩, List.mem_of_getElem? (i := 884) (by decide +kernel), List.mem_of_getElem? (i := 1077) (by decide +kernel), List.mem_of_getElem? (i := 1078) (by decide +kernel)⟩
theorem lw_p44 : lw_okq (⟨"WhenItWasModel", "aboutOf", "(II)I"⟩, 42) := ⟨⟨by decide +kernel, by decide +kernel⟩, List.mem_of_getElem? (i := 884) (by decide +kernel), List.mem_of_getElem? (i := 1089) (by decide +kernel), List.mem_of_getElem? (i := 1090) (by decide +kernel)⟩
theorem lw_p45 : lw_okq (⟨"WhenItWasModel", "isKnown", "(I)Z"⟩, 42) := ⟨⟨by decide +kernel, by decide +kernel⟩, List.mem_of_getElem? (i := 884) (by decide +kernel), List.mem_of_getElem? (i := 1093) (by decide +kernel), List.mem_of_getElem? (i := 1094) (by decide +kernel)⟩
theorem lw_p46 : lw_okq (⟨"WhenItWasModel", "isKnownTo", "(II)Z"⟩, 42) := ⟨⟨by decide +kernel, by decide +kernel⟩, List.mem_of_getElem? (i := 884) (by decide +kernel), List.mem_of_getElem? (i := 1097) (by decide +kernel), List.mem_of_getElem? (i := 1098) (by decide +kernel)⟩
theorem lw_p47 : lw_okq (⟨"WhenItWasModel", "knownNow", "()J"⟩, 42) := ⟨⟨by decide +kernel, by decide +kernel⟩, List.mem_of_getElem? (i := 884) (by decide +kernel), List.mem_of_getElem? (i := 1110) (by decide +kernel), List.mem_of_getElem? (i := 1111) (by decide +kernel)⟩
def lw_privs_3 : List (MethodName × Nat) := [(⟨"WhenItWas$Dates", "readNumber", "(II)I"⟩, 7), (⟨"WhenItWas$Dates", "signHere", "()I"⟩, 7), (⟨"WhenItWas$Dates", "readDot", "()I"⟩, 7), (⟨"WhenItWas$Dates", "readLetter", "(IIII)I"⟩, 7), (⟨"WhenItWas$Dates", "readSecond", "()I"⟩, 7), (⟨"WhenItWas", "digestSpans", "(J)J"⟩, 12), (⟨"WhenItWasModel", "isBook", "(I)Z"⟩, 42), (⟨"WhenItWasModel", "onMore", "(IIII)I"⟩, 42), (⟨"WhenItWasModel", "isThing", "(I)Z"⟩, 42), (⟨"WhenItWasModel", "rowMore", "(IIIII)I"⟩, 42), (⟨"WhenItWasModel", "apartMore", "(IIIII)I"⟩, 42), (⟨"WhenItWasModel", "meets", "(I)I"⟩, 42), (⟨"WhenItWasModel", "aboutOf", "(II)I"⟩, 42), (⟨"WhenItWasModel", "isKnown", "(I)Z"⟩, 42), (⟨"WhenItWasModel", "isKnownTo", "(II)Z"⟩, 42), (⟨"WhenItWasModel", "knownNow", "()J"⟩, 42)]
theorem lw_r3 : ∀ q ∈ lw_privs_3, lw_okq q := List.forall_mem_cons.mpr ⟨lw_p32, List.forall_mem_cons.mpr ⟨lw_p33, List.forall_mem_cons.mpr ⟨lw_p34, List.forall_mem_cons.mpr ⟨lw_p35, List.forall_mem_cons.mpr ⟨lw_p36, List.forall_mem_cons.mpr ⟨lw_p37, List.forall_mem_cons.mpr ⟨lw_p38, List.forall_mem_cons.mpr ⟨lw_p39, List.forall_mem_cons.mpr ⟨lw_p40, List.forall_mem_cons.mpr ⟨lw_p41, List.forall_mem_cons.mpr ⟨lw_p42, List.forall_mem_cons.mpr ⟨lw_p43, List.forall_mem_cons.mpr ⟨lw_p44, List.forall_mem_cons.mpr ⟨lw_p45, List.forall_mem_cons.mpr ⟨lw_p46, List.forall_mem_cons.mpr ⟨lw_p47, fun _ h => absurd h List.not_mem_nil⟩⟩⟩⟩⟩⟩⟩⟩⟩⟩⟩⟩⟩⟩⟩⟩
theorem lw_p48 : lw_okq (⟨"WhenItWasModel", "knownBits", "(I)J"⟩, 42) := ⟨⟨by decide +kernel, by decide +kernel⟩, List.mem_of_getElem? (i := 884) (by decide +kernel), List.mem_of_getElem? (i := 1114) (by decide +kernel), List.mem_of_getElem? (i := 1115) (by decide +kernel)⟩
theorem lw_p49 : lw_okq (⟨"WhenItWasModel", "works", "(J)Z"⟩, 42) := ⟨⟨by decide +kernel, by decide +kernel⟩, List.mem_of_getElem? (i := 884) (by decide +kernel), List.mem_of_getElem? (i := 1119) (by decide +kernel), List.mem_of_getElem? (i := 1120) (by decide +kernel)⟩
theorem lw_p50 : lw_okq (⟨"WhenItWasModel", "atMost", "(III)V"⟩, 42) := ⟨⟨by decide +kernel, by decide +kernel⟩, List.mem_of_getElem? (i := 884) (by decide +kernel), List.mem_of_getElem? (i := 1124) (by decide +kernel), List.mem_of_getElem? (i := 1125) (by decide +kernel)⟩
theorem lw_p51 : lw_okq (⟨"WhenItWasModel", "leansOn", "(I)I"⟩, 42) := ⟨⟨by decide +kernel, by decide +kernel⟩, List.mem_of_getElem? (i := 884) (by decide +kernel), List.mem_of_getElem? (i := 1128) (by decide +kernel), List.mem_of_getElem? (i := 1129) (by decide +kernel)⟩
theorem lw_p52 : lw_okq (⟨"WhenItWasModel", "canAll", "()Z"⟩, 42) := ⟨⟨by decide +kernel, by decide +kernel⟩, List.mem_of_getElem? (i := 884) (by decide +kernel), List.mem_of_getElem? (i := 1136) (by decide +kernel), List.mem_of_getElem? (i := 1137) (by decide +kernel)⟩
theorem lw_p53 : lw_okq (⟨"WhenItWasModel", "endOf", "(II)I"⟩, 42) := ⟨⟨by decide +kernel, by decide +kernel⟩, List.mem_of_getElem? (i := 884) (by decide +kernel), List.mem_of_getElem? (i := 1144) (by decide +kernel), List.mem_of_getElem? (i := 1145) (by decide +kernel)⟩
theorem lw_p54 : lw_okq (⟨"WhenItWasModel", "clockEnd", "(II)I"⟩, 42) := ⟨⟨by decide +kernel, by decide +kernel⟩, List.mem_of_getElem? (i := 884) (by decide +kernel), List.mem_of_getElem? (i := 1153) (by decide +kernel), List.mem_of_getElem? (i := 1154) (by decide +kernel)⟩
theorem lw_p55 : lw_okq (⟨"WhenItWasModel", "areTwo", "(II)Z"⟩, 42) := ⟨⟨by decide +kernel, by decide +kernel⟩, List.mem_of_getElem? (i := 884) (by decide +kernel), List.mem_of_getElem? (i := 1161) (by decide +kernel), List.mem_of_getElem? (i := 1162) (by decide +kernel)⟩
theorem lw_p56 : lw_okq (⟨"WhenItWasModel", "nears", "(III)Z"⟩, 42) := ⟨⟨by decide +kernel, by decide +kernel⟩, List.mem_of_getElem? (i := 884) (by decide +kernel), List.mem_of_getElem? (i := 1171) (by decide +kernel), List.mem_of_getElem? (i := 1172) (by decide +kernel)⟩
theorem lw_p57 : lw_okq (⟨"WhenItWasModel", "isOther", "(II)Z"⟩, 42) := ⟨⟨by decide +kernel, by decide +kernel⟩, List.mem_of_getElem? (i := 884) (by decide +kernel), List.mem_of_getElem? (i := 1179) (by decide +kernel), List.mem_of_getElem? (i := 1180) (by decide +kernel)⟩
theorem lw_p58 : lw_okq (⟨"WhenItWasModel", "isFitting", "(I)Z"⟩, 42) := ⟨⟨by decide +kernel, by decide +kernel⟩, List.mem_of_getElem? (i := 884) (by decide +kernel), List.mem_of_getElem? (i := 1187) (by decide +kernel), List.mem_of_getElem? (i := 1188) (by decide +kernel)⟩
theorem lw_p59 : lw_okq (⟨"WhenItWasModel", "latest", "(II)I"⟩, 42) := ⟨⟨by decide +kernel, by decide +kernel⟩, List.mem_of_getElem? (i := 884) (by decide +kernel), List.mem_of_getElem? (i := 1199) (by decide +kernel), List.mem_of_getElem? (i := 1200) (by decide +kernel)⟩
theorem lw_p60 : lw_okq (⟨"WhenItWasModel", "doubtsNow", "()I"⟩, 42) := ⟨⟨by decide +kernel, by decide +kernel⟩, List.mem_of_getElem? (i := 884) (by decide +kernel), List.mem_of_getElem? (i := 1213) (by decide +kernel), List.mem_of_getElem? (i := 1214) (by decide +kernel)⟩
theorem lw_p61 : lw_okq (⟨"WhenItWasModel", "bitsOf", "(I)J"⟩, 42) := ⟨⟨by decide +kernel, by decide +kernel⟩, List.mem_of_getElem? (i := 884) (by decide +kernel), List.mem_of_getElem? (i := 1220) (by decide +kernel), List.mem_of_getElem? (i := 1221) (by decide +kernel)⟩
theorem lw_p62 : lw_okq (⟨"WhenItWasModel", "trustOfSet", "(I)I"⟩, 42) := ⟨⟨by decide +kernel, by decide +kernel⟩, List.mem_of_getElem? (i := 884) (by decide +kernel), List.mem_of_getElem? (i := 1224) (by decide +kernel), List.mem_of_getElem? (i := 1225) (by decide +kernel)⟩
theorem lw_p63 : lw_okq (⟨"WhenItWasModel", "sures", "()Z"⟩, 42) := ⟨⟨by decide +kernel, by decide +kernel⟩, List.mem_of_getElem? (i := 884) (by decide +kernel), List.mem_of_getElem? (i := 1237) (by decide +kernel), List.mem_of_getElem? (i := 1238) (by decide +kernel)⟩
def lw_privs_4 : List (MethodName × Nat) := [(⟨"WhenItWasModel", "knownBits", "(I)J"⟩, 42), (⟨"WhenItWasModel", "works", "(J)Z"⟩, 42), (⟨"WhenItWasModel", "atMost", "(III)V"⟩, 42), (⟨"WhenItWasModel", "leansOn", "(I)I"⟩, 42), (⟨"WhenItWasModel", "canAll", "()Z"⟩, 42), (⟨"WhenItWasModel", "endOf", "(II)I"⟩, 42), (⟨"WhenItWasModel", "clockEnd", "(II)I"⟩, 42), (⟨"WhenItWasModel", "areTwo", "(II)Z"⟩, 42), (⟨"WhenItWasModel", "nears", "(III)Z"⟩, 42), (⟨"WhenItWasModel", "isOther", "(II)Z"⟩, 42), (⟨"WhenItWasModel", "isFitting", "(I)Z"⟩, 42), (⟨"WhenItWasModel", "latest", "(II)I"⟩, 42), (⟨"WhenItWasModel", "doubtsNow", "()I"⟩, 42), (⟨"WhenItWasModel", "bitsOf", "(I)J"⟩, 42), (⟨"WhenItWasModel", "trustOfSet", "(I)I"⟩, 42), (⟨"WhenItWasModel", "sures", "()Z"⟩, 42)]
theorem lw_r4 : ∀ q ∈ lw_privs_4, lw_okq q := List.forall_mem_cons.mpr ⟨lw_p48, List.forall_mem_cons.mpr ⟨lw_p49, List.forall_mem_cons.mpr ⟨lw_p50, List.forall_mem_cons.mpr ⟨lw_p51, List.forall_mem_cons.mpr ⟨lw_p52, List.forall_mem_cons.mpr ⟨lw_p53, List.forall_mem_cons.mpr ⟨lw_p54, List.forall_mem_cons.mpr ⟨lw_p55, List.forall_mem_cons.mpr ⟨lw_p56, List.forall_mem_cons.mpr ⟨lw_p57, List.forall_mem_cons.mpr ⟨lw_p58, List.forall_mem_cons.mpr ⟨lw_p59, List.forall_mem_cons.mpr ⟨lw_p60, List.forall_mem_cons.mpr ⟨lw_p61, List.forall_mem_cons.mpr ⟨lw_p62, List.forall_mem_cons.mpr ⟨lw_p63, fun _ h => absurd h List.not_mem_nil⟩⟩⟩⟩⟩⟩⟩⟩⟩⟩⟩⟩⟩⟩⟩⟩
theorem lw_p64 : lw_okq (⟨"WhenItWasModel", "ordersNow", "()J"⟩, 42) := ⟨⟨by decide +kernel, by decide +kernel⟩, List.mem_of_getElem? (i := 884) (by decide +kernel), List.mem_of_getElem? (i := 1245) (by decide +kernel), List.mem_of_getElem? (i := 1246) (by decide +kernel)⟩
theorem lw_p65 : lw_okq (⟨"WhenItWasModel", "ordersBut", "(I)J"⟩, 42) := ⟨⟨by decide +kernel, by decide +kernel⟩, List.mem_of_getElem? (i := 884) (by decide +kernel), List.mem_of_getElem? (i := 1249) (by decide +kernel), List.mem_of_getElem? (i := 1250) (by decide +kernel)⟩
theorem lw_p66 : lw_okq (⟨"WhenItWasModel", "ordersWith", "(II)J"⟩, 42) := ⟨⟨by decide +kernel, by decide +kernel⟩, List.mem_of_getElem? (i := 884) (by decide +kernel), List.mem_of_getElem? (i := 1257) (by decide +kernel), List.mem_of_getElem? (i := 1258) (by decide +kernel)⟩
theorem lw_p67 : lw_okq (⟨"WhenItWasModel", "faultNow", "()I"⟩, 42) := ⟨⟨by decide +kernel, by decide +kernel⟩, List.mem_of_getElem? (i := 884) (by decide +kernel), List.mem_of_getElem? (i := 1304) (by decide +kernel), List.mem_of_getElem? (i := 1305) (by decide +kernel)⟩
theorem lw_p68 : lw_okq (⟨"WhenItWasModel", "date", "()I"⟩, 42) := ⟨⟨by decide +kernel, by decide +kernel⟩, List.mem_of_getElem? (i := 884) (by decide +kernel), List.mem_of_getElem? (i := 1308) (by decide +kernel), List.mem_of_getElem? (i := 1309) (by decide +kernel)⟩
theorem lw_p69 : lw_okq (⟨"WhenItWasModel", "figures", "(II)I"⟩, 42) := ⟨⟨by decide +kernel, by decide +kernel⟩, List.mem_of_getElem? (i := 884) (by decide +kernel), List.mem_of_getElem? (i := 1312) (by decide +kernel), List.mem_of_getElem? (i := 1313) (by decide +kernel)⟩
theorem lw_p70 : lw_okq (⟨"WhenItWasModel", "byteAt", "(I)I"⟩, 42) := ⟨⟨by decide +kernel, by decide +kernel⟩, List.mem_of_getElem? (i := 884) (by decide +kernel), List.mem_of_getElem? (i := 1316) (by decide +kernel), List.mem_of_getElem? (i := 1317) (by decide +kernel)⟩
theorem lw_p71 : lw_okq (⟨"WhenItWasModel", "dot", "()V"⟩, 42) := ⟨⟨by decide +kernel, by decide +kernel⟩, List.mem_of_getElem? (i := 884) (by decide +kernel), List.mem_of_getElem? (i := 1320) (by decide +kernel), List.mem_of_getElem? (i := 1321) (by decide +kernel)⟩
theorem lw_p72 : lw_okq (⟨"WhenItWasModel", "lacks", "(III)I"⟩, 42) := ⟨⟨by decide +kernel, by decide +kernel⟩, List.mem_of_getElem? (i := 884) (by decide +kernel), List.mem_of_getElem? (i := 1340) (by decide +kernel), List.mem_of_getElem? (i := 1341) (by decide +kernel)⟩
theorem lw_p73 : lw_okq (⟨"WhenItWasModel", "lay", "(III)V"⟩, 42) := ⟨⟨by decide +kernel, by decide +kernel⟩, List.mem_of_getElem? (i := 884) (by decide +kernel), List.mem_of_getElem? (i := 1344) (by decide +kernel), List.mem_of_getElem? (i := 1345) (by decide +kernel)⟩
def lw_privs_5 : List (MethodName × Nat) := [(⟨"WhenItWasModel", "ordersNow", "()J"⟩, 42), (⟨"WhenItWasModel", "ordersBut", "(I)J"⟩, 42), (⟨"WhenItWasModel", "ordersWith", "(II)J"⟩, 42), (⟨"WhenItWasModel", "faultNow", "()I"⟩, 42), (⟨"WhenItWasModel", "date", "()I"⟩, 42), (⟨"WhenItWasModel", "figures", "(II)I"⟩, 42), (⟨"WhenItWasModel", "byteAt", "(I)I"⟩, 42), (⟨"WhenItWasModel", "dot", "()V"⟩, 42), (⟨"WhenItWasModel", "lacks", "(III)I"⟩, 42), (⟨"WhenItWasModel", "lay", "(III)V"⟩, 42)]
theorem lw_r5 : ∀ q ∈ lw_privs_5, lw_okq q := List.forall_mem_cons.mpr ⟨lw_p64, List.forall_mem_cons.mpr ⟨lw_p65, List.forall_mem_cons.mpr ⟨lw_p66, List.forall_mem_cons.mpr ⟨lw_p67, List.forall_mem_cons.mpr ⟨lw_p68, List.forall_mem_cons.mpr ⟨lw_p69, List.forall_mem_cons.mpr ⟨lw_p70, List.forall_mem_cons.mpr ⟨lw_p71, List.forall_mem_cons.mpr ⟨lw_p72, List.forall_mem_cons.mpr ⟨lw_p73, fun _ h => absurd h List.not_mem_nil⟩⟩⟩⟩⟩⟩⟩⟩⟩⟩
def lw_privs : List (MethodName × Nat) := lw_privs_1 ++ (lw_privs_2 ++ (lw_privs_3 ++ (lw_privs_4 ++ (lw_privs_5))))
def lw_tbl : List Cond := k2_sels lw_privs ++ tables_1
theorem lw_privs_ok : ∀ q ∈ lw_privs, lw_okq q := by
  show ∀ q ∈ lw_privs_1 ++ (lw_privs_2 ++ (lw_privs_3 ++ (lw_privs_4 ++ (lw_privs_5)))), lw_okq q
  exact List.forall_mem_append.mpr ⟨lw_r1, List.forall_mem_append.mpr ⟨lw_r2, List.forall_mem_append.mpr ⟨lw_r3, List.forall_mem_append.mpr ⟨lw_r4, lw_r5⟩⟩⟩⟩
end
section
def RX0 : String := "WhenItWas$Books"
def TX0 : u_T := fun k => match k with
  | 0 => ("WhenItWas$Books", "least", "[I", true)
  | 1 => ("WhenItWas$Books", "greatest", "[I", true)
  | 2 => ("WhenItWas$Books", "trust", "[I", true)
  | _ => ("WhenItWas$Books", "size", "I", false)
def tyX0 : Nat → FieldType := fun k => match k with
  | 0 => .array .int
  | 1 => .array .int
  | 2 => .array .int
  | _ => .int
abbrev wsX00 : List Cond := u_ws RX0 TX0 4
theorem nmX0 : ∀ a, a < 4 → ∀ b, b < 4 → a ≠ b → (TX0 a).2.1 ≠ (TX0 b).2.1 := by decide +kernel
theorem tyX0_ok : ∀ k, k < 4 → parseFieldDescriptor (TX0 k).2.2.1 = some (tyX0 k) := by decide +kernel
abbrev cX0_init : ByteArray := prog_2_method_1_code
def yX0_init : MethodName := ⟨RX0, "<init>", "()V"⟩
abbrev cX0_open : ByteArray := prog_2_method_2_code
def yX0_open : MethodName := ⟨RX0, "open", "(II)I"⟩
abbrev cX0_trustTogether : ByteArray := prog_2_method_3_code
def yX0_trustTogether : MethodName := ⟨RX0, "trustTogether", "()I"⟩
def RX1 : String := "WhenItWas$Calendar"
def TX1 : u_T := fun k => match k with
  | _ => ("", "", "", false)
def tyX1 : Nat → FieldType := fun k => match k with
  | _ => .int
abbrev wsX10 : List Cond := u_ws RX1 TX1 0
theorem nmX1 : ∀ a, a < 0 → ∀ b, b < 0 → a ≠ b → (TX1 a).2.1 ≠ (TX1 b).2.1 := by decide +kernel
theorem tyX1_ok : ∀ k, k < 0 → parseFieldDescriptor (TX1 k).2.2.1 = some (tyX1 k) := by decide +kernel
abbrev cX1_isOne : ByteArray := prog_3_method_2_code
def yX1_isOne : MethodName := ⟨RX1, "isOne", "(I)Z"⟩
abbrev cX1_isDate : ByteArray := prog_3_method_3_code
def yX1_isDate : MethodName := ⟨RX1, "isDate", "(IIII)Z"⟩
abbrev cX1_dayNumber : ByteArray := prog_3_method_4_code
def yX1_dayNumber : MethodName := ⟨RX1, "dayNumber", "(IIII)I"⟩
abbrev cX1_hasDay : ByteArray := prog_3_method_5_code
def yX1_hasDay : MethodName := ⟨RX1, "hasDay", "(II)Z"⟩
abbrev cX1_yearWith : ByteArray := prog_3_method_6_code
def yX1_yearWith : MethodName := ⟨RX1, "yearWith", "(II)I"⟩
abbrev cX1_monthWith : ByteArray := prog_3_method_7_code
def yX1_monthWith : MethodName := ⟨RX1, "monthWith", "(III)I"⟩
abbrev cX1_isLeap : ByteArray := prog_3_method_8_code
def yX1_isLeap : MethodName := ⟨RX1, "isLeap", "(II)Z"⟩
abbrev cX1_leapsUpTo : ByteArray := prog_3_method_9_code
def yX1_leapsUpTo : MethodName := ⟨RX1, "leapsUpTo", "(II)I"⟩
def RX2 : String := "WhenItWas$Dates"
def TX2 : u_T := fun k => match k with
  | 0 => ("WhenItWas$Dates", "bytes", "[I", true)
  | 1 => ("WhenItWas$Dates", "length", "I", false)
  | 2 => ("WhenItWas$Dates", "from", "I", false)
  | 3 => ("WhenItWas$Dates", "until", "I", false)
  | 4 => ("WhenItWas$Dates", "place", "I", false)
  | 5 => ("WhenItWas$Dates", "number", "I", false)
  | _ => ("WhenItWas$Dates", "dayRead", "I", false)
def tyX2 : Nat → FieldType := fun k => match k with
  | 0 => .array .int
  | 1 => .int
  | 2 => .int
  | 3 => .int
  | 4 => .int
  | 5 => .int
  | _ => .int
abbrev wsX20 : List Cond := u_ws RX2 TX2 7
theorem nmX2 : ∀ a, a < 7 → ∀ b, b < 7 → a ≠ b → (TX2 a).2.1 ≠ (TX2 b).2.1 := by decide +kernel
theorem tyX2_ok : ∀ k, k < 7 → parseFieldDescriptor (TX2 k).2.2.1 = some (tyX2 k) := by decide +kernel
abbrev cX2_init : ByteArray := prog_4_method_1_code
def yX2_init : MethodName := ⟨RX2, "<init>", "()V"⟩
abbrev cX2_append : ByteArray := prog_4_method_2_code
def yX2_append : MethodName := ⟨RX2, "append", "(I)I"⟩
abbrev cX2_findFault : ByteArray := prog_4_method_3_code
def yX2_findFault : MethodName := ⟨RX2, "findFault", "()I"⟩
abbrev cX2_readSecond : ByteArray := prog_4_method_4_code
def yX2_readSecond : MethodName := ⟨RX2, "readSecond", "()I"⟩
abbrev cX2_readDate : ByteArray := prog_4_method_5_code
def yX2_readDate : MethodName := ⟨RX2, "readDate", "()I"⟩
abbrev cX2_readLetter : ByteArray := prog_4_method_6_code
def yX2_readLetter : MethodName := ⟨RX2, "readLetter", "(IIII)I"⟩
abbrev cX2_readDot : ByteArray := prog_4_method_7_code
def yX2_readDot : MethodName := ⟨RX2, "readDot", "()I"⟩
abbrev cX2_readNumber : ByteArray := prog_4_method_8_code
def yX2_readNumber : MethodName := ⟨RX2, "readNumber", "(II)I"⟩
abbrev cX2_isFigure : ByteArray := prog_4_method_9_code
def yX2_isFigure : MethodName := ⟨RX2, "isFigure", "(I)Z"⟩
abbrev cX2_signHere : ByteArray := prog_4_method_10_code
def yX2_signHere : MethodName := ⟨RX2, "signHere", "()I"⟩
def RX3 : String := "WhenItWas$Doubt"
def TX3 : u_T := fun k => match k with
  | 0 => ("WhenItWas$Doubt", "candidates", "[I", true)
  | 1 => ("WhenItWas$Doubt", "size", "I", false)
  | 2 => ("WhenItWas$Doubt", "blame", "[I", true)
  | 3 => ("WhenItWas$Doubt", "best", "J", false)
  | _ => ("WhenItWas$Doubt", "bestTrust", "I", false)
def tyX3 : Nat → FieldType := fun k => match k with
  | 0 => .array .int
  | 1 => .int
  | 2 => .array .int
  | 3 => .long
  | _ => .int
abbrev wsX30 : List Cond := u_ws RX3 TX3 5
theorem nmX3 : ∀ a, a < 5 → ∀ b, b < 5 → a ≠ b → (TX3 a).2.1 ≠ (TX3 b).2.1 := by decide +kernel
theorem tyX3_ok : ∀ k, k < 5 → parseFieldDescriptor (TX3 k).2.2.1 = some (tyX3 k) := by decide +kernel
abbrev cX3_init : ByteArray := prog_5_method_1_code
def yX3_init : MethodName := ⟨RX3, "<init>", "()V"⟩
abbrev cX3_clear : ByteArray := prog_5_method_2_code
def yX3_clear : MethodName := ⟨RX3, "clear", "()V"⟩
abbrev cX3_search : ByteArray := prog_5_method_3_code
def yX3_search : MethodName := ⟨RX3, "search", "(LWhenItWas$Net;J)V"⟩
abbrev cX3_tryAllOfSize : ByteArray := prog_5_method_4_code
def yX3_tryAllOfSize : MethodName := ⟨RX3, "tryAllOfSize", "(LWhenItWas$Net;JI)V"⟩
abbrev cX3_keep : ByteArray := prog_5_method_5_code
def yX3_keep : MethodName := ⟨RX3, "keep", "(JI)V"⟩
abbrev cX3_rowsOf : ByteArray := prog_5_method_6_code
def yX3_rowsOf : MethodName := ⟨RX3, "rowsOf", "(I)J"⟩
abbrev cX3_trustOf : ByteArray := prog_5_method_7_code
def yX3_trustOf : MethodName := ⟨RX3, "trustOf", "(LWhenItWas$Net;I)I"⟩
abbrev cX3_blameAll : ByteArray := prog_5_method_8_code
def yX3_blameAll : MethodName := ⟨RX3, "blameAll", "(I)V"⟩
def RX4 : String := "WhenItWas$Kin"
def TX4 : u_T := fun k => match k with
  | 0 => ("WhenItWas$Kin", "differences", "[I", true)
  | 1 => ("WhenItWas$Kin", "size", "I", false)
  | 2 => ("WhenItWas$Kin", "most", "I", false)
  | _ => ("WhenItWas$Kin", "number", "I", false)
def tyX4 : Nat → FieldType := fun k => match k with
  | 0 => .array .int
  | 1 => .int
  | 2 => .int
  | _ => .int
abbrev wsX40 : List Cond := u_ws RX4 TX4 4
theorem nmX4 : ∀ a, a < 4 → ∀ b, b < 4 → a ≠ b → (TX4 a).2.1 ≠ (TX4 b).2.1 := by decide +kernel
theorem tyX4_ok : ∀ k, k < 4 → parseFieldDescriptor (TX4 k).2.2.1 = some (tyX4 k) := by decide +kernel
abbrev cX4_init : ByteArray := prog_6_method_1_code
def yX4_init : MethodName := ⟨RX4, "<init>", "()V"⟩
abbrev cX4_compare : ByteArray := prog_6_method_2_code
def yX4_compare : MethodName := ⟨RX4, "compare", "(LWhenItWas$Rows;JII)V"⟩
abbrev cX4_weigh : ByteArray := prog_6_method_3_code
def yX4_weigh : MethodName := ⟨RX4, "weigh", "(I)V"⟩
def RX5 : String := "WhenItWas$Lines"
def TX5 : u_T := fun k => match k with
  | 0 => ("WhenItWas$Lines", "before", "[I", true)
  | 1 => ("WhenItWas$Lines", "ways", "[I", true)
  | 2 => ("WhenItWas$Lines", "waysOn", "[I", true)
  | 3 => ("WhenItWas$Lines", "pairs", "[I", true)
  | _ => ("WhenItWas$Lines", "size", "I", false)
def tyX5 : Nat → FieldType := fun k => match k with
  | 0 => .array .int
  | 1 => .array .int
  | 2 => .array .int
  | 3 => .array .int
  | _ => .int
abbrev wsX50 : List Cond := u_ws RX5 TX5 5
theorem nmX5 : ∀ a, a < 5 → ∀ b, b < 5 → a ≠ b → (TX5 a).2.1 ≠ (TX5 b).2.1 := by decide +kernel
theorem tyX5_ok : ∀ k, k < 5 → parseFieldDescriptor (TX5 k).2.2.1 = some (tyX5 k) := by decide +kernel
abbrev cX5_init : ByteArray := prog_7_method_1_code
def yX5_init : MethodName := ⟨RX5, "<init>", "()V"⟩
abbrev cX5_clear : ByteArray := prog_7_method_2_code
def yX5_clear : MethodName := ⟨RX5, "clear", "(I)V"⟩
abbrev cX5_setAhead : ByteArray := prog_7_method_3_code
def yX5_setAhead : MethodName := ⟨RX5, "setAhead", "(II)V"⟩
abbrev cX5_waysFrom : ByteArray := prog_7_method_4_code
def yX5_waysFrom : MethodName := ⟨RX5, "waysFrom", "(I)I"⟩
abbrev cX5_bestPair : ByteArray := prog_7_method_5_code
def yX5_bestPair : MethodName := ⟨RX5, "bestPair", "()I"⟩
abbrev cX5_isSure : ByteArray := prog_7_method_6_code
def yX5_isSure : MethodName := ⟨RX5, "isSure", "(II)Z"⟩
abbrev cX5_mayFollow : ByteArray := prog_7_method_7_code
def yX5_mayFollow : MethodName := ⟨RX5, "mayFollow", "(II)Z"⟩
abbrev cX5_countWaysOn : ByteArray := prog_7_method_8_code
def yX5_countWaysOn : MethodName := ⟨RX5, "countWaysOn", "()V"⟩
abbrev cX5_countPairs : ByteArray := prog_7_method_9_code
def yX5_countPairs : MethodName := ⟨RX5, "countPairs", "()V"⟩
abbrev cX5_addToPairs : ByteArray := prog_7_method_10_code
def yX5_addToPairs : MethodName := ⟨RX5, "addToPairs", "(III)V"⟩
def RX6 : String := "WhenItWas$Net"
def TX6 : u_T := fun k => match k with
  | 0 => ("WhenItWas$Net", "rows", "LWhenItWas$Rows;", true)
  | 1 => ("WhenItWas$Net", "books", "LWhenItWas$Books;", true)
  | 2 => ("WhenItWas$Net", "from", "[I", true)
  | 3 => ("WhenItWas$Net", "to", "[I", true)
  | 4 => ("WhenItWas$Net", "x", "[I", true)
  | 5 => ("WhenItWas$Net", "y", "[I", true)
  | 6 => ("WhenItWas$Net", "size", "I", false)
  | 7 => ("WhenItWas$Net", "floor", "[I", true)
  | 8 => ("WhenItWas$Net", "ceiling", "[I", true)
  | 9 => ("WhenItWas$Net", "most", "[I", true)
  | 10 => ("WhenItWas$Net", "leastTurned", "[I", true)
  | 11 => ("WhenItWas$Net", "reach", "[I", true)
  | _ => ("WhenItWas$Net", "nextReach", "[I", true)
def tyX6 : Nat → FieldType := fun k => match k with
  | 0 => .object "WhenItWas$Rows"
  | 1 => .object "WhenItWas$Books"
  | 2 => .array .int
  | 3 => .array .int
  | 4 => .array .int
  | 5 => .array .int
  | 6 => .int
  | 7 => .array .int
  | 8 => .array .int
  | 9 => .array .int
  | 10 => .array .int
  | 11 => .array .int
  | _ => .array .int
abbrev wsX60 : List Cond := u_ws RX6 TX6 13
theorem nmX6 : ∀ a, a < 13 → ∀ b, b < 13 → a ≠ b → (TX6 a).2.1 ≠ (TX6 b).2.1 := by decide +kernel
theorem tyX6_ok : ∀ k, k < 13 → parseFieldDescriptor (TX6 k).2.2.1 = some (tyX6 k) := by decide +kernel
abbrev cX6_init : ByteArray := prog_8_method_1_code
def yX6_init : MethodName := ⟨RX6, "<init>", "()V"⟩
abbrev cX6_canHold : ByteArray := prog_8_method_2_code
def yX6_canHold : MethodName := ⟨RX6, "canHold", "(J)Z"⟩
abbrev cX6_solve : ByteArray := prog_8_method_3_code
def yX6_solve : MethodName := ⟨RX6, "solve", "(J)Z"⟩
abbrev cX6_endOfThing : ByteArray := prog_8_method_4_code
def yX6_endOfThing : MethodName := ⟨RX6, "endOfThing", "(II)I"⟩
abbrev cX6_endOfClock : ByteArray := prog_8_method_5_code
def yX6_endOfClock : MethodName := ⟨RX6, "endOfClock", "(II)I"⟩
abbrev cX6_spanKey : ByteArray := prog_8_method_6_code
def yX6_spanKey : MethodName := ⟨RX6, "spanKey", "(IJ)J"⟩
abbrev cX6_measureFrom : ByteArray := prog_8_method_7_code
def yX6_measureFrom : MethodName := ⟨RX6, "measureFrom", "(I)V"⟩
abbrev cX6_mostBehind : ByteArray := prog_8_method_8_code
def yX6_mostBehind : MethodName := ⟨RX6, "mostBehind", "(II)I"⟩
abbrev cX6_stepsToEnd : ByteArray := prog_8_method_9_code
def yX6_stepsToEnd : MethodName := ⟨RX6, "stepsToEnd", "(IZ)I"⟩
abbrev cX6_turnFloorInto : ByteArray := prog_8_method_10_code
def yX6_turnFloorInto : MethodName := ⟨RX6, "turnFloorInto", "([I)V"⟩
abbrev cX6_load : ByteArray := prog_8_method_11_code
def yX6_load : MethodName := ⟨RX6, "load", "(J)V"⟩
abbrev cX6_addRow : ByteArray := prog_8_method_12_code
def yX6_addRow : MethodName := ⟨RX6, "addRow", "(I)V"⟩
abbrev cX6_settle : ByteArray := prog_8_method_13_code
def yX6_settle : MethodName := ⟨RX6, "settle", "([IZ)Z"⟩
abbrev cX6_sweep : ByteArray := prog_8_method_14_code
def yX6_sweep : MethodName := ⟨RX6, "sweep", "([IZ)Z"⟩
abbrev cX6_stepOnce : ByteArray := prog_8_method_15_code
def yX6_stepOnce : MethodName := ⟨RX6, "stepOnce", "(Z)V"⟩
def RX7 : String := "WhenItWas$Rows"
def TX7 : u_T := fun k => match k with
  | 0 => ("WhenItWas$Rows", "book", "[I", true)
  | 1 => ("WhenItWas$Rows", "thing", "[I", true)
  | 2 => ("WhenItWas$Rows", "other", "[I", true)
  | 3 => ("WhenItWas$Rows", "x", "[I", true)
  | 4 => ("WhenItWas$Rows", "y", "[I", true)
  | 5 => ("WhenItWas$Rows", "told", "[I", true)
  | 6 => ("WhenItWas$Rows", "taken", "[I", true)
  | _ => ("WhenItWas$Rows", "size", "I", false)
def tyX7 : Nat → FieldType := fun k => match k with
  | 0 => .array .int
  | 1 => .array .int
  | 2 => .array .int
  | 3 => .array .int
  | 4 => .array .int
  | 5 => .array .int
  | 6 => .array .int
  | _ => .int
abbrev wsX70 : List Cond := u_ws RX7 TX7 8
theorem nmX7 : ∀ a, a < 8 → ∀ b, b < 8 → a ≠ b → (TX7 a).2.1 ≠ (TX7 b).2.1 := by decide +kernel
theorem tyX7_ok : ∀ k, k < 8 → parseFieldDescriptor (TX7 k).2.2.1 = some (tyX7 k) := by decide +kernel
abbrev cX7_init : ByteArray := prog_9_method_1_code
def yX7_init : MethodName := ⟨RX7, "<init>", "()V"⟩
abbrev cX7_tell : ByteArray := prog_9_method_2_code
def yX7_tell : MethodName := ⟨RX7, "tell", "(IIIIII)I"⟩
abbrev cX7_isKnown : ByteArray := prog_9_method_3_code
def yX7_isKnown : MethodName := ⟨RX7, "isKnown", "(II)Z"⟩
abbrev cX7_isOnBy : ByteArray := prog_9_method_4_code
def yX7_isOnBy : MethodName := ⟨RX7, "isOnBy", "(II)Z"⟩
abbrev cX7_knownAsOf : ByteArray := prog_9_method_5_code
def yX7_knownAsOf : MethodName := ⟨RX7, "knownAsOf", "(I)J"⟩
abbrev cX7_howManyOn : ByteArray := prog_9_method_6_code
def yX7_howManyOn : MethodName := ⟨RX7, "howManyOn", "(J)I"⟩
abbrev cX7_nextDayOfNews : ByteArray := prog_9_method_7_code
def yX7_nextDayOfNews : MethodName := ⟨RX7, "nextDayOfNews", "(I)I"⟩
abbrev cX7_nearer : ByteArray := prog_9_method_8_code
def yX7_nearer : MethodName := ⟨RX7, "nearer", "(III)I"⟩
abbrev cX7_exactDay : ByteArray := prog_9_method_9_code
def yX7_exactDay : MethodName := ⟨RX7, "exactDay", "(JII)I"⟩
def RX8 : String := "WhenItWas$Sheets"
def TX8 : u_T := fun k => match k with
  | 0 => ("WhenItWas$Sheets", "kind", "[I", true)
  | 1 => ("WhenItWas$Sheets", "size", "[I", true)
  | _ => ("WhenItWas$Sheets", "items", "[I", true)
def tyX8 : Nat → FieldType := fun k => match k with
  | 0 => .array .int
  | 1 => .array .int
  | _ => .array .int
abbrev wsX80 : List Cond := u_ws RX8 TX8 3
theorem nmX8 : ∀ a, a < 3 → ∀ b, b < 3 → a ≠ b → (TX8 a).2.1 ≠ (TX8 b).2.1 := by decide +kernel
theorem tyX8_ok : ∀ k, k < 3 → parseFieldDescriptor (TX8 k).2.2.1 = some (tyX8 k) := by decide +kernel
abbrev cX8_init : ByteArray := prog_10_method_1_code
def yX8_init : MethodName := ⟨RX8, "<init>", "()V"⟩
abbrev cX8_isLost : ByteArray := prog_10_method_2_code
def yX8_isLost : MethodName := ⟨RX8, "isLost", "(I)Z"⟩
abbrev cX8_renew : ByteArray := prog_10_method_3_code
def yX8_renew : MethodName := ⟨RX8, "renew", "(III)V"⟩
abbrev cX8_hindrance : ByteArray := prog_10_method_4_code
def yX8_hindrance : MethodName := ⟨RX8, "hindrance", "(III)I"⟩
abbrev cX8_has : ByteArray := prog_10_method_5_code
def yX8_has : MethodName := ⟨RX8, "has", "(III)Z"⟩
abbrev cX8_item : ByteArray := prog_10_method_6_code
def yX8_item : MethodName := ⟨RX8, "item", "(II)I"⟩
abbrev cX8_store : ByteArray := prog_10_method_7_code
def yX8_store : MethodName := ⟨RX8, "store", "(III)V"⟩
abbrev cX8_move : ByteArray := prog_10_method_8_code
def yX8_move : MethodName := ⟨RX8, "move", "(IIIII)V"⟩
abbrev cX8_narrowed : ByteArray := prog_10_method_9_code
def yX8_narrowed : MethodName := ⟨RX8, "narrowed", "(II)I"⟩
def RX9 : String := "WhenItWas"
def TX9 : u_T := fun k => match k with
  | 0 => ("WhenItWas", "net", "LWhenItWas$Net;", true)
  | 1 => ("WhenItWas", "books", "LWhenItWas$Books;", true)
  | 2 => ("WhenItWas", "rows", "LWhenItWas$Rows;", true)
  | 3 => ("WhenItWas", "doubt", "LWhenItWas$Doubt;", true)
  | 4 => ("WhenItWas", "lines", "LWhenItWas$Lines;", true)
  | 5 => ("WhenItWas", "kindred", "LWhenItWas$Kin;", true)
  | 6 => ("WhenItWas", "dates", "LWhenItWas$Dates;", true)
  | 7 => ("WhenItWas", "sheets", "LWhenItWas$Sheets;", true)
  | 8 => ("WhenItWas", "today", "I", false)
  | 9 => ("WhenItWas", "view", "I", false)
  | 10 => ("WhenItWas", "things", "I", false)
  | _ => ("WhenItWas", "finding", "I", false)
def tyX9 : Nat → FieldType := fun k => match k with
  | 0 => .object "WhenItWas$Net"
  | 1 => .object "WhenItWas$Books"
  | 2 => .object "WhenItWas$Rows"
  | 3 => .object "WhenItWas$Doubt"
  | 4 => .object "WhenItWas$Lines"
  | 5 => .object "WhenItWas$Kin"
  | 6 => .object "WhenItWas$Dates"
  | 7 => .object "WhenItWas$Sheets"
  | 8 => .int
  | 9 => .int
  | 10 => .int
  | _ => .int
abbrev wsX90 : List Cond := u_ws RX9 TX9 12
theorem nmX9 : ∀ a, a < 12 → ∀ b, b < 12 → a ≠ b → (TX9 a).2.1 ≠ (TX9 b).2.1 := by decide +kernel
theorem tyX9_ok : ∀ k, k < 12 → parseFieldDescriptor (TX9 k).2.2.1 = some (tyX9 k) := by decide +kernel
abbrev cX9_init : ByteArray := prog_1_method_1_code
def yX9_init : MethodName := ⟨RX9, "<init>", "()V"⟩
abbrev cX9_pass : ByteArray := prog_1_method_2_code
def yX9_pass : MethodName := ⟨RX9, "pass", "(I)I"⟩
abbrev cX9_thing : ByteArray := prog_1_method_3_code
def yX9_thing : MethodName := ⟨RX9, "thing", "()I"⟩
abbrev cX9_book : ByteArray := prog_1_method_4_code
def yX9_book : MethodName := ⟨RX9, "book", "(II)I"⟩
abbrev cX9_trust : ByteArray := prog_1_method_5_code
def yX9_trust : MethodName := ⟨RX9, "trust", "(II)I"⟩
abbrev cX9_on : ByteArray := prog_1_method_6_code
def yX9_on : MethodName := ⟨RX9, "on", "(IIII)I"⟩
abbrev cX9_apart : ByteArray := prog_1_method_7_code
def yX9_apart : MethodName := ⟨RX9, "apart", "(IIIII)I"⟩
abbrev cX9_read : ByteArray := prog_1_method_8_code
def yX9_read : MethodName := ⟨RX9, "read", "(I)I"⟩
abbrev cX9_takeBack : ByteArray := prog_1_method_9_code
def yX9_takeBack : MethodName := ⟨RX9, "takeBack", "(I)I"⟩
abbrev cX9_about : ByteArray := prog_1_method_10_code
def yX9_about : MethodName := ⟨RX9, "about", "(II)I"⟩
abbrev cX9_asOf : ByteArray := prog_1_method_11_code
def yX9_asOf : MethodName := ⟨RX9, "asOf", "(I)I"⟩
abbrev cX9_can : ByteArray := prog_1_method_12_code
def yX9_can : MethodName := ⟨RX9, "can", "(J)I"⟩
abbrev cX9_all : ByteArray := prog_1_method_13_code
def yX9_all : MethodName := ⟨RX9, "all", "()I"⟩
abbrev cX9_span : ByteArray := prog_1_method_14_code
def yX9_span : MethodName := ⟨RX9, "span", "(II)I"⟩
abbrev cX9_clock : ByteArray := prog_1_method_15_code
def yX9_clock : MethodName := ⟨RX9, "clock", "(II)I"⟩
abbrev cX9_between : ByteArray := prog_1_method_16_code
def yX9_between : MethodName := ⟨RX9, "between", "(III)I"⟩
abbrev cX9_led : ByteArray := prog_1_method_17_code
def yX9_led : MethodName := ⟨RX9, "led", "(II)I"⟩
abbrev cX9_changed : ByteArray := prog_1_method_18_code
def yX9_changed : MethodName := ⟨RX9, "changed", "(II)I"⟩
abbrev cX9_fits : ByteArray := prog_1_method_19_code
def yX9_fits : MethodName := ⟨RX9, "fits", "(I)I"⟩
abbrev cX9_room : ByteArray := prog_1_method_20_code
def yX9_room : MethodName := ⟨RX9, "room", "(II)I"⟩
abbrev cX9_kin : ByteArray := prog_1_method_21_code
def yX9_kin : MethodName := ⟨RX9, "kin", "(III)I"⟩
abbrev cX9_hangs : ByteArray := prog_1_method_22_code
def yX9_hangs : MethodName := ⟨RX9, "hangs", "(I)J"⟩
abbrev cX9_doubts : ByteArray := prog_1_method_23_code
def yX9_doubts : MethodName := ⟨RX9, "doubts", "()J"⟩
abbrev cX9_blamed : ByteArray := prog_1_method_24_code
def yX9_blamed : MethodName := ⟨RX9, "blamed", "(I)I"⟩
abbrev cX9_ahead : ByteArray := prog_1_method_25_code
def yX9_ahead : MethodName := ⟨RX9, "ahead", "(II)I"⟩
abbrev cX9_orders : ByteArray := prog_1_method_26_code
def yX9_orders : MethodName := ⟨RX9, "orders", "()J"⟩
abbrev cX9_share : ByteArray := prog_1_method_27_code
def yX9_share : MethodName := ⟨RX9, "share", "(III)J"⟩
abbrev cX9_first : ByteArray := prog_1_method_28_code
def yX9_first : MethodName := ⟨RX9, "first", "(I)J"⟩
abbrev cX9_question : ByteArray := prog_1_method_29_code
def yX9_question : MethodName := ⟨RX9, "question", "()I"⟩
abbrev cX9_dayOf : ByteArray := prog_1_method_30_code
def yX9_dayOf : MethodName := ⟨RX9, "dayOf", "(IIII)I"⟩
abbrev cX9_dateOf : ByteArray := prog_1_method_31_code
def yX9_dateOf : MethodName := ⟨RX9, "dateOf", "(III)I"⟩
abbrev cX9_type : ByteArray := prog_1_method_32_code
def yX9_type : MethodName := ⟨RX9, "type", "(I)I"⟩
abbrev cX9_wipe : ByteArray := prog_1_method_33_code
def yX9_wipe : MethodName := ⟨RX9, "wipe", "()I"⟩
abbrev cX9_fault : ByteArray := prog_1_method_34_code
def yX9_fault : MethodName := ⟨RX9, "fault", "()I"⟩
abbrev cX9_said : ByteArray := prog_1_method_35_code
def yX9_said : MethodName := ⟨RX9, "said", "(II)I"⟩
abbrev cX9_sheet : ByteArray := prog_1_method_36_code
def yX9_sheet : MethodName := ⟨RX9, "sheet", "(III)I"⟩
abbrev cX9_lose : ByteArray := prog_1_method_37_code
def yX9_lose : MethodName := ⟨RX9, "lose", "(I)I"⟩
abbrev cX9_put : ByteArray := prog_1_method_38_code
def yX9_put : MethodName := ⟨RX9, "put", "(IIII)I"⟩
abbrev cX9_get : ByteArray := prog_1_method_39_code
def yX9_get : MethodName := ⟨RX9, "get", "(III)I"⟩
abbrev cX9_copy : ByteArray := prog_1_method_40_code
def yX9_copy : MethodName := ⟨RX9, "copy", "(IIIII)I"⟩
abbrev cX9_write : ByteArray := prog_1_method_41_code
def yX9_write : MethodName := ⟨RX9, "write", "(I)I"⟩
abbrev cX9_count : ByteArray := prog_1_method_42_code
def yX9_count : MethodName := ⟨RX9, "count", "(I)I"⟩
abbrev cX9_digest : ByteArray := prog_1_method_43_code
def yX9_digest : MethodName := ⟨RX9, "digest", "()J"⟩
abbrev cX9_digestSpans : ByteArray := prog_1_method_44_code
def yX9_digestSpans : MethodName := ⟨RX9, "digestSpans", "(J)J"⟩
abbrev cX9_isThing : ByteArray := prog_1_method_45_code
def yX9_isThing : MethodName := ⟨RX9, "isThing", "(I)Z"⟩
abbrev cX9_areTwoThings : ByteArray := prog_1_method_46_code
def yX9_areTwoThings : MethodName := ⟨RX9, "areTwoThings", "(II)Z"⟩
abbrev cX9_isBook : ByteArray := prog_1_method_47_code
def yX9_isBook : MethodName := ⟨RX9, "isBook", "(I)Z"⟩
abbrev cX9_isRow : ByteArray := prog_1_method_48_code
def yX9_isRow : MethodName := ⟨RX9, "isRow", "(I)Z"⟩
abbrev cX9_isSheet : ByteArray := prog_1_method_49_code
def yX9_isSheet : MethodName := ⟨RX9, "isSheet", "(I)Z"⟩
abbrev cX9_isType : ByteArray := prog_1_method_50_code
def yX9_isType : MethodName := ⟨RX9, "isType", "(I)Z"⟩
abbrev cX9_isEnd : ByteArray := prog_1_method_51_code
def yX9_isEnd : MethodName := ⟨RX9, "isEnd", "(I)Z"⟩
abbrev cX9_isRange : ByteArray := prog_1_method_52_code
def yX9_isRange : MethodName := ⟨RX9, "isRange", "(III)Z"⟩
abbrev cX9_oneIf : ByteArray := prog_1_method_53_code
def yX9_oneIf : MethodName := ⟨RX9, "oneIf", "(Z)I"⟩
abbrev cX9_asLong : ByteArray := prog_1_method_54_code
def yX9_asLong : MethodName := ⟨RX9, "asLong", "(I)J"⟩
abbrev cX9_commonDivisor : ByteArray := prog_1_method_55_code
def yX9_commonDivisor : MethodName := ⟨RX9, "commonDivisor", "(JJ)J"⟩
abbrev cX9_found : ByteArray := prog_1_method_56_code
def yX9_found : MethodName := ⟨RX9, "found", "(I)I"⟩
abbrev cX9_dayOfView : ByteArray := prog_1_method_57_code
def yX9_dayOfView : MethodName := ⟨RX9, "dayOfView", "()I"⟩
abbrev cX9_knownRows : ByteArray := prog_1_method_58_code
def yX9_knownRows : MethodName := ⟨RX9, "knownRows", "()J"⟩
abbrev cX9_tellFromSheet : ByteArray := prog_1_method_59_code
def yX9_tellFromSheet : MethodName := ⟨RX9, "tellFromSheet", "(II)I"⟩
abbrev cX9_isFitting : ByteArray := prog_1_method_60_code
def yX9_isFitting : MethodName := ⟨RX9, "isFitting", "(I)Z"⟩
abbrev cX9_areApartAsTold : ByteArray := prog_1_method_61_code
def yX9_areApartAsTold : MethodName := ⟨RX9, "areApartAsTold", "(I)Z"⟩
abbrev cX9_areClocksPossible : ByteArray := prog_1_method_62_code
def yX9_areClocksPossible : MethodName := ⟨RX9, "areClocksPossible", "(I)Z"⟩
abbrev cX9_roomByDays : ByteArray := prog_1_method_63_code
def yX9_roomByDays : MethodName := ⟨RX9, "roomByDays", "(II)I"⟩
abbrev cX9_lookForDoubts : ByteArray := prog_1_method_64_code
def yX9_lookForDoubts : MethodName := ⟨RX9, "lookForDoubts", "(J)I"⟩
abbrev cX9_layLines : ByteArray := prog_1_method_65_code
def yX9_layLines : MethodName := ⟨RX9, "layLines", "()Z"⟩
def RX10 : String := "WhenItWasModel"
def TX10 : u_T := fun k => match k with
  | 0 => ("WhenItWasModel", "day", "I", false)
  | 1 => ("WhenItWasModel", "things", "I", false)
  | 2 => ("WhenItWasModel", "books", "I", false)
  | 3 => ("WhenItWasModel", "clockLow", "[I", true)
  | 4 => ("WhenItWasModel", "clockHigh", "[I", true)
  | 5 => ("WhenItWasModel", "trustOf", "[I", true)
  | 6 => ("WhenItWasModel", "rows", "I", false)
  | 7 => ("WhenItWasModel", "rowBook", "[I", true)
  | 8 => ("WhenItWasModel", "rowThing", "[I", true)
  | 9 => ("WhenItWasModel", "rowOther", "[I", true)
  | 10 => ("WhenItWasModel", "rowX", "[I", true)
  | 11 => ("WhenItWasModel", "rowY", "[I", true)
  | 12 => ("WhenItWasModel", "rowTold", "[I", true)
  | 13 => ("WhenItWasModel", "rowBack", "[I", true)
  | 14 => ("WhenItWasModel", "knownTo", "I", false)
  | 15 => ("WhenItWasModel", "far", "[I", true)
  | 16 => ("WhenItWasModel", "reach", "[I", true)
  | 17 => ("WhenItWasModel", "steps", "[I", true)
  | 18 => ("WhenItWasModel", "couldBe", "Z", false)
  | 19 => ("WhenItWasModel", "leastWas", "I", false)
  | 20 => ("WhenItWasModel", "greatestWas", "I", false)
  | 21 => ("WhenItWasModel", "offLow", "[I", true)
  | 22 => ("WhenItWasModel", "offHigh", "[I", true)
  | 23 => ("WhenItWasModel", "kinBy", "[I", true)
  | 24 => ("WhenItWasModel", "asked", "[I", true)
  | 25 => ("WhenItWasModel", "askedMany", "I", false)
  | 26 => ("WhenItWasModel", "blames", "[I", true)
  | 27 => ("WhenItWasModel", "doubtBits", "J", false)
  | 28 => ("WhenItWasModel", "aheadOf", "[I", true)
  | 29 => ("WhenItWasModel", "countOf", "[J", true)
  | 30 => ("WhenItWasModel", "typed", "I", false)
  | 31 => ("WhenItWasModel", "text", "[I", true)
  | 32 => ("WhenItWasModel", "at", "I", false)
  | 33 => ("WhenItWasModel", "fault", "I", false)
  | 34 => ("WhenItWasModel", "firstDay", "I", false)
  | 35 => ("WhenItWasModel", "secondDay", "I", false)
  | 36 => ("WhenItWasModel", "isThere", "[Z", true)
  | 37 => ("WhenItWasModel", "types", "[I", true)
  | 38 => ("WhenItWasModel", "sizes", "[I", true)
  | 39 => ("WhenItWasModel", "items", "[I", true)
  | 40 => ("WhenItWasModel", "moved", "[I", true)
  | _ => ("WhenItWasModel", "finding", "I", false)
def tyX10 : Nat → FieldType := fun k => match k with
  | 0 => .int
  | 1 => .int
  | 2 => .int
  | 3 => .array .int
  | 4 => .array .int
  | 5 => .array .int
  | 6 => .int
  | 7 => .array .int
  | 8 => .array .int
  | 9 => .array .int
  | 10 => .array .int
  | 11 => .array .int
  | 12 => .array .int
  | 13 => .array .int
  | 14 => .int
  | 15 => .array .int
  | 16 => .array .int
  | 17 => .array .int
  | 18 => .boolean
  | 19 => .int
  | 20 => .int
  | 21 => .array .int
  | 22 => .array .int
  | 23 => .array .int
  | 24 => .array .int
  | 25 => .int
  | 26 => .array .int
  | 27 => .long
  | 28 => .array .int
  | 29 => .array .long
  | 30 => .int
  | 31 => .array .int
  | 32 => .int
  | 33 => .int
  | 34 => .int
  | 35 => .int
  | 36 => .array .boolean
  | 37 => .array .int
  | 38 => .array .int
  | 39 => .array .int
  | 40 => .array .int
  | _ => .int
abbrev wsX100 : List Cond := u_ws RX10 TX10 42
theorem nmX10 : ∀ a, a < 42 → ∀ b, b < 42 → a ≠ b → (TX10 a).2.1 ≠ (TX10 b).2.1 := by decide +kernel
theorem tyX10_ok : ∀ k, k < 42 → parseFieldDescriptor (TX10 k).2.2.1 = some (tyX10 k) := by decide +kernel
abbrev cX10_init : ByteArray := prog_12_method_1_code
def yX10_init : MethodName := ⟨RX10, "<init>", "()V"⟩
abbrev cX10_in : ByteArray := prog_12_method_3_code
def yX10_in : MethodName := ⟨RX10, "in", "(III)Z"⟩
abbrev cX10_isThing : ByteArray := prog_12_method_4_code
def yX10_isThing : MethodName := ⟨RX10, "isThing", "(I)Z"⟩
abbrev cX10_isBook : ByteArray := prog_12_method_5_code
def yX10_isBook : MethodName := ⟨RX10, "isBook", "(I)Z"⟩
abbrev cX10_isKnownTo : ByteArray := prog_12_method_6_code
def yX10_isKnownTo : MethodName := ⟨RX10, "isKnownTo", "(II)Z"⟩
abbrev cX10_isKnown : ByteArray := prog_12_method_7_code
def yX10_isKnown : MethodName := ⟨RX10, "isKnown", "(I)Z"⟩
abbrev cX10_knownBits : ByteArray := prog_12_method_8_code
def yX10_knownBits : MethodName := ⟨RX10, "knownBits", "(I)J"⟩
abbrev cX10_knownNow : ByteArray := prog_12_method_9_code
def yX10_knownNow : MethodName := ⟨RX10, "knownNow", "()J"⟩
abbrev cX10_pass : ByteArray := prog_12_method_10_code
def yX10_pass : MethodName := ⟨RX10, "pass", "(I)I"⟩
abbrev cX10_thing : ByteArray := prog_12_method_11_code
def yX10_thing : MethodName := ⟨RX10, "thing", "()I"⟩
abbrev cX10_book : ByteArray := prog_12_method_12_code
def yX10_book : MethodName := ⟨RX10, "book", "(II)I"⟩
abbrev cX10_trust : ByteArray := prog_12_method_13_code
def yX10_trust : MethodName := ⟨RX10, "trust", "(II)I"⟩
abbrev cX10_rowMore : ByteArray := prog_12_method_14_code
def yX10_rowMore : MethodName := ⟨RX10, "rowMore", "(IIIII)I"⟩
abbrev cX10_onMore : ByteArray := prog_12_method_15_code
def yX10_onMore : MethodName := ⟨RX10, "onMore", "(IIII)I"⟩
abbrev cX10_apartMore : ByteArray := prog_12_method_16_code
def yX10_apartMore : MethodName := ⟨RX10, "apartMore", "(IIIII)I"⟩
abbrev cX10_on : ByteArray := prog_12_method_17_code
def yX10_on : MethodName := ⟨RX10, "on", "(IIII)I"⟩
abbrev cX10_apart : ByteArray := prog_12_method_18_code
def yX10_apart : MethodName := ⟨RX10, "apart", "(IIIII)I"⟩
abbrev cX10_read : ByteArray := prog_12_method_19_code
def yX10_read : MethodName := ⟨RX10, "read", "(I)I"⟩
abbrev cX10_takeBack : ByteArray := prog_12_method_20_code
def yX10_takeBack : MethodName := ⟨RX10, "takeBack", "(I)I"⟩
abbrev cX10_aboutOf : ByteArray := prog_12_method_21_code
def yX10_aboutOf : MethodName := ⟨RX10, "aboutOf", "(II)I"⟩
abbrev cX10_about : ByteArray := prog_12_method_22_code
def yX10_about : MethodName := ⟨RX10, "about", "(II)I"⟩
abbrev cX10_asOf : ByteArray := prog_12_method_23_code
def yX10_asOf : MethodName := ⟨RX10, "asOf", "(I)I"⟩
abbrev cX10_atMost : ByteArray := prog_12_method_24_code
def yX10_atMost : MethodName := ⟨RX10, "atMost", "(III)V"⟩
abbrev cX10_leansOn : ByteArray := prog_12_method_25_code
def yX10_leansOn : MethodName := ⟨RX10, "leansOn", "(I)I"⟩
abbrev cX10_works : ByteArray := prog_12_method_26_code
def yX10_works : MethodName := ⟨RX10, "works", "(J)Z"⟩
abbrev cX10_can : ByteArray := prog_12_method_27_code
def yX10_can : MethodName := ⟨RX10, "can", "(J)I"⟩
abbrev cX10_canAll : ByteArray := prog_12_method_28_code
def yX10_canAll : MethodName := ⟨RX10, "canAll", "()Z"⟩
abbrev cX10_all : ByteArray := prog_12_method_29_code
def yX10_all : MethodName := ⟨RX10, "all", "()I"⟩
abbrev cX10_endOf : ByteArray := prog_12_method_30_code
def yX10_endOf : MethodName := ⟨RX10, "endOf", "(II)I"⟩
abbrev cX10_span : ByteArray := prog_12_method_31_code
def yX10_span : MethodName := ⟨RX10, "span", "(II)I"⟩
abbrev cX10_clockEnd : ByteArray := prog_12_method_32_code
def yX10_clockEnd : MethodName := ⟨RX10, "clockEnd", "(II)I"⟩
abbrev cX10_clock : ByteArray := prog_12_method_33_code
def yX10_clock : MethodName := ⟨RX10, "clock", "(II)I"⟩
abbrev cX10_areTwo : ByteArray := prog_12_method_34_code
def yX10_areTwo : MethodName := ⟨RX10, "areTwo", "(II)Z"⟩
abbrev cX10_between : ByteArray := prog_12_method_35_code
def yX10_between : MethodName := ⟨RX10, "between", "(III)I"⟩
abbrev cX10_nears : ByteArray := prog_12_method_36_code
def yX10_nears : MethodName := ⟨RX10, "nears", "(III)Z"⟩
abbrev cX10_led : ByteArray := prog_12_method_37_code
def yX10_led : MethodName := ⟨RX10, "led", "(II)I"⟩
abbrev cX10_isOther : ByteArray := prog_12_method_38_code
def yX10_isOther : MethodName := ⟨RX10, "isOther", "(II)Z"⟩
abbrev cX10_changed : ByteArray := prog_12_method_39_code
def yX10_changed : MethodName := ⟨RX10, "changed", "(II)I"⟩
abbrev cX10_isFitting : ByteArray := prog_12_method_40_code
def yX10_isFitting : MethodName := ⟨RX10, "isFitting", "(I)Z"⟩
abbrev cX10_fits : ByteArray := prog_12_method_41_code
def yX10_fits : MethodName := ⟨RX10, "fits", "(I)I"⟩
abbrev cX10_room : ByteArray := prog_12_method_42_code
def yX10_room : MethodName := ⟨RX10, "room", "(II)I"⟩
abbrev cX10_latest : ByteArray := prog_12_method_43_code
def yX10_latest : MethodName := ⟨RX10, "latest", "(II)I"⟩
abbrev cX10_kin : ByteArray := prog_12_method_44_code
def yX10_kin : MethodName := ⟨RX10, "kin", "(III)I"⟩
abbrev cX10_hangs : ByteArray := prog_12_method_45_code
def yX10_hangs : MethodName := ⟨RX10, "hangs", "(I)J"⟩
abbrev cX10_ones : ByteArray := prog_12_method_46_code
def yX10_ones : MethodName := ⟨RX10, "ones", "(I)I"⟩
abbrev cX10_trustOfSet : ByteArray := prog_12_method_47_code
def yX10_trustOfSet : MethodName := ⟨RX10, "trustOfSet", "(I)I"⟩
abbrev cX10_bitsOf : ByteArray := prog_12_method_48_code
def yX10_bitsOf : MethodName := ⟨RX10, "bitsOf", "(I)J"⟩
abbrev cX10_doubtsNow : ByteArray := prog_12_method_49_code
def yX10_doubtsNow : MethodName := ⟨RX10, "doubtsNow", "()I"⟩
abbrev cX10_doubts : ByteArray := prog_12_method_50_code
def yX10_doubts : MethodName := ⟨RX10, "doubts", "()J"⟩
abbrev cX10_blamed : ByteArray := prog_12_method_51_code
def yX10_blamed : MethodName := ⟨RX10, "blamed", "(I)I"⟩
abbrev cX10_sures : ByteArray := prog_12_method_52_code
def yX10_sures : MethodName := ⟨RX10, "sures", "()Z"⟩
abbrev cX10_ordersBut : ByteArray := prog_12_method_53_code
def yX10_ordersBut : MethodName := ⟨RX10, "ordersBut", "(I)J"⟩
abbrev cX10_ordersWith : ByteArray := prog_12_method_54_code
def yX10_ordersWith : MethodName := ⟨RX10, "ordersWith", "(II)J"⟩
abbrev cX10_ahead : ByteArray := prog_12_method_55_code
def yX10_ahead : MethodName := ⟨RX10, "ahead", "(II)I"⟩
abbrev cX10_ordersNow : ByteArray := prog_12_method_56_code
def yX10_ordersNow : MethodName := ⟨RX10, "ordersNow", "()J"⟩
abbrev cX10_orders : ByteArray := prog_12_method_57_code
def yX10_orders : MethodName := ⟨RX10, "orders", "()J"⟩
abbrev cX10_divisor : ByteArray := prog_12_method_58_code
def yX10_divisor : MethodName := ⟨RX10, "divisor", "(JJ)J"⟩
abbrev cX10_share : ByteArray := prog_12_method_59_code
def yX10_share : MethodName := ⟨RX10, "share", "(III)J"⟩
abbrev cX10_first : ByteArray := prog_12_method_60_code
def yX10_first : MethodName := ⟨RX10, "first", "(I)J"⟩
abbrev cX10_question : ByteArray := prog_12_method_61_code
def yX10_question : MethodName := ⟨RX10, "question", "()I"⟩
abbrev cX10_isLeap : ByteArray := prog_12_method_62_code
def yX10_isLeap : MethodName := ⟨RX10, "isLeap", "(II)Z"⟩
abbrev cX10_daysOf : ByteArray := prog_12_method_63_code
def yX10_daysOf : MethodName := ⟨RX10, "daysOf", "(III)I"⟩
abbrev cX10_daysTo : ByteArray := prog_12_method_64_code
def yX10_daysTo : MethodName := ⟨RX10, "daysTo", "(IIII)I"⟩
abbrev cX10_dayNumber : ByteArray := prog_12_method_65_code
def yX10_dayNumber : MethodName := ⟨RX10, "dayNumber", "(IIII)I"⟩
abbrev cX10_dayOf : ByteArray := prog_12_method_66_code
def yX10_dayOf : MethodName := ⟨RX10, "dayOf", "(IIII)I"⟩
abbrev cX10_dateOf : ByteArray := prog_12_method_67_code
def yX10_dateOf : MethodName := ⟨RX10, "dateOf", "(III)I"⟩
abbrev cX10_type : ByteArray := prog_12_method_68_code
def yX10_type : MethodName := ⟨RX10, "type", "(I)I"⟩
abbrev cX10_wipe : ByteArray := prog_12_method_69_code
def yX10_wipe : MethodName := ⟨RX10, "wipe", "()I"⟩
abbrev cX10_byteAt : ByteArray := prog_12_method_70_code
def yX10_byteAt : MethodName := ⟨RX10, "byteAt", "(I)I"⟩
abbrev cX10_figures : ByteArray := prog_12_method_71_code
def yX10_figures : MethodName := ⟨RX10, "figures", "(II)I"⟩
abbrev cX10_dot : ByteArray := prog_12_method_72_code
def yX10_dot : MethodName := ⟨RX10, "dot", "()V"⟩
abbrev cX10_date : ByteArray := prog_12_method_73_code
def yX10_date : MethodName := ⟨RX10, "date", "()I"⟩
abbrev cX10_faultNow : ByteArray := prog_12_method_74_code
def yX10_faultNow : MethodName := ⟨RX10, "faultNow", "()I"⟩
abbrev cX10_fault : ByteArray := prog_12_method_75_code
def yX10_fault : MethodName := ⟨RX10, "fault", "()I"⟩
abbrev cX10_said : ByteArray := prog_12_method_76_code
def yX10_said : MethodName := ⟨RX10, "said", "(II)I"⟩
abbrev cX10_meets : ByteArray := prog_12_method_77_code
def yX10_meets : MethodName := ⟨RX10, "meets", "(I)I"⟩
abbrev cX10_isSheet : ByteArray := prog_12_method_78_code
def yX10_isSheet : MethodName := ⟨RX10, "isSheet", "(I)Z"⟩
abbrev cX10_sheet : ByteArray := prog_12_method_79_code
def yX10_sheet : MethodName := ⟨RX10, "sheet", "(III)I"⟩
abbrev cX10_lose : ByteArray := prog_12_method_80_code
def yX10_lose : MethodName := ⟨RX10, "lose", "(I)I"⟩
abbrev cX10_lacks : ByteArray := prog_12_method_81_code
def yX10_lacks : MethodName := ⟨RX10, "lacks", "(III)I"⟩
abbrev cX10_lay : ByteArray := prog_12_method_82_code
def yX10_lay : MethodName := ⟨RX10, "lay", "(III)V"⟩
abbrev cX10_put : ByteArray := prog_12_method_83_code
def yX10_put : MethodName := ⟨RX10, "put", "(IIII)I"⟩
abbrev cX10_get : ByteArray := prog_12_method_84_code
def yX10_get : MethodName := ⟨RX10, "get", "(III)I"⟩
abbrev cX10_copy : ByteArray := prog_12_method_85_code
def yX10_copy : MethodName := ⟨RX10, "copy", "(IIIII)I"⟩
abbrev cX10_write : ByteArray := prog_12_method_86_code
def yX10_write : MethodName := ⟨RX10, "write", "(I)I"⟩
abbrev cX10_count : ByteArray := prog_12_method_87_code
def yX10_count : MethodName := ⟨RX10, "count", "(I)I"⟩
abbrev cX10_digest : ByteArray := prog_12_method_88_code
def yX10_digest : MethodName := ⟨RX10, "digest", "()J"⟩
def RJ6 : String := "java/lang/Integer"
def TJ6 : u_T := fun k => match k with
  | _ => ("", "", "", false)
def tyJ6 : Nat → FieldType := fun k => match k with
  | _ => .int
abbrev wsJ60 : List Cond := u_ws RJ6 TJ6 0
theorem nmJ6 : ∀ a, a < 0 → ∀ b, b < 0 → a ≠ b → (TJ6 a).2.1 ≠ (TJ6 b).2.1 := by decide +kernel
theorem tyJ6_ok : ∀ k, k < 0 → parseFieldDescriptor (TJ6 k).2.2.1 = some (tyJ6 k) := by decide +kernel
abbrev cJ6_bitCount_0f7a4 : ByteArray := prog_13_method_49_code
def yJ6_bitCount_0f7a4 : MethodName := ⟨RJ6, "bitCount", "(I)I"⟩
def RJ13 : String := "java/lang/Long"
def TJ13 : u_T := fun k => match k with
  | _ => ("", "", "", false)
def tyJ13 : Nat → FieldType := fun k => match k with
  | _ => .int
abbrev wsJ130 : List Cond := u_ws RJ13 TJ13 0
theorem nmJ13 : ∀ a, a < 0 → ∀ b, b < 0 → a ≠ b → (TJ13 a).2.1 ≠ (TJ13 b).2.1 := by decide +kernel
theorem tyJ13_ok : ∀ k, k < 0 → parseFieldDescriptor (TJ13 k).2.2.1 = some (tyJ13 k) := by decide +kernel
abbrev cJ13_bitCount_95d88 : ByteArray := prog_14_method_50_code
def yJ13_bitCount_95d88 : MethodName := ⟨RJ13, "bitCount", "(J)I"⟩
def RJ9 : String := "java/lang/Math"
def TJ9 : u_T := fun k => match k with
  | _ => ("", "", "", false)
def tyJ9 : Nat → FieldType := fun k => match k with
  | _ => .int
abbrev wsJ90 : List Cond := u_ws RJ9 TJ9 0
theorem nmJ9 : ∀ a, a < 0 → ∀ b, b < 0 → a ≠ b → (TJ9 a).2.1 ≠ (TJ9 b).2.1 := by decide +kernel
theorem tyJ9_ok : ∀ k, k < 0 → parseFieldDescriptor (TJ9 k).2.2.1 = some (tyJ9 k) := by decide +kernel
abbrev cJ9_max_7cf53 : ByteArray := prog_15_method_65_code
def yJ9_max_7cf53 : MethodName := ⟨RJ9, "max", "(II)I"⟩
abbrev cJ9_min_7cf53 : ByteArray := prog_15_method_69_code
def yJ9_min_7cf53 : MethodName := ⟨RJ9, "min", "(II)I"⟩
def RJ10 : String := "java/lang/System"
def TJ10 : u_T := fun k => match k with
  | _ => ("", "", "", false)
def tyJ10 : Nat → FieldType := fun k => match k with
  | _ => .int
abbrev wsJ100 : List Cond := u_ws RJ10 TJ10 0
theorem nmJ10 : ∀ a, a < 0 → ∀ b, b < 0 → a ≠ b → (TJ10 a).2.1 ≠ (TJ10 b).2.1 := by decide +kernel
theorem tyJ10_ok : ∀ k, k < 0 → parseFieldDescriptor (TJ10 k).2.2.1 = some (tyJ10 k) := by decide +kernel
def RJ7 : String := "java/util/Arrays"
def TJ7 : u_T := fun k => match k with
  | _ => ("", "", "", false)
def tyJ7 : Nat → FieldType := fun k => match k with
  | _ => .int
abbrev wsJ70 : List Cond := u_ws RJ7 TJ7 0
theorem nmJ7 : ∀ a, a < 0 → ∀ b, b < 0 → a ≠ b → (TJ7 a).2.1 ≠ (TJ7 b).2.1 := by decide +kernel
theorem tyJ7_ok : ∀ k, k < 0 → parseFieldDescriptor (TJ7 k).2.2.1 = some (tyJ7 k) := by decide +kernel
abbrev cJ7_fill_53178 : ByteArray := prog_17_method_103_code
def yJ7_fill_53178 : MethodName := ⟨RJ7, "fill", "([II)V"⟩
def RL : String := "WhenItWasLaw"
abbrev cL_law : ByteArray := code
def yL_law : MethodName := ⟨RL, "law", "([I)Z"⟩
theorem inX0 : ∀ w ∈ wsX00, w ∈ lw_tbl := by decide +kernel
theorem inX2 : ∀ w ∈ wsX20, w ∈ lw_tbl := by decide +kernel
theorem inX3 : ∀ w ∈ wsX30, w ∈ lw_tbl := by decide +kernel
theorem inX4 : ∀ w ∈ wsX40, w ∈ lw_tbl := by decide +kernel
theorem inX5 : ∀ w ∈ wsX50, w ∈ lw_tbl := by decide +kernel
theorem inX6 : ∀ w ∈ wsX60, w ∈ lw_tbl := by decide +kernel
theorem inX7 : ∀ w ∈ wsX70, w ∈ lw_tbl := by decide +kernel
theorem inX8 : ∀ w ∈ wsX80, w ∈ lw_tbl := by decide +kernel
theorem inX9 : ∀ w ∈ wsX90, w ∈ lw_tbl := by decide +kernel
theorem inX10 : ∀ w ∈ wsX100, w ∈ lw_tbl := by decide +kernel
/-- the classes whose objects the worlds hold -/
abbrev cx_cls : List vw_C := [(RX0, TX0, 4), (RX2, TX2, 7), (RX3, TX3, 5), (RX4, TX4, 4), (RX5, TX5, 5), (RX6, TX6, 13), (RX7, TX7, 8), (RX8, TX8, 3), (RX9, TX9, 12), (RX10, TX10, 42)]
end
section
/-! THE LAYER: a side's cells as one value (ints and longs by cell and place), and a judgement over it -/
def ax_tb : List Cond := lw_tbl.filter goodWord
abbrev ax_S : Type := (Nat → Nat → Int32) × (Nat → Nat → Int64)
abbrev ax_L : Type := List (Nat × Nat × List Nat)
abbrev ax_St : Type := List (String × String × Nat × Nat × (Nat → Int32))
abbrev ax_Sd : Type := ax_L × ax_St
abbrev ax_G : Type := va_G × (Nat → Nat) × ClassId × ClassId × ClassId
abbrev ax_Mu : Type := MethodName × ByteArray × Nat × Option FieldType × Nat × Nat
abbrev ax_K : Type := Program × Launch × Env × Room × State × MethodId × Array Value × List Frame × Method × Code
abbrev ax_V : Type := ax_Sd × ax_G × ax_K × Option Value × ax_S
def ax_ad (V : ax_V) (k : Nat) : Nat := V.2.1.2.1 k
def ax_fv (ad : Nat → Nat) (s : ax_S) (k j t : Nat) : Value := match t with
  | 0 => .int (s.1 k j)
  | 1 => .long (s.2 k j)
  | t + 2 => .ref (ad t)
def ax_fs (ad : Nat → Nat) (s : ax_S) (k : Nat) (fds : List Nat) : List Value := fds.mapIdx (fun j t => ax_fv ad s k j t)
def ax_e (G : ax_G) (s : ax_S) (k : Nat) (d : Nat × Nat × List Nat) : va_E := match d.1 with
  | 0 => .inr (d.2.1, ax_fs G.2.1 s k d.2.2)
  | 1 => .inl (G.2.2.1, d.2.1, .inl (s.1 k))
  | 2 => .inl (G.2.2.2.1, d.2.1, .inr (.inl (s.2 k)))
  | _ => .inl (G.2.2.2.2, d.2.1, .inl (s.1 k))
def ax_ws (L : ax_L) (G : ax_G) (s : ax_S) : va_W := L.mapIdx (fun k d => (G.2.1 k, ax_e G s k d))
def ax_tys (G : ax_G) : List (ClassId × FieldType) := [(G.2.2.1, .int), (G.2.2.2.1, .long), (G.2.2.2.2, .boolean)]
def ax_A (L : ax_L) (G : ax_G) : Nat → Prop := fun q => ∃ k, k < L.length ∧ q = G.2.1 k
def ax_inj (L : ax_L) (G : ax_G) : Prop := ∀ i j, i < L.length → j < L.length → G.2.1 i = G.2.1 j → i = j
def ax_stat (St : ax_St) (A : Nat → Prop) (G : ax_G) (U : State) (H : Heap) : Prop := ∀ q ∈ St, va_Z q.1 q.2.1 "[I" (.ref (G.2.1 q.2.2.1)) A U H ∧ va_T .int (G.2.1 q.2.2.1) q.2.2.2.1 (fun j => .int (q.2.2.2.2 j)) A U H
def ax_ui (s : ax_S) (k j : Nat) (v : Int32) : ax_S := (fun a b => if a = k ∧ b = j then v else s.1 a b, s.2)
def ax_ul (s : ax_S) (k j : Nat) (v : Int64) : ax_S := (s.1, fun a b => if a = k ∧ b = j then v else s.2 a b)
def ax_wi (s : ax_S) (k : Nat) (f : Nat → Int32) : ax_S := (fun a => if a = k then f else s.1 a, s.2)
theorem ax_ws_get {L : ax_L} {G : ax_G} {s : ax_S} {k : Nat} {d : Nat × Nat × List Nat} (h : L[k]? = some d) : (ax_ws L G s)[k]? = some (G.2.1 k, ax_e G s k d) := by
  simp [ax_ws, List.getElem?_mapIdx, h]
theorem ax_ws_of {L : ax_L} {G : ax_G} {s : ax_S} {k : Nat} {q : Nat × va_E} (h : (ax_ws L G s)[k]? = some q) : ∃ d, L[k]? = some d ∧ q = (G.2.1 k, ax_e G s k d) := by
  simp only [ax_ws, List.getElem?_mapIdx, Option.map_eq_some_iff] at h
  obtain ⟨d, hd, he⟩ := h
  exact ⟨d, hd, he.symm⟩
theorem ax_D_of {L : ax_L} {G : ax_G} (hi : ax_inj L G) (s : ax_S) : va_D (ax_A L G) (ax_ws L G s) := by
  refine ⟨fun i j p q hp hq he => ?_, fun k q hq => ?_⟩
  · obtain ⟨d, hd, rfl⟩ := ax_ws_of hp
    obtain ⟨d', hd', rfl⟩ := ax_ws_of hq
    exact hi i j (List.getElem?_eq_some_iff.mp hd).1 (List.getElem?_eq_some_iff.mp hd').1 he
  · obtain ⟨d, hd, rfl⟩ := ax_ws_of hq
    exact ⟨k, (List.getElem?_eq_some_iff.mp hd).1, rfl⟩
theorem ax_ws_set {L : ax_L} {G : ax_G} {s s' : ax_S} {k : Nat} {d : Nat × Nat × List Nat} {x : va_E} (h : L[k]? = some d) (hx : x = ax_e G s' k d) (hd : ∀ j d', j ≠ k → ax_e G s' j d' = ax_e G s j d') : (ax_ws L G s).set k (G.2.1 k, x) = ax_ws L G s' := by
  subst hx
  apply List.ext_getElem?
  intro i
  by_cases hi : k = i
  · subst hi
    rw [ax_ws_get h, List.getElem?_set_self (by simpa [ax_ws] using (List.getElem?_eq_some_iff.mp h).1)]
  · rw [List.getElem?_set_ne hi]
    simp only [ax_ws, List.getElem?_mapIdx]
    cases hl : L[i]? with
    | none => rfl
    | some d' => simp only [Option.map_some, hd i d' (fun q => hi q.symm)]
theorem ax_ui_ne {s : ax_S} {k j : Nat} {v : Int32} {a : Nat} (h : a ≠ k) : (ax_ui s k j v).1 a = s.1 a := by
  funext b
  simp [ax_ui, h]
theorem ax_ul_ne {s : ax_S} {k j : Nat} {v : Int64} {a : Nat} (h : a ≠ k) : (ax_ul s k j v).2 a = s.2 a := by
  funext b
  simp [ax_ul, h]
theorem ax_wi_ne {s : ax_S} {k : Nat} {f : Nat → Int32} {a : Nat} (h : a ≠ k) : (ax_wi s k f).1 a = s.1 a := by
  simp [ax_wi, h]
theorem ax_fs_congr {ad : Nat → Nat} {s s' : ax_S} {k : Nat} (h1 : s'.1 k = s.1 k) (h2 : s'.2 k = s.2 k) (fds : List Nat) : ax_fs ad s' k fds = ax_fs ad s k fds := by
  have : (fun j t => ax_fv ad s' k j t) = (fun j t => ax_fv ad s k j t) := by
    funext j t
    match t with
    | 0 => simp only [ax_fv, h1]
    | 1 => simp only [ax_fv, h2]
    | t + 2 => rfl
  simp only [ax_fs, this]
theorem ax_e_congr {G : ax_G} {s s' : ax_S} {k : Nat} (h1 : s'.1 k = s.1 k) (h2 : s'.2 k = s.2 k) (d : Nat × Nat × List Nat) : ax_e G s' k d = ax_e G s k d := by
  obtain ⟨a, n, fds⟩ := d
  match a with
  | 0 => simp only [ax_e, ax_fs_congr h1 h2]
  | 1 => simp only [ax_e, h1]
  | 2 => simp only [ax_e, h2]
  | a + 3 => simp only [ax_e, h1]
/-- locals by their places: a place that is 'none' says nothing -/
def ax_lv (ls : Array Slot) (nL : Nat) (lv : List (Option Value)) : Prop := ls.size = nL ∧ lv_wf ls ∧ ∀ (i : Nat) (v : Value), lv[i]? = some (some v) → ls[i]? = some (.val v)
def ax_as (lv : List (Option Value)) : List (Nat × Value) := lv.zipIdx.filterMap (fun q => q.1.map (fun v => (q.2, v)))
theorem ax_as_mem {lv : List (Option Value)} {q : Nat × Value} : q ∈ ax_as lv ↔ lv[q.1]? = some (some q.2) := by
  simp only [ax_as, List.mem_filterMap, Option.map_eq_some_iff]
  constructor
  · rintro ⟨⟨o, i⟩, hm, v, rfl, rfl⟩
    exact List.mem_zipIdx_iff_getElem?.mp hm
  · intro h
    exact ⟨(some q.2, q.1), List.mem_zipIdx_iff_getElem?.mpr h, q.2, rfl, rfl⟩
theorem ax_lv_has {ls : Array Slot} {nL : Nat} {lv : List (Option Value)} (h : ax_lv ls nL lv) : lv_has ls nL (ax_as lv) := ⟨h.1, h.2.1, fun q hq => h.2.2 q.1 q.2 (ax_as_mem.mp hq)⟩
/-- a store at i leaves the value ahead of it whole -/
def ax_ok1 (lv : List (Option Value)) (i : Nat) : Bool := match i with
  | 0 => true
  | j + 1 => match lv[j]? with
    | some (some v) => v.category == 1
    | _ => true
theorem ax_lv_st1 {ls : Array Slot} {nL : Nat} {lv : List (Option Value)} {i : Nat} {v : Value} (ho : ax_ok1 lv i = true) (h : lv_has ls nL ((i, v) :: (ax_as lv).filter (fun q => !(q.1 == i) && !(q.1 + 1 == i && q.2.category == 2)))) : ax_lv ls nL (lv.set i (some v)) := by
  refine ⟨h.1, h.2.1, fun j w hj => ?_⟩
  by_cases hi : i = j
  · subst hi
    have hlt : i < lv.length := by
      have := (List.getElem?_eq_some_iff.mp hj).1
      simpa using this
    rw [List.getElem?_set_self hlt] at hj
    cases hj
    exact h.2.2 (i, v) List.mem_cons_self
  · rw [List.getElem?_set_ne hi] at hj
    refine h.2.2 (j, w) (List.mem_cons_of_mem _ (List.mem_filter.mpr ⟨ax_as_mem.mpr hj, ?_⟩))
    have h1 : (j == i) = false := by simpa using fun q => hi q.symm
    simp only [h1, Bool.not_false, Bool.true_and]
    by_cases h2 : j + 1 = i
    · subst h2
      simp only [ax_ok1, hj] at ho
      simp only [beq_self_eq_true, Bool.true_and]
      have : w.category = 1 := by simpa using ho
      simp [this]
    · have : (j + 1 == i) = false := by simpa using h2
      simp [this]
theorem ax_lv_st2 {ls : Array Slot} {nL : Nat} {lv : List (Option Value)} {i : Nat} {v : Value} (ho : ax_ok1 lv i = true) (h : lv_has ls nL ((i, v) :: (ax_as lv).filter (fun q => !(q.1 == i) && (!(q.1 == i + 1) && !(q.1 + 1 == i && q.2.category == 2))))) : ax_lv ls nL ((lv.set i (some v)).set (i + 1) none) := by
  refine ⟨h.1, h.2.1, fun j w hj => ?_⟩
  by_cases hi1 : i + 1 = j
  · subst hi1
    have hlt : i + 1 < (lv.set i (some v)).length := by
      have := (List.getElem?_eq_some_iff.mp hj).1
      simpa using this
    rw [List.getElem?_set_self hlt] at hj
    cases hj
  rw [List.getElem?_set_ne hi1] at hj
  by_cases hi : i = j
  · subst hi
    have hlt : i < lv.length := by
      have := (List.getElem?_eq_some_iff.mp hj).1
      simpa using this
    rw [List.getElem?_set_self hlt] at hj
    cases hj
    exact h.2.2 (i, v) List.mem_cons_self
  · rw [List.getElem?_set_ne hi] at hj
    refine h.2.2 (j, w) (List.mem_cons_of_mem _ (List.mem_filter.mpr ⟨ax_as_mem.mpr hj, ?_⟩))
    have h1 : (j == i) = false := by simpa using fun q => hi q.symm
    have h1' : (j == i + 1) = false := by simpa using fun q => hi1 q.symm
    simp only [h1, h1', Bool.not_false, Bool.true_and]
    by_cases h2 : j + 1 = i
    · subst h2
      simp only [ax_ok1, hj] at ho
      simp only [beq_self_eq_true, Bool.true_and]
      have : w.category = 1 := by simpa using ho
      simp [this]
    · have : (j + 1 == i) = false := by simpa using h2
      simp [this]
/-- the places that are kept -/
def ax_mk (ks : List Bool) (lv : List (Option Value)) : List (Option Value) := List.zipWith (fun k o => if k then o else none) ks lv
theorem ax_lv_mk {ls : Array Slot} {nL : Nat} {lv : List (Option Value)} (ks : List Bool) (h : ax_lv ls nL lv) : ax_lv ls nL (ax_mk ks lv) := by
  refine ⟨h.1, h.2.1, fun i v hi => h.2.2 i v ?_⟩
  simp only [ax_mk, List.getElem?_zipWith] at hi
  cases hk : ks[i]? with
  | none => simp [hk] at hi
  | some k =>
    cases hl : lv[i]? with
    | none => simp [hk, hl] at hi
    | some o =>
      simp only [hk, hl, Option.some.injEq] at hi
      cases k
      · simp at hi
      · simpa using hi
def ax_rm (μ : ax_Mu) : Room := { frames := μ.2.2.2.2.1, cells := 0, slots := 0, locals := μ.2.2.2.2.2 }
def ax_w (μ : ax_Mu) : List Cond := Cond.code μ.1 μ.2.1 μ.2.2.1 μ.2.2.2.1 :: ax_tb
def ax_U (Sd : ax_Sd) (G : ax_G) (U : State) : Prop := va_K G.1 cx_cls (ax_tys G) U ∧ ax_stat Sd.2 (ax_A Sd.1 G) G U U.heap
def ax_Q (Sd : ax_Sd) (G : ax_G) (rv : Option Value) (sf : ax_S) : Array Value → State → Outcome → State → Prop := match rv with
  | some (.int r) => va_Qi (fun x (_ : Unit) => x = r) (fun _ t => va_P G.1 cx_cls (ax_ws Sd.1 G sf) t.heap) (ax_A Sd.1 G)
  | some (.long r) => va_Ql (fun x (_ : Unit) => x = r) (fun _ t => va_P G.1 cx_cls (ax_ws Sd.1 G sf) t.heap) (ax_A Sd.1 G)
  | _ => va_Qv (fun (_ : Unit) => True) (fun _ t => va_P G.1 cx_cls (ax_ws Sd.1 G sf) t.heap) (ax_A Sd.1 G)
/-- a method's contract: from the cells s, with these arguments, it answers rv and leaves the cells sf -/
def ax_M (Sd : ax_Sd) (μ : ax_Mu) (av : (Nat → Nat) → List Value) (s : ax_S) (rv : Option Value) (sf : ax_S) : Prop :=
  ∀ (l : Launch) (G : ax_G), ax_inj Sd.1 G → Met l μ.1 (ax_w μ) (ax_rm μ) (va_Pc (av G.2.1) (fun U => va_P G.1 cx_cls (ax_ws Sd.1 G s) U.heap ∧ ax_U Sd G U)) (ax_Q Sd G rv sf) 0 0 (ax_A Sd.1 G)
def ax_ok (V : ax_V) (μ : ax_Mu) : Prop := match V with
  | (Sd, G, (p, _, _, R, s, m, args, _, meth, c), _, _) => p.tables.exec = Jvm.exec ∧ c.code = μ.2.1 ∧ c.maxLocals = μ.2.2.1 ∧ s.vm.findClass μ.1.cls = some m.cls ∧ (∀ w ∈ ax_tb, w.before args s = true) ∧ va_K G.1 cx_cls (ax_tys G) s ∧ ax_inj Sd.1 G ∧ ax_stat Sd.2 (ax_A Sd.1 G) G s s.heap ∧ meth.sig.returnType = μ.2.2.2.1 ∧ meth.locks = false ∧ R = ax_rm μ
def ax_At (V : ax_V) (pc : Nat) (lv : List (Option Value)) (st : List Value) (x : ax_S) : Prop := match V with
  | (Sd, G, (p, l, e, R, s, m, args, below, meth, c), rv, sf) => ∀ (H : Heap) (locs : List Loc) (ls : Array Slot), va_P G.1 cx_cls (ax_ws Sd.1 G x) H → va_S (ax_A Sd.1 G) s.heap H locs → ax_lv ls c.maxLocals lv →
      W p l e R s m args below meth c H locs 0 0 (MQ below (ax_Q Sd G rv sf) args s 0 0 (ax_A Sd.1 G)) (F0 m pc ls st)
/-- if the answer o is there, and P holds of it, the machine comes from here to its end -/
def ax_J (V : ax_V) {ρ : Type} (P : ρ → Prop) (pc : Nat) (lv : List (Option Value)) (st : List Value) (x : ax_S) (o : Option ρ) : Prop := ∀ r, o = some r → P r → ax_At V pc lv st x
def ax_D (b : ByteArray) (pc : Nat) (i : Instr) (n nx : Nat) : Prop := decode b pc = .ok (i, n) ∧ pc + n = nx
def ax_B (b : ByteArray) (pc : Nat) (i : Int → Instr) (nx tgt : Nat) : Prop := ∃ off : Int, decode b pc = .ok (i off, 3) ∧ pc + 3 = nx ∧ (pc : Int) + off = (tgt : Int)
end
section
theorem ax_j {V : ax_V} {ρ : Type} {P : ρ → Prop} {pc pc2 : Nat} {lv lv2 : List (Option Value)} {st st2 : List Value} {x x2 : ax_S} {o : Option ρ} (h : ax_At V pc2 lv2 st2 x2 → ax_At V pc lv st x) (k : ax_J V P pc2 lv2 st2 x2 o) : ax_J V P pc lv st x o := fun r hr hp => h (k r hr hp)
theorem ax_jl {V : ax_V} {ρ : Type} {P : ρ → Prop} {pc : Nat} {lv : List (Option Value)} {st : List Value} {x : ax_S} {r : ρ} (h : P r → ax_At V pc lv st x) : ax_J V P pc lv st x (some r) := fun r' hr hp => by
  cases hr
  exact h hp
theorem ax_jn {V : ax_V} {ρ : Type} {P : ρ → Prop} {pc : Nat} {lv : List (Option Value)} {st : List Value} {x : ax_S} : ax_J V P pc lv st x none := fun r' hr hp => by cases hr
theorem ax_jif {V : ax_V} {ρ : Type} {P : ρ → Prop} {pc pc2 pc3 : Nat} {lv lv2 lv3 : List (Option Value)} {st st2 st3 : List Value} {x x2 x3 : ax_S} {o o2 : Option ρ} {c : Prop} [Decidable c] (h : (c → ax_At V pc2 lv2 st2 x2) → (¬ c → ax_At V pc3 lv3 st3 x3) → ax_At V pc lv st x) (k : ax_J V P pc2 lv2 st2 x2 o) (k2 : ax_J V P pc3 lv3 st3 x3 o2) : ax_J V P pc lv st x (if c then o else o2) := fun r hr hp => by
  by_cases hc : c
  · rw [if_pos hc] at hr
    exact h (fun _ => k r hr hp) (fun q => absurd hc q)
  · rw [if_neg hc] at hr
    exact h (fun q => absurd q hc) (fun _ => k2 r hr hp)
theorem ax_jc {V : ax_V} {ρ : Type} {P : ρ → Prop} {pc : Nat} {lv : List (Option Value)} {st : List Value} {x : ax_S} {o o2 : Option ρ} {c : Prop} [Decidable c] (k : c → ax_J V P pc lv st x o) (k2 : ¬ c → ax_J V P pc lv st x o2) : ax_J V P pc lv st x (if c then o else o2) := by
  by_cases hc : c
  · rw [if_pos hc]
    exact k hc
  · rw [if_neg hc]
    exact k2 hc
theorem ax_jb {V : ax_V} {ρ τ : Type} {P : ρ → Prop} {pc : Nat} {pc2 : τ → Nat} {lv : List (Option Value)} {lv2 : τ → List (Option Value)} {st : List Value} {st2 : τ → List Value} {x : ax_S} {x2 : τ → ax_S} {o : Option τ} {K : τ → Option ρ} (h : ∀ v, o = some v → ax_At V (pc2 v) (lv2 v) (st2 v) (x2 v) → ax_At V pc lv st x) (k : ∀ v, ax_J V P (pc2 v) (lv2 v) (st2 v) (x2 v) (K v)) : ax_J V P pc lv st x (o.bind K) := fun r hr hp => by
  cases ho : o with
  | none => rw [ho] at hr; cases hr
  | some v =>
    rw [ho] at hr
    exact h v ho (k v r hr hp)
theorem ax_jf {V : ax_V} {ρ : Type} {P : ρ → Prop} {pc : Nat} {lv : List (Option Value)} {st : List Value} {x : ax_S} {o : Option ρ} (ks : List Bool) {lv' : List (Option Value)} (hm : ax_mk ks lv = lv') (k : ax_J V P pc lv' st x o) : ax_J V P pc lv st x o := fun r hr hp => by
  have k' := k r hr hp
  obtain ⟨Sd, G, ⟨p, l, e, R, s, m, args, below, meth, c⟩, rv, sf⟩ := V
  subst hm
  intro H locs ls hP hS hl
  exact k' H locs ls hP hS (ax_lv_mk ks hl)
theorem ax_af {V : ax_V} {pc : Nat} {lv : List (Option Value)} {st : List Value} {x : ax_S} (ks : List Bool) {lv' : List (Option Value)} (hm : ax_mk ks lv = lv') (k : ax_At V pc lv' st x) : ax_At V pc lv st x := by
  obtain ⟨Sd, G, ⟨p, l, e, R, s, m, args, below, meth, c⟩, rv, sf⟩ := V
  subst hm
  intro H locs ls hP hS hl
  exact k H locs ls hP hS (ax_lv_mk ks hl)
/-- a loop's answer: the body again and again until it goes out -/
def ax_itn {α ε : Type} (f : α → Option (α ⊕ ε)) : Nat → α → Option ε
  | 0, _ => none
  | n + 1, a => (f a).bind (fun q => match q with
    | .inl a' => ax_itn f n a'
    | .inr e => some e)
noncomputable def ax_lp {α ε : Type} (f : α → Option (α ⊕ ε)) (a : α) : Option ε := by
  classical exact if h : ∃ e, ∃ n, ax_itn f n a = some e then some h.choose else none
theorem ax_lp_some {α ε : Type} {f : α → Option (α ⊕ ε)} {a : α} {e : ε} (h : ax_lp f a = some e) : ∃ n, ax_itn f n a = some e := by
  unfold ax_lp at h
  split at h
  · rename_i q
    cases h
    exact q.choose_spec
  · cases h
theorem ax_jlp {V : ax_V} {ρ α ε : Type} {P : ρ → Prop} {pcx : ε → Nat} {pc : Nat} {lv : α → List (Option Value)} {lvx : ε → List (Option Value)} {x : α → ax_S} {xx : ε → ax_S} {f : α → Option (α ⊕ ε)} {K : ε → Option ρ} {a : α}
    (hb : ∀ a, ax_J V (fun q : α ⊕ ε => match q with
      | .inl a' => ax_At V pc (lv a') [] (x a')
      | .inr e => ax_At V (pcx e) (lvx e) [] (xx e)) pc (lv a) [] (x a) (f a))
    (k : ∀ e, ax_J V P (pcx e) (lvx e) [] (xx e) (K e)) : ax_J V P pc (lv a) [] (x a) ((ax_lp f a).bind K) := fun r hr hp => by
  cases ho : ax_lp f a with
  | none => rw [ho] at hr; cases hr
  | some e =>
    rw [ho] at hr
    obtain ⟨n, hn⟩ := ax_lp_some ho
    have he := k e r hr hp
    clear ho hr
    induction n generalizing a with
    | zero => cases hn
    | succ n ih =>
      simp only [ax_itn] at hn
      cases hf : f a with
      | none => rw [hf] at hn; cases hn
      | some q =>
        rw [hf] at hn
        match q, hf, hn with
        | .inl a', hf, hn => exact hb a _ hf (ih hn)
        | .inr e', hf, hn =>
          cases hn
          exact hb a _ hf he
/-- a loop that may also end in the method's own answer -/
theorem ax_jlr {V : ax_V} {ρ α ε : Type} {P : ρ → Prop} {pcx : ε → Nat} {pc : Nat} {lv : α → List (Option Value)} {lvx : ε → List (Option Value)} {x : α → ax_S} {xx : ε → ax_S} {f : α → Option (α ⊕ (ε ⊕ ρ))} {K : ε → Option ρ} {a : α}
    (hb : ∀ a, ax_J V (fun q : α ⊕ (ε ⊕ ρ) => match q with
      | .inl a' => ax_At V pc (lv a') [] (x a')
      | .inr (.inl e) => ax_At V (pcx e) (lvx e) [] (xx e)
      | .inr (.inr r) => P r) pc (lv a) [] (x a) (f a))
    (k : ∀ e, ax_J V P (pcx e) (lvx e) [] (xx e) (K e)) : ax_J V P pc (lv a) [] (x a) ((ax_lp f a).bind (fun q => match q with
      | .inl e => K e
      | .inr r => some r)) := fun r hr hp => by
  cases ho : ax_lp f a with
  | none => rw [ho] at hr; cases hr
  | some q =>
    rw [ho] at hr
    obtain ⟨n, hn⟩ := ax_lp_some ho
    have hq : Sum.elim (fun e => ax_At V (pcx e) (lvx e) [] (xx e)) P q := by
      cases q with
      | inl e => exact k e r hr hp
      | inr r' =>
        cases hr
        exact hp
    clear ho hr
    induction n generalizing a with
    | zero => cases hn
    | succ n ih =>
      simp only [ax_itn] at hn
      cases hf : f a with
      | none => rw [hf] at hn; cases hn
      | some q' =>
        rw [hf] at hn
        match q', hf, hn with
        | .inl a', hf, hn => exact hb a _ hf (ih hn)
        | .inr e', hf, hn =>
          cases hn
          match q, hq, hf with
          | .inl e, hq, hf => exact hb a _ hf hq
          | .inr r', hq, hf => exact hb a _ hf hq
theorem ax_iconst {V : ax_V} {μ : ax_Mu} (hV : ax_ok V μ) {pc nx : Nat} {lv : List (Option Value)} {st : List Value} {x : ax_S} {n : Int} (v : Int32) (d : ax_D μ.2.1 pc (.iconst n) 1 nx) (hv : Int32.ofInt n = v) (k : ax_At V nx lv (.int v :: st) x) : ax_At V pc lv (st) x := by
  obtain ⟨Sd, G, ⟨p, l, e, R, s, m, args, below, meth, c⟩, rv, sf⟩ := V
  obtain ⟨d, rfl⟩ := d
  intro H locs ls hP hS hl
  exact lv_iconst hV.1 hV.2.1 d hv (k H locs ls hP hS hl)
theorem ax_bipush {V : ax_V} {μ : ax_Mu} (hV : ax_ok V μ) {pc nx : Nat} {lv : List (Option Value)} {st : List Value} {x : ax_S} {n : Int} (v : Int32) (d : ax_D μ.2.1 pc (.bipush n) 2 nx) (hv : (Int8.ofInt n).toInt32 = v) (k : ax_At V nx lv (.int v :: st) x) : ax_At V pc lv (st) x := by
  obtain ⟨Sd, G, ⟨p, l, e, R, s, m, args, below, meth, c⟩, rv, sf⟩ := V
  obtain ⟨d, rfl⟩ := d
  intro H locs ls hP hS hl
  exact lv_bipush hV.1 hV.2.1 d hv (k H locs ls hP hS hl)
theorem ax_sipush {V : ax_V} {μ : ax_Mu} (hV : ax_ok V μ) {pc nx : Nat} {lv : List (Option Value)} {st : List Value} {x : ax_S} {n : Int} (v : Int32) (d : ax_D μ.2.1 pc (.sipush n) 3 nx) (hv : (Int16.ofInt n).toInt32 = v) (k : ax_At V nx lv (.int v :: st) x) : ax_At V pc lv (st) x := by
  obtain ⟨Sd, G, ⟨p, l, e, R, s, m, args, below, meth, c⟩, rv, sf⟩ := V
  obtain ⟨d, rfl⟩ := d
  intro H locs ls hP hS hl
  exact lv_sipush hV.1 hV.2.1 d hv (k H locs ls hP hS hl)
theorem ax_lconst {V : ax_V} {μ : ax_Mu} (hV : ax_ok V μ) {pc nx : Nat} {lv : List (Option Value)} {st : List Value} {x : ax_S} {n : Fin 2} (v : Int64) (d : ax_D μ.2.1 pc (.lconst n) 1 nx) (hv : Int64.ofNat (n : Nat) = v) (k : ax_At V nx lv (.long v :: st) x) : ax_At V pc lv (st) x := by
  obtain ⟨Sd, G, ⟨p, l, e, R, s, m, args, below, meth, c⟩, rv, sf⟩ := V
  obtain ⟨d, rfl⟩ := d
  intro H locs ls hP hS hl
  exact lv_lconst hV.1 hV.2.1 d hv (k H locs ls hP hS hl)
theorem ax_ldc {V : ax_V} {μ : ax_Mu} (hV : ax_ok V μ) {pc nx : Nat} {lv : List (Option Value)} {st : List Value} {x : ax_S} {ix : Nat} {v : Int32} (hc : Cond.constant μ.1.cls ix v ∈ ax_tb) (d : ax_D μ.2.1 pc (.ldc ix) 2 nx) (k : ax_At V nx lv (.int v :: st) x) : ax_At V pc lv (st) x := by
  obtain ⟨Sd, G, ⟨p, l, e, R, s, m, args, below, meth, c⟩, rv, sf⟩ := V
  obtain ⟨d, rfl⟩ := d
  intro H locs ls hP hS hl
  exact lv_ldc hV.1 hV.2.1 hV.2.2.2.1 (hV.2.2.2.2.1 _ hc) d (k H locs ls hP hS hl)
theorem ax_ldcw {V : ax_V} {μ : ax_Mu} (hV : ax_ok V μ) {pc nx : Nat} {lv : List (Option Value)} {st : List Value} {x : ax_S} {ix : Nat} {v : Int32} (hc : Cond.constant μ.1.cls ix v ∈ ax_tb) (d : ax_D μ.2.1 pc (.ldc_w ix) 3 nx) (k : ax_At V nx lv (.int v :: st) x) : ax_At V pc lv (st) x := by
  obtain ⟨Sd, G, ⟨p, l, e, R, s, m, args, below, meth, c⟩, rv, sf⟩ := V
  obtain ⟨d, rfl⟩ := d
  intro H locs ls hP hS hl
  exact lv_ldcw hV.1 hV.2.1 hV.2.2.2.1 (hV.2.2.2.2.1 _ hc) d (k H locs ls hP hS hl)
theorem ax_ldc2 {V : ax_V} {μ : ax_Mu} (hV : ax_ok V μ) {pc nx : Nat} {lv : List (Option Value)} {st : List Value} {x : ax_S} {ix : Nat} {v : Int64} (hc : Cond.constantLong μ.1.cls ix v ∈ ax_tb) (d : ax_D μ.2.1 pc (.ldc2_w ix) 3 nx) (k : ax_At V nx lv (.long v :: st) x) : ax_At V pc lv (st) x := by
  obtain ⟨Sd, G, ⟨p, l, e, R, s, m, args, below, meth, c⟩, rv, sf⟩ := V
  obtain ⟨d, rfl⟩ := d
  intro H locs ls hP hS hl
  exact lv_ldc2 hV.1 hV.2.1 hV.2.2.2.1 (hV.2.2.2.2.1 _ hc) d (k H locs ls hP hS hl)
theorem ax_iload_n {V : ax_V} {μ : ax_Mu} (hV : ax_ok V μ) {pc nx : Nat} {lv : List (Option Value)} {st : List Value} {x : ax_S} {k0 : Fin 4} {a : Int32} (d : ax_D μ.2.1 pc (.iload_n k0) 1 nx) (hi : lv[(k0 : Nat)]? = some (some (.int a))) (k : ax_At V nx lv (.int a :: st) x) : ax_At V pc lv (st) x := by
  obtain ⟨Sd, G, ⟨p, l, e, R, s, m, args, below, meth, c⟩, rv, sf⟩ := V
  obtain ⟨d, rfl⟩ := d
  intro H locs ls hP hS hl
  exact lv_iload_n hV.1 hV.2.1 d rfl (hl.2.2 _ _ hi) (k H locs ls hP hS hl)
theorem ax_iload {V : ax_V} {μ : ax_Mu} (hV : ax_ok V μ) {pc nx : Nat} {lv : List (Option Value)} {st : List Value} {x : ax_S} {i : Nat} {a : Int32} (d : ax_D μ.2.1 pc (.iload i) 2 nx) (hi : lv[i]? = some (some (.int a))) (k : ax_At V nx lv (.int a :: st) x) : ax_At V pc lv (st) x := by
  obtain ⟨Sd, G, ⟨p, l, e, R, s, m, args, below, meth, c⟩, rv, sf⟩ := V
  obtain ⟨d, rfl⟩ := d
  intro H locs ls hP hS hl
  exact lv_iload hV.1 hV.2.1 d (hl.2.2 _ _ hi) (k H locs ls hP hS hl)
theorem ax_lload_n {V : ax_V} {μ : ax_Mu} (hV : ax_ok V μ) {pc nx : Nat} {lv : List (Option Value)} {st : List Value} {x : ax_S} {k0 : Fin 4} {a : Int64} (d : ax_D μ.2.1 pc (.lload_n k0) 1 nx) (hi : lv[(k0 : Nat)]? = some (some (.long a))) (k : ax_At V nx lv (.long a :: st) x) : ax_At V pc lv (st) x := by
  obtain ⟨Sd, G, ⟨p, l, e, R, s, m, args, below, meth, c⟩, rv, sf⟩ := V
  obtain ⟨d, rfl⟩ := d
  intro H locs ls hP hS hl
  exact lv_lload_n hV.1 hV.2.1 d rfl (hl.2.2 _ _ hi) (k H locs ls hP hS hl)
theorem ax_lload {V : ax_V} {μ : ax_Mu} (hV : ax_ok V μ) {pc nx : Nat} {lv : List (Option Value)} {st : List Value} {x : ax_S} {i : Nat} {a : Int64} (d : ax_D μ.2.1 pc (.lload i) 2 nx) (hi : lv[i]? = some (some (.long a))) (k : ax_At V nx lv (.long a :: st) x) : ax_At V pc lv (st) x := by
  obtain ⟨Sd, G, ⟨p, l, e, R, s, m, args, below, meth, c⟩, rv, sf⟩ := V
  obtain ⟨d, rfl⟩ := d
  intro H locs ls hP hS hl
  exact lv_lload hV.1 hV.2.1 d (hl.2.2 _ _ hi) (k H locs ls hP hS hl)
theorem ax_aload_n {V : ax_V} {μ : ax_Mu} (hV : ax_ok V μ) {pc nx : Nat} {lv : List (Option Value)} {st : List Value} {x : ax_S} {k0 : Fin 4} {a : Nat} (d : ax_D μ.2.1 pc (.aload_n k0) 1 nx) (hi : lv[(k0 : Nat)]? = some (some (.ref a))) (k : ax_At V nx lv (.ref a :: st) x) : ax_At V pc lv (st) x := by
  obtain ⟨Sd, G, ⟨p, l, e, R, s, m, args, below, meth, c⟩, rv, sf⟩ := V
  obtain ⟨d, rfl⟩ := d
  intro H locs ls hP hS hl
  exact lv_aload_n hV.1 hV.2.1 d rfl (hl.2.2 _ _ hi) (k H locs ls hP hS hl)
theorem ax_aload {V : ax_V} {μ : ax_Mu} (hV : ax_ok V μ) {pc nx : Nat} {lv : List (Option Value)} {st : List Value} {x : ax_S} {i : Nat} {a : Nat} (d : ax_D μ.2.1 pc (.aload i) 2 nx) (hi : lv[i]? = some (some (.ref a))) (k : ax_At V nx lv (.ref a :: st) x) : ax_At V pc lv (st) x := by
  obtain ⟨Sd, G, ⟨p, l, e, R, s, m, args, below, meth, c⟩, rv, sf⟩ := V
  obtain ⟨d, rfl⟩ := d
  intro H locs ls hP hS hl
  exact lv_aload hV.1 hV.2.1 d (hl.2.2 _ _ hi) (k H locs ls hP hS hl)
theorem ax_istore_n {V : ax_V} {μ : ax_Mu} (hV : ax_ok V μ) {pc nx : Nat} {lv : List (Option Value)} {st : List Value} {x : ax_S} {k0 : Fin 4} {a : Int32} (lv' : List (Option Value)) (d : ax_D μ.2.1 pc (.istore_n k0) 1 nx) (hs : (lv.set (k0 : Nat) (some (.int a))) = lv') (hc : (ax_ok1 lv (k0 : Nat) && Nat.blt ((k0 : Nat) + 0) μ.2.2.1) = true) (k : ax_At V nx lv' st x) : ax_At V pc lv (.int a :: st) x := by
  obtain ⟨Sd, G, ⟨p, l, e, R, s, m, args, below, meth, c⟩, rv, sf⟩ := V
  obtain ⟨d, rfl⟩ := d
  subst hs
  rw [Bool.and_eq_true] at hc
  intro H locs ls hP hS hl
  refine lv_istore_n hV.1 hV.2.1 d rfl (ax_lv_has hl) ?_ rfl (fun ls' hl' => k H locs ls' hP hS (ax_lv_st1 hc.1 hl'))
  have := Nat.le_of_ble_eq_true hc.2
  rw [show c.maxLocals = μ.2.2.1 from hV.2.2.1]
  omega
theorem ax_istore {V : ax_V} {μ : ax_Mu} (hV : ax_ok V μ) {pc nx : Nat} {lv : List (Option Value)} {st : List Value} {x : ax_S} {i : Nat} {a : Int32} (lv' : List (Option Value)) (d : ax_D μ.2.1 pc (.istore i) 2 nx) (hs : (lv.set i (some (.int a))) = lv') (hc : (ax_ok1 lv i && Nat.blt (i + 0) μ.2.2.1) = true) (k : ax_At V nx lv' st x) : ax_At V pc lv (.int a :: st) x := by
  obtain ⟨Sd, G, ⟨p, l, e, R, s, m, args, below, meth, c⟩, rv, sf⟩ := V
  obtain ⟨d, rfl⟩ := d
  subst hs
  rw [Bool.and_eq_true] at hc
  intro H locs ls hP hS hl
  refine lv_istore hV.1 hV.2.1 d (ax_lv_has hl) ?_ rfl (fun ls' hl' => k H locs ls' hP hS (ax_lv_st1 hc.1 hl'))
  have := Nat.le_of_ble_eq_true hc.2
  rw [show c.maxLocals = μ.2.2.1 from hV.2.2.1]
  omega
theorem ax_lstore_n {V : ax_V} {μ : ax_Mu} (hV : ax_ok V μ) {pc nx : Nat} {lv : List (Option Value)} {st : List Value} {x : ax_S} {k0 : Fin 4} {a : Int64} (lv' : List (Option Value)) (d : ax_D μ.2.1 pc (.lstore_n k0) 1 nx) (hs : ((lv.set (k0 : Nat) (some (.long a))).set ((k0 : Nat) + 1) none) = lv') (hc : (ax_ok1 lv (k0 : Nat) && Nat.blt ((k0 : Nat) + 1) μ.2.2.1) = true) (k : ax_At V nx lv' st x) : ax_At V pc lv (.long a :: st) x := by
  obtain ⟨Sd, G, ⟨p, l, e, R, s, m, args, below, meth, c⟩, rv, sf⟩ := V
  obtain ⟨d, rfl⟩ := d
  subst hs
  rw [Bool.and_eq_true] at hc
  intro H locs ls hP hS hl
  refine lv_lstore_n hV.1 hV.2.1 d rfl (ax_lv_has hl) ?_ rfl (fun ls' hl' => k H locs ls' hP hS (ax_lv_st2 hc.1 hl'))
  have := Nat.le_of_ble_eq_true hc.2
  rw [show c.maxLocals = μ.2.2.1 from hV.2.2.1]
  omega
theorem ax_lstore {V : ax_V} {μ : ax_Mu} (hV : ax_ok V μ) {pc nx : Nat} {lv : List (Option Value)} {st : List Value} {x : ax_S} {i : Nat} {a : Int64} (lv' : List (Option Value)) (d : ax_D μ.2.1 pc (.lstore i) 2 nx) (hs : ((lv.set i (some (.long a))).set (i + 1) none) = lv') (hc : (ax_ok1 lv i && Nat.blt (i + 1) μ.2.2.1) = true) (k : ax_At V nx lv' st x) : ax_At V pc lv (.long a :: st) x := by
  obtain ⟨Sd, G, ⟨p, l, e, R, s, m, args, below, meth, c⟩, rv, sf⟩ := V
  obtain ⟨d, rfl⟩ := d
  subst hs
  rw [Bool.and_eq_true] at hc
  intro H locs ls hP hS hl
  refine lv_lstore hV.1 hV.2.1 d (ax_lv_has hl) ?_ rfl (fun ls' hl' => k H locs ls' hP hS (ax_lv_st2 hc.1 hl'))
  have := Nat.le_of_ble_eq_true hc.2
  rw [show c.maxLocals = μ.2.2.1 from hV.2.2.1]
  omega
theorem ax_iinc {V : ax_V} {μ : ax_Mu} (hV : ax_ok V μ) {pc nx : Nat} {lv : List (Option Value)} {st : List Value} {x : ax_S} {i : Nat} {n : Int} {a : Int32} (b : Int32) (lv' : List (Option Value)) (d : ax_D μ.2.1 pc (.iinc i n) 3 nx) (hi : lv[i]? = some (some (.int a))) (hv : a + Int32.ofInt n = b) (hs : lv.set i (some (.int b)) = lv') (hc : (ax_ok1 lv i && Nat.blt (i + 0) μ.2.2.1) = true) (k : ax_At V nx lv' st x) : ax_At V pc lv st x := by
  obtain ⟨Sd, G, ⟨p, l, e, R, s, m, args, below, meth, c⟩, rv, sf⟩ := V
  obtain ⟨d, rfl⟩ := d
  subst hs
  rw [Bool.and_eq_true] at hc
  intro H locs ls hP hS hl
  obtain ⟨j, hj⟩ := List.getElem?_of_mem (ax_as_mem.mpr (show lv[((i, Value.int a) : Nat × Value).1]? = some (some (i, Value.int a).2) from hi))
  refine lv_iinc hV.1 hV.2.1 d (ax_lv_has hl) hj hv ?_ rfl (fun ls' hl' => k H locs ls' hP hS (ax_lv_st1 hc.1 hl'))
  have := Nat.le_of_ble_eq_true hc.2
  rw [show c.maxLocals = μ.2.2.1 from hV.2.2.1]
  omega
theorem ax_iadd {V : ax_V} {μ : ax_Mu} (hV : ax_ok V μ) {pc nx : Nat} {lv : List (Option Value)} {st : List Value} {x : ax_S} {a b : Int32} (d : ax_D μ.2.1 pc (.iadd) 1 nx) (k : ax_At V nx lv (.int (a + b) :: st) x) : ax_At V pc lv (.int b :: .int a :: st) x := by
  obtain ⟨Sd, G, ⟨p, l, e, R, s, m, args, below, meth, c⟩, rv, sf⟩ := V
  obtain ⟨d, rfl⟩ := d
  intro H locs ls hP hS hl
  exact lv_iadd hV.1 hV.2.1 d (k H locs ls hP hS hl)
theorem ax_isub {V : ax_V} {μ : ax_Mu} (hV : ax_ok V μ) {pc nx : Nat} {lv : List (Option Value)} {st : List Value} {x : ax_S} {a b : Int32} (d : ax_D μ.2.1 pc (.isub) 1 nx) (k : ax_At V nx lv (.int (a - b) :: st) x) : ax_At V pc lv (.int b :: .int a :: st) x := by
  obtain ⟨Sd, G, ⟨p, l, e, R, s, m, args, below, meth, c⟩, rv, sf⟩ := V
  obtain ⟨d, rfl⟩ := d
  intro H locs ls hP hS hl
  exact lv_isub hV.1 hV.2.1 d (k H locs ls hP hS hl)
theorem ax_imul {V : ax_V} {μ : ax_Mu} (hV : ax_ok V μ) {pc nx : Nat} {lv : List (Option Value)} {st : List Value} {x : ax_S} {a b : Int32} (d : ax_D μ.2.1 pc (.imul) 1 nx) (k : ax_At V nx lv (.int (a * b) :: st) x) : ax_At V pc lv (.int b :: .int a :: st) x := by
  obtain ⟨Sd, G, ⟨p, l, e, R, s, m, args, below, meth, c⟩, rv, sf⟩ := V
  obtain ⟨d, rfl⟩ := d
  intro H locs ls hP hS hl
  exact lv_imul hV.1 hV.2.1 d (k H locs ls hP hS hl)
theorem ax_iand {V : ax_V} {μ : ax_Mu} (hV : ax_ok V μ) {pc nx : Nat} {lv : List (Option Value)} {st : List Value} {x : ax_S} {a b : Int32} (d : ax_D μ.2.1 pc (.iand) 1 nx) (k : ax_At V nx lv (.int (a &&& b) :: st) x) : ax_At V pc lv (.int b :: .int a :: st) x := by
  obtain ⟨Sd, G, ⟨p, l, e, R, s, m, args, below, meth, c⟩, rv, sf⟩ := V
  obtain ⟨d, rfl⟩ := d
  intro H locs ls hP hS hl
  exact lv_iand hV.1 hV.2.1 d (k H locs ls hP hS hl)
theorem ax_ior {V : ax_V} {μ : ax_Mu} (hV : ax_ok V μ) {pc nx : Nat} {lv : List (Option Value)} {st : List Value} {x : ax_S} {a b : Int32} (d : ax_D μ.2.1 pc (.ior) 1 nx) (k : ax_At V nx lv (.int (a ||| b) :: st) x) : ax_At V pc lv (.int b :: .int a :: st) x := by
  obtain ⟨Sd, G, ⟨p, l, e, R, s, m, args, below, meth, c⟩, rv, sf⟩ := V
  obtain ⟨d, rfl⟩ := d
  intro H locs ls hP hS hl
  exact lv_ior hV.1 hV.2.1 d (k H locs ls hP hS hl)
theorem ax_ixor {V : ax_V} {μ : ax_Mu} (hV : ax_ok V μ) {pc nx : Nat} {lv : List (Option Value)} {st : List Value} {x : ax_S} {a b : Int32} (d : ax_D μ.2.1 pc (.ixor) 1 nx) (k : ax_At V nx lv (.int (a ^^^ b) :: st) x) : ax_At V pc lv (.int b :: .int a :: st) x := by
  obtain ⟨Sd, G, ⟨p, l, e, R, s, m, args, below, meth, c⟩, rv, sf⟩ := V
  obtain ⟨d, rfl⟩ := d
  intro H locs ls hP hS hl
  exact lv_ixor hV.1 hV.2.1 d (k H locs ls hP hS hl)
theorem ax_ishl {V : ax_V} {μ : ax_Mu} (hV : ax_ok V μ) {pc nx : Nat} {lv : List (Option Value)} {st : List Value} {x : ax_S} {a b : Int32} (d : ax_D μ.2.1 pc (.ishl) 1 nx) (k : ax_At V nx lv (.int (a <<< (b &&& 31)) :: st) x) : ax_At V pc lv (.int b :: .int a :: st) x := by
  obtain ⟨Sd, G, ⟨p, l, e, R, s, m, args, below, meth, c⟩, rv, sf⟩ := V
  obtain ⟨d, rfl⟩ := d
  intro H locs ls hP hS hl
  exact lv_ishl hV.1 hV.2.1 d (k H locs ls hP hS hl)
theorem ax_ishr {V : ax_V} {μ : ax_Mu} (hV : ax_ok V μ) {pc nx : Nat} {lv : List (Option Value)} {st : List Value} {x : ax_S} {a b : Int32} (d : ax_D μ.2.1 pc (.ishr) 1 nx) (k : ax_At V nx lv (.int (a >>> (b &&& 31)) :: st) x) : ax_At V pc lv (.int b :: .int a :: st) x := by
  obtain ⟨Sd, G, ⟨p, l, e, R, s, m, args, below, meth, c⟩, rv, sf⟩ := V
  obtain ⟨d, rfl⟩ := d
  intro H locs ls hP hS hl
  exact lv_ishr hV.1 hV.2.1 d (k H locs ls hP hS hl)
theorem ax_ladd {V : ax_V} {μ : ax_Mu} (hV : ax_ok V μ) {pc nx : Nat} {lv : List (Option Value)} {st : List Value} {x : ax_S} {a b : Int64} (d : ax_D μ.2.1 pc (.ladd) 1 nx) (k : ax_At V nx lv (.long (a + b) :: st) x) : ax_At V pc lv (.long b :: .long a :: st) x := by
  obtain ⟨Sd, G, ⟨p, l, e, R, s, m, args, below, meth, c⟩, rv, sf⟩ := V
  obtain ⟨d, rfl⟩ := d
  intro H locs ls hP hS hl
  exact lv_ladd hV.1 hV.2.1 d (k H locs ls hP hS hl)
theorem ax_lsub {V : ax_V} {μ : ax_Mu} (hV : ax_ok V μ) {pc nx : Nat} {lv : List (Option Value)} {st : List Value} {x : ax_S} {a b : Int64} (d : ax_D μ.2.1 pc (.lsub) 1 nx) (k : ax_At V nx lv (.long (a - b) :: st) x) : ax_At V pc lv (.long b :: .long a :: st) x := by
  obtain ⟨Sd, G, ⟨p, l, e, R, s, m, args, below, meth, c⟩, rv, sf⟩ := V
  obtain ⟨d, rfl⟩ := d
  intro H locs ls hP hS hl
  exact lv_lsub hV.1 hV.2.1 d (k H locs ls hP hS hl)
theorem ax_lmul {V : ax_V} {μ : ax_Mu} (hV : ax_ok V μ) {pc nx : Nat} {lv : List (Option Value)} {st : List Value} {x : ax_S} {a b : Int64} (d : ax_D μ.2.1 pc (.lmul) 1 nx) (k : ax_At V nx lv (.long (a * b) :: st) x) : ax_At V pc lv (.long b :: .long a :: st) x := by
  obtain ⟨Sd, G, ⟨p, l, e, R, s, m, args, below, meth, c⟩, rv, sf⟩ := V
  obtain ⟨d, rfl⟩ := d
  intro H locs ls hP hS hl
  exact lv_lmul hV.1 hV.2.1 d (k H locs ls hP hS hl)
theorem ax_land {V : ax_V} {μ : ax_Mu} (hV : ax_ok V μ) {pc nx : Nat} {lv : List (Option Value)} {st : List Value} {x : ax_S} {a b : Int64} (d : ax_D μ.2.1 pc (.land) 1 nx) (k : ax_At V nx lv (.long (a &&& b) :: st) x) : ax_At V pc lv (.long b :: .long a :: st) x := by
  obtain ⟨Sd, G, ⟨p, l, e, R, s, m, args, below, meth, c⟩, rv, sf⟩ := V
  obtain ⟨d, rfl⟩ := d
  intro H locs ls hP hS hl
  exact lv_land hV.1 hV.2.1 d (k H locs ls hP hS hl)
theorem ax_lor {V : ax_V} {μ : ax_Mu} (hV : ax_ok V μ) {pc nx : Nat} {lv : List (Option Value)} {st : List Value} {x : ax_S} {a b : Int64} (d : ax_D μ.2.1 pc (.lor) 1 nx) (k : ax_At V nx lv (.long (a ||| b) :: st) x) : ax_At V pc lv (.long b :: .long a :: st) x := by
  obtain ⟨Sd, G, ⟨p, l, e, R, s, m, args, below, meth, c⟩, rv, sf⟩ := V
  obtain ⟨d, rfl⟩ := d
  intro H locs ls hP hS hl
  exact lv_lor hV.1 hV.2.1 d (k H locs ls hP hS hl)
theorem ax_lxor {V : ax_V} {μ : ax_Mu} (hV : ax_ok V μ) {pc nx : Nat} {lv : List (Option Value)} {st : List Value} {x : ax_S} {a b : Int64} (d : ax_D μ.2.1 pc (.lxor) 1 nx) (k : ax_At V nx lv (.long (a ^^^ b) :: st) x) : ax_At V pc lv (.long b :: .long a :: st) x := by
  obtain ⟨Sd, G, ⟨p, l, e, R, s, m, args, below, meth, c⟩, rv, sf⟩ := V
  obtain ⟨d, rfl⟩ := d
  intro H locs ls hP hS hl
  exact lv_lxor hV.1 hV.2.1 d (k H locs ls hP hS hl)
def ax_iushr (a b : Int32) : Int32 := (a.toUInt32 >>> (b.toUInt32 &&& Int32.toUInt32 31)).toInt32
def ax_lushr (a : Int64) (b : Int32) : Int64 := (a.toUInt64 >>> (b.toInt64.toUInt64 &&& Int64.toUInt64 63)).toInt64
def ax_lshl (a : Int64) (b : Int32) : Int64 := a <<< (b.toInt64 &&& 63)
def ax_lshr (a : Int64) (b : Int32) : Int64 := a >>> (b.toInt64 &&& 63)
theorem ax_iushr_ {V : ax_V} {μ : ax_Mu} (hV : ax_ok V μ) {pc nx : Nat} {lv : List (Option Value)} {st : List Value} {x : ax_S} {a b : Int32} (d : ax_D μ.2.1 pc (.iushr) 1 nx) (k : ax_At V nx lv (.int (ax_iushr a b) :: st) x) : ax_At V pc lv (.int b :: .int a :: st) x := by
  obtain ⟨Sd, G, ⟨p, l, e, R, s, m, args, below, meth, c⟩, rv, sf⟩ := V
  obtain ⟨d, rfl⟩ := d
  intro H locs ls hP hS hl
  exact lv_iushr hV.1 hV.2.1 d rfl (k H locs ls hP hS hl)
theorem ax_lushr_ {V : ax_V} {μ : ax_Mu} (hV : ax_ok V μ) {pc nx : Nat} {lv : List (Option Value)} {st : List Value} {x : ax_S} {a : Int64} {b : Int32} (d : ax_D μ.2.1 pc (.lushr) 1 nx) (k : ax_At V nx lv (.long (ax_lushr a b) :: st) x) : ax_At V pc lv (.int b :: .long a :: st) x := by
  obtain ⟨Sd, G, ⟨p, l, e, R, s, m, args, below, meth, c⟩, rv, sf⟩ := V
  obtain ⟨d, rfl⟩ := d
  intro H locs ls hP hS hl
  exact lv_lushr hV.1 hV.2.1 d rfl (k H locs ls hP hS hl)
theorem ax_lshl_ {V : ax_V} {μ : ax_Mu} (hV : ax_ok V μ) {pc nx : Nat} {lv : List (Option Value)} {st : List Value} {x : ax_S} {a : Int64} {b : Int32} (d : ax_D μ.2.1 pc (.lshl) 1 nx) (k : ax_At V nx lv (.long (ax_lshl a b) :: st) x) : ax_At V pc lv (.int b :: .long a :: st) x := by
  obtain ⟨Sd, G, ⟨p, l, e, R, s, m, args, below, meth, c⟩, rv, sf⟩ := V
  obtain ⟨d, rfl⟩ := d
  intro H locs ls hP hS hl
  exact lv_lshl hV.1 hV.2.1 d rfl (k H locs ls hP hS hl)
theorem ax_lshr_ {V : ax_V} {μ : ax_Mu} (hV : ax_ok V μ) {pc nx : Nat} {lv : List (Option Value)} {st : List Value} {x : ax_S} {a : Int64} {b : Int32} (d : ax_D μ.2.1 pc (.lshr) 1 nx) (k : ax_At V nx lv (.long (ax_lshr a b) :: st) x) : ax_At V pc lv (.int b :: .long a :: st) x := by
  obtain ⟨Sd, G, ⟨p, l, e, R, s, m, args, below, meth, c⟩, rv, sf⟩ := V
  obtain ⟨d, rfl⟩ := d
  intro H locs ls hP hS hl
  exact lv_lshr hV.1 hV.2.1 d rfl (k H locs ls hP hS hl)
theorem ax_ineg {V : ax_V} {μ : ax_Mu} (hV : ax_ok V μ) {pc nx : Nat} {lv : List (Option Value)} {st : List Value} {x : ax_S} {a : Int32} (d : ax_D μ.2.1 pc (.ineg) 1 nx) (k : ax_At V nx lv (.int (-a) :: st) x) : ax_At V pc lv (.int a :: st) x := by
  obtain ⟨Sd, G, ⟨p, l, e, R, s, m, args, below, meth, c⟩, rv, sf⟩ := V
  obtain ⟨d, rfl⟩ := d
  intro H locs ls hP hS hl
  exact lv_ineg hV.1 hV.2.1 d (k H locs ls hP hS hl)
theorem ax_i2l {V : ax_V} {μ : ax_Mu} (hV : ax_ok V μ) {pc nx : Nat} {lv : List (Option Value)} {st : List Value} {x : ax_S} {a : Int32} (d : ax_D μ.2.1 pc (.i2l) 1 nx) (k : ax_At V nx lv (.long a.toInt64 :: st) x) : ax_At V pc lv (.int a :: st) x := by
  obtain ⟨Sd, G, ⟨p, l, e, R, s, m, args, below, meth, c⟩, rv, sf⟩ := V
  obtain ⟨d, rfl⟩ := d
  intro H locs ls hP hS hl
  exact lv_i2l hV.1 hV.2.1 d rfl (k H locs ls hP hS hl)
theorem ax_l2i {V : ax_V} {μ : ax_Mu} (hV : ax_ok V μ) {pc nx : Nat} {lv : List (Option Value)} {st : List Value} {x : ax_S} {a : Int64} (d : ax_D μ.2.1 pc (.l2i) 1 nx) (k : ax_At V nx lv (.int a.toInt32 :: st) x) : ax_At V pc lv (.long a :: st) x := by
  obtain ⟨Sd, G, ⟨p, l, e, R, s, m, args, below, meth, c⟩, rv, sf⟩ := V
  obtain ⟨d, rfl⟩ := d
  intro H locs ls hP hS hl
  exact lv_l2i hV.1 hV.2.1 d rfl (k H locs ls hP hS hl)
theorem ax_i2b {V : ax_V} {μ : ax_Mu} (hV : ax_ok V μ) {pc nx : Nat} {lv : List (Option Value)} {st : List Value} {x : ax_S} {a : Int32} (d : ax_D μ.2.1 pc (.i2b) 1 nx) (k : ax_At V nx lv (.int a.toInt8.toInt32 :: st) x) : ax_At V pc lv (.int a :: st) x := by
  obtain ⟨Sd, G, ⟨p, l, e, R, s, m, args, below, meth, c⟩, rv, sf⟩ := V
  obtain ⟨d, rfl⟩ := d
  intro H locs ls hP hS hl
  exact lv_i2b hV.1 hV.2.1 d rfl (k H locs ls hP hS hl)
theorem ax_i2s {V : ax_V} {μ : ax_Mu} (hV : ax_ok V μ) {pc nx : Nat} {lv : List (Option Value)} {st : List Value} {x : ax_S} {a : Int32} (d : ax_D μ.2.1 pc (.i2s) 1 nx) (k : ax_At V nx lv (.int a.toInt16.toInt32 :: st) x) : ax_At V pc lv (.int a :: st) x := by
  obtain ⟨Sd, G, ⟨p, l, e, R, s, m, args, below, meth, c⟩, rv, sf⟩ := V
  obtain ⟨d, rfl⟩ := d
  intro H locs ls hP hS hl
  exact lv_i2s hV.1 hV.2.1 d rfl (k H locs ls hP hS hl)
theorem ax_lcmp {V : ax_V} {μ : ax_Mu} (hV : ax_ok V μ) {pc nx : Nat} {lv : List (Option Value)} {st : List Value} {x : ax_S} {a b : Int64} (d : ax_D μ.2.1 pc (.lcmp) 1 nx) (k : ax_At V nx lv (.int (lg_cmp a b) :: st) x) : ax_At V pc lv (.long b :: .long a :: st) x := by
  obtain ⟨Sd, G, ⟨p, l, e, R, s, m, args, below, meth, c⟩, rv, sf⟩ := V
  obtain ⟨d, rfl⟩ := d
  intro H locs ls hP hS hl
  exact W.lcmp hV.1 hV.2.1 d (k H locs ls hP hS hl)
theorem ax_dup {V : ax_V} {μ : ax_Mu} (hV : ax_ok V μ) {pc nx : Nat} {lv : List (Option Value)} {st : List Value} {x : ax_S} {va : Value} (d : ax_D μ.2.1 pc (.dup) 1 nx) (hva : va.category = 1) (k : ax_At V nx lv (va :: va :: st) x) : ax_At V pc lv (va :: st) x := by
  obtain ⟨Sd, G, ⟨p, l, e, R, s, m, args, below, meth, c⟩, rv, sf⟩ := V
  obtain ⟨d, rfl⟩ := d
  intro H locs ls hP hS hl
  exact lv_dup hV.1 hV.2.1 d hva (k H locs ls hP hS hl)
theorem ax_pop {V : ax_V} {μ : ax_Mu} (hV : ax_ok V μ) {pc nx : Nat} {lv : List (Option Value)} {st : List Value} {x : ax_S} {va : Value} (d : ax_D μ.2.1 pc (.pop) 1 nx) (hva : va.category = 1) (k : ax_At V nx lv (st) x) : ax_At V pc lv (va :: st) x := by
  obtain ⟨Sd, G, ⟨p, l, e, R, s, m, args, below, meth, c⟩, rv, sf⟩ := V
  obtain ⟨d, rfl⟩ := d
  intro H locs ls hP hS hl
  exact lv_pop hV.1 hV.2.1 d hva (k H locs ls hP hS hl)
theorem ax_dup2 {V : ax_V} {μ : ax_Mu} (hV : ax_ok V μ) {pc nx : Nat} {lv : List (Option Value)} {st : List Value} {x : ax_S} {va vb : Value} (d : ax_D μ.2.1 pc (.dup2) 1 nx) (hva : va.category = 1) (hvb : vb.category = 1) (k : ax_At V nx lv (va :: vb :: va :: vb :: st) x) : ax_At V pc lv (va :: vb :: st) x := by
  obtain ⟨Sd, G, ⟨p, l, e, R, s, m, args, below, meth, c⟩, rv, sf⟩ := V
  obtain ⟨d, rfl⟩ := d
  intro H locs ls hP hS hl
  exact lv_dup2_11 hV.1 hV.2.1 d hva hvb (k H locs ls hP hS hl)
def ax_idiv (a b : Int32) : Option Int32 := if b = 0 then none else some (a / b)
theorem ax_idiv_ {V : ax_V} {μ : ax_Mu} (hV : ax_ok V μ) {pc nx : Nat} {lv : List (Option Value)} {st : List Value} {x : ax_S} {a b : Int32} (d : ax_D μ.2.1 pc (.idiv) 1 nx) (v : Int32) (ho : ax_idiv a b = some v) (k : ax_At V nx lv (.int v :: st) x) : ax_At V pc lv (.int b :: .int a :: st) x := by
  obtain ⟨Sd, G, ⟨p, l, e, R, s, m, args, below, meth, c⟩, rv, sf⟩ := V
  obtain ⟨d, rfl⟩ := d
  unfold ax_idiv at ho
  split at ho
  · cases ho
  · rename_i hb
    cases ho
    intro H locs ls hP hS hl
    exact lv_idiv hV.1 hV.2.1 d hb (k H locs ls hP hS hl)
def ax_irem (a b : Int32) : Option Int32 := if b = 0 then none else some (a - a / b * b)
theorem ax_irem_ {V : ax_V} {μ : ax_Mu} (hV : ax_ok V μ) {pc nx : Nat} {lv : List (Option Value)} {st : List Value} {x : ax_S} {a b : Int32} (d : ax_D μ.2.1 pc (.irem) 1 nx) (v : Int32) (ho : ax_irem a b = some v) (k : ax_At V nx lv (.int v :: st) x) : ax_At V pc lv (.int b :: .int a :: st) x := by
  obtain ⟨Sd, G, ⟨p, l, e, R, s, m, args, below, meth, c⟩, rv, sf⟩ := V
  obtain ⟨d, rfl⟩ := d
  unfold ax_irem at ho
  split at ho
  · cases ho
  · rename_i hb
    cases ho
    intro H locs ls hP hS hl
    exact lv_irem hV.1 hV.2.1 d hb (k H locs ls hP hS hl)
def ax_ldiv (a b : Int64) : Option Int64 := if b = 0 then none else some (a / b)
theorem ax_ldiv_ {V : ax_V} {μ : ax_Mu} (hV : ax_ok V μ) {pc nx : Nat} {lv : List (Option Value)} {st : List Value} {x : ax_S} {a b : Int64} (d : ax_D μ.2.1 pc (.ldiv) 1 nx) (v : Int64) (ho : ax_ldiv a b = some v) (k : ax_At V nx lv (.long v :: st) x) : ax_At V pc lv (.long b :: .long a :: st) x := by
  obtain ⟨Sd, G, ⟨p, l, e, R, s, m, args, below, meth, c⟩, rv, sf⟩ := V
  obtain ⟨d, rfl⟩ := d
  unfold ax_ldiv at ho
  split at ho
  · cases ho
  · rename_i hb
    cases ho
    intro H locs ls hP hS hl
    exact lv_ldiv hV.1 hV.2.1 d hb (k H locs ls hP hS hl)
def ax_lrem (a b : Int64) : Option Int64 := if b = 0 then none else some (a - a / b * b)
theorem ax_lrem_ {V : ax_V} {μ : ax_Mu} (hV : ax_ok V μ) {pc nx : Nat} {lv : List (Option Value)} {st : List Value} {x : ax_S} {a b : Int64} (d : ax_D μ.2.1 pc (.lrem) 1 nx) (v : Int64) (ho : ax_lrem a b = some v) (k : ax_At V nx lv (.long v :: st) x) : ax_At V pc lv (.long b :: .long a :: st) x := by
  obtain ⟨Sd, G, ⟨p, l, e, R, s, m, args, below, meth, c⟩, rv, sf⟩ := V
  obtain ⟨d, rfl⟩ := d
  unfold ax_lrem at ho
  split at ho
  · cases ho
  · rename_i hb
    cases ho
    intro H locs ls hP hS hl
    exact lv_lrem hV.1 hV.2.1 d hb (k H locs ls hP hS hl)
theorem ax_icmp_eq {V : ax_V} {μ : ax_Mu} (hV : ax_ok V μ) {pc nx : Nat} {lv : List (Option Value)} {st : List Value} {x : ax_S} {tgt : Nat} {a b : Int32} (d : ax_B μ.2.1 pc (.if_icmp .eq) nx tgt) (k1 : a = b → ax_At V tgt lv st x) (k2 : ¬ a = b → ax_At V nx lv st x) : ax_At V pc lv (.int b :: .int a :: st) x := by
  obtain ⟨Sd, G, ⟨p, l, e, R, s, m, args, below, meth, c⟩, rv, sf⟩ := V
  obtain ⟨off, d, rfl, ht⟩ := d
  intro H locs ls hP hS hl
  exact lv_icmp_eq hV.1 hV.2.1 d ht (fun q => k1 q H locs ls hP hS hl) (fun q => k2 q H locs ls hP hS hl)
theorem ax_if_eq {V : ax_V} {μ : ax_Mu} (hV : ax_ok V μ) {pc nx : Nat} {lv : List (Option Value)} {st : List Value} {x : ax_S} {tgt : Nat} {a : Int32} (d : ax_B μ.2.1 pc (.ifCond .eq) nx tgt) (k1 : a = 0 → ax_At V tgt lv st x) (k2 : ¬ a = 0 → ax_At V nx lv st x) : ax_At V pc lv (.int a :: st) x := by
  obtain ⟨Sd, G, ⟨p, l, e, R, s, m, args, below, meth, c⟩, rv, sf⟩ := V
  obtain ⟨off, d, rfl, ht⟩ := d
  intro H locs ls hP hS hl
  exact lv_if_eq hV.1 hV.2.1 d ht (fun q => k1 q H locs ls hP hS hl) (fun q => k2 q H locs ls hP hS hl)
theorem ax_icmp_ne {V : ax_V} {μ : ax_Mu} (hV : ax_ok V μ) {pc nx : Nat} {lv : List (Option Value)} {st : List Value} {x : ax_S} {tgt : Nat} {a b : Int32} (d : ax_B μ.2.1 pc (.if_icmp .ne) nx tgt) (k1 : a = b → ax_At V nx lv st x) (k2 : ¬ a = b → ax_At V tgt lv st x) : ax_At V pc lv (.int b :: .int a :: st) x := by
  obtain ⟨Sd, G, ⟨p, l, e, R, s, m, args, below, meth, c⟩, rv, sf⟩ := V
  obtain ⟨off, d, rfl, ht⟩ := d
  intro H locs ls hP hS hl
  exact lv_icmp_ne hV.1 hV.2.1 d ht (fun q => k2 q H locs ls hP hS hl) (fun q => k1 q H locs ls hP hS hl)
theorem ax_if_ne {V : ax_V} {μ : ax_Mu} (hV : ax_ok V μ) {pc nx : Nat} {lv : List (Option Value)} {st : List Value} {x : ax_S} {tgt : Nat} {a : Int32} (d : ax_B μ.2.1 pc (.ifCond .ne) nx tgt) (k1 : a = 0 → ax_At V nx lv st x) (k2 : ¬ a = 0 → ax_At V tgt lv st x) : ax_At V pc lv (.int a :: st) x := by
  obtain ⟨Sd, G, ⟨p, l, e, R, s, m, args, below, meth, c⟩, rv, sf⟩ := V
  obtain ⟨off, d, rfl, ht⟩ := d
  intro H locs ls hP hS hl
  exact lv_if_ne hV.1 hV.2.1 d ht (fun q => k2 q H locs ls hP hS hl) (fun q => k1 q H locs ls hP hS hl)
theorem ax_icmp_lt {V : ax_V} {μ : ax_Mu} (hV : ax_ok V μ) {pc nx : Nat} {lv : List (Option Value)} {st : List Value} {x : ax_S} {tgt : Nat} {a b : Int32} (d : ax_B μ.2.1 pc (.if_icmp .lt) nx tgt) (k1 : a < b → ax_At V tgt lv st x) (k2 : ¬ a < b → ax_At V nx lv st x) : ax_At V pc lv (.int b :: .int a :: st) x := by
  obtain ⟨Sd, G, ⟨p, l, e, R, s, m, args, below, meth, c⟩, rv, sf⟩ := V
  obtain ⟨off, d, rfl, ht⟩ := d
  intro H locs ls hP hS hl
  exact lv_icmp_lt hV.1 hV.2.1 d ht (fun q => k1 q H locs ls hP hS hl) (fun q => k2 q H locs ls hP hS hl)
theorem ax_if_lt {V : ax_V} {μ : ax_Mu} (hV : ax_ok V μ) {pc nx : Nat} {lv : List (Option Value)} {st : List Value} {x : ax_S} {tgt : Nat} {a : Int32} (d : ax_B μ.2.1 pc (.ifCond .lt) nx tgt) (k1 : a < 0 → ax_At V tgt lv st x) (k2 : ¬ a < 0 → ax_At V nx lv st x) : ax_At V pc lv (.int a :: st) x := by
  obtain ⟨Sd, G, ⟨p, l, e, R, s, m, args, below, meth, c⟩, rv, sf⟩ := V
  obtain ⟨off, d, rfl, ht⟩ := d
  intro H locs ls hP hS hl
  exact lv_if_lt hV.1 hV.2.1 d ht (fun q => k1 q H locs ls hP hS hl) (fun q => k2 q H locs ls hP hS hl)
theorem ax_icmp_ge {V : ax_V} {μ : ax_Mu} (hV : ax_ok V μ) {pc nx : Nat} {lv : List (Option Value)} {st : List Value} {x : ax_S} {tgt : Nat} {a b : Int32} (d : ax_B μ.2.1 pc (.if_icmp .ge) nx tgt) (k1 : b ≤ a → ax_At V tgt lv st x) (k2 : ¬ b ≤ a → ax_At V nx lv st x) : ax_At V pc lv (.int b :: .int a :: st) x := by
  obtain ⟨Sd, G, ⟨p, l, e, R, s, m, args, below, meth, c⟩, rv, sf⟩ := V
  obtain ⟨off, d, rfl, ht⟩ := d
  intro H locs ls hP hS hl
  exact lv_icmp_ge hV.1 hV.2.1 d ht (fun q => k1 q H locs ls hP hS hl) (fun q => k2 q H locs ls hP hS hl)
theorem ax_if_ge {V : ax_V} {μ : ax_Mu} (hV : ax_ok V μ) {pc nx : Nat} {lv : List (Option Value)} {st : List Value} {x : ax_S} {tgt : Nat} {a : Int32} (d : ax_B μ.2.1 pc (.ifCond .ge) nx tgt) (k1 : 0 ≤ a → ax_At V tgt lv st x) (k2 : ¬ 0 ≤ a → ax_At V nx lv st x) : ax_At V pc lv (.int a :: st) x := by
  obtain ⟨Sd, G, ⟨p, l, e, R, s, m, args, below, meth, c⟩, rv, sf⟩ := V
  obtain ⟨off, d, rfl, ht⟩ := d
  intro H locs ls hP hS hl
  exact lv_if_ge hV.1 hV.2.1 d ht (fun q => k1 q H locs ls hP hS hl) (fun q => k2 q H locs ls hP hS hl)
theorem ax_icmp_gt {V : ax_V} {μ : ax_Mu} (hV : ax_ok V μ) {pc nx : Nat} {lv : List (Option Value)} {st : List Value} {x : ax_S} {tgt : Nat} {a b : Int32} (d : ax_B μ.2.1 pc (.if_icmp .gt) nx tgt) (k1 : b < a → ax_At V tgt lv st x) (k2 : ¬ b < a → ax_At V nx lv st x) : ax_At V pc lv (.int b :: .int a :: st) x := by
  obtain ⟨Sd, G, ⟨p, l, e, R, s, m, args, below, meth, c⟩, rv, sf⟩ := V
  obtain ⟨off, d, rfl, ht⟩ := d
  intro H locs ls hP hS hl
  exact lv_icmp_gt hV.1 hV.2.1 d ht (fun q => k1 q H locs ls hP hS hl) (fun q => k2 q H locs ls hP hS hl)
theorem ax_if_gt {V : ax_V} {μ : ax_Mu} (hV : ax_ok V μ) {pc nx : Nat} {lv : List (Option Value)} {st : List Value} {x : ax_S} {tgt : Nat} {a : Int32} (d : ax_B μ.2.1 pc (.ifCond .gt) nx tgt) (k1 : 0 < a → ax_At V tgt lv st x) (k2 : ¬ 0 < a → ax_At V nx lv st x) : ax_At V pc lv (.int a :: st) x := by
  obtain ⟨Sd, G, ⟨p, l, e, R, s, m, args, below, meth, c⟩, rv, sf⟩ := V
  obtain ⟨off, d, rfl, ht⟩ := d
  intro H locs ls hP hS hl
  exact lv_if_gt hV.1 hV.2.1 d ht (fun q => k1 q H locs ls hP hS hl) (fun q => k2 q H locs ls hP hS hl)
theorem ax_icmp_le {V : ax_V} {μ : ax_Mu} (hV : ax_ok V μ) {pc nx : Nat} {lv : List (Option Value)} {st : List Value} {x : ax_S} {tgt : Nat} {a b : Int32} (d : ax_B μ.2.1 pc (.if_icmp .le) nx tgt) (k1 : a ≤ b → ax_At V tgt lv st x) (k2 : ¬ a ≤ b → ax_At V nx lv st x) : ax_At V pc lv (.int b :: .int a :: st) x := by
  obtain ⟨Sd, G, ⟨p, l, e, R, s, m, args, below, meth, c⟩, rv, sf⟩ := V
  obtain ⟨off, d, rfl, ht⟩ := d
  intro H locs ls hP hS hl
  exact lv_icmp_le hV.1 hV.2.1 d ht (fun q => k1 q H locs ls hP hS hl) (fun q => k2 q H locs ls hP hS hl)
theorem ax_if_le {V : ax_V} {μ : ax_Mu} (hV : ax_ok V μ) {pc nx : Nat} {lv : List (Option Value)} {st : List Value} {x : ax_S} {tgt : Nat} {a : Int32} (d : ax_B μ.2.1 pc (.ifCond .le) nx tgt) (k1 : a ≤ 0 → ax_At V tgt lv st x) (k2 : ¬ a ≤ 0 → ax_At V nx lv st x) : ax_At V pc lv (.int a :: st) x := by
  obtain ⟨Sd, G, ⟨p, l, e, R, s, m, args, below, meth, c⟩, rv, sf⟩ := V
  obtain ⟨off, d, rfl, ht⟩ := d
  intro H locs ls hP hS hl
  exact lv_if_le hV.1 hV.2.1 d ht (fun q => k1 q H locs ls hP hS hl) (fun q => k2 q H locs ls hP hS hl)
theorem ax_goto {V : ax_V} {μ : ax_Mu} (hV : ax_ok V μ) {pc nx : Nat} {lv : List (Option Value)} {st : List Value} {x : ax_S} {tgt : Nat} (d : ax_B μ.2.1 pc (.goto) nx tgt) (k : ax_At V tgt lv st x) : ax_At V pc lv st x := by
  obtain ⟨Sd, G, ⟨p, l, e, R, s, m, args, below, meth, c⟩, rv, sf⟩ := V
  obtain ⟨off, d, rfl, ht⟩ := d
  intro H locs ls hP hS hl
  exact lv_goto hV.1 hV.2.1 d ht (k H locs ls hP hS hl)
theorem ax_tsw {V : ax_V} {μ : ax_Mu} (hV : ax_ok V μ) {pc nx : Nat} {lv : List (Option Value)} {st : List Value} {x : ax_S} {dflt hi : Int} {offs : Array Int} {len : Nat} {a : Int32} (i : Nat) (ha : a = Int32.ofNat i) {off : Int} {tgt : Nat} (d : ax_D μ.2.1 pc (.tableswitch dflt 0 hi offs) len nx) (ho : offs[i]? = some off) (ht : (pc : Int) + off = (tgt : Int)) (hi1 : (i : Int) ≤ hi) (hi2 : hi < 1000) (k : ax_At V tgt lv st x) : ax_At V pc lv (.int a :: st) x := by
  obtain ⟨Sd, G, ⟨p, l, e, R, s, m, args, below, meth, c⟩, rv, sf⟩ := V
  have d := d.1
  subst ha
  have hv : (Int32.ofNat i).toInt = (i : Int) := Int32.toInt_ofNat_of_lt (by omega)
  intro H locs ls hP hS hl
  exact lv_tableIn hV.1 hV.2.1 d (by rw [hv]; omega) (by rw [hv]; omega) (by rw [hv]; simpa using ho) ht (k H locs ls hP hS hl)
def ax_nk (a : Int32) (n : Nat) : Prop := ∀ k : Nat, k < n → ¬ a = Int32.ofNat k
theorem ax_nk_0 {a : Int32} : ax_nk a 0 := fun k h => absurd h (by omega)
theorem ax_nk_s {a : Int32} {n : Nat} (h : ax_nk a n) (h2 : ¬ a = Int32.ofNat n) : ax_nk a (n + 1) := fun k hk => by
  rcases Nat.lt_or_ge k n with q | q
  · exact h k q
  · have : k = n := by omega
    subst this
    exact h2
theorem ax_tswd {V : ax_V} {μ : ax_Mu} (hV : ax_ok V μ) {pc nx : Nat} {lv : List (Option Value)} {st : List Value} {x : ax_S} {dflt hi : Int} {offs : Array Int} {len : Nat} {a : Int32} {n : Nat} (hn : ax_nk a n) {tgt : Nat} (d : ax_D μ.2.1 pc (.tableswitch dflt 0 hi offs) len nx) (ht : (pc : Int) + dflt = (tgt : Int)) (hh : hi + 1 = (n : Int)) (k : ax_At V tgt lv st x) : ax_At V pc lv (.int a :: st) x := by
  obtain ⟨Sd, G, ⟨p, l, e, R, s, m, args, below, meth, c⟩, rv, sf⟩ := V
  have d := d.1
  intro H locs ls hP hS hl
  refine lv_tableOut hV.1 hV.2.1 d ?_ ht (k H locs ls hP hS hl)
  by_cases h1 : a.toInt < 0
  · exact Or.inl h1
  · refine Or.inr ?_
    rcases Int.lt_or_le hi a.toInt with q | q
    · exact q
    · refine absurd ?_ (hn a.toInt.toNat (by omega))
      apply Int32.toInt_inj.mp
      have := a.toInt_lt
      rw [Int32.toInt_ofNat_of_lt (by omega)]
      omega
/-- the field link: class ci of cx_cls, its field j -/
def ax_F (own : String) (ix ci j : Nat) : Prop := ∃ (C : String) (T : u_T) (N : Nat), cx_cls[ci]? = some (C, T, N) ∧ j < N ∧ (∀ w ∈ u_ws C T N, w ∈ ax_tb) ∧ Cond.fieldLink own ix (T j).1 (T j).2.1 (T j).2.2.1 ∈ ax_tb
def ax_Fp (own : String) (ix ci j : Nat) (ty : FieldType) : Prop := ∃ (C : String) (T : u_T) (N : Nat) (ty0 : Nat → FieldType), cx_cls[ci]? = some (C, T, N) ∧ j < N ∧ (∀ w ∈ u_ws C T N, w ∈ ax_tb) ∧ Cond.fieldLink own ix (T j).1 (T j).2.1 (T j).2.2.1 ∈ ax_tb ∧ (∀ k, k < N → parseFieldDescriptor (T k).2.2.1 = some (ty0 k)) ∧ (∀ a, a < N → ∀ b, b < N → a ≠ b → (T a).2.1 ≠ (T b).2.1) ∧ (T j).2.2.2 = false ∧ parseFieldDescriptor (T j).2.2.1 = some ty
theorem ax_fs_get {ad : Nat → Nat} {s : ax_S} {k j t : Nat} {fds : List Nat} (h : fds[j]? = some t) : (ax_fs ad s k fds)[j]? = some (ax_fv ad s k j t) := by
  simp [ax_fs, List.getElem?_mapIdx, h]
theorem ax_fs_len {ad : Nat → Nat} {s : ax_S} {k : Nat} {fds : List Nat} : (ax_fs ad s k fds).length = fds.length := by simp [ax_fs]
theorem ax_gf {V : ax_V} {μ : ax_Mu} (hV : ax_ok V μ) {pc nx : Nat} {lv : List (Option Value)} {st : List Value} {x : ax_S} {ix ci j t a : Nat} {fds : List Nat} (hf : ax_F μ.1.cls ix ci j) (d : ax_D μ.2.1 pc (.getfield ix) 3 nx) (hL : V.1.1[a]? = some (0, ci, fds)) (ht : fds[j]? = some t) (k : ax_At V nx lv (ax_fv (ax_ad V) x a j t :: st) x) : ax_At V pc lv (.ref (ax_ad V a) :: st) x := by
  obtain ⟨Sd, G, ⟨p, l, e, R, s, m, args, below, meth, c⟩, rv, sf⟩ := V
  obtain ⟨d, rfl⟩ := d
  obtain ⟨C, T, N, hc, hj, hin, hlk⟩ := hf
  intro H locs ls hP hS hl
  exact va_get hV.1 hV.2.1 hV.2.2.2.2.1 hin hV.2.2.2.1 hV.2.2.2.2.2.1 hP a (ax_ws_get (G := G) (s := x) hL) hc j hj (hV.2.2.2.2.1 _ hlk) (fun _ h => h) (ax_fs_get ht) d (k H locs ls hP hS hl)
theorem ax_gfi {V : ax_V} {μ : ax_Mu} (hV : ax_ok V μ) {pc nx : Nat} {lv : List (Option Value)} {st : List Value} {x : ax_S} {ix ci j a : Nat} {fds : List Nat} (hf : ax_F μ.1.cls ix ci j) (d : ax_D μ.2.1 pc (.getfield ix) 3 nx) (hL : V.1.1[a]? = some (0, ci, fds)) (ht : fds[j]? = some 0) (k : ax_At V nx lv (.int (x.1 a j) :: st) x) : ax_At V pc lv (.ref (ax_ad V a) :: st) x := ax_gf hV hf d hL ht k
theorem ax_gfl {V : ax_V} {μ : ax_Mu} (hV : ax_ok V μ) {pc nx : Nat} {lv : List (Option Value)} {st : List Value} {x : ax_S} {ix ci j a : Nat} {fds : List Nat} (hf : ax_F μ.1.cls ix ci j) (d : ax_D μ.2.1 pc (.getfield ix) 3 nx) (hL : V.1.1[a]? = some (0, ci, fds)) (ht : fds[j]? = some 1) (k : ax_At V nx lv (.long (x.2 a j) :: st) x) : ax_At V pc lv (.ref (ax_ad V a) :: st) x := ax_gf hV hf d hL ht k
theorem ax_gfr {V : ax_V} {μ : ax_Mu} (hV : ax_ok V μ) {pc nx : Nat} {lv : List (Option Value)} {st : List Value} {x : ax_S} {ix ci j a b : Nat} {fds : List Nat} (hf : ax_F μ.1.cls ix ci j) (d : ax_D μ.2.1 pc (.getfield ix) 3 nx) (hL : V.1.1[a]? = some (0, ci, fds)) (ht : fds[j]? = some (b + 2)) (k : ax_At V nx lv (.ref (ax_ad V b) :: st) x) : ax_At V pc lv (.ref (ax_ad V a) :: st) x := ax_gf hV hf d hL ht k
theorem ax_fs_ui {ad : Nat → Nat} {s : ax_S} {k j : Nat} {v : Int32} {fds : List Nat} (h : fds[j]? = some 0) : (ax_fs ad s k fds).set j (.int v) = ax_fs ad (ax_ui s k j v) k fds := by
  apply List.ext_getElem?
  intro i
  by_cases hi : j = i
  · subst hi
    rw [List.getElem?_set_self (by rw [ax_fs_len]; exact (List.getElem?_eq_some_iff.mp h).1), ax_fs_get h]
    simp [ax_fv, ax_ui]
  · rw [List.getElem?_set_ne hi]
    simp only [ax_fs, List.getElem?_mapIdx]
    cases hf : fds[i]? with
    | none => rfl
    | some t =>
      have hi2 : ¬ i = j := fun q => hi q.symm
      match t with
      | 0 => simp [ax_fv, ax_ui, hi2]
      | 1 => simp [ax_fv, ax_ui]
      | t + 2 => simp [ax_fv]
theorem ax_fs_ul {ad : Nat → Nat} {s : ax_S} {k j : Nat} {v : Int64} {fds : List Nat} (h : fds[j]? = some 1) : (ax_fs ad s k fds).set j (.long v) = ax_fs ad (ax_ul s k j v) k fds := by
  apply List.ext_getElem?
  intro i
  by_cases hi : j = i
  · subst hi
    rw [List.getElem?_set_self (by rw [ax_fs_len]; exact (List.getElem?_eq_some_iff.mp h).1), ax_fs_get h]
    simp [ax_fv, ax_ul]
  · rw [List.getElem?_set_ne hi]
    simp only [ax_fs, List.getElem?_mapIdx]
    cases hf : fds[i]? with
    | none => rfl
    | some t =>
      have hi2 : ¬ i = j := fun q => hi q.symm
      match t with
      | 0 => simp [ax_fv, ax_ul]
      | 1 => simp [ax_fv, ax_ul, hi2]
      | t + 2 => simp [ax_fv]
theorem ax_pfi {V : ax_V} {μ : ax_Mu} (hV : ax_ok V μ) {pc nx : Nat} {lv : List (Option Value)} {st : List Value} {x : ax_S} {ix ci j a : Nat} {fds : List Nat} {v : Int32} (hf : ax_Fp μ.1.cls ix ci j .int) (d : ax_D μ.2.1 pc (.putfield ix) 3 nx) (hL : V.1.1[a]? = some (0, ci, fds)) (ht : fds[j]? = some 0) (k : ax_At V nx lv st (ax_ui x a j v)) : ax_At V pc lv (.int v :: .ref (ax_ad V a) :: st) x := by
  obtain ⟨Sd, G, ⟨p, l, e, R, s, m, args, below, meth, c⟩, rv, sf⟩ := V
  obtain ⟨d, rfl⟩ := d
  obtain ⟨C, T, N, ty0, hc, hj, hin, hlk, hty, hnm, hfin, hd⟩ := hf
  intro H locs ls hP hS hl
  refine va_put hV.1 hV.2.1 hV.2.2.2.2.1 hin ty0 hty hnm hV.2.2.2.1 hV.2.2.2.2.2.1 hP (ax_D_of hV.2.2.2.2.2.2.1 x) hS a (ax_ws_get (G := G) (s := x) hL) hc j hj (hV.2.2.2.2.1 _ hlk) (fun _ h => h) hfin hd rfl rfl (by rw [ax_fs_len]; exact (List.getElem?_eq_some_iff.mp ht).1) d (fun H1 locs1 hP1 _ hS1 => ?_)
  refine k H1 locs1 ls ?_ hS1 hl
  rw [ax_ws_set (s' := ax_ui x a j v) hL (by simp only [ax_e]; rw [ax_fs_ui ht]) (fun i d' hi => ax_e_congr (by exact ax_ui_ne hi) (by rfl) d')] at hP1
  exact hP1
theorem ax_pfl {V : ax_V} {μ : ax_Mu} (hV : ax_ok V μ) {pc nx : Nat} {lv : List (Option Value)} {st : List Value} {x : ax_S} {ix ci j a : Nat} {fds : List Nat} {v : Int64} (hf : ax_Fp μ.1.cls ix ci j .long) (d : ax_D μ.2.1 pc (.putfield ix) 3 nx) (hL : V.1.1[a]? = some (0, ci, fds)) (ht : fds[j]? = some 1) (k : ax_At V nx lv st (ax_ul x a j v)) : ax_At V pc lv (.long v :: .ref (ax_ad V a) :: st) x := by
  obtain ⟨Sd, G, ⟨p, l, e, R, s, m, args, below, meth, c⟩, rv, sf⟩ := V
  obtain ⟨d, rfl⟩ := d
  obtain ⟨C, T, N, ty0, hc, hj, hin, hlk, hty, hnm, hfin, hd⟩ := hf
  intro H locs ls hP hS hl
  refine va_put hV.1 hV.2.1 hV.2.2.2.2.1 hin ty0 hty hnm hV.2.2.2.1 hV.2.2.2.2.2.1 hP (ax_D_of hV.2.2.2.2.2.2.1 x) hS a (ax_ws_get (G := G) (s := x) hL) hc j hj (hV.2.2.2.2.1 _ hlk) (fun _ h => h) hfin hd rfl rfl (by rw [ax_fs_len]; exact (List.getElem?_eq_some_iff.mp ht).1) d (fun H1 locs1 hP1 _ hS1 => ?_)
  refine k H1 locs1 ls ?_ hS1 hl
  rw [ax_ws_set (s' := ax_ul x a j v) hL (by simp only [ax_e]; rw [ax_fs_ul ht]) (fun i d' hi => ax_e_congr (by rfl) (by exact ax_ul_ne hi) d')] at hP1
  exact hP1
def ax_zb (v : Int32) : Option Int32 := if v &&& 1 = v ∧ (v = 0 ∨ v = 1) then some v else none
theorem ax_pfz {V : ax_V} {μ : ax_Mu} (hV : ax_ok V μ) {pc nx : Nat} {lv : List (Option Value)} {st : List Value} {x : ax_S} {ix ci j a : Nat} {fds : List Nat} {v : Int32} (hf : ax_Fp μ.1.cls ix ci j .boolean) (d : ax_D μ.2.1 pc (.putfield ix) 3 nx) (hL : V.1.1[a]? = some (0, ci, fds)) (ht : fds[j]? = some 0) (v' : Int32) (ho : ax_zb v = some v') (k : ax_At V nx lv st (ax_ui x a j v')) : ax_At V pc lv (.int v :: .ref (ax_ad V a) :: st) x := by
  obtain ⟨Sd, G, ⟨p, l, e, R, s, m, args, below, meth, c⟩, rv, sf⟩ := V
  obtain ⟨d, rfl⟩ := d
  unfold ax_zb at ho
  split at ho
  · rename_i hz
    cases ho
    obtain ⟨C, T, N, ty0, hc, hj, hin, hlk, hty, hnm, hfin, hd⟩ := hf
    intro H locs ls hP hS hl
    refine va_put hV.1 hV.2.1 hV.2.2.2.2.1 hin ty0 hty hnm hV.2.2.2.1 hV.2.2.2.2.2.1 hP (ax_D_of hV.2.2.2.2.2.2.1 x) hS a (ax_ws_get (G := G) (s := x) hL) hc j hj (hV.2.2.2.2.1 _ hlk) (fun _ h => h) hfin hd (by simp only [narrow]; rw [hz.1]) (by rcases hz.2 with h | h <;> subst h <;> rfl) (by rw [ax_fs_len]; exact (List.getElem?_eq_some_iff.mp ht).1) d (fun H1 locs1 hP1 _ hS1 => ?_)
    refine k H1 locs1 ls ?_ hS1 hl
    rw [ax_ws_set (s' := ax_ui x a j v) hL (by simp only [ax_e]; rw [ax_fs_ui ht]) (fun i d' hi => ax_e_congr (by exact ax_ui_ne hi) (by rfl) d')] at hP1
    exact hP1
  · cases ho
end
section
def ax_len (Sd : ax_Sd) (kd a : Nat) : Option Nat := match Sd.1[a]? with
  | some (k, n, _) => if k = kd then some n else none
  | none => none
theorem ax_len_some {Sd : ax_Sd} {kd a n : Nat} (h : ax_len Sd kd a = some n) : ∃ fds, Sd.1[a]? = some (kd, n, fds) := by
  unfold ax_len at h
  cases hs : Sd.1[a]? with
  | none => rw [hs] at h; cases h
  | some q =>
    obtain ⟨k, m, fds⟩ := q
    rw [hs] at h
    simp only at h
    split at h
    · rename_i hk
      cases h
      subst hk
      exact ⟨fds, rfl⟩
    · cases h
def ax_ai (Sd : ax_Sd) (x : ax_S) (a : Nat) (i : Int32) : Option Int32 := (ax_len Sd 1 a).bind (fun n => if i < 0 ∨ n ≤ i.toNatClampNeg then none else some (x.1 a i.toNatClampNeg))
def ax_al (Sd : ax_Sd) (x : ax_S) (a : Nat) (i : Int32) : Option Int64 := (ax_len Sd 2 a).bind (fun n => if i < 0 ∨ n ≤ i.toNatClampNeg then none else some (x.2 a i.toNatClampNeg))
def ax_ab (Sd : ax_Sd) (x : ax_S) (a : Nat) (i : Int32) : Option Int32 := (ax_len Sd 3 a).bind (fun n => if i < 0 ∨ n ≤ i.toNatClampNeg then none else some (x.1 a i.toNatClampNeg))
def ax_si (Sd : ax_Sd) (x : ax_S) (a : Nat) (i v : Int32) : Option ax_S := (ax_len Sd 1 a).bind (fun n => if i < 0 ∨ n ≤ i.toNatClampNeg then none else some (ax_ui x a i.toNatClampNeg v))
def ax_sl (Sd : ax_Sd) (x : ax_S) (a : Nat) (i : Int32) (v : Int64) : Option ax_S := (ax_len Sd 2 a).bind (fun n => if i < 0 ∨ n ≤ i.toNatClampNeg then none else some (ax_ul x a i.toNatClampNeg v))
def ax_sb (Sd : ax_Sd) (x : ax_S) (a : Nat) (i v : Int32) : Option ax_S := (ax_len Sd 3 a).bind (fun n => if i < 0 ∨ n ≤ i.toNatClampNeg then none else some (ax_ui x a i.toNatClampNeg (vp_nar .boolean v)))
def ax_ln (Sd : ax_Sd) (a : Nat) : Option Int32 := (ax_len Sd 1 a).map Int32.ofNat
theorem ax_iald {V : ax_V} {μ : ax_Mu} (hV : ax_ok V μ) {pc nx : Nat} {lv : List (Option Value)} {st : List Value} {x : ax_S} {a : Nat} {i : Int32} (d : ax_D μ.2.1 pc .iaload 1 nx) (v : Int32) (ho : ax_ai V.1 x a i = some v) (k : ax_At V nx lv (.int v :: st) x) : ax_At V pc lv (.int i :: .ref (ax_ad V a) :: st) x := by
  obtain ⟨Sd, G, ⟨p, l, e, R, s, m, args, below, meth, c⟩, rv, sf⟩ := V
  obtain ⟨d, rfl⟩ := d
  obtain ⟨n, hn, hi⟩ := Option.bind_eq_some_iff.mp ho
  obtain ⟨fds, hL⟩ := ax_len_some hn
  split at hi
  · cases hi
  · rename_i hin
    cases hi
    intro H locs ls hP hS hl
    exact va_iald hV.1 hV.2.1 hV.2.2.2.2.2.1 hP a 0 (ax_ws_get (G := G) (s := x) hL) rfl hin d (k H locs ls hP hS hl)
theorem ax_lald {V : ax_V} {μ : ax_Mu} (hV : ax_ok V μ) {pc nx : Nat} {lv : List (Option Value)} {st : List Value} {x : ax_S} {a : Nat} {i : Int32} (d : ax_D μ.2.1 pc .laload 1 nx) (v : Int64) (ho : ax_al V.1 x a i = some v) (k : ax_At V nx lv (.long v :: st) x) : ax_At V pc lv (.int i :: .ref (ax_ad V a) :: st) x := by
  obtain ⟨Sd, G, ⟨p, l, e, R, s, m, args, below, meth, c⟩, rv, sf⟩ := V
  obtain ⟨d, rfl⟩ := d
  obtain ⟨n, hn, hi⟩ := Option.bind_eq_some_iff.mp ho
  obtain ⟨fds, hL⟩ := ax_len_some hn
  split at hi
  · cases hi
  · rename_i hin
    cases hi
    intro H locs ls hP hS hl
    exact va_lald hV.1 hV.2.1 hV.2.2.2.2.2.1 hP a 1 (ax_ws_get (G := G) (s := x) hL) rfl hin d (k H locs ls hP hS hl)
theorem ax_bald {V : ax_V} {μ : ax_Mu} (hV : ax_ok V μ) {pc nx : Nat} {lv : List (Option Value)} {st : List Value} {x : ax_S} {a : Nat} {i : Int32} (d : ax_D μ.2.1 pc .baload 1 nx) (v : Int32) (ho : ax_ab V.1 x a i = some v) (k : ax_At V nx lv (.int v :: st) x) : ax_At V pc lv (.int i :: .ref (ax_ad V a) :: st) x := by
  obtain ⟨Sd, G, ⟨p, l, e, R, s, m, args, below, meth, c⟩, rv, sf⟩ := V
  obtain ⟨d, rfl⟩ := d
  obtain ⟨n, hn, hi⟩ := Option.bind_eq_some_iff.mp ho
  obtain ⟨fds, hL⟩ := ax_len_some hn
  split at hi
  · cases hi
  · rename_i hin
    cases hi
    intro H locs ls hP hS hl
    exact va_zald hV.1 hV.2.1 hV.2.2.2.2.2.1 hP a 2 (ax_ws_get (G := G) (s := x) hL) rfl hin d (k H locs ls hP hS hl)
theorem ax_iast {V : ax_V} {μ : ax_Mu} (hV : ax_ok V μ) {pc nx : Nat} {lv : List (Option Value)} {st : List Value} {x : ax_S} {a : Nat} {i : Int32} {v : Int32} (d : ax_D μ.2.1 pc .iastore 1 nx) (x' : ax_S) (ho : ax_si V.1 x a i v = some x') (k : ax_At V nx lv st x') : ax_At V pc lv (.int v :: .int i :: .ref (ax_ad V a) :: st) x := by
  obtain ⟨Sd, G, ⟨p, l, e, R, s, m, args, below, meth, c⟩, rv, sf⟩ := V
  obtain ⟨d, rfl⟩ := d
  obtain ⟨n, hn, hi⟩ := Option.bind_eq_some_iff.mp ho
  obtain ⟨fds, hL⟩ := ax_len_some hn
  split at hi
  · cases hi
  · rename_i hin
    cases hi
    intro H locs ls hP hS hl
    refine va_iast hV.1 hV.2.1 hV.2.2.2.2.2.1 hP (ax_D_of hV.2.2.2.2.2.2.1 x) hS a 0 (ax_ws_get (G := G) (s := x) hL) rfl hin d (fun H1 locs1 hP1 _ hS1 => ?_)
    refine k H1 locs1 ls ?_ hS1 hl
    rw [ax_ws_set (s' := ax_ui x a i.toNatClampNeg v) hL (by
      simp only [ax_e]
      have : upd (x.1 a) i.toNatClampNeg v = (ax_ui x a i.toNatClampNeg v).1 a := by
        funext j
        simp [upd, ax_ui]
      rw [this]) (fun i d' hi => ax_e_congr (by exact ax_ui_ne hi) (by rfl) d')] at hP1
    exact hP1
theorem ax_last {V : ax_V} {μ : ax_Mu} (hV : ax_ok V μ) {pc nx : Nat} {lv : List (Option Value)} {st : List Value} {x : ax_S} {a : Nat} {i : Int32} {v : Int64} (d : ax_D μ.2.1 pc .lastore 1 nx) (x' : ax_S) (ho : ax_sl V.1 x a i v = some x') (k : ax_At V nx lv st x') : ax_At V pc lv (.long v :: .int i :: .ref (ax_ad V a) :: st) x := by
  obtain ⟨Sd, G, ⟨p, l, e, R, s, m, args, below, meth, c⟩, rv, sf⟩ := V
  obtain ⟨d, rfl⟩ := d
  obtain ⟨n, hn, hi⟩ := Option.bind_eq_some_iff.mp ho
  obtain ⟨fds, hL⟩ := ax_len_some hn
  split at hi
  · cases hi
  · rename_i hin
    cases hi
    intro H locs ls hP hS hl
    refine va_last hV.1 hV.2.1 hV.2.2.2.2.2.1 hP (ax_D_of hV.2.2.2.2.2.2.1 x) hS a 1 (ax_ws_get (G := G) (s := x) hL) rfl hin d (fun H1 locs1 hP1 _ hS1 => ?_)
    refine k H1 locs1 ls ?_ hS1 hl
    rw [ax_ws_set (s' := ax_ul x a i.toNatClampNeg v) hL (by
      simp only [ax_e]
      have : vp_updL (x.2 a) i.toNatClampNeg v = (ax_ul x a i.toNatClampNeg v).2 a := by
        funext j
        simp [vp_updL, ax_ul]
      rw [this]) (fun i d' hi => ax_e_congr (by rfl) (by exact ax_ul_ne hi) d')] at hP1
    exact hP1
theorem ax_bast {V : ax_V} {μ : ax_Mu} (hV : ax_ok V μ) {pc nx : Nat} {lv : List (Option Value)} {st : List Value} {x : ax_S} {a : Nat} {i : Int32} {v : Int32} (d : ax_D μ.2.1 pc .bastore 1 nx) (x' : ax_S) (ho : ax_sb V.1 x a i v = some x') (k : ax_At V nx lv st x') : ax_At V pc lv (.int v :: .int i :: .ref (ax_ad V a) :: st) x := by
  obtain ⟨Sd, G, ⟨p, l, e, R, s, m, args, below, meth, c⟩, rv, sf⟩ := V
  obtain ⟨d, rfl⟩ := d
  obtain ⟨n, hn, hi⟩ := Option.bind_eq_some_iff.mp ho
  obtain ⟨fds, hL⟩ := ax_len_some hn
  split at hi
  · cases hi
  · rename_i hin
    cases hi
    intro H locs ls hP hS hl
    refine va_zast hV.1 hV.2.1 hV.2.2.2.2.2.1 hP (ax_D_of hV.2.2.2.2.2.2.1 x) hS a 2 (ax_ws_get (G := G) (s := x) hL) rfl hin d (fun H1 locs1 hP1 _ hS1 => ?_)
    refine k H1 locs1 ls ?_ hS1 hl
    rw [ax_ws_set (s' := ax_ui x a i.toNatClampNeg (vp_nar .boolean v)) hL (by
      simp only [ax_e]
      have : upd (x.1 a) i.toNatClampNeg (vp_nar .boolean v) = (ax_ui x a i.toNatClampNeg (vp_nar .boolean v)).1 a := by
        funext j
        simp [upd, ax_ui]
      rw [this]) (fun i d' hi => ax_e_congr (by exact ax_ui_ne hi) (by rfl) d')] at hP1
    exact hP1
theorem ax_alen {V : ax_V} {μ : ax_Mu} (hV : ax_ok V μ) {pc nx : Nat} {lv : List (Option Value)} {st : List Value} {x : ax_S} {a : Nat} (d : ax_D μ.2.1 pc .arraylength 1 nx) (v : Int32) (ho : ax_ln V.1 a = some v) (k : ax_At V nx lv (.int v :: st) x) : ax_At V pc lv (.ref (ax_ad V a) :: st) x := by
  obtain ⟨Sd, G, ⟨p, l, e, R, s, m, args, below, meth, c⟩, rv, sf⟩ := V
  obtain ⟨d, rfl⟩ := d
  obtain ⟨n, hn, hi⟩ := Option.map_eq_some_iff.mp ho
  obtain ⟨fds, hL⟩ := ax_len_some hn
  intro H locs ls hP hS hl
  exact va_alen hV.1 hV.2.1 hV.2.2.2.2.2.1 hP a 0 (ax_ws_get (G := G) (s := x) hL) (ty := .int) rfl hi d (k H locs ls hP hS hl)
def ax_sa (N : Nat) (f : Nat → Int32) (i : Int32) : Option Int32 := if i < 0 ∨ N ≤ i.toNatClampNeg then none else some (f i.toNatClampNeg)
theorem ax_gst {V : ax_V} {μ : ax_Mu} (hV : ax_ok V μ) {pc nx : Nat} {lv : List (Option Value)} {st : List Value} {x : ax_S} {ix b N : Nat} {C n : String} {f : Nat → Int32} (hq : (C, n, b, N, f) ∈ V.1.2) (hlk : Cond.fieldLink μ.1.cls ix C n "[I" ∈ ax_tb) (d : ax_D μ.2.1 pc (.getstatic ix) 3 nx) (k : ax_At V nx lv (.ref (ax_ad V b) :: st) x) : ax_At V pc lv st x := by
  obtain ⟨Sd, G, ⟨p, l, e, R, s, m, args, below, meth, c⟩, rv, sf⟩ := V
  obtain ⟨d, rfl⟩ := d
  intro H locs ls hP hS hl
  exact va_gets hV.1 hV.2.1 (hV.2.2.2.2.2.2.2.1 _ hq).1 hS hV.2.2.2.1 (hV.2.2.2.2.1 _ hlk) (fun _ h => h) d (k H locs ls hP hS hl)
theorem ax_sald {V : ax_V} {μ : ax_Mu} (hV : ax_ok V μ) {pc nx : Nat} {lv : List (Option Value)} {st : List Value} {x : ax_S} {b N : Nat} {C n : String} {f : Nat → Int32} {i : Int32} (hq : (C, n, b, N, f) ∈ V.1.2) (d : ax_D μ.2.1 pc .iaload 1 nx) (v : Int32) (ho : ax_sa N f i = some v) (k : ax_At V nx lv (.int v :: st) x) : ax_At V pc lv (.int i :: .ref (ax_ad V b) :: st) x := by
  obtain ⟨Sd, G, ⟨p, l, e, R, s, m, args, below, meth, c⟩, rv, sf⟩ := V
  obtain ⟨d, rfl⟩ := d
  unfold ax_sa at ho
  split at ho
  · cases ho
  · rename_i hin
    cases ho
    intro H locs ls hP hS hl
    exact va_ti hV.1 hV.2.1 (hV.2.2.2.2.2.2.2.1 _ hq).2 hS hin rfl d (k H locs ls hP hS hl)
theorem ax_ir {V : ax_V} {μ : ax_Mu} (hV : ax_ok V μ) {pc nx : Nat} {lv : List (Option Value)} {x : ax_S} {a : Int32} (hr : μ.2.2.2.1 = some .int) (d : ax_D μ.2.1 pc .ireturn 1 nx) (ho : V.2.2.2 = (some (.int a), x)) : ax_At V pc lv [.int a] x := by
  obtain ⟨Sd, G, ⟨p, l, e, R, s, m, args, below, meth, c⟩, rv, sf⟩ := V
  obtain ⟨d, rfl⟩ := d
  cases ho
  intro H locs ls hP hS hl
  exact W.iret hV.1 hV.2.1 (hV.2.2.2.2.2.2.2.2.1.trans hr) (fun t ht _ => ⟨⟨a, (), rfl, rfl, (show va_P G.1 cx_cls (ax_ws Sd.1 G x) t.heap by rw [ht]; exact hP)⟩, by rw [ht]; exact hS.1, fun q hq hA => by rw [ht]; exact hS.2.1 q hq hA⟩) hS.2.2 d hV.2.2.2.2.2.2.2.2.2.1
theorem ax_lr {V : ax_V} {μ : ax_Mu} (hV : ax_ok V μ) {pc nx : Nat} {lv : List (Option Value)} {x : ax_S} {a : Int64} (hr : μ.2.2.2.1 = some .long) (d : ax_D μ.2.1 pc .lreturn 1 nx) (ho : V.2.2.2 = (some (.long a), x)) : ax_At V pc lv [.long a] x := by
  obtain ⟨Sd, G, ⟨p, l, e, R, s, m, args, below, meth, c⟩, rv, sf⟩ := V
  obtain ⟨d, rfl⟩ := d
  cases ho
  intro H locs ls hP hS hl
  exact W.lret hV.1 hV.2.1 (hV.2.2.2.2.2.2.2.2.1.trans hr) (fun t ht _ => ⟨⟨a, (), rfl, rfl, (show va_P G.1 cx_cls (ax_ws Sd.1 G x) t.heap by rw [ht]; exact hP)⟩, by rw [ht]; exact hS.1, fun q hq hA => by rw [ht]; exact hS.2.1 q hq hA⟩) hS.2.2 d hV.2.2.2.2.2.2.2.2.2.1
theorem ax_zr {V : ax_V} {μ : ax_Mu} (hV : ax_ok V μ) {pc nx : Nat} {lv : List (Option Value)} {x : ax_S} {a : Int32} (hr : μ.2.2.2.1 = some .boolean) (hz : a &&& 1 = a) (d : ax_D μ.2.1 pc .ireturn 1 nx) (ho : V.2.2.2 = (some (.int a), x)) : ax_At V pc lv [.int a] x := by
  obtain ⟨Sd, G, ⟨p, l, e, R, s, m, args, below, meth, c⟩, rv, sf⟩ := V
  obtain ⟨d, rfl⟩ := d
  cases ho
  intro H locs ls hP hS hl
  exact W.zret hV.1 hV.2.1 (hV.2.2.2.2.2.2.2.2.1.trans hr) (by simp only [narrow]; rw [hz]) (fun t ht _ => ⟨⟨a, (), rfl, rfl, (show va_P G.1 cx_cls (ax_ws Sd.1 G x) t.heap by rw [ht]; exact hP)⟩, by rw [ht]; exact hS.1, fun q hq hA => by rw [ht]; exact hS.2.1 q hq hA⟩) hS.2.2 d hV.2.2.2.2.2.2.2.2.2.1
theorem ax_zb_and {a b : Int32} (h : ax_zb a = some b) : b &&& 1 = b ∧ a = b := by
  unfold ax_zb at h
  split at h
  · rename_i q
    cases h
    exact ⟨q.1, rfl⟩
  · cases h
theorem ax_zr2 {V : ax_V} {μ : ax_Mu} (hV : ax_ok V μ) {pc nx : Nat} {lv : List (Option Value)} {x : ax_S} {a : Int32} (hr : μ.2.2.2.1 = some .boolean) (d : ax_D μ.2.1 pc .ireturn 1 nx) (b : Int32) (hz : ax_zb a = some b) (ho : V.2.2.2 = (some (.int b), x)) : ax_At V pc lv [.int a] x := by
  obtain ⟨h1, h2⟩ := ax_zb_and hz
  subst h2
  exact ax_zr hV hr h1 d ho
theorem ax_jz {V : ax_V} {ρ : Type} {P : ρ → Prop} {pc : Nat} {lv : List (Option Value)} {st : List Value} {x : ax_S} {o : Option Int32} {K : Int32 → ρ} (h : ∀ v, o = some v → P (K v) → ax_At V pc lv st x) : ax_J V P pc lv st x (o.bind (fun v => some (K v))) := fun r hr hp => by
  cases ho : o with
  | none => rw [ho] at hr; cases hr
  | some v =>
    rw [ho] at hr
    cases hr
    exact h v ho hp
theorem ax_vr {V : ax_V} {μ : ax_Mu} (hV : ax_ok V μ) {pc nx : Nat} {lv : List (Option Value)} {x : ax_S} (hr : μ.2.2.2.1 = none) (d : ax_D μ.2.1 pc .return_ 1 nx) (ho : V.2.2.2 = (none, x)) : ax_At V pc lv [] x := by
  obtain ⟨Sd, G, ⟨p, l, e, R, s, m, args, below, meth, c⟩, rv, sf⟩ := V
  obtain ⟨d, rfl⟩ := d
  cases ho
  intro H locs ls hP hS hl
  exact W.vret hV.1 hV.2.1 (hV.2.2.2.2.2.2.2.2.1.trans hr) (fun t ht _ => ⟨⟨(), rfl, trivial, (show va_P G.1 cx_cls (ax_ws Sd.1 G x) t.heap by rw [ht]; exact hP)⟩, by rw [ht]; exact hS.1, fun q hq hA => by rw [ht]; exact hS.2.1 q hq hA⟩) hS.2.2 d hV.2.2.2.2.2.2.2.2.2.1
theorem ax_Z_S {C n d : String} {v : Value} {A : Nat → Prop} {U : State} {H0 H : Heap} {locs : List Loc} (h : va_Z C n d v A U H0) (hS : va_S A H0 H locs) : va_Z C n d v A U H := by
  obtain ⟨cf, kf, fi, f, a, cell, h1, h2, h3, h4, h5, h6, h7, h8⟩ := h
  exact ⟨cf, kf, fi, f, a, cell, h1, h2, h3, h4, by rw [hS.2.1 a (Array.getElem?_eq_some_iff.mp h5).1 h8]; exact h5, h6, h7, h8⟩
theorem ax_T_S {ty : FieldType} {t N : Nat} {f : Nat → Value} {A : Nat → Prop} {U : State} {H0 H : Heap} {locs : List Loc} (h : va_T ty t N f A U H0) (hS : va_S A H0 H locs) : va_T ty t N f A U H := by
  obtain ⟨cell, h1, h2, h3, h4, h5, h6, h7⟩ := h
  exact ⟨cell, by rw [hS.2.1 t (Array.getElem?_eq_some_iff.mp h1).1 h7]; exact h1, h2, h3, h4, h5, h6, h7⟩
theorem ax_stat_to {St : ax_St} {A : Nat → Prop} {G : ax_G} {s U : State} {H0 H : Heap} {locs : List Loc} (h : ax_stat St A G s H0) (hS : va_S A H0 H locs) (hvm : s.vm.Alike U.vm) : ax_stat St A G U H := fun q hq => ⟨va_Z.moved hvm (ax_Z_S (h q hq).1 hS), va_T.moved hvm (ax_T_S (h q hq).2 hS)⟩
theorem ax_blind {Sd : ax_Sd} {G : ax_G} {av : List Value} {x : ax_S} : FrameBlind (va_Pc av (fun U => va_P G.1 cx_cls (ax_ws Sd.1 G x) U.heap ∧ ax_U Sd G U)) := fun a U g mk q => ⟨q.1, q.2.1, va_K.moved (u := U) (U := U.calling g mk a) (Vm.Alike.refl U.vm) q.2.2.1, fun z hz => ⟨va_Z.moved (u := U) (U := U.calling g mk a) (Vm.Alike.refl U.vm) (q.2.2.2 z hz).1, va_T.moved (u := U) (U := U.calling g mk a) (Vm.Alike.refl U.vm) (q.2.2.2 z hz).2⟩⟩
theorem ax_gw : ax_tb.all goodWord = true := List.all_eq_true.mpr (fun w h => (List.mem_filter.mp h).2)
theorem ax_good : GoodIn ax_tb ax_tb := fun w h => ⟨h, good_of_word (List.all_eq_true.mp ax_gw w h)⟩
theorem ax_goodw {μ : ax_Mu} (h : Cond.code μ.1 μ.2.1 μ.2.2.1 μ.2.2.2.1 ∈ ax_tb) : GoodIn ax_tb (ax_w μ) := fun w hw => by
  rcases List.mem_cons.mp hw with q | q
  · subst q
    exact ax_good _ h
  · exact ax_good w q
def ax_nam (μ : ax_Mu) (n : Nat) : Prop := μ.1.cls ≠ "java/lang/invoke/MethodHandle" ∧ μ.1.cls ≠ "java/lang/invoke/VarHandle" ∧ (parseMethodDescriptor μ.1.desc).map (fun d => d.parameters.length) = some n
def ax_lkV (own : String) (ix : Nat) (μ : ax_Mu) (C : String) (n : Nat) : Prop := GoodIn ax_tb (wsV own ix C μ.1 (ax_w μ)) ∧ μ.1.cls = C ∧ ax_nam μ n
def ax_lkS (own : String) (ix : Nat) (μ : ax_Mu) (n : Nat) : Prop := GoodIn ax_tb (va_wsS own ix μ.1 (ax_w μ)) ∧ ax_nam μ n
theorem ax_lkV_of {own : String} {ix : Nat} {μ : ax_Mu} {C : String} {n : Nat} (h1 : Cond.methodLink own ix μ.1 ∈ ax_tb) (h2 : Cond.instanceMethod μ.1 ∈ ax_tb) (h3 : Cond.selects C μ.1 μ.1 ∈ ax_tb) (h4 : Cond.initialized C ∈ ax_tb) (h5 : Cond.code μ.1 μ.2.1 μ.2.2.1 μ.2.2.2.1 ∈ ax_tb) (hc : μ.1.cls = C) (hn : ax_nam μ n) : ax_lkV own ix μ C n := by
  refine ⟨fun w hw => ?_, hc, hn⟩
  rcases List.mem_append.mp hw with q | q
  · simp only [List.mem_cons, List.not_mem_nil, or_false] at q
    rcases q with q | q | q | q <;> subst q
    · exact ax_good _ h1
    · exact ax_good _ h2
    · exact ax_good _ h3
    · exact ax_good _ h4
  · exact ax_goodw h5 w q
theorem ax_lkS_of {own : String} {ix : Nat} {μ : ax_Mu} {n : Nat} (h1 : Cond.methodLink own ix μ.1 ∈ ax_tb) (h2 : Cond.static μ.1 ∈ ax_tb) (h4 : Cond.initialized μ.1.cls ∈ ax_tb) (h5 : Cond.code μ.1 μ.2.1 μ.2.2.1 μ.2.2.2.1 ∈ ax_tb) (hn : ax_nam μ n) : ax_lkS own ix μ n := by
  refine ⟨fun w hw => ?_, hn⟩
  rcases List.mem_append.mp hw with q | q
  · simp only [List.mem_cons, List.not_mem_nil, or_false] at q
    rcases q with q | q | q <;> subst q
    · exact ax_good _ h1
    · exact ax_good _ h2
    · exact ax_good _ h4
  · exact ax_goodw h5 w q
def ax_rmle (μ' μ : ax_Mu) : Bool := Nat.ble (μ'.2.2.2.2.1 + 1) μ.2.2.2.2.1 && Nat.ble (8 + (μ'.2.2.1 + 11) + μ'.2.2.2.2.2) μ.2.2.2.2.2
theorem ax_rmle_R {μ' μ : ax_Mu} {R : Room} (h : ax_rmle μ' μ = true) (hR : R = ax_rm μ) : (ax_rm μ').frames + 1 ≤ R.frames ∧ 8 + (μ'.2.2.1 + 11) + (ax_rm μ').locals ≤ R.locals := by
  subst hR
  have h := Bool.and_eq_true _ _ ▸ h
  exact ⟨Nat.le_of_ble_eq_true h.1, Nat.le_of_ble_eq_true h.2⟩
theorem ax_cVi {V : ax_V} {μ : ax_Mu} (hV : ax_ok V μ) {pc nx : Nat} {lv : List (Option Value)} {st : List Value} {x : ax_S} {μ' : ax_Mu} {ix n a ci N : Nat} {C : String} {T : u_T} {fds : List Nat} (hlk : ax_lkV μ.1.cls ix μ' C n) (hrm : ax_rmle μ' μ = true) (d : ax_D μ.2.1 pc (.invokevirtual ix) 3 nx) (hL : V.1.1[a]? = some (0, ci, fds)) (hc : cx_cls[ci]? = some (C, T, N)) (As rest : List Value) (av : (Nat → Nat) → List Value) (hav : av (ax_ad V) = .ref (ax_ad V a) :: As) (hn : As.length = n) (hst : st = As.reverse ++ .ref (ax_ad V a) :: rest) (hw : Nat.ble ((rest.map fun v => v.category).sum) 8 = true) (r : Int32) (x' : ax_S) (hm : ax_M V.1 μ' av x (some (.int r)) x') (k : ax_At V nx lv (.int r :: rest) x') : ax_At V pc lv st x := by
  obtain ⟨Sd, G, ⟨p, l, e, R, s, m, args, below, meth, c⟩, rv, sf⟩ := V
  obtain ⟨d, rfl⟩ := d
  have hm := hm l G hV.2.2.2.2.2.2.1
  intro H locs ls hP hS hl
  have hm' : Met l μ'.1 (ax_w μ') (ax_rm μ') (va_Pc (av G.2.1) (fun U => va_P G.1 cx_cls (ax_ws Sd.1 G x) U.heap ∧ ax_U Sd G U)) (va_Qi (fun y (_ : Unit) => y = r) (fun _ t => va_P G.1 cx_cls (ax_ws Sd.1 G x') t.heap) (ax_A Sd.1 G)) 0 0 (ax_A Sd.1 G) := hm
  refine va_calli (va_runV (As := As) (rest := rest) ⟨hV.1, hV.2.1, rfl, hV.2.2.2.1, hV.2.2.2.2.1⟩ hm' (cwV n hV.2.2.2.2.1 hlk.1 rfl rfl rfl ⟨hlk.2.1, hlk.2.2⟩ (ax_rmle_R hrm hV.2.2.2.2.2.2.2.2.2.2)) ⟨ax_blind, va_recv hV.2.2.2.2.2.1 hP hc (ax_ws_get (G := G) (s := x) hL), fun U hU hW => ⟨?_, ?_, va_K.moved hW.alike hV.2.2.2.2.2.1, ?_⟩⟩ rfl hn hl.1 hst (lv_room (Nat.le_of_ble_eq_true hw)) d ⟨Nat.zero_le _, Nat.zero_le _⟩) hS (fun q _ h => h) (fun q h => h) (fun r' u t H1 locs1 ht hvm hpost hB hsz hk hS1 => ?_)
  · exact congrArg List.toArray hav.symm
  · rw [hU]; exact hP
  · rw [hU]; exact ax_stat_to hV.2.2.2.2.2.2.2.1 hS hW.alike
  · have hpost : r' = r := hpost
    subst hpost
    rw [ht] at hB
    exact k H1 locs1 ls hB hS1 hl
theorem ax_cSi {V : ax_V} {μ : ax_Mu} (hV : ax_ok V μ) {pc nx : Nat} {lv : List (Option Value)} {st : List Value} {x : ax_S} {μ' : ax_Mu} {ix n : Nat} (hlk : ax_lkS μ.1.cls ix μ' n) (hrm : ax_rmle μ' μ = true) (d : ax_D μ.2.1 pc (.invokestatic ix) 3 nx) (As rest : List Value) (av : (Nat → Nat) → List Value) (hav : av (ax_ad V) = As) (hn : As.length = n) (hst : st = As.reverse ++ rest) (hw : Nat.ble ((rest.map fun v => v.category).sum) 8 = true) (r : Int32) (x' : ax_S) (hm : ax_M V.1 μ' av x (some (.int r)) x') (k : ax_At V nx lv (.int r :: rest) x') : ax_At V pc lv st x := by
  obtain ⟨Sd, G, ⟨p, l, e, R, s, m, args, below, meth, c⟩, rv, sf⟩ := V
  obtain ⟨d, rfl⟩ := d
  have hm := hm l G hV.2.2.2.2.2.2.1
  intro H locs ls hP hS hl
  have hm' : Met l μ'.1 (ax_w μ') (ax_rm μ') (va_Pc (av G.2.1) (fun U => va_P G.1 cx_cls (ax_ws Sd.1 G x) U.heap ∧ ax_U Sd G U)) (va_Qi (fun y (_ : Unit) => y = r) (fun _ t => va_P G.1 cx_cls (ax_ws Sd.1 G x') t.heap) (ax_A Sd.1 G)) 0 0 (ax_A Sd.1 G) := hm
  refine va_calli (va_runS (As := As) (rest := rest) ⟨hV.1, hV.2.1, rfl, hV.2.2.2.1, hV.2.2.2.2.1⟩ hm' (va_cwS n hV.2.2.2.2.1 hlk.1 rfl rfl rfl hlk.2 (ax_rmle_R hrm hV.2.2.2.2.2.2.2.2.2.2)) ⟨ax_blind, fun U hU hW => ⟨?_, ?_, va_K.moved hW.alike hV.2.2.2.2.2.1, ?_⟩⟩ rfl hn hl.1 hst (lv_room (Nat.le_of_ble_eq_true hw)) d ⟨Nat.zero_le _, Nat.zero_le _⟩) hS (fun q _ h => h) (fun q h => h) (fun r' u t H1 locs1 ht hvm hpost hB hsz hk hS1 => ?_)
  · exact congrArg List.toArray hav.symm
  · rw [hU]; exact hP
  · rw [hU]; exact ax_stat_to hV.2.2.2.2.2.2.2.1 hS hW.alike
  · have hpost : r' = r := hpost
    subst hpost
    rw [ht] at hB
    exact k H1 locs1 ls hB hS1 hl
theorem ax_cVl {V : ax_V} {μ : ax_Mu} (hV : ax_ok V μ) {pc nx : Nat} {lv : List (Option Value)} {st : List Value} {x : ax_S} {μ' : ax_Mu} {ix n a ci N : Nat} {C : String} {T : u_T} {fds : List Nat} (hlk : ax_lkV μ.1.cls ix μ' C n) (hrm : ax_rmle μ' μ = true) (d : ax_D μ.2.1 pc (.invokevirtual ix) 3 nx) (hL : V.1.1[a]? = some (0, ci, fds)) (hc : cx_cls[ci]? = some (C, T, N)) (As rest : List Value) (av : (Nat → Nat) → List Value) (hav : av (ax_ad V) = .ref (ax_ad V a) :: As) (hn : As.length = n) (hst : st = As.reverse ++ .ref (ax_ad V a) :: rest) (hw : Nat.ble ((rest.map fun v => v.category).sum) 8 = true) (r : Int64) (x' : ax_S) (hm : ax_M V.1 μ' av x (some (.long r)) x') (k : ax_At V nx lv (.long r :: rest) x') : ax_At V pc lv st x := by
  obtain ⟨Sd, G, ⟨p, l, e, R, s, m, args, below, meth, c⟩, rv, sf⟩ := V
  obtain ⟨d, rfl⟩ := d
  have hm := hm l G hV.2.2.2.2.2.2.1
  intro H locs ls hP hS hl
  have hm' : Met l μ'.1 (ax_w μ') (ax_rm μ') (va_Pc (av G.2.1) (fun U => va_P G.1 cx_cls (ax_ws Sd.1 G x) U.heap ∧ ax_U Sd G U)) (va_Ql (fun y (_ : Unit) => y = r) (fun _ t => va_P G.1 cx_cls (ax_ws Sd.1 G x') t.heap) (ax_A Sd.1 G)) 0 0 (ax_A Sd.1 G) := hm
  refine va_calll (va_runV (As := As) (rest := rest) ⟨hV.1, hV.2.1, rfl, hV.2.2.2.1, hV.2.2.2.2.1⟩ hm' (cwV n hV.2.2.2.2.1 hlk.1 rfl rfl rfl ⟨hlk.2.1, hlk.2.2⟩ (ax_rmle_R hrm hV.2.2.2.2.2.2.2.2.2.2)) ⟨ax_blind, va_recv hV.2.2.2.2.2.1 hP hc (ax_ws_get (G := G) (s := x) hL), fun U hU hW => ⟨?_, ?_, va_K.moved hW.alike hV.2.2.2.2.2.1, ?_⟩⟩ rfl hn hl.1 hst (lv_room (Nat.le_of_ble_eq_true hw)) d ⟨Nat.zero_le _, Nat.zero_le _⟩) hS (fun q _ h => h) (fun q h => h) (fun r' u t H1 locs1 ht hvm hpost hB hsz hk hS1 => ?_)
  · exact congrArg List.toArray hav.symm
  · rw [hU]; exact hP
  · rw [hU]; exact ax_stat_to hV.2.2.2.2.2.2.2.1 hS hW.alike
  · have hpost : r' = r := hpost
    subst hpost
    rw [ht] at hB
    exact k H1 locs1 ls hB hS1 hl
theorem ax_cSl {V : ax_V} {μ : ax_Mu} (hV : ax_ok V μ) {pc nx : Nat} {lv : List (Option Value)} {st : List Value} {x : ax_S} {μ' : ax_Mu} {ix n : Nat} (hlk : ax_lkS μ.1.cls ix μ' n) (hrm : ax_rmle μ' μ = true) (d : ax_D μ.2.1 pc (.invokestatic ix) 3 nx) (As rest : List Value) (av : (Nat → Nat) → List Value) (hav : av (ax_ad V) = As) (hn : As.length = n) (hst : st = As.reverse ++ rest) (hw : Nat.ble ((rest.map fun v => v.category).sum) 8 = true) (r : Int64) (x' : ax_S) (hm : ax_M V.1 μ' av x (some (.long r)) x') (k : ax_At V nx lv (.long r :: rest) x') : ax_At V pc lv st x := by
  obtain ⟨Sd, G, ⟨p, l, e, R, s, m, args, below, meth, c⟩, rv, sf⟩ := V
  obtain ⟨d, rfl⟩ := d
  have hm := hm l G hV.2.2.2.2.2.2.1
  intro H locs ls hP hS hl
  have hm' : Met l μ'.1 (ax_w μ') (ax_rm μ') (va_Pc (av G.2.1) (fun U => va_P G.1 cx_cls (ax_ws Sd.1 G x) U.heap ∧ ax_U Sd G U)) (va_Ql (fun y (_ : Unit) => y = r) (fun _ t => va_P G.1 cx_cls (ax_ws Sd.1 G x') t.heap) (ax_A Sd.1 G)) 0 0 (ax_A Sd.1 G) := hm
  refine va_calll (va_runS (As := As) (rest := rest) ⟨hV.1, hV.2.1, rfl, hV.2.2.2.1, hV.2.2.2.2.1⟩ hm' (va_cwS n hV.2.2.2.2.1 hlk.1 rfl rfl rfl hlk.2 (ax_rmle_R hrm hV.2.2.2.2.2.2.2.2.2.2)) ⟨ax_blind, fun U hU hW => ⟨?_, ?_, va_K.moved hW.alike hV.2.2.2.2.2.1, ?_⟩⟩ rfl hn hl.1 hst (lv_room (Nat.le_of_ble_eq_true hw)) d ⟨Nat.zero_le _, Nat.zero_le _⟩) hS (fun q _ h => h) (fun q h => h) (fun r' u t H1 locs1 ht hvm hpost hB hsz hk hS1 => ?_)
  · exact congrArg List.toArray hav.symm
  · rw [hU]; exact hP
  · rw [hU]; exact ax_stat_to hV.2.2.2.2.2.2.2.1 hS hW.alike
  · have hpost : r' = r := hpost
    subst hpost
    rw [ht] at hB
    exact k H1 locs1 ls hB hS1 hl
theorem ax_cVv {V : ax_V} {μ : ax_Mu} (hV : ax_ok V μ) {pc nx : Nat} {lv : List (Option Value)} {st : List Value} {x : ax_S} {μ' : ax_Mu} {ix n a ci N : Nat} {C : String} {T : u_T} {fds : List Nat} (hlk : ax_lkV μ.1.cls ix μ' C n) (hrm : ax_rmle μ' μ = true) (d : ax_D μ.2.1 pc (.invokevirtual ix) 3 nx) (hL : V.1.1[a]? = some (0, ci, fds)) (hc : cx_cls[ci]? = some (C, T, N)) (As rest : List Value) (av : (Nat → Nat) → List Value) (hav : av (ax_ad V) = .ref (ax_ad V a) :: As) (hn : As.length = n) (hst : st = As.reverse ++ .ref (ax_ad V a) :: rest) (hw : Nat.ble ((rest.map fun v => v.category).sum) 8 = true) (x' : ax_S) (hm : ax_M V.1 μ' av x none x') (k : ax_At V nx lv (rest) x') : ax_At V pc lv st x := by
  obtain ⟨Sd, G, ⟨p, l, e, R, s, m, args, below, meth, c⟩, rv, sf⟩ := V
  obtain ⟨d, rfl⟩ := d
  have hm := hm l G hV.2.2.2.2.2.2.1
  intro H locs ls hP hS hl
  have hm' : Met l μ'.1 (ax_w μ') (ax_rm μ') (va_Pc (av G.2.1) (fun U => va_P G.1 cx_cls (ax_ws Sd.1 G x) U.heap ∧ ax_U Sd G U)) (va_Qv (fun (_ : Unit) => True) (fun _ t => va_P G.1 cx_cls (ax_ws Sd.1 G x') t.heap) (ax_A Sd.1 G)) 0 0 (ax_A Sd.1 G) := hm
  refine va_callv (va_runV (As := As) (rest := rest) ⟨hV.1, hV.2.1, rfl, hV.2.2.2.1, hV.2.2.2.2.1⟩ hm' (cwV n hV.2.2.2.2.1 hlk.1 rfl rfl rfl ⟨hlk.2.1, hlk.2.2⟩ (ax_rmle_R hrm hV.2.2.2.2.2.2.2.2.2.2)) ⟨ax_blind, va_recv hV.2.2.2.2.2.1 hP hc (ax_ws_get (G := G) (s := x) hL), fun U hU hW => ⟨?_, ?_, va_K.moved hW.alike hV.2.2.2.2.2.1, ?_⟩⟩ rfl hn hl.1 hst (lv_room (Nat.le_of_ble_eq_true hw)) d ⟨Nat.zero_le _, Nat.zero_le _⟩) hS (fun q _ h => h) (fun q h => h) (fun u t H1 locs1 ht hvm hpost hB hsz hk hS1 => ?_)
  · exact congrArg List.toArray hav.symm
  · rw [hU]; exact hP
  · rw [hU]; exact ax_stat_to hV.2.2.2.2.2.2.2.1 hS hW.alike
  · rw [ht] at hB
    exact k H1 locs1 ls hB hS1 hl
theorem ax_cSv {V : ax_V} {μ : ax_Mu} (hV : ax_ok V μ) {pc nx : Nat} {lv : List (Option Value)} {st : List Value} {x : ax_S} {μ' : ax_Mu} {ix n : Nat} (hlk : ax_lkS μ.1.cls ix μ' n) (hrm : ax_rmle μ' μ = true) (d : ax_D μ.2.1 pc (.invokestatic ix) 3 nx) (As rest : List Value) (av : (Nat → Nat) → List Value) (hav : av (ax_ad V) = As) (hn : As.length = n) (hst : st = As.reverse ++ rest) (hw : Nat.ble ((rest.map fun v => v.category).sum) 8 = true) (x' : ax_S) (hm : ax_M V.1 μ' av x none x') (k : ax_At V nx lv (rest) x') : ax_At V pc lv st x := by
  obtain ⟨Sd, G, ⟨p, l, e, R, s, m, args, below, meth, c⟩, rv, sf⟩ := V
  obtain ⟨d, rfl⟩ := d
  have hm := hm l G hV.2.2.2.2.2.2.1
  intro H locs ls hP hS hl
  have hm' : Met l μ'.1 (ax_w μ') (ax_rm μ') (va_Pc (av G.2.1) (fun U => va_P G.1 cx_cls (ax_ws Sd.1 G x) U.heap ∧ ax_U Sd G U)) (va_Qv (fun (_ : Unit) => True) (fun _ t => va_P G.1 cx_cls (ax_ws Sd.1 G x') t.heap) (ax_A Sd.1 G)) 0 0 (ax_A Sd.1 G) := hm
  refine va_callv (va_runS (As := As) (rest := rest) ⟨hV.1, hV.2.1, rfl, hV.2.2.2.1, hV.2.2.2.2.1⟩ hm' (va_cwS n hV.2.2.2.2.1 hlk.1 rfl rfl rfl hlk.2 (ax_rmle_R hrm hV.2.2.2.2.2.2.2.2.2.2)) ⟨ax_blind, fun U hU hW => ⟨?_, ?_, va_K.moved hW.alike hV.2.2.2.2.2.1, ?_⟩⟩ rfl hn hl.1 hst (lv_room (Nat.le_of_ble_eq_true hw)) d ⟨Nat.zero_le _, Nat.zero_le _⟩) hS (fun q _ h => h) (fun q h => h) (fun u t H1 locs1 ht hvm hpost hB hsz hk hS1 => ?_)
  · exact congrArg List.toArray hav.symm
  · rw [hU]; exact hP
  · rw [hU]; exact ax_stat_to hV.2.2.2.2.2.2.2.1 hS hW.alike
  · rw [ht] at hB
    exact k H1 locs1 ls hB hS1 hl
def ax_min (a b : Int32) : Int32 := if b < a then b else a
def ax_max (a b : Int32) : Int32 := if a < b then b else a
def ax_lkM (own : String) (ix : Nat) (y : MethodName) (bs : ByteArray) : Prop := Cond.methodLink own ix y ∈ ax_tb ∧ Cond.static y ∈ ax_tb ∧ Cond.initialized "java/lang/Math" ∈ ax_tb ∧ Cond.code y bs 2 (some .int) ∈ ax_tb
theorem ax_mmin {V : ax_V} {μ : ax_Mu} (hV : ax_ok V μ) {pc nx : Nat} {lv : List (Option Value)} {st : List Value} {x : ax_S} {ix : Nat} {a b : Int32} (hlk : ax_lkM μ.1.cls ix Lib.Math.min.name Lib.Math.min.code) (hrm : (Nat.ble 1 μ.2.2.2.2.1 && Nat.ble ((st.map fun v => v.category).sum + 13) μ.2.2.2.2.2) = true) (d : ax_D μ.2.1 pc (.invokestatic ix) 3 nx) (k : ax_At V nx lv (.int (ax_min a b) :: st) x) : ax_At V pc lv (.int b :: .int a :: st) x := by
  obtain ⟨Sd, G, ⟨p, l, e, R, s, m, args, below, meth, c⟩, rv, sf⟩ := V
  obtain ⟨d, rfl⟩ := d
  have hrm := Bool.and_eq_true _ _ ▸ hrm
  have hR : R = ax_rm μ := hV.2.2.2.2.2.2.2.2.2.2
  subst hR
  intro H locs ls hP hS hl
  exact va_mmin hV.1 hV.2.1 hl.1.symm hV.2.2.2.1 (hV.2.2.2.2.1 _ hlk.1) (hV.2.2.2.2.1 _ hlk.2.1) (hV.2.2.2.2.1 _ hlk.2.2.1) (hV.2.2.2.2.1 _ hlk.2.2.2) (Nat.le_of_ble_eq_true hrm.1) (Nat.le_of_ble_eq_true hrm.2) (Nat.zero_le _) (Nat.zero_le _) d (k H locs ls hP hS hl)
theorem ax_mmax {V : ax_V} {μ : ax_Mu} (hV : ax_ok V μ) {pc nx : Nat} {lv : List (Option Value)} {st : List Value} {x : ax_S} {ix : Nat} {a b : Int32} (hlk : ax_lkM μ.1.cls ix Lib.Math.max.name Lib.Math.max.code) (hrm : (Nat.ble 1 μ.2.2.2.2.1 && Nat.ble ((st.map fun v => v.category).sum + 13) μ.2.2.2.2.2) = true) (d : ax_D μ.2.1 pc (.invokestatic ix) 3 nx) (k : ax_At V nx lv (.int (ax_max a b) :: st) x) : ax_At V pc lv (.int b :: .int a :: st) x := by
  obtain ⟨Sd, G, ⟨p, l, e, R, s, m, args, below, meth, c⟩, rv, sf⟩ := V
  obtain ⟨d, rfl⟩ := d
  have hrm := Bool.and_eq_true _ _ ▸ hrm
  have hR : R = ax_rm μ := hV.2.2.2.2.2.2.2.2.2.2
  subst hR
  intro H locs ls hP hS hl
  exact va_mmax hV.1 hV.2.1 hl.1.symm hV.2.2.2.1 (hV.2.2.2.2.1 _ hlk.1) (hV.2.2.2.2.1 _ hlk.2.1) (hV.2.2.2.2.1 _ hlk.2.2.1) (hV.2.2.2.2.1 _ hlk.2.2.2) (Nat.le_of_ble_eq_true hrm.1) (Nat.le_of_ble_eq_true hrm.2) (Nat.zero_le _) (Nat.zero_le _) d (k H locs ls hP hS hl)
def ax_cp (Sd : ax_Sd) (x : ax_S) (a : Nat) (sp : Int32) (b : Nat) (dp n : Int32) : Option ax_S := (ax_len Sd 1 a).bind (fun na => (ax_len Sd 1 b).bind (fun nb => if sp < 0 ∨ dp < 0 ∨ n < 0 ∨ na < sp.toNatClampNeg + n.toNatClampNeg ∨ nb < dp.toNatClampNeg + n.toNatClampNeg then none else some (ax_wi x b (va_cpy (x.1 a) (x.1 b) sp.toNatClampNeg dp.toNatClampNeg n.toNatClampNeg))))
def ax_lkC (own : String) (ix : Nat) : Prop := Cond.methodLink own ix arraycopyName ∈ ax_tb ∧ Cond.native arraycopyName ∈ ax_tb ∧ Cond.static arraycopyName ∈ ax_tb ∧ Cond.initialized "java/lang/System" ∈ ax_tb
theorem ax_copy {V : ax_V} {μ : ax_Mu} (hV : ax_ok V μ) {pc nx : Nat} {lv : List (Option Value)} {st : List Value} {x : ax_S} {ix a b : Nat} {sp dp n : Int32} (hlk : ax_lkC μ.1.cls ix) (hrm : (Nat.ble 1 μ.2.2.2.2.1 && Nat.ble ((st.map fun v => v.category).sum + (nativeFrameWords "java/lang/System" "arraycopy" 5 + 11)) μ.2.2.2.2.2) = true) (d : ax_D μ.2.1 pc (.invokestatic ix) 3 nx) (x' : ax_S) (ho : ax_cp V.1 x a sp b dp n = some x') (k : ax_At V nx lv st x') : ax_At V pc lv (.int n :: .int dp :: .ref (ax_ad V b) :: .int sp :: .ref (ax_ad V a) :: st) x := by
  obtain ⟨Sd, G, ⟨p, l, e, R, s, m, args, below, meth, c⟩, rv, sf⟩ := V
  obtain ⟨d, rfl⟩ := d
  obtain ⟨na, hna, ho⟩ := Option.bind_eq_some_iff.mp ho
  obtain ⟨nb, hnb, ho⟩ := Option.bind_eq_some_iff.mp ho
  obtain ⟨fa, hLa⟩ := ax_len_some hna
  obtain ⟨fb, hLb⟩ := ax_len_some hnb
  split at ho
  · cases ho
  · rename_i hin
    simp only [not_or, Nat.not_lt] at hin
    cases ho
    have hrm := Bool.and_eq_true _ _ ▸ hrm
    have hR : R = ax_rm μ := hV.2.2.2.2.2.2.2.2.2.2
    subst hR
    intro H locs ls hP hS hl
    refine va_copyi hV.1 hV.2.1 hl.1.symm hV.2.2.2.1 (hV.2.2.2.2.1 _ hlk.1) (hV.2.2.2.2.1 _ hlk.2.1) (hV.2.2.2.2.1 _ hlk.2.2.1) (hV.2.2.2.2.1 _ hlk.2.2.2) hV.2.2.2.2.2.1 hP (ax_D_of hV.2.2.2.2.2.2.1 x) hS a b 0 0 (ax_ws_get (G := G) (s := x) hLa) (ax_ws_get (G := G) (s := x) hLb) (ty := .int) rfl rfl rfl hin.1 hin.2.1 hin.2.2.1 hin.2.2.2.1 hin.2.2.2.2 (fun _ _ => rfl) (Nat.le_of_ble_eq_true hrm.1) (Nat.le_of_ble_eq_true hrm.2) d (fun H1 locs1 hP1 _ hS1 => ?_)
    refine k H1 locs1 ls ?_ hS1 hl
    rw [ax_ws_set (s' := ax_wi x b (va_cpy (x.1 a) (x.1 b) sp.toNatClampNeg dp.toNatClampNeg n.toNatClampNeg)) hLb (by simp [ax_e, ax_wi]) (fun i d' hi => ax_e_congr (by exact ax_wi_ne hi) (by rfl) d')] at hP1
    exact hP1
def ax_en (vs : List Value) : List (Option Value) := vs.flatMap (fun v => if v.category = 2 then [some v, none] else [some v])
theorem ax_en_args (vs : List Value) : ∀ (k i : Nat) (v : Value), (ax_en vs)[i]? = some (some v) → (k + i, v) ∈ lv_args k vs := by
  induction vs with
  | nil => intro k i v h; simp [ax_en] at h
  | cons a vs ih =>
    intro k i v h
    have e : ax_en (a :: vs) = (if a.category = 2 then [some a, none] else [some a]) ++ ax_en vs := by simp [ax_en]
    rw [e] at h
    by_cases hc : a.category = 2
    · rw [if_pos hc] at h
      match i, h with
      | 0, h => cases h; simp [lv_args]
      | 1, h => cases h
      | i + 2, h =>
        have h' : (ax_en vs)[i]? = some (some v) := h
        have := ih (k + 2) i v h'
        simp only [lv_args, hc, List.mem_cons]
        right
        have e2 : k + (i + 2) = k + 2 + i := by omega
        rw [e2]
        simpa using this
    · rw [if_neg hc] at h
      match i, h with
      | 0, h => cases h; simp [lv_args]
      | i + 1, h =>
        have h' : (ax_en vs)[i]? = some (some v) := h
        have hc1 : a.category = 1 := (lv_cat a).resolve_right hc
        have := ih (k + 1) i v h'
        simp only [lv_args, hc1, List.mem_cons]
        right
        have e2 : k + (i + 1) = k + 1 + i := by omega
        rw [e2]
        simpa using this
theorem ax_enter {Sd : ax_Sd} {μ : ax_Mu} {av : (Nat → Nat) → List Value} {s : ax_S} {rv : Option Value} {sf : ax_S} (hy : plainName μ.1.cls = true) (r : Nat) (lv0 : (Nat → Nat) → List (Option Value)) (hlv : ∀ ad, ax_en (av ad) ++ List.replicate r none = lv0 ad) (hn : ∀ ad, (lg_sl (av ad)).length ≤ μ.2.2.1)
    (hb : ∀ X : ax_G × ax_K × Option Value × ax_S, ax_ok (Sd, X) μ → X.2.2 = (rv, sf) → ax_At (Sd, X) 0 (lv0 (ax_ad (Sd, X))) [] s) : ax_M Sd μ av s rv sf := by
  intro l G hinj
  refine Met.ofW (cc := μ.2.1) (maxL := μ.2.2.1) (ret := μ.2.2.2.1) hy rfl ?_
  intro p e s₀ m args below meth c s₁ B hml hv
  obtain ⟨rfl, hP, hK, hst⟩ := hv
  have hts := atoms_spec (ws := ax_w μ) B.pre
  have hl := lv_entry (av G.2.1) (n := μ.2.2.1) (hn G.2.1)
  rw [lg_entry_eq]
  generalize (lg_sl (av G.2.1) ++ List.replicate (μ.2.2.1 - (lg_sl (av G.2.1)).length) Slot.unset).toArray = ls at hl ⊢
  have k := hb (G, (p, l, e, ax_rm μ, s₀, m, (av G.2.1).toArray, below, meth, c), rv, sf) ⟨B.exec, B.bytes, hml, findClass_of_methodNamed B.named, fun w hw => hts w (List.mem_cons_of_mem _ hw), hK, hinj, hst, B.returns, B.notSynchronized, rfl⟩ rfl
  refine k s₀.heap [] ls hP va_S.rf ⟨by rw [hl.1]; exact hml.symm, hl.2.1, fun i v hi => ?_⟩
  have hi : (lv0 G.2.1)[i]? = some (some v) := hi
  rw [← hlv G.2.1] at hi
  rcases Nat.lt_or_ge i (ax_en (av G.2.1)).length with q | q
  · rw [List.getElem?_append_left q] at hi
    have := ax_en_args (av G.2.1) 0 i v hi
    rw [Nat.zero_add] at this
    exact hl.2.2 _ this
  · rw [List.getElem?_append_right q, List.getElem?_replicate] at hi
    split at hi
    · cases hi
    · cases hi
end
