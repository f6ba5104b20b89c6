-- ===== PART A: goes FIRST, ahead of the names: the tables' words, and 'selects' of the private methods out of them =====
/-- a private method of a class that the tables say can be made, by its rows of tables_1 -/
def lw_okq (q : MethodName × Nat) : Prop := (q.1.cls ≠ "java/lang/invoke/MethodHandle" ∧ q.1.cls ≠ "java/lang/invoke/VarHandle") ∧ Cond.instantiable q.1.cls q.2 ∈ tables_1 ∧ Cond.privateMethod q.1 ∈ tables_1 ∧ Cond.instanceMethod q.1 ∈ tables_1
theorem lw_p0 : lw_okq (⟨"FrameCollapse", "forgetShape", "()V"⟩, 9) := ⟨⟨by decide +kernel, by decide +kernel⟩, List.mem_of_getElem? (i := 15) (by decide +kernel), List.mem_of_getElem? (i := 238) (by decide +kernel), List.mem_of_getElem? (i := 239) (by decide +kernel)⟩
theorem lw_p1 : lw_okq (⟨"FrameCollapse", "isNode", "(I)Z"⟩, 9) := ⟨⟨by decide +kernel, by decide +kernel⟩, List.mem_of_getElem? (i := 15) (by decide +kernel), List.mem_of_getElem? (i := 250) (by decide +kernel), List.mem_of_getElem? (i := 251) (by decide +kernel)⟩
theorem lw_p2 : lw_okq (⟨"FrameCollapse", "isBar", "(I)Z"⟩, 9) := ⟨⟨by decide +kernel, by decide +kernel⟩, List.mem_of_getElem? (i := 15) (by decide +kernel), List.mem_of_getElem? (i := 275) (by decide +kernel), List.mem_of_getElem? (i := 276) (by decide +kernel)⟩
theorem lw_p3 : lw_okq (⟨"FrameCollapse", "refresh", "()V"⟩, 9) := ⟨⟨by decide +kernel, by decide +kernel⟩, List.mem_of_getElem? (i := 15) (by decide +kernel), List.mem_of_getElem? (i := 315) (by decide +kernel), List.mem_of_getElem? (i := 316) (by decide +kernel)⟩
theorem lw_p4 : lw_okq (⟨"FrameCollapse$Motions", "addShifts", "(LFrameCollapse$Frame;Z)V"⟩, 7) := ⟨⟨by decide +kernel, by decide +kernel⟩, List.mem_of_getElem? (i := 90) (by decide +kernel), List.mem_of_getElem? (i := 323) (by decide +kernel), List.mem_of_getElem? (i := 324) (by decide +kernel)⟩
theorem lw_p5 : lw_okq (⟨"FrameCollapse$Motions", "joinGroups", "(LFrameCollapse$Frame;Z)V"⟩, 7) := ⟨⟨by decide +kernel, by decide +kernel⟩, List.mem_of_getElem? (i := 90) (by decide +kernel), List.mem_of_getElem? (i := 327) (by decide +kernel), List.mem_of_getElem? (i := 328) (by decide +kernel)⟩
theorem lw_p6 : lw_okq (⟨"FrameCollapse$Motions", "groupShifts", "(LFrameCollapse$Frame;IZ)Z"⟩, 7) := ⟨⟨by decide +kernel, by decide +kernel⟩, List.mem_of_getElem? (i := 90) (by decide +kernel), List.mem_of_getElem? (i := 335) (by decide +kernel), List.mem_of_getElem? (i := 336) (by decide +kernel)⟩
theorem lw_p7 : lw_okq (⟨"FrameCollapse$Motions", "addShift", "(LFrameCollapse$Frame;IZ)V"⟩, 7) := ⟨⟨by decide +kernel, by decide +kernel⟩, List.mem_of_getElem? (i := 90) (by decide +kernel), List.mem_of_getElem? (i := 343) (by decide +kernel), List.mem_of_getElem? (i := 344) (by decide +kernel)⟩
theorem lw_p8 : lw_okq (⟨"FrameCollapse$Motions", "addTurns", "(LFrameCollapse$Frame;)V"⟩, 7) := ⟨⟨by decide +kernel, by decide +kernel⟩, List.mem_of_getElem? (i := 90) (by decide +kernel), List.mem_of_getElem? (i := 352) (by decide +kernel), List.mem_of_getElem? (i := 353) (by decide +kernel)⟩
theorem lw_p9 : lw_okq (⟨"FrameCollapse$Motions", "simplify", "([J)V"⟩, 7) := ⟨⟨by decide +kernel, by decide +kernel⟩, List.mem_of_getElem? (i := 90) (by decide +kernel), List.mem_of_getElem? (i := 360) (by decide +kernel), List.mem_of_getElem? (i := 361) (by decide +kernel)⟩
theorem lw_p10 : lw_okq (⟨"FrameCollapse$Motions", "reduceRows", "()V"⟩, 7) := ⟨⟨by decide +kernel, by decide +kernel⟩, List.mem_of_getElem? (i := 90) (by decide +kernel), List.mem_of_getElem? (i := 374) (by decide +kernel), List.mem_of_getElem? (i := 375) (by decide +kernel)⟩
theorem lw_p11 : lw_okq (⟨"FrameCollapse$Motions", "swapRows", "(II)V"⟩, 7) := ⟨⟨by decide +kernel, by decide +kernel⟩, List.mem_of_getElem? (i := 90) (by decide +kernel), List.mem_of_getElem? (i := 382) (by decide +kernel), List.mem_of_getElem? (i := 383) (by decide +kernel)⟩
theorem lw_p12 : lw_okq (⟨"FrameCollapse$Mechanisms", "search", "(IIII)V"⟩, 4) := ⟨⟨by decide +kernel, by decide +kernel⟩, List.mem_of_getElem? (i := 84) (by decide +kernel), List.mem_of_getElem? (i := 398) (by decide +kernel), List.mem_of_getElem? (i := 399) (by decide +kernel)⟩
theorem lw_p13 : lw_okq (⟨"FrameCollapse$Mechanisms", "keep", "([J)V"⟩, 4) := ⟨⟨by decide +kernel, by decide +kernel⟩, List.mem_of_getElem? (i := 84) (by decide +kernel), List.mem_of_getElem? (i := 402) (by decide +kernel), List.mem_of_getElem? (i := 403) (by decide +kernel)⟩
theorem lw_p14 : lw_okq (⟨"FrameCollapse$Mechanisms", "allTwist", "(III)Z"⟩, 4) := ⟨⟨by decide +kernel, by decide +kernel⟩, List.mem_of_getElem? (i := 84) (by decide +kernel), List.mem_of_getElem? (i := 413) (by decide +kernel), List.mem_of_getElem? (i := 414) (by decide +kernel)⟩
theorem lw_p15 : lw_okq (⟨"FrameCollapse", "isLoose", "()Z"⟩, 9) := ⟨⟨by decide +kernel, by decide +kernel⟩, List.mem_of_getElem? (i := 15) (by decide +kernel), List.mem_of_getElem? (i := 433) (by decide +kernel), List.mem_of_getElem? (i := 434) (by decide +kernel)⟩
def lw_privs_1 : List (MethodName × Nat) := [(⟨"FrameCollapse", "forgetShape", "()V"⟩, 9), (⟨"FrameCollapse", "isNode", "(I)Z"⟩, 9), (⟨"FrameCollapse", "isBar", "(I)Z"⟩, 9), (⟨"FrameCollapse", "refresh", "()V"⟩, 9), (⟨"FrameCollapse$Motions", "addShifts", "(LFrameCollapse$Frame;Z)V"⟩, 7), (⟨"FrameCollapse$Motions", "joinGroups", "(LFrameCollapse$Frame;Z)V"⟩, 7), (⟨"FrameCollapse$Motions", "groupShifts", "(LFrameCollapse$Frame;IZ)Z"⟩, 7), (⟨"FrameCollapse$Motions", "addShift", "(LFrameCollapse$Frame;IZ)V"⟩, 7), (⟨"FrameCollapse$Motions", "addTurns", "(LFrameCollapse$Frame;)V"⟩, 7), (⟨"FrameCollapse$Motions", "simplify", "([J)V"⟩, 7), (⟨"FrameCollapse$Motions", "reduceRows", "()V"⟩, 7), (⟨"FrameCollapse$Motions", "swapRows", "(II)V"⟩, 7), (⟨"FrameCollapse$Mechanisms", "search", "(IIII)V"⟩, 4), (⟨"FrameCollapse$Mechanisms", "keep", "([J)V"⟩, 4), (⟨"FrameCollapse$Mechanisms", "allTwist", "(III)Z"⟩, 4), (⟨"FrameCollapse", "isLoose", "()Z"⟩, 9)]
theorem lw_r1 : ∀ q ∈ lw_privs_1, lw_okq q := List.forall_mem_cons.mpr ⟨lw_p0, List.forall_mem_cons.mpr ⟨lw_p1, List.forall_mem_cons.mpr ⟨lw_p2, List.forall_mem_cons.mpr ⟨lw_p3, List.forall_mem_cons.mpr ⟨lw_p4, List.forall_mem_cons.mpr ⟨lw_p5, List.forall_mem_cons.mpr ⟨lw_p6, List.forall_mem_cons.mpr ⟨lw_p7, List.forall_mem_cons.mpr ⟨lw_p8, List.forall_mem_cons.mpr ⟨lw_p9, List.forall_mem_cons.mpr ⟨lw_p10, List.forall_mem_cons.mpr ⟨lw_p11, List.forall_mem_cons.mpr ⟨lw_p12, List.forall_mem_cons.mpr ⟨lw_p13, List.forall_mem_cons.mpr ⟨lw_p14, List.forall_mem_cons.mpr ⟨lw_p15, fun _ h => absurd h List.not_mem_nil⟩⟩⟩⟩⟩⟩⟩⟩⟩⟩⟩⟩⟩⟩⟩⟩
theorem lw_p16 : lw_okq (⟨"FrameCollapse", "selfStressCount", "()I"⟩, 9) := ⟨⟨by decide +kernel, by decide +kernel⟩, List.mem_of_getElem? (i := 15) (by decide +kernel), List.mem_of_getElem? (i := 438) (by decide +kernel), List.mem_of_getElem? (i := 439) (by decide +kernel)⟩
theorem lw_p17 : lw_okq (⟨"FrameCollapse", "isMechanism", "(I)Z"⟩, 9) := ⟨⟨by decide +kernel, by decide +kernel⟩, List.mem_of_getElem? (i := 15) (by decide +kernel), List.mem_of_getElem? (i := 452) (by decide +kernel), List.mem_of_getElem? (i := 453) (by decide +kernel)⟩
theorem lw_p18 : lw_okq (⟨"FrameCollapse", "isEnd", "(I)Z"⟩, 9) := ⟨⟨by decide +kernel, by decide +kernel⟩, List.mem_of_getElem? (i := 15) (by decide +kernel), List.mem_of_getElem? (i := 462) (by decide +kernel), List.mem_of_getElem? (i := 463) (by decide +kernel)⟩
theorem lw_p19 : lw_okq (⟨"FrameCollapse$Balance", "lower", "(ZJJ)V"⟩, 12) := ⟨⟨by decide +kernel, by decide +kernel⟩, List.mem_of_getElem? (i := 78) (by decide +kernel), List.mem_of_getElem? (i := 519) (by decide +kernel), List.mem_of_getElem? (i := 520) (by decide +kernel)⟩
theorem lw_p20 : lw_okq (⟨"FrameCollapse$Balance", "raise", "(ZJJ)V"⟩, 12) := ⟨⟨by decide +kernel, by decide +kernel⟩, List.mem_of_getElem? (i := 78) (by decide +kernel), List.mem_of_getElem? (i := 534) (by decide +kernel), List.mem_of_getElem? (i := 535) (by decide +kernel)⟩
theorem lw_p21 : lw_okq (⟨"FrameCollapse", "limitError", "(II)I"⟩, 9) := ⟨⟨by decide +kernel, by decide +kernel⟩, List.mem_of_getElem? (i := 15) (by decide +kernel), List.mem_of_getElem? (i := 542) (by decide +kernel), List.mem_of_getElem? (i := 543) (by decide +kernel)⟩
theorem lw_p22 : lw_okq (⟨"FrameCollapse$Balance", "limitWork", "(I)J"⟩, 12) := ⟨⟨by decide +kernel, by decide +kernel⟩, List.mem_of_getElem? (i := 78) (by decide +kernel), List.mem_of_getElem? (i := 582) (by decide +kernel), List.mem_of_getElem? (i := 583) (by decide +kernel)⟩
theorem lw_p23 : lw_okq (⟨"FrameCollapse$Balance", "isCritical", "(I)Z"⟩, 12) := ⟨⟨by decide +kernel, by decide +kernel⟩, List.mem_of_getElem? (i := 78) (by decide +kernel), List.mem_of_getElem? (i := 607) (by decide +kernel), List.mem_of_getElem? (i := 608) (by decide +kernel)⟩
theorem lw_p24 : lw_okq (⟨"FrameCollapseModel", "forget", "()V"⟩, 53) := ⟨⟨by decide +kernel, by decide +kernel⟩, List.mem_of_getElem? (i := 650) (by decide +kernel), List.mem_of_getElem? (i := 824) (by decide +kernel), List.mem_of_getElem? (i := 825) (by decide +kernel)⟩
theorem lw_p25 : lw_okq (⟨"FrameCollapseModel", "isNode", "(I)Z"⟩, 53) := ⟨⟨by decide +kernel, by decide +kernel⟩, List.mem_of_getElem? (i := 650) (by decide +kernel), List.mem_of_getElem? (i := 832) (by decide +kernel), List.mem_of_getElem? (i := 833) (by decide +kernel)⟩
theorem lw_p26 : lw_okq (⟨"FrameCollapseModel", "isBar", "(I)Z"⟩, 53) := ⟨⟨by decide +kernel, by decide +kernel⟩, List.mem_of_getElem? (i := 650) (by decide +kernel), List.mem_of_getElem? (i := 844) (by decide +kernel), List.mem_of_getElem? (i := 845) (by decide +kernel)⟩
theorem lw_p27 : lw_okq (⟨"FrameCollapseModel", "length", "(I)I"⟩, 53) := ⟨⟨by decide +kernel, by decide +kernel⟩, List.mem_of_getElem? (i := 650) (by decide +kernel), List.mem_of_getElem? (i := 864) (by decide +kernel), List.mem_of_getElem? (i := 865) (by decide +kernel)⟩
theorem lw_p28 : lw_okq (⟨"FrameCollapseModel", "lies", "(I)Z"⟩, 53) := ⟨⟨by decide +kernel, by decide +kernel⟩, List.mem_of_getElem? (i := 650) (by decide +kernel), List.mem_of_getElem? (i := 868) (by decide +kernel), List.mem_of_getElem? (i := 869) (by decide +kernel)⟩
theorem lw_p29 : lw_okq (⟨"FrameCollapseModel", "isLoose", "()Z"⟩, 53) := ⟨⟨by decide +kernel, by decide +kernel⟩, List.mem_of_getElem? (i := 650) (by decide +kernel), List.mem_of_getElem? (i := 876) (by decide +kernel), List.mem_of_getElem? (i := 877) (by decide +kernel)⟩
theorem lw_p30 : lw_okq (⟨"FrameCollapseModel", "layNumbers", "()V"⟩, 53) := ⟨⟨by decide +kernel, by decide +kernel⟩, List.mem_of_getElem? (i := 650) (by decide +kernel), List.mem_of_getElem? (i := 880) (by decide +kernel), List.mem_of_getElem? (i := 881) (by decide +kernel)⟩
theorem lw_p31 : lw_okq (⟨"FrameCollapseModel", "join", "(I)V"⟩, 53) := ⟨⟨by decide +kernel, by decide +kernel⟩, List.mem_of_getElem? (i := 650) (by decide +kernel), List.mem_of_getElem? (i := 884) (by decide +kernel), List.mem_of_getElem? (i := 885) (by decide +kernel)⟩
def lw_privs_2 : List (MethodName × Nat) := [(⟨"FrameCollapse", "selfStressCount", "()I"⟩, 9), (⟨"FrameCollapse", "isMechanism", "(I)Z"⟩, 9), (⟨"FrameCollapse", "isEnd", "(I)Z"⟩, 9), (⟨"FrameCollapse$Balance", "lower", "(ZJJ)V"⟩, 12), (⟨"FrameCollapse$Balance", "raise", "(ZJJ)V"⟩, 12), (⟨"FrameCollapse", "limitError", "(II)I"⟩, 9), (⟨"FrameCollapse$Balance", "limitWork", "(I)J"⟩, 12), (⟨"FrameCollapse$Balance", "isCritical", "(I)Z"⟩, 12), (⟨"FrameCollapseModel", "forget", "()V"⟩, 53), (⟨"FrameCollapseModel", "isNode", "(I)Z"⟩, 53), (⟨"FrameCollapseModel", "isBar", "(I)Z"⟩, 53), (⟨"FrameCollapseModel", "length", "(I)I"⟩, 53), (⟨"FrameCollapseModel", "lies", "(I)Z"⟩, 53), (⟨"FrameCollapseModel", "isLoose", "()Z"⟩, 53), (⟨"FrameCollapseModel", "layNumbers", "()V"⟩, 53), (⟨"FrameCollapseModel", "join", "(I)V"⟩, 53)]
theorem lw_r2 : ∀ q ∈ lw_privs_2, lw_okq q := List.forall_mem_cons.mpr ⟨lw_p16, List.forall_mem_cons.mpr ⟨lw_p17, List.forall_mem_cons.mpr ⟨lw_p18, List.forall_mem_cons.mpr ⟨lw_p19, List.forall_mem_cons.mpr ⟨lw_p20, List.forall_mem_cons.mpr ⟨lw_p21, List.forall_mem_cons.mpr ⟨lw_p22, List.forall_mem_cons.mpr ⟨lw_p23, List.forall_mem_cons.mpr ⟨lw_p24, List.forall_mem_cons.mpr ⟨lw_p25, List.forall_mem_cons.mpr ⟨lw_p26, List.forall_mem_cons.mpr ⟨lw_p27, List.forall_mem_cons.mpr ⟨lw_p28, List.forall_mem_cons.mpr ⟨lw_p29, List.forall_mem_cons.mpr ⟨lw_p30, List.forall_mem_cons.mpr ⟨lw_p31, fun _ h => absurd h List.not_mem_nil⟩⟩⟩⟩⟩⟩⟩⟩⟩⟩⟩⟩⟩⟩⟩⟩
theorem lw_p32 : lw_okq (⟨"FrameCollapseModel", "isHeld", "(II)Z"⟩, 53) := ⟨⟨by decide +kernel, by decide +kernel⟩, List.mem_of_getElem? (i := 650) (by decide +kernel), List.mem_of_getElem? (i := 888) (by decide +kernel), List.mem_of_getElem? (i := 889) (by decide +kernel)⟩
theorem lw_p33 : lw_okq (⟨"FrameCollapseModel", "layRows", "()V"⟩, 53) := ⟨⟨by decide +kernel, by decide +kernel⟩, List.mem_of_getElem? (i := 650) (by decide +kernel), List.mem_of_getElem? (i := 892) (by decide +kernel), List.mem_of_getElem? (i := 893) (by decide +kernel)⟩
theorem lw_p34 : lw_okq (⟨"FrameCollapseModel", "addTo", "(IIII)V"⟩, 53) := ⟨⟨by decide +kernel, by decide +kernel⟩, List.mem_of_getElem? (i := 650) (by decide +kernel), List.mem_of_getElem? (i := 896) (by decide +kernel), List.mem_of_getElem? (i := 897) (by decide +kernel)⟩
theorem lw_p35 : lw_okq (⟨"FrameCollapseModel", "layRank", "()V"⟩, 53) := ⟨⟨by decide +kernel, by decide +kernel⟩, List.mem_of_getElem? (i := 650) (by decide +kernel), List.mem_of_getElem? (i := 900) (by decide +kernel), List.mem_of_getElem? (i := 901) (by decide +kernel)⟩
theorem lw_p36 : lw_okq (⟨"FrameCollapseModel", "isPut", "(II)Z"⟩, 53) := ⟨⟨by decide +kernel, by decide +kernel⟩, List.mem_of_getElem? (i := 650) (by decide +kernel), List.mem_of_getElem? (i := 904) (by decide +kernel), List.mem_of_getElem? (i := 905) (by decide +kernel)⟩
theorem lw_p37 : lw_okq (⟨"FrameCollapseModel", "shorten", "(I)V"⟩, 53) := ⟨⟨by decide +kernel, by decide +kernel⟩, List.mem_of_getElem? (i := 650) (by decide +kernel), List.mem_of_getElem? (i := 908) (by decide +kernel), List.mem_of_getElem? (i := 909) (by decide +kernel)⟩
theorem lw_p38 : lw_okq (⟨"FrameCollapseModel", "layMechanisms", "()V"⟩, 53) := ⟨⟨by decide +kernel, by decide +kernel⟩, List.mem_of_getElem? (i := 650) (by decide +kernel), List.mem_of_getElem? (i := 915) (by decide +kernel), List.mem_of_getElem? (i := 916) (by decide +kernel)⟩
theorem lw_p39 : lw_okq (⟨"FrameCollapseModel", "keepWay", "(I)V"⟩, 53) := ⟨⟨by decide +kernel, by decide +kernel⟩, List.mem_of_getElem? (i := 650) (by decide +kernel), List.mem_of_getElem? (i := 919) (by decide +kernel), List.mem_of_getElem? (i := 920) (by decide +kernel)⟩
theorem lw_p40 : lw_okq (⟨"FrameCollapseModel", "layWay", "(I)V"⟩, 53) := ⟨⟨by decide +kernel, by decide +kernel⟩, List.mem_of_getElem? (i := 650) (by decide +kernel), List.mem_of_getElem? (i := 923) (by decide +kernel), List.mem_of_getElem? (i := 924) (by decide +kernel)⟩
theorem lw_p41 : lw_okq (⟨"FrameCollapseModel", "twistBy", "([JII)J"⟩, 53) := ⟨⟨by decide +kernel, by decide +kernel⟩, List.mem_of_getElem? (i := 650) (by decide +kernel), List.mem_of_getElem? (i := 927) (by decide +kernel), List.mem_of_getElem? (i := 928) (by decide +kernel)⟩
theorem lw_p42 : lw_okq (⟨"FrameCollapseModel", "restful", "()I"⟩, 53) := ⟨⟨by decide +kernel, by decide +kernel⟩, List.mem_of_getElem? (i := 650) (by decide +kernel), List.mem_of_getElem? (i := 931) (by decide +kernel), List.mem_of_getElem? (i := 932) (by decide +kernel)⟩
theorem lw_p43 : lw_okq (⟨"FrameCollapseModel", "isEnd", "(I)Z"⟩, 53) := ⟨⟨by decide +kernel, by decide +kernel⟩, List.mem_of_getElem? (i := 650) (by decide +kernel), List.mem_of_getElem? (i := 945) (by decide +kernel), List.mem_of_getElem? (i := 946) (by decide +kernel)⟩
theorem lw_p44 : lw_okq (⟨"FrameCollapseModel", "layOne", "(I)V"⟩, 53) := ⟨⟨by decide +kernel, by decide +kernel⟩, List.mem_of_getElem? (i := 650) (by decide +kernel), List.mem_of_getElem? (i := 950) (by decide +kernel), List.mem_of_getElem? (i := 951) (by decide +kernel)⟩
theorem lw_p45 : lw_okq (⟨"FrameCollapseModel", "goes", "(III)J"⟩, 53) := ⟨⟨by decide +kernel, by decide +kernel⟩, List.mem_of_getElem? (i := 650) (by decide +kernel), List.mem_of_getElem? (i := 955) (by decide +kernel), List.mem_of_getElem? (i := 956) (by decide +kernel)⟩
theorem lw_p46 : lw_okq (⟨"FrameCollapseModel", "limitOf", "(I)I"⟩, 53) := ⟨⟨by decide +kernel, by decide +kernel⟩, List.mem_of_getElem? (i := 650) (by decide +kernel), List.mem_of_getElem? (i := 974) (by decide +kernel), List.mem_of_getElem? (i := 975) (by decide +kernel)⟩
theorem lw_p47 : lw_okq (⟨"FrameCollapseModel", "lookFor", "(I)I"⟩, 53) := ⟨⟨by decide +kernel, by decide +kernel⟩, List.mem_of_getElem? (i := 650) (by decide +kernel), List.mem_of_getElem? (i := 978) (by decide +kernel), List.mem_of_getElem? (i := 979) (by decide +kernel)⟩
def lw_privs_3 : List (MethodName × Nat) := [(⟨"FrameCollapseModel", "isHeld", "(II)Z"⟩, 53), (⟨"FrameCollapseModel", "layRows", "()V"⟩, 53), (⟨"FrameCollapseModel", "addTo", "(IIII)V"⟩, 53), (⟨"FrameCollapseModel", "layRank", "()V"⟩, 53), (⟨"FrameCollapseModel", "isPut", "(II)Z"⟩, 53), (⟨"FrameCollapseModel", "shorten", "(I)V"⟩, 53), (⟨"FrameCollapseModel", "layMechanisms", "()V"⟩, 53), (⟨"FrameCollapseModel", "keepWay", "(I)V"⟩, 53), (⟨"FrameCollapseModel", "layWay", "(I)V"⟩, 53), (⟨"FrameCollapseModel", "twistBy", "([JII)J"⟩, 53), (⟨"FrameCollapseModel", "restful", "()I"⟩, 53), (⟨"FrameCollapseModel", "isEnd", "(I)Z"⟩, 53), (⟨"FrameCollapseModel", "layOne", "(I)V"⟩, 53), (⟨"FrameCollapseModel", "goes", "(III)J"⟩, 53), (⟨"FrameCollapseModel", "limitOf", "(I)I"⟩, 53), (⟨"FrameCollapseModel", "lookFor", "(I)I"⟩, 53)]
theorem lw_r3 : ∀ q ∈ lw_privs_3, lw_okq q := List.forall_mem_cons.mpr ⟨lw_p32, List.forall_mem_cons.mpr ⟨lw_p33, List.forall_mem_cons.mpr ⟨lw_p34, List.forall_mem_cons.mpr ⟨lw_p35, List.forall_mem_cons.mpr ⟨lw_p36, List.forall_mem_cons.mpr ⟨lw_p37, List.forall_mem_cons.mpr ⟨lw_p38, List.forall_mem_cons.mpr ⟨lw_p39, List.forall_mem_cons.mpr ⟨lw_p40, List.forall_mem_cons.mpr ⟨lw_p41, List.forall_mem_cons.mpr ⟨lw_p42, List.forall_mem_cons.mpr ⟨lw_p43, List.forall_mem_cons.mpr ⟨lw_p44, List.forall_mem_cons.mpr ⟨lw_p45, List.forall_mem_cons.mpr ⟨lw_p46, List.forall_mem_cons.mpr ⟨lw_p47, fun _ h => absurd h List.not_mem_nil⟩⟩⟩⟩⟩⟩⟩⟩⟩⟩⟩⟩⟩⟩⟩⟩
theorem lw_p48 : lw_okq (⟨"FrameCollapseModel", "layRules", "()V"⟩, 53) := ⟨⟨by decide +kernel, by decide +kernel⟩, List.mem_of_getElem? (i := 650) (by decide +kernel), List.mem_of_getElem? (i := 982) (by decide +kernel), List.mem_of_getElem? (i := 983) (by decide +kernel)⟩
theorem lw_p49 : lw_okq (⟨"FrameCollapseModel", "isBorne", "(JJJJ)Z"⟩, 53) := ⟨⟨by decide +kernel, by decide +kernel⟩, List.mem_of_getElem? (i := 650) (by decide +kernel), List.mem_of_getElem? (i := 986) (by decide +kernel), List.mem_of_getElem? (i := 987) (by decide +kernel)⟩
theorem lw_p50 : lw_okq (⟨"FrameCollapseModel", "take", "(JJJJ)V"⟩, 53) := ⟨⟨by decide +kernel, by decide +kernel⟩, List.mem_of_getElem? (i := 650) (by decide +kernel), List.mem_of_getElem? (i := 990) (by decide +kernel), List.mem_of_getElem? (i := 991) (by decide +kernel)⟩
theorem lw_p51 : lw_okq (⟨"FrameCollapseModel", "isSolved", "(I)Z"⟩, 53) := ⟨⟨by decide +kernel, by decide +kernel⟩, List.mem_of_getElem? (i := 650) (by decide +kernel), List.mem_of_getElem? (i := 997) (by decide +kernel), List.mem_of_getElem? (i := 998) (by decide +kernel)⟩
theorem lw_p52 : lw_okq (⟨"FrameCollapseModel", "swap", "(II)V"⟩, 53) := ⟨⟨by decide +kernel, by decide +kernel⟩, List.mem_of_getElem? (i := 650) (by decide +kernel), List.mem_of_getElem? (i := 1001) (by decide +kernel), List.mem_of_getElem? (i := 1002) (by decide +kernel)⟩
theorem lw_p53 : lw_okq (⟨"FrameCollapseModel", "clear", "(II)V"⟩, 53) := ⟨⟨by decide +kernel, by decide +kernel⟩, List.mem_of_getElem? (i := 650) (by decide +kernel), List.mem_of_getElem? (i := 1005) (by decide +kernel), List.mem_of_getElem? (i := 1006) (by decide +kernel)⟩
theorem lw_p54 : lw_okq (⟨"FrameCollapseModel", "begin", "(I)V"⟩, 53) := ⟨⟨by decide +kernel, by decide +kernel⟩, List.mem_of_getElem? (i := 650) (by decide +kernel), List.mem_of_getElem? (i := 1009) (by decide +kernel), List.mem_of_getElem? (i := 1010) (by decide +kernel)⟩
theorem lw_p55 : lw_okq (⟨"FrameCollapseModel", "strengthOf", "(I)J"⟩, 53) := ⟨⟨by decide +kernel, by decide +kernel⟩, List.mem_of_getElem? (i := 650) (by decide +kernel), List.mem_of_getElem? (i := 1013) (by decide +kernel), List.mem_of_getElem? (i := 1014) (by decide +kernel)⟩
theorem lw_p56 : lw_okq (⟨"FrameCollapseModel", "isWithin", "()Z"⟩, 53) := ⟨⟨by decide +kernel, by decide +kernel⟩, List.mem_of_getElem? (i := 650) (by decide +kernel), List.mem_of_getElem? (i := 1017) (by decide +kernel), List.mem_of_getElem? (i := 1018) (by decide +kernel)⟩
theorem lw_p57 : lw_okq (⟨"FrameCollapseModel", "isNext", "()Z"⟩, 53) := ⟨⟨by decide +kernel, by decide +kernel⟩, List.mem_of_getElem? (i := 650) (by decide +kernel), List.mem_of_getElem? (i := 1021) (by decide +kernel), List.mem_of_getElem? (i := 1022) (by decide +kernel)⟩
theorem lw_p58 : lw_okq (⟨"FrameCollapseModel", "takeSide", "(IZJJ)V"⟩, 53) := ⟨⟨by decide +kernel, by decide +kernel⟩, List.mem_of_getElem? (i := 650) (by decide +kernel), List.mem_of_getElem? (i := 1028) (by decide +kernel), List.mem_of_getElem? (i := 1029) (by decide +kernel)⟩
theorem lw_p59 : lw_okq (⟨"FrameCollapseModel", "refusal", "(I)I"⟩, 53) := ⟨⟨by decide +kernel, by decide +kernel⟩, List.mem_of_getElem? (i := 650) (by decide +kernel), List.mem_of_getElem? (i := 1042) (by decide +kernel), List.mem_of_getElem? (i := 1043) (by decide +kernel)⟩
theorem lw_p60 : lw_okq (⟨"FrameCollapseModel", "layMoments", "(II)V"⟩, 53) := ⟨⟨by decide +kernel, by decide +kernel⟩, List.mem_of_getElem? (i := 650) (by decide +kernel), List.mem_of_getElem? (i := 1069) (by decide +kernel), List.mem_of_getElem? (i := 1070) (by decide +kernel)⟩
theorem lw_p61 : lw_okq (⟨"FrameCollapseModel", "takeMoments", "(Z)V"⟩, 53) := ⟨⟨by decide +kernel, by decide +kernel⟩, List.mem_of_getElem? (i := 650) (by decide +kernel), List.mem_of_getElem? (i := 1073) (by decide +kernel), List.mem_of_getElem? (i := 1074) (by decide +kernel)⟩
theorem lw_p62 : lw_okq (⟨"FrameCollapseModel", "takeMoment", "(IZJJ)V"⟩, 53) := ⟨⟨by decide +kernel, by decide +kernel⟩, List.mem_of_getElem? (i := 650) (by decide +kernel), List.mem_of_getElem? (i := 1077) (by decide +kernel), List.mem_of_getElem? (i := 1078) (by decide +kernel)⟩
def lw_privs_4 : List (MethodName × Nat) := [(⟨"FrameCollapseModel", "layRules", "()V"⟩, 53), (⟨"FrameCollapseModel", "isBorne", "(JJJJ)Z"⟩, 53), (⟨"FrameCollapseModel", "take", "(JJJJ)V"⟩, 53), (⟨"FrameCollapseModel", "isSolved", "(I)Z"⟩, 53), (⟨"FrameCollapseModel", "swap", "(II)V"⟩, 53), (⟨"FrameCollapseModel", "clear", "(II)V"⟩, 53), (⟨"FrameCollapseModel", "begin", "(I)V"⟩, 53), (⟨"FrameCollapseModel", "strengthOf", "(I)J"⟩, 53), (⟨"FrameCollapseModel", "isWithin", "()Z"⟩, 53), (⟨"FrameCollapseModel", "isNext", "()Z"⟩, 53), (⟨"FrameCollapseModel", "takeSide", "(IZJJ)V"⟩, 53), (⟨"FrameCollapseModel", "refusal", "(I)I"⟩, 53), (⟨"FrameCollapseModel", "layMoments", "(II)V"⟩, 53), (⟨"FrameCollapseModel", "takeMoments", "(Z)V"⟩, 53), (⟨"FrameCollapseModel", "takeMoment", "(IZJJ)V"⟩, 53)]
theorem lw_r4 : ∀ q ∈ lw_privs_4, lw_okq q := List.forall_mem_cons.mpr ⟨lw_p48, List.forall_mem_cons.mpr ⟨lw_p49, List.forall_mem_cons.mpr ⟨lw_p50, List.forall_mem_cons.mpr ⟨lw_p51, List.forall_mem_cons.mpr ⟨lw_p52, List.forall_mem_cons.mpr ⟨lw_p53, List.forall_mem_cons.mpr ⟨lw_p54, List.forall_mem_cons.mpr ⟨lw_p55, List.forall_mem_cons.mpr ⟨lw_p56, List.forall_mem_cons.mpr ⟨lw_p57, List.forall_mem_cons.mpr ⟨lw_p58, List.forall_mem_cons.mpr ⟨lw_p59, List.forall_mem_cons.mpr ⟨lw_p60, List.forall_mem_cons.mpr ⟨lw_p61, List.forall_mem_cons.mpr ⟨lw_p62, fun _ h => absurd h List.not_mem_nil⟩⟩⟩⟩⟩⟩⟩⟩⟩⟩⟩⟩⟩⟩⟩
def lw_privs : List (MethodName × Nat) := lw_privs_1 ++ (lw_privs_2 ++ (lw_privs_3 ++ (lw_privs_4)))
def lw_tbl : List Cond := k2_sels lw_privs ++ tables_1
theorem lw_privs_ok : ∀ q ∈ lw_privs, lw_okq q := by
  show ∀ q ∈ lw_privs_1 ++ (lw_privs_2 ++ (lw_privs_3 ++ (lw_privs_4))), lw_okq q
  exact List.forall_mem_append.mpr ⟨lw_r1, List.forall_mem_append.mpr ⟨lw_r2, List.forall_mem_append.mpr ⟨lw_r3, lw_r4⟩⟩⟩
/-- the streams that the claim lets the run draw from -/
abbrev lw_cs : List Choice := [Jvm.Choice.named "NaN.bits"]
theorem lw_bits : nanBits ∈ lw_cs := by first | decide | exact List.mem_cons_self | simp [lw_cs, nanBits]
/-! ===== BEGIN words of one list among another's, by their places ===== -/
theorem goodIn_r {big : List Cond} (ws : List Cond) (ps : List Nat) (hp : ws = ps.filterMap (fun i => big[i]?)) (h : ws.all goodWord = true) : GoodIn big ws := by
  intro w hw
  have h1 := List.all_eq_true.mp h w hw
  rw [hp] at hw
  obtain ⟨i, -, hi⟩ := List.mem_filterMap.mp hw
  have hm : w ∈ big := by first | exact List.mem_of_getElem? hi | exact List.getElem?_mem hi
  exact ⟨hm, good_of_word h1⟩
theorem goodIn_app {big a b : List Cond} (ha : GoodIn big a) (hb : GoodIn big b) : GoodIn big (a ++ b) := fun w h => (List.mem_append.mp h).elim (ha w) (hb w)
theorem goodIn_ca {big a b : List Cond} {c : Cond} (ha : GoodIn big (c :: a)) (hb : GoodIn big b) : GoodIn big (c :: (a ++ b)) := fun w h => (List.mem_cons.mp h).elim (fun e => ha w (List.mem_cons.mpr (Or.inl e))) (fun h => (List.mem_append.mp h).elim (fun h => ha w (List.mem_cons.mpr (Or.inr h))) (hb w))
theorem goodIn_sub {big ws : List Cond} (hm : ∀ w ∈ ws, w ∈ big) (h : ws.all goodWord = true) : GoodIn big ws := fun w hw => ⟨hm w hw, good_of_word (List.all_eq_true.mp h w hw)⟩
/-! ===== END ===== -/

/-! ===== BEGIN new T[n][m]: the outer array a place, the inner ones among the pooled ===== -/
/-- f, but v at every address of l -/
def vr_up {α : Type} (f : Nat → α) (l : List Nat) (v : α) : Nat → α := fun a => if a ∈ l then v else f a
theorem vr_up_in {α : Type} {f : Nat → α} {l : List Nat} {v : α} {a : Nat} (h : a ∈ l) : vr_up f l v a = v := if_pos h
theorem vr_up_ne {α : Type} {f : Nat → α} {l : List Nat} {v : α} {a : Nat} (h : a ∉ l) : vr_up f l v a = f a := if_neg h
theorem vr_rows {L l : List Nat} {f : Nat → va_E} {e : va_E} (h : ∀ a, a ∈ l → a ∉ L) : va_pl L f ++ l.map (fun a => (a, e)) = va_pl (L ++ l) (vr_up f l e) := by
  unfold va_pl
  rw [List.map_append]
  congr 1
  · apply List.map_congr_left
    intro a ha
    rw [vr_up_ne (fun q => h a q ha)]
  · apply List.map_congr_left
    intro a ha
    rw [vr_up_in ha]
theorem vr_lay {X rows : va_W} {x : Nat × va_E} {pl : va_W} {D : va_G} {cl : List vw_C} {H : Heap} (hP : va_P D cl (((X ++ pl) ++ [x]) ++ rows) H) : va_P D cl ((X ++ [x]) ++ (pl ++ rows)) H := by
  rw [List.append_assoc (X ++ pl)] at hP
  have h := va_P.swap hP
  rw [← List.append_assoc X] at h
  have h2 := va_P.swap h
  rw [List.append_assoc (X ++ [x])] at h2
  exact h2
theorem vr_layD {X rows : va_W} {x : Nat × va_E} {pl : va_W} {A : Nat → Prop} (hD : va_D A (((X ++ pl) ++ [x]) ++ rows)) : va_D A ((X ++ [x]) ++ (pl ++ rows)) := by
  rw [List.append_assoc (X ++ pl)] at hD
  have h := va_D.swap hD
  rw [← List.append_assoc X] at h
  have h2 := va_D.swap h
  rw [List.append_assoc (X ++ [x])] at h2
  exact h2
theorem vr_outer (c : ClassId) (N h0 : Nat) : ∀ i : Nat, Jvm.Free.Multi.outerC c N h0 i = arrV c N (fun j => va_rf (if j < i then some (h0 + 1 + j) else none))
  | 0 => by
    show ({ cls := c, slots := Array.replicate N .null, vm := .none } : Cell) = _
    rw [arrV_new]
    refine congrArg (arrV c N) (funext fun j => ?_)
    simp [va_rf]
  | i + 1 => by
    show (Jvm.Free.Multi.outerC c N h0 i).setSlot i (.ref (h0 + 1 + i)) = _
    rw [vr_outer c N h0 i, arrV_store]
    refine congrArg (arrV c N) (funext fun j => ?_)
    by_cases e : j = i
    · subst e
      simp [updV, va_rf]
    · by_cases h : j < i
      · simp [updV, e, h, Nat.lt_succ_of_lt h]
      · simp [updV, e, h, show ¬ j < i + 1 by omega]
/-! ===== BEGIN printed: names, fields, word lists, decode rows ===== -/
def RX0 : String := "FrameCollapse$Balance"
def TX0 : u_T := fun k => match k with
  | 0 => ("FrameCollapse$Balance", "mechanisms", "LFrameCollapse$Mechanisms;", true)
  | 1 => ("FrameCollapse$Balance", "strength", "[I", true)
  | 2 => ("FrameCollapse$Balance", "bars", "I", false)
  | 3 => ("FrameCollapse$Balance", "work", "[[J", true)
  | 4 => ("FrameCollapse$Balance", "strain", "[J", true)
  | 5 => ("FrameCollapse$Balance", "greatest", "LFrameCollapse$Fraction;", true)
  | 6 => ("FrameCollapse$Balance", "least", "LFrameCollapse$Fraction;", true)
  | 7 => ("FrameCollapse$Balance", "candidate", "LFrameCollapse$Fraction;", true)
  | 8 => ("FrameCollapse$Balance", "now", "LFrameCollapse$Fraction;", true)
  | 9 => ("FrameCollapse$Balance", "limitCase", "I", false)
  | 10 => ("FrameCollapse$Balance", "limitOne", "J", false)
  | _ => ("FrameCollapse$Balance", "limitUnit", "J", false)
def tyX0 : Nat → FieldType := fun k => match k with
  | 0 => .object "FrameCollapse$Mechanisms"
  | 1 => .array .int
  | 2 => .int
  | 3 => .array (.array .long)
  | 4 => .array .long
  | 5 => .object "FrameCollapse$Fraction"
  | 6 => .object "FrameCollapse$Fraction"
  | 7 => .object "FrameCollapse$Fraction"
  | 8 => .object "FrameCollapse$Fraction"
  | 9 => .int
  | 10 => .long
  | _ => .long
abbrev wsX00 : List Cond := u_ws RX0 TX0 12
theorem nmX0 : ∀ a, a < 12 → ∀ b, b < 12 → a ≠ b → (TX0 a).2.1 ≠ (TX0 b).2.1 := by decide +kernel
theorem tyX0_ok : ∀ k, k < 12 → parseFieldDescriptor (TX0 k).2.2.1 = some (tyX0 k) := by decide +kernel
abbrev cX0_init : ByteArray := prog_2_method_1_code
def yX0_init : MethodName := ⟨RX0, "<init>", "()V"⟩
abbrev cX0_weigh : ByteArray := prog_2_method_2_code
def yX0_weigh : MethodName := ⟨RX0, "weigh", "(LFrameCollapse$Frame;)V"⟩
abbrev cX0_limit : ByteArray := prog_2_method_3_code
def yX0_limit : MethodName := ⟨RX0, "limit", "(I)LFrameCollapse$Fraction;"⟩
abbrev cX0_extreme : ByteArray := prog_2_method_4_code
def yX0_extreme : MethodName := ⟨RX0, "extreme", "(I)J"⟩
abbrev cX0_findBounds : ByteArray := prog_2_method_5_code
def yX0_findBounds : MethodName := ⟨RX0, "findBounds", "(II)Z"⟩
abbrev cX0_range : ByteArray := prog_2_method_6_code
def yX0_range : MethodName := ⟨RX0, "range", "(III)I"⟩
abbrev cX0_lower : ByteArray := prog_2_method_7_code
def yX0_lower : MethodName := ⟨RX0, "lower", "(ZJJ)V"⟩
abbrev cX0_raise : ByteArray := prog_2_method_8_code
def yX0_raise : MethodName := ⟨RX0, "raise", "(ZJJ)V"⟩
abbrev cX0_carries : ByteArray := prog_2_method_9_code
def yX0_carries : MethodName := ⟨RX0, "carries", "(III)Z"⟩
abbrev cX0_takeLimitLoads : ByteArray := prog_2_method_10_code
def yX0_takeLimitLoads : MethodName := ⟨RX0, "takeLimitLoads", "(II)V"⟩
abbrev cX0_limitWork : ByteArray := prog_2_method_11_code
def yX0_limitWork : MethodName := ⟨RX0, "limitWork", "(I)J"⟩
abbrev cX0_findMoments : ByteArray := prog_2_method_12_code
def yX0_findMoments : MethodName := ⟨RX0, "findMoments", "(I)V"⟩
abbrev cX0_yieldingEnds : ByteArray := prog_2_method_13_code
def yX0_yieldingEnds : MethodName := ⟨RX0, "yieldingEnds", "()I"⟩
abbrev cX0_isCritical : ByteArray := prog_2_method_14_code
def yX0_isCritical : MethodName := ⟨RX0, "isCritical", "(I)Z"⟩
abbrev cX0_criticalCount : ByteArray := prog_2_method_15_code
def yX0_criticalCount : MethodName := ⟨RX0, "criticalCount", "()I"⟩
abbrev cX0_lowestCritical : ByteArray := prog_2_method_16_code
def yX0_lowestCritical : MethodName := ⟨RX0, "lowestCritical", "()I"⟩
abbrev cX0_spareStrength : ByteArray := prog_2_method_17_code
def yX0_spareStrength : MethodName := ⟨RX0, "spareStrength", "(II)I"⟩
abbrev cX0_weakestBar : ByteArray := prog_2_method_18_code
def yX0_weakestBar : MethodName := ⟨RX0, "weakestBar", "(I)I"⟩
def RX1 : String := "FrameCollapse$Fraction"
def TX1 : u_T := fun k => match k with
  | 0 => ("FrameCollapse$Fraction", "top", "J", false)
  | _ => ("FrameCollapse$Fraction", "bottom", "J", false)
def tyX1 : Nat → FieldType := fun k => match k with
  | 0 => .long
  | _ => .long
abbrev wsX10 : List Cond := u_ws RX1 TX1 2
theorem nmX1 : ∀ a, a < 2 → ∀ b, b < 2 → a ≠ b → (TX1 a).2.1 ≠ (TX1 b).2.1 := by decide +kernel
theorem tyX1_ok : ∀ k, k < 2 → parseFieldDescriptor (TX1 k).2.2.1 = some (tyX1 k) := by decide +kernel
abbrev cX1_init : ByteArray := prog_3_method_1_code
def yX1_init : MethodName := ⟨RX1, "<init>", "()V"⟩
abbrev cX1_put : ByteArray := prog_3_method_2_code
def yX1_put : MethodName := ⟨RX1, "put", "(JJ)V"⟩
abbrev cX1_copyFrom : ByteArray := prog_3_method_3_code
def yX1_copyFrom : MethodName := ⟨RX1, "copyFrom", "(LFrameCollapse$Fraction;)V"⟩
abbrev cX1_reduce : ByteArray := prog_3_method_4_code
def yX1_reduce : MethodName := ⟨RX1, "reduce", "()V"⟩
abbrev cX1_isWhole : ByteArray := prog_3_method_5_code
def yX1_isWhole : MethodName := ⟨RX1, "isWhole", "(I)Z"⟩
abbrev cX1_lowestTerm : ByteArray := prog_3_method_6_code
def yX1_lowestTerm : MethodName := ⟨RX1, "lowestTerm", "(I)J"⟩
abbrev cX1_asFloat : ByteArray := prog_3_method_7_code
def yX1_asFloat : MethodName := ⟨RX1, "asFloat", "()F"⟩
abbrev cX1_isBelow : ByteArray := prog_3_method_8_code
def yX1_isBelow : MethodName := ⟨RX1, "isBelow", "(LFrameCollapse$Fraction;)Z"⟩
abbrev cX1_isSame : ByteArray := prog_3_method_9_code
def yX1_isSame : MethodName := ⟨RX1, "isSame", "(LFrameCollapse$Fraction;)Z"⟩
def RX2 : String := "FrameCollapse$Frame"
def TX2 : u_T := fun k => match k with
  | 0 => ("FrameCollapse$Frame", "nodes", "I", false)
  | 1 => ("FrameCollapse$Frame", "bars", "I", false)
  | 2 => ("FrameCollapse$Frame", "x", "[I", true)
  | 3 => ("FrameCollapse$Frame", "y", "[I", true)
  | 4 => ("FrameCollapse$Frame", "kind", "[I", true)
  | 5 => ("FrameCollapse$Frame", "first", "[I", true)
  | 6 => ("FrameCollapse$Frame", "second", "[I", true)
  | 7 => ("FrameCollapse$Frame", "strength", "[I", true)
  | _ => ("FrameCollapse$Frame", "loads", "[[I", true)
def tyX2 : Nat → FieldType := fun k => match k with
  | 0 => .int
  | 1 => .int
  | 2 => .array .int
  | 3 => .array .int
  | 4 => .array .int
  | 5 => .array .int
  | 6 => .array .int
  | 7 => .array .int
  | _ => .array (.array .int)
abbrev wsX20 : List Cond := u_ws RX2 TX2 9
theorem nmX2 : ∀ a, a < 9 → ∀ b, b < 9 → a ≠ b → (TX2 a).2.1 ≠ (TX2 b).2.1 := by decide +kernel
theorem tyX2_ok : ∀ k, k < 9 → parseFieldDescriptor (TX2 k).2.2.1 = some (tyX2 k) := by decide +kernel
abbrev cX2_init : ByteArray := prog_4_method_1_code
def yX2_init : MethodName := ⟨RX2, "<init>", "()V"⟩
abbrev cX2_copyFrom : ByteArray := prog_4_method_2_code
def yX2_copyFrom : MethodName := ⟨RX2, "copyFrom", "(LFrameCollapse$Frame;)V"⟩
abbrev cX2_nodeAt : ByteArray := prog_4_method_3_code
def yX2_nodeAt : MethodName := ⟨RX2, "nodeAt", "(II)Z"⟩
abbrev cX2_addNode : ByteArray := prog_4_method_4_code
def yX2_addNode : MethodName := ⟨RX2, "addNode", "(III)I"⟩
abbrev cX2_canJoin : ByteArray := prog_4_method_5_code
def yX2_canJoin : MethodName := ⟨RX2, "canJoin", "(II)Z"⟩
abbrev cX2_barBetween : ByteArray := prog_4_method_6_code
def yX2_barBetween : MethodName := ⟨RX2, "barBetween", "(II)Z"⟩
abbrev cX2_addBar : ByteArray := prog_4_method_7_code
def yX2_addBar : MethodName := ⟨RX2, "addBar", "(III)I"⟩
abbrev cX2_removeBar : ByteArray := prog_4_method_8_code
def yX2_removeBar : MethodName := ⟨RX2, "removeBar", "(I)I"⟩
abbrev cX2_isVertical : ByteArray := prog_4_method_9_code
def yX2_isVertical : MethodName := ⟨RX2, "isVertical", "(I)Z"⟩
abbrev cX2_length : ByteArray := prog_4_method_10_code
def yX2_length : MethodName := ⟨RX2, "length", "(I)I"⟩
abbrev cX2_loadedNodes : ByteArray := prog_4_method_11_code
def yX2_loadedNodes : MethodName := ⟨RX2, "loadedNodes", "(I)I"⟩
abbrev cX2_shifts : ByteArray := prog_4_method_12_code
def yX2_shifts : MethodName := ⟨RX2, "shifts", "(IZ)Z"⟩
abbrev cX2_turns : ByteArray := prog_4_method_13_code
def yX2_turns : MethodName := ⟨RX2, "turns", "(I)Z"⟩
abbrev cX2_freedoms : ByteArray := prog_4_method_14_code
def yX2_freedoms : MethodName := ⟨RX2, "freedoms", "()I"⟩
def RX3 : String := "FrameCollapse$Mechanisms"
def TX3 : u_T := fun k => match k with
  | 0 => ("FrameCollapse$Mechanisms", "motions", "LFrameCollapse$Motions;", true)
  | 1 => ("FrameCollapse$Mechanisms", "sets", "[I", true)
  | 2 => ("FrameCollapse$Mechanisms", "motionOf", "[[J", true)
  | _ => ("FrameCollapse$Mechanisms", "found", "I", false)
def tyX3 : Nat → FieldType := fun k => match k with
  | 0 => .object "FrameCollapse$Motions"
  | 1 => .array .int
  | 2 => .array (.array .long)
  | _ => .int
abbrev wsX30 : List Cond := u_ws RX3 TX3 4
theorem nmX3 : ∀ a, a < 4 → ∀ b, b < 4 → a ≠ b → (TX3 a).2.1 ≠ (TX3 b).2.1 := by decide +kernel
theorem tyX3_ok : ∀ k, k < 4 → parseFieldDescriptor (TX3 k).2.2.1 = some (tyX3 k) := by decide +kernel
abbrev cX3_init : ByteArray := prog_5_method_1_code
def yX3_init : MethodName := ⟨RX3, "<init>", "()V"⟩
abbrev cX3_find : ByteArray := prog_5_method_2_code
def yX3_find : MethodName := ⟨RX3, "find", "()V"⟩
abbrev cX3_search : ByteArray := prog_5_method_3_code
def yX3_search : MethodName := ⟨RX3, "search", "(IIII)V"⟩
abbrev cX3_allTwist : ByteArray := prog_5_method_4_code
def yX3_allTwist : MethodName := ⟨RX3, "allTwist", "(III)Z"⟩
abbrev cX3_keep : ByteArray := prog_5_method_5_code
def yX3_keep : MethodName := ⟨RX3, "keep", "([J)V"⟩
abbrev cX3_twistOf : ByteArray := prog_5_method_6_code
def yX3_twistOf : MethodName := ⟨RX3, "twistOf", "(II)J"⟩
abbrev cX3_lowestTwist : ByteArray := prog_5_method_7_code
def yX3_lowestTwist : MethodName := ⟨RX3, "lowestTwist", "(I)J"⟩
abbrev cX3_bend : ByteArray := prog_5_method_8_code
def yX3_bend : MethodName := ⟨RX3, "bend", "(II)J"⟩
abbrev cX3_workOf : ByteArray := prog_5_method_9_code
def yX3_workOf : MethodName := ⟨RX3, "workOf", "(ILFrameCollapse$Frame;I)J"⟩
def RX4 : String := "FrameCollapse$Motions"
def TX4 : u_T := fun k => match k with
  | 0 => ("FrameCollapse$Motions", "rows", "[[J", true)
  | 1 => ("FrameCollapse$Motions", "group", "[I", true)
  | 2 => ("FrameCollapse$Motions", "shiftOf", "[[I", true)
  | 3 => ("FrameCollapse$Motions", "size", "I", false)
  | 4 => ("FrameCollapse$Motions", "rank", "I", false)
  | 5 => ("FrameCollapse$Motions", "ends", "I", false)
  | _ => ("FrameCollapse$Motions", "shifts", "I", false)
def tyX4 : Nat → FieldType := fun k => match k with
  | 0 => .array (.array .long)
  | 1 => .array .int
  | 2 => .array (.array .int)
  | 3 => .int
  | 4 => .int
  | 5 => .int
  | _ => .int
abbrev wsX40 : List Cond := u_ws RX4 TX4 7
theorem nmX4 : ∀ a, a < 7 → ∀ b, b < 7 → a ≠ b → (TX4 a).2.1 ≠ (TX4 b).2.1 := by decide +kernel
theorem tyX4_ok : ∀ k, k < 7 → parseFieldDescriptor (TX4 k).2.2.1 = some (tyX4 k) := by decide +kernel
abbrev cX4_init : ByteArray := prog_6_method_1_code
def yX4_init : MethodName := ⟨RX4, "<init>", "()V"⟩
abbrev cX4_looseness : ByteArray := prog_6_method_2_code
def yX4_looseness : MethodName := ⟨RX4, "looseness", "()I"⟩
abbrev cX4_width : ByteArray := prog_6_method_3_code
def yX4_width : MethodName := ⟨RX4, "width", "()I"⟩
abbrev cX4_span : ByteArray := prog_6_method_4_code
def yX4_span : MethodName := ⟨RX4, "span", "(LFrameCollapse$Frame;)V"⟩
abbrev cX4_addShifts : ByteArray := prog_6_method_5_code
def yX4_addShifts : MethodName := ⟨RX4, "addShifts", "(LFrameCollapse$Frame;Z)V"⟩
abbrev cX4_joinGroups : ByteArray := prog_6_method_6_code
def yX4_joinGroups : MethodName := ⟨RX4, "joinGroups", "(LFrameCollapse$Frame;Z)V"⟩
abbrev cX4_groupShifts : ByteArray := prog_6_method_7_code
def yX4_groupShifts : MethodName := ⟨RX4, "groupShifts", "(LFrameCollapse$Frame;IZ)Z"⟩
abbrev cX4_addShift : ByteArray := prog_6_method_8_code
def yX4_addShift : MethodName := ⟨RX4, "addShift", "(LFrameCollapse$Frame;IZ)V"⟩
abbrev cX4_addTurns : ByteArray := prog_6_method_9_code
def yX4_addTurns : MethodName := ⟨RX4, "addTurns", "(LFrameCollapse$Frame;)V"⟩
abbrev cX4_reduceRows : ByteArray := prog_6_method_10_code
def yX4_reduceRows : MethodName := ⟨RX4, "reduceRows", "()V"⟩
abbrev cX4_swapRows : ByteArray := prog_6_method_11_code
def yX4_swapRows : MethodName := ⟨RX4, "swapRows", "(II)V"⟩
abbrev cX4_rowWith : ByteArray := prog_6_method_12_code
def yX4_rowWith : MethodName := ⟨RX4, "rowWith", "(III)I"⟩
abbrev cX4_cancel : ByteArray := prog_6_method_13_code
def yX4_cancel : MethodName := ⟨RX4, "cancel", "([J[JI[J)V"⟩
abbrev cX4_simplify : ByteArray := prog_6_method_14_code
def yX4_simplify : MethodName := ⟨RX4, "simplify", "([J)V"⟩
def RX5 : String := "FrameCollapse"
def TX5 : u_T := fun k => match k with
  | 0 => ("FrameCollapse", "frame", "LFrameCollapse$Frame;", true)
  | 1 => ("FrameCollapse", "images", "[LFrameCollapse$Frame;", true)
  | 2 => ("FrameCollapse", "motions", "LFrameCollapse$Motions;", true)
  | 3 => ("FrameCollapse", "mechanisms", "LFrameCollapse$Mechanisms;", true)
  | 4 => ("FrameCollapse", "balance", "LFrameCollapse$Balance;", true)
  | 5 => ("FrameCollapse", "answer", "LFrameCollapse$Fraction;", true)
  | 6 => ("FrameCollapse", "keptImages", "I", false)
  | 7 => ("FrameCollapse", "shapeKnown", "Z", false)
  | _ => ("FrameCollapse", "balanceKnown", "Z", false)
def tyX5 : Nat → FieldType := fun k => match k with
  | 0 => .object "FrameCollapse$Frame"
  | 1 => .array (.object "FrameCollapse$Frame")
  | 2 => .object "FrameCollapse$Motions"
  | 3 => .object "FrameCollapse$Mechanisms"
  | 4 => .object "FrameCollapse$Balance"
  | 5 => .object "FrameCollapse$Fraction"
  | 6 => .int
  | 7 => .boolean
  | _ => .boolean
abbrev wsX50 : List Cond := u_ws RX5 TX5 9
theorem nmX5 : ∀ a, a < 9 → ∀ b, b < 9 → a ≠ b → (TX5 a).2.1 ≠ (TX5 b).2.1 := by decide +kernel
theorem tyX5_ok : ∀ k, k < 9 → parseFieldDescriptor (TX5 k).2.2.1 = some (tyX5 k) := by decide +kernel
abbrev cX5_init : ByteArray := prog_1_method_1_code
def yX5_init : MethodName := ⟨RX5, "<init>", "()V"⟩
abbrev cX5_node : ByteArray := prog_1_method_2_code
def yX5_node : MethodName := ⟨RX5, "node", "(III)I"⟩
abbrev cX5_hold : ByteArray := prog_1_method_3_code
def yX5_hold : MethodName := ⟨RX5, "hold", "(II)I"⟩
abbrev cX5_bar : ByteArray := prog_1_method_4_code
def yX5_bar : MethodName := ⟨RX5, "bar", "(III)I"⟩
abbrev cX5_lift : ByteArray := prog_1_method_5_code
def yX5_lift : MethodName := ⟨RX5, "lift", "(I)I"⟩
abbrev cX5_strengthen : ByteArray := prog_1_method_6_code
def yX5_strengthen : MethodName := ⟨RX5, "strengthen", "(II)I"⟩
abbrev cX5_load : ByteArray := prog_1_method_7_code
def yX5_load : MethodName := ⟨RX5, "load", "(IIII)I"⟩
abbrev cX5_ofNode : ByteArray := prog_1_method_8_code
def yX5_ofNode : MethodName := ⟨RX5, "ofNode", "(II)I"⟩
abbrev cX5_ofBar : ByteArray := prog_1_method_9_code
def yX5_ofBar : MethodName := ⟨RX5, "ofBar", "(II)I"⟩
abbrev cX5_count : ByteArray := prog_1_method_10_code
def yX5_count : MethodName := ⟨RX5, "count", "(I)I"⟩
abbrev cX5_mechanism : ByteArray := prog_1_method_11_code
def yX5_mechanism : MethodName := ⟨RX5, "mechanism", "(I)I"⟩
abbrev cX5_twist : ByteArray := prog_1_method_12_code
def yX5_twist : MethodName := ⟨RX5, "twist", "(III)J"⟩
abbrev cX5_bound : ByteArray := prog_1_method_13_code
def yX5_bound : MethodName := ⟨RX5, "bound", "(III)J"⟩
abbrev cX5_limits : ByteArray := prog_1_method_14_code
def yX5_limits : MethodName := ⟨RX5, "limits", "(I)I"⟩
abbrev cX5_factor : ByteArray := prog_1_method_15_code
def yX5_factor : MethodName := ⟨RX5, "factor", "(III)J"⟩
abbrev cX5_near : ByteArray := prog_1_method_16_code
def yX5_near : MethodName := ⟨RX5, "near", "(II)I"⟩
abbrev cX5_bears : ByteArray := prog_1_method_17_code
def yX5_bears : MethodName := ⟨RX5, "bears", "(III)I"⟩
abbrev cX5_moment : ByteArray := prog_1_method_18_code
def yX5_moment : MethodName := ⟨RX5, "moment", "(IIII)J"⟩
abbrev cX5_yields : ByteArray := prog_1_method_19_code
def yX5_yields : MethodName := ⟨RX5, "yields", "(II)I"⟩
abbrev cX5_binding : ByteArray := prog_1_method_20_code
def yX5_binding : MethodName := ⟨RX5, "binding", "(III)I"⟩
abbrev cX5_spare : ByteArray := prog_1_method_21_code
def yX5_spare : MethodName := ⟨RX5, "spare", "(II)I"⟩
abbrev cX5_weakest : ByteArray := prog_1_method_22_code
def yX5_weakest : MethodName := ⟨RX5, "weakest", "(I)I"⟩
abbrev cX5_image : ByteArray := prog_1_method_23_code
def yX5_image : MethodName := ⟨RX5, "image", "(I)I"⟩
abbrev cX5_restore : ByteArray := prog_1_method_24_code
def yX5_restore : MethodName := ⟨RX5, "restore", "(I)I"⟩
abbrev cX5_within : ByteArray := prog_1_method_25_code
def yX5_within : MethodName := ⟨RX5, "within", "(III)Z"⟩
abbrev cX5_isNode : ByteArray := prog_1_method_26_code
def yX5_isNode : MethodName := ⟨RX5, "isNode", "(I)Z"⟩
abbrev cX5_isBar : ByteArray := prog_1_method_27_code
def yX5_isBar : MethodName := ⟨RX5, "isBar", "(I)Z"⟩
abbrev cX5_isEnd : ByteArray := prog_1_method_28_code
def yX5_isEnd : MethodName := ⟨RX5, "isEnd", "(I)Z"⟩
abbrev cX5_isMechanism : ByteArray := prog_1_method_29_code
def yX5_isMechanism : MethodName := ⟨RX5, "isMechanism", "(I)Z"⟩
abbrev cX5_isFactored : ByteArray := prog_1_method_30_code
def yX5_isFactored : MethodName := ⟨RX5, "isFactored", "(I)Z"⟩
abbrev cX5_forgetShape : ByteArray := prog_1_method_31_code
def yX5_forgetShape : MethodName := ⟨RX5, "forgetShape", "()V"⟩
abbrev cX5_refresh : ByteArray := prog_1_method_32_code
def yX5_refresh : MethodName := ⟨RX5, "refresh", "()V"⟩
abbrev cX5_isLoose : ByteArray := prog_1_method_33_code
def yX5_isLoose : MethodName := ⟨RX5, "isLoose", "()Z"⟩
abbrev cX5_selfStressCount : ByteArray := prog_1_method_34_code
def yX5_selfStressCount : MethodName := ⟨RX5, "selfStressCount", "()I"⟩
abbrev cX5_limitError : ByteArray := prog_1_method_35_code
def yX5_limitError : MethodName := ⟨RX5, "limitError", "(II)I"⟩
abbrev cX5_bitsOf : ByteArray := prog_1_method_36_code
def yX5_bitsOf : MethodName := ⟨RX5, "bitsOf", "(F)I"⟩
abbrev cX5_gcd : ByteArray := prog_1_method_37_code
def yX5_gcd : MethodName := ⟨RX5, "gcd", "(JJ)J"⟩
def RX6 : String := "FrameCollapseModel"
def TX6 : u_T := fun k => match k with
  | 0 => ("FrameCollapseModel", "nodes", "I", false)
  | 1 => ("FrameCollapseModel", "x", "[I", true)
  | 2 => ("FrameCollapseModel", "y", "[I", true)
  | 3 => ("FrameCollapseModel", "kind", "[I", true)
  | 4 => ("FrameCollapseModel", "bars", "I", false)
  | 5 => ("FrameCollapseModel", "first", "[I", true)
  | 6 => ("FrameCollapseModel", "second", "[I", true)
  | 7 => ("FrameCollapseModel", "strength", "[I", true)
  | 8 => ("FrameCollapseModel", "loads", "[I", true)
  | 9 => ("FrameCollapseModel", "isOld", "Z", false)
  | 10 => ("FrameCollapseModel", "motions", "I", false)
  | 11 => ("FrameCollapseModel", "rank", "I", false)
  | 12 => ("FrameCollapseModel", "group", "[I", true)
  | 13 => ("FrameCollapseModel", "number", "[I", true)
  | 14 => ("FrameCollapseModel", "row", "[J", true)
  | 15 => ("FrameCollapseModel", "stair", "[J", true)
  | 16 => ("FrameCollapseModel", "pivot", "[I", true)
  | 17 => ("FrameCollapseModel", "many", "I", false)
  | 18 => ("FrameCollapseModel", "set", "[I", true)
  | 19 => ("FrameCollapseModel", "motion", "[J", true)
  | 20 => ("FrameCollapseModel", "isSeen", "[Z", true)
  | 21 => ("FrameCollapseModel", "tried", "[I", true)
  | 22 => ("FrameCollapseModel", "way", "[J", true)
  | 23 => ("FrameCollapseModel", "twist", "[J", true)
  | 24 => ("FrameCollapseModel", "work", "[J", true)
  | 25 => ("FrameCollapseModel", "strain", "J", false)
  | 26 => ("FrameCollapseModel", "rule", "[J", true)
  | 27 => ("FrameCollapseModel", "left", "[J", true)
  | 28 => ("FrameCollapseModel", "told", "[I", true)
  | 29 => ("FrameCollapseModel", "base", "J", false)
  | 30 => ("FrameCollapseModel", "changed", "I", false)
  | 31 => ("FrameCollapseModel", "changedTo", "I", false)
  | 32 => ("FrameCollapseModel", "times", "[J", true)
  | 33 => ("FrameCollapseModel", "by", "J", false)
  | 34 => ("FrameCollapseModel", "columns", "I", false)
  | 35 => ("FrameCollapseModel", "free", "[I", true)
  | 36 => ("FrameCollapseModel", "frees", "I", false)
  | 37 => ("FrameCollapseModel", "turn", "[J", true)
  | 38 => ("FrameCollapseModel", "value", "[J", true)
  | 39 => ("FrameCollapseModel", "signs", "I", false)
  | 40 => ("FrameCollapseModel", "step", "I", false)
  | 41 => ("FrameCollapseModel", "sideUp", "[J", true)
  | 42 => ("FrameCollapseModel", "sideLow", "[J", true)
  | 43 => ("FrameCollapseModel", "isFound", "[Z", true)
  | 44 => ("FrameCollapseModel", "limit", "[I", true)
  | 45 => ("FrameCollapseModel", "foundUp", "[J", true)
  | 46 => ("FrameCollapseModel", "foundLow", "[J", true)
  | 47 => ("FrameCollapseModel", "mostUp", "[J", true)
  | 48 => ("FrameCollapseModel", "mostLow", "[J", true)
  | 49 => ("FrameCollapseModel", "leastUp", "[J", true)
  | 50 => ("FrameCollapseModel", "leastLow", "[J", true)
  | 51 => ("FrameCollapseModel", "image", "[I", true)
  | _ => ("FrameCollapseModel", "isKept", "[Z", true)
def tyX6 : Nat → FieldType := fun k => match k with
  | 0 => .int
  | 1 => .array .int
  | 2 => .array .int
  | 3 => .array .int
  | 4 => .int
  | 5 => .array .int
  | 6 => .array .int
  | 7 => .array .int
  | 8 => .array .int
  | 9 => .boolean
  | 10 => .int
  | 11 => .int
  | 12 => .array .int
  | 13 => .array .int
  | 14 => .array .long
  | 15 => .array .long
  | 16 => .array .int
  | 17 => .int
  | 18 => .array .int
  | 19 => .array .long
  | 20 => .array .boolean
  | 21 => .array .int
  | 22 => .array .long
  | 23 => .array .long
  | 24 => .array .long
  | 25 => .long
  | 26 => .array .long
  | 27 => .array .long
  | 28 => .array .int
  | 29 => .long
  | 30 => .int
  | 31 => .int
  | 32 => .array .long
  | 33 => .long
  | 34 => .int
  | 35 => .array .int
  | 36 => .int
  | 37 => .array .long
  | 38 => .array .long
  | 39 => .int
  | 40 => .int
  | 41 => .array .long
  | 42 => .array .long
  | 43 => .array .boolean
  | 44 => .array .int
  | 45 => .array .long
  | 46 => .array .long
  | 47 => .array .long
  | 48 => .array .long
  | 49 => .array .long
  | 50 => .array .long
  | 51 => .array .int
  | _ => .array .boolean
abbrev wsX60 : List Cond := u_ws RX6 TX6 53
theorem nmX6 : ∀ a, a < 53 → ∀ b, b < 53 → a ≠ b → (TX6 a).2.1 ≠ (TX6 b).2.1 := by decide +kernel
theorem tyX6_ok : ∀ k, k < 53 → parseFieldDescriptor (TX6 k).2.2.1 = some (tyX6 k) := by decide +kernel
abbrev cX6_init : ByteArray := prog_8_method_1_code
def yX6_init : MethodName := ⟨RX6, "<init>", "()V"⟩
abbrev cX6_in : ByteArray := prog_8_method_2_code
def yX6_in : MethodName := ⟨RX6, "in", "(III)Z"⟩
abbrev cX6_isNode : ByteArray := prog_8_method_3_code
def yX6_isNode : MethodName := ⟨RX6, "isNode", "(I)Z"⟩
abbrev cX6_isBar : ByteArray := prog_8_method_4_code
def yX6_isBar : MethodName := ⟨RX6, "isBar", "(I)Z"⟩
abbrev cX6_isEnd : ByteArray := prog_8_method_5_code
def yX6_isEnd : MethodName := ⟨RX6, "isEnd", "(I)Z"⟩
abbrev cX6_node : ByteArray := prog_8_method_6_code
def yX6_node : MethodName := ⟨RX6, "node", "(III)I"⟩
abbrev cX6_hold : ByteArray := prog_8_method_7_code
def yX6_hold : MethodName := ⟨RX6, "hold", "(II)I"⟩
abbrev cX6_bar : ByteArray := prog_8_method_8_code
def yX6_bar : MethodName := ⟨RX6, "bar", "(III)I"⟩
abbrev cX6_lift : ByteArray := prog_8_method_9_code
def yX6_lift : MethodName := ⟨RX6, "lift", "(I)I"⟩
abbrev cX6_strengthen : ByteArray := prog_8_method_10_code
def yX6_strengthen : MethodName := ⟨RX6, "strengthen", "(II)I"⟩
abbrev cX6_load : ByteArray := prog_8_method_11_code
def yX6_load : MethodName := ⟨RX6, "load", "(IIII)I"⟩
abbrev cX6_ofNode : ByteArray := prog_8_method_12_code
def yX6_ofNode : MethodName := ⟨RX6, "ofNode", "(II)I"⟩
abbrev cX6_lies : ByteArray := prog_8_method_13_code
def yX6_lies : MethodName := ⟨RX6, "lies", "(I)Z"⟩
abbrev cX6_length : ByteArray := prog_8_method_14_code
def yX6_length : MethodName := ⟨RX6, "length", "(I)I"⟩
abbrev cX6_ofBar : ByteArray := prog_8_method_15_code
def yX6_ofBar : MethodName := ⟨RX6, "ofBar", "(II)I"⟩
abbrev cX6_join : ByteArray := prog_8_method_16_code
def yX6_join : MethodName := ⟨RX6, "join", "(I)V"⟩
abbrev cX6_isHeld : ByteArray := prog_8_method_17_code
def yX6_isHeld : MethodName := ⟨RX6, "isHeld", "(II)Z"⟩
abbrev cX6_layNumbers : ByteArray := prog_8_method_18_code
def yX6_layNumbers : MethodName := ⟨RX6, "layNumbers", "()V"⟩
abbrev cX6_addTo : ByteArray := prog_8_method_19_code
def yX6_addTo : MethodName := ⟨RX6, "addTo", "(IIII)V"⟩
abbrev cX6_layRows : ByteArray := prog_8_method_20_code
def yX6_layRows : MethodName := ⟨RX6, "layRows", "()V"⟩
abbrev cX6_common : ByteArray := prog_8_method_21_code
def yX6_common : MethodName := ⟨RX6, "common", "(JJ)J"⟩
abbrev cX6_isPut : ByteArray := prog_8_method_22_code
def yX6_isPut : MethodName := ⟨RX6, "isPut", "(II)Z"⟩
abbrev cX6_shorten : ByteArray := prog_8_method_23_code
def yX6_shorten : MethodName := ⟨RX6, "shorten", "(I)V"⟩
abbrev cX6_layRank : ByteArray := prog_8_method_24_code
def yX6_layRank : MethodName := ⟨RX6, "layRank", "()V"⟩
abbrev cX6_layWay : ByteArray := prog_8_method_25_code
def yX6_layWay : MethodName := ⟨RX6, "layWay", "(I)V"⟩
abbrev cX6_twistBy : ByteArray := prog_8_method_26_code
def yX6_twistBy : MethodName := ⟨RX6, "twistBy", "([JII)J"⟩
abbrev cX6_keepWay : ByteArray := prog_8_method_27_code
def yX6_keepWay : MethodName := ⟨RX6, "keepWay", "(I)V"⟩
abbrev cX6_layMechanisms : ByteArray := prog_8_method_28_code
def yX6_layMechanisms : MethodName := ⟨RX6, "layMechanisms", "()V"⟩
abbrev cX6_isLoose : ByteArray := prog_8_method_29_code
def yX6_isLoose : MethodName := ⟨RX6, "isLoose", "()Z"⟩
abbrev cX6_goes : ByteArray := prog_8_method_30_code
def yX6_goes : MethodName := ⟨RX6, "goes", "(III)J"⟩
abbrev cX6_layOne : ByteArray := prog_8_method_31_code
def yX6_layOne : MethodName := ⟨RX6, "layOne", "(I)V"⟩
abbrev cX6_floor : ByteArray := prog_8_method_32_code
def yX6_floor : MethodName := ⟨RX6, "floor", "(JJ)J"⟩
abbrev cX6_compare : ByteArray := prog_8_method_33_code
def yX6_compare : MethodName := ⟨RX6, "compare", "(JJJJ)I"⟩
abbrev cX6_part : ByteArray := prog_8_method_34_code
def yX6_part : MethodName := ⟨RX6, "part", "(JJI)J"⟩
abbrev cX6_strengthOf : ByteArray := prog_8_method_35_code
def yX6_strengthOf : MethodName := ⟨RX6, "strengthOf", "(I)J"⟩
abbrev cX6_layRules : ByteArray := prog_8_method_36_code
def yX6_layRules : MethodName := ⟨RX6, "layRules", "()V"⟩
abbrev cX6_isSolved : ByteArray := prog_8_method_37_code
def yX6_isSolved : MethodName := ⟨RX6, "isSolved", "(I)Z"⟩
abbrev cX6_swap : ByteArray := prog_8_method_38_code
def yX6_swap : MethodName := ⟨RX6, "swap", "(II)V"⟩
abbrev cX6_clear : ByteArray := prog_8_method_39_code
def yX6_clear : MethodName := ⟨RX6, "clear", "(II)V"⟩
abbrev cX6_bits : ByteArray := prog_8_method_40_code
def yX6_bits : MethodName := ⟨RX6, "bits", "(I)I"⟩
abbrev cX6_take : ByteArray := prog_8_method_41_code
def yX6_take : MethodName := ⟨RX6, "take", "(JJJJ)V"⟩
abbrev cX6_begin : ByteArray := prog_8_method_42_code
def yX6_begin : MethodName := ⟨RX6, "begin", "(I)V"⟩
abbrev cX6_isNext : ByteArray := prog_8_method_43_code
def yX6_isNext : MethodName := ⟨RX6, "isNext", "()Z"⟩
abbrev cX6_isWithin : ByteArray := prog_8_method_44_code
def yX6_isWithin : MethodName := ⟨RX6, "isWithin", "()Z"⟩
abbrev cX6_isBorne : ByteArray := prog_8_method_45_code
def yX6_isBorne : MethodName := ⟨RX6, "isBorne", "(JJJJ)Z"⟩
abbrev cX6_lookFor : ByteArray := prog_8_method_46_code
def yX6_lookFor : MethodName := ⟨RX6, "lookFor", "(I)I"⟩
abbrev cX6_takeSide : ByteArray := prog_8_method_47_code
def yX6_takeSide : MethodName := ⟨RX6, "takeSide", "(IZJJ)V"⟩
abbrev cX6_isCase : ByteArray := prog_8_method_48_code
def yX6_isCase : MethodName := ⟨RX6, "isCase", "(I)Z"⟩
abbrev cX6_forget : ByteArray := prog_8_method_49_code
def yX6_forget : MethodName := ⟨RX6, "forget", "()V"⟩
abbrev cX6_limitOf : ByteArray := prog_8_method_50_code
def yX6_limitOf : MethodName := ⟨RX6, "limitOf", "(I)I"⟩
abbrev cX6_refusal : ByteArray := prog_8_method_51_code
def yX6_refusal : MethodName := ⟨RX6, "refusal", "(I)I"⟩
abbrev cX6_count : ByteArray := prog_8_method_52_code
def yX6_count : MethodName := ⟨RX6, "count", "(I)I"⟩
abbrev cX6_restful : ByteArray := prog_8_method_53_code
def yX6_restful : MethodName := ⟨RX6, "restful", "()I"⟩
abbrev cX6_mechanism : ByteArray := prog_8_method_54_code
def yX6_mechanism : MethodName := ⟨RX6, "mechanism", "(I)I"⟩
abbrev cX6_twist : ByteArray := prog_8_method_55_code
def yX6_twist : MethodName := ⟨RX6, "twist", "(III)J"⟩
abbrev cX6_bound : ByteArray := prog_8_method_56_code
def yX6_bound : MethodName := ⟨RX6, "bound", "(III)J"⟩
abbrev cX6_limits : ByteArray := prog_8_method_57_code
def yX6_limits : MethodName := ⟨RX6, "limits", "(I)I"⟩
abbrev cX6_factor : ByteArray := prog_8_method_58_code
def yX6_factor : MethodName := ⟨RX6, "factor", "(III)J"⟩
abbrev cX6_near : ByteArray := prog_8_method_59_code
def yX6_near : MethodName := ⟨RX6, "near", "(II)I"⟩
abbrev cX6_bears : ByteArray := prog_8_method_60_code
def yX6_bears : MethodName := ⟨RX6, "bears", "(III)I"⟩
abbrev cX6_takeMoment : ByteArray := prog_8_method_61_code
def yX6_takeMoment : MethodName := ⟨RX6, "takeMoment", "(IZJJ)V"⟩
abbrev cX6_takeMoments : ByteArray := prog_8_method_62_code
def yX6_takeMoments : MethodName := ⟨RX6, "takeMoments", "(Z)V"⟩
abbrev cX6_layMoments : ByteArray := prog_8_method_63_code
def yX6_layMoments : MethodName := ⟨RX6, "layMoments", "(II)V"⟩
abbrev cX6_moment : ByteArray := prog_8_method_64_code
def yX6_moment : MethodName := ⟨RX6, "moment", "(IIII)J"⟩
abbrev cX6_yields : ByteArray := prog_8_method_65_code
def yX6_yields : MethodName := ⟨RX6, "yields", "(II)I"⟩
abbrev cX6_binding : ByteArray := prog_8_method_66_code
def yX6_binding : MethodName := ⟨RX6, "binding", "(III)I"⟩
abbrev cX6_spare : ByteArray := prog_8_method_67_code
def yX6_spare : MethodName := ⟨RX6, "spare", "(II)I"⟩
abbrev cX6_weakest : ByteArray := prog_8_method_68_code
def yX6_weakest : MethodName := ⟨RX6, "weakest", "(I)I"⟩
abbrev cX6_image : ByteArray := prog_8_method_69_code
def yX6_image : MethodName := ⟨RX6, "image", "(I)I"⟩
abbrev cX6_restore : ByteArray := prog_8_method_70_code
def yX6_restore : MethodName := ⟨RX6, "restore", "(I)I"⟩
def RJx145de : String := "java/io/Serializable"
def TJx145de : u_T := fun k => match k with
  | _ => ("", "", "", false)
def tyJx145de : Nat → FieldType := fun k => match k with
  | _ => .int
abbrev wsJx145de0 : List Cond := u_ws RJx145de TJx145de 0
theorem nmJx145de : ∀ a, a < 0 → ∀ b, b < 0 → a ≠ b → (TJx145de a).2.1 ≠ (TJx145de b).2.1 := by decide +kernel
theorem tyJx145de_ok : ∀ k, k < 0 → parseFieldDescriptor (TJx145de k).2.2.1 = some (tyJx145de k) := by decide +kernel
def RJxb160c : String := "java/lang/Comparable"
def TJxb160c : u_T := fun k => match k with
  | _ => ("", "", "", false)
def tyJxb160c : Nat → FieldType := fun k => match k with
  | _ => .int
abbrev wsJxb160c0 : List Cond := u_ws RJxb160c TJxb160c 0
theorem nmJxb160c : ∀ a, a < 0 → ∀ b, b < 0 → a ≠ b → (TJxb160c a).2.1 ≠ (TJxb160c b).2.1 := by decide +kernel
theorem tyJxb160c_ok : ∀ k, k < 0 → parseFieldDescriptor (TJxb160c k).2.2.1 = some (tyJxb160c k) := by decide +kernel
def RJxf58ca : String := "java/lang/Float"
def TJxf58ca : u_T := fun k => match k with
  | _ => ("", "", "", false)
def tyJxf58ca : Nat → FieldType := fun k => match k with
  | _ => .int
abbrev wsJxf58ca0 : List Cond := u_ws RJxf58ca TJxf58ca 0
theorem nmJxf58ca : ∀ a, a < 0 → ∀ b, b < 0 → a ≠ b → (TJxf58ca a).2.1 ≠ (TJxf58ca b).2.1 := by decide +kernel
theorem tyJxf58ca_ok : ∀ k, k < 0 → parseFieldDescriptor (TJxf58ca k).2.2.1 = some (tyJxf58ca k) := by decide +kernel
abbrev cJxf58ca_isNaN_12338 : ByteArray := prog_9_method_6_code
def yJxf58ca_isNaN_12338 : MethodName := ⟨RJxf58ca, "isNaN", "(F)Z"⟩
abbrev cJxf58ca_floatToIntBits_5c35a : ByteArray := prog_9_method_24_code
def yJxf58ca_floatToIntBits_5c35a : MethodName := ⟨RJxf58ca, "floatToIntBits", "(F)I"⟩
def RJ6 : String := "java/lang/Integer"
def TJ6 : u_T := fun k => match k with
  | _ => ("", "", "", false)
def tyJ6 : Nat → FieldType := fun k => match k with
  | _ => .int
abbrev wsJ60 : List Cond := u_ws RJ6 TJ6 0
theorem nmJ6 : ∀ a, a < 0 → ∀ b, b < 0 → a ≠ b → (TJ6 a).2.1 ≠ (TJ6 b).2.1 := by decide +kernel
theorem tyJ6_ok : ∀ k, k < 0 → parseFieldDescriptor (TJ6 k).2.2.1 = some (tyJ6 k) := by decide +kernel
abbrev cJ6_numberOfTrailingZeros_0f7a4 : ByteArray := prog_10_method_48_code
def yJ6_numberOfTrailingZeros_0f7a4 : MethodName := ⟨RJ6, "numberOfTrailingZeros", "(I)I"⟩
def RJ9 : String := "java/lang/Math"
def TJ9 : u_T := fun k => match k with
  | _ => ("", "", "", false)
def tyJ9 : Nat → FieldType := fun k => match k with
  | _ => .int
abbrev wsJ90 : List Cond := u_ws RJ9 TJ9 0
theorem nmJ9 : ∀ a, a < 0 → ∀ b, b < 0 → a ≠ b → (TJ9 a).2.1 ≠ (TJ9 b).2.1 := by decide +kernel
theorem tyJ9_ok : ∀ k, k < 0 → parseFieldDescriptor (TJ9 k).2.2.1 = some (tyJ9 k) := by decide +kernel
abbrev cJ9_floorDiv_f86c9 : ByteArray := prog_11_method_49_code
def yJ9_floorDiv_f86c9 : MethodName := ⟨RJ9, "floorDiv", "(JJ)J"⟩
abbrev cJ9_abs_067f4 : ByteArray := prog_11_method_61_code
def yJ9_abs_067f4 : MethodName := ⟨RJ9, "abs", "(J)J"⟩
def RJxd2413 : String := "java/lang/Number"
def TJxd2413 : u_T := fun k => match k with
  | _ => ("", "", "", false)
def tyJxd2413 : Nat → FieldType := fun k => match k with
  | _ => .int
abbrev wsJxd24130 : List Cond := u_ws RJxd2413 TJxd2413 0
theorem nmJxd2413 : ∀ a, a < 0 → ∀ b, b < 0 → a ≠ b → (TJxd2413 a).2.1 ≠ (TJxd2413 b).2.1 := by decide +kernel
theorem tyJxd2413_ok : ∀ k, k < 0 → parseFieldDescriptor (TJxd2413 k).2.2.1 = some (tyJxd2413 k) := by decide +kernel
def RJ10 : String := "java/lang/System"
def TJ10 : u_T := fun k => match k with
  | _ => ("", "", "", false)
def tyJ10 : Nat → FieldType := fun k => match k with
  | _ => .int
abbrev wsJ100 : List Cond := u_ws RJ10 TJ10 0
theorem nmJ10 : ∀ a, a < 0 → ∀ b, b < 0 → a ≠ b → (TJ10 a).2.1 ≠ (TJ10 b).2.1 := by decide +kernel
theorem tyJ10_ok : ∀ k, k < 0 → parseFieldDescriptor (TJ10 k).2.2.1 = some (tyJ10 k) := by decide +kernel
def RJxfd54e : String := "java/lang/constant/Constable"
def TJxfd54e : u_T := fun k => match k with
  | _ => ("", "", "", false)
def tyJxfd54e : Nat → FieldType := fun k => match k with
  | _ => .int
abbrev wsJxfd54e0 : List Cond := u_ws RJxfd54e TJxfd54e 0
theorem nmJxfd54e : ∀ a, a < 0 → ∀ b, b < 0 → a ≠ b → (TJxfd54e a).2.1 ≠ (TJxfd54e b).2.1 := by decide +kernel
theorem tyJxfd54e_ok : ∀ k, k < 0 → parseFieldDescriptor (TJxfd54e k).2.2.1 = some (tyJxfd54e k) := by decide +kernel
def RJx3cf43 : String := "java/lang/constant/ConstantDesc"
def TJx3cf43 : u_T := fun k => match k with
  | _ => ("", "", "", false)
def tyJx3cf43 : Nat → FieldType := fun k => match k with
  | _ => .int
abbrev wsJx3cf430 : List Cond := u_ws RJx3cf43 TJx3cf43 0
theorem nmJx3cf43 : ∀ a, a < 0 → ∀ b, b < 0 → a ≠ b → (TJx3cf43 a).2.1 ≠ (TJx3cf43 b).2.1 := by decide +kernel
theorem tyJx3cf43_ok : ∀ k, k < 0 → parseFieldDescriptor (TJx3cf43 k).2.2.1 = some (tyJx3cf43 k) := by decide +kernel
def RJ7 : String := "java/util/Arrays"
def TJ7 : u_T := fun k => match k with
  | _ => ("", "", "", false)
def tyJ7 : Nat → FieldType := fun k => match k with
  | _ => .int
abbrev wsJ70 : List Cond := u_ws RJ7 TJ7 0
theorem nmJ7 : ∀ a, a < 0 → ∀ b, b < 0 → a ≠ b → (TJ7 a).2.1 ≠ (TJ7 b).2.1 := by decide +kernel
theorem tyJ7_ok : ∀ k, k < 0 → parseFieldDescriptor (TJ7 k).2.2.1 = some (tyJ7 k) := by decide +kernel
abbrev cJ7_fill_d0a16 : ByteArray := prog_14_method_101_code
def yJ7_fill_d0a16 : MethodName := ⟨RJ7, "fill", "([JJ)V"⟩
abbrev cJ7_fill_53178 : ByteArray := prog_14_method_103_code
def yJ7_fill_53178 : MethodName := ⟨RJ7, "fill", "([II)V"⟩
def RL : String := "FrameCollapseLaw"
abbrev cL_law : ByteArray := code
def yL_law : MethodName := ⟨RL, "law", "([I)Z"⟩
def wsL_law_r1 : List Cond := [Cond.classLink RL 7 RX5, Cond.instantiable RX5 9, Cond.initialized RX5, Cond.classLink RL 10 RX6, Cond.instantiable RX6 53, Cond.initialized RX6, Cond.methodLink RL 9 yX5_init, Cond.instanceMethod yX5_init, Cond.code yX5_init cX5_init 2 none, Cond.methodLink RX5 3 objectInit, Cond.instanceMethod objectInit, Cond.code objectInit ⟨#[0xb1]⟩ 1 none, Cond.classLink RX5 9 RX2, Cond.instantiable RX2 9, Cond.initialized RX2, Cond.fieldLink RX5 12 "FrameCollapse" "frame" "LFrameCollapse$Frame;", Cond.fieldLink RX5 16 "FrameCollapse" "images" "[LFrameCollapse$Frame;", Cond.classLink RX5 20 RX0, Cond.instantiable RX0 12, Cond.initialized RX0, Cond.fieldLink RX5 23 "FrameCollapse" "balance" "LFrameCollapse$Balance;", Cond.fieldLink RX5 31 "FrameCollapse" "mechanisms" "LFrameCollapse$Mechanisms;", Cond.fieldLink RX5 38 "FrameCollapse" "motions" "LFrameCollapse$Motions;", Cond.classLink RX5 39 RX1]
def wsL_law_r2 : List Cond := [Cond.instantiable RX1 2, Cond.initialized RX1, Cond.fieldLink RX5 42 "FrameCollapse" "answer" "LFrameCollapse$Fraction;", Cond.methodLink RX5 11 yX2_init, Cond.instanceMethod yX2_init, Cond.code yX2_init cX2_init 1 none, Cond.methodLink RX2 3 objectInit, Cond.arrayClass .int, Cond.fieldLink RX2 9 "FrameCollapse$Frame" "x" "[I", Cond.fieldLink RX2 15 "FrameCollapse$Frame" "y" "[I", Cond.fieldLink RX2 18 "FrameCollapse$Frame" "kind" "[I", Cond.fieldLink RX2 21 "FrameCollapse$Frame" "first" "[I", Cond.fieldLink RX2 24 "FrameCollapse$Frame" "second" "[I", Cond.fieldLink RX2 27 "FrameCollapse$Frame" "strength" "[I", Cond.classLink RX2 30 "[[I", Cond.fieldLink RX2 32 "FrameCollapse$Frame" "loads" "[[I", Cond.methodLink RX5 22 yX0_init, Cond.instanceMethod yX0_init, Cond.code yX0_init cX0_init 1 none, Cond.methodLink RX0 3 objectInit, Cond.classLink RX0 9 RX3, Cond.instantiable RX3 4, Cond.initialized RX3, Cond.fieldLink RX0 12 "FrameCollapse$Balance" "mechanisms" "LFrameCollapse$Mechanisms;"]
def wsL_law_r3 : List Cond := [Cond.fieldLink RX0 18 "FrameCollapse$Balance" "strength" "[I", Cond.classLink RX0 22 "[[J", Cond.arrayClass .long, Cond.fieldLink RX0 24 "FrameCollapse$Balance" "work" "[[J", Cond.fieldLink RX0 27 "FrameCollapse$Balance" "strain" "[J", Cond.classLink RX0 31 RX1, Cond.fieldLink RX0 34 "FrameCollapse$Balance" "greatest" "LFrameCollapse$Fraction;", Cond.fieldLink RX0 38 "FrameCollapse$Balance" "least" "LFrameCollapse$Fraction;", Cond.fieldLink RX0 41 "FrameCollapse$Balance" "candidate" "LFrameCollapse$Fraction;", Cond.fieldLink RX0 44 "FrameCollapse$Balance" "now" "LFrameCollapse$Fraction;", Cond.methodLink RX0 11 yX3_init, Cond.instanceMethod yX3_init, Cond.code yX3_init cX3_init 1 none, Cond.methodLink RX3 3 objectInit, Cond.classLink RX3 9 RX4, Cond.instantiable RX4 7, Cond.initialized RX4, Cond.fieldLink RX3 12 "FrameCollapse$Mechanisms" "motions" "LFrameCollapse$Motions;", Cond.fieldLink RX3 18 "FrameCollapse$Mechanisms" "sets" "[I", Cond.classLink RX3 22 "[[J", Cond.fieldLink RX3 24 "FrameCollapse$Mechanisms" "motionOf" "[[J", Cond.methodLink RX3 11 yX4_init, Cond.instanceMethod yX4_init, Cond.code yX4_init cX4_init 1 none]
def wsL_law_r4 : List Cond := [Cond.methodLink RX4 3 objectInit, Cond.classLink RX4 11 "[[J", Cond.fieldLink RX4 13 "FrameCollapse$Motions" "rows" "[[J", Cond.fieldLink RX4 16 "FrameCollapse$Motions" "group" "[I", Cond.classLink RX4 20 "[[I", Cond.fieldLink RX4 22 "FrameCollapse$Motions" "shiftOf" "[[I", Cond.methodLink RX0 33 yX1_init, Cond.instanceMethod yX1_init, Cond.code yX1_init cX1_init 1 none, Cond.methodLink RX1 1 objectInit, Cond.fieldLink RX1 7 "FrameCollapse$Fraction" "bottom" "J", Cond.methodLink RX5 41 yX1_init, Cond.methodLink RL 12 yX6_init, Cond.instanceMethod yX6_init, Cond.code yX6_init cX6_init 1 none, Cond.methodLink RX6 1 objectInit, Cond.fieldLink RX6 7 "FrameCollapseModel" "x" "[I", Cond.fieldLink RX6 13 "FrameCollapseModel" "y" "[I", Cond.fieldLink RX6 16 "FrameCollapseModel" "kind" "[I", Cond.fieldLink RX6 19 "FrameCollapseModel" "first" "[I", Cond.fieldLink RX6 22 "FrameCollapseModel" "second" "[I", Cond.fieldLink RX6 25 "FrameCollapseModel" "strength" "[I", Cond.fieldLink RX6 28 "FrameCollapseModel" "loads" "[I", Cond.fieldLink RX6 31 "FrameCollapseModel" "isOld" "Z"]
def wsL_law_r5 : List Cond := [Cond.fieldLink RX6 35 "FrameCollapseModel" "group" "[I", Cond.fieldLink RX6 38 "FrameCollapseModel" "number" "[I", Cond.fieldLink RX6 41 "FrameCollapseModel" "row" "[J", Cond.fieldLink RX6 45 "FrameCollapseModel" "stair" "[J", Cond.fieldLink RX6 48 "FrameCollapseModel" "pivot" "[I", Cond.fieldLink RX6 51 "FrameCollapseModel" "set" "[I", Cond.fieldLink RX6 54 "FrameCollapseModel" "motion" "[J", Cond.arrayClass .boolean, Cond.fieldLink RX6 57 "FrameCollapseModel" "isSeen" "[Z", Cond.fieldLink RX6 61 "FrameCollapseModel" "tried" "[I", Cond.fieldLink RX6 64 "FrameCollapseModel" "way" "[J", Cond.fieldLink RX6 67 "FrameCollapseModel" "twist" "[J", Cond.fieldLink RX6 70 "FrameCollapseModel" "work" "[J", Cond.fieldLink RX6 73 "FrameCollapseModel" "rule" "[J", Cond.fieldLink RX6 76 "FrameCollapseModel" "left" "[J", Cond.fieldLink RX6 79 "FrameCollapseModel" "told" "[I", Cond.fieldLink RX6 82 "FrameCollapseModel" "changed" "I", Cond.fieldLink RX6 86 "FrameCollapseModel" "times" "[J", Cond.fieldLink RX6 89 "FrameCollapseModel" "free" "[I", Cond.fieldLink RX6 92 "FrameCollapseModel" "turn" "[J", Cond.fieldLink RX6 95 "FrameCollapseModel" "value" "[J", Cond.fieldLink RX6 98 "FrameCollapseModel" "sideUp" "[J", Cond.fieldLink RX6 101 "FrameCollapseModel" "sideLow" "[J", Cond.fieldLink RX6 104 "FrameCollapseModel" "isFound" "[Z"]
def wsL_law_r6 : List Cond := [Cond.fieldLink RX6 107 "FrameCollapseModel" "limit" "[I", Cond.fieldLink RX6 110 "FrameCollapseModel" "foundUp" "[J", Cond.fieldLink RX6 113 "FrameCollapseModel" "foundLow" "[J", Cond.fieldLink RX6 116 "FrameCollapseModel" "mostUp" "[J", Cond.fieldLink RX6 119 "FrameCollapseModel" "mostLow" "[J", Cond.fieldLink RX6 122 "FrameCollapseModel" "leastUp" "[J", Cond.fieldLink RX6 125 "FrameCollapseModel" "leastLow" "[J", Cond.fieldLink RX6 128 "FrameCollapseModel" "image" "[I", Cond.fieldLink RX6 131 "FrameCollapseModel" "isKept" "[Z", Cond.methodLink RL 13 yX5_node, Cond.instanceMethod yX5_node, Cond.selects RX5 yX5_node yX5_node, Cond.code yX5_node cX5_node 4 (some .int), Cond.methodLink RX5 46 yX5_within, Cond.static yX5_within, Cond.code yX5_within cX5_within 3 (some .boolean), Cond.methodLink RX5 50 yX2_nodeAt, Cond.instanceMethod yX2_nodeAt, Cond.selects RX2 yX2_nodeAt yX2_nodeAt, Cond.code yX2_nodeAt cX2_nodeAt 4 (some .boolean), Cond.fieldLink RX2 35 "FrameCollapse$Frame" "nodes" "I", Cond.methodLink RX5 58 yX5_forgetShape, Cond.instanceMethod yX5_forgetShape, Cond.selects RX5 yX5_forgetShape yX5_forgetShape]
def wsL_law_r7 : List Cond := [Cond.code yX5_forgetShape cX5_forgetShape 1 none, Cond.fieldLink RX5 238 "FrameCollapse" "shapeKnown" "Z", Cond.fieldLink RX5 95 "FrameCollapse" "balanceKnown" "Z", Cond.methodLink RX5 61 yX2_addNode, Cond.instanceMethod yX2_addNode, Cond.selects RX2 yX2_addNode yX2_addNode, Cond.code yX2_addNode cX2_addNode 4 (some .int), Cond.methodLink RL 17 yX6_node, Cond.instanceMethod yX6_node, Cond.selects RX6 yX6_node yX6_node, Cond.code yX6_node cX6_node 5 (some .int), Cond.fieldLink RX6 134 "FrameCollapseModel" "nodes" "I", Cond.methodLink RX6 137 yX6_in, Cond.static yX6_in, Cond.code yX6_in cX6_in 3 (some .boolean), Cond.methodLink RX6 144 yX6_forget, Cond.instanceMethod yX6_forget, Cond.selects RX6 yX6_forget yX6_forget, Cond.code yX6_forget cX6_forget 2 none, Cond.methodLink RL 18 yX5_hold, Cond.instanceMethod yX5_hold, Cond.selects RX5 yX5_hold yX5_hold, Cond.code yX5_hold cX5_hold 4 (some .int), Cond.methodLink RX5 65 yX5_isNode]
def wsL_law_r8 : List Cond := [Cond.instanceMethod yX5_isNode, Cond.selects RX5 yX5_isNode yX5_isNode, Cond.code yX5_isNode cX5_isNode 2 (some .boolean), Cond.methodLink RL 22 yX6_hold, Cond.instanceMethod yX6_hold, Cond.selects RX6 yX6_hold yX6_hold, Cond.code yX6_hold cX6_hold 4 (some .int), Cond.methodLink RX6 147 yX6_isNode, Cond.instanceMethod yX6_isNode, Cond.selects RX6 yX6_isNode yX6_isNode, Cond.code yX6_isNode cX6_isNode 2 (some .boolean), Cond.methodLink RL 23 yX5_bar, Cond.instanceMethod yX5_bar, Cond.selects RX5 yX5_bar yX5_bar, Cond.code yX5_bar cX5_bar 4 (some .int), Cond.methodLink RX5 73 yX2_canJoin, Cond.instanceMethod yX2_canJoin, Cond.selects RX2 yX2_canJoin yX2_canJoin, Cond.code yX2_canJoin cX2_canJoin 5 (some .boolean), Cond.methodLink RX5 76 yX2_barBetween, Cond.instanceMethod yX2_barBetween, Cond.selects RX2 yX2_barBetween yX2_barBetween, Cond.code yX2_barBetween cX2_barBetween 4 (some .boolean), Cond.fieldLink RX2 39 "FrameCollapse$Frame" "bars" "I"]
def wsL_law_r9 : List Cond := [Cond.methodLink RX5 82 yX2_addBar, Cond.instanceMethod yX2_addBar, Cond.selects RX2 yX2_addBar yX2_addBar, Cond.code yX2_addBar cX2_addBar 4 (some .int), Cond.methodLink RL 26 yX6_bar, Cond.instanceMethod yX6_bar, Cond.selects RX6 yX6_bar yX6_bar, Cond.code yX6_bar cX6_bar 9 (some .int), Cond.fieldLink RX6 141 "FrameCollapseModel" "bars" "I", Cond.methodLink RL 27 yX5_lift, Cond.instanceMethod yX5_lift, Cond.selects RX5 yX5_lift yX5_lift, Cond.code yX5_lift cX5_lift 2 (some .int), Cond.methodLink RX5 85 yX5_isBar, Cond.instanceMethod yX5_isBar, Cond.selects RX5 yX5_isBar yX5_isBar, Cond.code yX5_isBar cX5_isBar 2 (some .boolean), Cond.methodLink RX5 88 yX2_removeBar, Cond.instanceMethod yX2_removeBar, Cond.selects RX2 yX2_removeBar yX2_removeBar, Cond.code yX2_removeBar cX2_removeBar 3 (some .int), Cond.methodLink RL 31 yX6_lift, Cond.instanceMethod yX6_lift, Cond.selects RX6 yX6_lift yX6_lift]
def wsL_law_r10 : List Cond := [Cond.code yX6_lift cX6_lift 3 (some .int), Cond.methodLink RX6 151 yX6_isBar, Cond.instanceMethod yX6_isBar, Cond.selects RX6 yX6_isBar yX6_isBar, Cond.code yX6_isBar cX6_isBar 2 (some .boolean), Cond.methodLink RL 32 yX5_strengthen, Cond.instanceMethod yX5_strengthen, Cond.selects RX5 yX5_strengthen yX5_strengthen, Cond.code yX5_strengthen cX5_strengthen 4 (some .int), Cond.methodLink RL 35 yX6_strengthen, Cond.instanceMethod yX6_strengthen, Cond.selects RX6 yX6_strengthen yX6_strengthen, Cond.code yX6_strengthen cX6_strengthen 4 (some .int), Cond.methodLink RL 36 yX5_load, Cond.instanceMethod yX5_load, Cond.selects RX5 yX5_load yX5_load, Cond.code yX5_load cX5_load 5 (some .int), Cond.methodLink RX5 103 yX2_loadedNodes, Cond.instanceMethod yX2_loadedNodes, Cond.selects RX2 yX2_loadedNodes yX2_loadedNodes, Cond.code yX2_loadedNodes cX2_loadedNodes 4 (some .int), Cond.methodLink RL 40 yX6_load, Cond.instanceMethod yX6_load, Cond.selects RX6 yX6_load yX6_load]
def wsL_law_r11 : List Cond := [Cond.code yX6_load cX6_load 7 (some .int), Cond.methodLink RL 41 yX5_ofNode, Cond.instanceMethod yX5_ofNode, Cond.selects RX5 yX5_ofNode yX5_ofNode, Cond.code yX5_ofNode cX5_ofNode 3 (some .int), Cond.methodLink RL 44 yX6_ofNode, Cond.instanceMethod yX6_ofNode, Cond.selects RX6 yX6_ofNode yX6_ofNode, Cond.code yX6_ofNode cX6_ofNode 3 (some .int), Cond.methodLink RL 45 yX5_ofBar, Cond.instanceMethod yX5_ofBar, Cond.selects RX5 yX5_ofBar yX5_ofBar, Cond.code yX5_ofBar cX5_ofBar 3 (some .int), Cond.methodLink RX5 118 yX2_length, Cond.instanceMethod yX2_length, Cond.selects RX2 yX2_length yX2_length, Cond.code yX2_length cX2_length 2 (some .int), Cond.methodLink RX5 121 yX2_isVertical, Cond.instanceMethod yX2_isVertical, Cond.selects RX2 yX2_isVertical yX2_isVertical, Cond.code yX2_isVertical cX2_isVertical 2 (some .boolean), Cond.methodLink RL 48 yX6_ofBar, Cond.instanceMethod yX6_ofBar, Cond.selects RX6 yX6_ofBar yX6_ofBar]
def wsL_law_r12 : List Cond := [Cond.code yX6_ofBar cX6_ofBar 3 (some .int), Cond.methodLink RX6 154 yX6_length, Cond.instanceMethod yX6_length, Cond.selects RX6 yX6_length yX6_length, Cond.code yX6_length cX6_length 2 (some .int), Cond.methodLink RX6 158 yX6_lies, Cond.instanceMethod yX6_lies, Cond.selects RX6 yX6_lies yX6_lies, Cond.code yX6_lies cX6_lies 2 (some .boolean), Cond.methodLink RL 49 yX5_count, Cond.instanceMethod yX5_count, Cond.selects RX5 yX5_count yX5_count, Cond.code yX5_count cX5_count 2 (some .int), Cond.fieldLink RX5 143 "FrameCollapse" "keptImages" "I", Cond.methodLink RX5 124 yX5_refresh, Cond.instanceMethod yX5_refresh, Cond.selects RX5 yX5_refresh yX5_refresh, Cond.code yX5_refresh cX5_refresh 1 none, Cond.methodLink RX5 241 yX4_span, Cond.instanceMethod yX4_span, Cond.selects RX4 yX4_span yX4_span, Cond.code yX4_span cX4_span 3 none, Cond.fieldLink RX4 25 "FrameCollapse$Motions" "size" "I", Cond.fieldLink RX4 35 "FrameCollapse$Motions" "shifts" "I"]
def wsL_law_r13 : List Cond := [Cond.fieldLink RX4 32 "FrameCollapse$Motions" "ends" "I", Cond.methodLink RX4 43 yX4_addShifts, Cond.instanceMethod yX4_addShifts, Cond.selects RX4 yX4_addShifts yX4_addShifts, Cond.code yX4_addShifts cX4_addShifts 6 none, Cond.methodLink RX4 58 yX4_joinGroups, Cond.instanceMethod yX4_joinGroups, Cond.selects RX4 yX4_joinGroups yX4_joinGroups, Cond.code yX4_joinGroups cX4_joinGroups 7 none, Cond.methodLink RX4 78 yX2_isVertical, Cond.methodLink RX4 61 yJ7_fill_53178, Cond.static yJ7_fill_53178, Cond.initialized RJ7, Cond.code yJ7_fill_53178 cJ7_fill_53178 4 none, Cond.methodLink RX4 70 yX4_groupShifts, Cond.instanceMethod yX4_groupShifts, Cond.selects RX4 yX4_groupShifts yX4_groupShifts, Cond.code yX4_groupShifts cX4_groupShifts 6 (some .boolean), Cond.methodLink RX4 88 yX2_shifts, Cond.instanceMethod yX2_shifts, Cond.selects RX2 yX2_shifts yX2_shifts, Cond.code yX2_shifts cX2_shifts 3 (some .boolean), Cond.methodLink RX4 74 yX4_addShift, Cond.instanceMethod yX4_addShift]
def wsL_law_r14 : List Cond := [Cond.selects RX4 yX4_addShift yX4_addShift, Cond.code yX4_addShift cX4_addShift 10 none, Cond.constantLong RX4 94 (12), Cond.methodLink RX4 91 yJ7_fill_d0a16, Cond.static yJ7_fill_d0a16, Cond.code yJ7_fill_d0a16 cJ7_fill_d0a16 5 none, Cond.methodLink RX4 96 yX2_length, Cond.methodLink RX4 47 yX4_addTurns, Cond.instanceMethod yX4_addTurns, Cond.selects RX4 yX4_addTurns yX4_addTurns, Cond.code yX4_addTurns cX4_addTurns 5 none, Cond.methodLink RX4 100 yX2_turns, Cond.instanceMethod yX2_turns, Cond.selects RX2 yX2_turns yX2_turns, Cond.code yX2_turns cX2_turns 2 (some .boolean), Cond.methodLink RX4 51 yX4_simplify, Cond.instanceMethod yX4_simplify, Cond.selects RX4 yX4_simplify yX4_simplify, Cond.code yX4_simplify cX4_simplify 6 none, Cond.methodLink RX4 115 yX4_width, Cond.instanceMethod yX4_width, Cond.selects RX4 yX4_width yX4_width, Cond.code yX4_width cX4_width 1 (some .int), Cond.static yX5_gcd]
def wsL_law_r15 : List Cond := [Cond.code yX5_gcd cX5_gcd 11 (some .long), Cond.methodLink RX5 258 Lib.MathLoose.abs_long.x, Cond.static Lib.MathLoose.abs_long.x, Cond.initialized "java/lang/Math", Cond.code Lib.MathLoose.abs_long.x Lib.MathLoose.abs_long.code 2 (some .long), Cond.methodLink RX4 55 yX4_reduceRows, Cond.instanceMethod yX4_reduceRows, Cond.selects RX4 yX4_reduceRows yX4_reduceRows, Cond.code yX4_reduceRows cX4_reduceRows 4 none, Cond.fieldLink RX4 29 "FrameCollapse$Motions" "rank" "I", Cond.methodLink RX4 103 yX4_rowWith, Cond.instanceMethod yX4_rowWith, Cond.selects RX4 yX4_rowWith yX4_rowWith, Cond.code yX4_rowWith cX4_rowWith 5 (some .int), Cond.methodLink RX4 107 yX4_swapRows, Cond.instanceMethod yX4_swapRows, Cond.selects RX4 yX4_swapRows yX4_swapRows, Cond.code yX4_swapRows cX4_swapRows 7 none, Cond.methodLink RX4 111 yX4_cancel, Cond.instanceMethod yX4_cancel, Cond.selects RX4 yX4_cancel yX4_cancel, Cond.code yX4_cancel cX4_cancel 13 none, Cond.methodLink RX5 244 yX3_find, Cond.instanceMethod yX3_find]
def wsL_law_r16 : List Cond := [Cond.selects RX3 yX3_find yX3_find, Cond.code yX3_find cX3_find 1 none, Cond.fieldLink RX3 27 "FrameCollapse$Mechanisms" "found" "I", Cond.methodLink RX3 31 yX4_looseness, Cond.instanceMethod yX4_looseness, Cond.selects RX4 yX4_looseness yX4_looseness, Cond.code yX4_looseness cX4_looseness 1 (some .int), Cond.methodLink RX3 41 yX3_search, Cond.instanceMethod yX3_search, Cond.selects RX3 yX3_search yX3_search, Cond.code yX3_search cX3_search 8 none, Cond.methodLink RX3 48 yX3_keep, Cond.instanceMethod yX3_keep, Cond.selects RX3 yX3_keep yX3_keep, Cond.code yX3_keep cX3_keep 8 none, Cond.methodLink RX3 64 yJ6_numberOfTrailingZeros_0f7a4, Cond.static yJ6_numberOfTrailingZeros_0f7a4, Cond.initialized RJ6, Cond.code yJ6_numberOfTrailingZeros_0f7a4 cJ6_numberOfTrailingZeros_0f7a4 2 (some .int), Cond.constant RJ6 264 (65536), Cond.methodLink RX3 70 yX4_width, Cond.methodLink RX3 52 yX4_rowWith, Cond.methodLink RX3 56 yX4_cancel, Cond.methodLink RX3 60 yX3_allTwist]
def wsL_law_r17 : List Cond := [Cond.instanceMethod yX3_allTwist, Cond.selects RX3 yX3_allTwist yX3_allTwist, Cond.code yX3_allTwist cX3_allTwist 5 (some .boolean), Cond.methodLink RX5 247 yX0_weigh, Cond.instanceMethod yX0_weigh, Cond.selects RX0 yX0_weigh yX0_weigh, Cond.code yX0_weigh cX0_weigh 4 none, Cond.fieldLink RX0 53 "FrameCollapse$Balance" "bars" "I", Cond.methodLink RX0 55 arraycopyName, Cond.native arraycopyName, Cond.static arraycopyName, Cond.initialized "java/lang/System", Cond.methodLink RX0 64 yX3_bend, Cond.instanceMethod yX3_bend, Cond.selects RX3 yX3_bend yX3_bend, Cond.code yX3_bend cX3_bend 3 (some .long), Cond.methodLink RX3 73 Lib.MathLoose.abs_long.x, Cond.methodLink RX0 68 yX3_workOf, Cond.instanceMethod yX3_workOf, Cond.selects RX3 yX3_workOf yX3_workOf, Cond.code yX3_workOf cX3_workOf 10 (some .long), Cond.methodLink RX5 127 yX5_isLoose, Cond.instanceMethod yX5_isLoose, Cond.selects RX5 yX5_isLoose yX5_isLoose]
def wsL_law_r18 : List Cond := [Cond.code yX5_isLoose cX5_isLoose 1 (some .boolean), Cond.methodLink RX5 250 yX4_looseness, Cond.methodLink RX5 136 yX5_selfStressCount, Cond.instanceMethod yX5_selfStressCount, Cond.selects RX5 yX5_selfStressCount yX5_selfStressCount, Cond.code yX5_selfStressCount cX5_selfStressCount 1 (some .int), Cond.methodLink RX5 253 yX2_freedoms, Cond.instanceMethod yX2_freedoms, Cond.selects RX2 yX2_freedoms yX2_freedoms, Cond.code yX2_freedoms cX2_freedoms 3 (some .int), Cond.methodLink RX2 52 yX2_shifts, Cond.methodLink RX2 56 yX2_turns, Cond.methodLink RL 52 yX6_count, Cond.instanceMethod yX6_count, Cond.selects RX6 yX6_count yX6_count, Cond.code yX6_count cX6_count 3 (some .int), Cond.fieldLink RX6 165 "FrameCollapseModel" "motions" "I", Cond.fieldLink RX6 196 "FrameCollapseModel" "many" "I", Cond.methodLink RX6 307 yX6_isLoose, Cond.instanceMethod yX6_isLoose, Cond.selects RX6 yX6_isLoose yX6_isLoose, Cond.code yX6_isLoose cX6_isLoose 1 (some .boolean), Cond.fieldLink RX6 183 "FrameCollapseModel" "rank" "I", Cond.methodLink RX6 202 yX6_layNumbers]
def wsL_law_r19 : List Cond := [Cond.instanceMethod yX6_layNumbers, Cond.selects RX6 yX6_layNumbers yX6_layNumbers, Cond.code yX6_layNumbers cX6_layNumbers 6 none, Cond.methodLink RX6 161 yX6_join, Cond.instanceMethod yX6_join, Cond.selects RX6 yX6_join yX6_join, Cond.code yX6_join cX6_join 7 none, Cond.methodLink RX6 168 yX6_isHeld, Cond.instanceMethod yX6_isHeld, Cond.selects RX6 yX6_isHeld yX6_isHeld, Cond.code yX6_isHeld cX6_isHeld 3 (some .boolean), Cond.methodLink RX6 205 yX6_layRows, Cond.instanceMethod yX6_layRows, Cond.selects RX6 yX6_layRows yX6_layRows, Cond.code yX6_layRows cX6_layRows 3 none, Cond.methodLink RX6 172 yX6_addTo, Cond.instanceMethod yX6_addTo, Cond.selects RX6 yX6_addTo yX6_addTo, Cond.code yX6_addTo cX6_addTo 6 none, Cond.methodLink RX6 208 yX6_layRank, Cond.instanceMethod yX6_layRank, Cond.selects RX6 yX6_layRank yX6_layRank, Cond.code yX6_layRank cX6_layRank 2 none, Cond.methodLink RX6 186 yX6_isPut]
def wsL_law_r20 : List Cond := [Cond.instanceMethod yX6_isPut, Cond.selects RX6 yX6_isPut yX6_isPut, Cond.code yX6_isPut cX6_isPut 10 (some .boolean), Cond.methodLink RX6 176 yX6_shorten, Cond.instanceMethod yX6_shorten, Cond.selects RX6 yX6_shorten yX6_shorten, Cond.code yX6_shorten cX6_shorten 5 none, Cond.methodLink RX6 179 yX6_common, Cond.static yX6_common, Cond.code yX6_common cX6_common 11 (some .long), Cond.methodLink RX6 211 yX6_layMechanisms, Cond.instanceMethod yX6_layMechanisms, Cond.selects RX6 yX6_layMechanisms yX6_layMechanisms, Cond.code yX6_layMechanisms cX6_layMechanisms 4 none, Cond.methodLink RX6 199 yX6_keepWay, Cond.instanceMethod yX6_keepWay, Cond.selects RX6 yX6_keepWay yX6_keepWay, Cond.code yX6_keepWay cX6_keepWay 5 none, Cond.methodLink RX6 189 yX6_layWay, Cond.instanceMethod yX6_layWay, Cond.selects RX6 yX6_layWay yX6_layWay, Cond.code yX6_layWay cX6_layWay 11 none, Cond.methodLink RX6 192 yX6_twistBy, Cond.instanceMethod yX6_twistBy]
def wsL_law_r21 : List Cond := [Cond.selects RX6 yX6_twistBy yX6_twistBy, Cond.code yX6_twistBy cX6_twistBy 7 (some .long), Cond.methodLink RX6 313 yX6_restful, Cond.instanceMethod yX6_restful, Cond.selects RX6 yX6_restful yX6_restful, Cond.code yX6_restful cX6_restful 3 (some .int), Cond.methodLink RL 53 yX5_mechanism, Cond.instanceMethod yX5_mechanism, Cond.selects RX5 yX5_mechanism yX5_mechanism, Cond.code yX5_mechanism cX5_mechanism 2 (some .int), Cond.methodLink RX5 146 yX5_isMechanism, Cond.instanceMethod yX5_isMechanism, Cond.selects RX5 yX5_isMechanism yX5_isMechanism, Cond.code yX5_isMechanism cX5_isMechanism 2 (some .boolean), Cond.methodLink RL 56 yX6_mechanism, Cond.instanceMethod yX6_mechanism, Cond.selects RX6 yX6_mechanism yX6_mechanism, Cond.code yX6_mechanism cX6_mechanism 2 (some .int), Cond.methodLink RL 57 yX5_twist, Cond.instanceMethod yX5_twist, Cond.selects RX5 yX5_twist yX5_twist, Cond.code yX5_twist cX5_twist 4 (some .long), Cond.constantLong RX5 152 (-4000000000000000002), Cond.constantLong RX5 154 (-4000000000000000003)]
def wsL_law_r22 : List Cond := [Cond.constantLong RX5 159 (-4000000000000000001), Cond.methodLink RX5 156 yX5_isEnd, Cond.instanceMethod yX5_isEnd, Cond.selects RX5 yX5_isEnd yX5_isEnd, Cond.code yX5_isEnd cX5_isEnd 2 (some .boolean), Cond.methodLink RX5 161 yX3_twistOf, Cond.instanceMethod yX3_twistOf, Cond.selects RX3 yX3_twistOf yX3_twistOf, Cond.code yX3_twistOf cX3_twistOf 3 (some .long), Cond.methodLink RX5 165 yX3_lowestTwist, Cond.instanceMethod yX3_lowestTwist, Cond.selects RX3 yX3_lowestTwist yX3_lowestTwist, Cond.code yX3_lowestTwist cX3_lowestTwist 3 (some .long), Cond.methodLink RX5 169 yX1_put, Cond.instanceMethod yX1_put, Cond.selects RX1 yX1_put yX1_put, Cond.code yX1_put cX1_put 5 none, Cond.fieldLink RX1 13 "FrameCollapse$Fraction" "top" "J", Cond.methodLink RX5 173 yX1_lowestTerm, Cond.instanceMethod yX1_lowestTerm, Cond.selects RX1 yX1_lowestTerm yX1_lowestTerm, Cond.code yX1_lowestTerm cX1_lowestTerm 2 (some .long), Cond.methodLink RX1 22 yX1_reduce, Cond.instanceMethod yX1_reduce]
def wsL_law_r23 : List Cond := [Cond.selects RX1 yX1_reduce yX1_reduce, Cond.code yX1_reduce cX1_reduce 3 none, Cond.methodLink RL 61 yX6_twist, Cond.instanceMethod yX6_twist, Cond.selects RX6 yX6_twist yX6_twist, Cond.code yX6_twist cX6_twist 9 (some .long), Cond.constantLong RX6 317 (-4000000000000000002), Cond.constantLong RX6 319 (-4000000000000000003), Cond.constantLong RX6 324 (-4000000000000000001), Cond.methodLink RX6 321 yX6_isEnd, Cond.instanceMethod yX6_isEnd, Cond.selects RX6 yX6_isEnd yX6_isEnd, Cond.code yX6_isEnd cX6_isEnd 2 (some .boolean), Cond.methodLink RX6 326 yX6_layOne, Cond.instanceMethod yX6_layOne, Cond.selects RX6 yX6_layOne yX6_layOne, Cond.code yX6_layOne cX6_layOne 4 none, Cond.fieldLink RX6 214 "FrameCollapseModel" "strain" "J", Cond.constantLong RX6 218 (12), Cond.methodLink RX6 220 yX6_goes, Cond.instanceMethod yX6_goes, Cond.selects RX6 yX6_goes yX6_goes, Cond.code yX6_goes cX6_goes 5 (some .long), Cond.methodLink RX6 300 yX6_part]
def wsL_law_r24 : List Cond := [Cond.static yX6_part, Cond.code yX6_part cX6_part 7 (some .long), Cond.methodLink RL 62 yX5_bound, Cond.instanceMethod yX5_bound, Cond.selects RX5 yX5_bound yX5_bound, Cond.code yX5_bound cX5_bound 4 (some .long), Cond.constantLong RX5 182 (-4000000000000000005), Cond.methodLink RX5 176 yX5_isFactored, Cond.static yX5_isFactored, Cond.code yX5_isFactored cX5_isFactored 1 (some .boolean), Cond.methodLink RX5 179 yX0_findBounds, Cond.instanceMethod yX0_findBounds, Cond.selects RX0 yX0_findBounds yX0_findBounds, Cond.code yX0_findBounds cX0_findBounds 7 (some .boolean), Cond.methodLink RX0 80 Lib.MathLoose.abs_long.x, Cond.methodLink RX0 86 yX1_put, Cond.methodLink RX5 184 yX0_extreme, Cond.instanceMethod yX0_extreme, Cond.selects RX0 yX0_extreme yX0_extreme, Cond.code yX0_extreme cX0_extreme 2 (some .long), Cond.methodLink RX0 72 yX0_limit, Cond.instanceMethod yX0_limit, Cond.selects RX0 yX0_limit yX0_limit, Cond.code yX0_limit cX0_limit 2 (some (.object "FrameCollapse$Fraction"))]
def wsL_law_r25 : List Cond := [Cond.methodLink RX0 76 yX1_lowestTerm, Cond.methodLink RL 65 yX6_bound, Cond.instanceMethod yX6_bound, Cond.selects RX6 yX6_bound yX6_bound, Cond.code yX6_bound cX6_bound 8 (some .long), Cond.constantLong RX6 332 (-4000000000000000005), Cond.methodLink RX6 329 yX6_isCase, Cond.static yX6_isCase, Cond.code yX6_isCase cX6_isCase 1 (some .boolean), Cond.methodLink RL 66 yX5_limits, Cond.instanceMethod yX5_limits, Cond.selects RX5 yX5_limits yX5_limits, Cond.code yX5_limits cX5_limits 2 (some .int), Cond.methodLink RX5 187 yX0_range, Cond.instanceMethod yX0_range, Cond.selects RX0 yX0_range yX0_range, Cond.code yX0_range cX0_range 12 (some .int), Cond.methodLink RX0 90 yX0_lower, Cond.instanceMethod yX0_lower, Cond.selects RX0 yX0_lower yX0_lower, Cond.code yX0_lower cX0_lower 6 none, Cond.methodLink RX0 97 yX1_isBelow, Cond.instanceMethod yX1_isBelow, Cond.selects RX1 yX1_isBelow yX1_isBelow]
def wsL_law_r26 : List Cond := [Cond.code yX1_isBelow cX1_isBelow 19 (some .boolean), Cond.methodLink RX1 25 yJ9_floorDiv_f86c9, Cond.static yJ9_floorDiv_f86c9, Cond.initialized RJ9, Cond.code yJ9_floorDiv_f86c9 cJ9_floorDiv_f86c9 6 (some .long), Cond.methodLink RX0 101 yX1_copyFrom, Cond.instanceMethod yX1_copyFrom, Cond.selects RX1 yX1_copyFrom yX1_copyFrom, Cond.code yX1_copyFrom cX1_copyFrom 2 none, Cond.methodLink RX0 94 yX0_raise, Cond.instanceMethod yX0_raise, Cond.selects RX0 yX0_raise yX0_raise, Cond.code yX0_raise cX0_raise 6 none, Cond.methodLink RL 69 yX6_limits, Cond.instanceMethod yX6_limits, Cond.selects RX6 yX6_limits yX6_limits, Cond.code yX6_limits cX6_limits 2 (some .int), Cond.methodLink RX6 310 yX6_limitOf, Cond.instanceMethod yX6_limitOf, Cond.selects RX6 yX6_limitOf yX6_limitOf, Cond.code yX6_limitOf cX6_limitOf 3 (some .int), Cond.methodLink RX6 304 yX6_lookFor, Cond.instanceMethod yX6_lookFor, Cond.selects RX6 yX6_lookFor yX6_lookFor]
def wsL_law_r27 : List Cond := [Cond.code yX6_lookFor cX6_lookFor 8 (some .int), Cond.fieldLink RX6 230 "FrameCollapseModel" "base" "J", Cond.constantLong RX6 290 (-12), Cond.methodLink RX6 283 yX6_layRules, Cond.instanceMethod yX6_layRules, Cond.selects RX6 yX6_layRules yX6_layRules, Cond.code yX6_layRules cX6_layRules 4 none, Cond.methodLink RX6 286 yX6_isBorne, Cond.instanceMethod yX6_isBorne, Cond.selects RX6 yX6_isBorne yX6_isBorne, Cond.code yX6_isBorne cX6_isBorne 11 (some .boolean), Cond.methodLink RX6 263 yX6_take, Cond.instanceMethod yX6_take, Cond.selects RX6 yX6_take yX6_take, Cond.code yX6_take cX6_take 9 none, Cond.fieldLink RX6 240 "FrameCollapseModel" "by" "J", Cond.methodLink RX6 267 yX6_bits, Cond.static yX6_bits, Cond.code yX6_bits cX6_bits 3 (some .int), Cond.methodLink RX6 270 yX6_isSolved, Cond.instanceMethod yX6_isSolved, Cond.selects RX6 yX6_isSolved yX6_isSolved, Cond.code yX6_isSolved cX6_isSolved 5 (some .boolean), Cond.methodLink RX6 233 yX6_swap]
def wsL_law_r28 : List Cond := [Cond.instanceMethod yX6_swap, Cond.selects RX6 yX6_swap yX6_swap, Cond.code yX6_swap cX6_swap 6 none, Cond.methodLink RX6 237 yX6_clear, Cond.instanceMethod yX6_clear, Cond.selects RX6 yX6_clear yX6_clear, Cond.code yX6_clear cX6_clear 9 none, Cond.methodLink RX6 273 yX6_begin, Cond.instanceMethod yX6_begin, Cond.selects RX6 yX6_begin yX6_begin, Cond.code yX6_begin cX6_begin 5 none, Cond.fieldLink RX6 243 "FrameCollapseModel" "columns" "I", Cond.fieldLink RX6 246 "FrameCollapseModel" "frees" "I", Cond.fieldLink RX6 249 "FrameCollapseModel" "signs" "I", Cond.fieldLink RX6 252 "FrameCollapseModel" "step" "I", Cond.methodLink RX6 255 yX6_strengthOf, Cond.instanceMethod yX6_strengthOf, Cond.selects RX6 yX6_strengthOf yX6_strengthOf, Cond.code yX6_strengthOf cX6_strengthOf 2 (some .long), Cond.fieldLink RX6 227 "FrameCollapseModel" "changedTo" "I", Cond.methodLink RX6 276 yX6_isWithin, Cond.instanceMethod yX6_isWithin, Cond.selects RX6 yX6_isWithin yX6_isWithin, Cond.code yX6_isWithin cX6_isWithin 4 (some .boolean)]
def wsL_law_r29 : List Cond := [Cond.methodLink RX6 280 yX6_isNext, Cond.instanceMethod yX6_isNext, Cond.selects RX6 yX6_isNext yX6_isNext, Cond.code yX6_isNext cX6_isNext 3 (some .boolean), Cond.constantLong RX6 259 (2), Cond.constantLong RX6 261 (-2), Cond.methodLink RX6 292 yX6_takeSide, Cond.instanceMethod yX6_takeSide, Cond.selects RX6 yX6_takeSide yX6_takeSide, Cond.code yX6_takeSide cX6_takeSide 8 none, Cond.methodLink RX6 296 yX6_compare, Cond.static yX6_compare, Cond.code yX6_compare cX6_compare 26 (some .int), Cond.methodLink RX6 224 yX6_floor, Cond.static yX6_floor, Cond.code yX6_floor cX6_floor 6 (some .long), Cond.methodLink RL 70 yX5_factor, Cond.instanceMethod yX5_factor, Cond.selects RX5 yX5_factor yX5_factor, Cond.code yX5_factor cX5_factor 5 (some .long), Cond.constantLong RX5 194 (-4000000000000000000), Cond.methodLink RX5 190 yX5_limitError, Cond.instanceMethod yX5_limitError, Cond.selects RX5 yX5_limitError yX5_limitError]
def wsL_law_r30 : List Cond := [Cond.code yX5_limitError cX5_limitError 3 (some .int), Cond.methodLink RX5 196 yX0_limit, Cond.methodLink RL 73 yX6_factor, Cond.instanceMethod yX6_factor, Cond.selects RX6 yX6_factor yX6_factor, Cond.code yX6_factor cX6_factor 5 (some .long), Cond.constantLong RX6 337 (-4000000000000000000), Cond.methodLink RX6 334 yX6_refusal, Cond.instanceMethod yX6_refusal, Cond.selects RX6 yX6_refusal yX6_refusal, Cond.code yX6_refusal cX6_refusal 2 (some .int), Cond.methodLink RL 74 yX5_near, Cond.instanceMethod yX5_near, Cond.selects RX5 yX5_near yX5_near, Cond.code yX5_near cX5_near 4 (some .int), Cond.methodLink RX5 200 yX1_asFloat, Cond.instanceMethod yX1_asFloat, Cond.selects RX1 yX1_asFloat yX1_asFloat, Cond.code yX1_asFloat cX1_asFloat 1 (some .float), Cond.methodLink RX5 204 yX5_bitsOf, Cond.static yX5_bitsOf, Cond.code yX5_bitsOf cX5_bitsOf 4 (some .int), Cond.constantFloat RX5 256 (1258291200), Cond.constant RX5 257 (-2147483648)]
def wsL_law_r31 : List Cond := [Cond.methodLink RL 77 yX6_near, Cond.instanceMethod yX6_near, Cond.selects RX6 yX6_near yX6_near, Cond.code yX6_near cX6_near 4 (some .int), Cond.methodLink RX6 339 yJxf58ca_floatToIntBits_5c35a, Cond.static yJxf58ca_floatToIntBits_5c35a, Cond.initialized RJxf58ca, Cond.code yJxf58ca_floatToIntBits_5c35a cJxf58ca_floatToIntBits_5c35a 1 (some .int), Cond.methodLink RJxf58ca 74 ⟨"java/lang/Float", "floatToRawIntBits", "(F)I"⟩, Cond.native ⟨"java/lang/Float", "floatToRawIntBits", "(F)I"⟩, Cond.static ⟨"java/lang/Float", "floatToRawIntBits", "(F)I"⟩, Cond.initialized "java/lang/Float", Cond.constant RJxf58ca 77 (2143289344), Cond.methodLink RJxf58ca 59 yJxf58ca_isNaN_12338, Cond.static yJxf58ca_isNaN_12338, Cond.code yJxf58ca_isNaN_12338 cJxf58ca_isNaN_12338 1 (some .boolean), Cond.methodLink RL 78 yX5_bears, Cond.instanceMethod yX5_bears, Cond.selects RX5 yX5_bears yX5_bears, Cond.code yX5_bears cX5_bears 4 (some .int), Cond.methodLink RX5 208 yX0_carries, Cond.instanceMethod yX0_carries, Cond.selects RX0 yX0_carries yX0_carries, Cond.code yX0_carries cX0_carries 7 (some .boolean)]
def wsL_law_r32 : List Cond := [Cond.methodLink RL 81 yX6_bears, Cond.instanceMethod yX6_bears, Cond.selects RX6 yX6_bears yX6_bears, Cond.code yX6_bears cX6_bears 4 (some .int), Cond.methodLink RL 82 yX5_moment, Cond.instanceMethod yX5_moment, Cond.selects RX5 yX5_moment yX5_moment, Cond.code yX5_moment cX5_moment 6 (some .long), Cond.methodLink RX5 211 yX0_takeLimitLoads, Cond.instanceMethod yX0_takeLimitLoads, Cond.selects RX0 yX0_takeLimitLoads yX0_takeLimitLoads, Cond.code yX0_takeLimitLoads cX0_takeLimitLoads 3 none, Cond.fieldLink RX0 105 "FrameCollapse$Balance" "limitCase" "I", Cond.fieldLink RX0 108 "FrameCollapse$Balance" "limitOne" "J", Cond.fieldLink RX0 112 "FrameCollapse$Balance" "limitUnit" "J", Cond.methodLink RX5 215 yX0_findMoments, Cond.instanceMethod yX0_findMoments, Cond.selects RX0 yX0_findMoments yX0_findMoments, Cond.code yX0_findMoments cX0_findMoments 12 none, Cond.methodLink RX0 115 yX3_twistOf, Cond.methodLink RX0 118 yX0_limitWork, Cond.instanceMethod yX0_limitWork, Cond.selects RX0 yX0_limitWork yX0_limitWork, Cond.code yX0_limitWork cX0_limitWork 2 (some .long)]
def wsL_law_r33 : List Cond := [Cond.methodLink RL 86 yX6_moment, Cond.instanceMethod yX6_moment, Cond.selects RX6 yX6_moment yX6_moment, Cond.code yX6_moment cX6_moment 6 (some .long), Cond.methodLink RX6 352 yX6_layMoments, Cond.instanceMethod yX6_layMoments, Cond.selects RX6 yX6_layMoments yX6_layMoments, Cond.code yX6_layMoments cX6_layMoments 10 none, Cond.methodLink RX6 348 yX6_takeMoments, Cond.instanceMethod yX6_takeMoments, Cond.selects RX6 yX6_takeMoments yX6_takeMoments, Cond.code yX6_takeMoments cX6_takeMoments 5 none, Cond.methodLink RX6 345 yX6_takeMoment, Cond.instanceMethod yX6_takeMoment, Cond.selects RX6 yX6_takeMoment yX6_takeMoment, Cond.code yX6_takeMoment cX6_takeMoment 11 none, Cond.methodLink RL 87 yX5_yields, Cond.instanceMethod yX5_yields, Cond.selects RX5 yX5_yields yX5_yields, Cond.code yX5_yields cX5_yields 4 (some .int), Cond.methodLink RX5 219 yX0_yieldingEnds, Cond.instanceMethod yX0_yieldingEnds, Cond.selects RX0 yX0_yieldingEnds yX0_yieldingEnds, Cond.code yX0_yieldingEnds cX0_yieldingEnds 4 (some .int)]
def wsL_law_r34 : List Cond := [Cond.methodLink RX0 121 yX0_findMoments, Cond.methodLink RX0 125 yX1_isWhole, Cond.instanceMethod yX1_isWhole, Cond.selects RX1 yX1_isWhole yX1_isWhole, Cond.code yX1_isWhole cX1_isWhole 2 (some .boolean), Cond.methodLink RL 90 yX6_yields, Cond.instanceMethod yX6_yields, Cond.selects RX6 yX6_yields yX6_yields, Cond.code yX6_yields cX6_yields 8 (some .int), Cond.methodLink RL 91 yX5_binding, Cond.instanceMethod yX5_binding, Cond.selects RX5 yX5_binding yX5_binding, Cond.code yX5_binding cX5_binding 5 (some .int), Cond.methodLink RX5 222 yX0_criticalCount, Cond.instanceMethod yX0_criticalCount, Cond.selects RX0 yX0_criticalCount yX0_criticalCount, Cond.code yX0_criticalCount cX0_criticalCount 3 (some .int), Cond.methodLink RX0 129 yX0_isCritical, Cond.instanceMethod yX0_isCritical, Cond.selects RX0 yX0_isCritical yX0_isCritical, Cond.code yX0_isCritical cX0_isCritical 2 (some .boolean), Cond.methodLink RX5 225 yX0_lowestCritical, Cond.instanceMethod yX0_lowestCritical, Cond.selects RX0 yX0_lowestCritical yX0_lowestCritical]
def wsL_law_r35 : List Cond := [Cond.code yX0_lowestCritical cX0_lowestCritical 2 (some .int), Cond.methodLink RL 94 yX6_binding, Cond.instanceMethod yX6_binding, Cond.selects RX6 yX6_binding yX6_binding, Cond.code yX6_binding cX6_binding 14 (some .int), Cond.methodLink RL 95 yX5_spare, Cond.instanceMethod yX5_spare, Cond.selects RX5 yX5_spare yX5_spare, Cond.code yX5_spare cX5_spare 4 (some .int), Cond.methodLink RX5 228 yX0_spareStrength, Cond.instanceMethod yX0_spareStrength, Cond.selects RX0 yX0_spareStrength yX0_spareStrength, Cond.code yX0_spareStrength cX0_spareStrength 4 (some .int), Cond.methodLink RX0 132 yX0_range, Cond.methodLink RX0 136 yX1_isSame, Cond.instanceMethod yX1_isSame, Cond.selects RX1 yX1_isSame yX1_isSame, Cond.code yX1_isSame cX1_isSame 2 (some .boolean), Cond.methodLink RX1 30 yX1_isBelow, Cond.methodLink RL 98 yX6_spare, Cond.instanceMethod yX6_spare, Cond.selects RX6 yX6_spare yX6_spare, Cond.code yX6_spare cX6_spare 6 (some .int), Cond.methodLink RL 99 yX5_weakest]
def wsL_law_r36 : List Cond := [Cond.instanceMethod yX5_weakest, Cond.selects RX5 yX5_weakest yX5_weakest, Cond.code yX5_weakest cX5_weakest 3 (some .int), Cond.methodLink RX5 231 yX0_weakestBar, Cond.instanceMethod yX0_weakestBar, Cond.selects RX0 yX0_weakestBar yX0_weakestBar, Cond.code yX0_weakestBar cX0_weakestBar 4 (some .int), Cond.methodLink RL 102 yX6_weakest, Cond.instanceMethod yX6_weakest, Cond.selects RX6 yX6_weakest yX6_weakest, Cond.code yX6_weakest cX6_weakest 9 (some .int), Cond.methodLink RL 103 yX5_image, Cond.instanceMethod yX5_image, Cond.selects RX5 yX5_image yX5_image, Cond.code yX5_image cX5_image 2 (some .int), Cond.methodLink RX5 234 yX2_copyFrom, Cond.instanceMethod yX2_copyFrom, Cond.selects RX2 yX2_copyFrom yX2_copyFrom, Cond.code yX2_copyFrom cX2_copyFrom 3 none, Cond.methodLink RX2 42 arraycopyName, Cond.methodLink RL 106 yX6_image, Cond.instanceMethod yX6_image, Cond.selects RX6 yX6_image yX6_image, Cond.code yX6_image cX6_image 4 (some .int)]
def wsL_law_r37 : List Cond := [Cond.methodLink RL 107 yX5_restore, Cond.instanceMethod yX5_restore, Cond.selects RX5 yX5_restore yX5_restore, Cond.code yX5_restore cX5_restore 2 (some .int), Cond.methodLink RL 110 yX6_restore, Cond.instanceMethod yX6_restore, Cond.selects RX6 yX6_restore yX6_restore, Cond.code yX6_restore cX6_restore 4 (some .int)]
def wsL_law : List Cond := (wsL_law_r1 ++ (wsL_law_r2 ++ (wsL_law_r3 ++ (wsL_law_r4 ++ (wsL_law_r5 ++ (wsL_law_r6 ++ (wsL_law_r7 ++ (wsL_law_r8 ++ (wsL_law_r9 ++ (wsL_law_r10 ++ (wsL_law_r11 ++ (wsL_law_r12 ++ (wsL_law_r13 ++ (wsL_law_r14 ++ (wsL_law_r15 ++ (wsL_law_r16 ++ (wsL_law_r17 ++ (wsL_law_r18 ++ (wsL_law_r19 ++ (wsL_law_r20 ++ (wsL_law_r21 ++ (wsL_law_r22 ++ (wsL_law_r23 ++ (wsL_law_r24 ++ (wsL_law_r25 ++ (wsL_law_r26 ++ (wsL_law_r27 ++ (wsL_law_r28 ++ (wsL_law_r29 ++ (wsL_law_r30 ++ (wsL_law_r31 ++ (wsL_law_r32 ++ (wsL_law_r33 ++ (wsL_law_r34 ++ (wsL_law_r35 ++ (wsL_law_r36 ++ wsL_law_r37)))))))))))))))))))))))))))))))))))) ++ wsX50 ++ wsX60 ++ wsX20 ++ wsX00 ++ wsX30 ++ wsX10 ++ wsX40 ++ ([] : List Cond)
theorem inlX0 : ∀ w ∈ wsX00, w ∈ wsL_law := fun _ h => List.mem_append_left _ (List.mem_append_left _ (List.mem_append_left _ (List.mem_append_left _ (List.mem_append_right _ h))))
theorem inlX1 : ∀ w ∈ wsX10, w ∈ wsL_law := fun _ h => List.mem_append_left _ (List.mem_append_left _ (List.mem_append_right _ h))
theorem inlX2 : ∀ w ∈ wsX20, w ∈ wsL_law := fun _ h => List.mem_append_left _ (List.mem_append_left _ (List.mem_append_left _ (List.mem_append_left _ (List.mem_append_left _ (List.mem_append_right _ h)))))
theorem inlX3 : ∀ w ∈ wsX30, w ∈ wsL_law := fun _ h => List.mem_append_left _ (List.mem_append_left _ (List.mem_append_left _ (List.mem_append_right _ h)))
theorem inlX4 : ∀ w ∈ wsX40, w ∈ wsL_law := fun _ h => List.mem_append_left _ (List.mem_append_right _ h)
theorem inlX5 : ∀ w ∈ wsX50, w ∈ wsL_law := fun _ h => List.mem_append_left _ (List.mem_append_left _ (List.mem_append_left _ (List.mem_append_left _ (List.mem_append_left _ (List.mem_append_left _ (List.mem_append_left _ (List.mem_append_right _ h)))))))
theorem inlX6 : ∀ w ∈ wsX60, w ∈ wsL_law := fun _ h => List.mem_append_left _ (List.mem_append_left _ (List.mem_append_left _ (List.mem_append_left _ (List.mem_append_left _ (List.mem_append_left _ (List.mem_append_right _ h))))))
abbrev vwCl : List vw_C := [(RX0, TX0, 12), (RX1, TX1, 2), (RX2, TX2, 9), (RX3, TX3, 4), (RX4, TX4, 7), (RX5, TX5, 9), (RX6, TX6, 53)]
