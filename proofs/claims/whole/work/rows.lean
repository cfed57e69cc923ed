section
/-- a private method of a class that the tables say can be made, by its rows of tables_1 -/
def lw_okq (q : MethodName × Nat) : Prop := (q.1.cls ≠ "java/lang/invoke/MethodHandle" ∧ q.1.cls ≠ "java/lang/invoke/VarHandle") ∧ Cond.instantiable q.1.cls q.2 ∈ tables_1 ∧ Cond.privateMethod q.1 ∈ tables_1 ∧ Cond.instanceMethod q.1 ∈ tables_1
theorem lw_p0 : lw_okq (⟨"TwinRuns", "forget", "()V"⟩, 9) := ⟨⟨by decide +kernel, by decide +kernel⟩, List.mem_of_getElem? (i := 16) (by decide +kernel), List.mem_of_getElem? (i := 321) (by decide +kernel), List.mem_of_getElem? (i := 322) (by decide +kernel)⟩
theorem lw_p1 : lw_okq (⟨"TwinRuns$Program", "stateAt", "(II)I"⟩, 16) := ⟨⟨by decide +kernel, by decide +kernel⟩, List.mem_of_getElem? (i := 45) (by decide +kernel), List.mem_of_getElem? (i := 352) (by decide +kernel), List.mem_of_getElem? (i := 353) (by decide +kernel)⟩
theorem lw_p2 : lw_okq (⟨"TwinRuns", "isSaying", "(I)Z"⟩, 9) := ⟨⟨by decide +kernel, by decide +kernel⟩, List.mem_of_getElem? (i := 16) (by decide +kernel), List.mem_of_getElem? (i := 418) (by decide +kernel), List.mem_of_getElem? (i := 419) (by decide +kernel)⟩
theorem lw_p3 : lw_okq (⟨"TwinRuns$Saying", "deniedFrom", "(III)I"⟩, 4) := ⟨⟨by decide +kernel, by decide +kernel⟩, List.mem_of_getElem? (i := 115) (by decide +kernel), List.mem_of_getElem? (i := 430) (by decide +kernel), List.mem_of_getElem? (i := 431) (by decide +kernel)⟩
theorem lw_p4 : lw_okq (⟨"TwinRuns$Pairs", "judgeStart", "(ILTwinRuns$Program;)V"⟩, 6) := ⟨⟨by decide +kernel, by decide +kernel⟩, List.mem_of_getElem? (i := 161) (by decide +kernel), List.mem_of_getElem? (i := 467) (by decide +kernel), List.mem_of_getElem? (i := 468) (by decide +kernel)⟩
theorem lw_p5 : lw_okq (⟨"TwinRuns", "makeWalk", "(III)V"⟩, 9) := ⟨⟨by decide +kernel, by decide +kernel⟩, List.mem_of_getElem? (i := 16) (by decide +kernel), List.mem_of_getElem? (i := 492) (by decide +kernel), List.mem_of_getElem? (i := 493) (by decide +kernel)⟩
theorem lw_p6 : lw_okq (⟨"TwinRuns$Walker", "walkPair", "(LTwinRuns$Program;ILTwinRuns$Program;I)I"⟩, 11) := ⟨⟨by decide +kernel, by decide +kernel⟩, List.mem_of_getElem? (i := 207) (by decide +kernel), List.mem_of_getElem? (i := 502) (by decide +kernel), List.mem_of_getElem? (i := 503) (by decide +kernel)⟩
theorem lw_p7 : lw_okq (⟨"TwinRuns$Walker", "standAt", "(II)I"⟩, 11) := ⟨⟨by decide +kernel, by decide +kernel⟩, List.mem_of_getElem? (i := 207) (by decide +kernel), List.mem_of_getElem? (i := 506) (by decide +kernel), List.mem_of_getElem? (i := 507) (by decide +kernel)⟩
theorem lw_p8 : lw_okq (⟨"TwinRuns$Walker", "isKept", "(LTwinRuns$Program;LTwinRuns$Program;I)Z"⟩, 11) := ⟨⟨by decide +kernel, by decide +kernel⟩, List.mem_of_getElem? (i := 207) (by decide +kernel), List.mem_of_getElem? (i := 541) (by decide +kernel), List.mem_of_getElem? (i := 542) (by decide +kernel)⟩
theorem lw_p9 : lw_okq (⟨"TwinRuns$Walker", "moveAll", "(LTwinRuns$Program;LTwinRuns$Program;I)V"⟩, 11) := ⟨⟨by decide +kernel, by decide +kernel⟩, List.mem_of_getElem? (i := 207) (by decide +kernel), List.mem_of_getElem? (i := 545) (by decide +kernel), List.mem_of_getElem? (i := 546) (by decide +kernel)⟩
theorem lw_p10 : lw_okq (⟨"TwinRuns$Walker", "askNext", "(I)Z"⟩, 11) := ⟨⟨by decide +kernel, by decide +kernel⟩, List.mem_of_getElem? (i := 207) (by decide +kernel), List.mem_of_getElem? (i := 553) (by decide +kernel), List.mem_of_getElem? (i := 554) (by decide +kernel)⟩
theorem lw_p11 : lw_okq (⟨"TwinRuns$Walker", "areKept", "(I)Z"⟩, 11) := ⟨⟨by decide +kernel, by decide +kernel⟩, List.mem_of_getElem? (i := 207) (by decide +kernel), List.mem_of_getElem? (i := 561) (by decide +kernel), List.mem_of_getElem? (i := 562) (by decide +kernel)⟩
theorem lw_p12 : lw_okq (⟨"TwinRuns$Silencer", "joinAll", "(LTwinRuns$Saying;LTwinRuns$Program;)Z"⟩, 3) := ⟨⟨by decide +kernel, by decide +kernel⟩, List.mem_of_getElem? (i := 191) (by decide +kernel), List.mem_of_getElem? (i := 586) (by decide +kernel), List.mem_of_getElem? (i := 587) (by decide +kernel)⟩
theorem lw_p13 : lw_okq (⟨"TwinRuns$Silencer", "joinStart", "(LTwinRuns$Program;I)Z"⟩, 3) := ⟨⟨by decide +kernel, by decide +kernel⟩, List.mem_of_getElem? (i := 191) (by decide +kernel), List.mem_of_getElem? (i := 592) (by decide +kernel), List.mem_of_getElem? (i := 593) (by decide +kernel)⟩
theorem lw_p14 : lw_okq (⟨"TwinRuns$Silencer", "join", "(II)V"⟩, 3) := ⟨⟨by decide +kernel, by decide +kernel⟩, List.mem_of_getElem? (i := 191) (by decide +kernel), List.mem_of_getElem? (i := 598) (by decide +kernel), List.mem_of_getElem? (i := 599) (by decide +kernel)⟩
theorem lw_p15 : lw_okq (⟨"TwinRuns$Silencer", "isAlike", "(LTwinRuns$Program;I)Z"⟩, 3) := ⟨⟨by decide +kernel, by decide +kernel⟩, List.mem_of_getElem? (i := 191) (by decide +kernel), List.mem_of_getElem? (i := 605) (by decide +kernel), List.mem_of_getElem? (i := 606) (by decide +kernel)⟩
def lw_privs_1 : List (MethodName × Nat) := [(⟨"TwinRuns", "forget", "()V"⟩, 9), (⟨"TwinRuns$Program", "stateAt", "(II)I"⟩, 16), (⟨"TwinRuns", "isSaying", "(I)Z"⟩, 9), (⟨"TwinRuns$Saying", "deniedFrom", "(III)I"⟩, 4), (⟨"TwinRuns$Pairs", "judgeStart", "(ILTwinRuns$Program;)V"⟩, 6), (⟨"TwinRuns", "makeWalk", "(III)V"⟩, 9), (⟨"TwinRuns$Walker", "walkPair", "(LTwinRuns$Program;ILTwinRuns$Program;I)I"⟩, 11), (⟨"TwinRuns$Walker", "standAt", "(II)I"⟩, 11), (⟨"TwinRuns$Walker", "isKept", "(LTwinRuns$Program;LTwinRuns$Program;I)Z"⟩, 11), (⟨"TwinRuns$Walker", "moveAll", "(LTwinRuns$Program;LTwinRuns$Program;I)V"⟩, 11), (⟨"TwinRuns$Walker", "askNext", "(I)Z"⟩, 11), (⟨"TwinRuns$Walker", "areKept", "(I)Z"⟩, 11), (⟨"TwinRuns$Silencer", "joinAll", "(LTwinRuns$Saying;LTwinRuns$Program;)Z"⟩, 3), (⟨"TwinRuns$Silencer", "joinStart", "(LTwinRuns$Program;I)Z"⟩, 3), (⟨"TwinRuns$Silencer", "join", "(II)V"⟩, 3), (⟨"TwinRuns$Silencer", "isAlike", "(LTwinRuns$Program;I)Z"⟩, 3)]
theorem lw_r1 : ∀ q ∈ lw_privs_1, lw_okq q := List.forall_mem_cons.mpr ⟨lw_p0, List.forall_mem_cons.mpr ⟨lw_p1, List.forall_mem_cons.mpr ⟨lw_p2, List.forall_mem_cons.mpr ⟨lw_p3, List.forall_mem_cons.mpr ⟨lw_p4, List.forall_mem_cons.mpr ⟨lw_p5, List.forall_mem_cons.mpr ⟨lw_p6, List.forall_mem_cons.mpr ⟨lw_p7, List.forall_mem_cons.mpr ⟨lw_p8, List.forall_mem_cons.mpr ⟨lw_p9, List.forall_mem_cons.mpr ⟨lw_p10, List.forall_mem_cons.mpr ⟨lw_p11, List.forall_mem_cons.mpr ⟨lw_p12, List.forall_mem_cons.mpr ⟨lw_p13, List.forall_mem_cons.mpr ⟨lw_p14, List.forall_mem_cons.mpr ⟨lw_p15, fun _ h => absurd h List.not_mem_nil⟩⟩⟩⟩⟩⟩⟩⟩⟩⟩⟩⟩⟩⟩⟩⟩
theorem lw_p16 : lw_okq (⟨"TwinRuns$Program", "isSameLine", "(LTwinRuns$Program;I)Z"⟩, 16) := ⟨⟨by decide +kernel, by decide +kernel⟩, List.mem_of_getElem? (i := 45) (by decide +kernel), List.mem_of_getElem? (i := 642) (by decide +kernel), List.mem_of_getElem? (i := 643) (by decide +kernel)⟩
theorem lw_p17 : lw_okq (⟨"TwinRuns$Meeting", "add", "(III)V"⟩, 4) := ⟨⟨by decide +kernel, by decide +kernel⟩, List.mem_of_getElem? (i := 255) (by decide +kernel), List.mem_of_getElem? (i := 659) (by decide +kernel), List.mem_of_getElem? (i := 660) (by decide +kernel)⟩
theorem lw_p18 : lw_okq (⟨"TwinRuns$Meeting", "isSeen", "(I)Z"⟩, 4) := ⟨⟨by decide +kernel, by decide +kernel⟩, List.mem_of_getElem? (i := 255) (by decide +kernel), List.mem_of_getElem? (i := 663) (by decide +kernel), List.mem_of_getElem? (i := 664) (by decide +kernel)⟩
theorem lw_p19 : lw_okq (⟨"TwinRunsModel", "lay", "(IIIII)V"⟩, 47) := ⟨⟨by decide +kernel, by decide +kernel⟩, List.mem_of_getElem? (i := 686) (by decide +kernel), List.mem_of_getElem? (i := 861) (by decide +kernel), List.mem_of_getElem? (i := 862) (by decide +kernel)⟩
theorem lw_p20 : lw_okq (⟨"TwinRunsModel", "isOther", "(I)V"⟩, 47) := ⟨⟨by decide +kernel, by decide +kernel⟩, List.mem_of_getElem? (i := 686) (by decide +kernel), List.mem_of_getElem? (i := 865) (by decide +kernel), List.mem_of_getElem? (i := 866) (by decide +kernel)⟩
theorem lw_p21 : lw_okq (⟨"TwinRunsModel", "runOne", "(III)V"⟩, 47) := ⟨⟨by decide +kernel, by decide +kernel⟩, List.mem_of_getElem? (i := 686) (by decide +kernel), List.mem_of_getElem? (i := 892) (by decide +kernel), List.mem_of_getElem? (i := 893) (by decide +kernel)⟩
theorem lw_p22 : lw_okq (⟨"TwinRunsModel", "layTable", "(I)V"⟩, 47) := ⟨⟨by decide +kernel, by decide +kernel⟩, List.mem_of_getElem? (i := 686) (by decide +kernel), List.mem_of_getElem? (i := 896) (by decide +kernel), List.mem_of_getElem? (i := 897) (by decide +kernel)⟩
theorem lw_p23 : lw_okq (⟨"TwinRunsModel", "work", "(III)V"⟩, 47) := ⟨⟨by decide +kernel, by decide +kernel⟩, List.mem_of_getElem? (i := 686) (by decide +kernel), List.mem_of_getElem? (i := 900) (by decide +kernel), List.mem_of_getElem? (i := 901) (by decide +kernel)⟩
theorem lw_p24 : lw_okq (⟨"TwinRunsModel", "held", "(II)I"⟩, 47) := ⟨⟨by decide +kernel, by decide +kernel⟩, List.mem_of_getElem? (i := 686) (by decide +kernel), List.mem_of_getElem? (i := 904) (by decide +kernel), List.mem_of_getElem? (i := 905) (by decide +kernel)⟩
theorem lw_p25 : lw_okq (⟨"TwinRunsModel", "step", "(III)V"⟩, 47) := ⟨⟨by decide +kernel, by decide +kernel⟩, List.mem_of_getElem? (i := 686) (by decide +kernel), List.mem_of_getElem? (i := 911) (by decide +kernel), List.mem_of_getElem? (i := 912) (by decide +kernel)⟩
theorem lw_p26 : lw_okq (⟨"TwinRunsModel", "isSaying", "(I)Z"⟩, 47) := ⟨⟨by decide +kernel, by decide +kernel⟩, List.mem_of_getElem? (i := 686) (by decide +kernel), List.mem_of_getElem? (i := 951) (by decide +kernel), List.mem_of_getElem? (i := 952) (by decide +kernel)⟩
theorem lw_p27 : lw_okq (⟨"TwinRunsModel", "isMeant", "(III)Z"⟩, 47) := ⟨⟨by decide +kernel, by decide +kernel⟩, List.mem_of_getElem? (i := 686) (by decide +kernel), List.mem_of_getElem? (i := 955) (by decide +kernel), List.mem_of_getElem? (i := 956) (by decide +kernel)⟩
theorem lw_p28 : lw_okq (⟨"TwinRunsModel", "markOf", "(I)I"⟩, 47) := ⟨⟨by decide +kernel, by decide +kernel⟩, List.mem_of_getElem? (i := 686) (by decide +kernel), List.mem_of_getElem? (i := 959) (by decide +kernel), List.mem_of_getElem? (i := 960) (by decide +kernel)⟩
theorem lw_p29 : lw_okq (⟨"TwinRunsModel", "allStand", "(IIII)Z"⟩, 47) := ⟨⟨by decide +kernel, by decide +kernel⟩, List.mem_of_getElem? (i := 686) (by decide +kernel), List.mem_of_getElem? (i := 963) (by decide +kernel), List.mem_of_getElem? (i := 964) (by decide +kernel)⟩
theorem lw_p30 : lw_okq (⟨"TwinRunsModel", "isAsSaid", "(III)Z"⟩, 47) := ⟨⟨by decide +kernel, by decide +kernel⟩, List.mem_of_getElem? (i := 686) (by decide +kernel), List.mem_of_getElem? (i := 970) (by decide +kernel), List.mem_of_getElem? (i := 971) (by decide +kernel)⟩
theorem lw_p31 : lw_okq (⟨"TwinRunsModel", "areShownAlike", "(III)Z"⟩, 47) := ⟨⟨by decide +kernel, by decide +kernel⟩, List.mem_of_getElem? (i := 686) (by decide +kernel), List.mem_of_getElem? (i := 974) (by decide +kernel), List.mem_of_getElem? (i := 975) (by decide +kernel)⟩
def lw_privs_2 : List (MethodName × Nat) := [(⟨"TwinRuns$Program", "isSameLine", "(LTwinRuns$Program;I)Z"⟩, 16), (⟨"TwinRuns$Meeting", "add", "(III)V"⟩, 4), (⟨"TwinRuns$Meeting", "isSeen", "(I)Z"⟩, 4), (⟨"TwinRunsModel", "lay", "(IIIII)V"⟩, 47), (⟨"TwinRunsModel", "isOther", "(I)V"⟩, 47), (⟨"TwinRunsModel", "runOne", "(III)V"⟩, 47), (⟨"TwinRunsModel", "layTable", "(I)V"⟩, 47), (⟨"TwinRunsModel", "work", "(III)V"⟩, 47), (⟨"TwinRunsModel", "held", "(II)I"⟩, 47), (⟨"TwinRunsModel", "step", "(III)V"⟩, 47), (⟨"TwinRunsModel", "isSaying", "(I)Z"⟩, 47), (⟨"TwinRunsModel", "isMeant", "(III)Z"⟩, 47), (⟨"TwinRunsModel", "markOf", "(I)I"⟩, 47), (⟨"TwinRunsModel", "allStand", "(IIII)Z"⟩, 47), (⟨"TwinRunsModel", "isAsSaid", "(III)Z"⟩, 47), (⟨"TwinRunsModel", "areShownAlike", "(III)Z"⟩, 47)]
theorem lw_r2 : ∀ q ∈ lw_privs_2, lw_okq q := List.forall_mem_cons.mpr ⟨lw_p16, List.forall_mem_cons.mpr ⟨lw_p17, List.forall_mem_cons.mpr ⟨lw_p18, List.forall_mem_cons.mpr ⟨lw_p19, List.forall_mem_cons.mpr ⟨lw_p20, List.forall_mem_cons.mpr ⟨lw_p21, List.forall_mem_cons.mpr ⟨lw_p22, List.forall_mem_cons.mpr ⟨lw_p23, List.forall_mem_cons.mpr ⟨lw_p24, List.forall_mem_cons.mpr ⟨lw_p25, List.forall_mem_cons.mpr ⟨lw_p26, List.forall_mem_cons.mpr ⟨lw_p27, List.forall_mem_cons.mpr ⟨lw_p28, List.forall_mem_cons.mpr ⟨lw_p29, List.forall_mem_cons.mpr ⟨lw_p30, List.forall_mem_cons.mpr ⟨lw_p31, fun _ h => absurd h List.not_mem_nil⟩⟩⟩⟩⟩⟩⟩⟩⟩⟩⟩⟩⟩⟩⟩⟩
theorem lw_p32 : lw_okq (⟨"TwinRunsModel", "runAll", "(II)V"⟩, 47) := ⟨⟨by decide +kernel, by decide +kernel⟩, List.mem_of_getElem? (i := 686) (by decide +kernel), List.mem_of_getElem? (i := 982) (by decide +kernel), List.mem_of_getElem? (i := 983) (by decide +kernel)⟩
theorem lw_p33 : lw_okq (⟨"TwinRunsModel", "findPairs", "(I)V"⟩, 47) := ⟨⟨by decide +kernel, by decide +kernel⟩, List.mem_of_getElem? (i := 686) (by decide +kernel), List.mem_of_getElem? (i := 986) (by decide +kernel), List.mem_of_getElem? (i := 987) (by decide +kernel)⟩
theorem lw_p34 : lw_okq (⟨"TwinRunsModel", "beginBoth", "(IIII)V"⟩, 47) := ⟨⟨by decide +kernel, by decide +kernel⟩, List.mem_of_getElem? (i := 686) (by decide +kernel), List.mem_of_getElem? (i := 994) (by decide +kernel), List.mem_of_getElem? (i := 995) (by decide +kernel)⟩
theorem lw_p35 : lw_okq (⟨"TwinRunsModel", "stepFirst", "(I)V"⟩, 47) := ⟨⟨by decide +kernel, by decide +kernel⟩, List.mem_of_getElem? (i := 686) (by decide +kernel), List.mem_of_getElem? (i := 998) (by decide +kernel), List.mem_of_getElem? (i := 999) (by decide +kernel)⟩
theorem lw_p36 : lw_okq (⟨"TwinRunsModel", "stepSecond", "(I)V"⟩, 47) := ⟨⟨by decide +kernel, by decide +kernel⟩, List.mem_of_getElem? (i := 686) (by decide +kernel), List.mem_of_getElem? (i := 1002) (by decide +kernel), List.mem_of_getElem? (i := 1003) (by decide +kernel)⟩
theorem lw_p37 : lw_okq (⟨"TwinRunsModel", "walkAll", "(III)V"⟩, 47) := ⟨⟨by decide +kernel, by decide +kernel⟩, List.mem_of_getElem? (i := 686) (by decide +kernel), List.mem_of_getElem? (i := 1016) (by decide +kernel), List.mem_of_getElem? (i := 1017) (by decide +kernel)⟩
theorem lw_p38 : lw_okq (⟨"TwinRunsModel", "walkOne", "(II)V"⟩, 47) := ⟨⟨by decide +kernel, by decide +kernel⟩, List.mem_of_getElem? (i := 686) (by decide +kernel), List.mem_of_getElem? (i := 1020) (by decide +kernel), List.mem_of_getElem? (i := 1021) (by decide +kernel)⟩
theorem lw_p39 : lw_okq (⟨"TwinRunsModel", "standThere", "()V"⟩, 47) := ⟨⟨by decide +kernel, by decide +kernel⟩, List.mem_of_getElem? (i := 686) (by decide +kernel), List.mem_of_getElem? (i := 1024) (by decide +kernel), List.mem_of_getElem? (i := 1025) (by decide +kernel)⟩
theorem lw_p40 : lw_okq (⟨"TwinRunsModel", "moverAt", "(II)I"⟩, 47) := ⟨⟨by decide +kernel, by decide +kernel⟩, List.mem_of_getElem? (i := 686) (by decide +kernel), List.mem_of_getElem? (i := 1028) (by decide +kernel), List.mem_of_getElem? (i := 1029) (by decide +kernel)⟩
theorem lw_p41 : lw_okq (⟨"TwinRunsModel", "isKept", "(IIII)Z"⟩, 47) := ⟨⟨by decide +kernel, by decide +kernel⟩, List.mem_of_getElem? (i := 686) (by decide +kernel), List.mem_of_getElem? (i := 1047) (by decide +kernel), List.mem_of_getElem? (i := 1048) (by decide +kernel)⟩
theorem lw_p42 : lw_okq (⟨"TwinRunsModel", "bestSilence", "(III)I"⟩, 47) := ⟨⟨by decide +kernel, by decide +kernel⟩, List.mem_of_getElem? (i := 686) (by decide +kernel), List.mem_of_getElem? (i := 1058) (by decide +kernel), List.mem_of_getElem? (i := 1059) (by decide +kernel)⟩
theorem lw_p43 : lw_okq (⟨"TwinRunsModel", "noneBroken", "(I)Z"⟩, 47) := ⟨⟨by decide +kernel, by decide +kernel⟩, List.mem_of_getElem? (i := 686) (by decide +kernel), List.mem_of_getElem? (i := 1062) (by decide +kernel), List.mem_of_getElem? (i := 1063) (by decide +kernel)⟩
theorem lw_p44 : lw_okq (⟨"TwinRunsModel", "unlikeLines", "(II)I"⟩, 47) := ⟨⟨by decide +kernel, by decide +kernel⟩, List.mem_of_getElem? (i := 686) (by decide +kernel), List.mem_of_getElem? (i := 1083) (by decide +kernel), List.mem_of_getElem? (i := 1084) (by decide +kernel)⟩
theorem lw_p45 : lw_okq (⟨"TwinRunsModel", "findOrders", "(III)V"⟩, 47) := ⟨⟨by decide +kernel, by decide +kernel⟩, List.mem_of_getElem? (i := 686) (by decide +kernel), List.mem_of_getElem? (i := 1092) (by decide +kernel), List.mem_of_getElem? (i := 1093) (by decide +kernel)⟩
theorem lw_p46 : lw_okq (⟨"TwinRunsModel", "come", "(III)V"⟩, 47) := ⟨⟨by decide +kernel, by decide +kernel⟩, List.mem_of_getElem? (i := 686) (by decide +kernel), List.mem_of_getElem? (i := 1096) (by decide +kernel), List.mem_of_getElem? (i := 1097) (by decide +kernel)⟩
def lw_privs_3 : List (MethodName × Nat) := [(⟨"TwinRunsModel", "runAll", "(II)V"⟩, 47), (⟨"TwinRunsModel", "findPairs", "(I)V"⟩, 47), (⟨"TwinRunsModel", "beginBoth", "(IIII)V"⟩, 47), (⟨"TwinRunsModel", "stepFirst", "(I)V"⟩, 47), (⟨"TwinRunsModel", "stepSecond", "(I)V"⟩, 47), (⟨"TwinRunsModel", "walkAll", "(III)V"⟩, 47), (⟨"TwinRunsModel", "walkOne", "(II)V"⟩, 47), (⟨"TwinRunsModel", "standThere", "()V"⟩, 47), (⟨"TwinRunsModel", "moverAt", "(II)I"⟩, 47), (⟨"TwinRunsModel", "isKept", "(IIII)Z"⟩, 47), (⟨"TwinRunsModel", "bestSilence", "(III)I"⟩, 47), (⟨"TwinRunsModel", "noneBroken", "(I)Z"⟩, 47), (⟨"TwinRunsModel", "unlikeLines", "(II)I"⟩, 47), (⟨"TwinRunsModel", "findOrders", "(III)V"⟩, 47), (⟨"TwinRunsModel", "come", "(III)V"⟩, 47)]
theorem lw_r3 : ∀ q ∈ lw_privs_3, lw_okq q := List.forall_mem_cons.mpr ⟨lw_p32, List.forall_mem_cons.mpr ⟨lw_p33, List.forall_mem_cons.mpr ⟨lw_p34, List.forall_mem_cons.mpr ⟨lw_p35, List.forall_mem_cons.mpr ⟨lw_p36, List.forall_mem_cons.mpr ⟨lw_p37, List.forall_mem_cons.mpr ⟨lw_p38, List.forall_mem_cons.mpr ⟨lw_p39, List.forall_mem_cons.mpr ⟨lw_p40, List.forall_mem_cons.mpr ⟨lw_p41, List.forall_mem_cons.mpr ⟨lw_p42, List.forall_mem_cons.mpr ⟨lw_p43, List.forall_mem_cons.mpr ⟨lw_p44, List.forall_mem_cons.mpr ⟨lw_p45, List.forall_mem_cons.mpr ⟨lw_p46, fun _ h => absurd h List.not_mem_nil⟩⟩⟩⟩⟩⟩⟩⟩⟩⟩⟩⟩⟩⟩⟩
def lw_privs : List (MethodName × Nat) := lw_privs_1 ++ (lw_privs_2 ++ (lw_privs_3))
def lw_tbl : List Cond := k2_sels lw_privs ++ tables_1
theorem lw_privs_ok : ∀ q ∈ lw_privs, lw_okq q := by
  show ∀ q ∈ lw_privs_1 ++ (lw_privs_2 ++ (lw_privs_3)), lw_okq q
  exact List.forall_mem_append.mpr ⟨lw_r1, List.forall_mem_append.mpr ⟨lw_r2, lw_r3⟩⟩
end
section
theorem goodIn_r {big : List Cond} (ws : List Cond) (ps : List Nat) (hp : ws = ps.filterMap (fun i => big[i]?)) (h : ws.all goodWord = true) : GoodIn big ws := by
  intro w hw
  have h1 := List.all_eq_true.mp h w hw
  rw [hp] at hw
  obtain ⟨i, -, hi⟩ := List.mem_filterMap.mp hw
  have hm : w ∈ big := by first | exact List.mem_of_getElem? hi | exact List.getElem?_mem hi
  exact ⟨hm, good_of_word h1⟩
theorem goodIn_app {big a b : List Cond} (ha : GoodIn big a) (hb : GoodIn big b) : GoodIn big (a ++ b) := fun w h => (List.mem_append.mp h).elim (ha w) (hb w)
theorem goodIn_ca {big a b : List Cond} {c : Cond} (ha : GoodIn big (c :: a)) (hb : GoodIn big b) : GoodIn big (c :: (a ++ b)) := fun w h => (List.mem_cons.mp h).elim (fun e => ha w (List.mem_cons.mpr (Or.inl e))) (fun h => (List.mem_append.mp h).elim (fun h => ha w (List.mem_cons.mpr (Or.inr h))) (hb w))
theorem goodIn_sub {big ws : List Cond} (hm : ∀ w ∈ ws, w ∈ big) (h : ws.all goodWord = true) : GoodIn big ws := fun w hw => ⟨hm w hw, good_of_word (List.all_eq_true.mp h w hw)⟩

def RX0 : String := "TwinRuns$Asked"
def TX0 : u_T := fun k => match k with
  | 0 => ("TwinRuns$Asked", "forms", "LTwinRuns$Forms;", true)
  | 1 => ("TwinRuns$Asked", "deniedAhead", "I", false)
  | 2 => ("TwinRuns$Asked", "deniedBehind", "I", false)
  | 3 => ("TwinRuns$Asked", "comesTo", "J", false)
  | _ => ("TwinRuns$Asked", "alike", "J", false)
def tyX0 : Nat → FieldType := fun k => match k with
  | 0 => .object "TwinRuns$Forms"
  | 1 => .int
  | 2 => .int
  | 3 => .long
  | _ => .long
abbrev wsX00 : List Cond := u_ws RX0 TX0 5
theorem nmX0 : ∀ a, a < 5 → ∀ b, b < 5 → a ≠ b → (TX0 a).2.1 ≠ (TX0 b).2.1 := by decide +kernel
theorem tyX0_ok : ∀ k, k < 5 → parseFieldDescriptor (TX0 k).2.2.1 = some (tyX0 k) := by decide +kernel
abbrev cX0_init : ByteArray := prog_2_method_1_code
def yX0_init : MethodName := ⟨RX0, "<init>", "(LTwinRuns$Forms;)V"⟩
abbrev cX0_take : ByteArray := prog_2_method_2_code
def yX0_take : MethodName := ⟨RX0, "take", "(LTwinRuns$Saying;LTwinRuns$Program;I)V"⟩
abbrev cX0_isMeant : ByteArray := prog_2_method_3_code
def yX0_isMeant : MethodName := ⟨RX0, "isMeant", "(I)Z"⟩
abbrev cX0_isBroken : ByteArray := prog_2_method_4_code
def yX0_isBroken : MethodName := ⟨RX0, "isBroken", "(LTwinRuns$Program;I)Z"⟩
def RX1 : String := "TwinRuns$Forms"
def TX1 : u_T := fun k => match k with
  | 0 => ("TwinRuns$Forms", "hot", "[I", true)
  | _ => ("TwinRuns$Forms", "lanes", "[I", true)
def tyX1 : Nat → FieldType := fun k => match k with
  | 0 => .array .int
  | _ => .array .int
abbrev wsX10 : List Cond := u_ws RX1 TX1 2
theorem nmX1 : ∀ a, a < 2 → ∀ b, b < 2 → a ≠ b → (TX1 a).2.1 ≠ (TX1 b).2.1 := by decide +kernel
theorem tyX1_ok : ∀ k, k < 2 → parseFieldDescriptor (TX1 k).2.2.1 = some (tyX1 k) := by decide +kernel
abbrev cX1_init : ByteArray := prog_3_method_1_code
def yX1_init : MethodName := ⟨RX1, "<init>", "()V"⟩
abbrev cX1_shapeOf : ByteArray := prog_3_method_2_code
def yX1_shapeOf : MethodName := ⟨RX1, "shapeOf", "(II)I"⟩
abbrev cX1_deniedBy : ByteArray := prog_3_method_3_code
def yX1_deniedBy : MethodName := ⟨RX1, "deniedBy", "(II)I"⟩
def RX2 : String := "TwinRuns$Meeting"
def TX2 : u_T := fun k => match k with
  | 0 => ("TwinRuns$Meeting", "key", "I", false)
  | 1 => ("TwinRuns$Meeting", "queue", "[I", true)
  | 2 => ("TwinRuns$Meeting", "reached", "I", false)
  | _ => ("TwinRuns$Meeting", "seen", "[J", true)
def tyX2 : Nat → FieldType := fun k => match k with
  | 0 => .int
  | 1 => .array .int
  | 2 => .int
  | _ => .array .long
abbrev wsX20 : List Cond := u_ws RX2 TX2 4
theorem nmX2 : ∀ a, a < 4 → ∀ b, b < 4 → a ≠ b → (TX2 a).2.1 ≠ (TX2 b).2.1 := by decide +kernel
theorem tyX2_ok : ∀ k, k < 4 → parseFieldDescriptor (TX2 k).2.2.1 = some (tyX2 k) := by decide +kernel
abbrev cX2_init : ByteArray := prog_4_method_1_code
def yX2_init : MethodName := ⟨RX2, "<init>", "()V"⟩
abbrev cX2_reach : ByteArray := prog_4_method_2_code
def yX2_reach : MethodName := ⟨RX2, "reach", "(LTwinRuns$Program;LTwinRuns$Program;I)V"⟩
abbrev cX2_add : ByteArray := prog_4_method_3_code
def yX2_add : MethodName := ⟨RX2, "add", "(III)V"⟩
abbrev cX2_isSeen : ByteArray := prog_4_method_4_code
def yX2_isSeen : MethodName := ⟨RX2, "isSeen", "(I)Z"⟩
abbrev cX2_isEnd : ByteArray := prog_4_method_5_code
def yX2_isEnd : MethodName := ⟨RX2, "isEnd", "(I)Z"⟩
abbrev cX2_countEnds : ByteArray := prog_4_method_6_code
def yX2_countEnds : MethodName := ⟨RX2, "countEnds", "()I"⟩
abbrev cX2_leastEnd : ByteArray := prog_4_method_7_code
def yX2_leastEnd : MethodName := ⟨RX2, "leastEnd", "()I"⟩
def RX3 : String := "TwinRuns$Pairs"
def TX3 : u_T := fun k => match k with
  | 0 => ("TwinRuns$Pairs", "asked", "LTwinRuns$Asked;", true)
  | 1 => ("TwinRuns$Pairs", "key", "I", false)
  | 2 => ("TwinRuns$Pairs", "broken", "I", false)
  | 3 => ("TwinRuns$Pairs", "firstBroken", "I", false)
  | 4 => ("TwinRuns$Pairs", "meant", "I", false)
  | _ => ("TwinRuns$Pairs", "lone", "I", false)
def tyX3 : Nat → FieldType := fun k => match k with
  | 0 => .object "TwinRuns$Asked"
  | 1 => .int
  | 2 => .int
  | 3 => .int
  | 4 => .int
  | _ => .int
abbrev wsX30 : List Cond := u_ws RX3 TX3 6
theorem nmX3 : ∀ a, a < 6 → ∀ b, b < 6 → a ≠ b → (TX3 a).2.1 ≠ (TX3 b).2.1 := by decide +kernel
theorem tyX3_ok : ∀ k, k < 6 → parseFieldDescriptor (TX3 k).2.2.1 = some (tyX3 k) := by decide +kernel
abbrev cX3_init : ByteArray := prog_5_method_1_code
def yX3_init : MethodName := ⟨RX3, "<init>", "(LTwinRuns$Asked;)V"⟩
abbrev cX3_judge : ByteArray := prog_5_method_2_code
def yX3_judge : MethodName := ⟨RX3, "judge", "(LTwinRuns$Saying;LTwinRuns$Program;LTwinRuns$Program;)V"⟩
abbrev cX3_judgeStart : ByteArray := prog_5_method_3_code
def yX3_judgeStart : MethodName := ⟨RX3, "judgeStart", "(ILTwinRuns$Program;)V"⟩
def RX4 : String := "TwinRuns$Program"
def TX4 : u_T := fun k => match k with
  | 0 => ("TwinRuns$Program", "forms", "LTwinRuns$Forms;", true)
  | 1 => ("TwinRuns$Program", "act", "[I", true)
  | 2 => ("TwinRuns$Program", "a", "[I", true)
  | 3 => ("TwinRuns$Program", "b", "[I", true)
  | 4 => ("TwinRuns$Program", "c", "[I", true)
  | 5 => ("TwinRuns$Program", "size", "I", false)
  | 6 => ("TwinRuns$Program", "hushed", "I", false)
  | 7 => ("TwinRuns$Program", "age", "I", false)
  | 8 => ("TwinRuns$Program", "madeAt", "[I", true)
  | 9 => ("TwinRuns$Program", "states", "[I", true)
  | 10 => ("TwinRuns$Program", "endOf", "[I", true)
  | 11 => ("TwinRuns$Program", "lastOf", "[I", true)
  | 12 => ("TwinRuns$Program", "hotOf", "[I", true)
  | 13 => ("TwinRuns$Program", "stepsOf", "[I", true)
  | 14 => ("TwinRuns$Program", "showedOf", "[I", true)
  | _ => ("TwinRuns$Program", "comesTo", "[J", true)
def tyX4 : Nat → FieldType := fun k => match k with
  | 0 => .object "TwinRuns$Forms"
  | 1 => .array .int
  | 2 => .array .int
  | 3 => .array .int
  | 4 => .array .int
  | 5 => .int
  | 6 => .int
  | 7 => .int
  | 8 => .array .int
  | 9 => .array .int
  | 10 => .array .int
  | 11 => .array .int
  | 12 => .array .int
  | 13 => .array .int
  | 14 => .array .int
  | _ => .array .long
abbrev wsX40 : List Cond := u_ws RX4 TX4 16
theorem nmX4 : ∀ a, a < 16 → ∀ b, b < 16 → a ≠ b → (TX4 a).2.1 ≠ (TX4 b).2.1 := by decide +kernel
theorem tyX4_ok : ∀ k, k < 16 → parseFieldDescriptor (TX4 k).2.2.1 = some (tyX4 k) := by decide +kernel
abbrev cX4_init : ByteArray := prog_6_method_1_code
def yX4_init : MethodName := ⟨RX4, "<init>", "(LTwinRuns$Forms;)V"⟩
abbrev cX4_put : ByteArray := prog_6_method_2_code
def yX4_put : MethodName := ⟨RX4, "put", "(IIIII)V"⟩
abbrev cX4_hush : ByteArray := prog_6_method_3_code
def yX4_hush : MethodName := ⟨RX4, "hush", "(I)V"⟩
abbrev cX4_stateAt : ByteArray := prog_6_method_4_code
def yX4_stateAt : MethodName := ⟨RX4, "stateAt", "(II)I"⟩
abbrev cX4_stepped : ByteArray := prog_6_method_5_code
def yX4_stepped : MethodName := ⟨RX4, "stepped", "(II)I"⟩
abbrev cX4_steppedState : ByteArray := prog_6_method_6_code
def yX4_steppedState : MethodName := ⟨RX4, "steppedState", "(II)I"⟩
abbrev cX4_traceAll : ByteArray := prog_6_method_7_code
def yX4_traceAll : MethodName := ⟨RX4, "traceAll", "()V"⟩
abbrev cX4_trace : ByteArray := prog_6_method_8_code
def yX4_trace : MethodName := ⟨RX4, "trace", "(I)V"⟩
abbrev cX4_shownUnder : ByteArray := prog_6_method_9_code
def yX4_shownUnder : MethodName := ⟨RX4, "shownUnder", "(II)J"⟩
abbrev cX4_countShown : ByteArray := prog_6_method_10_code
def yX4_countShown : MethodName := ⟨RX4, "countShown", "(J)I"⟩
abbrev cX4_shownAt : ByteArray := prog_6_method_11_code
def yX4_shownAt : MethodName := ⟨RX4, "shownAt", "(II)I"⟩
abbrev cX4_beginAlike : ByteArray := prog_6_method_12_code
def yX4_beginAlike : MethodName := ⟨RX4, "beginAlike", "(III)Z"⟩
abbrev cX4_lineAhead : ByteArray := prog_6_method_13_code
def yX4_lineAhead : MethodName := ⟨RX4, "lineAhead", "(II)I"⟩
abbrev cX4_loudLines : ByteArray := prog_6_method_14_code
def yX4_loudLines : MethodName := ⟨RX4, "loudLines", "()I"⟩
abbrev cX4_unlikeLines : ByteArray := prog_6_method_15_code
def yX4_unlikeLines : MethodName := ⟨RX4, "unlikeLines", "(LTwinRuns$Program;)I"⟩
abbrev cX4_isSameLine : ByteArray := prog_6_method_16_code
def yX4_isSameLine : MethodName := ⟨RX4, "isSameLine", "(LTwinRuns$Program;I)Z"⟩
def RX5 : String := "TwinRuns$Saying"
def TX5 : u_T := fun k => match k with
  | 0 => ("TwinRuns$Saying", "signs", "[I", true)
  | 1 => ("TwinRuns$Saying", "size", "I", false)
  | 2 => ("TwinRuns$Saying", "alike", "J", false)
  | _ => ("TwinRuns$Saying", "colon", "I", false)
def tyX5 : Nat → FieldType := fun k => match k with
  | 0 => .array .int
  | 1 => .int
  | 2 => .long
  | _ => .int
abbrev wsX50 : List Cond := u_ws RX5 TX5 4
theorem nmX5 : ∀ a, a < 4 → ∀ b, b < 4 → a ≠ b → (TX5 a).2.1 ≠ (TX5 b).2.1 := by decide +kernel
theorem tyX5_ok : ∀ k, k < 4 → parseFieldDescriptor (TX5 k).2.2.1 = some (tyX5 k) := by decide +kernel
abbrev cX5_init : ByteArray := prog_7_method_1_code
def yX5_init : MethodName := ⟨RX5, "<init>", "()V"⟩
abbrev cX5_firstFault : ByteArray := prog_7_method_2_code
def yX5_firstFault : MethodName := ⟨RX5, "firstFault", "()I"⟩
abbrev cX5_dueBehind : ByteArray := prog_7_method_3_code
def yX5_dueBehind : MethodName := ⟨RX5, "dueBehind", "(IIZ)I"⟩
abbrev cX5_isLetter : ByteArray := prog_7_method_4_code
def yX5_isLetter : MethodName := ⟨RX5, "isLetter", "(I)Z"⟩
abbrev cX5_alikePart : ByteArray := prog_7_method_5_code
def yX5_alikePart : MethodName := ⟨RX5, "alikePart", "(I)J"⟩
abbrev cX5_take : ByteArray := prog_7_method_6_code
def yX5_take : MethodName := ⟨RX5, "take", "(LTwinRuns$Saying;)V"⟩
abbrev cX5_deniedAhead : ByteArray := prog_7_method_7_code
def yX5_deniedAhead : MethodName := ⟨RX5, "deniedAhead", "(I)I"⟩
abbrev cX5_deniedBehind : ByteArray := prog_7_method_8_code
def yX5_deniedBehind : MethodName := ⟨RX5, "deniedBehind", "(I)I"⟩
abbrev cX5_deniedFrom : ByteArray := prog_7_method_9_code
def yX5_deniedFrom : MethodName := ⟨RX5, "deniedFrom", "(III)I"⟩
abbrev cX5_deniedBy : ByteArray := prog_7_method_10_code
def yX5_deniedBy : MethodName := ⟨RX5, "deniedBy", "(II)I"⟩
def RX6 : String := "TwinRuns$Silencer"
def TX6 : u_T := fun k => match k with
  | 0 => ("TwinRuns$Silencer", "asked", "LTwinRuns$Asked;", true)
  | 1 => ("TwinRuns$Silencer", "group", "[I", true)
  | _ => ("TwinRuns$Silencer", "shown", "[J", true)
def tyX6 : Nat → FieldType := fun k => match k with
  | 0 => .object "TwinRuns$Asked"
  | 1 => .array .int
  | _ => .array .long
abbrev wsX60 : List Cond := u_ws RX6 TX6 3
theorem nmX6 : ∀ a, a < 3 → ∀ b, b < 3 → a ≠ b → (TX6 a).2.1 ≠ (TX6 b).2.1 := by decide +kernel
theorem tyX6_ok : ∀ k, k < 3 → parseFieldDescriptor (TX6 k).2.2.1 = some (tyX6 k) := by decide +kernel
abbrev cX6_init : ByteArray := prog_8_method_1_code
def yX6_init : MethodName := ⟨RX6, "<init>", "(LTwinRuns$Asked;)V"⟩
abbrev cX6_fewest : ByteArray := prog_8_method_2_code
def yX6_fewest : MethodName := ⟨RX6, "fewest", "(LTwinRuns$Saying;LTwinRuns$Program;)I"⟩
abbrev cX6_joinAll : ByteArray := prog_8_method_3_code
def yX6_joinAll : MethodName := ⟨RX6, "joinAll", "(LTwinRuns$Saying;LTwinRuns$Program;)Z"⟩
abbrev cX6_joinStart : ByteArray := prog_8_method_4_code
def yX6_joinStart : MethodName := ⟨RX6, "joinStart", "(LTwinRuns$Program;I)Z"⟩
abbrev cX6_join : ByteArray := prog_8_method_5_code
def yX6_join : MethodName := ⟨RX6, "join", "(II)V"⟩
abbrev cX6_isAlike : ByteArray := prog_8_method_6_code
def yX6_isAlike : MethodName := ⟨RX6, "isAlike", "(LTwinRuns$Program;I)Z"⟩
def RX7 : String := "TwinRuns$Walker"
def TX7 : u_T := fun k => match k with
  | 0 => ("TwinRuns$Walker", "forms", "LTwinRuns$Forms;", true)
  | 1 => ("TwinRuns$Walker", "key", "I", false)
  | 2 => ("TwinRuns$Walker", "waits", "[I", true)
  | 3 => ("TwinRuns$Walker", "toldShapes", "[I", true)
  | 4 => ("TwinRuns$Walker", "shapes", "[I", true)
  | 5 => ("TwinRuns$Walker", "stood", "[I", true)
  | 6 => ("TwinRuns$Walker", "mostMoves", "I", false)
  | 7 => ("TwinRuns$Walker", "firstMoved", "[I", true)
  | 8 => ("TwinRuns$Walker", "secondMoved", "[I", true)
  | 9 => ("TwinRuns$Walker", "secondLines", "I", false)
  | _ => ("TwinRuns$Walker", "deniedNext", "[I", true)
def tyX7 : Nat → FieldType := fun k => match k with
  | 0 => .object "TwinRuns$Forms"
  | 1 => .int
  | 2 => .array .int
  | 3 => .array .int
  | 4 => .array .int
  | 5 => .array .int
  | 6 => .int
  | 7 => .array .int
  | 8 => .array .int
  | 9 => .int
  | _ => .array .int
abbrev wsX70 : List Cond := u_ws RX7 TX7 11
theorem nmX7 : ∀ a, a < 11 → ∀ b, b < 11 → a ≠ b → (TX7 a).2.1 ≠ (TX7 b).2.1 := by decide +kernel
theorem tyX7_ok : ∀ k, k < 11 → parseFieldDescriptor (TX7 k).2.2.1 = some (tyX7 k) := by decide +kernel
abbrev cX7_init : ByteArray := prog_9_method_1_code
def yX7_init : MethodName := ⟨RX7, "<init>", "(LTwinRuns$Forms;)V"⟩
abbrev cX7_walkAll : ByteArray := prog_9_method_2_code
def yX7_walkAll : MethodName := ⟨RX7, "walkAll", "(LTwinRuns$Saying;LTwinRuns$Program;LTwinRuns$Program;)V"⟩
abbrev cX7_walkPair : ByteArray := prog_9_method_3_code
def yX7_walkPair : MethodName := ⟨RX7, "walkPair", "(LTwinRuns$Program;ILTwinRuns$Program;I)I"⟩
abbrev cX7_standAt : ByteArray := prog_9_method_4_code
def yX7_standAt : MethodName := ⟨RX7, "standAt", "(II)I"⟩
abbrev cX7_countPlaces : ByteArray := prog_9_method_5_code
def yX7_countPlaces : MethodName := ⟨RX7, "countPlaces", "()I"⟩
abbrev cX7_countUnlike : ByteArray := prog_9_method_6_code
def yX7_countUnlike : MethodName := ⟨RX7, "countUnlike", "()I"⟩
abbrev cX7_firstFailing : ByteArray := prog_9_method_7_code
def yX7_firstFailing : MethodName := ⟨RX7, "firstFailing", "(LTwinRuns$Program;LTwinRuns$Program;)I"⟩
abbrev cX7_isKept : ByteArray := prog_9_method_8_code
def yX7_isKept : MethodName := ⟨RX7, "isKept", "(LTwinRuns$Program;LTwinRuns$Program;I)Z"⟩
abbrev cX7_moveAll : ByteArray := prog_9_method_9_code
def yX7_moveAll : MethodName := ⟨RX7, "moveAll", "(LTwinRuns$Program;LTwinRuns$Program;I)V"⟩
abbrev cX7_askNext : ByteArray := prog_9_method_10_code
def yX7_askNext : MethodName := ⟨RX7, "askNext", "(I)Z"⟩
abbrev cX7_areKept : ByteArray := prog_9_method_11_code
def yX7_areKept : MethodName := ⟨RX7, "areKept", "(I)Z"⟩
def RX8 : String := "TwinRuns"
def TX8 : u_T := fun k => match k with
  | 0 => ("TwinRuns", "programs", "[LTwinRuns$Program;", true)
  | 1 => ("TwinRuns", "sayings", "[LTwinRuns$Saying;", true)
  | 2 => ("TwinRuns", "sayingCount", "I", false)
  | 3 => ("TwinRuns", "draft", "LTwinRuns$Saying;", true)
  | 4 => ("TwinRuns", "asked", "LTwinRuns$Asked;", true)
  | 5 => ("TwinRuns", "pairs", "LTwinRuns$Pairs;", true)
  | 6 => ("TwinRuns", "silencer", "LTwinRuns$Silencer;", true)
  | 7 => ("TwinRuns", "walker", "LTwinRuns$Walker;", true)
  | _ => ("TwinRuns", "meeting", "LTwinRuns$Meeting;", true)
def tyX8 : Nat → FieldType := fun k => match k with
  | 0 => .array (.object "TwinRuns$Program")
  | 1 => .array (.object "TwinRuns$Saying")
  | 2 => .int
  | 3 => .object "TwinRuns$Saying"
  | 4 => .object "TwinRuns$Asked"
  | 5 => .object "TwinRuns$Pairs"
  | 6 => .object "TwinRuns$Silencer"
  | 7 => .object "TwinRuns$Walker"
  | _ => .object "TwinRuns$Meeting"
abbrev wsX80 : List Cond := u_ws RX8 TX8 9
theorem nmX8 : ∀ a, a < 9 → ∀ b, b < 9 → a ≠ b → (TX8 a).2.1 ≠ (TX8 b).2.1 := by decide +kernel
theorem tyX8_ok : ∀ k, k < 9 → parseFieldDescriptor (TX8 k).2.2.1 = some (tyX8 k) := by decide +kernel
abbrev cX8_init : ByteArray := prog_1_method_1_code
def yX8_init : MethodName := ⟨RX8, "<init>", "()V"⟩
abbrev cX8_line : ByteArray := prog_1_method_2_code
def yX8_line : MethodName := ⟨RX8, "line", "(IIIII)I"⟩
abbrev cX8_change : ByteArray := prog_1_method_3_code
def yX8_change : MethodName := ⟨RX8, "change", "(IIIIII)I"⟩
abbrev cX8_clear : ByteArray := prog_1_method_4_code
def yX8_clear : MethodName := ⟨RX8, "clear", "(I)I"⟩
abbrev cX8_silent : ByteArray := prog_1_method_5_code
def yX8_silent : MethodName := ⟨RX8, "silent", "(II)I"⟩
abbrev cX8_run : ByteArray := prog_1_method_6_code
def yX8_run : MethodName := ⟨RX8, "run", "(III)I"⟩
abbrev cX8_say : ByteArray := prog_1_method_7_code
def yX8_say : MethodName := ⟨RX8, "say", "(I)I"⟩
abbrev cX8_wipe : ByteArray := prog_1_method_8_code
def yX8_wipe : MethodName := ⟨RX8, "wipe", "()I"⟩
abbrev cX8_fault : ByteArray := prog_1_method_9_code
def yX8_fault : MethodName := ⟨RX8, "fault", "()I"⟩
abbrev cX8_saying : ByteArray := prog_1_method_10_code
def yX8_saying : MethodName := ⟨RX8, "saying", "()I"⟩
abbrev cX8_pair : ByteArray := prog_1_method_11_code
def yX8_pair : MethodName := ⟨RX8, "pair", "(IIIIII)I"⟩
abbrev cX8_holds : ByteArray := prog_1_method_12_code
def yX8_holds : MethodName := ⟨RX8, "holds", "(IIII)I"⟩
abbrev cX8_part : ByteArray := prog_1_method_13_code
def yX8_part : MethodName := ⟨RX8, "part", "(IIII)I"⟩
abbrev cX8_wait : ByteArray := prog_1_method_14_code
def yX8_wait : MethodName := ⟨RX8, "wait", "(III)I"⟩
abbrev cX8_walk : ByteArray := prog_1_method_15_code
def yX8_walk : MethodName := ⟨RX8, "walk", "(IIII)I"⟩
abbrev cX8_shape : ByteArray := prog_1_method_16_code
def yX8_shape : MethodName := ⟨RX8, "shape", "(IIIII)I"⟩
abbrev cX8_tell : ByteArray := prog_1_method_17_code
def yX8_tell : MethodName := ⟨RX8, "tell", "(III)I"⟩
abbrev cX8_fails : ByteArray := prog_1_method_18_code
def yX8_fails : MethodName := ⟨RX8, "fails", "(III)I"⟩
abbrev cX8_so : ByteArray := prog_1_method_19_code
def yX8_so : MethodName := ⟨RX8, "so", "(III)I"⟩
abbrev cX8_fit : ByteArray := prog_1_method_20_code
def yX8_fit : MethodName := ⟨RX8, "fit", "(IIIII)I"⟩
abbrev cX8_far : ByteArray := prog_1_method_21_code
def yX8_far : MethodName := ⟨RX8, "far", "(IIII)I"⟩
abbrev cX8_changed : ByteArray := prog_1_method_22_code
def yX8_changed : MethodName := ⟨RX8, "changed", "(III)I"⟩
abbrev cX8_orders : ByteArray := prog_1_method_23_code
def yX8_orders : MethodName := ⟨RX8, "orders", "(IIII)I"⟩
abbrev cX8_told : ByteArray := prog_1_method_24_code
def yX8_told : MethodName := ⟨RX8, "told", "(I)I"⟩
abbrev cX8_isWithin : ByteArray := prog_1_method_25_code
def yX8_isWithin : MethodName := ⟨RX8, "isWithin", "(II)Z"⟩
abbrev cX8_isProgram : ByteArray := prog_1_method_26_code
def yX8_isProgram : MethodName := ⟨RX8, "isProgram", "(I)Z"⟩
abbrev cX8_isMemory : ByteArray := prog_1_method_27_code
def yX8_isMemory : MethodName := ⟨RX8, "isMemory", "(I)Z"⟩
abbrev cX8_isSaying : ByteArray := prog_1_method_28_code
def yX8_isSaying : MethodName := ⟨RX8, "isSaying", "(I)Z"⟩
abbrev cX8_isAct : ByteArray := prog_1_method_29_code
def yX8_isAct : MethodName := ⟨RX8, "isAct", "(IIII)Z"⟩
abbrev cX8_keyOf : ByteArray := prog_1_method_30_code
def yX8_keyOf : MethodName := ⟨RX8, "keyOf", "(III)I"⟩
abbrev cX8_forget : ByteArray := prog_1_method_31_code
def yX8_forget : MethodName := ⟨RX8, "forget", "()V"⟩
abbrev cX8_makeWalk : ByteArray := prog_1_method_32_code
def yX8_makeWalk : MethodName := ⟨RX8, "makeWalk", "(III)V"⟩
abbrev cX8_valueOf : ByteArray := prog_1_method_33_code
def yX8_valueOf : MethodName := ⟨RX8, "valueOf", "(II)I"⟩
abbrev cX8_withValue : ByteArray := prog_1_method_34_code
def yX8_withValue : MethodName := ⟨RX8, "withValue", "(III)I"⟩
abbrev cX8_digitsOf : ByteArray := prog_1_method_35_code
def yX8_digitsOf : MethodName := ⟨RX8, "digitsOf", "(I)I"⟩
def RX9 : String := "TwinRunsModel"
def TX9 : u_T := fun k => match k with
  | 0 => ("TwinRunsModel", "acts", "[I", true)
  | 1 => ("TwinRunsModel", "firsts", "[I", true)
  | 2 => ("TwinRunsModel", "seconds", "[I", true)
  | 3 => ("TwinRunsModel", "thirds", "[I", true)
  | 4 => ("TwinRunsModel", "lineMany", "[I", true)
  | 5 => ("TwinRunsModel", "silence", "[I", true)
  | 6 => ("TwinRunsModel", "isLaid", "[Z", true)
  | 7 => ("TwinRunsModel", "version", "I", false)
  | 8 => ("TwinRunsModel", "walkVersion", "I", false)
  | 9 => ("TwinRunsModel", "nextLine", "I", false)
  | 10 => ("TwinRunsModel", "nextMemory", "I", false)
  | 11 => ("TwinRunsModel", "endIs", "I", false)
  | 12 => ("TwinRunsModel", "after", "[I", true)
  | 13 => ("TwinRunsModel", "endOf", "[I", true)
  | 14 => ("TwinRunsModel", "memoryOf", "[I", true)
  | 15 => ("TwinRunsModel", "stepsOf", "[I", true)
  | 16 => ("TwinRunsModel", "shownMany", "[I", true)
  | 17 => ("TwinRunsModel", "shown", "[I", true)
  | 18 => ("TwinRunsModel", "signs", "[I", true)
  | 19 => ("TwinRunsModel", "signMany", "[I", true)
  | 20 => ("TwinRunsModel", "sayings", "I", false)
  | 21 => ("TwinRunsModel", "pairsOf", "I", false)
  | 22 => ("TwinRunsModel", "pairsVersion", "I", false)
  | 23 => ("TwinRunsModel", "brokenMany", "I", false)
  | 24 => ("TwinRunsModel", "brokenFirst", "I", false)
  | 25 => ("TwinRunsModel", "meantMany", "I", false)
  | 26 => ("TwinRunsModel", "lone", "I", false)
  | 27 => ("TwinRunsModel", "oneLine", "I", false)
  | 28 => ("TwinRunsModel", "oneMemory", "I", false)
  | 29 => ("TwinRunsModel", "oneSteps", "I", false)
  | 30 => ("TwinRunsModel", "twoLine", "I", false)
  | 31 => ("TwinRunsModel", "twoMemory", "I", false)
  | 32 => ("TwinRunsModel", "twoSteps", "I", false)
  | 33 => ("TwinRunsModel", "waits", "[I", true)
  | 34 => ("TwinRunsModel", "toldShape", "[I", true)
  | 35 => ("TwinRunsModel", "shapes", "[I", true)
  | 36 => ("TwinRunsModel", "isStood", "[Z", true)
  | 37 => ("TwinRunsModel", "mostMoves", "I", false)
  | 38 => ("TwinRunsModel", "says", "[I", true)
  | 39 => ("TwinRunsModel", "walkOf", "I", false)
  | 40 => ("TwinRunsModel", "walkIs", "I", false)
  | 41 => ("TwinRunsModel", "soOf", "I", false)
  | 42 => ("TwinRunsModel", "soVersion", "I", false)
  | 43 => ("TwinRunsModel", "soIs", "I", false)
  | 44 => ("TwinRunsModel", "wasThere", "[Z", true)
  | 45 => ("TwinRunsModel", "waiting", "[I", true)
  | _ => ("TwinRunsModel", "waitingMany", "I", false)
def tyX9 : Nat → FieldType := fun k => match k with
  | 0 => .array .int
  | 1 => .array .int
  | 2 => .array .int
  | 3 => .array .int
  | 4 => .array .int
  | 5 => .array .int
  | 6 => .array .boolean
  | 7 => .int
  | 8 => .int
  | 9 => .int
  | 10 => .int
  | 11 => .int
  | 12 => .array .int
  | 13 => .array .int
  | 14 => .array .int
  | 15 => .array .int
  | 16 => .array .int
  | 17 => .array .int
  | 18 => .array .int
  | 19 => .array .int
  | 20 => .int
  | 21 => .int
  | 22 => .int
  | 23 => .int
  | 24 => .int
  | 25 => .int
  | 26 => .int
  | 27 => .int
  | 28 => .int
  | 29 => .int
  | 30 => .int
  | 31 => .int
  | 32 => .int
  | 33 => .array .int
  | 34 => .array .int
  | 35 => .array .int
  | 36 => .array .boolean
  | 37 => .int
  | 38 => .array .int
  | 39 => .int
  | 40 => .int
  | 41 => .int
  | 42 => .int
  | 43 => .int
  | 44 => .array .boolean
  | 45 => .array .int
  | _ => .int
abbrev wsX90 : List Cond := u_ws RX9 TX9 47
theorem nmX9 : ∀ a, a < 47 → ∀ b, b < 47 → a ≠ b → (TX9 a).2.1 ≠ (TX9 b).2.1 := by decide +kernel
theorem tyX9_ok : ∀ k, k < 47 → parseFieldDescriptor (TX9 k).2.2.1 = some (tyX9 k) := by decide +kernel
abbrev cX9_init : ByteArray := prog_11_method_1_code
def yX9_init : MethodName := ⟨RX9, "<init>", "()V"⟩
abbrev cX9_in : ByteArray := prog_11_method_3_code
def yX9_in : MethodName := ⟨RX9, "in", "(JJJ)Z"⟩
abbrev cX9_ones : ByteArray := prog_11_method_4_code
def yX9_ones : MethodName := ⟨RX9, "ones", "(I)I"⟩
abbrev cX9_isOther : ByteArray := prog_11_method_5_code
def yX9_isOther : MethodName := ⟨RX9, "isOther", "(I)V"⟩
abbrev cX9_isProgram : ByteArray := prog_11_method_6_code
def yX9_isProgram : MethodName := ⟨RX9, "isProgram", "(I)Z"⟩
abbrev cX9_isVariable : ByteArray := prog_11_method_7_code
def yX9_isVariable : MethodName := ⟨RX9, "isVariable", "(I)Z"⟩
abbrev cX9_isLine : ByteArray := prog_11_method_8_code
def yX9_isLine : MethodName := ⟨RX9, "isLine", "(IIII)Z"⟩
abbrev cX9_lay : ByteArray := prog_11_method_9_code
def yX9_lay : MethodName := ⟨RX9, "lay", "(IIIII)V"⟩
abbrev cX9_line : ByteArray := prog_11_method_10_code
def yX9_line : MethodName := ⟨RX9, "line", "(IIIII)I"⟩
abbrev cX9_change : ByteArray := prog_11_method_11_code
def yX9_change : MethodName := ⟨RX9, "change", "(IIIIII)I"⟩
abbrev cX9_clear : ByteArray := prog_11_method_12_code
def yX9_clear : MethodName := ⟨RX9, "clear", "(I)I"⟩
abbrev cX9_silent : ByteArray := prog_11_method_13_code
def yX9_silent : MethodName := ⟨RX9, "silent", "(II)I"⟩
abbrev cX9_valueOf : ByteArray := prog_11_method_14_code
def yX9_valueOf : MethodName := ⟨RX9, "valueOf", "(II)I"⟩
abbrev cX9_with : ByteArray := prog_11_method_15_code
def yX9_with : MethodName := ⟨RX9, "with", "(III)I"⟩
abbrev cX9_held : ByteArray := prog_11_method_16_code
def yX9_held : MethodName := ⟨RX9, "held", "(II)I"⟩
abbrev cX9_work : ByteArray := prog_11_method_17_code
def yX9_work : MethodName := ⟨RX9, "work", "(III)V"⟩
abbrev cX9_layTable : ByteArray := prog_11_method_18_code
def yX9_layTable : MethodName := ⟨RX9, "layTable", "(I)V"⟩
abbrev cX9_step : ByteArray := prog_11_method_19_code
def yX9_step : MethodName := ⟨RX9, "step", "(III)V"⟩
abbrev cX9_runOne : ByteArray := prog_11_method_20_code
def yX9_runOne : MethodName := ⟨RX9, "runOne", "(III)V"⟩
abbrev cX9_runAll : ByteArray := prog_11_method_21_code
def yX9_runAll : MethodName := ⟨RX9, "runAll", "(II)V"⟩
abbrev cX9_isStart : ByteArray := prog_11_method_22_code
def yX9_isStart : MethodName := ⟨RX9, "isStart", "(I)Z"⟩
abbrev cX9_run : ByteArray := prog_11_method_23_code
def yX9_run : MethodName := ⟨RX9, "run", "(III)I"⟩
abbrev cX9_areShownAlike : ByteArray := prog_11_method_24_code
def yX9_areShownAlike : MethodName := ⟨RX9, "areShownAlike", "(III)Z"⟩
abbrev cX9_say : ByteArray := prog_11_method_25_code
def yX9_say : MethodName := ⟨RX9, "say", "(I)I"⟩
abbrev cX9_wipe : ByteArray := prog_11_method_26_code
def yX9_wipe : MethodName := ⟨RX9, "wipe", "()I"⟩
abbrev cX9_isLetter : ByteArray := prog_11_method_27_code
def yX9_isLetter : MethodName := ⟨RX9, "isLetter", "(I)Z"⟩
abbrev cX9_isHow : ByteArray := prog_11_method_28_code
def yX9_isHow : MethodName := ⟨RX9, "isHow", "(I)Z"⟩
abbrev cX9_isOfEnd : ByteArray := prog_11_method_29_code
def yX9_isOfEnd : MethodName := ⟨RX9, "isOfEnd", "(I)Z"⟩
abbrev cX9_stepOf : ByteArray := prog_11_method_30_code
def yX9_stepOf : MethodName := ⟨RX9, "stepOf", "(IIZ)I"⟩
abbrev cX9_fault : ByteArray := prog_11_method_31_code
def yX9_fault : MethodName := ⟨RX9, "fault", "()I"⟩
abbrev cX9_saying : ByteArray := prog_11_method_32_code
def yX9_saying : MethodName := ⟨RX9, "saying", "()I"⟩
abbrev cX9_isSaying : ByteArray := prog_11_method_33_code
def yX9_isSaying : MethodName := ⟨RX9, "isSaying", "(I)Z"⟩
abbrev cX9_stand : ByteArray := prog_11_method_34_code
def yX9_stand : MethodName := ⟨RX9, "stand", "(III)Z"⟩
abbrev cX9_markOf : ByteArray := prog_11_method_35_code
def yX9_markOf : MethodName := ⟨RX9, "markOf", "(I)I"⟩
abbrev cX9_allStand : ByteArray := prog_11_method_36_code
def yX9_allStand : MethodName := ⟨RX9, "allStand", "(IIII)Z"⟩
abbrev cX9_isMeant : ByteArray := prog_11_method_37_code
def yX9_isMeant : MethodName := ⟨RX9, "isMeant", "(III)Z"⟩
abbrev cX9_isAsSaid : ByteArray := prog_11_method_38_code
def yX9_isAsSaid : MethodName := ⟨RX9, "isAsSaid", "(III)Z"⟩
abbrev cX9_pair : ByteArray := prog_11_method_39_code
def yX9_pair : MethodName := ⟨RX9, "pair", "(IIIIII)I"⟩
abbrev cX9_findPairs : ByteArray := prog_11_method_40_code
def yX9_findPairs : MethodName := ⟨RX9, "findPairs", "(I)V"⟩
abbrev cX9_holds : ByteArray := prog_11_method_41_code
def yX9_holds : MethodName := ⟨RX9, "holds", "(IIII)I"⟩
abbrev cX9_beginBoth : ByteArray := prog_11_method_42_code
def yX9_beginBoth : MethodName := ⟨RX9, "beginBoth", "(IIII)V"⟩
abbrev cX9_stepFirst : ByteArray := prog_11_method_43_code
def yX9_stepFirst : MethodName := ⟨RX9, "stepFirst", "(I)V"⟩
abbrev cX9_stepSecond : ByteArray := prog_11_method_44_code
def yX9_stepSecond : MethodName := ⟨RX9, "stepSecond", "(I)V"⟩
abbrev cX9_part : ByteArray := prog_11_method_45_code
def yX9_part : MethodName := ⟨RX9, "part", "(IIII)I"⟩
abbrev cX9_wait : ByteArray := prog_11_method_46_code
def yX9_wait : MethodName := ⟨RX9, "wait", "(III)I"⟩
abbrev cX9_moverAt : ByteArray := prog_11_method_47_code
def yX9_moverAt : MethodName := ⟨RX9, "moverAt", "(II)I"⟩
abbrev cX9_saysOf : ByteArray := prog_11_method_48_code
def yX9_saysOf : MethodName := ⟨RX9, "saysOf", "(II)I"⟩
abbrev cX9_standThere : ByteArray := prog_11_method_49_code
def yX9_standThere : MethodName := ⟨RX9, "standThere", "()V"⟩
abbrev cX9_walkOne : ByteArray := prog_11_method_50_code
def yX9_walkOne : MethodName := ⟨RX9, "walkOne", "(II)V"⟩
abbrev cX9_walkAll : ByteArray := prog_11_method_51_code
def yX9_walkAll : MethodName := ⟨RX9, "walkAll", "(III)V"⟩
abbrev cX9_walk : ByteArray := prog_11_method_52_code
def yX9_walk : MethodName := ⟨RX9, "walk", "(IIII)I"⟩
abbrev cX9_isPlace : ByteArray := prog_11_method_53_code
def yX9_isPlace : MethodName := ⟨RX9, "isPlace", "(II)Z"⟩
abbrev cX9_shape : ByteArray := prog_11_method_54_code
def yX9_shape : MethodName := ⟨RX9, "shape", "(IIIII)I"⟩
abbrev cX9_tell : ByteArray := prog_11_method_55_code
def yX9_tell : MethodName := ⟨RX9, "tell", "(III)I"⟩
abbrev cX9_isKept : ByteArray := prog_11_method_56_code
def yX9_isKept : MethodName := ⟨RX9, "isKept", "(IIII)Z"⟩
abbrev cX9_fails : ByteArray := prog_11_method_57_code
def yX9_fails : MethodName := ⟨RX9, "fails", "(III)I"⟩
abbrev cX9_so : ByteArray := prog_11_method_58_code
def yX9_so : MethodName := ⟨RX9, "so", "(III)I"⟩
abbrev cX9_bestSilence : ByteArray := prog_11_method_59_code
def yX9_bestSilence : MethodName := ⟨RX9, "bestSilence", "(III)I"⟩
abbrev cX9_noneBroken : ByteArray := prog_11_method_60_code
def yX9_noneBroken : MethodName := ⟨RX9, "noneBroken", "(I)Z"⟩
abbrev cX9_areAlikeIn : ByteArray := prog_11_method_61_code
def yX9_areAlikeIn : MethodName := ⟨RX9, "areAlikeIn", "(III)Z"⟩
abbrev cX9_fit : ByteArray := prog_11_method_62_code
def yX9_fit : MethodName := ⟨RX9, "fit", "(IIIII)I"⟩
abbrev cX9_far : ByteArray := prog_11_method_63_code
def yX9_far : MethodName := ⟨RX9, "far", "(IIII)I"⟩
abbrev cX9_unlikeLines : ByteArray := prog_11_method_64_code
def yX9_unlikeLines : MethodName := ⟨RX9, "unlikeLines", "(II)I"⟩
abbrev cX9_changed : ByteArray := prog_11_method_65_code
def yX9_changed : MethodName := ⟨RX9, "changed", "(III)I"⟩
abbrev cX9_come : ByteArray := prog_11_method_66_code
def yX9_come : MethodName := ⟨RX9, "come", "(III)V"⟩
abbrev cX9_findOrders : ByteArray := prog_11_method_67_code
def yX9_findOrders : MethodName := ⟨RX9, "findOrders", "(III)V"⟩
abbrev cX9_orders : ByteArray := prog_11_method_68_code
def yX9_orders : MethodName := ⟨RX9, "orders", "(IIII)I"⟩
abbrev cX9_told : ByteArray := prog_11_method_69_code
def yX9_told : MethodName := ⟨RX9, "told", "(I)I"⟩
def RJ6 : String := "java/lang/Integer"
def TJ6 : u_T := fun k => match k with
  | _ => ("", "", "", false)
def tyJ6 : Nat → FieldType := fun k => match k with
  | _ => .int
abbrev wsJ60 : List Cond := u_ws RJ6 TJ6 0
theorem nmJ6 : ∀ a, a < 0 → ∀ b, b < 0 → a ≠ b → (TJ6 a).2.1 ≠ (TJ6 b).2.1 := by decide +kernel
theorem tyJ6_ok : ∀ k, k < 0 → parseFieldDescriptor (TJ6 k).2.2.1 = some (tyJ6 k) := by decide +kernel
abbrev cJ6_bitCount_0f7a4 : ByteArray := prog_12_method_49_code
def yJ6_bitCount_0f7a4 : MethodName := ⟨RJ6, "bitCount", "(I)I"⟩
def RJ9 : String := "java/lang/Math"
def TJ9 : u_T := fun k => match k with
  | _ => ("", "", "", false)
def tyJ9 : Nat → FieldType := fun k => match k with
  | _ => .int
abbrev wsJ90 : List Cond := u_ws RJ9 TJ9 0
theorem nmJ9 : ∀ a, a < 0 → ∀ b, b < 0 → a ≠ b → (TJ9 a).2.1 ≠ (TJ9 b).2.1 := by decide +kernel
theorem tyJ9_ok : ∀ k, k < 0 → parseFieldDescriptor (TJ9 k).2.2.1 = some (tyJ9 k) := by decide +kernel
abbrev cJ9_abs_0f7a4 : ByteArray := prog_13_method_59_code
def yJ9_abs_0f7a4 : MethodName := ⟨RJ9, "abs", "(I)I"⟩
abbrev cJ9_max_7cf53 : ByteArray := prog_13_method_65_code
def yJ9_max_7cf53 : MethodName := ⟨RJ9, "max", "(II)I"⟩
abbrev cJ9_min_7cf53 : ByteArray := prog_13_method_69_code
def yJ9_min_7cf53 : MethodName := ⟨RJ9, "min", "(II)I"⟩
def RJ10 : String := "java/lang/System"
def TJ10 : u_T := fun k => match k with
  | _ => ("", "", "", false)
def tyJ10 : Nat → FieldType := fun k => match k with
  | _ => .int
abbrev wsJ100 : List Cond := u_ws RJ10 TJ10 0
theorem nmJ10 : ∀ a, a < 0 → ∀ b, b < 0 → a ≠ b → (TJ10 a).2.1 ≠ (TJ10 b).2.1 := by decide +kernel
theorem tyJ10_ok : ∀ k, k < 0 → parseFieldDescriptor (TJ10 k).2.2.1 = some (tyJ10 k) := by decide +kernel
def RJ7 : String := "java/util/Arrays"
def TJ7 : u_T := fun k => match k with
  | _ => ("", "", "", false)
def tyJ7 : Nat → FieldType := fun k => match k with
  | _ => .int
abbrev wsJ70 : List Cond := u_ws RJ7 TJ7 0
theorem nmJ7 : ∀ a, a < 0 → ∀ b, b < 0 → a ≠ b → (TJ7 a).2.1 ≠ (TJ7 b).2.1 := by decide +kernel
theorem tyJ7_ok : ∀ k, k < 0 → parseFieldDescriptor (TJ7 k).2.2.1 = some (tyJ7 k) := by decide +kernel
abbrev cJ7_fill_d0a16 : ByteArray := prog_15_method_101_code
def yJ7_fill_d0a16 : MethodName := ⟨RJ7, "fill", "([JJ)V"⟩
abbrev cJ7_fill_53178 : ByteArray := prog_15_method_103_code
def yJ7_fill_53178 : MethodName := ⟨RJ7, "fill", "([II)V"⟩
def RL : String := "TwinRunsLaw"
abbrev cL_law : ByteArray := code
def yL_law : MethodName := ⟨RL, "law", "([I)Z"⟩
abbrev vwCl : List vw_C := [(RX0, TX0, 5), (RX1, TX1, 2), (RX2, TX2, 4), (RX3, TX3, 6), (RX4, TX4, 16), (RX5, TX5, 4), (RX6, TX6, 3), (RX7, TX7, 11), (RX8, TX8, 9), (RX9, TX9, 47)]
end
section
theorem dX0_init_0 : decode cX0_init 0 = .ok (.aload_n 0, 1) := by decide +kernel
theorem dX0_init_1 : decode cX0_init 1 = .ok (.invokespecial 1, 3) := by decide +kernel
theorem dX0_init_4 : decode cX0_init 4 = .ok (.aload_n 0, 1) := by decide +kernel
theorem dX0_init_5 : decode cX0_init 5 = .ok (.aload_n 1, 1) := by decide +kernel
theorem dX0_init_6 : decode cX0_init 6 = .ok (.putfield 7, 3) := by decide +kernel
theorem dX0_init_9 : decode cX0_init 9 = .ok (.return_, 1) := by decide +kernel
theorem dX0_take_0 : decode cX0_take 0 = .ok (.aload_n 0, 1) := by decide +kernel
theorem dX0_take_1 : decode cX0_take 1 = .ok (.aload_n 1, 1) := by decide +kernel
theorem dX0_take_2 : decode cX0_take 2 = .ok (.iload_n 3, 1) := by decide +kernel
theorem dX0_take_3 : decode cX0_take 3 = .ok (.invokevirtual 13, 3) := by decide +kernel
theorem dX0_take_6 : decode cX0_take 6 = .ok (.putfield 19, 3) := by decide +kernel
theorem dX0_take_9 : decode cX0_take 9 = .ok (.aload_n 0, 1) := by decide +kernel
theorem dX0_take_10 : decode cX0_take 10 = .ok (.aload_n 1, 1) := by decide +kernel
theorem dX0_take_11 : decode cX0_take 11 = .ok (.aload_n 2, 1) := by decide +kernel
theorem dX0_take_12 : decode cX0_take 12 = .ok (.getfield 22, 3) := by decide +kernel
theorem dX0_take_15 : decode cX0_take 15 = .ok (.iload_n 3, 1) := by decide +kernel
theorem dX0_take_16 : decode cX0_take 16 = .ok (.iaload, 1) := by decide +kernel
theorem dX0_take_17 : decode cX0_take 17 = .ok (.invokevirtual 28, 3) := by decide +kernel
theorem dX0_take_20 : decode cX0_take 20 = .ok (.putfield 31, 3) := by decide +kernel
theorem dX0_take_23 : decode cX0_take 23 = .ok (.aload_n 0, 1) := by decide +kernel
theorem dX0_take_24 : decode cX0_take 24 = .ok (.aload_n 2, 1) := by decide +kernel
theorem dX0_take_25 : decode cX0_take 25 = .ok (.getfield 33, 3) := by decide +kernel
theorem dX0_take_28 : decode cX0_take 28 = .ok (.iload_n 3, 1) := by decide +kernel
theorem dX0_take_29 : decode cX0_take 29 = .ok (.laload, 1) := by decide +kernel
theorem dX0_take_30 : decode cX0_take 30 = .ok (.putfield 37, 3) := by decide +kernel
theorem dX0_take_33 : decode cX0_take 33 = .ok (.aload_n 0, 1) := by decide +kernel
theorem dX0_take_34 : decode cX0_take 34 = .ok (.aload_n 1, 1) := by decide +kernel
theorem dX0_take_35 : decode cX0_take 35 = .ok (.getfield 40, 3) := by decide +kernel
theorem dX0_take_38 : decode cX0_take 38 = .ok (.putfield 43, 3) := by decide +kernel
theorem dX0_take_41 : decode cX0_take 41 = .ok (.return_, 1) := by decide +kernel
theorem dX0_isMeant_0 : decode cX0_isMeant 0 = .ok (.aload_n 0, 1) := by decide +kernel
theorem dX0_isMeant_1 : decode cX0_isMeant 1 = .ok (.getfield 7, 3) := by decide +kernel
theorem dX0_isMeant_4 : decode cX0_isMeant 4 = .ok (.getfield 44, 3) := by decide +kernel
theorem dX0_isMeant_7 : decode cX0_isMeant 7 = .ok (.iload_n 1, 1) := by decide +kernel
theorem dX0_isMeant_8 : decode cX0_isMeant 8 = .ok (.iaload, 1) := by decide +kernel
theorem dX0_isMeant_9 : decode cX0_isMeant 9 = .ok (.aload_n 0, 1) := by decide +kernel
theorem dX0_isMeant_10 : decode cX0_isMeant 10 = .ok (.getfield 19, 3) := by decide +kernel
theorem dX0_isMeant_13 : decode cX0_isMeant 13 = .ok (.iand, 1) := by decide +kernel
theorem dX0_isMeant_14 : decode cX0_isMeant 14 = .ok (.ifCond .ne 7, 3) := by decide +kernel
theorem dX0_isMeant_17 : decode cX0_isMeant 17 = .ok (.iconst 1, 1) := by decide +kernel
theorem dX0_isMeant_18 : decode cX0_isMeant 18 = .ok (.goto 4, 3) := by decide +kernel
theorem dX0_isMeant_21 : decode cX0_isMeant 21 = .ok (.iconst 0, 1) := by decide +kernel
theorem dX0_isMeant_22 : decode cX0_isMeant 22 = .ok (.ireturn, 1) := by decide +kernel
theorem dX0_isBroken_0 : decode cX0_isBroken 0 = .ok (.aload_n 1, 1) := by decide +kernel
theorem dX0_isBroken_1 : decode cX0_isBroken 1 = .ok (.getfield 49, 3) := by decide +kernel
theorem dX0_isBroken_4 : decode cX0_isBroken 4 = .ok (.iload_n 2, 1) := by decide +kernel
theorem dX0_isBroken_5 : decode cX0_isBroken 5 = .ok (.iaload, 1) := by decide +kernel
theorem dX0_isBroken_6 : decode cX0_isBroken 6 = .ok (.aload_n 0, 1) := by decide +kernel
theorem dX0_isBroken_7 : decode cX0_isBroken 7 = .ok (.getfield 31, 3) := by decide +kernel
theorem dX0_isBroken_10 : decode cX0_isBroken 10 = .ok (.iand, 1) := by decide +kernel
theorem dX0_isBroken_11 : decode cX0_isBroken 11 = .ok (.ifCond .ne 24, 3) := by decide +kernel
theorem dX0_isBroken_14 : decode cX0_isBroken 14 = .ok (.aload_n 0, 1) := by decide +kernel
theorem dX0_isBroken_15 : decode cX0_isBroken 15 = .ok (.getfield 37, 3) := by decide +kernel
theorem dX0_isBroken_18 : decode cX0_isBroken 18 = .ok (.aload_n 1, 1) := by decide +kernel
theorem dX0_isBroken_19 : decode cX0_isBroken 19 = .ok (.getfield 33, 3) := by decide +kernel
theorem dX0_isBroken_22 : decode cX0_isBroken 22 = .ok (.iload_n 2, 1) := by decide +kernel
theorem dX0_isBroken_23 : decode cX0_isBroken 23 = .ok (.laload, 1) := by decide +kernel
theorem dX0_isBroken_24 : decode cX0_isBroken 24 = .ok (.lxor, 1) := by decide +kernel
theorem dX0_isBroken_25 : decode cX0_isBroken 25 = .ok (.aload_n 0, 1) := by decide +kernel
theorem dX0_isBroken_26 : decode cX0_isBroken 26 = .ok (.getfield 43, 3) := by decide +kernel
theorem dX0_isBroken_29 : decode cX0_isBroken 29 = .ok (.land, 1) := by decide +kernel
theorem dX0_isBroken_30 : decode cX0_isBroken 30 = .ok (.lconst 0, 1) := by decide +kernel
theorem dX0_isBroken_31 : decode cX0_isBroken 31 = .ok (.lcmp, 1) := by decide +kernel
theorem dX0_isBroken_32 : decode cX0_isBroken 32 = .ok (.ifCond .eq 7, 3) := by decide +kernel
theorem dX0_isBroken_35 : decode cX0_isBroken 35 = .ok (.iconst 1, 1) := by decide +kernel
theorem dX0_isBroken_36 : decode cX0_isBroken 36 = .ok (.goto 4, 3) := by decide +kernel
theorem dX0_isBroken_39 : decode cX0_isBroken 39 = .ok (.iconst 0, 1) := by decide +kernel
theorem dX0_isBroken_40 : decode cX0_isBroken 40 = .ok (.ireturn, 1) := by decide +kernel
theorem dX1_init_0 : decode cX1_init 0 = .ok (.aload_n 0, 1) := by decide +kernel
theorem dX1_init_1 : decode cX1_init 1 = .ok (.invokespecial 3, 3) := by decide +kernel
theorem dX1_init_4 : decode cX1_init 4 = .ok (.aload_n 0, 1) := by decide +kernel
theorem dX1_init_5 : decode cX1_init 5 = .ok (.sipush 256, 3) := by decide +kernel
theorem dX1_init_8 : decode cX1_init 8 = .ok (.newarray .int, 2) := by decide +kernel
theorem dX1_init_10 : decode cX1_init 10 = .ok (.putfield 9, 3) := by decide +kernel
theorem dX1_init_13 : decode cX1_init 13 = .ok (.aload_n 0, 1) := by decide +kernel
theorem dX1_init_14 : decode cX1_init 14 = .ok (.sipush 256, 3) := by decide +kernel
theorem dX1_init_17 : decode cX1_init 17 = .ok (.newarray .int, 2) := by decide +kernel
theorem dX1_init_19 : decode cX1_init 19 = .ok (.putfield 15, 3) := by decide +kernel
theorem dX1_init_22 : decode cX1_init 22 = .ok (.iconst 0, 1) := by decide +kernel
theorem dX1_init_23 : decode cX1_init 23 = .ok (.istore_n 1, 1) := by decide +kernel
theorem dX1_init_24 : decode cX1_init 24 = .ok (.iload_n 1, 1) := by decide +kernel
theorem dX1_init_25 : decode cX1_init 25 = .ok (.sipush 256, 3) := by decide +kernel
theorem dX1_init_28 : decode cX1_init 28 = .ok (.if_icmp .ge 58, 3) := by decide +kernel
theorem dX1_init_31 : decode cX1_init 31 = .ok (.iconst 0, 1) := by decide +kernel
theorem dX1_init_32 : decode cX1_init 32 = .ok (.istore_n 2, 1) := by decide +kernel
theorem dX1_init_33 : decode cX1_init 33 = .ok (.iload_n 2, 1) := by decide +kernel
theorem dX1_init_34 : decode cX1_init 34 = .ok (.iconst 4, 1) := by decide +kernel
theorem dX1_init_35 : decode cX1_init 35 = .ok (.if_icmp .ge 45, 3) := by decide +kernel
theorem dX1_init_38 : decode cX1_init 38 = .ok (.iload_n 1, 1) := by decide +kernel
theorem dX1_init_39 : decode cX1_init 39 = .ok (.iload_n 2, 1) := by decide +kernel
theorem dX1_init_40 : decode cX1_init 40 = .ok (.invokestatic 18, 3) := by decide +kernel
theorem dX1_init_43 : decode cX1_init 43 = .ok (.istore_n 3, 1) := by decide +kernel
theorem dX1_init_44 : decode cX1_init 44 = .ok (.aload_n 0, 1) := by decide +kernel
theorem dX1_init_45 : decode cX1_init 45 = .ok (.getfield 9, 3) := by decide +kernel
theorem dX1_init_48 : decode cX1_init 48 = .ok (.iload_n 1, 1) := by decide +kernel
theorem dX1_init_49 : decode cX1_init 49 = .ok (.dup2, 1) := by decide +kernel
theorem dX1_init_50 : decode cX1_init 50 = .ok (.iaload, 1) := by decide +kernel
theorem dX1_init_51 : decode cX1_init 51 = .ok (.iconst 1, 1) := by decide +kernel
theorem dX1_init_52 : decode cX1_init 52 = .ok (.iconst 4, 1) := by decide +kernel
theorem dX1_init_53 : decode cX1_init 53 = .ok (.iload_n 2, 1) := by decide +kernel
theorem dX1_init_54 : decode cX1_init 54 = .ok (.imul, 1) := by decide +kernel
theorem dX1_init_55 : decode cX1_init 55 = .ok (.iload_n 3, 1) := by decide +kernel
theorem dX1_init_56 : decode cX1_init 56 = .ok (.iadd, 1) := by decide +kernel
theorem dX1_init_57 : decode cX1_init 57 = .ok (.ishl, 1) := by decide +kernel
theorem dX1_init_58 : decode cX1_init 58 = .ok (.ior, 1) := by decide +kernel
theorem dX1_init_59 : decode cX1_init 59 = .ok (.iastore, 1) := by decide +kernel
theorem dX1_init_60 : decode cX1_init 60 = .ok (.aload_n 0, 1) := by decide +kernel
theorem dX1_init_61 : decode cX1_init 61 = .ok (.getfield 15, 3) := by decide +kernel
theorem dX1_init_64 : decode cX1_init 64 = .ok (.iload_n 1, 1) := by decide +kernel
theorem dX1_init_65 : decode cX1_init 65 = .ok (.dup2, 1) := by decide +kernel
theorem dX1_init_66 : decode cX1_init 66 = .ok (.iaload, 1) := by decide +kernel
theorem dX1_init_67 : decode cX1_init 67 = .ok (.iload_n 3, 1) := by decide +kernel
theorem dX1_init_68 : decode cX1_init 68 = .ok (.iconst 3, 1) := by decide +kernel
theorem dX1_init_69 : decode cX1_init 69 = .ok (.iload_n 2, 1) := by decide +kernel
theorem dX1_init_70 : decode cX1_init 70 = .ok (.imul, 1) := by decide +kernel
theorem dX1_init_71 : decode cX1_init 71 = .ok (.ishl, 1) := by decide +kernel
theorem dX1_init_72 : decode cX1_init 72 = .ok (.ior, 1) := by decide +kernel
theorem dX1_init_73 : decode cX1_init 73 = .ok (.iastore, 1) := by decide +kernel
theorem dX1_init_74 : decode cX1_init 74 = .ok (.iinc 2 1, 3) := by decide +kernel
theorem dX1_init_77 : decode cX1_init 77 = .ok (.goto (-44), 3) := by decide +kernel
theorem dX1_init_80 : decode cX1_init 80 = .ok (.iinc 1 1, 3) := by decide +kernel
theorem dX1_init_83 : decode cX1_init 83 = .ok (.goto (-59), 3) := by decide +kernel
theorem dX1_init_86 : decode cX1_init 86 = .ok (.return_, 1) := by decide +kernel
theorem dX1_shapeOf_0 : decode cX1_shapeOf 0 = .ok (.aload_n 0, 1) := by decide +kernel
theorem dX1_shapeOf_1 : decode cX1_shapeOf 1 = .ok (.getfield 15, 3) := by decide +kernel
theorem dX1_shapeOf_4 : decode cX1_shapeOf 4 = .ok (.iload_n 1, 1) := by decide +kernel
theorem dX1_shapeOf_5 : decode cX1_shapeOf 5 = .ok (.sipush 255, 3) := by decide +kernel
theorem dX1_shapeOf_8 : decode cX1_shapeOf 8 = .ok (.iand, 1) := by decide +kernel
theorem dX1_shapeOf_9 : decode cX1_shapeOf 9 = .ok (.iaload, 1) := by decide +kernel
theorem dX1_shapeOf_10 : decode cX1_shapeOf 10 = .ok (.istore_n 3, 1) := by decide +kernel
theorem dX1_shapeOf_11 : decode cX1_shapeOf 11 = .ok (.aload_n 0, 1) := by decide +kernel
theorem dX1_shapeOf_12 : decode cX1_shapeOf 12 = .ok (.getfield 15, 3) := by decide +kernel
theorem dX1_shapeOf_15 : decode cX1_shapeOf 15 = .ok (.iload_n 2, 1) := by decide +kernel
theorem dX1_shapeOf_16 : decode cX1_shapeOf 16 = .ok (.sipush 255, 3) := by decide +kernel
theorem dX1_shapeOf_19 : decode cX1_shapeOf 19 = .ok (.iand, 1) := by decide +kernel
theorem dX1_shapeOf_20 : decode cX1_shapeOf 20 = .ok (.iaload, 1) := by decide +kernel
theorem dX1_shapeOf_21 : decode cX1_shapeOf 21 = .ok (.istore 4, 2) := by decide +kernel
theorem dX1_shapeOf_23 : decode cX1_shapeOf 23 = .ok (.iload_n 3, 1) := by decide +kernel
theorem dX1_shapeOf_24 : decode cX1_shapeOf 24 = .ok (.sipush 2340, 3) := by decide +kernel
theorem dX1_shapeOf_27 : decode cX1_shapeOf 27 = .ok (.ior, 1) := by decide +kernel
theorem dX1_shapeOf_28 : decode cX1_shapeOf 28 = .ok (.iload 4, 2) := by decide +kernel
theorem dX1_shapeOf_30 : decode cX1_shapeOf 30 = .ok (.isub, 1) := by decide +kernel
theorem dX1_shapeOf_31 : decode cX1_shapeOf 31 = .ok (.sipush 2340, 3) := by decide +kernel
theorem dX1_shapeOf_34 : decode cX1_shapeOf 34 = .ok (.iand, 1) := by decide +kernel
theorem dX1_shapeOf_35 : decode cX1_shapeOf 35 = .ok (.istore 5, 2) := by decide +kernel
theorem dX1_shapeOf_37 : decode cX1_shapeOf 37 = .ok (.iload 4, 2) := by decide +kernel
theorem dX1_shapeOf_39 : decode cX1_shapeOf 39 = .ok (.sipush 2340, 3) := by decide +kernel
theorem dX1_shapeOf_42 : decode cX1_shapeOf 42 = .ok (.ior, 1) := by decide +kernel
theorem dX1_shapeOf_43 : decode cX1_shapeOf 43 = .ok (.iload_n 3, 1) := by decide +kernel
theorem dX1_shapeOf_44 : decode cX1_shapeOf 44 = .ok (.isub, 1) := by decide +kernel
theorem dX1_shapeOf_45 : decode cX1_shapeOf 45 = .ok (.sipush 2340, 3) := by decide +kernel
theorem dX1_shapeOf_48 : decode cX1_shapeOf 48 = .ok (.iand, 1) := by decide +kernel
theorem dX1_shapeOf_49 : decode cX1_shapeOf 49 = .ok (.istore 6, 2) := by decide +kernel
theorem dX1_shapeOf_51 : decode cX1_shapeOf 51 = .ok (.iload 5, 2) := by decide +kernel
theorem dX1_shapeOf_53 : decode cX1_shapeOf 53 = .ok (.iconst 1, 1) := by decide +kernel
theorem dX1_shapeOf_54 : decode cX1_shapeOf 54 = .ok (.ishr, 1) := by decide +kernel
theorem dX1_shapeOf_55 : decode cX1_shapeOf 55 = .ok (.iload 6, 2) := by decide +kernel
theorem dX1_shapeOf_57 : decode cX1_shapeOf 57 = .ok (.ior, 1) := by decide +kernel
theorem dX1_shapeOf_58 : decode cX1_shapeOf 58 = .ok (.iload 5, 2) := by decide +kernel
theorem dX1_shapeOf_60 : decode cX1_shapeOf 60 = .ok (.iload 6, 2) := by decide +kernel
theorem dX1_shapeOf_62 : decode cX1_shapeOf 62 = .ok (.iand, 1) := by decide +kernel
theorem dX1_shapeOf_63 : decode cX1_shapeOf 63 = .ok (.iconst 2, 1) := by decide +kernel
theorem dX1_shapeOf_64 : decode cX1_shapeOf 64 = .ok (.ishr, 1) := by decide +kernel
theorem dX1_shapeOf_65 : decode cX1_shapeOf 65 = .ok (.ior, 1) := by decide +kernel
theorem dX1_shapeOf_66 : decode cX1_shapeOf 66 = .ok (.ireturn, 1) := by decide +kernel
theorem dX1_deniedBy_0 : decode cX1_deniedBy 0 = .ok (.iconst 0, 1) := by decide +kernel
theorem dX1_deniedBy_1 : decode cX1_deniedBy 1 = .ok (.istore_n 3, 1) := by decide +kernel
theorem dX1_deniedBy_2 : decode cX1_deniedBy 2 = .ok (.iconst 0, 1) := by decide +kernel
theorem dX1_deniedBy_3 : decode cX1_deniedBy 3 = .ok (.istore 4, 2) := by decide +kernel
theorem dX1_deniedBy_5 : decode cX1_deniedBy 5 = .ok (.iload 4, 2) := by decide +kernel
theorem dX1_deniedBy_7 : decode cX1_deniedBy 7 = .ok (.iconst 4, 1) := by decide +kernel
theorem dX1_deniedBy_8 : decode cX1_deniedBy 8 = .ok (.if_icmp .ge 111, 3) := by decide +kernel
theorem dX1_deniedBy_11 : decode cX1_deniedBy 11 = .ok (.iload_n 2, 1) := by decide +kernel
theorem dX1_deniedBy_12 : decode cX1_deniedBy 12 = .ok (.iload 4, 2) := by decide +kernel
theorem dX1_deniedBy_14 : decode cX1_deniedBy 14 = .ok (.invokestatic 18, 3) := by decide +kernel
theorem dX1_deniedBy_17 : decode cX1_deniedBy 17 = .ok (.istore 5, 2) := by decide +kernel
theorem dX1_deniedBy_19 : decode cX1_deniedBy 19 = .ok (.iconst 1, 1) := by decide +kernel
theorem dX1_deniedBy_20 : decode cX1_deniedBy 20 = .ok (.iload 5, 2) := by decide +kernel
theorem dX1_deniedBy_22 : decode cX1_deniedBy 22 = .ok (.ishl, 1) := by decide +kernel
theorem dX1_deniedBy_23 : decode cX1_deniedBy 23 = .ok (.iconst 1, 1) := by decide +kernel
theorem dX1_deniedBy_24 : decode cX1_deniedBy 24 = .ok (.isub, 1) := by decide +kernel
theorem dX1_deniedBy_25 : decode cX1_deniedBy 25 = .ok (.istore 6, 2) := by decide +kernel
theorem dX1_deniedBy_27 : decode cX1_deniedBy 27 = .ok (.bipush 15, 2) := by decide +kernel
theorem dX1_deniedBy_29 : decode cX1_deniedBy 29 = .ok (.iload 6, 2) := by decide +kernel
theorem dX1_deniedBy_31 : decode cX1_deniedBy 31 = .ok (.iconst 1, 1) := by decide +kernel
theorem dX1_deniedBy_32 : decode cX1_deniedBy 32 = .ok (.iload 5, 2) := by decide +kernel
theorem dX1_deniedBy_34 : decode cX1_deniedBy 34 = .ok (.ishl, 1) := by decide +kernel
theorem dX1_deniedBy_35 : decode cX1_deniedBy 35 = .ok (.ior, 1) := by decide +kernel
theorem dX1_deniedBy_36 : decode cX1_deniedBy 36 = .ok (.iconst (-1), 1) := by decide +kernel
theorem dX1_deniedBy_37 : decode cX1_deniedBy 37 = .ok (.ixor, 1) := by decide +kernel
theorem dX1_deniedBy_38 : decode cX1_deniedBy 38 = .ok (.iand, 1) := by decide +kernel
theorem dX1_deniedBy_39 : decode cX1_deniedBy 39 = .ok (.istore 7, 2) := by decide +kernel
theorem dX1_deniedBy_41 : decode cX1_deniedBy 41 = .ok (.iload_n 1, 1) := by decide +kernel
theorem dX1_deniedBy_42 : decode cX1_deniedBy 42 = .ok (.iconst 3, 1) := by decide +kernel
theorem dX1_deniedBy_43 : decode cX1_deniedBy 43 = .ok (.iload 4, 2) := by decide +kernel
theorem dX1_deniedBy_45 : decode cX1_deniedBy 45 = .ok (.imul, 1) := by decide +kernel
theorem dX1_deniedBy_46 : decode cX1_deniedBy 46 = .ok (.ishr, 1) := by decide +kernel
theorem dX1_deniedBy_47 : decode cX1_deniedBy 47 = .ok (.istore 8, 2) := by decide +kernel
theorem dX1_deniedBy_49 : decode cX1_deniedBy 49 = .ok (.iload 8, 2) := by decide +kernel
theorem dX1_deniedBy_51 : decode cX1_deniedBy 51 = .ok (.iconst 1, 1) := by decide +kernel
theorem dX1_deniedBy_52 : decode cX1_deniedBy 52 = .ok (.iand, 1) := by decide +kernel
theorem dX1_deniedBy_53 : decode cX1_deniedBy 53 = .ok (.ifCond .ne 7, 3) := by decide +kernel
theorem dX1_deniedBy_56 : decode cX1_deniedBy 56 = .ok (.iconst 0, 1) := by decide +kernel
theorem dX1_deniedBy_57 : decode cX1_deniedBy 57 = .ok (.goto 8, 3) := by decide +kernel
theorem dX1_deniedBy_60 : decode cX1_deniedBy 60 = .ok (.iload 6, 2) := by decide +kernel
theorem dX1_deniedBy_62 : decode cX1_deniedBy 62 = .ok (.iload 7, 2) := by decide +kernel
theorem dX1_deniedBy_64 : decode cX1_deniedBy 64 = .ok (.ior, 1) := by decide +kernel
theorem dX1_deniedBy_65 : decode cX1_deniedBy 65 = .ok (.istore 9, 2) := by decide +kernel
theorem dX1_deniedBy_67 : decode cX1_deniedBy 67 = .ok (.iload 9, 2) := by decide +kernel
theorem dX1_deniedBy_69 : decode cX1_deniedBy 69 = .ok (.iload 8, 2) := by decide +kernel
theorem dX1_deniedBy_71 : decode cX1_deniedBy 71 = .ok (.iconst 2, 1) := by decide +kernel
theorem dX1_deniedBy_72 : decode cX1_deniedBy 72 = .ok (.iand, 1) := by decide +kernel
theorem dX1_deniedBy_73 : decode cX1_deniedBy 73 = .ok (.ifCond .ne 7, 3) := by decide +kernel
theorem dX1_deniedBy_76 : decode cX1_deniedBy 76 = .ok (.iconst 0, 1) := by decide +kernel
theorem dX1_deniedBy_77 : decode cX1_deniedBy 77 = .ok (.goto 5, 3) := by decide +kernel
theorem dX1_deniedBy_80 : decode cX1_deniedBy 80 = .ok (.iload 7, 2) := by decide +kernel
theorem dX1_deniedBy_82 : decode cX1_deniedBy 82 = .ok (.ior, 1) := by decide +kernel
theorem dX1_deniedBy_83 : decode cX1_deniedBy 83 = .ok (.istore 9, 2) := by decide +kernel
theorem dX1_deniedBy_85 : decode cX1_deniedBy 85 = .ok (.iload 9, 2) := by decide +kernel
theorem dX1_deniedBy_87 : decode cX1_deniedBy 87 = .ok (.iload 8, 2) := by decide +kernel
theorem dX1_deniedBy_89 : decode cX1_deniedBy 89 = .ok (.iconst 4, 1) := by decide +kernel
theorem dX1_deniedBy_90 : decode cX1_deniedBy 90 = .ok (.iand, 1) := by decide +kernel
theorem dX1_deniedBy_91 : decode cX1_deniedBy 91 = .ok (.ifCond .ne 7, 3) := by decide +kernel
theorem dX1_deniedBy_94 : decode cX1_deniedBy 94 = .ok (.iconst 0, 1) := by decide +kernel
theorem dX1_deniedBy_95 : decode cX1_deniedBy 95 = .ok (.goto 5, 3) := by decide +kernel
theorem dX1_deniedBy_98 : decode cX1_deniedBy 98 = .ok (.iload 6, 2) := by decide +kernel
theorem dX1_deniedBy_100 : decode cX1_deniedBy 100 = .ok (.ior, 1) := by decide +kernel
theorem dX1_deniedBy_101 : decode cX1_deniedBy 101 = .ok (.istore 9, 2) := by decide +kernel
theorem dX1_deniedBy_103 : decode cX1_deniedBy 103 = .ok (.iload_n 3, 1) := by decide +kernel
theorem dX1_deniedBy_104 : decode cX1_deniedBy 104 = .ok (.iload 9, 2) := by decide +kernel
theorem dX1_deniedBy_106 : decode cX1_deniedBy 106 = .ok (.iconst 4, 1) := by decide +kernel
theorem dX1_deniedBy_107 : decode cX1_deniedBy 107 = .ok (.iload 4, 2) := by decide +kernel
theorem dX1_deniedBy_109 : decode cX1_deniedBy 109 = .ok (.imul, 1) := by decide +kernel
theorem dX1_deniedBy_110 : decode cX1_deniedBy 110 = .ok (.ishl, 1) := by decide +kernel
theorem dX1_deniedBy_111 : decode cX1_deniedBy 111 = .ok (.ior, 1) := by decide +kernel
theorem dX1_deniedBy_112 : decode cX1_deniedBy 112 = .ok (.istore_n 3, 1) := by decide +kernel
theorem dX1_deniedBy_113 : decode cX1_deniedBy 113 = .ok (.iinc 4 1, 3) := by decide +kernel
theorem dX1_deniedBy_116 : decode cX1_deniedBy 116 = .ok (.goto (-111), 3) := by decide +kernel
theorem dX1_deniedBy_119 : decode cX1_deniedBy 119 = .ok (.iload_n 3, 1) := by decide +kernel
theorem dX1_deniedBy_120 : decode cX1_deniedBy 120 = .ok (.ireturn, 1) := by decide +kernel
theorem dX2_init_0 : decode cX2_init 0 = .ok (.aload_n 0, 1) := by decide +kernel
theorem dX2_init_1 : decode cX2_init 1 = .ok (.invokespecial 3, 3) := by decide +kernel
theorem dX2_init_4 : decode cX2_init 4 = .ok (.aload_n 0, 1) := by decide +kernel
theorem dX2_init_5 : decode cX2_init 5 = .ok (.bipush (-6), 2) := by decide +kernel
theorem dX2_init_7 : decode cX2_init 7 = .ok (.putfield 9, 3) := by decide +kernel
theorem dX2_init_10 : decode cX2_init 10 = .ok (.aload_n 0, 1) := by decide +kernel
theorem dX2_init_11 : decode cX2_init 11 = .ok (.ldc 15, 2) := by decide +kernel
theorem dX2_init_13 : decode cX2_init 13 = .ok (.newarray .int, 2) := by decide +kernel
theorem dX2_init_15 : decode cX2_init 15 = .ok (.putfield 16, 3) := by decide +kernel
theorem dX2_init_18 : decode cX2_init 18 = .ok (.aload_n 0, 1) := by decide +kernel
theorem dX2_init_19 : decode cX2_init 19 = .ok (.iconst 0, 1) := by decide +kernel
theorem dX2_init_20 : decode cX2_init 20 = .ok (.putfield 20, 3) := by decide +kernel
theorem dX2_init_23 : decode cX2_init 23 = .ok (.aload_n 0, 1) := by decide +kernel
theorem dX2_init_24 : decode cX2_init 24 = .ok (.sipush 676, 3) := by decide +kernel
theorem dX2_init_27 : decode cX2_init 27 = .ok (.newarray .long, 2) := by decide +kernel
theorem dX2_init_29 : decode cX2_init 29 = .ok (.putfield 23, 3) := by decide +kernel
theorem dX2_init_32 : decode cX2_init 32 = .ok (.return_, 1) := by decide +kernel
theorem dX2_reach_0 : decode cX2_reach 0 = .ok (.aload_n 0, 1) := by decide +kernel
theorem dX2_reach_1 : decode cX2_reach 1 = .ok (.getfield 23, 3) := by decide +kernel
theorem dX2_reach_4 : decode cX2_reach 4 = .ok (.lconst 0, 1) := by decide +kernel
theorem dX2_reach_5 : decode cX2_reach 5 = .ok (.invokestatic 27, 3) := by decide +kernel
theorem dX2_reach_8 : decode cX2_reach 8 = .ok (.aload_n 0, 1) := by decide +kernel
theorem dX2_reach_9 : decode cX2_reach 9 = .ok (.iconst 0, 1) := by decide +kernel
theorem dX2_reach_10 : decode cX2_reach 10 = .ok (.putfield 20, 3) := by decide +kernel
theorem dX2_reach_13 : decode cX2_reach 13 = .ok (.aload_n 0, 1) := by decide +kernel
theorem dX2_reach_14 : decode cX2_reach 14 = .ok (.aload_n 1, 1) := by decide +kernel
theorem dX2_reach_15 : decode cX2_reach 15 = .ok (.iconst 0, 1) := by decide +kernel
theorem dX2_reach_16 : decode cX2_reach 16 = .ok (.iload_n 3, 1) := by decide +kernel
theorem dX2_reach_17 : decode cX2_reach 17 = .ok (.invokevirtual 33, 3) := by decide +kernel
theorem dX2_reach_20 : decode cX2_reach 20 = .ok (.sipush 256, 3) := by decide +kernel
theorem dX2_reach_23 : decode cX2_reach 23 = .ok (.idiv, 1) := by decide +kernel
theorem dX2_reach_24 : decode cX2_reach 24 = .ok (.aload_n 2, 1) := by decide +kernel
theorem dX2_reach_25 : decode cX2_reach 25 = .ok (.iconst 0, 1) := by decide +kernel
theorem dX2_reach_26 : decode cX2_reach 26 = .ok (.iload_n 3, 1) := by decide +kernel
theorem dX2_reach_27 : decode cX2_reach 27 = .ok (.invokevirtual 33, 3) := by decide +kernel
theorem dX2_reach_30 : decode cX2_reach 30 = .ok (.sipush 256, 3) := by decide +kernel
theorem dX2_reach_33 : decode cX2_reach 33 = .ok (.idiv, 1) := by decide +kernel
theorem dX2_reach_34 : decode cX2_reach 34 = .ok (.iload_n 3, 1) := by decide +kernel
theorem dX2_reach_35 : decode cX2_reach 35 = .ok (.invokevirtual 39, 3) := by decide +kernel
theorem dX2_reach_38 : decode cX2_reach 38 = .ok (.iconst 0, 1) := by decide +kernel
theorem dX2_reach_39 : decode cX2_reach 39 = .ok (.istore 4, 2) := by decide +kernel
theorem dX2_reach_41 : decode cX2_reach 41 = .ok (.iload 4, 2) := by decide +kernel
theorem dX2_reach_43 : decode cX2_reach 43 = .ok (.aload_n 0, 1) := by decide +kernel
theorem dX2_reach_44 : decode cX2_reach 44 = .ok (.getfield 20, 3) := by decide +kernel
theorem dX2_reach_47 : decode cX2_reach 47 = .ok (.if_icmp .ge 131, 3) := by decide +kernel
theorem dX2_reach_50 : decode cX2_reach 50 = .ok (.iload 4, 2) := by decide +kernel
theorem dX2_reach_52 : decode cX2_reach 52 = .ok (.ldc 15, 2) := by decide +kernel
theorem dX2_reach_54 : decode cX2_reach 54 = .ok (.if_icmp .ge 124, 3) := by decide +kernel
theorem dX2_reach_57 : decode cX2_reach 57 = .ok (.aload_n 0, 1) := by decide +kernel
theorem dX2_reach_58 : decode cX2_reach 58 = .ok (.getfield 16, 3) := by decide +kernel
theorem dX2_reach_61 : decode cX2_reach 61 = .ok (.iload 4, 2) := by decide +kernel
theorem dX2_reach_63 : decode cX2_reach 63 = .ok (.iaload, 1) := by decide +kernel
theorem dX2_reach_64 : decode cX2_reach 64 = .ok (.sipush 256, 3) := by decide +kernel
theorem dX2_reach_67 : decode cX2_reach 67 = .ok (.irem, 1) := by decide +kernel
theorem dX2_reach_68 : decode cX2_reach 68 = .ok (.istore 5, 2) := by decide +kernel
theorem dX2_reach_70 : decode cX2_reach 70 = .ok (.aload_n 0, 1) := by decide +kernel
theorem dX2_reach_71 : decode cX2_reach 71 = .ok (.getfield 16, 3) := by decide +kernel
theorem dX2_reach_74 : decode cX2_reach 74 = .ok (.iload 4, 2) := by decide +kernel
theorem dX2_reach_76 : decode cX2_reach 76 = .ok (.iaload, 1) := by decide +kernel
theorem dX2_reach_77 : decode cX2_reach 77 = .ok (.sipush 256, 3) := by decide +kernel
theorem dX2_reach_80 : decode cX2_reach 80 = .ok (.idiv, 1) := by decide +kernel
theorem dX2_reach_81 : decode cX2_reach 81 = .ok (.bipush 13, 2) := by decide +kernel
theorem dX2_reach_83 : decode cX2_reach 83 = .ok (.idiv, 1) := by decide +kernel
theorem dX2_reach_84 : decode cX2_reach 84 = .ok (.istore 6, 2) := by decide +kernel
theorem dX2_reach_86 : decode cX2_reach 86 = .ok (.aload_n 0, 1) := by decide +kernel
theorem dX2_reach_87 : decode cX2_reach 87 = .ok (.getfield 16, 3) := by decide +kernel
theorem dX2_reach_90 : decode cX2_reach 90 = .ok (.iload 4, 2) := by decide +kernel
theorem dX2_reach_92 : decode cX2_reach 92 = .ok (.iaload, 1) := by decide +kernel
theorem dX2_reach_93 : decode cX2_reach 93 = .ok (.sipush 256, 3) := by decide +kernel
theorem dX2_reach_96 : decode cX2_reach 96 = .ok (.idiv, 1) := by decide +kernel
theorem dX2_reach_97 : decode cX2_reach 97 = .ok (.bipush 13, 2) := by decide +kernel
theorem dX2_reach_99 : decode cX2_reach 99 = .ok (.irem, 1) := by decide +kernel
theorem dX2_reach_100 : decode cX2_reach 100 = .ok (.istore 7, 2) := by decide +kernel
theorem dX2_reach_102 : decode cX2_reach 102 = .ok (.iload 6, 2) := by decide +kernel
theorem dX2_reach_104 : decode cX2_reach 104 = .ok (.bipush 12, 2) := by decide +kernel
theorem dX2_reach_106 : decode cX2_reach 106 = .ok (.if_icmp .eq 31, 3) := by decide +kernel
theorem dX2_reach_109 : decode cX2_reach 109 = .ok (.aload_n 1, 1) := by decide +kernel
theorem dX2_reach_110 : decode cX2_reach 110 = .ok (.iload 6, 2) := by decide +kernel
theorem dX2_reach_112 : decode cX2_reach 112 = .ok (.iload 5, 2) := by decide +kernel
theorem dX2_reach_114 : decode cX2_reach 114 = .ok (.invokevirtual 43, 3) := by decide +kernel
theorem dX2_reach_117 : decode cX2_reach 117 = .ok (.istore 8, 2) := by decide +kernel
theorem dX2_reach_119 : decode cX2_reach 119 = .ok (.aload_n 0, 1) := by decide +kernel
theorem dX2_reach_120 : decode cX2_reach 120 = .ok (.iload 8, 2) := by decide +kernel
theorem dX2_reach_122 : decode cX2_reach 122 = .ok (.sipush 256, 3) := by decide +kernel
theorem dX2_reach_125 : decode cX2_reach 125 = .ok (.idiv, 1) := by decide +kernel
theorem dX2_reach_126 : decode cX2_reach 126 = .ok (.iload 7, 2) := by decide +kernel
theorem dX2_reach_128 : decode cX2_reach 128 = .ok (.iload 8, 2) := by decide +kernel
theorem dX2_reach_130 : decode cX2_reach 130 = .ok (.sipush 256, 3) := by decide +kernel
theorem dX2_reach_133 : decode cX2_reach 133 = .ok (.irem, 1) := by decide +kernel
theorem dX2_reach_134 : decode cX2_reach 134 = .ok (.invokevirtual 39, 3) := by decide +kernel
theorem dX2_reach_137 : decode cX2_reach 137 = .ok (.iload 7, 2) := by decide +kernel
theorem dX2_reach_139 : decode cX2_reach 139 = .ok (.bipush 12, 2) := by decide +kernel
theorem dX2_reach_141 : decode cX2_reach 141 = .ok (.if_icmp .eq 31, 3) := by decide +kernel
theorem dX2_reach_144 : decode cX2_reach 144 = .ok (.aload_n 2, 1) := by decide +kernel
theorem dX2_reach_145 : decode cX2_reach 145 = .ok (.iload 7, 2) := by decide +kernel
theorem dX2_reach_147 : decode cX2_reach 147 = .ok (.iload 5, 2) := by decide +kernel
theorem dX2_reach_149 : decode cX2_reach 149 = .ok (.invokevirtual 43, 3) := by decide +kernel
theorem dX2_reach_152 : decode cX2_reach 152 = .ok (.istore 8, 2) := by decide +kernel
theorem dX2_reach_154 : decode cX2_reach 154 = .ok (.aload_n 0, 1) := by decide +kernel
theorem dX2_reach_155 : decode cX2_reach 155 = .ok (.iload 6, 2) := by decide +kernel
theorem dX2_reach_157 : decode cX2_reach 157 = .ok (.iload 8, 2) := by decide +kernel
theorem dX2_reach_159 : decode cX2_reach 159 = .ok (.sipush 256, 3) := by decide +kernel
theorem dX2_reach_162 : decode cX2_reach 162 = .ok (.idiv, 1) := by decide +kernel
theorem dX2_reach_163 : decode cX2_reach 163 = .ok (.iload 8, 2) := by decide +kernel
theorem dX2_reach_165 : decode cX2_reach 165 = .ok (.sipush 256, 3) := by decide +kernel
theorem dX2_reach_168 : decode cX2_reach 168 = .ok (.irem, 1) := by decide +kernel
theorem dX2_reach_169 : decode cX2_reach 169 = .ok (.invokevirtual 39, 3) := by decide +kernel
theorem dX2_reach_172 : decode cX2_reach 172 = .ok (.iinc 4 1, 3) := by decide +kernel
theorem dX2_reach_175 : decode cX2_reach 175 = .ok (.goto (-134), 3) := by decide +kernel
theorem dX2_reach_178 : decode cX2_reach 178 = .ok (.return_, 1) := by decide +kernel
theorem dX2_add_0 : decode cX2_add 0 = .ok (.iload_n 1, 1) := by decide +kernel
theorem dX2_add_1 : decode cX2_add 1 = .ok (.bipush 13, 2) := by decide +kernel
theorem dX2_add_3 : decode cX2_add 3 = .ok (.imul, 1) := by decide +kernel
theorem dX2_add_4 : decode cX2_add 4 = .ok (.iload_n 2, 1) := by decide +kernel
theorem dX2_add_5 : decode cX2_add 5 = .ok (.iadd, 1) := by decide +kernel
theorem dX2_add_6 : decode cX2_add 6 = .ok (.sipush 256, 3) := by decide +kernel
theorem dX2_add_9 : decode cX2_add 9 = .ok (.imul, 1) := by decide +kernel
theorem dX2_add_10 : decode cX2_add 10 = .ok (.iload_n 3, 1) := by decide +kernel
theorem dX2_add_11 : decode cX2_add 11 = .ok (.iadd, 1) := by decide +kernel
theorem dX2_add_12 : decode cX2_add 12 = .ok (.istore 4, 2) := by decide +kernel
theorem dX2_add_14 : decode cX2_add 14 = .ok (.iload 4, 2) := by decide +kernel
theorem dX2_add_16 : decode cX2_add 16 = .ok (.ifCond .lt 28, 3) := by decide +kernel
theorem dX2_add_19 : decode cX2_add 19 = .ok (.iload 4, 2) := by decide +kernel
theorem dX2_add_21 : decode cX2_add 21 = .ok (.ldc 15, 2) := by decide +kernel
theorem dX2_add_23 : decode cX2_add 23 = .ok (.if_icmp .ge 21, 3) := by decide +kernel
theorem dX2_add_26 : decode cX2_add 26 = .ok (.aload_n 0, 1) := by decide +kernel
theorem dX2_add_27 : decode cX2_add 27 = .ok (.getfield 20, 3) := by decide +kernel
theorem dX2_add_30 : decode cX2_add 30 = .ok (.ldc 15, 2) := by decide +kernel
theorem dX2_add_32 : decode cX2_add 32 = .ok (.if_icmp .ge 12, 3) := by decide +kernel
theorem dX2_add_35 : decode cX2_add 35 = .ok (.aload_n 0, 1) := by decide +kernel
theorem dX2_add_36 : decode cX2_add 36 = .ok (.iload 4, 2) := by decide +kernel
theorem dX2_add_38 : decode cX2_add 38 = .ok (.invokevirtual 46, 3) := by decide +kernel
theorem dX2_add_41 : decode cX2_add 41 = .ok (.ifCond .eq 4, 3) := by decide +kernel
theorem dX2_add_44 : decode cX2_add 44 = .ok (.return_, 1) := by decide +kernel
theorem dX2_add_45 : decode cX2_add 45 = .ok (.aload_n 0, 1) := by decide +kernel
theorem dX2_add_46 : decode cX2_add 46 = .ok (.getfield 23, 3) := by decide +kernel
theorem dX2_add_49 : decode cX2_add 49 = .ok (.iload 4, 2) := by decide +kernel
theorem dX2_add_51 : decode cX2_add 51 = .ok (.bipush 64, 2) := by decide +kernel
theorem dX2_add_53 : decode cX2_add 53 = .ok (.idiv, 1) := by decide +kernel
theorem dX2_add_54 : decode cX2_add 54 = .ok (.dup2, 1) := by decide +kernel
theorem dX2_add_55 : decode cX2_add 55 = .ok (.laload, 1) := by decide +kernel
theorem dX2_add_56 : decode cX2_add 56 = .ok (.lconst 1, 1) := by decide +kernel
theorem dX2_add_57 : decode cX2_add 57 = .ok (.iload 4, 2) := by decide +kernel
theorem dX2_add_59 : decode cX2_add 59 = .ok (.bipush 64, 2) := by decide +kernel
theorem dX2_add_61 : decode cX2_add 61 = .ok (.irem, 1) := by decide +kernel
theorem dX2_add_62 : decode cX2_add 62 = .ok (.lshl, 1) := by decide +kernel
theorem dX2_add_63 : decode cX2_add 63 = .ok (.lor, 1) := by decide +kernel
theorem dX2_add_64 : decode cX2_add 64 = .ok (.lastore, 1) := by decide +kernel
theorem dX2_add_65 : decode cX2_add 65 = .ok (.aload_n 0, 1) := by decide +kernel
theorem dX2_add_66 : decode cX2_add 66 = .ok (.getfield 16, 3) := by decide +kernel
theorem dX2_add_69 : decode cX2_add 69 = .ok (.aload_n 0, 1) := by decide +kernel
theorem dX2_add_70 : decode cX2_add 70 = .ok (.getfield 20, 3) := by decide +kernel
theorem dX2_add_73 : decode cX2_add 73 = .ok (.iload 4, 2) := by decide +kernel
theorem dX2_add_75 : decode cX2_add 75 = .ok (.iastore, 1) := by decide +kernel
theorem dX2_add_76 : decode cX2_add 76 = .ok (.aload_n 0, 1) := by decide +kernel
theorem dX2_add_77 : decode cX2_add 77 = .ok (.dup, 1) := by decide +kernel
theorem dX2_add_78 : decode cX2_add 78 = .ok (.getfield 20, 3) := by decide +kernel
theorem dX2_add_81 : decode cX2_add 81 = .ok (.iconst 1, 1) := by decide +kernel
theorem dX2_add_82 : decode cX2_add 82 = .ok (.iadd, 1) := by decide +kernel
theorem dX2_add_83 : decode cX2_add 83 = .ok (.putfield 20, 3) := by decide +kernel
theorem dX2_add_86 : decode cX2_add 86 = .ok (.return_, 1) := by decide +kernel
theorem dX2_isSeen_0 : decode cX2_isSeen 0 = .ok (.aload_n 0, 1) := by decide +kernel
theorem dX2_isSeen_1 : decode cX2_isSeen 1 = .ok (.getfield 23, 3) := by decide +kernel
theorem dX2_isSeen_4 : decode cX2_isSeen 4 = .ok (.iload_n 1, 1) := by decide +kernel
theorem dX2_isSeen_5 : decode cX2_isSeen 5 = .ok (.bipush 64, 2) := by decide +kernel
theorem dX2_isSeen_7 : decode cX2_isSeen 7 = .ok (.idiv, 1) := by decide +kernel
theorem dX2_isSeen_8 : decode cX2_isSeen 8 = .ok (.laload, 1) := by decide +kernel
theorem dX2_isSeen_9 : decode cX2_isSeen 9 = .ok (.iload_n 1, 1) := by decide +kernel
theorem dX2_isSeen_10 : decode cX2_isSeen 10 = .ok (.bipush 64, 2) := by decide +kernel
theorem dX2_isSeen_12 : decode cX2_isSeen 12 = .ok (.irem, 1) := by decide +kernel
theorem dX2_isSeen_13 : decode cX2_isSeen 13 = .ok (.lshr, 1) := by decide +kernel
theorem dX2_isSeen_14 : decode cX2_isSeen 14 = .ok (.lconst 1, 1) := by decide +kernel
theorem dX2_isSeen_15 : decode cX2_isSeen 15 = .ok (.land, 1) := by decide +kernel
theorem dX2_isSeen_16 : decode cX2_isSeen 16 = .ok (.lconst 0, 1) := by decide +kernel
theorem dX2_isSeen_17 : decode cX2_isSeen 17 = .ok (.lcmp, 1) := by decide +kernel
theorem dX2_isSeen_18 : decode cX2_isSeen 18 = .ok (.ifCond .eq 7, 3) := by decide +kernel
theorem dX2_isSeen_21 : decode cX2_isSeen 21 = .ok (.iconst 1, 1) := by decide +kernel
theorem dX2_isSeen_22 : decode cX2_isSeen 22 = .ok (.goto 4, 3) := by decide +kernel
theorem dX2_isSeen_25 : decode cX2_isSeen 25 = .ok (.iconst 0, 1) := by decide +kernel
theorem dX2_isSeen_26 : decode cX2_isSeen 26 = .ok (.ireturn, 1) := by decide +kernel
theorem dX2_isEnd_0 : decode cX2_isEnd 0 = .ok (.aload_n 0, 1) := by decide +kernel
theorem dX2_isEnd_1 : decode cX2_isEnd 1 = .ok (.ldc 50, 2) := by decide +kernel
theorem dX2_isEnd_3 : decode cX2_isEnd 3 = .ok (.iload_n 1, 1) := by decide +kernel
theorem dX2_isEnd_4 : decode cX2_isEnd 4 = .ok (.iadd, 1) := by decide +kernel
theorem dX2_isEnd_5 : decode cX2_isEnd 5 = .ok (.invokevirtual 46, 3) := by decide +kernel
theorem dX2_isEnd_8 : decode cX2_isEnd 8 = .ok (.ireturn, 1) := by decide +kernel
theorem dX2_countEnds_0 : decode cX2_countEnds 0 = .ok (.iconst 0, 1) := by decide +kernel
theorem dX2_countEnds_1 : decode cX2_countEnds 1 = .ok (.istore_n 1, 1) := by decide +kernel
theorem dX2_countEnds_2 : decode cX2_countEnds 2 = .ok (.iconst 0, 1) := by decide +kernel
theorem dX2_countEnds_3 : decode cX2_countEnds 3 = .ok (.istore_n 2, 1) := by decide +kernel
theorem dX2_countEnds_4 : decode cX2_countEnds 4 = .ok (.iload_n 2, 1) := by decide +kernel
theorem dX2_countEnds_5 : decode cX2_countEnds 5 = .ok (.sipush 256, 3) := by decide +kernel
theorem dX2_countEnds_8 : decode cX2_countEnds 8 = .ok (.if_icmp .ge 25, 3) := by decide +kernel
theorem dX2_countEnds_11 : decode cX2_countEnds 11 = .ok (.iload_n 1, 1) := by decide +kernel
theorem dX2_countEnds_12 : decode cX2_countEnds 12 = .ok (.aload_n 0, 1) := by decide +kernel
theorem dX2_countEnds_13 : decode cX2_countEnds 13 = .ok (.iload_n 2, 1) := by decide +kernel
theorem dX2_countEnds_14 : decode cX2_countEnds 14 = .ok (.invokevirtual 51, 3) := by decide +kernel
theorem dX2_countEnds_17 : decode cX2_countEnds 17 = .ok (.ifCond .eq 7, 3) := by decide +kernel
theorem dX2_countEnds_20 : decode cX2_countEnds 20 = .ok (.iconst 1, 1) := by decide +kernel
theorem dX2_countEnds_21 : decode cX2_countEnds 21 = .ok (.goto 4, 3) := by decide +kernel
theorem dX2_countEnds_24 : decode cX2_countEnds 24 = .ok (.iconst 0, 1) := by decide +kernel
theorem dX2_countEnds_25 : decode cX2_countEnds 25 = .ok (.iadd, 1) := by decide +kernel
theorem dX2_countEnds_26 : decode cX2_countEnds 26 = .ok (.istore_n 1, 1) := by decide +kernel
theorem dX2_countEnds_27 : decode cX2_countEnds 27 = .ok (.iinc 2 1, 3) := by decide +kernel
theorem dX2_countEnds_30 : decode cX2_countEnds 30 = .ok (.goto (-26), 3) := by decide +kernel
theorem dX2_countEnds_33 : decode cX2_countEnds 33 = .ok (.iload_n 1, 1) := by decide +kernel
theorem dX2_countEnds_34 : decode cX2_countEnds 34 = .ok (.ireturn, 1) := by decide +kernel
theorem dX2_leastEnd_0 : decode cX2_leastEnd 0 = .ok (.iconst 0, 1) := by decide +kernel
theorem dX2_leastEnd_1 : decode cX2_leastEnd 1 = .ok (.istore_n 1, 1) := by decide +kernel
theorem dX2_leastEnd_2 : decode cX2_leastEnd 2 = .ok (.iload_n 1, 1) := by decide +kernel
theorem dX2_leastEnd_3 : decode cX2_leastEnd 3 = .ok (.sipush 256, 3) := by decide +kernel
theorem dX2_leastEnd_6 : decode cX2_leastEnd 6 = .ok (.if_icmp .ge 19, 3) := by decide +kernel
theorem dX2_leastEnd_9 : decode cX2_leastEnd 9 = .ok (.aload_n 0, 1) := by decide +kernel
theorem dX2_leastEnd_10 : decode cX2_leastEnd 10 = .ok (.iload_n 1, 1) := by decide +kernel
theorem dX2_leastEnd_11 : decode cX2_leastEnd 11 = .ok (.invokevirtual 51, 3) := by decide +kernel
theorem dX2_leastEnd_14 : decode cX2_leastEnd 14 = .ok (.ifCond .eq 5, 3) := by decide +kernel
theorem dX2_leastEnd_17 : decode cX2_leastEnd 17 = .ok (.iload_n 1, 1) := by decide +kernel
theorem dX2_leastEnd_18 : decode cX2_leastEnd 18 = .ok (.ireturn, 1) := by decide +kernel
theorem dX2_leastEnd_19 : decode cX2_leastEnd 19 = .ok (.iinc 1 1, 3) := by decide +kernel
theorem dX2_leastEnd_22 : decode cX2_leastEnd 22 = .ok (.goto (-20), 3) := by decide +kernel
theorem dX2_leastEnd_25 : decode cX2_leastEnd 25 = .ok (.bipush (-6), 2) := by decide +kernel
theorem dX2_leastEnd_27 : decode cX2_leastEnd 27 = .ok (.ireturn, 1) := by decide +kernel
theorem dX3_init_0 : decode cX3_init 0 = .ok (.aload_n 0, 1) := by decide +kernel
theorem dX3_init_1 : decode cX3_init 1 = .ok (.invokespecial 3, 3) := by decide +kernel
theorem dX3_init_4 : decode cX3_init 4 = .ok (.aload_n 0, 1) := by decide +kernel
theorem dX3_init_5 : decode cX3_init 5 = .ok (.aload_n 1, 1) := by decide +kernel
theorem dX3_init_6 : decode cX3_init 6 = .ok (.putfield 9, 3) := by decide +kernel
theorem dX3_init_9 : decode cX3_init 9 = .ok (.aload_n 0, 1) := by decide +kernel
theorem dX3_init_10 : decode cX3_init 10 = .ok (.bipush (-6), 2) := by decide +kernel
theorem dX3_init_12 : decode cX3_init 12 = .ok (.putfield 15, 3) := by decide +kernel
theorem dX3_init_15 : decode cX3_init 15 = .ok (.return_, 1) := by decide +kernel
theorem dX3_judge_0 : decode cX3_judge 0 = .ok (.aload_n 2, 1) := by decide +kernel
theorem dX3_judge_1 : decode cX3_judge 1 = .ok (.invokevirtual 19, 3) := by decide +kernel
theorem dX3_judge_4 : decode cX3_judge 4 = .ok (.aload_n 3, 1) := by decide +kernel
theorem dX3_judge_5 : decode cX3_judge 5 = .ok (.invokevirtual 19, 3) := by decide +kernel
theorem dX3_judge_8 : decode cX3_judge 8 = .ok (.aload_n 0, 1) := by decide +kernel
theorem dX3_judge_9 : decode cX3_judge 9 = .ok (.iconst 0, 1) := by decide +kernel
theorem dX3_judge_10 : decode cX3_judge 10 = .ok (.putfield 24, 3) := by decide +kernel
theorem dX3_judge_13 : decode cX3_judge 13 = .ok (.aload_n 0, 1) := by decide +kernel
theorem dX3_judge_14 : decode cX3_judge 14 = .ok (.bipush (-6), 2) := by decide +kernel
theorem dX3_judge_16 : decode cX3_judge 16 = .ok (.putfield 27, 3) := by decide +kernel
theorem dX3_judge_19 : decode cX3_judge 19 = .ok (.aload_n 0, 1) := by decide +kernel
theorem dX3_judge_20 : decode cX3_judge 20 = .ok (.iconst 0, 1) := by decide +kernel
theorem dX3_judge_21 : decode cX3_judge 21 = .ok (.putfield 30, 3) := by decide +kernel
theorem dX3_judge_24 : decode cX3_judge 24 = .ok (.aload_n 0, 1) := by decide +kernel
theorem dX3_judge_25 : decode cX3_judge 25 = .ok (.bipush (-6), 2) := by decide +kernel
theorem dX3_judge_27 : decode cX3_judge 27 = .ok (.putfield 33, 3) := by decide +kernel
theorem dX3_judge_30 : decode cX3_judge 30 = .ok (.iconst 0, 1) := by decide +kernel
theorem dX3_judge_31 : decode cX3_judge 31 = .ok (.istore 4, 2) := by decide +kernel
theorem dX3_judge_33 : decode cX3_judge 33 = .ok (.iload 4, 2) := by decide +kernel
theorem dX3_judge_35 : decode cX3_judge 35 = .ok (.sipush 256, 3) := by decide +kernel
theorem dX3_judge_38 : decode cX3_judge 38 = .ok (.if_icmp .ge 67, 3) := by decide +kernel
theorem dX3_judge_41 : decode cX3_judge 41 = .ok (.aload_n 0, 1) := by decide +kernel
theorem dX3_judge_42 : decode cX3_judge 42 = .ok (.getfield 30, 3) := by decide +kernel
theorem dX3_judge_45 : decode cX3_judge 45 = .ok (.aload_n 0, 1) := by decide +kernel
theorem dX3_judge_46 : decode cX3_judge 46 = .ok (.getfield 24, 3) := by decide +kernel
theorem dX3_judge_49 : decode cX3_judge 49 = .ok (.isub, 1) := by decide +kernel
theorem dX3_judge_50 : decode cX3_judge 50 = .ok (.istore 5, 2) := by decide +kernel
theorem dX3_judge_52 : decode cX3_judge 52 = .ok (.aload_n 0, 1) := by decide +kernel
theorem dX3_judge_53 : decode cX3_judge 53 = .ok (.getfield 9, 3) := by decide +kernel
theorem dX3_judge_56 : decode cX3_judge 56 = .ok (.aload_n 1, 1) := by decide +kernel
theorem dX3_judge_57 : decode cX3_judge 57 = .ok (.aload_n 2, 1) := by decide +kernel
theorem dX3_judge_58 : decode cX3_judge 58 = .ok (.iload 4, 2) := by decide +kernel
theorem dX3_judge_60 : decode cX3_judge 60 = .ok (.invokevirtual 36, 3) := by decide +kernel
theorem dX3_judge_63 : decode cX3_judge 63 = .ok (.aload_n 0, 1) := by decide +kernel
theorem dX3_judge_64 : decode cX3_judge 64 = .ok (.iload 4, 2) := by decide +kernel
theorem dX3_judge_66 : decode cX3_judge 66 = .ok (.aload_n 3, 1) := by decide +kernel
theorem dX3_judge_67 : decode cX3_judge 67 = .ok (.invokevirtual 42, 3) := by decide +kernel
theorem dX3_judge_70 : decode cX3_judge 70 = .ok (.aload_n 0, 1) := by decide +kernel
theorem dX3_judge_71 : decode cX3_judge 71 = .ok (.getfield 33, 3) := by decide +kernel
theorem dX3_judge_74 : decode cX3_judge 74 = .ok (.bipush (-6), 2) := by decide +kernel
theorem dX3_judge_76 : decode cX3_judge 76 = .ok (.if_icmp .ne 23, 3) := by decide +kernel
theorem dX3_judge_79 : decode cX3_judge 79 = .ok (.aload_n 0, 1) := by decide +kernel
theorem dX3_judge_80 : decode cX3_judge 80 = .ok (.getfield 30, 3) := by decide +kernel
theorem dX3_judge_83 : decode cX3_judge 83 = .ok (.aload_n 0, 1) := by decide +kernel
theorem dX3_judge_84 : decode cX3_judge 84 = .ok (.getfield 24, 3) := by decide +kernel
theorem dX3_judge_87 : decode cX3_judge 87 = .ok (.isub, 1) := by decide +kernel
theorem dX3_judge_88 : decode cX3_judge 88 = .ok (.iload 5, 2) := by decide +kernel
theorem dX3_judge_90 : decode cX3_judge 90 = .ok (.if_icmp .ne 9, 3) := by decide +kernel
theorem dX3_judge_93 : decode cX3_judge 93 = .ok (.aload_n 0, 1) := by decide +kernel
theorem dX3_judge_94 : decode cX3_judge 94 = .ok (.iload 4, 2) := by decide +kernel
theorem dX3_judge_96 : decode cX3_judge 96 = .ok (.putfield 33, 3) := by decide +kernel
theorem dX3_judge_99 : decode cX3_judge 99 = .ok (.iinc 4 1, 3) := by decide +kernel
theorem dX3_judge_102 : decode cX3_judge 102 = .ok (.goto (-69), 3) := by decide +kernel
theorem dX3_judge_105 : decode cX3_judge 105 = .ok (.return_, 1) := by decide +kernel
theorem dX3_judgeStart_0 : decode cX3_judgeStart 0 = .ok (.iconst 0, 1) := by decide +kernel
theorem dX3_judgeStart_1 : decode cX3_judgeStart 1 = .ok (.istore_n 3, 1) := by decide +kernel
theorem dX3_judgeStart_2 : decode cX3_judgeStart 2 = .ok (.iload_n 3, 1) := by decide +kernel
theorem dX3_judgeStart_3 : decode cX3_judgeStart 3 = .ok (.sipush 256, 3) := by decide +kernel
theorem dX3_judgeStart_6 : decode cX3_judgeStart 6 = .ok (.if_icmp .ge 82, 3) := by decide +kernel
theorem dX3_judgeStart_9 : decode cX3_judgeStart 9 = .ok (.aload_n 0, 1) := by decide +kernel
theorem dX3_judgeStart_10 : decode cX3_judgeStart 10 = .ok (.getfield 9, 3) := by decide +kernel
theorem dX3_judgeStart_13 : decode cX3_judgeStart 13 = .ok (.iload_n 3, 1) := by decide +kernel
theorem dX3_judgeStart_14 : decode cX3_judgeStart 14 = .ok (.invokevirtual 46, 3) := by decide +kernel
theorem dX3_judgeStart_17 : decode cX3_judgeStart 17 = .ok (.ifCond .ne 6, 3) := by decide +kernel
theorem dX3_judgeStart_20 : decode cX3_judgeStart 20 = .ok (.goto 62, 3) := by decide +kernel
theorem dX3_judgeStart_23 : decode cX3_judgeStart 23 = .ok (.aload_n 0, 1) := by decide +kernel
theorem dX3_judgeStart_24 : decode cX3_judgeStart 24 = .ok (.dup, 1) := by decide +kernel
theorem dX3_judgeStart_25 : decode cX3_judgeStart 25 = .ok (.getfield 30, 3) := by decide +kernel
theorem dX3_judgeStart_28 : decode cX3_judgeStart 28 = .ok (.iconst 1, 1) := by decide +kernel
theorem dX3_judgeStart_29 : decode cX3_judgeStart 29 = .ok (.iadd, 1) := by decide +kernel
theorem dX3_judgeStart_30 : decode cX3_judgeStart 30 = .ok (.putfield 30, 3) := by decide +kernel
theorem dX3_judgeStart_33 : decode cX3_judgeStart 33 = .ok (.aload_n 0, 1) := by decide +kernel
theorem dX3_judgeStart_34 : decode cX3_judgeStart 34 = .ok (.getfield 9, 3) := by decide +kernel
theorem dX3_judgeStart_37 : decode cX3_judgeStart 37 = .ok (.aload_n 2, 1) := by decide +kernel
theorem dX3_judgeStart_38 : decode cX3_judgeStart 38 = .ok (.iload_n 3, 1) := by decide +kernel
theorem dX3_judgeStart_39 : decode cX3_judgeStart 39 = .ok (.invokevirtual 50, 3) := by decide +kernel
theorem dX3_judgeStart_42 : decode cX3_judgeStart 42 = .ok (.ifCond .eq 40, 3) := by decide +kernel
theorem dX3_judgeStart_45 : decode cX3_judgeStart 45 = .ok (.aload_n 0, 1) := by decide +kernel
theorem dX3_judgeStart_46 : decode cX3_judgeStart 46 = .ok (.dup, 1) := by decide +kernel
theorem dX3_judgeStart_47 : decode cX3_judgeStart 47 = .ok (.getfield 24, 3) := by decide +kernel
theorem dX3_judgeStart_50 : decode cX3_judgeStart 50 = .ok (.iconst 1, 1) := by decide +kernel
theorem dX3_judgeStart_51 : decode cX3_judgeStart 51 = .ok (.iadd, 1) := by decide +kernel
theorem dX3_judgeStart_52 : decode cX3_judgeStart 52 = .ok (.putfield 24, 3) := by decide +kernel
theorem dX3_judgeStart_55 : decode cX3_judgeStart 55 = .ok (.aload_n 0, 1) := by decide +kernel
theorem dX3_judgeStart_56 : decode cX3_judgeStart 56 = .ok (.aload_n 0, 1) := by decide +kernel
theorem dX3_judgeStart_57 : decode cX3_judgeStart 57 = .ok (.getfield 27, 3) := by decide +kernel
theorem dX3_judgeStart_60 : decode cX3_judgeStart 60 = .ok (.bipush (-6), 2) := by decide +kernel
theorem dX3_judgeStart_62 : decode cX3_judgeStart 62 = .ok (.if_icmp .ne 13, 3) := by decide +kernel
theorem dX3_judgeStart_65 : decode cX3_judgeStart 65 = .ok (.iload_n 1, 1) := by decide +kernel
theorem dX3_judgeStart_66 : decode cX3_judgeStart 66 = .ok (.sipush 256, 3) := by decide +kernel
theorem dX3_judgeStart_69 : decode cX3_judgeStart 69 = .ok (.imul, 1) := by decide +kernel
theorem dX3_judgeStart_70 : decode cX3_judgeStart 70 = .ok (.iload_n 3, 1) := by decide +kernel
theorem dX3_judgeStart_71 : decode cX3_judgeStart 71 = .ok (.iadd, 1) := by decide +kernel
theorem dX3_judgeStart_72 : decode cX3_judgeStart 72 = .ok (.goto 7, 3) := by decide +kernel
theorem dX3_judgeStart_75 : decode cX3_judgeStart 75 = .ok (.aload_n 0, 1) := by decide +kernel
theorem dX3_judgeStart_76 : decode cX3_judgeStart 76 = .ok (.getfield 27, 3) := by decide +kernel
theorem dX3_judgeStart_79 : decode cX3_judgeStart 79 = .ok (.putfield 27, 3) := by decide +kernel
theorem dX3_judgeStart_82 : decode cX3_judgeStart 82 = .ok (.iinc 3 1, 3) := by decide +kernel
theorem dX3_judgeStart_85 : decode cX3_judgeStart 85 = .ok (.goto (-83), 3) := by decide +kernel
theorem dX3_judgeStart_88 : decode cX3_judgeStart 88 = .ok (.return_, 1) := by decide +kernel
theorem dX4_init_0 : decode cX4_init 0 = .ok (.aload_n 0, 1) := by decide +kernel
theorem dX4_init_1 : decode cX4_init 1 = .ok (.invokespecial 3, 3) := by decide +kernel
theorem dX4_init_4 : decode cX4_init 4 = .ok (.aload_n 0, 1) := by decide +kernel
theorem dX4_init_5 : decode cX4_init 5 = .ok (.aload_n 1, 1) := by decide +kernel
theorem dX4_init_6 : decode cX4_init 6 = .ok (.putfield 9, 3) := by decide +kernel
theorem dX4_init_9 : decode cX4_init 9 = .ok (.aload_n 0, 1) := by decide +kernel
theorem dX4_init_10 : decode cX4_init 10 = .ok (.bipush 12, 2) := by decide +kernel
theorem dX4_init_12 : decode cX4_init 12 = .ok (.newarray .int, 2) := by decide +kernel
theorem dX4_init_14 : decode cX4_init 14 = .ok (.putfield 15, 3) := by decide +kernel
theorem dX4_init_17 : decode cX4_init 17 = .ok (.aload_n 0, 1) := by decide +kernel
theorem dX4_init_18 : decode cX4_init 18 = .ok (.bipush 12, 2) := by decide +kernel
theorem dX4_init_20 : decode cX4_init 20 = .ok (.newarray .int, 2) := by decide +kernel
theorem dX4_init_22 : decode cX4_init 22 = .ok (.putfield 19, 3) := by decide +kernel
theorem dX4_init_25 : decode cX4_init 25 = .ok (.aload_n 0, 1) := by decide +kernel
theorem dX4_init_26 : decode cX4_init 26 = .ok (.bipush 12, 2) := by decide +kernel
theorem dX4_init_28 : decode cX4_init 28 = .ok (.newarray .int, 2) := by decide +kernel
theorem dX4_init_30 : decode cX4_init 30 = .ok (.putfield 22, 3) := by decide +kernel
theorem dX4_init_33 : decode cX4_init 33 = .ok (.aload_n 0, 1) := by decide +kernel
theorem dX4_init_34 : decode cX4_init 34 = .ok (.bipush 12, 2) := by decide +kernel
theorem dX4_init_36 : decode cX4_init 36 = .ok (.newarray .int, 2) := by decide +kernel
theorem dX4_init_38 : decode cX4_init 38 = .ok (.putfield 25, 3) := by decide +kernel
theorem dX4_init_41 : decode cX4_init 41 = .ok (.aload_n 0, 1) := by decide +kernel
theorem dX4_init_42 : decode cX4_init 42 = .ok (.iconst 0, 1) := by decide +kernel
theorem dX4_init_43 : decode cX4_init 43 = .ok (.putfield 28, 3) := by decide +kernel
theorem dX4_init_46 : decode cX4_init 46 = .ok (.aload_n 0, 1) := by decide +kernel
theorem dX4_init_47 : decode cX4_init 47 = .ok (.iconst 0, 1) := by decide +kernel
theorem dX4_init_48 : decode cX4_init 48 = .ok (.putfield 32, 3) := by decide +kernel
theorem dX4_init_51 : decode cX4_init 51 = .ok (.aload_n 0, 1) := by decide +kernel
theorem dX4_init_52 : decode cX4_init 52 = .ok (.iconst 1, 1) := by decide +kernel
theorem dX4_init_53 : decode cX4_init 53 = .ok (.putfield 35, 3) := by decide +kernel
theorem dX4_init_56 : decode cX4_init 56 = .ok (.aload_n 0, 1) := by decide +kernel
theorem dX4_init_57 : decode cX4_init 57 = .ok (.sipush 256, 3) := by decide +kernel
theorem dX4_init_60 : decode cX4_init 60 = .ok (.newarray .int, 2) := by decide +kernel
theorem dX4_init_62 : decode cX4_init 62 = .ok (.putfield 38, 3) := by decide +kernel
theorem dX4_init_65 : decode cX4_init 65 = .ok (.aload_n 0, 1) := by decide +kernel
theorem dX4_init_66 : decode cX4_init 66 = .ok (.sipush 6400, 3) := by decide +kernel
theorem dX4_init_69 : decode cX4_init 69 = .ok (.newarray .int, 2) := by decide +kernel
theorem dX4_init_71 : decode cX4_init 71 = .ok (.putfield 41, 3) := by decide +kernel
theorem dX4_init_74 : decode cX4_init 74 = .ok (.aload_n 0, 1) := by decide +kernel
theorem dX4_init_75 : decode cX4_init 75 = .ok (.sipush 256, 3) := by decide +kernel
theorem dX4_init_78 : decode cX4_init 78 = .ok (.newarray .int, 2) := by decide +kernel
theorem dX4_init_80 : decode cX4_init 80 = .ok (.putfield 44, 3) := by decide +kernel
theorem dX4_init_83 : decode cX4_init 83 = .ok (.aload_n 0, 1) := by decide +kernel
theorem dX4_init_84 : decode cX4_init 84 = .ok (.sipush 256, 3) := by decide +kernel
theorem dX4_init_87 : decode cX4_init 87 = .ok (.newarray .int, 2) := by decide +kernel
theorem dX4_init_89 : decode cX4_init 89 = .ok (.putfield 47, 3) := by decide +kernel
theorem dX4_init_92 : decode cX4_init 92 = .ok (.aload_n 0, 1) := by decide +kernel
theorem dX4_init_93 : decode cX4_init 93 = .ok (.sipush 256, 3) := by decide +kernel
theorem dX4_init_96 : decode cX4_init 96 = .ok (.newarray .int, 2) := by decide +kernel
theorem dX4_init_98 : decode cX4_init 98 = .ok (.putfield 50, 3) := by decide +kernel
theorem dX4_init_101 : decode cX4_init 101 = .ok (.aload_n 0, 1) := by decide +kernel
theorem dX4_init_102 : decode cX4_init 102 = .ok (.sipush 256, 3) := by decide +kernel
theorem dX4_init_105 : decode cX4_init 105 = .ok (.newarray .int, 2) := by decide +kernel
theorem dX4_init_107 : decode cX4_init 107 = .ok (.putfield 53, 3) := by decide +kernel
theorem dX4_init_110 : decode cX4_init 110 = .ok (.aload_n 0, 1) := by decide +kernel
theorem dX4_init_111 : decode cX4_init 111 = .ok (.sipush 256, 3) := by decide +kernel
theorem dX4_init_114 : decode cX4_init 114 = .ok (.newarray .int, 2) := by decide +kernel
theorem dX4_init_116 : decode cX4_init 116 = .ok (.putfield 56, 3) := by decide +kernel
theorem dX4_init_119 : decode cX4_init 119 = .ok (.aload_n 0, 1) := by decide +kernel
theorem dX4_init_120 : decode cX4_init 120 = .ok (.sipush 256, 3) := by decide +kernel
theorem dX4_init_123 : decode cX4_init 123 = .ok (.newarray .long, 2) := by decide +kernel
theorem dX4_init_125 : decode cX4_init 125 = .ok (.putfield 59, 3) := by decide +kernel
theorem dX4_init_128 : decode cX4_init 128 = .ok (.return_, 1) := by decide +kernel
theorem dX4_put_0 : decode cX4_put 0 = .ok (.iload_n 1, 1) := by decide +kernel
theorem dX4_put_1 : decode cX4_put 1 = .ok (.ifCond .lt 9, 3) := by decide +kernel
theorem dX4_put_4 : decode cX4_put 4 = .ok (.iload_n 1, 1) := by decide +kernel
theorem dX4_put_5 : decode cX4_put 5 = .ok (.bipush 12, 2) := by decide +kernel
theorem dX4_put_7 : decode cX4_put 7 = .ok (.if_icmp .lt 4, 3) := by decide +kernel
theorem dX4_put_10 : decode cX4_put 10 = .ok (.return_, 1) := by decide +kernel
theorem dX4_put_11 : decode cX4_put 11 = .ok (.aload_n 0, 1) := by decide +kernel
theorem dX4_put_12 : decode cX4_put 12 = .ok (.getfield 15, 3) := by decide +kernel
theorem dX4_put_15 : decode cX4_put 15 = .ok (.iload_n 1, 1) := by decide +kernel
theorem dX4_put_16 : decode cX4_put 16 = .ok (.iload_n 2, 1) := by decide +kernel
theorem dX4_put_17 : decode cX4_put 17 = .ok (.iastore, 1) := by decide +kernel
theorem dX4_put_18 : decode cX4_put 18 = .ok (.aload_n 0, 1) := by decide +kernel
theorem dX4_put_19 : decode cX4_put 19 = .ok (.getfield 19, 3) := by decide +kernel
theorem dX4_put_22 : decode cX4_put 22 = .ok (.iload_n 1, 1) := by decide +kernel
theorem dX4_put_23 : decode cX4_put 23 = .ok (.iload_n 3, 1) := by decide +kernel
theorem dX4_put_24 : decode cX4_put 24 = .ok (.iastore, 1) := by decide +kernel
theorem dX4_put_25 : decode cX4_put 25 = .ok (.aload_n 0, 1) := by decide +kernel
theorem dX4_put_26 : decode cX4_put 26 = .ok (.getfield 22, 3) := by decide +kernel
theorem dX4_put_29 : decode cX4_put 29 = .ok (.iload_n 1, 1) := by decide +kernel
theorem dX4_put_30 : decode cX4_put 30 = .ok (.iload 4, 2) := by decide +kernel
theorem dX4_put_32 : decode cX4_put 32 = .ok (.iastore, 1) := by decide +kernel
theorem dX4_put_33 : decode cX4_put 33 = .ok (.aload_n 0, 1) := by decide +kernel
theorem dX4_put_34 : decode cX4_put 34 = .ok (.getfield 25, 3) := by decide +kernel
theorem dX4_put_37 : decode cX4_put 37 = .ok (.iload_n 1, 1) := by decide +kernel
theorem dX4_put_38 : decode cX4_put 38 = .ok (.iload 5, 2) := by decide +kernel
theorem dX4_put_40 : decode cX4_put 40 = .ok (.iastore, 1) := by decide +kernel
theorem dX4_put_41 : decode cX4_put 41 = .ok (.aload_n 0, 1) := by decide +kernel
theorem dX4_put_42 : decode cX4_put 42 = .ok (.dup, 1) := by decide +kernel
theorem dX4_put_43 : decode cX4_put 43 = .ok (.getfield 35, 3) := by decide +kernel
theorem dX4_put_46 : decode cX4_put 46 = .ok (.iconst 1, 1) := by decide +kernel
theorem dX4_put_47 : decode cX4_put 47 = .ok (.iadd, 1) := by decide +kernel
theorem dX4_put_48 : decode cX4_put 48 = .ok (.putfield 35, 3) := by decide +kernel
theorem dX4_put_51 : decode cX4_put 51 = .ok (.return_, 1) := by decide +kernel
theorem dX4_hush_0 : decode cX4_hush 0 = .ok (.aload_n 0, 1) := by decide +kernel
theorem dX4_hush_1 : decode cX4_hush 1 = .ok (.iload_n 1, 1) := by decide +kernel
theorem dX4_hush_2 : decode cX4_hush 2 = .ok (.putfield 32, 3) := by decide +kernel
theorem dX4_hush_5 : decode cX4_hush 5 = .ok (.aload_n 0, 1) := by decide +kernel
theorem dX4_hush_6 : decode cX4_hush 6 = .ok (.dup, 1) := by decide +kernel
theorem dX4_hush_7 : decode cX4_hush 7 = .ok (.getfield 35, 3) := by decide +kernel
theorem dX4_hush_10 : decode cX4_hush 10 = .ok (.iconst 1, 1) := by decide +kernel
theorem dX4_hush_11 : decode cX4_hush 11 = .ok (.iadd, 1) := by decide +kernel
theorem dX4_hush_12 : decode cX4_hush 12 = .ok (.putfield 35, 3) := by decide +kernel
theorem dX4_hush_15 : decode cX4_hush 15 = .ok (.return_, 1) := by decide +kernel
theorem dX4_stateAt_0 : decode cX4_stateAt 0 = .ok (.iload_n 1, 1) := by decide +kernel
theorem dX4_stateAt_1 : decode cX4_stateAt 1 = .ok (.aload_n 0, 1) := by decide +kernel
theorem dX4_stateAt_2 : decode cX4_stateAt 2 = .ok (.getfield 28, 3) := by decide +kernel
theorem dX4_stateAt_5 : decode cX4_stateAt 5 = .ok (.if_icmp .lt 8, 3) := by decide +kernel
theorem dX4_stateAt_8 : decode cX4_stateAt 8 = .ok (.bipush 12, 2) := by decide +kernel
theorem dX4_stateAt_10 : decode cX4_stateAt 10 = .ok (.goto 4, 3) := by decide +kernel
theorem dX4_stateAt_13 : decode cX4_stateAt 13 = .ok (.iload_n 1, 1) := by decide +kernel
theorem dX4_stateAt_14 : decode cX4_stateAt 14 = .ok (.sipush 256, 3) := by decide +kernel
theorem dX4_stateAt_17 : decode cX4_stateAt 17 = .ok (.imul, 1) := by decide +kernel
theorem dX4_stateAt_18 : decode cX4_stateAt 18 = .ok (.iload_n 2, 1) := by decide +kernel
theorem dX4_stateAt_19 : decode cX4_stateAt 19 = .ok (.iadd, 1) := by decide +kernel
theorem dX4_stateAt_20 : decode cX4_stateAt 20 = .ok (.ireturn, 1) := by decide +kernel
theorem dX4_stepped_0 : decode cX4_stepped 0 = .ok (.iload_n 1, 1) := by decide +kernel
theorem dX4_stepped_1 : decode cX4_stepped 1 = .ok (.ifCond .lt 17, 3) := by decide +kernel
theorem dX4_stepped_4 : decode cX4_stepped 4 = .ok (.iload_n 1, 1) := by decide +kernel
theorem dX4_stepped_5 : decode cX4_stepped 5 = .ok (.aload_n 0, 1) := by decide +kernel
theorem dX4_stepped_6 : decode cX4_stepped 6 = .ok (.getfield 28, 3) := by decide +kernel
theorem dX4_stepped_9 : decode cX4_stepped 9 = .ok (.if_icmp .ge 9, 3) := by decide +kernel
theorem dX4_stepped_12 : decode cX4_stepped 12 = .ok (.iload_n 1, 1) := by decide +kernel
theorem dX4_stepped_13 : decode cX4_stepped 13 = .ok (.bipush 12, 2) := by decide +kernel
theorem dX4_stepped_15 : decode cX4_stepped 15 = .ok (.if_icmp .lt 9, 3) := by decide +kernel
theorem dX4_stepped_18 : decode cX4_stepped 18 = .ok (.sipush 3072, 3) := by decide +kernel
theorem dX4_stepped_21 : decode cX4_stepped 21 = .ok (.iload_n 2, 1) := by decide +kernel
theorem dX4_stepped_22 : decode cX4_stepped 22 = .ok (.iadd, 1) := by decide +kernel
theorem dX4_stepped_23 : decode cX4_stepped 23 = .ok (.ireturn, 1) := by decide +kernel
theorem dX4_stepped_24 : decode cX4_stepped 24 = .ok (.aload_n 0, 1) := by decide +kernel
theorem dX4_stepped_25 : decode cX4_stepped 25 = .ok (.getfield 19, 3) := by decide +kernel
theorem dX4_stepped_28 : decode cX4_stepped 28 = .ok (.iload_n 1, 1) := by decide +kernel
theorem dX4_stepped_29 : decode cX4_stepped 29 = .ok (.iaload, 1) := by decide +kernel
theorem dX4_stepped_30 : decode cX4_stepped 30 = .ok (.istore_n 3, 1) := by decide +kernel
theorem dX4_stepped_31 : decode cX4_stepped 31 = .ok (.iload_n 2, 1) := by decide +kernel
theorem dX4_stepped_32 : decode cX4_stepped 32 = .ok (.aload_n 0, 1) := by decide +kernel
theorem dX4_stepped_33 : decode cX4_stepped 33 = .ok (.getfield 22, 3) := by decide +kernel
theorem dX4_stepped_36 : decode cX4_stepped 36 = .ok (.iload_n 1, 1) := by decide +kernel
theorem dX4_stepped_37 : decode cX4_stepped 37 = .ok (.iaload, 1) := by decide +kernel
theorem dX4_stepped_38 : decode cX4_stepped 38 = .ok (.iconst 3, 1) := by decide +kernel
theorem dX4_stepped_39 : decode cX4_stepped 39 = .ok (.iand, 1) := by decide +kernel
theorem dX4_stepped_40 : decode cX4_stepped 40 = .ok (.invokestatic 63, 3) := by decide +kernel
theorem dX4_stepped_43 : decode cX4_stepped 43 = .ok (.istore 4, 2) := by decide +kernel
theorem dX4_stepped_45 : decode cX4_stepped 45 = .ok (.iload_n 2, 1) := by decide +kernel
theorem dX4_stepped_46 : decode cX4_stepped 46 = .ok (.aload_n 0, 1) := by decide +kernel
theorem dX4_stepped_47 : decode cX4_stepped 47 = .ok (.getfield 25, 3) := by decide +kernel
theorem dX4_stepped_50 : decode cX4_stepped 50 = .ok (.iload_n 1, 1) := by decide +kernel
theorem dX4_stepped_51 : decode cX4_stepped 51 = .ok (.iaload, 1) := by decide +kernel
theorem dX4_stepped_52 : decode cX4_stepped 52 = .ok (.iconst 3, 1) := by decide +kernel
theorem dX4_stepped_53 : decode cX4_stepped 53 = .ok (.iand, 1) := by decide +kernel
theorem dX4_stepped_54 : decode cX4_stepped 54 = .ok (.invokestatic 63, 3) := by decide +kernel
theorem dX4_stepped_57 : decode cX4_stepped 57 = .ok (.istore 5, 2) := by decide +kernel
theorem dX4_stepped_59 : decode cX4_stepped 59 = .ok (.aload_n 0, 1) := by decide +kernel
theorem dX4_stepped_60 : decode cX4_stepped 60 = .ok (.getfield 15, 3) := by decide +kernel
theorem dX4_stepped_63 : decode cX4_stepped 63 = .ok (.iload_n 1, 1) := by decide +kernel
theorem dX4_stepped_64 : decode cX4_stepped 64 = .ok (.iaload, 1) := by decide +kernel
theorem dX4_stepped_65 : decode cX4_stepped 65 = .ok (.tableswitch 177 0 6 #[43, 62, 77, 95, 113, 142, 168], 43) := by decide +kernel
theorem dX4_stepped_108 : decode cX4_stepped 108 = .ok (.aload_n 0, 1) := by decide +kernel
theorem dX4_stepped_109 : decode cX4_stepped 109 = .ok (.iload_n 1, 1) := by decide +kernel
theorem dX4_stepped_110 : decode cX4_stepped 110 = .ok (.iconst 1, 1) := by decide +kernel
theorem dX4_stepped_111 : decode cX4_stepped 111 = .ok (.iadd, 1) := by decide +kernel
theorem dX4_stepped_112 : decode cX4_stepped 112 = .ok (.iload_n 2, 1) := by decide +kernel
theorem dX4_stepped_113 : decode cX4_stepped 113 = .ok (.iload_n 3, 1) := by decide +kernel
theorem dX4_stepped_114 : decode cX4_stepped 114 = .ok (.aload_n 0, 1) := by decide +kernel
theorem dX4_stepped_115 : decode cX4_stepped 115 = .ok (.getfield 22, 3) := by decide +kernel
theorem dX4_stepped_118 : decode cX4_stepped 118 = .ok (.iload_n 1, 1) := by decide +kernel
theorem dX4_stepped_119 : decode cX4_stepped 119 = .ok (.iaload, 1) := by decide +kernel
theorem dX4_stepped_120 : decode cX4_stepped 120 = .ok (.invokestatic 67, 3) := by decide +kernel
theorem dX4_stepped_123 : decode cX4_stepped 123 = .ok (.invokevirtual 71, 3) := by decide +kernel
theorem dX4_stepped_126 : decode cX4_stepped 126 = .ok (.ireturn, 1) := by decide +kernel
theorem dX4_stepped_127 : decode cX4_stepped 127 = .ok (.aload_n 0, 1) := by decide +kernel
theorem dX4_stepped_128 : decode cX4_stepped 128 = .ok (.iload_n 1, 1) := by decide +kernel
theorem dX4_stepped_129 : decode cX4_stepped 129 = .ok (.iconst 1, 1) := by decide +kernel
theorem dX4_stepped_130 : decode cX4_stepped 130 = .ok (.iadd, 1) := by decide +kernel
theorem dX4_stepped_131 : decode cX4_stepped 131 = .ok (.iload_n 2, 1) := by decide +kernel
theorem dX4_stepped_132 : decode cX4_stepped 132 = .ok (.iload_n 3, 1) := by decide +kernel
theorem dX4_stepped_133 : decode cX4_stepped 133 = .ok (.iload 4, 2) := by decide +kernel
theorem dX4_stepped_135 : decode cX4_stepped 135 = .ok (.invokestatic 67, 3) := by decide +kernel
theorem dX4_stepped_138 : decode cX4_stepped 138 = .ok (.invokevirtual 71, 3) := by decide +kernel
theorem dX4_stepped_141 : decode cX4_stepped 141 = .ok (.ireturn, 1) := by decide +kernel
theorem dX4_stepped_142 : decode cX4_stepped 142 = .ok (.aload_n 0, 1) := by decide +kernel
theorem dX4_stepped_143 : decode cX4_stepped 143 = .ok (.iload_n 1, 1) := by decide +kernel
theorem dX4_stepped_144 : decode cX4_stepped 144 = .ok (.iconst 1, 1) := by decide +kernel
theorem dX4_stepped_145 : decode cX4_stepped 145 = .ok (.iadd, 1) := by decide +kernel
theorem dX4_stepped_146 : decode cX4_stepped 146 = .ok (.iload_n 2, 1) := by decide +kernel
theorem dX4_stepped_147 : decode cX4_stepped 147 = .ok (.iload_n 3, 1) := by decide +kernel
theorem dX4_stepped_148 : decode cX4_stepped 148 = .ok (.iload 4, 2) := by decide +kernel
theorem dX4_stepped_150 : decode cX4_stepped 150 = .ok (.iload 5, 2) := by decide +kernel
theorem dX4_stepped_152 : decode cX4_stepped 152 = .ok (.iadd, 1) := by decide +kernel
theorem dX4_stepped_153 : decode cX4_stepped 153 = .ok (.invokestatic 67, 3) := by decide +kernel
theorem dX4_stepped_156 : decode cX4_stepped 156 = .ok (.invokevirtual 71, 3) := by decide +kernel
theorem dX4_stepped_159 : decode cX4_stepped 159 = .ok (.ireturn, 1) := by decide +kernel
theorem dX4_stepped_160 : decode cX4_stepped 160 = .ok (.aload_n 0, 1) := by decide +kernel
theorem dX4_stepped_161 : decode cX4_stepped 161 = .ok (.iload_n 1, 1) := by decide +kernel
theorem dX4_stepped_162 : decode cX4_stepped 162 = .ok (.iconst 1, 1) := by decide +kernel
theorem dX4_stepped_163 : decode cX4_stepped 163 = .ok (.iadd, 1) := by decide +kernel
theorem dX4_stepped_164 : decode cX4_stepped 164 = .ok (.iload_n 2, 1) := by decide +kernel
theorem dX4_stepped_165 : decode cX4_stepped 165 = .ok (.iload_n 3, 1) := by decide +kernel
theorem dX4_stepped_166 : decode cX4_stepped 166 = .ok (.iload 4, 2) := by decide +kernel
theorem dX4_stepped_168 : decode cX4_stepped 168 = .ok (.iload 5, 2) := by decide +kernel
theorem dX4_stepped_170 : decode cX4_stepped 170 = .ok (.isub, 1) := by decide +kernel
theorem dX4_stepped_171 : decode cX4_stepped 171 = .ok (.invokestatic 67, 3) := by decide +kernel
theorem dX4_stepped_174 : decode cX4_stepped 174 = .ok (.invokevirtual 71, 3) := by decide +kernel
theorem dX4_stepped_177 : decode cX4_stepped 177 = .ok (.ireturn, 1) := by decide +kernel
theorem dX4_stepped_178 : decode cX4_stepped 178 = .ok (.iload 5, 2) := by decide +kernel
theorem dX4_stepped_180 : decode cX4_stepped 180 = .ok (.ifCond .ne 9, 3) := by decide +kernel
theorem dX4_stepped_183 : decode cX4_stepped 183 = .ok (.sipush 7168, 3) := by decide +kernel
theorem dX4_stepped_186 : decode cX4_stepped 186 = .ok (.iload_n 2, 1) := by decide +kernel
theorem dX4_stepped_187 : decode cX4_stepped 187 = .ok (.iadd, 1) := by decide +kernel
theorem dX4_stepped_188 : decode cX4_stepped 188 = .ok (.ireturn, 1) := by decide +kernel
theorem dX4_stepped_189 : decode cX4_stepped 189 = .ok (.aload_n 0, 1) := by decide +kernel
theorem dX4_stepped_190 : decode cX4_stepped 190 = .ok (.iload_n 1, 1) := by decide +kernel
theorem dX4_stepped_191 : decode cX4_stepped 191 = .ok (.iconst 1, 1) := by decide +kernel
theorem dX4_stepped_192 : decode cX4_stepped 192 = .ok (.iadd, 1) := by decide +kernel
theorem dX4_stepped_193 : decode cX4_stepped 193 = .ok (.iload_n 2, 1) := by decide +kernel
theorem dX4_stepped_194 : decode cX4_stepped 194 = .ok (.iload_n 3, 1) := by decide +kernel
theorem dX4_stepped_195 : decode cX4_stepped 195 = .ok (.iload 4, 2) := by decide +kernel
theorem dX4_stepped_197 : decode cX4_stepped 197 = .ok (.iload 5, 2) := by decide +kernel
theorem dX4_stepped_199 : decode cX4_stepped 199 = .ok (.irem, 1) := by decide +kernel
theorem dX4_stepped_200 : decode cX4_stepped 200 = .ok (.invokestatic 67, 3) := by decide +kernel
theorem dX4_stepped_203 : decode cX4_stepped 203 = .ok (.invokevirtual 71, 3) := by decide +kernel
theorem dX4_stepped_206 : decode cX4_stepped 206 = .ok (.ireturn, 1) := by decide +kernel
theorem dX4_stepped_207 : decode cX4_stepped 207 = .ok (.aload_n 0, 1) := by decide +kernel
theorem dX4_stepped_208 : decode cX4_stepped 208 = .ok (.iload_n 2, 1) := by decide +kernel
theorem dX4_stepped_209 : decode cX4_stepped 209 = .ok (.iload_n 3, 1) := by decide +kernel
theorem dX4_stepped_210 : decode cX4_stepped 210 = .ok (.invokestatic 63, 3) := by decide +kernel
theorem dX4_stepped_213 : decode cX4_stepped 213 = .ok (.ifCond .le 12, 3) := by decide +kernel
theorem dX4_stepped_216 : decode cX4_stepped 216 = .ok (.aload_n 0, 1) := by decide +kernel
theorem dX4_stepped_217 : decode cX4_stepped 217 = .ok (.getfield 22, 3) := by decide +kernel
theorem dX4_stepped_220 : decode cX4_stepped 220 = .ok (.iload_n 1, 1) := by decide +kernel
theorem dX4_stepped_221 : decode cX4_stepped 221 = .ok (.iaload, 1) := by decide +kernel
theorem dX4_stepped_222 : decode cX4_stepped 222 = .ok (.goto 6, 3) := by decide +kernel
theorem dX4_stepped_225 : decode cX4_stepped 225 = .ok (.iload_n 1, 1) := by decide +kernel
theorem dX4_stepped_226 : decode cX4_stepped 226 = .ok (.iconst 1, 1) := by decide +kernel
theorem dX4_stepped_227 : decode cX4_stepped 227 = .ok (.iadd, 1) := by decide +kernel
theorem dX4_stepped_228 : decode cX4_stepped 228 = .ok (.iload_n 2, 1) := by decide +kernel
theorem dX4_stepped_229 : decode cX4_stepped 229 = .ok (.invokevirtual 71, 3) := by decide +kernel
theorem dX4_stepped_232 : decode cX4_stepped 232 = .ok (.ireturn, 1) := by decide +kernel
theorem dX4_stepped_233 : decode cX4_stepped 233 = .ok (.aload_n 0, 1) := by decide +kernel
theorem dX4_stepped_234 : decode cX4_stepped 234 = .ok (.iload_n 1, 1) := by decide +kernel
theorem dX4_stepped_235 : decode cX4_stepped 235 = .ok (.iconst 1, 1) := by decide +kernel
theorem dX4_stepped_236 : decode cX4_stepped 236 = .ok (.iadd, 1) := by decide +kernel
theorem dX4_stepped_237 : decode cX4_stepped 237 = .ok (.iload_n 2, 1) := by decide +kernel
theorem dX4_stepped_238 : decode cX4_stepped 238 = .ok (.invokevirtual 71, 3) := by decide +kernel
theorem dX4_stepped_241 : decode cX4_stepped 241 = .ok (.ireturn, 1) := by decide +kernel
theorem dX4_stepped_242 : decode cX4_stepped 242 = .ok (.sipush 3072, 3) := by decide +kernel
theorem dX4_stepped_245 : decode cX4_stepped 245 = .ok (.iload_n 2, 1) := by decide +kernel
theorem dX4_stepped_246 : decode cX4_stepped 246 = .ok (.iadd, 1) := by decide +kernel
theorem dX4_stepped_247 : decode cX4_stepped 247 = .ok (.ireturn, 1) := by decide +kernel
theorem dX4_steppedState_0 : decode cX4_steppedState 0 = .ok (.aload_n 0, 1) := by decide +kernel
theorem dX4_steppedState_1 : decode cX4_steppedState 1 = .ok (.iload_n 1, 1) := by decide +kernel
theorem dX4_steppedState_2 : decode cX4_steppedState 2 = .ok (.iload_n 2, 1) := by decide +kernel
theorem dX4_steppedState_3 : decode cX4_steppedState 3 = .ok (.invokevirtual 74, 3) := by decide +kernel
theorem dX4_steppedState_6 : decode cX4_steppedState 6 = .ok (.sipush 4095, 3) := by decide +kernel
theorem dX4_steppedState_9 : decode cX4_steppedState 9 = .ok (.iand, 1) := by decide +kernel
theorem dX4_steppedState_10 : decode cX4_steppedState 10 = .ok (.ireturn, 1) := by decide +kernel
theorem dX4_traceAll_0 : decode cX4_traceAll 0 = .ok (.iconst 0, 1) := by decide +kernel
theorem dX4_traceAll_1 : decode cX4_traceAll 1 = .ok (.istore_n 1, 1) := by decide +kernel
theorem dX4_traceAll_2 : decode cX4_traceAll 2 = .ok (.iload_n 1, 1) := by decide +kernel
theorem dX4_traceAll_3 : decode cX4_traceAll 3 = .ok (.sipush 256, 3) := by decide +kernel
theorem dX4_traceAll_6 : decode cX4_traceAll 6 = .ok (.if_icmp .ge 14, 3) := by decide +kernel
theorem dX4_traceAll_9 : decode cX4_traceAll 9 = .ok (.aload_n 0, 1) := by decide +kernel
theorem dX4_traceAll_10 : decode cX4_traceAll 10 = .ok (.iload_n 1, 1) := by decide +kernel
theorem dX4_traceAll_11 : decode cX4_traceAll 11 = .ok (.invokevirtual 77, 3) := by decide +kernel
theorem dX4_traceAll_14 : decode cX4_traceAll 14 = .ok (.iinc 1 1, 3) := by decide +kernel
theorem dX4_traceAll_17 : decode cX4_traceAll 17 = .ok (.goto (-15), 3) := by decide +kernel
theorem dX4_traceAll_20 : decode cX4_traceAll 20 = .ok (.return_, 1) := by decide +kernel
theorem dX4_trace_0 : decode cX4_trace 0 = .ok (.iload_n 1, 1) := by decide +kernel
theorem dX4_trace_1 : decode cX4_trace 1 = .ok (.ifCond .lt 23, 3) := by decide +kernel
theorem dX4_trace_4 : decode cX4_trace 4 = .ok (.iload_n 1, 1) := by decide +kernel
theorem dX4_trace_5 : decode cX4_trace 5 = .ok (.sipush 256, 3) := by decide +kernel
theorem dX4_trace_8 : decode cX4_trace 8 = .ok (.if_icmp .ge 16, 3) := by decide +kernel
theorem dX4_trace_11 : decode cX4_trace 11 = .ok (.aload_n 0, 1) := by decide +kernel
theorem dX4_trace_12 : decode cX4_trace 12 = .ok (.getfield 38, 3) := by decide +kernel
theorem dX4_trace_15 : decode cX4_trace 15 = .ok (.iload_n 1, 1) := by decide +kernel
theorem dX4_trace_16 : decode cX4_trace 16 = .ok (.iaload, 1) := by decide +kernel
theorem dX4_trace_17 : decode cX4_trace 17 = .ok (.aload_n 0, 1) := by decide +kernel
theorem dX4_trace_18 : decode cX4_trace 18 = .ok (.getfield 35, 3) := by decide +kernel
theorem dX4_trace_21 : decode cX4_trace 21 = .ok (.if_icmp .ne 4, 3) := by decide +kernel
theorem dX4_trace_24 : decode cX4_trace 24 = .ok (.return_, 1) := by decide +kernel
theorem dX4_trace_25 : decode cX4_trace 25 = .ok (.iload_n 1, 1) := by decide +kernel
theorem dX4_trace_26 : decode cX4_trace 26 = .ok (.bipush 25, 2) := by decide +kernel
theorem dX4_trace_28 : decode cX4_trace 28 = .ok (.imul, 1) := by decide +kernel
theorem dX4_trace_29 : decode cX4_trace 29 = .ok (.istore_n 2, 1) := by decide +kernel
theorem dX4_trace_30 : decode cX4_trace 30 = .ok (.aload_n 0, 1) := by decide +kernel
theorem dX4_trace_31 : decode cX4_trace 31 = .ok (.iconst 0, 1) := by decide +kernel
theorem dX4_trace_32 : decode cX4_trace 32 = .ok (.iload_n 1, 1) := by decide +kernel
theorem dX4_trace_33 : decode cX4_trace 33 = .ok (.invokevirtual 71, 3) := by decide +kernel
theorem dX4_trace_36 : decode cX4_trace 36 = .ok (.istore_n 3, 1) := by decide +kernel
theorem dX4_trace_37 : decode cX4_trace 37 = .ok (.iconst 0, 1) := by decide +kernel
theorem dX4_trace_38 : decode cX4_trace 38 = .ok (.istore 4, 2) := by decide +kernel
theorem dX4_trace_40 : decode cX4_trace 40 = .ok (.iconst 0, 1) := by decide +kernel
theorem dX4_trace_41 : decode cX4_trace 41 = .ok (.istore 5, 2) := by decide +kernel
theorem dX4_trace_43 : decode cX4_trace 43 = .ok (.aload_n 0, 1) := by decide +kernel
theorem dX4_trace_44 : decode cX4_trace 44 = .ok (.getfield 41, 3) := by decide +kernel
theorem dX4_trace_47 : decode cX4_trace 47 = .ok (.iload_n 2, 1) := by decide +kernel
theorem dX4_trace_48 : decode cX4_trace 48 = .ok (.iload_n 3, 1) := by decide +kernel
theorem dX4_trace_49 : decode cX4_trace 49 = .ok (.iastore, 1) := by decide +kernel
theorem dX4_trace_50 : decode cX4_trace 50 = .ok (.iload 5, 2) := by decide +kernel
theorem dX4_trace_52 : decode cX4_trace 52 = .ok (.bipush 24, 2) := by decide +kernel
theorem dX4_trace_54 : decode cX4_trace 54 = .ok (.if_icmp .ge 67, 3) := by decide +kernel
theorem dX4_trace_57 : decode cX4_trace 57 = .ok (.iload_n 3, 1) := by decide +kernel
theorem dX4_trace_58 : decode cX4_trace 58 = .ok (.sipush 256, 3) := by decide +kernel
theorem dX4_trace_61 : decode cX4_trace 61 = .ok (.idiv, 1) := by decide +kernel
theorem dX4_trace_62 : decode cX4_trace 62 = .ok (.bipush 12, 2) := by decide +kernel
theorem dX4_trace_64 : decode cX4_trace 64 = .ok (.if_icmp .ge 57, 3) := by decide +kernel
theorem dX4_trace_67 : decode cX4_trace 67 = .ok (.aload_n 0, 1) := by decide +kernel
theorem dX4_trace_68 : decode cX4_trace 68 = .ok (.iload_n 3, 1) := by decide +kernel
theorem dX4_trace_69 : decode cX4_trace 69 = .ok (.sipush 256, 3) := by decide +kernel
theorem dX4_trace_72 : decode cX4_trace 72 = .ok (.idiv, 1) := by decide +kernel
theorem dX4_trace_73 : decode cX4_trace 73 = .ok (.iload_n 3, 1) := by decide +kernel
theorem dX4_trace_74 : decode cX4_trace 74 = .ok (.sipush 256, 3) := by decide +kernel
theorem dX4_trace_77 : decode cX4_trace 77 = .ok (.irem, 1) := by decide +kernel
theorem dX4_trace_78 : decode cX4_trace 78 = .ok (.invokevirtual 74, 3) := by decide +kernel
theorem dX4_trace_81 : decode cX4_trace 81 = .ok (.istore 6, 2) := by decide +kernel
theorem dX4_trace_83 : decode cX4_trace 83 = .ok (.iload 6, 2) := by decide +kernel
theorem dX4_trace_85 : decode cX4_trace 85 = .ok (.sipush 4096, 3) := by decide +kernel
theorem dX4_trace_88 : decode cX4_trace 88 = .ok (.if_icmp .lt 7, 3) := by decide +kernel
theorem dX4_trace_91 : decode cX4_trace 91 = .ok (.iconst 1, 1) := by decide +kernel
theorem dX4_trace_92 : decode cX4_trace 92 = .ok (.goto 4, 3) := by decide +kernel
theorem dX4_trace_95 : decode cX4_trace 95 = .ok (.iconst 0, 1) := by decide +kernel
theorem dX4_trace_96 : decode cX4_trace 96 = .ok (.istore 4, 2) := by decide +kernel
theorem dX4_trace_98 : decode cX4_trace 98 = .ok (.iload 6, 2) := by decide +kernel
theorem dX4_trace_100 : decode cX4_trace 100 = .ok (.sipush 4095, 3) := by decide +kernel
theorem dX4_trace_103 : decode cX4_trace 103 = .ok (.iand, 1) := by decide +kernel
theorem dX4_trace_104 : decode cX4_trace 104 = .ok (.istore_n 3, 1) := by decide +kernel
theorem dX4_trace_105 : decode cX4_trace 105 = .ok (.iinc 5 1, 3) := by decide +kernel
theorem dX4_trace_108 : decode cX4_trace 108 = .ok (.aload_n 0, 1) := by decide +kernel
theorem dX4_trace_109 : decode cX4_trace 109 = .ok (.getfield 41, 3) := by decide +kernel
theorem dX4_trace_112 : decode cX4_trace 112 = .ok (.iload_n 2, 1) := by decide +kernel
theorem dX4_trace_113 : decode cX4_trace 113 = .ok (.iload 5, 2) := by decide +kernel
theorem dX4_trace_115 : decode cX4_trace 115 = .ok (.iadd, 1) := by decide +kernel
theorem dX4_trace_116 : decode cX4_trace 116 = .ok (.iload_n 3, 1) := by decide +kernel
theorem dX4_trace_117 : decode cX4_trace 117 = .ok (.iastore, 1) := by decide +kernel
theorem dX4_trace_118 : decode cX4_trace 118 = .ok (.goto (-68), 3) := by decide +kernel
theorem dX4_trace_121 : decode cX4_trace 121 = .ok (.iload_n 3, 1) := by decide +kernel
theorem dX4_trace_122 : decode cX4_trace 122 = .ok (.sipush 256, 3) := by decide +kernel
theorem dX4_trace_125 : decode cX4_trace 125 = .ok (.idiv, 1) := by decide +kernel
theorem dX4_trace_126 : decode cX4_trace 126 = .ok (.bipush 12, 2) := by decide +kernel
theorem dX4_trace_128 : decode cX4_trace 128 = .ok (.if_icmp .ge 7, 3) := by decide +kernel
theorem dX4_trace_131 : decode cX4_trace 131 = .ok (.iconst 1, 1) := by decide +kernel
theorem dX4_trace_132 : decode cX4_trace 132 = .ok (.goto 4, 3) := by decide +kernel
theorem dX4_trace_135 : decode cX4_trace 135 = .ok (.iconst 0, 1) := by decide +kernel
theorem dX4_trace_136 : decode cX4_trace 136 = .ok (.istore 6, 2) := by decide +kernel
theorem dX4_trace_138 : decode cX4_trace 138 = .ok (.iload_n 3, 1) := by decide +kernel
theorem dX4_trace_139 : decode cX4_trace 139 = .ok (.sipush 256, 3) := by decide +kernel
theorem dX4_trace_142 : decode cX4_trace 142 = .ok (.irem, 1) := by decide +kernel
theorem dX4_trace_143 : decode cX4_trace 143 = .ok (.istore 7, 2) := by decide +kernel
theorem dX4_trace_145 : decode cX4_trace 145 = .ok (.aload_n 0, 1) := by decide +kernel
theorem dX4_trace_146 : decode cX4_trace 146 = .ok (.getfield 41, 3) := by decide +kernel
theorem dX4_trace_149 : decode cX4_trace 149 = .ok (.iload_n 2, 1) := by decide +kernel
theorem dX4_trace_150 : decode cX4_trace 150 = .ok (.iload 5, 2) := by decide +kernel
theorem dX4_trace_152 : decode cX4_trace 152 = .ok (.iadd, 1) := by decide +kernel
theorem dX4_trace_153 : decode cX4_trace 153 = .ok (.sipush 3072, 3) := by decide +kernel
theorem dX4_trace_156 : decode cX4_trace 156 = .ok (.iload 7, 2) := by decide +kernel
theorem dX4_trace_158 : decode cX4_trace 158 = .ok (.iadd, 1) := by decide +kernel
theorem dX4_trace_159 : decode cX4_trace 159 = .ok (.iastore, 1) := by decide +kernel
theorem dX4_trace_160 : decode cX4_trace 160 = .ok (.iload 6, 2) := by decide +kernel
theorem dX4_trace_162 : decode cX4_trace 162 = .ok (.ifCond .eq 7, 3) := by decide +kernel
theorem dX4_trace_165 : decode cX4_trace 165 = .ok (.iconst 2, 1) := by decide +kernel
theorem dX4_trace_166 : decode cX4_trace 166 = .ok (.goto 13, 3) := by decide +kernel
theorem dX4_trace_169 : decode cX4_trace 169 = .ok (.iload 4, 2) := by decide +kernel
theorem dX4_trace_171 : decode cX4_trace 171 = .ok (.ifCond .eq 7, 3) := by decide +kernel
theorem dX4_trace_174 : decode cX4_trace 174 = .ok (.iconst 1, 1) := by decide +kernel
theorem dX4_trace_175 : decode cX4_trace 175 = .ok (.goto 4, 3) := by decide +kernel
theorem dX4_trace_178 : decode cX4_trace 178 = .ok (.iconst 0, 1) := by decide +kernel
theorem dX4_trace_179 : decode cX4_trace 179 = .ok (.istore 8, 2) := by decide +kernel
theorem dX4_trace_181 : decode cX4_trace 181 = .ok (.aload_n 0, 1) := by decide +kernel
theorem dX4_trace_182 : decode cX4_trace 182 = .ok (.getfield 44, 3) := by decide +kernel
theorem dX4_trace_185 : decode cX4_trace 185 = .ok (.iload_n 1, 1) := by decide +kernel
theorem dX4_trace_186 : decode cX4_trace 186 = .ok (.iload 8, 2) := by decide +kernel
theorem dX4_trace_188 : decode cX4_trace 188 = .ok (.iastore, 1) := by decide +kernel
theorem dX4_trace_189 : decode cX4_trace 189 = .ok (.aload_n 0, 1) := by decide +kernel
theorem dX4_trace_190 : decode cX4_trace 190 = .ok (.getfield 47, 3) := by decide +kernel
theorem dX4_trace_193 : decode cX4_trace 193 = .ok (.iload_n 1, 1) := by decide +kernel
theorem dX4_trace_194 : decode cX4_trace 194 = .ok (.iload 7, 2) := by decide +kernel
theorem dX4_trace_196 : decode cX4_trace 196 = .ok (.iastore, 1) := by decide +kernel
theorem dX4_trace_197 : decode cX4_trace 197 = .ok (.aload_n 0, 1) := by decide +kernel
theorem dX4_trace_198 : decode cX4_trace 198 = .ok (.getfield 50, 3) := by decide +kernel
theorem dX4_trace_201 : decode cX4_trace 201 = .ok (.iload_n 1, 1) := by decide +kernel
theorem dX4_trace_202 : decode cX4_trace 202 = .ok (.aload_n 0, 1) := by decide +kernel
theorem dX4_trace_203 : decode cX4_trace 203 = .ok (.getfield 9, 3) := by decide +kernel
theorem dX4_trace_206 : decode cX4_trace 206 = .ok (.getfield 81, 3) := by decide +kernel
theorem dX4_trace_209 : decode cX4_trace 209 = .ok (.iload 7, 2) := by decide +kernel
theorem dX4_trace_211 : decode cX4_trace 211 = .ok (.iaload, 1) := by decide +kernel
theorem dX4_trace_212 : decode cX4_trace 212 = .ok (.iastore, 1) := by decide +kernel
theorem dX4_trace_213 : decode cX4_trace 213 = .ok (.aload_n 0, 1) := by decide +kernel
theorem dX4_trace_214 : decode cX4_trace 214 = .ok (.getfield 53, 3) := by decide +kernel
theorem dX4_trace_217 : decode cX4_trace 217 = .ok (.iload_n 1, 1) := by decide +kernel
theorem dX4_trace_218 : decode cX4_trace 218 = .ok (.iload 5, 2) := by decide +kernel
theorem dX4_trace_220 : decode cX4_trace 220 = .ok (.iastore, 1) := by decide +kernel
theorem dX4_trace_221 : decode cX4_trace 221 = .ok (.aload_n 0, 1) := by decide +kernel
theorem dX4_trace_222 : decode cX4_trace 222 = .ok (.iload_n 1, 1) := by decide +kernel
theorem dX4_trace_223 : decode cX4_trace 223 = .ok (.aload_n 0, 1) := by decide +kernel
theorem dX4_trace_224 : decode cX4_trace 224 = .ok (.getfield 32, 3) := by decide +kernel
theorem dX4_trace_227 : decode cX4_trace 227 = .ok (.invokevirtual 86, 3) := by decide +kernel
theorem dX4_trace_230 : decode cX4_trace 230 = .ok (.lstore 9, 2) := by decide +kernel
theorem dX4_trace_232 : decode cX4_trace 232 = .ok (.aload_n 0, 1) := by decide +kernel
theorem dX4_trace_233 : decode cX4_trace 233 = .ok (.getfield 56, 3) := by decide +kernel
theorem dX4_trace_236 : decode cX4_trace 236 = .ok (.iload_n 1, 1) := by decide +kernel
theorem dX4_trace_237 : decode cX4_trace 237 = .ok (.lload 9, 2) := by decide +kernel
theorem dX4_trace_239 : decode cX4_trace 239 = .ok (.invokestatic 90, 3) := by decide +kernel
theorem dX4_trace_242 : decode cX4_trace 242 = .ok (.iastore, 1) := by decide +kernel
theorem dX4_trace_243 : decode cX4_trace 243 = .ok (.aload_n 0, 1) := by decide +kernel
theorem dX4_trace_244 : decode cX4_trace 244 = .ok (.getfield 59, 3) := by decide +kernel
theorem dX4_trace_247 : decode cX4_trace 247 = .ok (.iload_n 1, 1) := by decide +kernel
theorem dX4_trace_248 : decode cX4_trace 248 = .ok (.lload 9, 2) := by decide +kernel
theorem dX4_trace_250 : decode cX4_trace 250 = .ok (.iload 8, 2) := by decide +kernel
theorem dX4_trace_252 : decode cX4_trace 252 = .ok (.i2l, 1) := by decide +kernel
theorem dX4_trace_253 : decode cX4_trace 253 = .ok (.bipush 50, 2) := by decide +kernel
theorem dX4_trace_255 : decode cX4_trace 255 = .ok (.lshl, 1) := by decide +kernel
theorem dX4_trace_256 : decode cX4_trace 256 = .ok (.lor, 1) := by decide +kernel
theorem dX4_trace_257 : decode cX4_trace 257 = .ok (.iload 5, 2) := by decide +kernel
theorem dX4_trace_259 : decode cX4_trace 259 = .ok (.i2l, 1) := by decide +kernel
theorem dX4_trace_260 : decode cX4_trace 260 = .ok (.bipush 52, 2) := by decide +kernel
theorem dX4_trace_262 : decode cX4_trace 262 = .ok (.lshl, 1) := by decide +kernel
theorem dX4_trace_263 : decode cX4_trace 263 = .ok (.lor, 1) := by decide +kernel
theorem dX4_trace_264 : decode cX4_trace 264 = .ok (.lastore, 1) := by decide +kernel
theorem dX4_trace_265 : decode cX4_trace 265 = .ok (.aload_n 0, 1) := by decide +kernel
theorem dX4_trace_266 : decode cX4_trace 266 = .ok (.getfield 38, 3) := by decide +kernel
theorem dX4_trace_269 : decode cX4_trace 269 = .ok (.iload_n 1, 1) := by decide +kernel
theorem dX4_trace_270 : decode cX4_trace 270 = .ok (.aload_n 0, 1) := by decide +kernel
theorem dX4_trace_271 : decode cX4_trace 271 = .ok (.getfield 35, 3) := by decide +kernel
theorem dX4_trace_274 : decode cX4_trace 274 = .ok (.iastore, 1) := by decide +kernel
theorem dX4_trace_275 : decode cX4_trace 275 = .ok (.return_, 1) := by decide +kernel
theorem dX4_shownUnder_0 : decode cX4_shownUnder 0 = .ok (.lconst 1, 1) := by decide +kernel
theorem dX4_shownUnder_1 : decode cX4_shownUnder 1 = .ok (.lstore_n 3, 1) := by decide +kernel
theorem dX4_shownUnder_2 : decode cX4_shownUnder 2 = .ok (.iload_n 1, 1) := by decide +kernel
theorem dX4_shownUnder_3 : decode cX4_shownUnder 3 = .ok (.bipush 25, 2) := by decide +kernel
theorem dX4_shownUnder_5 : decode cX4_shownUnder 5 = .ok (.imul, 1) := by decide +kernel
theorem dX4_shownUnder_6 : decode cX4_shownUnder 6 = .ok (.istore 5, 2) := by decide +kernel
theorem dX4_shownUnder_8 : decode cX4_shownUnder 8 = .ok (.iconst 0, 1) := by decide +kernel
theorem dX4_shownUnder_9 : decode cX4_shownUnder 9 = .ok (.istore 6, 2) := by decide +kernel
theorem dX4_shownUnder_11 : decode cX4_shownUnder 11 = .ok (.iload 6, 2) := by decide +kernel
theorem dX4_shownUnder_13 : decode cX4_shownUnder 13 = .ok (.aload_n 0, 1) := by decide +kernel
theorem dX4_shownUnder_14 : decode cX4_shownUnder 14 = .ok (.getfield 53, 3) := by decide +kernel
theorem dX4_shownUnder_17 : decode cX4_shownUnder 17 = .ok (.iload_n 1, 1) := by decide +kernel
theorem dX4_shownUnder_18 : decode cX4_shownUnder 18 = .ok (.iaload, 1) := by decide +kernel
theorem dX4_shownUnder_19 : decode cX4_shownUnder 19 = .ok (.if_icmp .ge 79, 3) := by decide +kernel
theorem dX4_shownUnder_22 : decode cX4_shownUnder 22 = .ok (.aload_n 0, 1) := by decide +kernel
theorem dX4_shownUnder_23 : decode cX4_shownUnder 23 = .ok (.getfield 41, 3) := by decide +kernel
theorem dX4_shownUnder_26 : decode cX4_shownUnder 26 = .ok (.iload 5, 2) := by decide +kernel
theorem dX4_shownUnder_28 : decode cX4_shownUnder 28 = .ok (.iload 6, 2) := by decide +kernel
theorem dX4_shownUnder_30 : decode cX4_shownUnder 30 = .ok (.iadd, 1) := by decide +kernel
theorem dX4_shownUnder_31 : decode cX4_shownUnder 31 = .ok (.iaload, 1) := by decide +kernel
theorem dX4_shownUnder_32 : decode cX4_shownUnder 32 = .ok (.istore 7, 2) := by decide +kernel
theorem dX4_shownUnder_34 : decode cX4_shownUnder 34 = .ok (.iload 7, 2) := by decide +kernel
theorem dX4_shownUnder_36 : decode cX4_shownUnder 36 = .ok (.sipush 256, 3) := by decide +kernel
theorem dX4_shownUnder_39 : decode cX4_shownUnder 39 = .ok (.idiv, 1) := by decide +kernel
theorem dX4_shownUnder_40 : decode cX4_shownUnder 40 = .ok (.istore 8, 2) := by decide +kernel
theorem dX4_shownUnder_42 : decode cX4_shownUnder 42 = .ok (.iload 8, 2) := by decide +kernel
theorem dX4_shownUnder_44 : decode cX4_shownUnder 44 = .ok (.bipush 12, 2) := by decide +kernel
theorem dX4_shownUnder_46 : decode cX4_shownUnder 46 = .ok (.if_icmp .ge 46, 3) := by decide +kernel
theorem dX4_shownUnder_49 : decode cX4_shownUnder 49 = .ok (.aload_n 0, 1) := by decide +kernel
theorem dX4_shownUnder_50 : decode cX4_shownUnder 50 = .ok (.getfield 15, 3) := by decide +kernel
theorem dX4_shownUnder_53 : decode cX4_shownUnder 53 = .ok (.iload 8, 2) := by decide +kernel
theorem dX4_shownUnder_55 : decode cX4_shownUnder 55 = .ok (.iaload, 1) := by decide +kernel
theorem dX4_shownUnder_56 : decode cX4_shownUnder 56 = .ok (.bipush 6, 2) := by decide +kernel
theorem dX4_shownUnder_58 : decode cX4_shownUnder 58 = .ok (.if_icmp .ne 34, 3) := by decide +kernel
theorem dX4_shownUnder_61 : decode cX4_shownUnder 61 = .ok (.iload_n 2, 1) := by decide +kernel
theorem dX4_shownUnder_62 : decode cX4_shownUnder 62 = .ok (.iload 8, 2) := by decide +kernel
theorem dX4_shownUnder_64 : decode cX4_shownUnder 64 = .ok (.ishr, 1) := by decide +kernel
theorem dX4_shownUnder_65 : decode cX4_shownUnder 65 = .ok (.iconst 1, 1) := by decide +kernel
theorem dX4_shownUnder_66 : decode cX4_shownUnder 66 = .ok (.iand, 1) := by decide +kernel
theorem dX4_shownUnder_67 : decode cX4_shownUnder 67 = .ok (.ifCond .ne 25, 3) := by decide +kernel
theorem dX4_shownUnder_70 : decode cX4_shownUnder 70 = .ok (.lload_n 3, 1) := by decide +kernel
theorem dX4_shownUnder_71 : decode cX4_shownUnder 71 = .ok (.iconst 2, 1) := by decide +kernel
theorem dX4_shownUnder_72 : decode cX4_shownUnder 72 = .ok (.lshl, 1) := by decide +kernel
theorem dX4_shownUnder_73 : decode cX4_shownUnder 73 = .ok (.iload 7, 2) := by decide +kernel
theorem dX4_shownUnder_75 : decode cX4_shownUnder 75 = .ok (.sipush 256, 3) := by decide +kernel
theorem dX4_shownUnder_78 : decode cX4_shownUnder 78 = .ok (.irem, 1) := by decide +kernel
theorem dX4_shownUnder_79 : decode cX4_shownUnder 79 = .ok (.aload_n 0, 1) := by decide +kernel
theorem dX4_shownUnder_80 : decode cX4_shownUnder 80 = .ok (.getfield 19, 3) := by decide +kernel
theorem dX4_shownUnder_83 : decode cX4_shownUnder 83 = .ok (.iload 8, 2) := by decide +kernel
theorem dX4_shownUnder_85 : decode cX4_shownUnder 85 = .ok (.iaload, 1) := by decide +kernel
theorem dX4_shownUnder_86 : decode cX4_shownUnder 86 = .ok (.invokestatic 63, 3) := by decide +kernel
theorem dX4_shownUnder_89 : decode cX4_shownUnder 89 = .ok (.i2l, 1) := by decide +kernel
theorem dX4_shownUnder_90 : decode cX4_shownUnder 90 = .ok (.lor, 1) := by decide +kernel
theorem dX4_shownUnder_91 : decode cX4_shownUnder 91 = .ok (.lstore_n 3, 1) := by decide +kernel
theorem dX4_shownUnder_92 : decode cX4_shownUnder 92 = .ok (.iinc 6 1, 3) := by decide +kernel
theorem dX4_shownUnder_95 : decode cX4_shownUnder 95 = .ok (.goto (-84), 3) := by decide +kernel
theorem dX4_shownUnder_98 : decode cX4_shownUnder 98 = .ok (.lload_n 3, 1) := by decide +kernel
theorem dX4_shownUnder_99 : decode cX4_shownUnder 99 = .ok (.lreturn, 1) := by decide +kernel
theorem dX4_countShown_0 : decode cX4_countShown 0 = .ok (.iconst 0, 1) := by decide +kernel
theorem dX4_countShown_1 : decode cX4_countShown 1 = .ok (.istore_n 2, 1) := by decide +kernel
theorem dX4_countShown_2 : decode cX4_countShown 2 = .ok (.iload_n 2, 1) := by decide +kernel
theorem dX4_countShown_3 : decode cX4_countShown 3 = .ok (.bipush 24, 2) := by decide +kernel
theorem dX4_countShown_5 : decode cX4_countShown 5 = .ok (.if_icmp .ge 19, 3) := by decide +kernel
theorem dX4_countShown_8 : decode cX4_countShown 8 = .ok (.lload_n 0, 1) := by decide +kernel
theorem dX4_countShown_9 : decode cX4_countShown 9 = .ok (.iconst 2, 1) := by decide +kernel
theorem dX4_countShown_10 : decode cX4_countShown 10 = .ok (.iload_n 2, 1) := by decide +kernel
theorem dX4_countShown_11 : decode cX4_countShown 11 = .ok (.imul, 1) := by decide +kernel
theorem dX4_countShown_12 : decode cX4_countShown 12 = .ok (.lshr, 1) := by decide +kernel
theorem dX4_countShown_13 : decode cX4_countShown 13 = .ok (.lconst 1, 1) := by decide +kernel
theorem dX4_countShown_14 : decode cX4_countShown 14 = .ok (.lcmp, 1) := by decide +kernel
theorem dX4_countShown_15 : decode cX4_countShown 15 = .ok (.ifCond .eq 9, 3) := by decide +kernel
theorem dX4_countShown_18 : decode cX4_countShown 18 = .ok (.iinc 2 1, 3) := by decide +kernel
theorem dX4_countShown_21 : decode cX4_countShown 21 = .ok (.goto (-19), 3) := by decide +kernel
theorem dX4_countShown_24 : decode cX4_countShown 24 = .ok (.iload_n 2, 1) := by decide +kernel
theorem dX4_countShown_25 : decode cX4_countShown 25 = .ok (.ireturn, 1) := by decide +kernel
theorem dX4_shownAt_0 : decode cX4_shownAt 0 = .ok (.aload_n 0, 1) := by decide +kernel
theorem dX4_shownAt_1 : decode cX4_shownAt 1 = .ok (.getfield 56, 3) := by decide +kernel
theorem dX4_shownAt_4 : decode cX4_shownAt 4 = .ok (.iload_n 1, 1) := by decide +kernel
theorem dX4_shownAt_5 : decode cX4_shownAt 5 = .ok (.iaload, 1) := by decide +kernel
theorem dX4_shownAt_6 : decode cX4_shownAt 6 = .ok (.iconst 1, 1) := by decide +kernel
theorem dX4_shownAt_7 : decode cX4_shownAt 7 = .ok (.isub, 1) := by decide +kernel
theorem dX4_shownAt_8 : decode cX4_shownAt 8 = .ok (.iload_n 2, 1) := by decide +kernel
theorem dX4_shownAt_9 : decode cX4_shownAt 9 = .ok (.isub, 1) := by decide +kernel
theorem dX4_shownAt_10 : decode cX4_shownAt 10 = .ok (.istore_n 3, 1) := by decide +kernel
theorem dX4_shownAt_11 : decode cX4_shownAt 11 = .ok (.iload_n 3, 1) := by decide +kernel
theorem dX4_shownAt_12 : decode cX4_shownAt 12 = .ok (.ifCond .ge 6, 3) := by decide +kernel
theorem dX4_shownAt_15 : decode cX4_shownAt 15 = .ok (.bipush (-6), 2) := by decide +kernel
theorem dX4_shownAt_17 : decode cX4_shownAt 17 = .ok (.ireturn, 1) := by decide +kernel
theorem dX4_shownAt_18 : decode cX4_shownAt 18 = .ok (.aload_n 0, 1) := by decide +kernel
theorem dX4_shownAt_19 : decode cX4_shownAt 19 = .ok (.getfield 59, 3) := by decide +kernel
theorem dX4_shownAt_22 : decode cX4_shownAt 22 = .ok (.iload_n 1, 1) := by decide +kernel
theorem dX4_shownAt_23 : decode cX4_shownAt 23 = .ok (.laload, 1) := by decide +kernel
theorem dX4_shownAt_24 : decode cX4_shownAt 24 = .ok (.iconst 2, 1) := by decide +kernel
theorem dX4_shownAt_25 : decode cX4_shownAt 25 = .ok (.iload_n 3, 1) := by decide +kernel
theorem dX4_shownAt_26 : decode cX4_shownAt 26 = .ok (.imul, 1) := by decide +kernel
theorem dX4_shownAt_27 : decode cX4_shownAt 27 = .ok (.lshr, 1) := by decide +kernel
theorem dX4_shownAt_28 : decode cX4_shownAt 28 = .ok (.l2i, 1) := by decide +kernel
theorem dX4_shownAt_29 : decode cX4_shownAt 29 = .ok (.iconst 3, 1) := by decide +kernel
theorem dX4_shownAt_30 : decode cX4_shownAt 30 = .ok (.iand, 1) := by decide +kernel
theorem dX4_shownAt_31 : decode cX4_shownAt 31 = .ok (.ireturn, 1) := by decide +kernel
theorem dX4_beginAlike_0 : decode cX4_beginAlike 0 = .ok (.aload_n 0, 1) := by decide +kernel
theorem dX4_beginAlike_1 : decode cX4_beginAlike 1 = .ok (.getfield 59, 3) := by decide +kernel
theorem dX4_beginAlike_4 : decode cX4_beginAlike 4 = .ok (.iload_n 1, 1) := by decide +kernel
theorem dX4_beginAlike_5 : decode cX4_beginAlike 5 = .ok (.laload, 1) := by decide +kernel
theorem dX4_beginAlike_6 : decode cX4_beginAlike 6 = .ok (.ldc2_w 94, 3) := by decide +kernel
theorem dX4_beginAlike_9 : decode cX4_beginAlike 9 = .ok (.land, 1) := by decide +kernel
theorem dX4_beginAlike_10 : decode cX4_beginAlike 10 = .ok (.lstore 4, 2) := by decide +kernel
theorem dX4_beginAlike_12 : decode cX4_beginAlike 12 = .ok (.aload_n 0, 1) := by decide +kernel
theorem dX4_beginAlike_13 : decode cX4_beginAlike 13 = .ok (.getfield 59, 3) := by decide +kernel
theorem dX4_beginAlike_16 : decode cX4_beginAlike 16 = .ok (.iload_n 2, 1) := by decide +kernel
theorem dX4_beginAlike_17 : decode cX4_beginAlike 17 = .ok (.laload, 1) := by decide +kernel
theorem dX4_beginAlike_18 : decode cX4_beginAlike 18 = .ok (.ldc2_w 94, 3) := by decide +kernel
theorem dX4_beginAlike_21 : decode cX4_beginAlike 21 = .ok (.land, 1) := by decide +kernel
theorem dX4_beginAlike_22 : decode cX4_beginAlike 22 = .ok (.lstore 6, 2) := by decide +kernel
theorem dX4_beginAlike_24 : decode cX4_beginAlike 24 = .ok (.aload_n 0, 1) := by decide +kernel
theorem dX4_beginAlike_25 : decode cX4_beginAlike 25 = .ok (.getfield 56, 3) := by decide +kernel
theorem dX4_beginAlike_28 : decode cX4_beginAlike 28 = .ok (.iload_n 1, 1) := by decide +kernel
theorem dX4_beginAlike_29 : decode cX4_beginAlike 29 = .ok (.iaload, 1) := by decide +kernel
theorem dX4_beginAlike_30 : decode cX4_beginAlike 30 = .ok (.iload_n 3, 1) := by decide +kernel
theorem dX4_beginAlike_31 : decode cX4_beginAlike 31 = .ok (.if_icmp .lt 13, 3) := by decide +kernel
theorem dX4_beginAlike_34 : decode cX4_beginAlike 34 = .ok (.aload_n 0, 1) := by decide +kernel
theorem dX4_beginAlike_35 : decode cX4_beginAlike 35 = .ok (.getfield 56, 3) := by decide +kernel
theorem dX4_beginAlike_38 : decode cX4_beginAlike 38 = .ok (.iload_n 2, 1) := by decide +kernel
theorem dX4_beginAlike_39 : decode cX4_beginAlike 39 = .ok (.iaload, 1) := by decide +kernel
theorem dX4_beginAlike_40 : decode cX4_beginAlike 40 = .ok (.iload_n 3, 1) := by decide +kernel
theorem dX4_beginAlike_41 : decode cX4_beginAlike 41 = .ok (.if_icmp .ge 17, 3) := by decide +kernel
theorem dX4_beginAlike_44 : decode cX4_beginAlike 44 = .ok (.lload 4, 2) := by decide +kernel
theorem dX4_beginAlike_46 : decode cX4_beginAlike 46 = .ok (.lload 6, 2) := by decide +kernel
theorem dX4_beginAlike_48 : decode cX4_beginAlike 48 = .ok (.lcmp, 1) := by decide +kernel
theorem dX4_beginAlike_49 : decode cX4_beginAlike 49 = .ok (.ifCond .ne 7, 3) := by decide +kernel
theorem dX4_beginAlike_52 : decode cX4_beginAlike 52 = .ok (.iconst 1, 1) := by decide +kernel
theorem dX4_beginAlike_53 : decode cX4_beginAlike 53 = .ok (.goto 4, 3) := by decide +kernel
theorem dX4_beginAlike_56 : decode cX4_beginAlike 56 = .ok (.iconst 0, 1) := by decide +kernel
theorem dX4_beginAlike_57 : decode cX4_beginAlike 57 = .ok (.ireturn, 1) := by decide +kernel
theorem dX4_beginAlike_58 : decode cX4_beginAlike 58 = .ok (.lload 4, 2) := by decide +kernel
theorem dX4_beginAlike_60 : decode cX4_beginAlike 60 = .ok (.iconst 2, 1) := by decide +kernel
theorem dX4_beginAlike_61 : decode cX4_beginAlike 61 = .ok (.aload_n 0, 1) := by decide +kernel
theorem dX4_beginAlike_62 : decode cX4_beginAlike 62 = .ok (.getfield 56, 3) := by decide +kernel
theorem dX4_beginAlike_65 : decode cX4_beginAlike 65 = .ok (.iload_n 1, 1) := by decide +kernel
theorem dX4_beginAlike_66 : decode cX4_beginAlike 66 = .ok (.iaload, 1) := by decide +kernel
theorem dX4_beginAlike_67 : decode cX4_beginAlike 67 = .ok (.iload_n 3, 1) := by decide +kernel
theorem dX4_beginAlike_68 : decode cX4_beginAlike 68 = .ok (.isub, 1) := by decide +kernel
theorem dX4_beginAlike_69 : decode cX4_beginAlike 69 = .ok (.imul, 1) := by decide +kernel
theorem dX4_beginAlike_70 : decode cX4_beginAlike 70 = .ok (.lshr, 1) := by decide +kernel
theorem dX4_beginAlike_71 : decode cX4_beginAlike 71 = .ok (.lload 6, 2) := by decide +kernel
theorem dX4_beginAlike_73 : decode cX4_beginAlike 73 = .ok (.iconst 2, 1) := by decide +kernel
theorem dX4_beginAlike_74 : decode cX4_beginAlike 74 = .ok (.aload_n 0, 1) := by decide +kernel
theorem dX4_beginAlike_75 : decode cX4_beginAlike 75 = .ok (.getfield 56, 3) := by decide +kernel
theorem dX4_beginAlike_78 : decode cX4_beginAlike 78 = .ok (.iload_n 2, 1) := by decide +kernel
theorem dX4_beginAlike_79 : decode cX4_beginAlike 79 = .ok (.iaload, 1) := by decide +kernel
theorem dX4_beginAlike_80 : decode cX4_beginAlike 80 = .ok (.iload_n 3, 1) := by decide +kernel
theorem dX4_beginAlike_81 : decode cX4_beginAlike 81 = .ok (.isub, 1) := by decide +kernel
theorem dX4_beginAlike_82 : decode cX4_beginAlike 82 = .ok (.imul, 1) := by decide +kernel
theorem dX4_beginAlike_83 : decode cX4_beginAlike 83 = .ok (.lshr, 1) := by decide +kernel
theorem dX4_beginAlike_84 : decode cX4_beginAlike 84 = .ok (.lcmp, 1) := by decide +kernel
theorem dX4_beginAlike_85 : decode cX4_beginAlike 85 = .ok (.ifCond .ne 7, 3) := by decide +kernel
theorem dX4_beginAlike_88 : decode cX4_beginAlike 88 = .ok (.iconst 1, 1) := by decide +kernel
theorem dX4_beginAlike_89 : decode cX4_beginAlike 89 = .ok (.goto 4, 3) := by decide +kernel
theorem dX4_beginAlike_92 : decode cX4_beginAlike 92 = .ok (.iconst 0, 1) := by decide +kernel
theorem dX4_beginAlike_93 : decode cX4_beginAlike 93 = .ok (.ireturn, 1) := by decide +kernel
theorem dX4_lineAhead_0 : decode cX4_lineAhead 0 = .ok (.iload_n 2, 1) := by decide +kernel
theorem dX4_lineAhead_1 : decode cX4_lineAhead 1 = .ok (.aload_n 0, 1) := by decide +kernel
theorem dX4_lineAhead_2 : decode cX4_lineAhead 2 = .ok (.getfield 53, 3) := by decide +kernel
theorem dX4_lineAhead_5 : decode cX4_lineAhead 5 = .ok (.iload_n 1, 1) := by decide +kernel
theorem dX4_lineAhead_6 : decode cX4_lineAhead 6 = .ok (.iaload, 1) := by decide +kernel
theorem dX4_lineAhead_7 : decode cX4_lineAhead 7 = .ok (.invokestatic 96, 3) := by decide +kernel
theorem dX4_lineAhead_10 : decode cX4_lineAhead 10 = .ok (.istore_n 3, 1) := by decide +kernel
theorem dX4_lineAhead_11 : decode cX4_lineAhead 11 = .ok (.aload_n 0, 1) := by decide +kernel
theorem dX4_lineAhead_12 : decode cX4_lineAhead 12 = .ok (.getfield 41, 3) := by decide +kernel
theorem dX4_lineAhead_15 : decode cX4_lineAhead 15 = .ok (.iload_n 1, 1) := by decide +kernel
theorem dX4_lineAhead_16 : decode cX4_lineAhead 16 = .ok (.bipush 25, 2) := by decide +kernel
theorem dX4_lineAhead_18 : decode cX4_lineAhead 18 = .ok (.imul, 1) := by decide +kernel
theorem dX4_lineAhead_19 : decode cX4_lineAhead 19 = .ok (.iload_n 3, 1) := by decide +kernel
theorem dX4_lineAhead_20 : decode cX4_lineAhead 20 = .ok (.iadd, 1) := by decide +kernel
theorem dX4_lineAhead_21 : decode cX4_lineAhead 21 = .ok (.iaload, 1) := by decide +kernel
theorem dX4_lineAhead_22 : decode cX4_lineAhead 22 = .ok (.sipush 256, 3) := by decide +kernel
theorem dX4_lineAhead_25 : decode cX4_lineAhead 25 = .ok (.idiv, 1) := by decide +kernel
theorem dX4_lineAhead_26 : decode cX4_lineAhead 26 = .ok (.ireturn, 1) := by decide +kernel
theorem dX4_loudLines_0 : decode cX4_loudLines 0 = .ok (.iconst 0, 1) := by decide +kernel
theorem dX4_loudLines_1 : decode cX4_loudLines 1 = .ok (.istore_n 1, 1) := by decide +kernel
theorem dX4_loudLines_2 : decode cX4_loudLines 2 = .ok (.iconst 0, 1) := by decide +kernel
theorem dX4_loudLines_3 : decode cX4_loudLines 3 = .ok (.istore_n 2, 1) := by decide +kernel
theorem dX4_loudLines_4 : decode cX4_loudLines 4 = .ok (.iload_n 2, 1) := by decide +kernel
theorem dX4_loudLines_5 : decode cX4_loudLines 5 = .ok (.aload_n 0, 1) := by decide +kernel
theorem dX4_loudLines_6 : decode cX4_loudLines 6 = .ok (.getfield 28, 3) := by decide +kernel
theorem dX4_loudLines_9 : decode cX4_loudLines 9 = .ok (.if_icmp .ge 37, 3) := by decide +kernel
theorem dX4_loudLines_12 : decode cX4_loudLines 12 = .ok (.aload_n 0, 1) := by decide +kernel
theorem dX4_loudLines_13 : decode cX4_loudLines 13 = .ok (.getfield 15, 3) := by decide +kernel
theorem dX4_loudLines_16 : decode cX4_loudLines 16 = .ok (.iload_n 2, 1) := by decide +kernel
theorem dX4_loudLines_17 : decode cX4_loudLines 17 = .ok (.iaload, 1) := by decide +kernel
theorem dX4_loudLines_18 : decode cX4_loudLines 18 = .ok (.bipush 6, 2) := by decide +kernel
theorem dX4_loudLines_20 : decode cX4_loudLines 20 = .ok (.if_icmp .ne 20, 3) := by decide +kernel
theorem dX4_loudLines_23 : decode cX4_loudLines 23 = .ok (.aload_n 0, 1) := by decide +kernel
theorem dX4_loudLines_24 : decode cX4_loudLines 24 = .ok (.getfield 32, 3) := by decide +kernel
theorem dX4_loudLines_27 : decode cX4_loudLines 27 = .ok (.iload_n 2, 1) := by decide +kernel
theorem dX4_loudLines_28 : decode cX4_loudLines 28 = .ok (.ishr, 1) := by decide +kernel
theorem dX4_loudLines_29 : decode cX4_loudLines 29 = .ok (.iconst 1, 1) := by decide +kernel
theorem dX4_loudLines_30 : decode cX4_loudLines 30 = .ok (.iand, 1) := by decide +kernel
theorem dX4_loudLines_31 : decode cX4_loudLines 31 = .ok (.ifCond .ne 9, 3) := by decide +kernel
theorem dX4_loudLines_34 : decode cX4_loudLines 34 = .ok (.iload_n 1, 1) := by decide +kernel
theorem dX4_loudLines_35 : decode cX4_loudLines 35 = .ok (.iconst 1, 1) := by decide +kernel
theorem dX4_loudLines_36 : decode cX4_loudLines 36 = .ok (.iload_n 2, 1) := by decide +kernel
theorem dX4_loudLines_37 : decode cX4_loudLines 37 = .ok (.ishl, 1) := by decide +kernel
theorem dX4_loudLines_38 : decode cX4_loudLines 38 = .ok (.ior, 1) := by decide +kernel
theorem dX4_loudLines_39 : decode cX4_loudLines 39 = .ok (.istore_n 1, 1) := by decide +kernel
theorem dX4_loudLines_40 : decode cX4_loudLines 40 = .ok (.iinc 2 1, 3) := by decide +kernel
theorem dX4_loudLines_43 : decode cX4_loudLines 43 = .ok (.goto (-39), 3) := by decide +kernel
theorem dX4_loudLines_46 : decode cX4_loudLines 46 = .ok (.iload_n 1, 1) := by decide +kernel
theorem dX4_loudLines_47 : decode cX4_loudLines 47 = .ok (.ireturn, 1) := by decide +kernel
theorem dX4_unlikeLines_0 : decode cX4_unlikeLines 0 = .ok (.iconst 0, 1) := by decide +kernel
theorem dX4_unlikeLines_1 : decode cX4_unlikeLines 1 = .ok (.istore_n 2, 1) := by decide +kernel
theorem dX4_unlikeLines_2 : decode cX4_unlikeLines 2 = .ok (.iconst 0, 1) := by decide +kernel
theorem dX4_unlikeLines_3 : decode cX4_unlikeLines 3 = .ok (.istore_n 3, 1) := by decide +kernel
theorem dX4_unlikeLines_4 : decode cX4_unlikeLines 4 = .ok (.iload_n 3, 1) := by decide +kernel
theorem dX4_unlikeLines_5 : decode cX4_unlikeLines 5 = .ok (.bipush 12, 2) := by decide +kernel
theorem dX4_unlikeLines_7 : decode cX4_unlikeLines 7 = .ok (.if_icmp .ge 66, 3) := by decide +kernel
theorem dX4_unlikeLines_10 : decode cX4_unlikeLines 10 = .ok (.iload_n 3, 1) := by decide +kernel
theorem dX4_unlikeLines_11 : decode cX4_unlikeLines 11 = .ok (.aload_n 0, 1) := by decide +kernel
theorem dX4_unlikeLines_12 : decode cX4_unlikeLines 12 = .ok (.getfield 28, 3) := by decide +kernel
theorem dX4_unlikeLines_15 : decode cX4_unlikeLines 15 = .ok (.if_icmp .ge 7, 3) := by decide +kernel
theorem dX4_unlikeLines_18 : decode cX4_unlikeLines 18 = .ok (.iconst 1, 1) := by decide +kernel
theorem dX4_unlikeLines_19 : decode cX4_unlikeLines 19 = .ok (.goto 4, 3) := by decide +kernel
theorem dX4_unlikeLines_22 : decode cX4_unlikeLines 22 = .ok (.iconst 0, 1) := by decide +kernel
theorem dX4_unlikeLines_23 : decode cX4_unlikeLines 23 = .ok (.istore 4, 2) := by decide +kernel
theorem dX4_unlikeLines_25 : decode cX4_unlikeLines 25 = .ok (.iload_n 3, 1) := by decide +kernel
theorem dX4_unlikeLines_26 : decode cX4_unlikeLines 26 = .ok (.aload_n 1, 1) := by decide +kernel
theorem dX4_unlikeLines_27 : decode cX4_unlikeLines 27 = .ok (.getfield 28, 3) := by decide +kernel
theorem dX4_unlikeLines_30 : decode cX4_unlikeLines 30 = .ok (.if_icmp .ge 7, 3) := by decide +kernel
theorem dX4_unlikeLines_33 : decode cX4_unlikeLines 33 = .ok (.iconst 1, 1) := by decide +kernel
theorem dX4_unlikeLines_34 : decode cX4_unlikeLines 34 = .ok (.goto 4, 3) := by decide +kernel
theorem dX4_unlikeLines_37 : decode cX4_unlikeLines 37 = .ok (.iconst 0, 1) := by decide +kernel
theorem dX4_unlikeLines_38 : decode cX4_unlikeLines 38 = .ok (.istore 5, 2) := by decide +kernel
theorem dX4_unlikeLines_40 : decode cX4_unlikeLines 40 = .ok (.iload 4, 2) := by decide +kernel
theorem dX4_unlikeLines_42 : decode cX4_unlikeLines 42 = .ok (.iload 5, 2) := by decide +kernel
theorem dX4_unlikeLines_44 : decode cX4_unlikeLines 44 = .ok (.if_icmp .ne 17, 3) := by decide +kernel
theorem dX4_unlikeLines_47 : decode cX4_unlikeLines 47 = .ok (.iload 4, 2) := by decide +kernel
theorem dX4_unlikeLines_49 : decode cX4_unlikeLines 49 = .ok (.ifCond .eq 18, 3) := by decide +kernel
theorem dX4_unlikeLines_52 : decode cX4_unlikeLines 52 = .ok (.aload_n 0, 1) := by decide +kernel
theorem dX4_unlikeLines_53 : decode cX4_unlikeLines 53 = .ok (.aload_n 1, 1) := by decide +kernel
theorem dX4_unlikeLines_54 : decode cX4_unlikeLines 54 = .ok (.iload_n 3, 1) := by decide +kernel
theorem dX4_unlikeLines_55 : decode cX4_unlikeLines 55 = .ok (.invokevirtual 101, 3) := by decide +kernel
theorem dX4_unlikeLines_58 : decode cX4_unlikeLines 58 = .ok (.ifCond .ne 9, 3) := by decide +kernel
theorem dX4_unlikeLines_61 : decode cX4_unlikeLines 61 = .ok (.iload_n 2, 1) := by decide +kernel
theorem dX4_unlikeLines_62 : decode cX4_unlikeLines 62 = .ok (.iconst 1, 1) := by decide +kernel
theorem dX4_unlikeLines_63 : decode cX4_unlikeLines 63 = .ok (.iload_n 3, 1) := by decide +kernel
theorem dX4_unlikeLines_64 : decode cX4_unlikeLines 64 = .ok (.ishl, 1) := by decide +kernel
theorem dX4_unlikeLines_65 : decode cX4_unlikeLines 65 = .ok (.ior, 1) := by decide +kernel
theorem dX4_unlikeLines_66 : decode cX4_unlikeLines 66 = .ok (.istore_n 2, 1) := by decide +kernel
theorem dX4_unlikeLines_67 : decode cX4_unlikeLines 67 = .ok (.iinc 3 1, 3) := by decide +kernel
theorem dX4_unlikeLines_70 : decode cX4_unlikeLines 70 = .ok (.goto (-66), 3) := by decide +kernel
theorem dX4_unlikeLines_73 : decode cX4_unlikeLines 73 = .ok (.iload_n 2, 1) := by decide +kernel
theorem dX4_unlikeLines_74 : decode cX4_unlikeLines 74 = .ok (.ireturn, 1) := by decide +kernel
theorem dX4_isSameLine_0 : decode cX4_isSameLine 0 = .ok (.aload_n 0, 1) := by decide +kernel
theorem dX4_isSameLine_1 : decode cX4_isSameLine 1 = .ok (.getfield 15, 3) := by decide +kernel
theorem dX4_isSameLine_4 : decode cX4_isSameLine 4 = .ok (.iload_n 2, 1) := by decide +kernel
theorem dX4_isSameLine_5 : decode cX4_isSameLine 5 = .ok (.iaload, 1) := by decide +kernel
theorem dX4_isSameLine_6 : decode cX4_isSameLine 6 = .ok (.aload_n 1, 1) := by decide +kernel
theorem dX4_isSameLine_7 : decode cX4_isSameLine 7 = .ok (.getfield 15, 3) := by decide +kernel
theorem dX4_isSameLine_10 : decode cX4_isSameLine 10 = .ok (.iload_n 2, 1) := by decide +kernel
theorem dX4_isSameLine_11 : decode cX4_isSameLine 11 = .ok (.iaload, 1) := by decide +kernel
theorem dX4_isSameLine_12 : decode cX4_isSameLine 12 = .ok (.if_icmp .ne 52, 3) := by decide +kernel
theorem dX4_isSameLine_15 : decode cX4_isSameLine 15 = .ok (.aload_n 0, 1) := by decide +kernel
theorem dX4_isSameLine_16 : decode cX4_isSameLine 16 = .ok (.getfield 19, 3) := by decide +kernel
theorem dX4_isSameLine_19 : decode cX4_isSameLine 19 = .ok (.iload_n 2, 1) := by decide +kernel
theorem dX4_isSameLine_20 : decode cX4_isSameLine 20 = .ok (.iaload, 1) := by decide +kernel
theorem dX4_isSameLine_21 : decode cX4_isSameLine 21 = .ok (.aload_n 1, 1) := by decide +kernel
theorem dX4_isSameLine_22 : decode cX4_isSameLine 22 = .ok (.getfield 19, 3) := by decide +kernel
theorem dX4_isSameLine_25 : decode cX4_isSameLine 25 = .ok (.iload_n 2, 1) := by decide +kernel
theorem dX4_isSameLine_26 : decode cX4_isSameLine 26 = .ok (.iaload, 1) := by decide +kernel
theorem dX4_isSameLine_27 : decode cX4_isSameLine 27 = .ok (.if_icmp .ne 37, 3) := by decide +kernel
theorem dX4_isSameLine_30 : decode cX4_isSameLine 30 = .ok (.aload_n 0, 1) := by decide +kernel
theorem dX4_isSameLine_31 : decode cX4_isSameLine 31 = .ok (.getfield 22, 3) := by decide +kernel
theorem dX4_isSameLine_34 : decode cX4_isSameLine 34 = .ok (.iload_n 2, 1) := by decide +kernel
theorem dX4_isSameLine_35 : decode cX4_isSameLine 35 = .ok (.iaload, 1) := by decide +kernel
theorem dX4_isSameLine_36 : decode cX4_isSameLine 36 = .ok (.aload_n 1, 1) := by decide +kernel
theorem dX4_isSameLine_37 : decode cX4_isSameLine 37 = .ok (.getfield 22, 3) := by decide +kernel
theorem dX4_isSameLine_40 : decode cX4_isSameLine 40 = .ok (.iload_n 2, 1) := by decide +kernel
theorem dX4_isSameLine_41 : decode cX4_isSameLine 41 = .ok (.iaload, 1) := by decide +kernel
theorem dX4_isSameLine_42 : decode cX4_isSameLine 42 = .ok (.if_icmp .ne 22, 3) := by decide +kernel
theorem dX4_isSameLine_45 : decode cX4_isSameLine 45 = .ok (.aload_n 0, 1) := by decide +kernel
theorem dX4_isSameLine_46 : decode cX4_isSameLine 46 = .ok (.getfield 25, 3) := by decide +kernel
theorem dX4_isSameLine_49 : decode cX4_isSameLine 49 = .ok (.iload_n 2, 1) := by decide +kernel
theorem dX4_isSameLine_50 : decode cX4_isSameLine 50 = .ok (.iaload, 1) := by decide +kernel
theorem dX4_isSameLine_51 : decode cX4_isSameLine 51 = .ok (.aload_n 1, 1) := by decide +kernel
theorem dX4_isSameLine_52 : decode cX4_isSameLine 52 = .ok (.getfield 25, 3) := by decide +kernel
theorem dX4_isSameLine_55 : decode cX4_isSameLine 55 = .ok (.iload_n 2, 1) := by decide +kernel
theorem dX4_isSameLine_56 : decode cX4_isSameLine 56 = .ok (.iaload, 1) := by decide +kernel
theorem dX4_isSameLine_57 : decode cX4_isSameLine 57 = .ok (.if_icmp .ne 7, 3) := by decide +kernel
theorem dX4_isSameLine_60 : decode cX4_isSameLine 60 = .ok (.iconst 1, 1) := by decide +kernel
theorem dX4_isSameLine_61 : decode cX4_isSameLine 61 = .ok (.goto 4, 3) := by decide +kernel
theorem dX4_isSameLine_64 : decode cX4_isSameLine 64 = .ok (.iconst 0, 1) := by decide +kernel
theorem dX4_isSameLine_65 : decode cX4_isSameLine 65 = .ok (.ireturn, 1) := by decide +kernel
theorem dX5_init_0 : decode cX5_init 0 = .ok (.aload_n 0, 1) := by decide +kernel
theorem dX5_init_1 : decode cX5_init 1 = .ok (.invokespecial 3, 3) := by decide +kernel
theorem dX5_init_4 : decode cX5_init 4 = .ok (.aload_n 0, 1) := by decide +kernel
theorem dX5_init_5 : decode cX5_init 5 = .ok (.bipush 40, 2) := by decide +kernel
theorem dX5_init_7 : decode cX5_init 7 = .ok (.newarray .int, 2) := by decide +kernel
theorem dX5_init_9 : decode cX5_init 9 = .ok (.putfield 9, 3) := by decide +kernel
theorem dX5_init_12 : decode cX5_init 12 = .ok (.aload_n 0, 1) := by decide +kernel
theorem dX5_init_13 : decode cX5_init 13 = .ok (.iconst 0, 1) := by decide +kernel
theorem dX5_init_14 : decode cX5_init 14 = .ok (.putfield 15, 3) := by decide +kernel
theorem dX5_init_17 : decode cX5_init 17 = .ok (.aload_n 0, 1) := by decide +kernel
theorem dX5_init_18 : decode cX5_init 18 = .ok (.lconst 0, 1) := by decide +kernel
theorem dX5_init_19 : decode cX5_init 19 = .ok (.putfield 19, 3) := by decide +kernel
theorem dX5_init_22 : decode cX5_init 22 = .ok (.aload_n 0, 1) := by decide +kernel
theorem dX5_init_23 : decode cX5_init 23 = .ok (.iconst 0, 1) := by decide +kernel
theorem dX5_init_24 : decode cX5_init 24 = .ok (.putfield 23, 3) := by decide +kernel
theorem dX5_init_27 : decode cX5_init 27 = .ok (.return_, 1) := by decide +kernel
theorem dX5_firstFault_0 : decode cX5_firstFault 0 = .ok (.iconst 0, 1) := by decide +kernel
theorem dX5_firstFault_1 : decode cX5_firstFault 1 = .ok (.istore_n 1, 1) := by decide +kernel
theorem dX5_firstFault_2 : decode cX5_firstFault 2 = .ok (.iconst 0, 1) := by decide +kernel
theorem dX5_firstFault_3 : decode cX5_firstFault 3 = .ok (.istore_n 2, 1) := by decide +kernel
theorem dX5_firstFault_4 : decode cX5_firstFault 4 = .ok (.iconst 0, 1) := by decide +kernel
theorem dX5_firstFault_5 : decode cX5_firstFault 5 = .ok (.istore_n 3, 1) := by decide +kernel
theorem dX5_firstFault_6 : decode cX5_firstFault 6 = .ok (.iload_n 3, 1) := by decide +kernel
theorem dX5_firstFault_7 : decode cX5_firstFault 7 = .ok (.aload_n 0, 1) := by decide +kernel
theorem dX5_firstFault_8 : decode cX5_firstFault 8 = .ok (.getfield 15, 3) := by decide +kernel
theorem dX5_firstFault_11 : decode cX5_firstFault 11 = .ok (.if_icmp .ge 49, 3) := by decide +kernel
theorem dX5_firstFault_14 : decode cX5_firstFault 14 = .ok (.aload_n 0, 1) := by decide +kernel
theorem dX5_firstFault_15 : decode cX5_firstFault 15 = .ok (.getfield 9, 3) := by decide +kernel
theorem dX5_firstFault_18 : decode cX5_firstFault 18 = .ok (.iload_n 3, 1) := by decide +kernel
theorem dX5_firstFault_19 : decode cX5_firstFault 19 = .ok (.iaload, 1) := by decide +kernel
theorem dX5_firstFault_20 : decode cX5_firstFault 20 = .ok (.iload_n 1, 1) := by decide +kernel
theorem dX5_firstFault_21 : decode cX5_firstFault 21 = .ok (.iload_n 2, 1) := by decide +kernel
theorem dX5_firstFault_22 : decode cX5_firstFault 22 = .ok (.invokestatic 26, 3) := by decide +kernel
theorem dX5_firstFault_25 : decode cX5_firstFault 25 = .ok (.istore_n 1, 1) := by decide +kernel
theorem dX5_firstFault_26 : decode cX5_firstFault 26 = .ok (.iload_n 1, 1) := by decide +kernel
theorem dX5_firstFault_27 : decode cX5_firstFault 27 = .ok (.iconst 4, 1) := by decide +kernel
theorem dX5_firstFault_28 : decode cX5_firstFault 28 = .ok (.if_icmp .ne 5, 3) := by decide +kernel
theorem dX5_firstFault_31 : decode cX5_firstFault 31 = .ok (.iload_n 3, 1) := by decide +kernel
theorem dX5_firstFault_32 : decode cX5_firstFault 32 = .ok (.ireturn, 1) := by decide +kernel
theorem dX5_firstFault_33 : decode cX5_firstFault 33 = .ok (.iload_n 2, 1) := by decide +kernel
theorem dX5_firstFault_34 : decode cX5_firstFault 34 = .ok (.ifCond .ne 14, 3) := by decide +kernel
theorem dX5_firstFault_37 : decode cX5_firstFault 37 = .ok (.aload_n 0, 1) := by decide +kernel
theorem dX5_firstFault_38 : decode cX5_firstFault 38 = .ok (.getfield 9, 3) := by decide +kernel
theorem dX5_firstFault_41 : decode cX5_firstFault 41 = .ok (.iload_n 3, 1) := by decide +kernel
theorem dX5_firstFault_42 : decode cX5_firstFault 42 = .ok (.iaload, 1) := by decide +kernel
theorem dX5_firstFault_43 : decode cX5_firstFault 43 = .ok (.bipush 58, 2) := by decide +kernel
theorem dX5_firstFault_45 : decode cX5_firstFault 45 = .ok (.if_icmp .ne 7, 3) := by decide +kernel
theorem dX5_firstFault_48 : decode cX5_firstFault 48 = .ok (.iconst 1, 1) := by decide +kernel
theorem dX5_firstFault_49 : decode cX5_firstFault 49 = .ok (.goto 4, 3) := by decide +kernel
theorem dX5_firstFault_52 : decode cX5_firstFault 52 = .ok (.iconst 0, 1) := by decide +kernel
theorem dX5_firstFault_53 : decode cX5_firstFault 53 = .ok (.istore_n 2, 1) := by decide +kernel
theorem dX5_firstFault_54 : decode cX5_firstFault 54 = .ok (.iinc 3 1, 3) := by decide +kernel
theorem dX5_firstFault_57 : decode cX5_firstFault 57 = .ok (.goto (-51), 3) := by decide +kernel
theorem dX5_firstFault_60 : decode cX5_firstFault 60 = .ok (.iload_n 2, 1) := by decide +kernel
theorem dX5_firstFault_61 : decode cX5_firstFault 61 = .ok (.ifCond .eq 13, 3) := by decide +kernel
theorem dX5_firstFault_64 : decode cX5_firstFault 64 = .ok (.iload_n 1, 1) := by decide +kernel
theorem dX5_firstFault_65 : decode cX5_firstFault 65 = .ok (.iconst 3, 1) := by decide +kernel
theorem dX5_firstFault_66 : decode cX5_firstFault 66 = .ok (.if_icmp .ne 8, 3) := by decide +kernel
theorem dX5_firstFault_69 : decode cX5_firstFault 69 = .ok (.bipush (-6), 2) := by decide +kernel
theorem dX5_firstFault_71 : decode cX5_firstFault 71 = .ok (.goto 7, 3) := by decide +kernel
theorem dX5_firstFault_74 : decode cX5_firstFault 74 = .ok (.aload_n 0, 1) := by decide +kernel
theorem dX5_firstFault_75 : decode cX5_firstFault 75 = .ok (.getfield 15, 3) := by decide +kernel
theorem dX5_firstFault_78 : decode cX5_firstFault 78 = .ok (.ireturn, 1) := by decide +kernel
theorem dX5_dueBehind_0 : decode cX5_dueBehind 0 = .ok (.iload_n 1, 1) := by decide +kernel
theorem dX5_dueBehind_1 : decode cX5_dueBehind 1 = .ok (.tableswitch 98 0 2 #[27, 55, 85], 27) := by decide +kernel
theorem dX5_dueBehind_28 : decode cX5_dueBehind 28 = .ok (.iload_n 0, 1) := by decide +kernel
theorem dX5_dueBehind_29 : decode cX5_dueBehind 29 = .ok (.invokestatic 30, 3) := by decide +kernel
theorem dX5_dueBehind_32 : decode cX5_dueBehind 32 = .ok (.ifCond .eq 5, 3) := by decide +kernel
theorem dX5_dueBehind_35 : decode cX5_dueBehind 35 = .ok (.iconst 1, 1) := by decide +kernel
theorem dX5_dueBehind_36 : decode cX5_dueBehind 36 = .ok (.ireturn, 1) := by decide +kernel
theorem dX5_dueBehind_37 : decode cX5_dueBehind 37 = .ok (.iload_n 2, 1) := by decide +kernel
theorem dX5_dueBehind_38 : decode cX5_dueBehind 38 = .ok (.ifCond .eq 16, 3) := by decide +kernel
theorem dX5_dueBehind_41 : decode cX5_dueBehind 41 = .ok (.iload_n 0, 1) := by decide +kernel
theorem dX5_dueBehind_42 : decode cX5_dueBehind 42 = .ok (.invokestatic 34, 3) := by decide +kernel
theorem dX5_dueBehind_45 : decode cX5_dueBehind 45 = .ok (.lconst 0, 1) := by decide +kernel
theorem dX5_dueBehind_46 : decode cX5_dueBehind 46 = .ok (.lcmp, 1) := by decide +kernel
theorem dX5_dueBehind_47 : decode cX5_dueBehind 47 = .ok (.ifCond .eq 7, 3) := by decide +kernel
theorem dX5_dueBehind_50 : decode cX5_dueBehind 50 = .ok (.iconst 3, 1) := by decide +kernel
theorem dX5_dueBehind_51 : decode cX5_dueBehind 51 = .ok (.goto 4, 3) := by decide +kernel
theorem dX5_dueBehind_54 : decode cX5_dueBehind 54 = .ok (.iconst 4, 1) := by decide +kernel
theorem dX5_dueBehind_55 : decode cX5_dueBehind 55 = .ok (.ireturn, 1) := by decide +kernel
theorem dX5_dueBehind_56 : decode cX5_dueBehind 56 = .ok (.iload_n 0, 1) := by decide +kernel
theorem dX5_dueBehind_57 : decode cX5_dueBehind 57 = .ok (.bipush 61, 2) := by decide +kernel
theorem dX5_dueBehind_59 : decode cX5_dueBehind 59 = .ok (.if_icmp .eq 21, 3) := by decide +kernel
theorem dX5_dueBehind_62 : decode cX5_dueBehind 62 = .ok (.iload_n 0, 1) := by decide +kernel
theorem dX5_dueBehind_63 : decode cX5_dueBehind 63 = .ok (.bipush 60, 2) := by decide +kernel
theorem dX5_dueBehind_65 : decode cX5_dueBehind 65 = .ok (.if_icmp .eq 15, 3) := by decide +kernel
theorem dX5_dueBehind_68 : decode cX5_dueBehind 68 = .ok (.iload_n 0, 1) := by decide +kernel
theorem dX5_dueBehind_69 : decode cX5_dueBehind 69 = .ok (.bipush 62, 2) := by decide +kernel
theorem dX5_dueBehind_71 : decode cX5_dueBehind 71 = .ok (.if_icmp .eq 9, 3) := by decide +kernel
theorem dX5_dueBehind_74 : decode cX5_dueBehind 74 = .ok (.iload_n 0, 1) := by decide +kernel
theorem dX5_dueBehind_75 : decode cX5_dueBehind 75 = .ok (.bipush 35, 2) := by decide +kernel
theorem dX5_dueBehind_77 : decode cX5_dueBehind 77 = .ok (.if_icmp .ne 7, 3) := by decide +kernel
theorem dX5_dueBehind_80 : decode cX5_dueBehind 80 = .ok (.iconst 2, 1) := by decide +kernel
theorem dX5_dueBehind_81 : decode cX5_dueBehind 81 = .ok (.goto 4, 3) := by decide +kernel
theorem dX5_dueBehind_84 : decode cX5_dueBehind 84 = .ok (.iconst 4, 1) := by decide +kernel
theorem dX5_dueBehind_85 : decode cX5_dueBehind 85 = .ok (.ireturn, 1) := by decide +kernel
theorem dX5_dueBehind_86 : decode cX5_dueBehind 86 = .ok (.iload_n 0, 1) := by decide +kernel
theorem dX5_dueBehind_87 : decode cX5_dueBehind 87 = .ok (.invokestatic 30, 3) := by decide +kernel
theorem dX5_dueBehind_90 : decode cX5_dueBehind 90 = .ok (.ifCond .eq 7, 3) := by decide +kernel
theorem dX5_dueBehind_93 : decode cX5_dueBehind 93 = .ok (.iconst 3, 1) := by decide +kernel
theorem dX5_dueBehind_94 : decode cX5_dueBehind 94 = .ok (.goto 4, 3) := by decide +kernel
theorem dX5_dueBehind_97 : decode cX5_dueBehind 97 = .ok (.iconst 4, 1) := by decide +kernel
theorem dX5_dueBehind_98 : decode cX5_dueBehind 98 = .ok (.ireturn, 1) := by decide +kernel
theorem dX5_dueBehind_99 : decode cX5_dueBehind 99 = .ok (.iload_n 0, 1) := by decide +kernel
theorem dX5_dueBehind_100 : decode cX5_dueBehind 100 = .ok (.bipush 38, 2) := by decide +kernel
theorem dX5_dueBehind_102 : decode cX5_dueBehind 102 = .ok (.if_icmp .eq 13, 3) := by decide +kernel
theorem dX5_dueBehind_105 : decode cX5_dueBehind 105 = .ok (.iload_n 0, 1) := by decide +kernel
theorem dX5_dueBehind_106 : decode cX5_dueBehind 106 = .ok (.bipush 58, 2) := by decide +kernel
theorem dX5_dueBehind_108 : decode cX5_dueBehind 108 = .ok (.if_icmp .ne 11, 3) := by decide +kernel
theorem dX5_dueBehind_111 : decode cX5_dueBehind 111 = .ok (.iload_n 2, 1) := by decide +kernel
theorem dX5_dueBehind_112 : decode cX5_dueBehind 112 = .ok (.ifCond .ne 7, 3) := by decide +kernel
theorem dX5_dueBehind_115 : decode cX5_dueBehind 115 = .ok (.iconst 0, 1) := by decide +kernel
theorem dX5_dueBehind_116 : decode cX5_dueBehind 116 = .ok (.goto 4, 3) := by decide +kernel
theorem dX5_dueBehind_119 : decode cX5_dueBehind 119 = .ok (.iconst 4, 1) := by decide +kernel
theorem dX5_dueBehind_120 : decode cX5_dueBehind 120 = .ok (.ireturn, 1) := by decide +kernel
theorem dX5_isLetter_0 : decode cX5_isLetter 0 = .ok (.iload_n 0, 1) := by decide +kernel
theorem dX5_isLetter_1 : decode cX5_isLetter 1 = .ok (.bipush 97, 2) := by decide +kernel
theorem dX5_isLetter_3 : decode cX5_isLetter 3 = .ok (.if_icmp .lt 13, 3) := by decide +kernel
theorem dX5_isLetter_6 : decode cX5_isLetter 6 = .ok (.iload_n 0, 1) := by decide +kernel
theorem dX5_isLetter_7 : decode cX5_isLetter 7 = .ok (.bipush 100, 2) := by decide +kernel
theorem dX5_isLetter_9 : decode cX5_isLetter 9 = .ok (.if_icmp .gt 7, 3) := by decide +kernel
theorem dX5_isLetter_12 : decode cX5_isLetter 12 = .ok (.iconst 1, 1) := by decide +kernel
theorem dX5_isLetter_13 : decode cX5_isLetter 13 = .ok (.goto 4, 3) := by decide +kernel
theorem dX5_isLetter_16 : decode cX5_isLetter 16 = .ok (.iconst 0, 1) := by decide +kernel
theorem dX5_isLetter_17 : decode cX5_isLetter 17 = .ok (.ireturn, 1) := by decide +kernel
theorem dX5_alikePart_0 : decode cX5_alikePart 0 = .ok (.iload_n 0, 1) := by decide +kernel
theorem dX5_alikePart_1 : decode cX5_alikePart 1 = .ok (.lookupswitch 47 #[(101, 35), (111, 39), (116, 43)], 35) := by decide +kernel
theorem dX5_alikePart_36 : decode cX5_alikePart 36 = .ok (.ldc2_w 40, 3) := by decide +kernel
theorem dX5_alikePart_39 : decode cX5_alikePart 39 = .ok (.lreturn, 1) := by decide +kernel
theorem dX5_alikePart_40 : decode cX5_alikePart 40 = .ok (.ldc2_w 42, 3) := by decide +kernel
theorem dX5_alikePart_43 : decode cX5_alikePart 43 = .ok (.lreturn, 1) := by decide +kernel
theorem dX5_alikePart_44 : decode cX5_alikePart 44 = .ok (.ldc2_w 44, 3) := by decide +kernel
theorem dX5_alikePart_47 : decode cX5_alikePart 47 = .ok (.lreturn, 1) := by decide +kernel
theorem dX5_alikePart_48 : decode cX5_alikePart 48 = .ok (.lconst 0, 1) := by decide +kernel
theorem dX5_alikePart_49 : decode cX5_alikePart 49 = .ok (.lreturn, 1) := by decide +kernel
theorem dX5_take_0 : decode cX5_take 0 = .ok (.aload_n 1, 1) := by decide +kernel
theorem dX5_take_1 : decode cX5_take 1 = .ok (.getfield 9, 3) := by decide +kernel
theorem dX5_take_4 : decode cX5_take 4 = .ok (.iconst 0, 1) := by decide +kernel
theorem dX5_take_5 : decode cX5_take 5 = .ok (.aload_n 0, 1) := by decide +kernel
theorem dX5_take_6 : decode cX5_take 6 = .ok (.getfield 9, 3) := by decide +kernel
theorem dX5_take_9 : decode cX5_take 9 = .ok (.iconst 0, 1) := by decide +kernel
theorem dX5_take_10 : decode cX5_take 10 = .ok (.bipush 40, 2) := by decide +kernel
theorem dX5_take_12 : decode cX5_take 12 = .ok (.invokestatic 46, 3) := by decide +kernel
theorem dX5_take_15 : decode cX5_take 15 = .ok (.aload_n 0, 1) := by decide +kernel
theorem dX5_take_16 : decode cX5_take 16 = .ok (.aload_n 1, 1) := by decide +kernel
theorem dX5_take_17 : decode cX5_take 17 = .ok (.getfield 15, 3) := by decide +kernel
theorem dX5_take_20 : decode cX5_take 20 = .ok (.putfield 15, 3) := by decide +kernel
theorem dX5_take_23 : decode cX5_take 23 = .ok (.aload_n 0, 1) := by decide +kernel
theorem dX5_take_24 : decode cX5_take 24 = .ok (.iconst 0, 1) := by decide +kernel
theorem dX5_take_25 : decode cX5_take 25 = .ok (.putfield 23, 3) := by decide +kernel
theorem dX5_take_28 : decode cX5_take 28 = .ok (.aload_n 0, 1) := by decide +kernel
theorem dX5_take_29 : decode cX5_take 29 = .ok (.lconst 0, 1) := by decide +kernel
theorem dX5_take_30 : decode cX5_take 30 = .ok (.putfield 19, 3) := by decide +kernel
theorem dX5_take_33 : decode cX5_take 33 = .ok (.iconst 0, 1) := by decide +kernel
theorem dX5_take_34 : decode cX5_take 34 = .ok (.istore_n 2, 1) := by decide +kernel
theorem dX5_take_35 : decode cX5_take 35 = .ok (.iload_n 2, 1) := by decide +kernel
theorem dX5_take_36 : decode cX5_take 36 = .ok (.aload_n 0, 1) := by decide +kernel
theorem dX5_take_37 : decode cX5_take 37 = .ok (.getfield 15, 3) := by decide +kernel
theorem dX5_take_40 : decode cX5_take 40 = .ok (.if_icmp .ge 50, 3) := by decide +kernel
theorem dX5_take_43 : decode cX5_take 43 = .ok (.aload_n 0, 1) := by decide +kernel
theorem dX5_take_44 : decode cX5_take 44 = .ok (.aload_n 0, 1) := by decide +kernel
theorem dX5_take_45 : decode cX5_take 45 = .ok (.getfield 9, 3) := by decide +kernel
theorem dX5_take_48 : decode cX5_take 48 = .ok (.iload_n 2, 1) := by decide +kernel
theorem dX5_take_49 : decode cX5_take 49 = .ok (.iaload, 1) := by decide +kernel
theorem dX5_take_50 : decode cX5_take 50 = .ok (.bipush 58, 2) := by decide +kernel
theorem dX5_take_52 : decode cX5_take 52 = .ok (.if_icmp .ne 7, 3) := by decide +kernel
theorem dX5_take_55 : decode cX5_take 55 = .ok (.iload_n 2, 1) := by decide +kernel
theorem dX5_take_56 : decode cX5_take 56 = .ok (.goto 7, 3) := by decide +kernel
theorem dX5_take_59 : decode cX5_take 59 = .ok (.aload_n 0, 1) := by decide +kernel
theorem dX5_take_60 : decode cX5_take 60 = .ok (.getfield 23, 3) := by decide +kernel
theorem dX5_take_63 : decode cX5_take 63 = .ok (.putfield 23, 3) := by decide +kernel
theorem dX5_take_66 : decode cX5_take 66 = .ok (.aload_n 0, 1) := by decide +kernel
theorem dX5_take_67 : decode cX5_take 67 = .ok (.dup, 1) := by decide +kernel
theorem dX5_take_68 : decode cX5_take 68 = .ok (.getfield 19, 3) := by decide +kernel
theorem dX5_take_71 : decode cX5_take 71 = .ok (.aload_n 0, 1) := by decide +kernel
theorem dX5_take_72 : decode cX5_take 72 = .ok (.getfield 9, 3) := by decide +kernel
theorem dX5_take_75 : decode cX5_take 75 = .ok (.iload_n 2, 1) := by decide +kernel
theorem dX5_take_76 : decode cX5_take 76 = .ok (.iaload, 1) := by decide +kernel
theorem dX5_take_77 : decode cX5_take 77 = .ok (.invokestatic 34, 3) := by decide +kernel
theorem dX5_take_80 : decode cX5_take 80 = .ok (.lor, 1) := by decide +kernel
theorem dX5_take_81 : decode cX5_take 81 = .ok (.putfield 19, 3) := by decide +kernel
theorem dX5_take_84 : decode cX5_take 84 = .ok (.iinc 2 1, 3) := by decide +kernel
theorem dX5_take_87 : decode cX5_take 87 = .ok (.goto (-52), 3) := by decide +kernel
theorem dX5_take_90 : decode cX5_take 90 = .ok (.return_, 1) := by decide +kernel
theorem dX5_deniedAhead_0 : decode cX5_deniedAhead 0 = .ok (.aload_n 0, 1) := by decide +kernel
theorem dX5_deniedAhead_1 : decode cX5_deniedAhead 1 = .ok (.iconst 0, 1) := by decide +kernel
theorem dX5_deniedAhead_2 : decode cX5_deniedAhead 2 = .ok (.aload_n 0, 1) := by decide +kernel
theorem dX5_deniedAhead_3 : decode cX5_deniedAhead 3 = .ok (.getfield 23, 3) := by decide +kernel
theorem dX5_deniedAhead_6 : decode cX5_deniedAhead 6 = .ok (.iload_n 1, 1) := by decide +kernel
theorem dX5_deniedAhead_7 : decode cX5_deniedAhead 7 = .ok (.invokevirtual 52, 3) := by decide +kernel
theorem dX5_deniedAhead_10 : decode cX5_deniedAhead 10 = .ok (.ireturn, 1) := by decide +kernel
theorem dX5_deniedBehind_0 : decode cX5_deniedBehind 0 = .ok (.aload_n 0, 1) := by decide +kernel
theorem dX5_deniedBehind_1 : decode cX5_deniedBehind 1 = .ok (.aload_n 0, 1) := by decide +kernel
theorem dX5_deniedBehind_2 : decode cX5_deniedBehind 2 = .ok (.getfield 23, 3) := by decide +kernel
theorem dX5_deniedBehind_5 : decode cX5_deniedBehind 5 = .ok (.iconst 1, 1) := by decide +kernel
theorem dX5_deniedBehind_6 : decode cX5_deniedBehind 6 = .ok (.iadd, 1) := by decide +kernel
theorem dX5_deniedBehind_7 : decode cX5_deniedBehind 7 = .ok (.aload_n 0, 1) := by decide +kernel
theorem dX5_deniedBehind_8 : decode cX5_deniedBehind 8 = .ok (.getfield 15, 3) := by decide +kernel
theorem dX5_deniedBehind_11 : decode cX5_deniedBehind 11 = .ok (.iload_n 1, 1) := by decide +kernel
theorem dX5_deniedBehind_12 : decode cX5_deniedBehind 12 = .ok (.invokevirtual 52, 3) := by decide +kernel
theorem dX5_deniedBehind_15 : decode cX5_deniedBehind 15 = .ok (.ireturn, 1) := by decide +kernel
theorem dX5_deniedFrom_0 : decode cX5_deniedFrom 0 = .ok (.iconst 0, 1) := by decide +kernel
theorem dX5_deniedFrom_1 : decode cX5_deniedFrom 1 = .ok (.istore 4, 2) := by decide +kernel
theorem dX5_deniedFrom_3 : decode cX5_deniedFrom 3 = .ok (.iload_n 1, 1) := by decide +kernel
theorem dX5_deniedFrom_4 : decode cX5_deniedFrom 4 = .ok (.istore 5, 2) := by decide +kernel
theorem dX5_deniedFrom_6 : decode cX5_deniedFrom 6 = .ok (.iload 5, 2) := by decide +kernel
theorem dX5_deniedFrom_8 : decode cX5_deniedFrom 8 = .ok (.iconst 2, 1) := by decide +kernel
theorem dX5_deniedFrom_9 : decode cX5_deniedFrom 9 = .ok (.iadd, 1) := by decide +kernel
theorem dX5_deniedFrom_10 : decode cX5_deniedFrom 10 = .ok (.iload_n 2, 1) := by decide +kernel
theorem dX5_deniedFrom_11 : decode cX5_deniedFrom 11 = .ok (.if_icmp .ge 92, 3) := by decide +kernel
theorem dX5_deniedFrom_14 : decode cX5_deniedFrom 14 = .ok (.aload_n 0, 1) := by decide +kernel
theorem dX5_deniedFrom_15 : decode cX5_deniedFrom 15 = .ok (.getfield 9, 3) := by decide +kernel
theorem dX5_deniedFrom_18 : decode cX5_deniedFrom 18 = .ok (.iload 5, 2) := by decide +kernel
theorem dX5_deniedFrom_20 : decode cX5_deniedFrom 20 = .ok (.iaload, 1) := by decide +kernel
theorem dX5_deniedFrom_21 : decode cX5_deniedFrom 21 = .ok (.invokestatic 30, 3) := by decide +kernel
theorem dX5_deniedFrom_24 : decode cX5_deniedFrom 24 = .ok (.ifCond .eq 53, 3) := by decide +kernel
theorem dX5_deniedFrom_27 : decode cX5_deniedFrom 27 = .ok (.iload_n 3, 1) := by decide +kernel
theorem dX5_deniedFrom_28 : decode cX5_deniedFrom 28 = .ok (.aload_n 0, 1) := by decide +kernel
theorem dX5_deniedFrom_29 : decode cX5_deniedFrom 29 = .ok (.getfield 9, 3) := by decide +kernel
theorem dX5_deniedFrom_32 : decode cX5_deniedFrom 32 = .ok (.iload 5, 2) := by decide +kernel
theorem dX5_deniedFrom_34 : decode cX5_deniedFrom 34 = .ok (.iaload, 1) := by decide +kernel
theorem dX5_deniedFrom_35 : decode cX5_deniedFrom 35 = .ok (.bipush 97, 2) := by decide +kernel
theorem dX5_deniedFrom_37 : decode cX5_deniedFrom 37 = .ok (.isub, 1) := by decide +kernel
theorem dX5_deniedFrom_38 : decode cX5_deniedFrom 38 = .ok (.invokestatic 56, 3) := by decide +kernel
theorem dX5_deniedFrom_41 : decode cX5_deniedFrom 41 = .ok (.istore 6, 2) := by decide +kernel
theorem dX5_deniedFrom_43 : decode cX5_deniedFrom 43 = .ok (.iload 4, 2) := by decide +kernel
theorem dX5_deniedFrom_45 : decode cX5_deniedFrom 45 = .ok (.aload_n 0, 1) := by decide +kernel
theorem dX5_deniedFrom_46 : decode cX5_deniedFrom 46 = .ok (.getfield 9, 3) := by decide +kernel
theorem dX5_deniedFrom_49 : decode cX5_deniedFrom 49 = .ok (.iload 5, 2) := by decide +kernel
theorem dX5_deniedFrom_51 : decode cX5_deniedFrom 51 = .ok (.iconst 1, 1) := by decide +kernel
theorem dX5_deniedFrom_52 : decode cX5_deniedFrom 52 = .ok (.iadd, 1) := by decide +kernel
theorem dX5_deniedFrom_53 : decode cX5_deniedFrom 53 = .ok (.iaload, 1) := by decide +kernel
theorem dX5_deniedFrom_54 : decode cX5_deniedFrom 54 = .ok (.iload 6, 2) := by decide +kernel
theorem dX5_deniedFrom_56 : decode cX5_deniedFrom 56 = .ok (.invokestatic 60, 3) := by decide +kernel
theorem dX5_deniedFrom_59 : decode cX5_deniedFrom 59 = .ok (.iconst 4, 1) := by decide +kernel
theorem dX5_deniedFrom_60 : decode cX5_deniedFrom 60 = .ok (.aload_n 0, 1) := by decide +kernel
theorem dX5_deniedFrom_61 : decode cX5_deniedFrom 61 = .ok (.getfield 9, 3) := by decide +kernel
theorem dX5_deniedFrom_64 : decode cX5_deniedFrom 64 = .ok (.iload 5, 2) := by decide +kernel
theorem dX5_deniedFrom_66 : decode cX5_deniedFrom 66 = .ok (.iconst 2, 1) := by decide +kernel
theorem dX5_deniedFrom_67 : decode cX5_deniedFrom 67 = .ok (.iadd, 1) := by decide +kernel
theorem dX5_deniedFrom_68 : decode cX5_deniedFrom 68 = .ok (.iaload, 1) := by decide +kernel
theorem dX5_deniedFrom_69 : decode cX5_deniedFrom 69 = .ok (.bipush 97, 2) := by decide +kernel
theorem dX5_deniedFrom_71 : decode cX5_deniedFrom 71 = .ok (.isub, 1) := by decide +kernel
theorem dX5_deniedFrom_72 : decode cX5_deniedFrom 72 = .ok (.imul, 1) := by decide +kernel
theorem dX5_deniedFrom_73 : decode cX5_deniedFrom 73 = .ok (.ishl, 1) := by decide +kernel
theorem dX5_deniedFrom_74 : decode cX5_deniedFrom 74 = .ok (.ior, 1) := by decide +kernel
theorem dX5_deniedFrom_75 : decode cX5_deniedFrom 75 = .ok (.istore 4, 2) := by decide +kernel
theorem dX5_deniedFrom_77 : decode cX5_deniedFrom 77 = .ok (.iload 5, 2) := by decide +kernel
theorem dX5_deniedFrom_79 : decode cX5_deniedFrom 79 = .ok (.aload_n 0, 1) := by decide +kernel
theorem dX5_deniedFrom_80 : decode cX5_deniedFrom 80 = .ok (.getfield 9, 3) := by decide +kernel
theorem dX5_deniedFrom_83 : decode cX5_deniedFrom 83 = .ok (.iload 5, 2) := by decide +kernel
theorem dX5_deniedFrom_85 : decode cX5_deniedFrom 85 = .ok (.iaload, 1) := by decide +kernel
theorem dX5_deniedFrom_86 : decode cX5_deniedFrom 86 = .ok (.invokestatic 30, 3) := by decide +kernel
theorem dX5_deniedFrom_89 : decode cX5_deniedFrom 89 = .ok (.ifCond .eq 7, 3) := by decide +kernel
theorem dX5_deniedFrom_92 : decode cX5_deniedFrom 92 = .ok (.iconst 4, 1) := by decide +kernel
theorem dX5_deniedFrom_93 : decode cX5_deniedFrom 93 = .ok (.goto 4, 3) := by decide +kernel
theorem dX5_deniedFrom_96 : decode cX5_deniedFrom 96 = .ok (.iconst 2, 1) := by decide +kernel
theorem dX5_deniedFrom_97 : decode cX5_deniedFrom 97 = .ok (.iadd, 1) := by decide +kernel
theorem dX5_deniedFrom_98 : decode cX5_deniedFrom 98 = .ok (.istore 5, 2) := by decide +kernel
theorem dX5_deniedFrom_100 : decode cX5_deniedFrom 100 = .ok (.goto (-94), 3) := by decide +kernel
theorem dX5_deniedFrom_103 : decode cX5_deniedFrom 103 = .ok (.iload 4, 2) := by decide +kernel
theorem dX5_deniedFrom_105 : decode cX5_deniedFrom 105 = .ok (.ireturn, 1) := by decide +kernel
theorem dX5_deniedBy_0 : decode cX5_deniedBy 0 = .ok (.iconst 1, 1) := by decide +kernel
theorem dX5_deniedBy_1 : decode cX5_deniedBy 1 = .ok (.iload_n 1, 1) := by decide +kernel
theorem dX5_deniedBy_2 : decode cX5_deniedBy 2 = .ok (.ishl, 1) := by decide +kernel
theorem dX5_deniedBy_3 : decode cX5_deniedBy 3 = .ok (.iconst 1, 1) := by decide +kernel
theorem dX5_deniedBy_4 : decode cX5_deniedBy 4 = .ok (.isub, 1) := by decide +kernel
theorem dX5_deniedBy_5 : decode cX5_deniedBy 5 = .ok (.istore_n 2, 1) := by decide +kernel
theorem dX5_deniedBy_6 : decode cX5_deniedBy 6 = .ok (.iconst 1, 1) := by decide +kernel
theorem dX5_deniedBy_7 : decode cX5_deniedBy 7 = .ok (.iload_n 1, 1) := by decide +kernel
theorem dX5_deniedBy_8 : decode cX5_deniedBy 8 = .ok (.ishl, 1) := by decide +kernel
theorem dX5_deniedBy_9 : decode cX5_deniedBy 9 = .ok (.istore_n 3, 1) := by decide +kernel
theorem dX5_deniedBy_10 : decode cX5_deniedBy 10 = .ok (.iload_n 0, 1) := by decide +kernel
theorem dX5_deniedBy_11 : decode cX5_deniedBy 11 = .ok (.tableswitch 43 60 62 #[32, 25, 36], 25) := by decide +kernel
theorem dX5_deniedBy_36 : decode cX5_deniedBy 36 = .ok (.bipush 15, 2) := by decide +kernel
theorem dX5_deniedBy_38 : decode cX5_deniedBy 38 = .ok (.iload_n 3, 1) := by decide +kernel
theorem dX5_deniedBy_39 : decode cX5_deniedBy 39 = .ok (.iconst (-1), 1) := by decide +kernel
theorem dX5_deniedBy_40 : decode cX5_deniedBy 40 = .ok (.ixor, 1) := by decide +kernel
theorem dX5_deniedBy_41 : decode cX5_deniedBy 41 = .ok (.iand, 1) := by decide +kernel
theorem dX5_deniedBy_42 : decode cX5_deniedBy 42 = .ok (.ireturn, 1) := by decide +kernel
theorem dX5_deniedBy_43 : decode cX5_deniedBy 43 = .ok (.iload_n 2, 1) := by decide +kernel
theorem dX5_deniedBy_44 : decode cX5_deniedBy 44 = .ok (.iload_n 3, 1) := by decide +kernel
theorem dX5_deniedBy_45 : decode cX5_deniedBy 45 = .ok (.ior, 1) := by decide +kernel
theorem dX5_deniedBy_46 : decode cX5_deniedBy 46 = .ok (.ireturn, 1) := by decide +kernel
theorem dX5_deniedBy_47 : decode cX5_deniedBy 47 = .ok (.bipush 15, 2) := by decide +kernel
theorem dX5_deniedBy_49 : decode cX5_deniedBy 49 = .ok (.iload_n 2, 1) := by decide +kernel
theorem dX5_deniedBy_50 : decode cX5_deniedBy 50 = .ok (.iconst (-1), 1) := by decide +kernel
theorem dX5_deniedBy_51 : decode cX5_deniedBy 51 = .ok (.ixor, 1) := by decide +kernel
theorem dX5_deniedBy_52 : decode cX5_deniedBy 52 = .ok (.iand, 1) := by decide +kernel
theorem dX5_deniedBy_53 : decode cX5_deniedBy 53 = .ok (.ireturn, 1) := by decide +kernel
theorem dX5_deniedBy_54 : decode cX5_deniedBy 54 = .ok (.iload_n 3, 1) := by decide +kernel
theorem dX5_deniedBy_55 : decode cX5_deniedBy 55 = .ok (.ireturn, 1) := by decide +kernel
theorem dX6_init_0 : decode cX6_init 0 = .ok (.aload_n 0, 1) := by decide +kernel
theorem dX6_init_1 : decode cX6_init 1 = .ok (.invokespecial 3, 3) := by decide +kernel
theorem dX6_init_4 : decode cX6_init 4 = .ok (.aload_n 0, 1) := by decide +kernel
theorem dX6_init_5 : decode cX6_init 5 = .ok (.aload_n 1, 1) := by decide +kernel
theorem dX6_init_6 : decode cX6_init 6 = .ok (.putfield 9, 3) := by decide +kernel
theorem dX6_init_9 : decode cX6_init 9 = .ok (.aload_n 0, 1) := by decide +kernel
theorem dX6_init_10 : decode cX6_init 10 = .ok (.sipush 256, 3) := by decide +kernel
theorem dX6_init_13 : decode cX6_init 13 = .ok (.newarray .int, 2) := by decide +kernel
theorem dX6_init_15 : decode cX6_init 15 = .ok (.putfield 15, 3) := by decide +kernel
theorem dX6_init_18 : decode cX6_init 18 = .ok (.aload_n 0, 1) := by decide +kernel
theorem dX6_init_19 : decode cX6_init 19 = .ok (.sipush 256, 3) := by decide +kernel
theorem dX6_init_22 : decode cX6_init 22 = .ok (.newarray .long, 2) := by decide +kernel
theorem dX6_init_24 : decode cX6_init 24 = .ok (.putfield 19, 3) := by decide +kernel
theorem dX6_init_27 : decode cX6_init 27 = .ok (.return_, 1) := by decide +kernel
theorem dX6_fewest_0 : decode cX6_fewest 0 = .ok (.aload_n 2, 1) := by decide +kernel
theorem dX6_fewest_1 : decode cX6_fewest 1 = .ok (.invokevirtual 23, 3) := by decide +kernel
theorem dX6_fewest_4 : decode cX6_fewest 4 = .ok (.istore_n 3, 1) := by decide +kernel
end
section
theorem dX6_fewest_5 : decode cX6_fewest 5 = .ok (.iconst 1, 1) := by decide +kernel
theorem dX6_fewest_6 : decode cX6_fewest 6 = .ok (.iload_n 3, 1) := by decide +kernel
theorem dX6_fewest_7 : decode cX6_fewest 7 = .ok (.invokestatic 29, 3) := by decide +kernel
theorem dX6_fewest_10 : decode cX6_fewest 10 = .ok (.ishl, 1) := by decide +kernel
theorem dX6_fewest_11 : decode cX6_fewest 11 = .ok (.istore 4, 2) := by decide +kernel
theorem dX6_fewest_13 : decode cX6_fewest 13 = .ok (.aload_n 2, 1) := by decide +kernel
theorem dX6_fewest_14 : decode cX6_fewest 14 = .ok (.invokevirtual 35, 3) := by decide +kernel
theorem dX6_fewest_17 : decode cX6_fewest 17 = .ok (.aload_n 0, 1) := by decide +kernel
theorem dX6_fewest_18 : decode cX6_fewest 18 = .ok (.aload_n 1, 1) := by decide +kernel
theorem dX6_fewest_19 : decode cX6_fewest 19 = .ok (.aload_n 2, 1) := by decide +kernel
theorem dX6_fewest_20 : decode cX6_fewest 20 = .ok (.invokevirtual 38, 3) := by decide +kernel
theorem dX6_fewest_23 : decode cX6_fewest 23 = .ok (.ifCond .ne 6, 3) := by decide +kernel
theorem dX6_fewest_26 : decode cX6_fewest 26 = .ok (.bipush (-6), 2) := by decide +kernel
theorem dX6_fewest_28 : decode cX6_fewest 28 = .ok (.ireturn, 1) := by decide +kernel
theorem dX6_fewest_29 : decode cX6_fewest 29 = .ok (.aload_n 1, 1) := by decide +kernel
theorem dX6_fewest_30 : decode cX6_fewest 30 = .ok (.getfield 42, 3) := by decide +kernel
theorem dX6_fewest_33 : decode cX6_fewest 33 = .ok (.ldc2_w 48, 3) := by decide +kernel
theorem dX6_fewest_36 : decode cX6_fewest 36 = .ok (.land, 1) := by decide +kernel
theorem dX6_fewest_37 : decode cX6_fewest 37 = .ok (.lconst 0, 1) := by decide +kernel
theorem dX6_fewest_38 : decode cX6_fewest 38 = .ok (.lcmp, 1) := by decide +kernel
theorem dX6_fewest_39 : decode cX6_fewest 39 = .ok (.ifCond .ne 5, 3) := by decide +kernel
theorem dX6_fewest_42 : decode cX6_fewest 42 = .ok (.iconst 0, 1) := by decide +kernel
theorem dX6_fewest_43 : decode cX6_fewest 43 = .ok (.ireturn, 1) := by decide +kernel
theorem dX6_fewest_44 : decode cX6_fewest 44 = .ok (.bipush (-6), 2) := by decide +kernel
theorem dX6_fewest_46 : decode cX6_fewest 46 = .ok (.istore 5, 2) := by decide +kernel
theorem dX6_fewest_48 : decode cX6_fewest 48 = .ok (.iconst 0, 1) := by decide +kernel
theorem dX6_fewest_49 : decode cX6_fewest 49 = .ok (.istore 6, 2) := by decide +kernel
theorem dX6_fewest_51 : decode cX6_fewest 51 = .ok (.iconst 0, 1) := by decide +kernel
theorem dX6_fewest_52 : decode cX6_fewest 52 = .ok (.istore 7, 2) := by decide +kernel
theorem dX6_fewest_54 : decode cX6_fewest 54 = .ok (.iload 7, 2) := by decide +kernel
theorem dX6_fewest_56 : decode cX6_fewest 56 = .ok (.iload 4, 2) := by decide +kernel
theorem dX6_fewest_58 : decode cX6_fewest 58 = .ok (.if_icmp .ge 68, 3) := by decide +kernel
theorem dX6_fewest_61 : decode cX6_fewest 61 = .ok (.iload 5, 2) := by decide +kernel
theorem dX6_fewest_63 : decode cX6_fewest 63 = .ok (.bipush (-6), 2) := by decide +kernel
theorem dX6_fewest_65 : decode cX6_fewest 65 = .ok (.if_icmp .eq 16, 3) := by decide +kernel
theorem dX6_fewest_68 : decode cX6_fewest 68 = .ok (.iload 6, 2) := by decide +kernel
theorem dX6_fewest_70 : decode cX6_fewest 70 = .ok (.invokestatic 29, 3) := by decide +kernel
theorem dX6_fewest_73 : decode cX6_fewest 73 = .ok (.iload 5, 2) := by decide +kernel
theorem dX6_fewest_75 : decode cX6_fewest 75 = .ok (.invokestatic 29, 3) := by decide +kernel
theorem dX6_fewest_78 : decode cX6_fewest 78 = .ok (.if_icmp .ge 7, 3) := by decide +kernel
theorem dX6_fewest_81 : decode cX6_fewest 81 = .ok (.iconst 1, 1) := by decide +kernel
theorem dX6_fewest_82 : decode cX6_fewest 82 = .ok (.goto 4, 3) := by decide +kernel
theorem dX6_fewest_85 : decode cX6_fewest 85 = .ok (.iconst 0, 1) := by decide +kernel
theorem dX6_fewest_86 : decode cX6_fewest 86 = .ok (.istore 8, 2) := by decide +kernel
theorem dX6_fewest_88 : decode cX6_fewest 88 = .ok (.iload 8, 2) := by decide +kernel
theorem dX6_fewest_90 : decode cX6_fewest 90 = .ok (.ifCond .eq 22, 3) := by decide +kernel
theorem dX6_fewest_93 : decode cX6_fewest 93 = .ok (.aload_n 0, 1) := by decide +kernel
theorem dX6_fewest_94 : decode cX6_fewest 94 = .ok (.aload_n 2, 1) := by decide +kernel
theorem dX6_fewest_95 : decode cX6_fewest 95 = .ok (.aload_n 2, 1) := by decide +kernel
theorem dX6_fewest_96 : decode cX6_fewest 96 = .ok (.getfield 50, 3) := by decide +kernel
theorem dX6_fewest_99 : decode cX6_fewest 99 = .ok (.iload 6, 2) := by decide +kernel
theorem dX6_fewest_101 : decode cX6_fewest 101 = .ok (.ior, 1) := by decide +kernel
theorem dX6_fewest_102 : decode cX6_fewest 102 = .ok (.invokevirtual 54, 3) := by decide +kernel
theorem dX6_fewest_105 : decode cX6_fewest 105 = .ok (.ifCond .eq 7, 3) := by decide +kernel
theorem dX6_fewest_108 : decode cX6_fewest 108 = .ok (.iload 6, 2) := by decide +kernel
theorem dX6_fewest_110 : decode cX6_fewest 110 = .ok (.istore 5, 2) := by decide +kernel
theorem dX6_fewest_112 : decode cX6_fewest 112 = .ok (.iload 6, 2) := by decide +kernel
theorem dX6_fewest_114 : decode cX6_fewest 114 = .ok (.iload_n 3, 1) := by decide +kernel
theorem dX6_fewest_115 : decode cX6_fewest 115 = .ok (.isub, 1) := by decide +kernel
theorem dX6_fewest_116 : decode cX6_fewest 116 = .ok (.iload_n 3, 1) := by decide +kernel
theorem dX6_fewest_117 : decode cX6_fewest 117 = .ok (.iand, 1) := by decide +kernel
theorem dX6_fewest_118 : decode cX6_fewest 118 = .ok (.istore 6, 2) := by decide +kernel
theorem dX6_fewest_120 : decode cX6_fewest 120 = .ok (.iinc 7 1, 3) := by decide +kernel
theorem dX6_fewest_123 : decode cX6_fewest 123 = .ok (.goto (-69), 3) := by decide +kernel
theorem dX6_fewest_126 : decode cX6_fewest 126 = .ok (.iload 5, 2) := by decide +kernel
theorem dX6_fewest_128 : decode cX6_fewest 128 = .ok (.ireturn, 1) := by decide +kernel
theorem dX6_joinAll_0 : decode cX6_joinAll 0 = .ok (.iconst 0, 1) := by decide +kernel
theorem dX6_joinAll_1 : decode cX6_joinAll 1 = .ok (.istore_n 3, 1) := by decide +kernel
theorem dX6_joinAll_2 : decode cX6_joinAll 2 = .ok (.iload_n 3, 1) := by decide +kernel
theorem dX6_joinAll_3 : decode cX6_joinAll 3 = .ok (.sipush 256, 3) := by decide +kernel
theorem dX6_joinAll_6 : decode cX6_joinAll 6 = .ok (.if_icmp .ge 16, 3) := by decide +kernel
theorem dX6_joinAll_9 : decode cX6_joinAll 9 = .ok (.aload_n 0, 1) := by decide +kernel
theorem dX6_joinAll_10 : decode cX6_joinAll 10 = .ok (.getfield 15, 3) := by decide +kernel
theorem dX6_joinAll_13 : decode cX6_joinAll 13 = .ok (.iload_n 3, 1) := by decide +kernel
theorem dX6_joinAll_14 : decode cX6_joinAll 14 = .ok (.iload_n 3, 1) := by decide +kernel
theorem dX6_joinAll_15 : decode cX6_joinAll 15 = .ok (.iastore, 1) := by decide +kernel
theorem dX6_joinAll_16 : decode cX6_joinAll 16 = .ok (.iinc 3 1, 3) := by decide +kernel
theorem dX6_joinAll_19 : decode cX6_joinAll 19 = .ok (.goto (-17), 3) := by decide +kernel
theorem dX6_joinAll_22 : decode cX6_joinAll 22 = .ok (.iconst 0, 1) := by decide +kernel
theorem dX6_joinAll_23 : decode cX6_joinAll 23 = .ok (.istore_n 3, 1) := by decide +kernel
theorem dX6_joinAll_24 : decode cX6_joinAll 24 = .ok (.iload_n 3, 1) := by decide +kernel
theorem dX6_joinAll_25 : decode cX6_joinAll 25 = .ok (.sipush 256, 3) := by decide +kernel
theorem dX6_joinAll_28 : decode cX6_joinAll 28 = .ok (.if_icmp .ge 45, 3) := by decide +kernel
theorem dX6_joinAll_31 : decode cX6_joinAll 31 = .ok (.aload_n 0, 1) := by decide +kernel
theorem dX6_joinAll_32 : decode cX6_joinAll 32 = .ok (.getfield 9, 3) := by decide +kernel
theorem dX6_joinAll_35 : decode cX6_joinAll 35 = .ok (.aload_n 1, 1) := by decide +kernel
theorem dX6_joinAll_36 : decode cX6_joinAll 36 = .ok (.aload_n 2, 1) := by decide +kernel
theorem dX6_joinAll_37 : decode cX6_joinAll 37 = .ok (.iload_n 3, 1) := by decide +kernel
theorem dX6_joinAll_38 : decode cX6_joinAll 38 = .ok (.invokevirtual 58, 3) := by decide +kernel
theorem dX6_joinAll_41 : decode cX6_joinAll 41 = .ok (.aload_n 0, 1) := by decide +kernel
theorem dX6_joinAll_42 : decode cX6_joinAll 42 = .ok (.getfield 9, 3) := by decide +kernel
theorem dX6_joinAll_45 : decode cX6_joinAll 45 = .ok (.dup, 1) := by decide +kernel
theorem dX6_joinAll_46 : decode cX6_joinAll 46 = .ok (.getfield 64, 3) := by decide +kernel
theorem dX6_joinAll_49 : decode cX6_joinAll 49 = .ok (.ldc2_w 65, 3) := by decide +kernel
theorem dX6_joinAll_52 : decode cX6_joinAll 52 = .ok (.land, 1) := by decide +kernel
theorem dX6_joinAll_53 : decode cX6_joinAll 53 = .ok (.putfield 64, 3) := by decide +kernel
theorem dX6_joinAll_56 : decode cX6_joinAll 56 = .ok (.aload_n 0, 1) := by decide +kernel
theorem dX6_joinAll_57 : decode cX6_joinAll 57 = .ok (.aload_n 2, 1) := by decide +kernel
theorem dX6_joinAll_58 : decode cX6_joinAll 58 = .ok (.iload_n 3, 1) := by decide +kernel
theorem dX6_joinAll_59 : decode cX6_joinAll 59 = .ok (.invokevirtual 67, 3) := by decide +kernel
theorem dX6_joinAll_62 : decode cX6_joinAll 62 = .ok (.ifCond .ne 5, 3) := by decide +kernel
theorem dX6_joinAll_65 : decode cX6_joinAll 65 = .ok (.iconst 0, 1) := by decide +kernel
theorem dX6_joinAll_66 : decode cX6_joinAll 66 = .ok (.ireturn, 1) := by decide +kernel
theorem dX6_joinAll_67 : decode cX6_joinAll 67 = .ok (.iinc 3 1, 3) := by decide +kernel
theorem dX6_joinAll_70 : decode cX6_joinAll 70 = .ok (.goto (-46), 3) := by decide +kernel
theorem dX6_joinAll_73 : decode cX6_joinAll 73 = .ok (.iconst 1, 1) := by decide +kernel
theorem dX6_joinAll_74 : decode cX6_joinAll 74 = .ok (.ireturn, 1) := by decide +kernel
theorem dX6_joinStart_0 : decode cX6_joinStart 0 = .ok (.iconst 0, 1) := by decide +kernel
theorem dX6_joinStart_1 : decode cX6_joinStart 1 = .ok (.istore_n 3, 1) := by decide +kernel
theorem dX6_joinStart_2 : decode cX6_joinStart 2 = .ok (.iload_n 3, 1) := by decide +kernel
theorem dX6_joinStart_3 : decode cX6_joinStart 3 = .ok (.sipush 256, 3) := by decide +kernel
theorem dX6_joinStart_6 : decode cX6_joinStart 6 = .ok (.if_icmp .ge 43, 3) := by decide +kernel
theorem dX6_joinStart_9 : decode cX6_joinStart 9 = .ok (.aload_n 0, 1) := by decide +kernel
theorem dX6_joinStart_10 : decode cX6_joinStart 10 = .ok (.getfield 9, 3) := by decide +kernel
theorem dX6_joinStart_13 : decode cX6_joinStart 13 = .ok (.iload_n 3, 1) := by decide +kernel
theorem dX6_joinStart_14 : decode cX6_joinStart 14 = .ok (.invokevirtual 70, 3) := by decide +kernel
theorem dX6_joinStart_17 : decode cX6_joinStart 17 = .ok (.ifCond .ne 6, 3) := by decide +kernel
theorem dX6_joinStart_20 : decode cX6_joinStart 20 = .ok (.goto 23, 3) := by decide +kernel
theorem dX6_joinStart_23 : decode cX6_joinStart 23 = .ok (.aload_n 0, 1) := by decide +kernel
theorem dX6_joinStart_24 : decode cX6_joinStart 24 = .ok (.getfield 9, 3) := by decide +kernel
theorem dX6_joinStart_27 : decode cX6_joinStart 27 = .ok (.aload_n 1, 1) := by decide +kernel
theorem dX6_joinStart_28 : decode cX6_joinStart 28 = .ok (.iload_n 3, 1) := by decide +kernel
theorem dX6_joinStart_29 : decode cX6_joinStart 29 = .ok (.invokevirtual 74, 3) := by decide +kernel
theorem dX6_joinStart_32 : decode cX6_joinStart 32 = .ok (.ifCond .eq 5, 3) := by decide +kernel
theorem dX6_joinStart_35 : decode cX6_joinStart 35 = .ok (.iconst 0, 1) := by decide +kernel
theorem dX6_joinStart_36 : decode cX6_joinStart 36 = .ok (.ireturn, 1) := by decide +kernel
theorem dX6_joinStart_37 : decode cX6_joinStart 37 = .ok (.aload_n 0, 1) := by decide +kernel
theorem dX6_joinStart_38 : decode cX6_joinStart 38 = .ok (.iload_n 2, 1) := by decide +kernel
theorem dX6_joinStart_39 : decode cX6_joinStart 39 = .ok (.iload_n 3, 1) := by decide +kernel
theorem dX6_joinStart_40 : decode cX6_joinStart 40 = .ok (.invokevirtual 77, 3) := by decide +kernel
theorem dX6_joinStart_43 : decode cX6_joinStart 43 = .ok (.iinc 3 1, 3) := by decide +kernel
theorem dX6_joinStart_46 : decode cX6_joinStart 46 = .ok (.goto (-44), 3) := by decide +kernel
theorem dX6_joinStart_49 : decode cX6_joinStart 49 = .ok (.iconst 1, 1) := by decide +kernel
theorem dX6_joinStart_50 : decode cX6_joinStart 50 = .ok (.ireturn, 1) := by decide +kernel
theorem dX6_join_0 : decode cX6_join 0 = .ok (.aload_n 0, 1) := by decide +kernel
theorem dX6_join_1 : decode cX6_join 1 = .ok (.getfield 15, 3) := by decide +kernel
theorem dX6_join_4 : decode cX6_join 4 = .ok (.iload_n 1, 1) := by decide +kernel
theorem dX6_join_5 : decode cX6_join 5 = .ok (.iaload, 1) := by decide +kernel
theorem dX6_join_6 : decode cX6_join 6 = .ok (.aload_n 0, 1) := by decide +kernel
theorem dX6_join_7 : decode cX6_join 7 = .ok (.getfield 15, 3) := by decide +kernel
theorem dX6_join_10 : decode cX6_join 10 = .ok (.iload_n 2, 1) := by decide +kernel
theorem dX6_join_11 : decode cX6_join 11 = .ok (.iaload, 1) := by decide +kernel
theorem dX6_join_12 : decode cX6_join 12 = .ok (.invokestatic 81, 3) := by decide +kernel
theorem dX6_join_15 : decode cX6_join 15 = .ok (.istore_n 3, 1) := by decide +kernel
theorem dX6_join_16 : decode cX6_join 16 = .ok (.aload_n 0, 1) := by decide +kernel
theorem dX6_join_17 : decode cX6_join 17 = .ok (.getfield 15, 3) := by decide +kernel
theorem dX6_join_20 : decode cX6_join 20 = .ok (.iload_n 1, 1) := by decide +kernel
theorem dX6_join_21 : decode cX6_join 21 = .ok (.iaload, 1) := by decide +kernel
theorem dX6_join_22 : decode cX6_join 22 = .ok (.aload_n 0, 1) := by decide +kernel
theorem dX6_join_23 : decode cX6_join 23 = .ok (.getfield 15, 3) := by decide +kernel
theorem dX6_join_26 : decode cX6_join 26 = .ok (.iload_n 2, 1) := by decide +kernel
theorem dX6_join_27 : decode cX6_join 27 = .ok (.iaload, 1) := by decide +kernel
theorem dX6_join_28 : decode cX6_join 28 = .ok (.invokestatic 87, 3) := by decide +kernel
theorem dX6_join_31 : decode cX6_join 31 = .ok (.istore 4, 2) := by decide +kernel
theorem dX6_join_33 : decode cX6_join 33 = .ok (.iload_n 3, 1) := by decide +kernel
theorem dX6_join_34 : decode cX6_join 34 = .ok (.iload 4, 2) := by decide +kernel
theorem dX6_join_36 : decode cX6_join 36 = .ok (.if_icmp .ne 4, 3) := by decide +kernel
theorem dX6_join_39 : decode cX6_join 39 = .ok (.return_, 1) := by decide +kernel
theorem dX6_join_40 : decode cX6_join 40 = .ok (.iconst 0, 1) := by decide +kernel
theorem dX6_join_41 : decode cX6_join 41 = .ok (.istore 5, 2) := by decide +kernel
theorem dX6_join_43 : decode cX6_join 43 = .ok (.iload 5, 2) := by decide +kernel
theorem dX6_join_45 : decode cX6_join 45 = .ok (.sipush 256, 3) := by decide +kernel
theorem dX6_join_48 : decode cX6_join 48 = .ok (.if_icmp .ge 39, 3) := by decide +kernel
theorem dX6_join_51 : decode cX6_join 51 = .ok (.aload_n 0, 1) := by decide +kernel
theorem dX6_join_52 : decode cX6_join 52 = .ok (.getfield 15, 3) := by decide +kernel
theorem dX6_join_55 : decode cX6_join 55 = .ok (.iload 5, 2) := by decide +kernel
theorem dX6_join_57 : decode cX6_join 57 = .ok (.aload_n 0, 1) := by decide +kernel
theorem dX6_join_58 : decode cX6_join 58 = .ok (.getfield 15, 3) := by decide +kernel
theorem dX6_join_61 : decode cX6_join 61 = .ok (.iload 5, 2) := by decide +kernel
theorem dX6_join_63 : decode cX6_join 63 = .ok (.iaload, 1) := by decide +kernel
theorem dX6_join_64 : decode cX6_join 64 = .ok (.iload 4, 2) := by decide +kernel
theorem dX6_join_66 : decode cX6_join 66 = .ok (.if_icmp .ne 7, 3) := by decide +kernel
theorem dX6_join_69 : decode cX6_join 69 = .ok (.iload_n 3, 1) := by decide +kernel
theorem dX6_join_70 : decode cX6_join 70 = .ok (.goto 10, 3) := by decide +kernel
theorem dX6_join_73 : decode cX6_join 73 = .ok (.aload_n 0, 1) := by decide +kernel
theorem dX6_join_74 : decode cX6_join 74 = .ok (.getfield 15, 3) := by decide +kernel
theorem dX6_join_77 : decode cX6_join 77 = .ok (.iload 5, 2) := by decide +kernel
theorem dX6_join_79 : decode cX6_join 79 = .ok (.iaload, 1) := by decide +kernel
theorem dX6_join_80 : decode cX6_join 80 = .ok (.iastore, 1) := by decide +kernel
theorem dX6_join_81 : decode cX6_join 81 = .ok (.iinc 5 1, 3) := by decide +kernel
theorem dX6_join_84 : decode cX6_join 84 = .ok (.goto (-41), 3) := by decide +kernel
theorem dX6_join_87 : decode cX6_join 87 = .ok (.return_, 1) := by decide +kernel
theorem dX6_isAlike_0 : decode cX6_isAlike 0 = .ok (.iconst 0, 1) := by decide +kernel
theorem dX6_isAlike_1 : decode cX6_isAlike 1 = .ok (.istore_n 3, 1) := by decide +kernel
theorem dX6_isAlike_2 : decode cX6_isAlike 2 = .ok (.iload_n 3, 1) := by decide +kernel
theorem dX6_isAlike_3 : decode cX6_isAlike 3 = .ok (.sipush 256, 3) := by decide +kernel
theorem dX6_isAlike_6 : decode cX6_isAlike 6 = .ok (.if_icmp .ge 44, 3) := by decide +kernel
theorem dX6_isAlike_9 : decode cX6_isAlike 9 = .ok (.aload_n 0, 1) := by decide +kernel
theorem dX6_isAlike_10 : decode cX6_isAlike 10 = .ok (.getfield 19, 3) := by decide +kernel
theorem dX6_isAlike_13 : decode cX6_isAlike 13 = .ok (.iload_n 3, 1) := by decide +kernel
theorem dX6_isAlike_14 : decode cX6_isAlike 14 = .ok (.aload_n 1, 1) := by decide +kernel
theorem dX6_isAlike_15 : decode cX6_isAlike 15 = .ok (.iload_n 3, 1) := by decide +kernel
theorem dX6_isAlike_16 : decode cX6_isAlike 16 = .ok (.iload_n 2, 1) := by decide +kernel
theorem dX6_isAlike_17 : decode cX6_isAlike 17 = .ok (.invokevirtual 90, 3) := by decide +kernel
theorem dX6_isAlike_20 : decode cX6_isAlike 20 = .ok (.lastore, 1) := by decide +kernel
theorem dX6_isAlike_21 : decode cX6_isAlike 21 = .ok (.aload_n 0, 1) := by decide +kernel
theorem dX6_isAlike_22 : decode cX6_isAlike 22 = .ok (.getfield 19, 3) := by decide +kernel
theorem dX6_isAlike_25 : decode cX6_isAlike 25 = .ok (.iload_n 3, 1) := by decide +kernel
theorem dX6_isAlike_26 : decode cX6_isAlike 26 = .ok (.laload, 1) := by decide +kernel
theorem dX6_isAlike_27 : decode cX6_isAlike 27 = .ok (.aload_n 0, 1) := by decide +kernel
theorem dX6_isAlike_28 : decode cX6_isAlike 28 = .ok (.getfield 19, 3) := by decide +kernel
theorem dX6_isAlike_31 : decode cX6_isAlike 31 = .ok (.aload_n 0, 1) := by decide +kernel
theorem dX6_isAlike_32 : decode cX6_isAlike 32 = .ok (.getfield 15, 3) := by decide +kernel
theorem dX6_isAlike_35 : decode cX6_isAlike 35 = .ok (.iload_n 3, 1) := by decide +kernel
theorem dX6_isAlike_36 : decode cX6_isAlike 36 = .ok (.iaload, 1) := by decide +kernel
theorem dX6_isAlike_37 : decode cX6_isAlike 37 = .ok (.laload, 1) := by decide +kernel
theorem dX6_isAlike_38 : decode cX6_isAlike 38 = .ok (.lcmp, 1) := by decide +kernel
theorem dX6_isAlike_39 : decode cX6_isAlike 39 = .ok (.ifCond .eq 5, 3) := by decide +kernel
theorem dX6_isAlike_42 : decode cX6_isAlike 42 = .ok (.iconst 0, 1) := by decide +kernel
theorem dX6_isAlike_43 : decode cX6_isAlike 43 = .ok (.ireturn, 1) := by decide +kernel
theorem dX6_isAlike_44 : decode cX6_isAlike 44 = .ok (.iinc 3 1, 3) := by decide +kernel
theorem dX6_isAlike_47 : decode cX6_isAlike 47 = .ok (.goto (-45), 3) := by decide +kernel
theorem dX6_isAlike_50 : decode cX6_isAlike 50 = .ok (.iconst 1, 1) := by decide +kernel
theorem dX6_isAlike_51 : decode cX6_isAlike 51 = .ok (.ireturn, 1) := by decide +kernel
theorem dX7_init_0 : decode cX7_init 0 = .ok (.aload_n 0, 1) := by decide +kernel
theorem dX7_init_1 : decode cX7_init 1 = .ok (.invokespecial 3, 3) := by decide +kernel
theorem dX7_init_4 : decode cX7_init 4 = .ok (.aload_n 0, 1) := by decide +kernel
theorem dX7_init_5 : decode cX7_init 5 = .ok (.aload_n 1, 1) := by decide +kernel
theorem dX7_init_6 : decode cX7_init 6 = .ok (.putfield 9, 3) := by decide +kernel
theorem dX7_init_9 : decode cX7_init 9 = .ok (.aload_n 0, 1) := by decide +kernel
theorem dX7_init_10 : decode cX7_init 10 = .ok (.bipush (-6), 2) := by decide +kernel
theorem dX7_init_12 : decode cX7_init 12 = .ok (.putfield 15, 3) := by decide +kernel
theorem dX7_init_15 : decode cX7_init 15 = .ok (.aload_n 0, 1) := by decide +kernel
theorem dX7_init_16 : decode cX7_init 16 = .ok (.sipush 169, 3) := by decide +kernel
theorem dX7_init_19 : decode cX7_init 19 = .ok (.newarray .int, 2) := by decide +kernel
theorem dX7_init_21 : decode cX7_init 21 = .ok (.putfield 19, 3) := by decide +kernel
theorem dX7_init_24 : decode cX7_init 24 = .ok (.aload_n 0, 1) := by decide +kernel
theorem dX7_init_25 : decode cX7_init 25 = .ok (.sipush 169, 3) := by decide +kernel
theorem dX7_init_28 : decode cX7_init 28 = .ok (.newarray .int, 2) := by decide +kernel
theorem dX7_init_30 : decode cX7_init 30 = .ok (.putfield 23, 3) := by decide +kernel
theorem dX7_init_33 : decode cX7_init 33 = .ok (.aload_n 0, 1) := by decide +kernel
theorem dX7_init_34 : decode cX7_init 34 = .ok (.sipush 169, 3) := by decide +kernel
theorem dX7_init_37 : decode cX7_init 37 = .ok (.newarray .int, 2) := by decide +kernel
theorem dX7_init_39 : decode cX7_init 39 = .ok (.putfield 26, 3) := by decide +kernel
theorem dX7_init_42 : decode cX7_init 42 = .ok (.aload_n 0, 1) := by decide +kernel
theorem dX7_init_43 : decode cX7_init 43 = .ok (.sipush 169, 3) := by decide +kernel
theorem dX7_init_46 : decode cX7_init 46 = .ok (.newarray .int, 2) := by decide +kernel
theorem dX7_init_48 : decode cX7_init 48 = .ok (.putfield 29, 3) := by decide +kernel
theorem dX7_init_51 : decode cX7_init 51 = .ok (.aload_n 0, 1) := by decide +kernel
theorem dX7_init_52 : decode cX7_init 52 = .ok (.iconst 0, 1) := by decide +kernel
theorem dX7_init_53 : decode cX7_init 53 = .ok (.putfield 32, 3) := by decide +kernel
theorem dX7_init_56 : decode cX7_init 56 = .ok (.aload_n 0, 1) := by decide +kernel
theorem dX7_init_57 : decode cX7_init 57 = .ok (.sipush 256, 3) := by decide +kernel
theorem dX7_init_60 : decode cX7_init 60 = .ok (.newarray .int, 2) := by decide +kernel
theorem dX7_init_62 : decode cX7_init 62 = .ok (.putfield 35, 3) := by decide +kernel
theorem dX7_init_65 : decode cX7_init 65 = .ok (.aload_n 0, 1) := by decide +kernel
theorem dX7_init_66 : decode cX7_init 66 = .ok (.sipush 256, 3) := by decide +kernel
theorem dX7_init_69 : decode cX7_init 69 = .ok (.newarray .int, 2) := by decide +kernel
theorem dX7_init_71 : decode cX7_init 71 = .ok (.putfield 38, 3) := by decide +kernel
theorem dX7_init_74 : decode cX7_init 74 = .ok (.aload_n 0, 1) := by decide +kernel
theorem dX7_init_75 : decode cX7_init 75 = .ok (.iconst 0, 1) := by decide +kernel
theorem dX7_init_76 : decode cX7_init 76 = .ok (.putfield 41, 3) := by decide +kernel
theorem dX7_init_79 : decode cX7_init 79 = .ok (.aload_n 0, 1) := by decide +kernel
theorem dX7_init_80 : decode cX7_init 80 = .ok (.bipush 13, 2) := by decide +kernel
theorem dX7_init_82 : decode cX7_init 82 = .ok (.newarray .int, 2) := by decide +kernel
theorem dX7_init_84 : decode cX7_init 84 = .ok (.putfield 44, 3) := by decide +kernel
theorem dX7_init_87 : decode cX7_init 87 = .ok (.aload_n 0, 1) := by decide +kernel
theorem dX7_init_88 : decode cX7_init 88 = .ok (.getfield 23, 3) := by decide +kernel
theorem dX7_init_91 : decode cX7_init 91 = .ok (.sipush 4095, 3) := by decide +kernel
theorem dX7_init_94 : decode cX7_init 94 = .ok (.invokestatic 47, 3) := by decide +kernel
theorem dX7_init_97 : decode cX7_init 97 = .ok (.iconst 0, 1) := by decide +kernel
theorem dX7_init_98 : decode cX7_init 98 = .ok (.istore_n 2, 1) := by decide +kernel
theorem dX7_init_99 : decode cX7_init 99 = .ok (.iload_n 2, 1) := by decide +kernel
theorem dX7_init_100 : decode cX7_init 100 = .ok (.bipush 12, 2) := by decide +kernel
theorem dX7_init_102 : decode cX7_init 102 = .ok (.if_icmp .ge 33, 3) := by decide +kernel
theorem dX7_init_105 : decode cX7_init 105 = .ok (.aload_n 0, 1) := by decide +kernel
theorem dX7_init_106 : decode cX7_init 106 = .ok (.getfield 19, 3) := by decide +kernel
theorem dX7_init_109 : decode cX7_init 109 = .ok (.iload_n 2, 1) := by decide +kernel
theorem dX7_init_110 : decode cX7_init 110 = .ok (.bipush 13, 2) := by decide +kernel
theorem dX7_init_112 : decode cX7_init 112 = .ok (.imul, 1) := by decide +kernel
theorem dX7_init_113 : decode cX7_init 113 = .ok (.bipush 12, 2) := by decide +kernel
theorem dX7_init_115 : decode cX7_init 115 = .ok (.iadd, 1) := by decide +kernel
theorem dX7_init_116 : decode cX7_init 116 = .ok (.iconst 1, 1) := by decide +kernel
theorem dX7_init_117 : decode cX7_init 117 = .ok (.iastore, 1) := by decide +kernel
theorem dX7_init_118 : decode cX7_init 118 = .ok (.aload_n 0, 1) := by decide +kernel
theorem dX7_init_119 : decode cX7_init 119 = .ok (.getfield 19, 3) := by decide +kernel
theorem dX7_init_122 : decode cX7_init 122 = .ok (.sipush 156, 3) := by decide +kernel
theorem dX7_init_125 : decode cX7_init 125 = .ok (.iload_n 2, 1) := by decide +kernel
theorem dX7_init_126 : decode cX7_init 126 = .ok (.iadd, 1) := by decide +kernel
theorem dX7_init_127 : decode cX7_init 127 = .ok (.iconst 2, 1) := by decide +kernel
theorem dX7_init_128 : decode cX7_init 128 = .ok (.iastore, 1) := by decide +kernel
theorem dX7_init_129 : decode cX7_init 129 = .ok (.iinc 2 1, 3) := by decide +kernel
theorem dX7_init_132 : decode cX7_init 132 = .ok (.goto (-33), 3) := by decide +kernel
theorem dX7_init_135 : decode cX7_init 135 = .ok (.return_, 1) := by decide +kernel
theorem dX7_walkAll_0 : decode cX7_walkAll 0 = .ok (.aload_n 2, 1) := by decide +kernel
theorem dX7_walkAll_1 : decode cX7_walkAll 1 = .ok (.invokevirtual 53, 3) := by decide +kernel
theorem dX7_walkAll_4 : decode cX7_walkAll 4 = .ok (.aload_n 3, 1) := by decide +kernel
theorem dX7_walkAll_5 : decode cX7_walkAll 5 = .ok (.invokevirtual 53, 3) := by decide +kernel
theorem dX7_walkAll_8 : decode cX7_walkAll 8 = .ok (.aload_n 0, 1) := by decide +kernel
theorem dX7_walkAll_9 : decode cX7_walkAll 9 = .ok (.getfield 26, 3) := by decide +kernel
theorem dX7_walkAll_12 : decode cX7_walkAll 12 = .ok (.sipush 4095, 3) := by decide +kernel
theorem dX7_walkAll_15 : decode cX7_walkAll 15 = .ok (.invokestatic 47, 3) := by decide +kernel
theorem dX7_walkAll_18 : decode cX7_walkAll 18 = .ok (.aload_n 0, 1) := by decide +kernel
theorem dX7_walkAll_19 : decode cX7_walkAll 19 = .ok (.getfield 29, 3) := by decide +kernel
theorem dX7_walkAll_22 : decode cX7_walkAll 22 = .ok (.iconst 0, 1) := by decide +kernel
theorem dX7_walkAll_23 : decode cX7_walkAll 23 = .ok (.invokestatic 47, 3) := by decide +kernel
theorem dX7_walkAll_26 : decode cX7_walkAll 26 = .ok (.aload_n 0, 1) := by decide +kernel
theorem dX7_walkAll_27 : decode cX7_walkAll 27 = .ok (.iconst 0, 1) := by decide +kernel
theorem dX7_walkAll_28 : decode cX7_walkAll 28 = .ok (.putfield 32, 3) := by decide +kernel
theorem dX7_walkAll_31 : decode cX7_walkAll 31 = .ok (.iconst 0, 1) := by decide +kernel
theorem dX7_walkAll_32 : decode cX7_walkAll 32 = .ok (.istore 4, 2) := by decide +kernel
theorem dX7_walkAll_34 : decode cX7_walkAll 34 = .ok (.iload 4, 2) := by decide +kernel
theorem dX7_walkAll_36 : decode cX7_walkAll 36 = .ok (.sipush 256, 3) := by decide +kernel
theorem dX7_walkAll_39 : decode cX7_walkAll 39 = .ok (.if_icmp .ge 71, 3) := by decide +kernel
theorem dX7_walkAll_42 : decode cX7_walkAll 42 = .ok (.aload_n 1, 1) := by decide +kernel
theorem dX7_walkAll_43 : decode cX7_walkAll 43 = .ok (.iload 4, 2) := by decide +kernel
theorem dX7_walkAll_45 : decode cX7_walkAll 45 = .ok (.invokevirtual 58, 3) := by decide +kernel
theorem dX7_walkAll_48 : decode cX7_walkAll 48 = .ok (.istore 5, 2) := by decide +kernel
theorem dX7_walkAll_50 : decode cX7_walkAll 50 = .ok (.iconst 0, 1) := by decide +kernel
theorem dX7_walkAll_51 : decode cX7_walkAll 51 = .ok (.istore 6, 2) := by decide +kernel
theorem dX7_walkAll_53 : decode cX7_walkAll 53 = .ok (.iload 6, 2) := by decide +kernel
theorem dX7_walkAll_55 : decode cX7_walkAll 55 = .ok (.sipush 256, 3) := by decide +kernel
theorem dX7_walkAll_58 : decode cX7_walkAll 58 = .ok (.if_icmp .ge 46, 3) := by decide +kernel
theorem dX7_walkAll_61 : decode cX7_walkAll 61 = .ok (.aload_n 0, 1) := by decide +kernel
theorem dX7_walkAll_62 : decode cX7_walkAll 62 = .ok (.getfield 9, 3) := by decide +kernel
theorem dX7_walkAll_65 : decode cX7_walkAll 65 = .ok (.getfield 64, 3) := by decide +kernel
theorem dX7_walkAll_68 : decode cX7_walkAll 68 = .ok (.iload 6, 2) := by decide +kernel
theorem dX7_walkAll_70 : decode cX7_walkAll 70 = .ok (.iaload, 1) := by decide +kernel
theorem dX7_walkAll_71 : decode cX7_walkAll 71 = .ok (.iload 5, 2) := by decide +kernel
theorem dX7_walkAll_73 : decode cX7_walkAll 73 = .ok (.iand, 1) := by decide +kernel
theorem dX7_walkAll_74 : decode cX7_walkAll 74 = .ok (.ifCond .ne 24, 3) := by decide +kernel
theorem dX7_walkAll_77 : decode cX7_walkAll 77 = .ok (.aload_n 0, 1) := by decide +kernel
theorem dX7_walkAll_78 : decode cX7_walkAll 78 = .ok (.aload_n 0, 1) := by decide +kernel
theorem dX7_walkAll_79 : decode cX7_walkAll 79 = .ok (.getfield 32, 3) := by decide +kernel
theorem dX7_walkAll_82 : decode cX7_walkAll 82 = .ok (.aload_n 0, 1) := by decide +kernel
theorem dX7_walkAll_83 : decode cX7_walkAll 83 = .ok (.aload_n 2, 1) := by decide +kernel
theorem dX7_walkAll_84 : decode cX7_walkAll 84 = .ok (.iload 4, 2) := by decide +kernel
theorem dX7_walkAll_86 : decode cX7_walkAll 86 = .ok (.aload_n 3, 1) := by decide +kernel
theorem dX7_walkAll_87 : decode cX7_walkAll 87 = .ok (.iload 6, 2) := by decide +kernel
theorem dX7_walkAll_89 : decode cX7_walkAll 89 = .ok (.invokevirtual 69, 3) := by decide +kernel
theorem dX7_walkAll_92 : decode cX7_walkAll 92 = .ok (.invokestatic 73, 3) := by decide +kernel
theorem dX7_walkAll_95 : decode cX7_walkAll 95 = .ok (.putfield 32, 3) := by decide +kernel
theorem dX7_walkAll_98 : decode cX7_walkAll 98 = .ok (.iinc 6 1, 3) := by decide +kernel
theorem dX7_walkAll_101 : decode cX7_walkAll 101 = .ok (.goto (-48), 3) := by decide +kernel
theorem dX7_walkAll_104 : decode cX7_walkAll 104 = .ok (.iinc 4 1, 3) := by decide +kernel
theorem dX7_walkAll_107 : decode cX7_walkAll 107 = .ok (.goto (-73), 3) := by decide +kernel
theorem dX7_walkAll_110 : decode cX7_walkAll 110 = .ok (.return_, 1) := by decide +kernel
theorem dX7_walkPair_0 : decode cX7_walkPair 0 = .ok (.iload_n 2, 1) := by decide +kernel
theorem dX7_walkPair_1 : decode cX7_walkPair 1 = .ok (.bipush 25, 2) := by decide +kernel
theorem dX7_walkPair_3 : decode cX7_walkPair 3 = .ok (.imul, 1) := by decide +kernel
theorem dX7_walkPair_4 : decode cX7_walkPair 4 = .ok (.istore 5, 2) := by decide +kernel
theorem dX7_walkPair_6 : decode cX7_walkPair 6 = .ok (.iload 4, 2) := by decide +kernel
theorem dX7_walkPair_8 : decode cX7_walkPair 8 = .ok (.bipush 25, 2) := by decide +kernel
theorem dX7_walkPair_10 : decode cX7_walkPair 10 = .ok (.imul, 1) := by decide +kernel
theorem dX7_walkPair_11 : decode cX7_walkPair 11 = .ok (.istore 6, 2) := by decide +kernel
theorem dX7_walkPair_13 : decode cX7_walkPair 13 = .ok (.iconst 0, 1) := by decide +kernel
theorem dX7_walkPair_14 : decode cX7_walkPair 14 = .ok (.istore 7, 2) := by decide +kernel
theorem dX7_walkPair_16 : decode cX7_walkPair 16 = .ok (.iload 7, 2) := by decide +kernel
theorem dX7_walkPair_18 : decode cX7_walkPair 18 = .ok (.bipush 48, 2) := by decide +kernel
theorem dX7_walkPair_20 : decode cX7_walkPair 20 = .ok (.if_icmp .gt 82, 3) := by decide +kernel
theorem dX7_walkPair_23 : decode cX7_walkPair 23 = .ok (.aload_n 0, 1) := by decide +kernel
theorem dX7_walkPair_24 : decode cX7_walkPair 24 = .ok (.aload_n 1, 1) := by decide +kernel
theorem dX7_walkPair_25 : decode cX7_walkPair 25 = .ok (.getfield 79, 3) := by decide +kernel
theorem dX7_walkPair_28 : decode cX7_walkPair 28 = .ok (.iload 5, 2) := by decide +kernel
theorem dX7_walkPair_30 : decode cX7_walkPair 30 = .ok (.iaload, 1) := by decide +kernel
theorem dX7_walkPair_31 : decode cX7_walkPair 31 = .ok (.aload_n 3, 1) := by decide +kernel
theorem dX7_walkPair_32 : decode cX7_walkPair 32 = .ok (.getfield 79, 3) := by decide +kernel
theorem dX7_walkPair_35 : decode cX7_walkPair 35 = .ok (.iload 6, 2) := by decide +kernel
theorem dX7_walkPair_37 : decode cX7_walkPair 37 = .ok (.iaload, 1) := by decide +kernel
theorem dX7_walkPair_38 : decode cX7_walkPair 38 = .ok (.invokevirtual 82, 3) := by decide +kernel
theorem dX7_walkPair_41 : decode cX7_walkPair 41 = .ok (.istore 8, 2) := by decide +kernel
theorem dX7_walkPair_43 : decode cX7_walkPair 43 = .ok (.iload 8, 2) := by decide +kernel
theorem dX7_walkPair_45 : decode cX7_walkPair 45 = .ok (.sipush 168, 3) := by decide +kernel
theorem dX7_walkPair_48 : decode cX7_walkPair 48 = .ok (.if_icmp .ne 6, 3) := by decide +kernel
theorem dX7_walkPair_51 : decode cX7_walkPair 51 = .ok (.iload 7, 2) := by decide +kernel
theorem dX7_walkPair_53 : decode cX7_walkPair 53 = .ok (.ireturn, 1) := by decide +kernel
theorem dX7_walkPair_54 : decode cX7_walkPair 54 = .ok (.iload 5, 2) := by decide +kernel
theorem dX7_walkPair_56 : decode cX7_walkPair 56 = .ok (.aload_n 0, 1) := by decide +kernel
theorem dX7_walkPair_57 : decode cX7_walkPair 57 = .ok (.getfield 19, 3) := by decide +kernel
theorem dX7_walkPair_60 : decode cX7_walkPair 60 = .ok (.iload 8, 2) := by decide +kernel
theorem dX7_walkPair_62 : decode cX7_walkPair 62 = .ok (.iaload, 1) := by decide +kernel
theorem dX7_walkPair_63 : decode cX7_walkPair 63 = .ok (.iconst 2, 1) := by decide +kernel
theorem dX7_walkPair_64 : decode cX7_walkPair 64 = .ok (.if_icmp .ne 7, 3) := by decide +kernel
theorem dX7_walkPair_67 : decode cX7_walkPair 67 = .ok (.iconst 0, 1) := by decide +kernel
theorem dX7_walkPair_68 : decode cX7_walkPair 68 = .ok (.goto 4, 3) := by decide +kernel
theorem dX7_walkPair_71 : decode cX7_walkPair 71 = .ok (.iconst 1, 1) := by decide +kernel
theorem dX7_walkPair_72 : decode cX7_walkPair 72 = .ok (.iadd, 1) := by decide +kernel
theorem dX7_walkPair_73 : decode cX7_walkPair 73 = .ok (.istore 5, 2) := by decide +kernel
theorem dX7_walkPair_75 : decode cX7_walkPair 75 = .ok (.iload 6, 2) := by decide +kernel
theorem dX7_walkPair_77 : decode cX7_walkPair 77 = .ok (.aload_n 0, 1) := by decide +kernel
theorem dX7_walkPair_78 : decode cX7_walkPair 78 = .ok (.getfield 19, 3) := by decide +kernel
theorem dX7_walkPair_81 : decode cX7_walkPair 81 = .ok (.iload 8, 2) := by decide +kernel
theorem dX7_walkPair_83 : decode cX7_walkPair 83 = .ok (.iaload, 1) := by decide +kernel
theorem dX7_walkPair_84 : decode cX7_walkPair 84 = .ok (.iconst 1, 1) := by decide +kernel
theorem dX7_walkPair_85 : decode cX7_walkPair 85 = .ok (.if_icmp .ne 7, 3) := by decide +kernel
theorem dX7_walkPair_88 : decode cX7_walkPair 88 = .ok (.iconst 0, 1) := by decide +kernel
theorem dX7_walkPair_89 : decode cX7_walkPair 89 = .ok (.goto 4, 3) := by decide +kernel
theorem dX7_walkPair_92 : decode cX7_walkPair 92 = .ok (.iconst 1, 1) := by decide +kernel
theorem dX7_walkPair_93 : decode cX7_walkPair 93 = .ok (.iadd, 1) := by decide +kernel
theorem dX7_walkPair_94 : decode cX7_walkPair 94 = .ok (.istore 6, 2) := by decide +kernel
theorem dX7_walkPair_96 : decode cX7_walkPair 96 = .ok (.iinc 7 1, 3) := by decide +kernel
theorem dX7_walkPair_99 : decode cX7_walkPair 99 = .ok (.goto (-83), 3) := by decide +kernel
theorem dX7_walkPair_102 : decode cX7_walkPair 102 = .ok (.bipush 48, 2) := by decide +kernel
theorem dX7_walkPair_104 : decode cX7_walkPair 104 = .ok (.ireturn, 1) := by decide +kernel
theorem dX7_standAt_0 : decode cX7_standAt 0 = .ok (.iload_n 1, 1) := by decide +kernel
theorem dX7_standAt_1 : decode cX7_standAt 1 = .ok (.sipush 256, 3) := by decide +kernel
theorem dX7_standAt_4 : decode cX7_standAt 4 = .ok (.idiv, 1) := by decide +kernel
theorem dX7_standAt_5 : decode cX7_standAt 5 = .ok (.bipush 13, 2) := by decide +kernel
theorem dX7_standAt_7 : decode cX7_standAt 7 = .ok (.imul, 1) := by decide +kernel
theorem dX7_standAt_8 : decode cX7_standAt 8 = .ok (.iload_n 2, 1) := by decide +kernel
theorem dX7_standAt_9 : decode cX7_standAt 9 = .ok (.sipush 256, 3) := by decide +kernel
theorem dX7_standAt_12 : decode cX7_standAt 12 = .ok (.idiv, 1) := by decide +kernel
theorem dX7_standAt_13 : decode cX7_standAt 13 = .ok (.iadd, 1) := by decide +kernel
theorem dX7_standAt_14 : decode cX7_standAt 14 = .ok (.istore_n 3, 1) := by decide +kernel
theorem dX7_standAt_15 : decode cX7_standAt 15 = .ok (.aload_n 0, 1) := by decide +kernel
theorem dX7_standAt_16 : decode cX7_standAt 16 = .ok (.getfield 29, 3) := by decide +kernel
theorem dX7_standAt_19 : decode cX7_standAt 19 = .ok (.iload_n 3, 1) := by decide +kernel
theorem dX7_standAt_20 : decode cX7_standAt 20 = .ok (.iconst 1, 1) := by decide +kernel
theorem dX7_standAt_21 : decode cX7_standAt 21 = .ok (.iastore, 1) := by decide +kernel
theorem dX7_standAt_22 : decode cX7_standAt 22 = .ok (.aload_n 0, 1) := by decide +kernel
theorem dX7_standAt_23 : decode cX7_standAt 23 = .ok (.getfield 26, 3) := by decide +kernel
theorem dX7_standAt_26 : decode cX7_standAt 26 = .ok (.iload_n 3, 1) := by decide +kernel
theorem dX7_standAt_27 : decode cX7_standAt 27 = .ok (.dup2, 1) := by decide +kernel
theorem dX7_standAt_28 : decode cX7_standAt 28 = .ok (.iaload, 1) := by decide +kernel
theorem dX7_standAt_29 : decode cX7_standAt 29 = .ok (.aload_n 0, 1) := by decide +kernel
theorem dX7_standAt_30 : decode cX7_standAt 30 = .ok (.getfield 9, 3) := by decide +kernel
theorem dX7_standAt_33 : decode cX7_standAt 33 = .ok (.iload_n 1, 1) := by decide +kernel
theorem dX7_standAt_34 : decode cX7_standAt 34 = .ok (.iload_n 2, 1) := by decide +kernel
theorem dX7_standAt_35 : decode cX7_standAt 35 = .ok (.invokevirtual 85, 3) := by decide +kernel
theorem dX7_standAt_38 : decode cX7_standAt 38 = .ok (.iand, 1) := by decide +kernel
theorem dX7_standAt_39 : decode cX7_standAt 39 = .ok (.iastore, 1) := by decide +kernel
theorem dX7_standAt_40 : decode cX7_standAt 40 = .ok (.iload_n 3, 1) := by decide +kernel
theorem dX7_standAt_41 : decode cX7_standAt 41 = .ok (.ireturn, 1) := by decide +kernel
theorem dX7_countPlaces_0 : decode cX7_countPlaces 0 = .ok (.iconst 0, 1) := by decide +kernel
theorem dX7_countPlaces_1 : decode cX7_countPlaces 1 = .ok (.istore_n 1, 1) := by decide +kernel
theorem dX7_countPlaces_2 : decode cX7_countPlaces 2 = .ok (.iconst 0, 1) := by decide +kernel
theorem dX7_countPlaces_3 : decode cX7_countPlaces 3 = .ok (.istore_n 2, 1) := by decide +kernel
theorem dX7_countPlaces_4 : decode cX7_countPlaces 4 = .ok (.iload_n 2, 1) := by decide +kernel
theorem dX7_countPlaces_5 : decode cX7_countPlaces 5 = .ok (.sipush 169, 3) := by decide +kernel
theorem dX7_countPlaces_8 : decode cX7_countPlaces 8 = .ok (.if_icmp .ge 18, 3) := by decide +kernel
theorem dX7_countPlaces_11 : decode cX7_countPlaces 11 = .ok (.iload_n 1, 1) := by decide +kernel
theorem dX7_countPlaces_12 : decode cX7_countPlaces 12 = .ok (.aload_n 0, 1) := by decide +kernel
theorem dX7_countPlaces_13 : decode cX7_countPlaces 13 = .ok (.getfield 29, 3) := by decide +kernel
theorem dX7_countPlaces_16 : decode cX7_countPlaces 16 = .ok (.iload_n 2, 1) := by decide +kernel
theorem dX7_countPlaces_17 : decode cX7_countPlaces 17 = .ok (.iaload, 1) := by decide +kernel
theorem dX7_countPlaces_18 : decode cX7_countPlaces 18 = .ok (.iadd, 1) := by decide +kernel
theorem dX7_countPlaces_19 : decode cX7_countPlaces 19 = .ok (.istore_n 1, 1) := by decide +kernel
theorem dX7_countPlaces_20 : decode cX7_countPlaces 20 = .ok (.iinc 2 1, 3) := by decide +kernel
theorem dX7_countPlaces_23 : decode cX7_countPlaces 23 = .ok (.goto (-19), 3) := by decide +kernel
theorem dX7_countPlaces_26 : decode cX7_countPlaces 26 = .ok (.iload_n 1, 1) := by decide +kernel
theorem dX7_countPlaces_27 : decode cX7_countPlaces 27 = .ok (.ireturn, 1) := by decide +kernel
theorem dX7_countUnlike_0 : decode cX7_countUnlike 0 = .ok (.iconst 0, 1) := by decide +kernel
theorem dX7_countUnlike_1 : decode cX7_countUnlike 1 = .ok (.istore_n 1, 1) := by decide +kernel
theorem dX7_countUnlike_2 : decode cX7_countUnlike 2 = .ok (.iconst 0, 1) := by decide +kernel
theorem dX7_countUnlike_3 : decode cX7_countUnlike 3 = .ok (.istore_n 2, 1) := by decide +kernel
theorem dX7_countUnlike_4 : decode cX7_countUnlike 4 = .ok (.iload_n 2, 1) := by decide +kernel
theorem dX7_countUnlike_5 : decode cX7_countUnlike 5 = .ok (.sipush 169, 3) := by decide +kernel
theorem dX7_countUnlike_8 : decode cX7_countUnlike 8 = .ok (.if_icmp .ge 33, 3) := by decide +kernel
theorem dX7_countUnlike_11 : decode cX7_countUnlike 11 = .ok (.iload_n 1, 1) := by decide +kernel
theorem dX7_countUnlike_12 : decode cX7_countUnlike 12 = .ok (.iload_n 2, 1) := by decide +kernel
theorem dX7_countUnlike_13 : decode cX7_countUnlike 13 = .ok (.bipush 13, 2) := by decide +kernel
theorem dX7_countUnlike_15 : decode cX7_countUnlike 15 = .ok (.idiv, 1) := by decide +kernel
theorem dX7_countUnlike_16 : decode cX7_countUnlike 16 = .ok (.iload_n 2, 1) := by decide +kernel
theorem dX7_countUnlike_17 : decode cX7_countUnlike 17 = .ok (.bipush 13, 2) := by decide +kernel
theorem dX7_countUnlike_19 : decode cX7_countUnlike 19 = .ok (.irem, 1) := by decide +kernel
theorem dX7_countUnlike_20 : decode cX7_countUnlike 20 = .ok (.if_icmp .ne 7, 3) := by decide +kernel
theorem dX7_countUnlike_23 : decode cX7_countUnlike 23 = .ok (.iconst 0, 1) := by decide +kernel
theorem dX7_countUnlike_24 : decode cX7_countUnlike 24 = .ok (.goto 9, 3) := by decide +kernel
theorem dX7_countUnlike_27 : decode cX7_countUnlike 27 = .ok (.aload_n 0, 1) := by decide +kernel
theorem dX7_countUnlike_28 : decode cX7_countUnlike 28 = .ok (.getfield 29, 3) := by decide +kernel
theorem dX7_countUnlike_31 : decode cX7_countUnlike 31 = .ok (.iload_n 2, 1) := by decide +kernel
theorem dX7_countUnlike_32 : decode cX7_countUnlike 32 = .ok (.iaload, 1) := by decide +kernel
theorem dX7_countUnlike_33 : decode cX7_countUnlike 33 = .ok (.iadd, 1) := by decide +kernel
theorem dX7_countUnlike_34 : decode cX7_countUnlike 34 = .ok (.istore_n 1, 1) := by decide +kernel
theorem dX7_countUnlike_35 : decode cX7_countUnlike 35 = .ok (.iinc 2 1, 3) := by decide +kernel
theorem dX7_countUnlike_38 : decode cX7_countUnlike 38 = .ok (.goto (-34), 3) := by decide +kernel
theorem dX7_countUnlike_41 : decode cX7_countUnlike 41 = .ok (.iload_n 1, 1) := by decide +kernel
theorem dX7_countUnlike_42 : decode cX7_countUnlike 42 = .ok (.ireturn, 1) := by decide +kernel
theorem dX7_firstFailing_0 : decode cX7_firstFailing 0 = .ok (.iconst 0, 1) := by decide +kernel
theorem dX7_firstFailing_1 : decode cX7_firstFailing 1 = .ok (.istore_n 3, 1) := by decide +kernel
theorem dX7_firstFailing_2 : decode cX7_firstFailing 2 = .ok (.iload_n 3, 1) := by decide +kernel
theorem dX7_firstFailing_3 : decode cX7_firstFailing 3 = .ok (.sipush 168, 3) := by decide +kernel
theorem dX7_firstFailing_6 : decode cX7_firstFailing 6 = .ok (.if_icmp .ge 41, 3) := by decide +kernel
theorem dX7_firstFailing_9 : decode cX7_firstFailing 9 = .ok (.aload_n 0, 1) := by decide +kernel
theorem dX7_firstFailing_10 : decode cX7_firstFailing 10 = .ok (.getfield 29, 3) := by decide +kernel
theorem dX7_firstFailing_13 : decode cX7_firstFailing 13 = .ok (.iload_n 3, 1) := by decide +kernel
theorem dX7_firstFailing_14 : decode cX7_firstFailing 14 = .ok (.iaload, 1) := by decide +kernel
theorem dX7_firstFailing_15 : decode cX7_firstFailing 15 = .ok (.ifCond .eq 26, 3) := by decide +kernel
theorem dX7_firstFailing_18 : decode cX7_firstFailing 18 = .ok (.aload_n 0, 1) := by decide +kernel
theorem dX7_firstFailing_19 : decode cX7_firstFailing 19 = .ok (.aload_n 1, 1) := by decide +kernel
theorem dX7_firstFailing_20 : decode cX7_firstFailing 20 = .ok (.aload_n 2, 1) := by decide +kernel
theorem dX7_firstFailing_21 : decode cX7_firstFailing 21 = .ok (.iload_n 3, 1) := by decide +kernel
theorem dX7_firstFailing_22 : decode cX7_firstFailing 22 = .ok (.invokevirtual 88, 3) := by decide +kernel
theorem dX7_firstFailing_25 : decode cX7_firstFailing 25 = .ok (.ifCond .ne 16, 3) := by decide +kernel
theorem dX7_firstFailing_28 : decode cX7_firstFailing 28 = .ok (.bipush 100, 2) := by decide +kernel
theorem dX7_firstFailing_30 : decode cX7_firstFailing 30 = .ok (.iload_n 3, 1) := by decide +kernel
theorem dX7_firstFailing_31 : decode cX7_firstFailing 31 = .ok (.bipush 13, 2) := by decide +kernel
theorem dX7_firstFailing_33 : decode cX7_firstFailing 33 = .ok (.idiv, 1) := by decide +kernel
theorem dX7_firstFailing_34 : decode cX7_firstFailing 34 = .ok (.imul, 1) := by decide +kernel
theorem dX7_firstFailing_35 : decode cX7_firstFailing 35 = .ok (.iload_n 3, 1) := by decide +kernel
theorem dX7_firstFailing_36 : decode cX7_firstFailing 36 = .ok (.bipush 13, 2) := by decide +kernel
theorem dX7_firstFailing_38 : decode cX7_firstFailing 38 = .ok (.irem, 1) := by decide +kernel
theorem dX7_firstFailing_39 : decode cX7_firstFailing 39 = .ok (.iadd, 1) := by decide +kernel
theorem dX7_firstFailing_40 : decode cX7_firstFailing 40 = .ok (.ireturn, 1) := by decide +kernel
theorem dX7_firstFailing_41 : decode cX7_firstFailing 41 = .ok (.iinc 3 1, 3) := by decide +kernel
theorem dX7_firstFailing_44 : decode cX7_firstFailing 44 = .ok (.goto (-42), 3) := by decide +kernel
theorem dX7_firstFailing_47 : decode cX7_firstFailing 47 = .ok (.bipush (-6), 2) := by decide +kernel
theorem dX7_firstFailing_49 : decode cX7_firstFailing 49 = .ok (.ireturn, 1) := by decide +kernel
theorem dX7_isKept_0 : decode cX7_isKept 0 = .ok (.aload_n 0, 1) := by decide +kernel
theorem dX7_isKept_1 : decode cX7_isKept 1 = .ok (.aload_n 1, 1) := by decide +kernel
theorem dX7_isKept_2 : decode cX7_isKept 2 = .ok (.aload_n 2, 1) := by decide +kernel
theorem dX7_isKept_3 : decode cX7_isKept 3 = .ok (.iload_n 3, 1) := by decide +kernel
theorem dX7_isKept_4 : decode cX7_isKept 4 = .ok (.invokevirtual 92, 3) := by decide +kernel
theorem dX7_isKept_7 : decode cX7_isKept 7 = .ok (.iconst 0, 1) := by decide +kernel
theorem dX7_isKept_8 : decode cX7_isKept 8 = .ok (.istore 4, 2) := by decide +kernel
theorem dX7_isKept_10 : decode cX7_isKept 10 = .ok (.iload 4, 2) := by decide +kernel
theorem dX7_isKept_12 : decode cX7_isKept 12 = .ok (.sipush 256, 3) := by decide +kernel
theorem dX7_isKept_15 : decode cX7_isKept 15 = .ok (.if_icmp .ge 51, 3) := by decide +kernel
theorem dX7_isKept_18 : decode cX7_isKept 18 = .ok (.aload_n 0, 1) := by decide +kernel
theorem dX7_isKept_19 : decode cX7_isKept 19 = .ok (.aload_n 0, 1) := by decide +kernel
theorem dX7_isKept_20 : decode cX7_isKept 20 = .ok (.getfield 35, 3) := by decide +kernel
theorem dX7_isKept_23 : decode cX7_isKept 23 = .ok (.iload 4, 2) := by decide +kernel
theorem dX7_isKept_25 : decode cX7_isKept 25 = .ok (.iaload, 1) := by decide +kernel
theorem dX7_isKept_26 : decode cX7_isKept 26 = .ok (.invokevirtual 96, 3) := by decide +kernel
theorem dX7_isKept_29 : decode cX7_isKept 29 = .ok (.istore 5, 2) := by decide +kernel
theorem dX7_isKept_31 : decode cX7_isKept 31 = .ok (.iload 5, 2) := by decide +kernel
theorem dX7_isKept_33 : decode cX7_isKept 33 = .ok (.ifCond .eq 27, 3) := by decide +kernel
theorem dX7_isKept_36 : decode cX7_isKept 36 = .ok (.aload_n 0, 1) := by decide +kernel
theorem dX7_isKept_37 : decode cX7_isKept 37 = .ok (.aload_n 0, 1) := by decide +kernel
theorem dX7_isKept_38 : decode cX7_isKept 38 = .ok (.getfield 9, 3) := by decide +kernel
theorem dX7_isKept_41 : decode cX7_isKept 41 = .ok (.aload_n 0, 1) := by decide +kernel
theorem dX7_isKept_42 : decode cX7_isKept 42 = .ok (.getfield 23, 3) := by decide +kernel
theorem dX7_isKept_45 : decode cX7_isKept 45 = .ok (.iload_n 3, 1) := by decide +kernel
theorem dX7_isKept_46 : decode cX7_isKept 46 = .ok (.iaload, 1) := by decide +kernel
theorem dX7_isKept_47 : decode cX7_isKept 47 = .ok (.iload 4, 2) := by decide +kernel
theorem dX7_isKept_49 : decode cX7_isKept 49 = .ok (.invokevirtual 100, 3) := by decide +kernel
theorem dX7_isKept_52 : decode cX7_isKept 52 = .ok (.invokevirtual 103, 3) := by decide +kernel
theorem dX7_isKept_55 : decode cX7_isKept 55 = .ok (.ifCond .ne 5, 3) := by decide +kernel
theorem dX7_isKept_58 : decode cX7_isKept 58 = .ok (.iconst 0, 1) := by decide +kernel
theorem dX7_isKept_59 : decode cX7_isKept 59 = .ok (.ireturn, 1) := by decide +kernel
theorem dX7_isKept_60 : decode cX7_isKept 60 = .ok (.iinc 4 1, 3) := by decide +kernel
theorem dX7_isKept_63 : decode cX7_isKept 63 = .ok (.goto (-53), 3) := by decide +kernel
theorem dX7_isKept_66 : decode cX7_isKept 66 = .ok (.iconst 1, 1) := by decide +kernel
theorem dX7_isKept_67 : decode cX7_isKept 67 = .ok (.ireturn, 1) := by decide +kernel
theorem dX7_moveAll_0 : decode cX7_moveAll 0 = .ok (.iload_n 3, 1) := by decide +kernel
theorem dX7_moveAll_1 : decode cX7_moveAll 1 = .ok (.bipush 13, 2) := by decide +kernel
theorem dX7_moveAll_3 : decode cX7_moveAll 3 = .ok (.idiv, 1) := by decide +kernel
theorem dX7_moveAll_4 : decode cX7_moveAll 4 = .ok (.istore 4, 2) := by decide +kernel
theorem dX7_moveAll_6 : decode cX7_moveAll 6 = .ok (.iload_n 3, 1) := by decide +kernel
theorem dX7_moveAll_7 : decode cX7_moveAll 7 = .ok (.bipush 13, 2) := by decide +kernel
theorem dX7_moveAll_9 : decode cX7_moveAll 9 = .ok (.irem, 1) := by decide +kernel
theorem dX7_moveAll_10 : decode cX7_moveAll 10 = .ok (.istore 5, 2) := by decide +kernel
theorem dX7_moveAll_12 : decode cX7_moveAll 12 = .ok (.aload_n 0, 1) := by decide +kernel
theorem dX7_moveAll_13 : decode cX7_moveAll 13 = .ok (.getfield 19, 3) := by decide +kernel
theorem dX7_moveAll_16 : decode cX7_moveAll 16 = .ok (.iload_n 3, 1) := by decide +kernel
theorem dX7_moveAll_17 : decode cX7_moveAll 17 = .ok (.iaload, 1) := by decide +kernel
theorem dX7_moveAll_18 : decode cX7_moveAll 18 = .ok (.istore 6, 2) := by decide +kernel
theorem dX7_moveAll_20 : decode cX7_moveAll 20 = .ok (.aload_n 0, 1) := by decide +kernel
theorem dX7_moveAll_21 : decode cX7_moveAll 21 = .ok (.iconst 0, 1) := by decide +kernel
theorem dX7_moveAll_22 : decode cX7_moveAll 22 = .ok (.putfield 41, 3) := by decide +kernel
theorem dX7_moveAll_25 : decode cX7_moveAll 25 = .ok (.iconst 0, 1) := by decide +kernel
theorem dX7_moveAll_26 : decode cX7_moveAll 26 = .ok (.istore 7, 2) := by decide +kernel
theorem dX7_moveAll_28 : decode cX7_moveAll 28 = .ok (.iload 7, 2) := by decide +kernel
theorem dX7_moveAll_30 : decode cX7_moveAll 30 = .ok (.sipush 256, 3) := by decide +kernel
theorem dX7_moveAll_33 : decode cX7_moveAll 33 = .ok (.if_icmp .ge 97, 3) := by decide +kernel
theorem dX7_moveAll_36 : decode cX7_moveAll 36 = .ok (.aload_n 0, 1) := by decide +kernel
theorem dX7_moveAll_37 : decode cX7_moveAll 37 = .ok (.getfield 35, 3) := by decide +kernel
theorem dX7_moveAll_40 : decode cX7_moveAll 40 = .ok (.iload 7, 2) := by decide +kernel
theorem dX7_moveAll_42 : decode cX7_moveAll 42 = .ok (.iload 6, 2) := by decide +kernel
theorem dX7_moveAll_44 : decode cX7_moveAll 44 = .ok (.iconst 2, 1) := by decide +kernel
theorem dX7_moveAll_45 : decode cX7_moveAll 45 = .ok (.if_icmp .ne 15, 3) := by decide +kernel
theorem dX7_moveAll_48 : decode cX7_moveAll 48 = .ok (.iload 4, 2) := by decide +kernel
theorem dX7_moveAll_50 : decode cX7_moveAll 50 = .ok (.sipush 256, 3) := by decide +kernel
theorem dX7_moveAll_53 : decode cX7_moveAll 53 = .ok (.imul, 1) := by decide +kernel
theorem dX7_moveAll_54 : decode cX7_moveAll 54 = .ok (.iload 7, 2) := by decide +kernel
theorem dX7_moveAll_56 : decode cX7_moveAll 56 = .ok (.iadd, 1) := by decide +kernel
theorem dX7_moveAll_57 : decode cX7_moveAll 57 = .ok (.goto 11, 3) := by decide +kernel
theorem dX7_moveAll_60 : decode cX7_moveAll 60 = .ok (.aload_n 1, 1) := by decide +kernel
theorem dX7_moveAll_61 : decode cX7_moveAll 61 = .ok (.iload 4, 2) := by decide +kernel
theorem dX7_moveAll_63 : decode cX7_moveAll 63 = .ok (.iload 7, 2) := by decide +kernel
theorem dX7_moveAll_65 : decode cX7_moveAll 65 = .ok (.invokevirtual 106, 3) := by decide +kernel
theorem dX7_moveAll_68 : decode cX7_moveAll 68 = .ok (.iastore, 1) := by decide +kernel
theorem dX7_moveAll_69 : decode cX7_moveAll 69 = .ok (.aload_n 0, 1) := by decide +kernel
theorem dX7_moveAll_70 : decode cX7_moveAll 70 = .ok (.getfield 38, 3) := by decide +kernel
theorem dX7_moveAll_73 : decode cX7_moveAll 73 = .ok (.iload 7, 2) := by decide +kernel
theorem dX7_moveAll_75 : decode cX7_moveAll 75 = .ok (.iload 6, 2) := by decide +kernel
theorem dX7_moveAll_77 : decode cX7_moveAll 77 = .ok (.iconst 1, 1) := by decide +kernel
theorem dX7_moveAll_78 : decode cX7_moveAll 78 = .ok (.if_icmp .ne 15, 3) := by decide +kernel
theorem dX7_moveAll_81 : decode cX7_moveAll 81 = .ok (.iload 5, 2) := by decide +kernel
theorem dX7_moveAll_83 : decode cX7_moveAll 83 = .ok (.sipush 256, 3) := by decide +kernel
theorem dX7_moveAll_86 : decode cX7_moveAll 86 = .ok (.imul, 1) := by decide +kernel
theorem dX7_moveAll_87 : decode cX7_moveAll 87 = .ok (.iload 7, 2) := by decide +kernel
theorem dX7_moveAll_89 : decode cX7_moveAll 89 = .ok (.iadd, 1) := by decide +kernel
theorem dX7_moveAll_90 : decode cX7_moveAll 90 = .ok (.goto 11, 3) := by decide +kernel
theorem dX7_moveAll_93 : decode cX7_moveAll 93 = .ok (.aload_n 2, 1) := by decide +kernel
theorem dX7_moveAll_94 : decode cX7_moveAll 94 = .ok (.iload 5, 2) := by decide +kernel
theorem dX7_moveAll_96 : decode cX7_moveAll 96 = .ok (.iload 7, 2) := by decide +kernel
theorem dX7_moveAll_98 : decode cX7_moveAll 98 = .ok (.invokevirtual 106, 3) := by decide +kernel
theorem dX7_moveAll_101 : decode cX7_moveAll 101 = .ok (.iastore, 1) := by decide +kernel
theorem dX7_moveAll_102 : decode cX7_moveAll 102 = .ok (.aload_n 0, 1) := by decide +kernel
theorem dX7_moveAll_103 : decode cX7_moveAll 103 = .ok (.dup, 1) := by decide +kernel
theorem dX7_moveAll_104 : decode cX7_moveAll 104 = .ok (.getfield 41, 3) := by decide +kernel
theorem dX7_moveAll_107 : decode cX7_moveAll 107 = .ok (.iconst 1, 1) := by decide +kernel
theorem dX7_moveAll_108 : decode cX7_moveAll 108 = .ok (.aload_n 0, 1) := by decide +kernel
theorem dX7_moveAll_109 : decode cX7_moveAll 109 = .ok (.getfield 38, 3) := by decide +kernel
theorem dX7_moveAll_112 : decode cX7_moveAll 112 = .ok (.iload 7, 2) := by decide +kernel
theorem dX7_moveAll_114 : decode cX7_moveAll 114 = .ok (.iaload, 1) := by decide +kernel
theorem dX7_moveAll_115 : decode cX7_moveAll 115 = .ok (.sipush 256, 3) := by decide +kernel
theorem dX7_moveAll_118 : decode cX7_moveAll 118 = .ok (.idiv, 1) := by decide +kernel
theorem dX7_moveAll_119 : decode cX7_moveAll 119 = .ok (.ishl, 1) := by decide +kernel
theorem dX7_moveAll_120 : decode cX7_moveAll 120 = .ok (.ior, 1) := by decide +kernel
theorem dX7_moveAll_121 : decode cX7_moveAll 121 = .ok (.putfield 41, 3) := by decide +kernel
theorem dX7_moveAll_124 : decode cX7_moveAll 124 = .ok (.iinc 7 1, 3) := by decide +kernel
theorem dX7_moveAll_127 : decode cX7_moveAll 127 = .ok (.goto (-99), 3) := by decide +kernel
theorem dX7_moveAll_130 : decode cX7_moveAll 130 = .ok (.return_, 1) := by decide +kernel
theorem dX7_askNext_0 : decode cX7_askNext 0 = .ok (.iconst 0, 1) := by decide +kernel
theorem dX7_askNext_1 : decode cX7_askNext 1 = .ok (.istore_n 2, 1) := by decide +kernel
theorem dX7_askNext_2 : decode cX7_askNext 2 = .ok (.iconst 0, 1) := by decide +kernel
theorem dX7_askNext_3 : decode cX7_askNext 3 = .ok (.istore_n 3, 1) := by decide +kernel
theorem dX7_askNext_4 : decode cX7_askNext 4 = .ok (.iload_n 3, 1) := by decide +kernel
theorem dX7_askNext_5 : decode cX7_askNext 5 = .ok (.bipush 13, 2) := by decide +kernel
theorem dX7_askNext_7 : decode cX7_askNext 7 = .ok (.if_icmp .ge 66, 3) := by decide +kernel
theorem dX7_askNext_10 : decode cX7_askNext 10 = .ok (.aload_n 0, 1) := by decide +kernel
theorem dX7_askNext_11 : decode cX7_askNext 11 = .ok (.getfield 41, 3) := by decide +kernel
theorem dX7_askNext_14 : decode cX7_askNext 14 = .ok (.iload_n 3, 1) := by decide +kernel
theorem dX7_askNext_15 : decode cX7_askNext 15 = .ok (.ishr, 1) := by decide +kernel
theorem dX7_askNext_16 : decode cX7_askNext 16 = .ok (.iconst 1, 1) := by decide +kernel
theorem dX7_askNext_17 : decode cX7_askNext 17 = .ok (.iand, 1) := by decide +kernel
theorem dX7_askNext_18 : decode cX7_askNext 18 = .ok (.ifCond .eq 49, 3) := by decide +kernel
theorem dX7_askNext_21 : decode cX7_askNext 21 = .ok (.aload_n 0, 1) := by decide +kernel
theorem dX7_askNext_22 : decode cX7_askNext 22 = .ok (.getfield 23, 3) := by decide +kernel
theorem dX7_askNext_25 : decode cX7_askNext 25 = .ok (.iload_n 1, 1) := by decide +kernel
theorem dX7_askNext_26 : decode cX7_askNext 26 = .ok (.sipush 256, 3) := by decide +kernel
theorem dX7_askNext_29 : decode cX7_askNext 29 = .ok (.idiv, 1) := by decide +kernel
theorem dX7_askNext_30 : decode cX7_askNext 30 = .ok (.bipush 13, 2) := by decide +kernel
theorem dX7_askNext_32 : decode cX7_askNext 32 = .ok (.imul, 1) := by decide +kernel
theorem dX7_askNext_33 : decode cX7_askNext 33 = .ok (.iload_n 3, 1) := by decide +kernel
theorem dX7_askNext_34 : decode cX7_askNext 34 = .ok (.iadd, 1) := by decide +kernel
theorem dX7_askNext_35 : decode cX7_askNext 35 = .ok (.iaload, 1) := by decide +kernel
theorem dX7_askNext_36 : decode cX7_askNext 36 = .ok (.istore 4, 2) := by decide +kernel
theorem dX7_askNext_38 : decode cX7_askNext 38 = .ok (.aload_n 0, 1) := by decide +kernel
theorem dX7_askNext_39 : decode cX7_askNext 39 = .ok (.getfield 44, 3) := by decide +kernel
theorem dX7_askNext_42 : decode cX7_askNext 42 = .ok (.iload_n 3, 1) := by decide +kernel
theorem dX7_askNext_43 : decode cX7_askNext 43 = .ok (.aload_n 0, 1) := by decide +kernel
theorem dX7_askNext_44 : decode cX7_askNext 44 = .ok (.getfield 9, 3) := by decide +kernel
theorem dX7_askNext_47 : decode cX7_askNext 47 = .ok (.iload 4, 2) := by decide +kernel
theorem dX7_askNext_49 : decode cX7_askNext 49 = .ok (.iload_n 1, 1) := by decide +kernel
theorem dX7_askNext_50 : decode cX7_askNext 50 = .ok (.sipush 256, 3) := by decide +kernel
theorem dX7_askNext_53 : decode cX7_askNext 53 = .ok (.irem, 1) := by decide +kernel
theorem dX7_askNext_54 : decode cX7_askNext 54 = .ok (.invokevirtual 100, 3) := by decide +kernel
theorem dX7_askNext_57 : decode cX7_askNext 57 = .ok (.iastore, 1) := by decide +kernel
theorem dX7_askNext_58 : decode cX7_askNext 58 = .ok (.iload_n 2, 1) := by decide +kernel
theorem dX7_askNext_59 : decode cX7_askNext 59 = .ok (.aload_n 0, 1) := by decide +kernel
theorem dX7_askNext_60 : decode cX7_askNext 60 = .ok (.getfield 44, 3) := by decide +kernel
theorem dX7_askNext_63 : decode cX7_askNext 63 = .ok (.iload_n 3, 1) := by decide +kernel
theorem dX7_askNext_64 : decode cX7_askNext 64 = .ok (.iaload, 1) := by decide +kernel
theorem dX7_askNext_65 : decode cX7_askNext 65 = .ok (.ior, 1) := by decide +kernel
theorem dX7_askNext_66 : decode cX7_askNext 66 = .ok (.istore_n 2, 1) := by decide +kernel
theorem dX7_askNext_67 : decode cX7_askNext 67 = .ok (.iinc 3 1, 3) := by decide +kernel
theorem dX7_askNext_70 : decode cX7_askNext 70 = .ok (.goto (-66), 3) := by decide +kernel
theorem dX7_askNext_73 : decode cX7_askNext 73 = .ok (.iload_n 2, 1) := by decide +kernel
theorem dX7_askNext_74 : decode cX7_askNext 74 = .ok (.ifCond .eq 7, 3) := by decide +kernel
theorem dX7_askNext_77 : decode cX7_askNext 77 = .ok (.iconst 1, 1) := by decide +kernel
theorem dX7_askNext_78 : decode cX7_askNext 78 = .ok (.goto 4, 3) := by decide +kernel
theorem dX7_askNext_81 : decode cX7_askNext 81 = .ok (.iconst 0, 1) := by decide +kernel
theorem dX7_askNext_82 : decode cX7_askNext 82 = .ok (.ireturn, 1) := by decide +kernel
theorem dX7_areKept_0 : decode cX7_areKept 0 = .ok (.iconst 0, 1) := by decide +kernel
theorem dX7_areKept_1 : decode cX7_areKept 1 = .ok (.istore_n 2, 1) := by decide +kernel
theorem dX7_areKept_2 : decode cX7_areKept 2 = .ok (.iload_n 2, 1) := by decide +kernel
theorem dX7_areKept_3 : decode cX7_areKept 3 = .ok (.sipush 256, 3) := by decide +kernel
theorem dX7_areKept_6 : decode cX7_areKept 6 = .ok (.if_icmp .ge 71, 3) := by decide +kernel
theorem dX7_areKept_9 : decode cX7_areKept 9 = .ok (.aload_n 0, 1) := by decide +kernel
theorem dX7_areKept_10 : decode cX7_areKept 10 = .ok (.getfield 38, 3) := by decide +kernel
theorem dX7_areKept_13 : decode cX7_areKept 13 = .ok (.iload_n 2, 1) := by decide +kernel
theorem dX7_areKept_14 : decode cX7_areKept 14 = .ok (.iaload, 1) := by decide +kernel
theorem dX7_areKept_15 : decode cX7_areKept 15 = .ok (.istore_n 3, 1) := by decide +kernel
theorem dX7_areKept_16 : decode cX7_areKept 16 = .ok (.aload_n 0, 1) := by decide +kernel
theorem dX7_areKept_17 : decode cX7_areKept 17 = .ok (.getfield 9, 3) := by decide +kernel
theorem dX7_areKept_20 : decode cX7_areKept 20 = .ok (.getfield 64, 3) := by decide +kernel
theorem dX7_areKept_23 : decode cX7_areKept 23 = .ok (.iload_n 2, 1) := by decide +kernel
theorem dX7_areKept_24 : decode cX7_areKept 24 = .ok (.iaload, 1) := by decide +kernel
theorem dX7_areKept_25 : decode cX7_areKept 25 = .ok (.iload_n 1, 1) := by decide +kernel
theorem dX7_areKept_26 : decode cX7_areKept 26 = .ok (.iand, 1) := by decide +kernel
theorem dX7_areKept_27 : decode cX7_areKept 27 = .ok (.ifCond .ne 7, 3) := by decide +kernel
theorem dX7_areKept_30 : decode cX7_areKept 30 = .ok (.iconst 1, 1) := by decide +kernel
theorem dX7_areKept_31 : decode cX7_areKept 31 = .ok (.goto 4, 3) := by decide +kernel
theorem dX7_areKept_34 : decode cX7_areKept 34 = .ok (.iconst 0, 1) := by decide +kernel
theorem dX7_areKept_35 : decode cX7_areKept 35 = .ok (.istore 4, 2) := by decide +kernel
theorem dX7_areKept_37 : decode cX7_areKept 37 = .ok (.iload 4, 2) := by decide +kernel
theorem dX7_areKept_39 : decode cX7_areKept 39 = .ok (.ifCond .eq 32, 3) := by decide +kernel
theorem dX7_areKept_42 : decode cX7_areKept 42 = .ok (.aload_n 0, 1) := by decide +kernel
theorem dX7_areKept_43 : decode cX7_areKept 43 = .ok (.getfield 9, 3) := by decide +kernel
theorem dX7_areKept_46 : decode cX7_areKept 46 = .ok (.getfield 64, 3) := by decide +kernel
theorem dX7_areKept_49 : decode cX7_areKept 49 = .ok (.iload_n 3, 1) := by decide +kernel
theorem dX7_areKept_50 : decode cX7_areKept 50 = .ok (.sipush 256, 3) := by decide +kernel
theorem dX7_areKept_53 : decode cX7_areKept 53 = .ok (.irem, 1) := by decide +kernel
theorem dX7_areKept_54 : decode cX7_areKept 54 = .ok (.iaload, 1) := by decide +kernel
theorem dX7_areKept_55 : decode cX7_areKept 55 = .ok (.aload_n 0, 1) := by decide +kernel
theorem dX7_areKept_56 : decode cX7_areKept 56 = .ok (.getfield 44, 3) := by decide +kernel
theorem dX7_areKept_59 : decode cX7_areKept 59 = .ok (.iload_n 3, 1) := by decide +kernel
theorem dX7_areKept_60 : decode cX7_areKept 60 = .ok (.sipush 256, 3) := by decide +kernel
theorem dX7_areKept_63 : decode cX7_areKept 63 = .ok (.idiv, 1) := by decide +kernel
theorem dX7_areKept_64 : decode cX7_areKept 64 = .ok (.iaload, 1) := by decide +kernel
theorem dX7_areKept_65 : decode cX7_areKept 65 = .ok (.iand, 1) := by decide +kernel
theorem dX7_areKept_66 : decode cX7_areKept 66 = .ok (.ifCond .eq 5, 3) := by decide +kernel
theorem dX7_areKept_69 : decode cX7_areKept 69 = .ok (.iconst 0, 1) := by decide +kernel
theorem dX7_areKept_70 : decode cX7_areKept 70 = .ok (.ireturn, 1) := by decide +kernel
theorem dX7_areKept_71 : decode cX7_areKept 71 = .ok (.iinc 2 1, 3) := by decide +kernel
theorem dX7_areKept_74 : decode cX7_areKept 74 = .ok (.goto (-72), 3) := by decide +kernel
theorem dX7_areKept_77 : decode cX7_areKept 77 = .ok (.iconst 1, 1) := by decide +kernel
theorem dX7_areKept_78 : decode cX7_areKept 78 = .ok (.ireturn, 1) := by decide +kernel
theorem dX8_init_0 : decode cX8_init 0 = .ok (.aload_n 0, 1) := by decide +kernel
theorem dX8_init_1 : decode cX8_init 1 = .ok (.invokespecial 3, 3) := by decide +kernel
theorem dX8_init_4 : decode cX8_init 4 = .ok (.new 9, 3) := by decide +kernel
theorem dX8_init_7 : decode cX8_init 7 = .ok (.dup, 1) := by decide +kernel
theorem dX8_init_8 : decode cX8_init 8 = .ok (.invokespecial 11, 3) := by decide +kernel
theorem dX8_init_11 : decode cX8_init 11 = .ok (.astore_n 1, 1) := by decide +kernel
theorem dX8_init_12 : decode cX8_init 12 = .ok (.aload_n 0, 1) := by decide +kernel
theorem dX8_init_13 : decode cX8_init 13 = .ok (.iconst 4, 1) := by decide +kernel
theorem dX8_init_14 : decode cX8_init 14 = .ok (.anewarray 12, 3) := by decide +kernel
theorem dX8_init_17 : decode cX8_init 17 = .ok (.putfield 14, 3) := by decide +kernel
theorem dX8_init_20 : decode cX8_init 20 = .ok (.iconst 0, 1) := by decide +kernel
theorem dX8_init_21 : decode cX8_init 21 = .ok (.istore_n 2, 1) := by decide +kernel
theorem dX8_init_22 : decode cX8_init 22 = .ok (.iload_n 2, 1) := by decide +kernel
theorem dX8_init_23 : decode cX8_init 23 = .ok (.iconst 4, 1) := by decide +kernel
theorem dX8_init_24 : decode cX8_init 24 = .ok (.if_icmp .ge 23, 3) := by decide +kernel
theorem dX8_init_27 : decode cX8_init 27 = .ok (.aload_n 0, 1) := by decide +kernel
theorem dX8_init_28 : decode cX8_init 28 = .ok (.getfield 14, 3) := by decide +kernel
theorem dX8_init_31 : decode cX8_init 31 = .ok (.iload_n 2, 1) := by decide +kernel
theorem dX8_init_32 : decode cX8_init 32 = .ok (.new 12, 3) := by decide +kernel
theorem dX8_init_35 : decode cX8_init 35 = .ok (.dup, 1) := by decide +kernel
theorem dX8_init_36 : decode cX8_init 36 = .ok (.aload_n 1, 1) := by decide +kernel
theorem dX8_init_37 : decode cX8_init 37 = .ok (.invokespecial 18, 3) := by decide +kernel
theorem dX8_init_40 : decode cX8_init 40 = .ok (.aastore, 1) := by decide +kernel
theorem dX8_init_41 : decode cX8_init 41 = .ok (.iinc 2 1, 3) := by decide +kernel
theorem dX8_init_44 : decode cX8_init 44 = .ok (.goto (-22), 3) := by decide +kernel
theorem dX8_init_47 : decode cX8_init 47 = .ok (.aload_n 0, 1) := by decide +kernel
theorem dX8_init_48 : decode cX8_init 48 = .ok (.bipush 6, 2) := by decide +kernel
theorem dX8_init_50 : decode cX8_init 50 = .ok (.anewarray 21, 3) := by decide +kernel
theorem dX8_init_53 : decode cX8_init 53 = .ok (.putfield 23, 3) := by decide +kernel
theorem dX8_init_56 : decode cX8_init 56 = .ok (.iconst 0, 1) := by decide +kernel
theorem dX8_init_57 : decode cX8_init 57 = .ok (.istore_n 2, 1) := by decide +kernel
theorem dX8_init_58 : decode cX8_init 58 = .ok (.iload_n 2, 1) := by decide +kernel
theorem dX8_init_59 : decode cX8_init 59 = .ok (.bipush 6, 2) := by decide +kernel
theorem dX8_init_61 : decode cX8_init 61 = .ok (.if_icmp .ge 22, 3) := by decide +kernel
theorem dX8_init_64 : decode cX8_init 64 = .ok (.aload_n 0, 1) := by decide +kernel
theorem dX8_init_65 : decode cX8_init 65 = .ok (.getfield 23, 3) := by decide +kernel
theorem dX8_init_68 : decode cX8_init 68 = .ok (.iload_n 2, 1) := by decide +kernel
theorem dX8_init_69 : decode cX8_init 69 = .ok (.new 21, 3) := by decide +kernel
theorem dX8_init_72 : decode cX8_init 72 = .ok (.dup, 1) := by decide +kernel
theorem dX8_init_73 : decode cX8_init 73 = .ok (.invokespecial 27, 3) := by decide +kernel
theorem dX8_init_76 : decode cX8_init 76 = .ok (.aastore, 1) := by decide +kernel
theorem dX8_init_77 : decode cX8_init 77 = .ok (.iinc 2 1, 3) := by decide +kernel
theorem dX8_init_80 : decode cX8_init 80 = .ok (.goto (-22), 3) := by decide +kernel
theorem dX8_init_83 : decode cX8_init 83 = .ok (.aload_n 0, 1) := by decide +kernel
theorem dX8_init_84 : decode cX8_init 84 = .ok (.iconst 0, 1) := by decide +kernel
theorem dX8_init_85 : decode cX8_init 85 = .ok (.putfield 28, 3) := by decide +kernel
theorem dX8_init_88 : decode cX8_init 88 = .ok (.aload_n 0, 1) := by decide +kernel
theorem dX8_init_89 : decode cX8_init 89 = .ok (.new 21, 3) := by decide +kernel
theorem dX8_init_92 : decode cX8_init 92 = .ok (.dup, 1) := by decide +kernel
theorem dX8_init_93 : decode cX8_init 93 = .ok (.invokespecial 27, 3) := by decide +kernel
theorem dX8_init_96 : decode cX8_init 96 = .ok (.putfield 32, 3) := by decide +kernel
theorem dX8_init_99 : decode cX8_init 99 = .ok (.aload_n 0, 1) := by decide +kernel
theorem dX8_init_100 : decode cX8_init 100 = .ok (.new 36, 3) := by decide +kernel
theorem dX8_init_103 : decode cX8_init 103 = .ok (.dup, 1) := by decide +kernel
theorem dX8_init_104 : decode cX8_init 104 = .ok (.aload_n 1, 1) := by decide +kernel
theorem dX8_init_105 : decode cX8_init 105 = .ok (.invokespecial 38, 3) := by decide +kernel
theorem dX8_init_108 : decode cX8_init 108 = .ok (.putfield 39, 3) := by decide +kernel
theorem dX8_init_111 : decode cX8_init 111 = .ok (.aload_n 0, 1) := by decide +kernel
theorem dX8_init_112 : decode cX8_init 112 = .ok (.new 43, 3) := by decide +kernel
theorem dX8_init_115 : decode cX8_init 115 = .ok (.dup, 1) := by decide +kernel
theorem dX8_init_116 : decode cX8_init 116 = .ok (.aload_n 0, 1) := by decide +kernel
theorem dX8_init_117 : decode cX8_init 117 = .ok (.getfield 39, 3) := by decide +kernel
theorem dX8_init_120 : decode cX8_init 120 = .ok (.invokespecial 45, 3) := by decide +kernel
theorem dX8_init_123 : decode cX8_init 123 = .ok (.putfield 48, 3) := by decide +kernel
theorem dX8_init_126 : decode cX8_init 126 = .ok (.aload_n 0, 1) := by decide +kernel
theorem dX8_init_127 : decode cX8_init 127 = .ok (.new 52, 3) := by decide +kernel
theorem dX8_init_130 : decode cX8_init 130 = .ok (.dup, 1) := by decide +kernel
theorem dX8_init_131 : decode cX8_init 131 = .ok (.aload_n 0, 1) := by decide +kernel
theorem dX8_init_132 : decode cX8_init 132 = .ok (.getfield 39, 3) := by decide +kernel
theorem dX8_init_135 : decode cX8_init 135 = .ok (.invokespecial 54, 3) := by decide +kernel
theorem dX8_init_138 : decode cX8_init 138 = .ok (.putfield 55, 3) := by decide +kernel
theorem dX8_init_141 : decode cX8_init 141 = .ok (.aload_n 0, 1) := by decide +kernel
theorem dX8_init_142 : decode cX8_init 142 = .ok (.new 59, 3) := by decide +kernel
theorem dX8_init_145 : decode cX8_init 145 = .ok (.dup, 1) := by decide +kernel
theorem dX8_init_146 : decode cX8_init 146 = .ok (.aload_n 1, 1) := by decide +kernel
theorem dX8_init_147 : decode cX8_init 147 = .ok (.invokespecial 61, 3) := by decide +kernel
theorem dX8_init_150 : decode cX8_init 150 = .ok (.putfield 62, 3) := by decide +kernel
theorem dX8_init_153 : decode cX8_init 153 = .ok (.aload_n 0, 1) := by decide +kernel
theorem dX8_init_154 : decode cX8_init 154 = .ok (.new 66, 3) := by decide +kernel
theorem dX8_init_157 : decode cX8_init 157 = .ok (.dup, 1) := by decide +kernel
theorem dX8_init_158 : decode cX8_init 158 = .ok (.invokespecial 68, 3) := by decide +kernel
theorem dX8_init_161 : decode cX8_init 161 = .ok (.putfield 69, 3) := by decide +kernel
theorem dX8_init_164 : decode cX8_init 164 = .ok (.return_, 1) := by decide +kernel
theorem dX8_line_0 : decode cX8_line 0 = .ok (.iload_n 1, 1) := by decide +kernel
theorem dX8_line_1 : decode cX8_line 1 = .ok (.invokestatic 73, 3) := by decide +kernel
theorem dX8_line_4 : decode cX8_line 4 = .ok (.ifCond .ne 5, 3) := by decide +kernel
theorem dX8_line_7 : decode cX8_line 7 = .ok (.iconst (-1), 1) := by decide +kernel
theorem dX8_line_8 : decode cX8_line 8 = .ok (.ireturn, 1) := by decide +kernel
theorem dX8_line_9 : decode cX8_line 9 = .ok (.iload_n 2, 1) := by decide +kernel
theorem dX8_line_10 : decode cX8_line 10 = .ok (.iload_n 3, 1) := by decide +kernel
theorem dX8_line_11 : decode cX8_line 11 = .ok (.iload 4, 2) := by decide +kernel
theorem dX8_line_13 : decode cX8_line 13 = .ok (.iload 5, 2) := by decide +kernel
theorem dX8_line_15 : decode cX8_line 15 = .ok (.invokestatic 77, 3) := by decide +kernel
theorem dX8_line_18 : decode cX8_line 18 = .ok (.ifCond .ne 6, 3) := by decide +kernel
theorem dX8_line_21 : decode cX8_line 21 = .ok (.bipush (-2), 2) := by decide +kernel
theorem dX8_line_23 : decode cX8_line 23 = .ok (.ireturn, 1) := by decide +kernel
theorem dX8_line_24 : decode cX8_line 24 = .ok (.aload_n 0, 1) := by decide +kernel
theorem dX8_line_25 : decode cX8_line 25 = .ok (.getfield 14, 3) := by decide +kernel
theorem dX8_line_28 : decode cX8_line 28 = .ok (.iload_n 1, 1) := by decide +kernel
theorem dX8_line_29 : decode cX8_line 29 = .ok (.aaload, 1) := by decide +kernel
theorem dX8_line_30 : decode cX8_line 30 = .ok (.astore 6, 2) := by decide +kernel
theorem dX8_line_32 : decode cX8_line 32 = .ok (.aload 6, 2) := by decide +kernel
theorem dX8_line_34 : decode cX8_line 34 = .ok (.getfield 81, 3) := by decide +kernel
theorem dX8_line_37 : decode cX8_line 37 = .ok (.bipush 12, 2) := by decide +kernel
theorem dX8_line_39 : decode cX8_line 39 = .ok (.if_icmp .lt 6, 3) := by decide +kernel
theorem dX8_line_42 : decode cX8_line 42 = .ok (.bipush (-4), 2) := by decide +kernel
theorem dX8_line_44 : decode cX8_line 44 = .ok (.ireturn, 1) := by decide +kernel
theorem dX8_line_45 : decode cX8_line 45 = .ok (.aload 6, 2) := by decide +kernel
theorem dX8_line_47 : decode cX8_line 47 = .ok (.getfield 81, 3) := by decide +kernel
theorem dX8_line_50 : decode cX8_line 50 = .ok (.istore 7, 2) := by decide +kernel
theorem dX8_line_52 : decode cX8_line 52 = .ok (.aload 6, 2) := by decide +kernel
theorem dX8_line_54 : decode cX8_line 54 = .ok (.iload 7, 2) := by decide +kernel
theorem dX8_line_56 : decode cX8_line 56 = .ok (.iconst 1, 1) := by decide +kernel
theorem dX8_line_57 : decode cX8_line 57 = .ok (.iadd, 1) := by decide +kernel
theorem dX8_line_58 : decode cX8_line 58 = .ok (.putfield 81, 3) := by decide +kernel
theorem dX8_line_61 : decode cX8_line 61 = .ok (.aload 6, 2) := by decide +kernel
theorem dX8_line_63 : decode cX8_line 63 = .ok (.iload 7, 2) := by decide +kernel
theorem dX8_line_65 : decode cX8_line 65 = .ok (.iload_n 2, 1) := by decide +kernel
theorem dX8_line_66 : decode cX8_line 66 = .ok (.iload_n 3, 1) := by decide +kernel
theorem dX8_line_67 : decode cX8_line 67 = .ok (.iload 4, 2) := by decide +kernel
theorem dX8_line_69 : decode cX8_line 69 = .ok (.iload 5, 2) := by decide +kernel
theorem dX8_line_71 : decode cX8_line 71 = .ok (.invokevirtual 84, 3) := by decide +kernel
theorem dX8_line_74 : decode cX8_line 74 = .ok (.aload_n 0, 1) := by decide +kernel
theorem dX8_line_75 : decode cX8_line 75 = .ok (.invokevirtual 88, 3) := by decide +kernel
theorem dX8_line_78 : decode cX8_line 78 = .ok (.iload 7, 2) := by decide +kernel
theorem dX8_line_80 : decode cX8_line 80 = .ok (.ireturn, 1) := by decide +kernel
theorem dX8_change_0 : decode cX8_change 0 = .ok (.iload_n 1, 1) := by decide +kernel
theorem dX8_change_1 : decode cX8_change 1 = .ok (.invokestatic 73, 3) := by decide +kernel
theorem dX8_change_4 : decode cX8_change 4 = .ok (.ifCond .eq 20, 3) := by decide +kernel
theorem dX8_change_7 : decode cX8_change 7 = .ok (.iload_n 2, 1) := by decide +kernel
theorem dX8_change_8 : decode cX8_change 8 = .ok (.ifCond .lt 16, 3) := by decide +kernel
theorem dX8_change_11 : decode cX8_change 11 = .ok (.iload_n 2, 1) := by decide +kernel
theorem dX8_change_12 : decode cX8_change 12 = .ok (.aload_n 0, 1) := by decide +kernel
theorem dX8_change_13 : decode cX8_change 13 = .ok (.getfield 14, 3) := by decide +kernel
theorem dX8_change_16 : decode cX8_change 16 = .ok (.iload_n 1, 1) := by decide +kernel
theorem dX8_change_17 : decode cX8_change 17 = .ok (.aaload, 1) := by decide +kernel
theorem dX8_change_18 : decode cX8_change 18 = .ok (.getfield 81, 3) := by decide +kernel
theorem dX8_change_21 : decode cX8_change 21 = .ok (.if_icmp .lt 5, 3) := by decide +kernel
theorem dX8_change_24 : decode cX8_change 24 = .ok (.iconst (-1), 1) := by decide +kernel
theorem dX8_change_25 : decode cX8_change 25 = .ok (.ireturn, 1) := by decide +kernel
theorem dX8_change_26 : decode cX8_change 26 = .ok (.iload_n 3, 1) := by decide +kernel
theorem dX8_change_27 : decode cX8_change 27 = .ok (.iload 4, 2) := by decide +kernel
theorem dX8_change_29 : decode cX8_change 29 = .ok (.iload 5, 2) := by decide +kernel
theorem dX8_change_31 : decode cX8_change 31 = .ok (.iload 6, 2) := by decide +kernel
theorem dX8_change_33 : decode cX8_change 33 = .ok (.invokestatic 77, 3) := by decide +kernel
theorem dX8_change_36 : decode cX8_change 36 = .ok (.ifCond .ne 6, 3) := by decide +kernel
theorem dX8_change_39 : decode cX8_change 39 = .ok (.bipush (-2), 2) := by decide +kernel
theorem dX8_change_41 : decode cX8_change 41 = .ok (.ireturn, 1) := by decide +kernel
theorem dX8_change_42 : decode cX8_change 42 = .ok (.aload_n 0, 1) := by decide +kernel
theorem dX8_change_43 : decode cX8_change 43 = .ok (.getfield 14, 3) := by decide +kernel
theorem dX8_change_46 : decode cX8_change 46 = .ok (.iload_n 1, 1) := by decide +kernel
theorem dX8_change_47 : decode cX8_change 47 = .ok (.aaload, 1) := by decide +kernel
theorem dX8_change_48 : decode cX8_change 48 = .ok (.astore 7, 2) := by decide +kernel
theorem dX8_change_50 : decode cX8_change 50 = .ok (.aload 7, 2) := by decide +kernel
theorem dX8_change_52 : decode cX8_change 52 = .ok (.getfield 91, 3) := by decide +kernel
theorem dX8_change_55 : decode cX8_change 55 = .ok (.iload_n 2, 1) := by decide +kernel
theorem dX8_change_56 : decode cX8_change 56 = .ok (.iaload, 1) := by decide +kernel
theorem dX8_change_57 : decode cX8_change 57 = .ok (.istore 8, 2) := by decide +kernel
theorem dX8_change_59 : decode cX8_change 59 = .ok (.aload 7, 2) := by decide +kernel
theorem dX8_change_61 : decode cX8_change 61 = .ok (.iload_n 2, 1) := by decide +kernel
theorem dX8_change_62 : decode cX8_change 62 = .ok (.iload_n 3, 1) := by decide +kernel
theorem dX8_change_63 : decode cX8_change 63 = .ok (.iload 4, 2) := by decide +kernel
theorem dX8_change_65 : decode cX8_change 65 = .ok (.iload 5, 2) := by decide +kernel
theorem dX8_change_67 : decode cX8_change 67 = .ok (.iload 6, 2) := by decide +kernel
theorem dX8_change_69 : decode cX8_change 69 = .ok (.invokevirtual 84, 3) := by decide +kernel
theorem dX8_change_72 : decode cX8_change 72 = .ok (.aload_n 0, 1) := by decide +kernel
theorem dX8_change_73 : decode cX8_change 73 = .ok (.invokevirtual 88, 3) := by decide +kernel
theorem dX8_change_76 : decode cX8_change 76 = .ok (.iload 8, 2) := by decide +kernel
theorem dX8_change_78 : decode cX8_change 78 = .ok (.ireturn, 1) := by decide +kernel
theorem dX8_clear_0 : decode cX8_clear 0 = .ok (.iload_n 1, 1) := by decide +kernel
theorem dX8_clear_1 : decode cX8_clear 1 = .ok (.invokestatic 73, 3) := by decide +kernel
theorem dX8_clear_4 : decode cX8_clear 4 = .ok (.ifCond .ne 5, 3) := by decide +kernel
theorem dX8_clear_7 : decode cX8_clear 7 = .ok (.iconst (-1), 1) := by decide +kernel
theorem dX8_clear_8 : decode cX8_clear 8 = .ok (.ireturn, 1) := by decide +kernel
theorem dX8_clear_9 : decode cX8_clear 9 = .ok (.aload_n 0, 1) := by decide +kernel
theorem dX8_clear_10 : decode cX8_clear 10 = .ok (.getfield 14, 3) := by decide +kernel
theorem dX8_clear_13 : decode cX8_clear 13 = .ok (.iload_n 1, 1) := by decide +kernel
theorem dX8_clear_14 : decode cX8_clear 14 = .ok (.aaload, 1) := by decide +kernel
theorem dX8_clear_15 : decode cX8_clear 15 = .ok (.astore_n 2, 1) := by decide +kernel
theorem dX8_clear_16 : decode cX8_clear 16 = .ok (.aload_n 2, 1) := by decide +kernel
theorem dX8_clear_17 : decode cX8_clear 17 = .ok (.getfield 81, 3) := by decide +kernel
theorem dX8_clear_20 : decode cX8_clear 20 = .ok (.istore_n 3, 1) := by decide +kernel
theorem dX8_clear_21 : decode cX8_clear 21 = .ok (.aload_n 2, 1) := by decide +kernel
theorem dX8_clear_22 : decode cX8_clear 22 = .ok (.iconst 0, 1) := by decide +kernel
theorem dX8_clear_23 : decode cX8_clear 23 = .ok (.putfield 81, 3) := by decide +kernel
theorem dX8_clear_26 : decode cX8_clear 26 = .ok (.aload_n 2, 1) := by decide +kernel
theorem dX8_clear_27 : decode cX8_clear 27 = .ok (.iconst 0, 1) := by decide +kernel
theorem dX8_clear_28 : decode cX8_clear 28 = .ok (.invokevirtual 95, 3) := by decide +kernel
theorem dX8_clear_31 : decode cX8_clear 31 = .ok (.aload_n 0, 1) := by decide +kernel
theorem dX8_clear_32 : decode cX8_clear 32 = .ok (.invokevirtual 88, 3) := by decide +kernel
theorem dX8_clear_35 : decode cX8_clear 35 = .ok (.iload_n 3, 1) := by decide +kernel
theorem dX8_clear_36 : decode cX8_clear 36 = .ok (.ireturn, 1) := by decide +kernel
theorem dX8_silent_0 : decode cX8_silent 0 = .ok (.iload_n 1, 1) := by decide +kernel
theorem dX8_silent_1 : decode cX8_silent 1 = .ok (.invokestatic 73, 3) := by decide +kernel
theorem dX8_silent_4 : decode cX8_silent 4 = .ok (.ifCond .ne 5, 3) := by decide +kernel
theorem dX8_silent_7 : decode cX8_silent 7 = .ok (.iconst (-1), 1) := by decide +kernel
theorem dX8_silent_8 : decode cX8_silent 8 = .ok (.ireturn, 1) := by decide +kernel
theorem dX8_silent_9 : decode cX8_silent 9 = .ok (.iload_n 2, 1) := by decide +kernel
theorem dX8_silent_10 : decode cX8_silent 10 = .ok (.sipush 4095, 3) := by decide +kernel
theorem dX8_silent_13 : decode cX8_silent 13 = .ok (.invokestatic 99, 3) := by decide +kernel
theorem dX8_silent_16 : decode cX8_silent 16 = .ok (.ifCond .ne 6, 3) := by decide +kernel
theorem dX8_silent_19 : decode cX8_silent 19 = .ok (.bipush (-2), 2) := by decide +kernel
theorem dX8_silent_21 : decode cX8_silent 21 = .ok (.ireturn, 1) := by decide +kernel
theorem dX8_silent_22 : decode cX8_silent 22 = .ok (.aload_n 0, 1) := by decide +kernel
theorem dX8_silent_23 : decode cX8_silent 23 = .ok (.getfield 14, 3) := by decide +kernel
theorem dX8_silent_26 : decode cX8_silent 26 = .ok (.iload_n 1, 1) := by decide +kernel
theorem dX8_silent_27 : decode cX8_silent 27 = .ok (.aaload, 1) := by decide +kernel
theorem dX8_silent_28 : decode cX8_silent 28 = .ok (.astore_n 3, 1) := by decide +kernel
theorem dX8_silent_29 : decode cX8_silent 29 = .ok (.aload_n 3, 1) := by decide +kernel
theorem dX8_silent_30 : decode cX8_silent 30 = .ok (.getfield 103, 3) := by decide +kernel
theorem dX8_silent_33 : decode cX8_silent 33 = .ok (.istore 4, 2) := by decide +kernel
theorem dX8_silent_35 : decode cX8_silent 35 = .ok (.aload_n 3, 1) := by decide +kernel
theorem dX8_silent_36 : decode cX8_silent 36 = .ok (.iload_n 2, 1) := by decide +kernel
theorem dX8_silent_37 : decode cX8_silent 37 = .ok (.invokevirtual 95, 3) := by decide +kernel
theorem dX8_silent_40 : decode cX8_silent 40 = .ok (.aload_n 0, 1) := by decide +kernel
theorem dX8_silent_41 : decode cX8_silent 41 = .ok (.invokevirtual 88, 3) := by decide +kernel
theorem dX8_silent_44 : decode cX8_silent 44 = .ok (.iload 4, 2) := by decide +kernel
theorem dX8_silent_46 : decode cX8_silent 46 = .ok (.ireturn, 1) := by decide +kernel
theorem dX8_run_0 : decode cX8_run 0 = .ok (.iload_n 1, 1) := by decide +kernel
theorem dX8_run_1 : decode cX8_run 1 = .ok (.invokestatic 73, 3) := by decide +kernel
theorem dX8_run_4 : decode cX8_run 4 = .ok (.ifCond .ne 5, 3) := by decide +kernel
theorem dX8_run_7 : decode cX8_run 7 = .ok (.iconst (-1), 1) := by decide +kernel
theorem dX8_run_8 : decode cX8_run 8 = .ok (.ireturn, 1) := by decide +kernel
theorem dX8_run_9 : decode cX8_run 9 = .ok (.iload_n 3, 1) := by decide +kernel
theorem dX8_run_10 : decode cX8_run 10 = .ok (.bipush 10, 2) := by decide +kernel
theorem dX8_run_12 : decode cX8_run 12 = .ok (.if_icmp .lt 13, 3) := by decide +kernel
theorem dX8_run_15 : decode cX8_run 15 = .ok (.iload_n 3, 1) := by decide +kernel
theorem dX8_run_16 : decode cX8_run 16 = .ok (.bipush 34, 2) := by decide +kernel
theorem dX8_run_18 : decode cX8_run 18 = .ok (.if_icmp .ge 7, 3) := by decide +kernel
theorem dX8_run_21 : decode cX8_run 21 = .ok (.iconst 1, 1) := by decide +kernel
theorem dX8_run_22 : decode cX8_run 22 = .ok (.goto 4, 3) := by decide +kernel
theorem dX8_run_25 : decode cX8_run 25 = .ok (.iconst 0, 1) := by decide +kernel
theorem dX8_run_26 : decode cX8_run 26 = .ok (.istore 4, 2) := by decide +kernel
theorem dX8_run_28 : decode cX8_run 28 = .ok (.iload_n 2, 1) := by decide +kernel
theorem dX8_run_29 : decode cX8_run 29 = .ok (.invokestatic 106, 3) := by decide +kernel
theorem dX8_run_32 : decode cX8_run 32 = .ok (.ifCond .eq 16, 3) := by decide +kernel
theorem dX8_run_35 : decode cX8_run 35 = .ok (.iload_n 3, 1) := by decide +kernel
theorem dX8_run_36 : decode cX8_run 36 = .ok (.iconst 3, 1) := by decide +kernel
theorem dX8_run_37 : decode cX8_run 37 = .ok (.invokestatic 99, 3) := by decide +kernel
theorem dX8_run_40 : decode cX8_run 40 = .ok (.ifCond .ne 11, 3) := by decide +kernel
theorem dX8_run_43 : decode cX8_run 43 = .ok (.iload 4, 2) := by decide +kernel
theorem dX8_run_45 : decode cX8_run 45 = .ok (.ifCond .ne 6, 3) := by decide +kernel
theorem dX8_run_48 : decode cX8_run 48 = .ok (.bipush (-2), 2) := by decide +kernel
theorem dX8_run_50 : decode cX8_run 50 = .ok (.ireturn, 1) := by decide +kernel
theorem dX8_run_51 : decode cX8_run 51 = .ok (.aload_n 0, 1) := by decide +kernel
theorem dX8_run_52 : decode cX8_run 52 = .ok (.getfield 14, 3) := by decide +kernel
theorem dX8_run_55 : decode cX8_run 55 = .ok (.iload_n 1, 1) := by decide +kernel
theorem dX8_run_56 : decode cX8_run 56 = .ok (.aaload, 1) := by decide +kernel
theorem dX8_run_57 : decode cX8_run 57 = .ok (.astore 5, 2) := by decide +kernel
theorem dX8_run_59 : decode cX8_run 59 = .ok (.aload 5, 2) := by decide +kernel
theorem dX8_run_61 : decode cX8_run 61 = .ok (.iload_n 2, 1) := by decide +kernel
theorem dX8_run_62 : decode cX8_run 62 = .ok (.invokevirtual 109, 3) := by decide +kernel
theorem dX8_run_65 : decode cX8_run 65 = .ok (.iload_n 3, 1) := by decide +kernel
theorem dX8_run_66 : decode cX8_run 66 = .ok (.tableswitch 62 0 3 #[30, 38, 46, 54], 30) := by decide +kernel
theorem dX8_run_96 : decode cX8_run 96 = .ok (.aload 5, 2) := by decide +kernel
theorem dX8_run_98 : decode cX8_run 98 = .ok (.getfield 112, 3) := by decide +kernel
theorem dX8_run_101 : decode cX8_run 101 = .ok (.iload_n 2, 1) := by decide +kernel
theorem dX8_run_102 : decode cX8_run 102 = .ok (.iaload, 1) := by decide +kernel
theorem dX8_run_103 : decode cX8_run 103 = .ok (.ireturn, 1) := by decide +kernel
theorem dX8_run_104 : decode cX8_run 104 = .ok (.aload 5, 2) := by decide +kernel
theorem dX8_run_106 : decode cX8_run 106 = .ok (.getfield 115, 3) := by decide +kernel
theorem dX8_run_109 : decode cX8_run 109 = .ok (.iload_n 2, 1) := by decide +kernel
theorem dX8_run_110 : decode cX8_run 110 = .ok (.iaload, 1) := by decide +kernel
theorem dX8_run_111 : decode cX8_run 111 = .ok (.ireturn, 1) := by decide +kernel
theorem dX8_run_112 : decode cX8_run 112 = .ok (.aload 5, 2) := by decide +kernel
theorem dX8_run_114 : decode cX8_run 114 = .ok (.getfield 118, 3) := by decide +kernel
theorem dX8_run_117 : decode cX8_run 117 = .ok (.iload_n 2, 1) := by decide +kernel
theorem dX8_run_118 : decode cX8_run 118 = .ok (.iaload, 1) := by decide +kernel
theorem dX8_run_119 : decode cX8_run 119 = .ok (.ireturn, 1) := by decide +kernel
theorem dX8_run_120 : decode cX8_run 120 = .ok (.aload 5, 2) := by decide +kernel
theorem dX8_run_122 : decode cX8_run 122 = .ok (.getfield 121, 3) := by decide +kernel
theorem dX8_run_125 : decode cX8_run 125 = .ok (.iload_n 2, 1) := by decide +kernel
theorem dX8_run_126 : decode cX8_run 126 = .ok (.iaload, 1) := by decide +kernel
theorem dX8_run_127 : decode cX8_run 127 = .ok (.ireturn, 1) := by decide +kernel
theorem dX8_run_128 : decode cX8_run 128 = .ok (.aload 5, 2) := by decide +kernel
theorem dX8_run_130 : decode cX8_run 130 = .ok (.iload_n 2, 1) := by decide +kernel
theorem dX8_run_131 : decode cX8_run 131 = .ok (.iload_n 3, 1) := by decide +kernel
theorem dX8_run_132 : decode cX8_run 132 = .ok (.bipush 10, 2) := by decide +kernel
theorem dX8_run_134 : decode cX8_run 134 = .ok (.isub, 1) := by decide +kernel
theorem dX8_run_135 : decode cX8_run 135 = .ok (.invokevirtual 124, 3) := by decide +kernel
theorem dX8_run_138 : decode cX8_run 138 = .ok (.ireturn, 1) := by decide +kernel
theorem dX8_say_0 : decode cX8_say 0 = .ok (.iload_n 1, 1) := by decide +kernel
theorem dX8_say_1 : decode cX8_say 1 = .ok (.bipush 33, 2) := by decide +kernel
theorem dX8_say_3 : decode cX8_say 3 = .ok (.if_icmp .lt 9, 3) := by decide +kernel
theorem dX8_say_6 : decode cX8_say 6 = .ok (.iload_n 1, 1) := by decide +kernel
theorem dX8_say_7 : decode cX8_say 7 = .ok (.bipush 126, 2) := by decide +kernel
theorem dX8_say_9 : decode cX8_say 9 = .ok (.if_icmp .le 6, 3) := by decide +kernel
theorem dX8_say_12 : decode cX8_say 12 = .ok (.bipush (-2), 2) := by decide +kernel
theorem dX8_say_14 : decode cX8_say 14 = .ok (.ireturn, 1) := by decide +kernel
theorem dX8_say_15 : decode cX8_say 15 = .ok (.aload_n 0, 1) := by decide +kernel
theorem dX8_say_16 : decode cX8_say 16 = .ok (.getfield 32, 3) := by decide +kernel
theorem dX8_say_19 : decode cX8_say 19 = .ok (.getfield 128, 3) := by decide +kernel
theorem dX8_say_22 : decode cX8_say 22 = .ok (.bipush 40, 2) := by decide +kernel
theorem dX8_say_24 : decode cX8_say 24 = .ok (.if_icmp .lt 6, 3) := by decide +kernel
theorem dX8_say_27 : decode cX8_say 27 = .ok (.bipush (-4), 2) := by decide +kernel
theorem dX8_say_29 : decode cX8_say 29 = .ok (.ireturn, 1) := by decide +kernel
theorem dX8_say_30 : decode cX8_say 30 = .ok (.aload_n 0, 1) := by decide +kernel
theorem dX8_say_31 : decode cX8_say 31 = .ok (.getfield 32, 3) := by decide +kernel
theorem dX8_say_34 : decode cX8_say 34 = .ok (.getfield 129, 3) := by decide +kernel
theorem dX8_say_37 : decode cX8_say 37 = .ok (.aload_n 0, 1) := by decide +kernel
theorem dX8_say_38 : decode cX8_say 38 = .ok (.getfield 32, 3) := by decide +kernel
theorem dX8_say_41 : decode cX8_say 41 = .ok (.getfield 128, 3) := by decide +kernel
theorem dX8_say_44 : decode cX8_say 44 = .ok (.iload_n 1, 1) := by decide +kernel
theorem dX8_say_45 : decode cX8_say 45 = .ok (.iastore, 1) := by decide +kernel
theorem dX8_say_46 : decode cX8_say 46 = .ok (.aload_n 0, 1) := by decide +kernel
theorem dX8_say_47 : decode cX8_say 47 = .ok (.getfield 32, 3) := by decide +kernel
theorem dX8_say_50 : decode cX8_say 50 = .ok (.dup, 1) := by decide +kernel
theorem dX8_say_51 : decode cX8_say 51 = .ok (.getfield 128, 3) := by decide +kernel
theorem dX8_say_54 : decode cX8_say 54 = .ok (.iconst 1, 1) := by decide +kernel
theorem dX8_say_55 : decode cX8_say 55 = .ok (.iadd, 1) := by decide +kernel
theorem dX8_say_56 : decode cX8_say 56 = .ok (.putfield 128, 3) := by decide +kernel
theorem dX8_say_59 : decode cX8_say 59 = .ok (.aload_n 0, 1) := by decide +kernel
theorem dX8_say_60 : decode cX8_say 60 = .ok (.getfield 32, 3) := by decide +kernel
theorem dX8_say_63 : decode cX8_say 63 = .ok (.getfield 128, 3) := by decide +kernel
theorem dX8_say_66 : decode cX8_say 66 = .ok (.ireturn, 1) := by decide +kernel
theorem dX8_wipe_0 : decode cX8_wipe 0 = .ok (.aload_n 0, 1) := by decide +kernel
theorem dX8_wipe_1 : decode cX8_wipe 1 = .ok (.getfield 32, 3) := by decide +kernel
theorem dX8_wipe_4 : decode cX8_wipe 4 = .ok (.getfield 128, 3) := by decide +kernel
theorem dX8_wipe_7 : decode cX8_wipe 7 = .ok (.istore_n 1, 1) := by decide +kernel
theorem dX8_wipe_8 : decode cX8_wipe 8 = .ok (.aload_n 0, 1) := by decide +kernel
theorem dX8_wipe_9 : decode cX8_wipe 9 = .ok (.getfield 32, 3) := by decide +kernel
theorem dX8_wipe_12 : decode cX8_wipe 12 = .ok (.iconst 0, 1) := by decide +kernel
theorem dX8_wipe_13 : decode cX8_wipe 13 = .ok (.putfield 128, 3) := by decide +kernel
theorem dX8_wipe_16 : decode cX8_wipe 16 = .ok (.iload_n 1, 1) := by decide +kernel
theorem dX8_wipe_17 : decode cX8_wipe 17 = .ok (.ireturn, 1) := by decide +kernel
theorem dX8_fault_0 : decode cX8_fault 0 = .ok (.aload_n 0, 1) := by decide +kernel
theorem dX8_fault_1 : decode cX8_fault 1 = .ok (.getfield 32, 3) := by decide +kernel
theorem dX8_fault_4 : decode cX8_fault 4 = .ok (.invokevirtual 132, 3) := by decide +kernel
theorem dX8_fault_7 : decode cX8_fault 7 = .ok (.ireturn, 1) := by decide +kernel
theorem dX8_saying_0 : decode cX8_saying 0 = .ok (.aload_n 0, 1) := by decide +kernel
theorem dX8_saying_1 : decode cX8_saying 1 = .ok (.getfield 28, 3) := by decide +kernel
theorem dX8_saying_4 : decode cX8_saying 4 = .ok (.bipush 6, 2) := by decide +kernel
theorem dX8_saying_6 : decode cX8_saying 6 = .ok (.if_icmp .lt 6, 3) := by decide +kernel
theorem dX8_saying_9 : decode cX8_saying 9 = .ok (.bipush (-4), 2) := by decide +kernel
theorem dX8_saying_11 : decode cX8_saying 11 = .ok (.ireturn, 1) := by decide +kernel
theorem dX8_saying_12 : decode cX8_saying 12 = .ok (.aload_n 0, 1) := by decide +kernel
theorem dX8_saying_13 : decode cX8_saying 13 = .ok (.getfield 32, 3) := by decide +kernel
theorem dX8_saying_16 : decode cX8_saying 16 = .ok (.invokevirtual 132, 3) := by decide +kernel
theorem dX8_saying_19 : decode cX8_saying 19 = .ok (.bipush (-6), 2) := by decide +kernel
theorem dX8_saying_21 : decode cX8_saying 21 = .ok (.if_icmp .eq 6, 3) := by decide +kernel
theorem dX8_saying_24 : decode cX8_saying 24 = .ok (.bipush (-5), 2) := by decide +kernel
theorem dX8_saying_26 : decode cX8_saying 26 = .ok (.ireturn, 1) := by decide +kernel
theorem dX8_saying_27 : decode cX8_saying 27 = .ok (.aload_n 0, 1) := by decide +kernel
theorem dX8_saying_28 : decode cX8_saying 28 = .ok (.getfield 23, 3) := by decide +kernel
theorem dX8_saying_31 : decode cX8_saying 31 = .ok (.aload_n 0, 1) := by decide +kernel
theorem dX8_saying_32 : decode cX8_saying 32 = .ok (.getfield 28, 3) := by decide +kernel
theorem dX8_saying_35 : decode cX8_saying 35 = .ok (.aaload, 1) := by decide +kernel
theorem dX8_saying_36 : decode cX8_saying 36 = .ok (.aload_n 0, 1) := by decide +kernel
theorem dX8_saying_37 : decode cX8_saying 37 = .ok (.getfield 32, 3) := by decide +kernel
theorem dX8_saying_40 : decode cX8_saying 40 = .ok (.invokevirtual 136, 3) := by decide +kernel
theorem dX8_saying_43 : decode cX8_saying 43 = .ok (.aload_n 0, 1) := by decide +kernel
theorem dX8_saying_44 : decode cX8_saying 44 = .ok (.getfield 32, 3) := by decide +kernel
theorem dX8_saying_47 : decode cX8_saying 47 = .ok (.iconst 0, 1) := by decide +kernel
theorem dX8_saying_48 : decode cX8_saying 48 = .ok (.putfield 128, 3) := by decide +kernel
theorem dX8_saying_51 : decode cX8_saying 51 = .ok (.aload_n 0, 1) := by decide +kernel
theorem dX8_saying_52 : decode cX8_saying 52 = .ok (.dup, 1) := by decide +kernel
theorem dX8_saying_53 : decode cX8_saying 53 = .ok (.getfield 28, 3) := by decide +kernel
theorem dX8_saying_56 : decode cX8_saying 56 = .ok (.iconst 1, 1) := by decide +kernel
theorem dX8_saying_57 : decode cX8_saying 57 = .ok (.iadd, 1) := by decide +kernel
theorem dX8_saying_58 : decode cX8_saying 58 = .ok (.putfield 28, 3) := by decide +kernel
theorem dX8_saying_61 : decode cX8_saying 61 = .ok (.aload_n 0, 1) := by decide +kernel
theorem dX8_saying_62 : decode cX8_saying 62 = .ok (.getfield 28, 3) := by decide +kernel
theorem dX8_saying_65 : decode cX8_saying 65 = .ok (.iconst 1, 1) := by decide +kernel
theorem dX8_saying_66 : decode cX8_saying 66 = .ok (.isub, 1) := by decide +kernel
theorem dX8_saying_67 : decode cX8_saying 67 = .ok (.ireturn, 1) := by decide +kernel
theorem dX8_pair_0 : decode cX8_pair 0 = .ok (.aload_n 0, 1) := by decide +kernel
theorem dX8_pair_1 : decode cX8_pair 1 = .ok (.iload_n 1, 1) := by decide +kernel
theorem dX8_pair_2 : decode cX8_pair 2 = .ok (.invokevirtual 140, 3) := by decide +kernel
theorem dX8_pair_5 : decode cX8_pair 5 = .ok (.ifCond .eq 18, 3) := by decide +kernel
theorem dX8_pair_8 : decode cX8_pair 8 = .ok (.iload_n 2, 1) := by decide +kernel
theorem dX8_pair_9 : decode cX8_pair 9 = .ok (.invokestatic 73, 3) := by decide +kernel
theorem dX8_pair_12 : decode cX8_pair 12 = .ok (.ifCond .eq 11, 3) := by decide +kernel
theorem dX8_pair_15 : decode cX8_pair 15 = .ok (.iload 4, 2) := by decide +kernel
theorem dX8_pair_17 : decode cX8_pair 17 = .ok (.invokestatic 73, 3) := by decide +kernel
theorem dX8_pair_20 : decode cX8_pair 20 = .ok (.ifCond .ne 5, 3) := by decide +kernel
theorem dX8_pair_23 : decode cX8_pair 23 = .ok (.iconst (-1), 1) := by decide +kernel
theorem dX8_pair_24 : decode cX8_pair 24 = .ok (.ireturn, 1) := by decide +kernel
theorem dX8_pair_25 : decode cX8_pair 25 = .ok (.iload_n 3, 1) := by decide +kernel
theorem dX8_pair_26 : decode cX8_pair 26 = .ok (.invokestatic 106, 3) := by decide +kernel
theorem dX8_pair_29 : decode cX8_pair 29 = .ok (.ifCond .eq 20, 3) := by decide +kernel
theorem dX8_pair_32 : decode cX8_pair 32 = .ok (.iload 5, 2) := by decide +kernel
theorem dX8_pair_34 : decode cX8_pair 34 = .ok (.invokestatic 106, 3) := by decide +kernel
theorem dX8_pair_37 : decode cX8_pair 37 = .ok (.ifCond .eq 12, 3) := by decide +kernel
theorem dX8_pair_40 : decode cX8_pair 40 = .ok (.iload 6, 2) := by decide +kernel
theorem dX8_pair_42 : decode cX8_pair 42 = .ok (.iconst 1, 1) := by decide +kernel
theorem dX8_pair_43 : decode cX8_pair 43 = .ok (.invokestatic 99, 3) := by decide +kernel
theorem dX8_pair_46 : decode cX8_pair 46 = .ok (.ifCond .ne 6, 3) := by decide +kernel
theorem dX8_pair_49 : decode cX8_pair 49 = .ok (.bipush (-2), 2) := by decide +kernel
theorem dX8_pair_51 : decode cX8_pair 51 = .ok (.ireturn, 1) := by decide +kernel
theorem dX8_pair_52 : decode cX8_pair 52 = .ok (.aload_n 0, 1) := by decide +kernel
theorem dX8_pair_53 : decode cX8_pair 53 = .ok (.getfield 14, 3) := by decide +kernel
theorem dX8_pair_56 : decode cX8_pair 56 = .ok (.iload_n 2, 1) := by decide +kernel
theorem dX8_pair_57 : decode cX8_pair 57 = .ok (.aaload, 1) := by decide +kernel
theorem dX8_pair_58 : decode cX8_pair 58 = .ok (.iload_n 3, 1) := by decide +kernel
theorem dX8_pair_59 : decode cX8_pair 59 = .ok (.invokevirtual 109, 3) := by decide +kernel
theorem dX8_pair_62 : decode cX8_pair 62 = .ok (.aload_n 0, 1) := by decide +kernel
theorem dX8_pair_63 : decode cX8_pair 63 = .ok (.getfield 14, 3) := by decide +kernel
theorem dX8_pair_66 : decode cX8_pair 66 = .ok (.iload 4, 2) := by decide +kernel
theorem dX8_pair_68 : decode cX8_pair 68 = .ok (.aaload, 1) := by decide +kernel
theorem dX8_pair_69 : decode cX8_pair 69 = .ok (.iload 5, 2) := by decide +kernel
theorem dX8_pair_71 : decode cX8_pair 71 = .ok (.invokevirtual 109, 3) := by decide +kernel
theorem dX8_pair_74 : decode cX8_pair 74 = .ok (.aload_n 0, 1) := by decide +kernel
theorem dX8_pair_75 : decode cX8_pair 75 = .ok (.getfield 39, 3) := by decide +kernel
theorem dX8_pair_78 : decode cX8_pair 78 = .ok (.aload_n 0, 1) := by decide +kernel
theorem dX8_pair_79 : decode cX8_pair 79 = .ok (.getfield 23, 3) := by decide +kernel
theorem dX8_pair_82 : decode cX8_pair 82 = .ok (.iload_n 1, 1) := by decide +kernel
theorem dX8_pair_83 : decode cX8_pair 83 = .ok (.aaload, 1) := by decide +kernel
theorem dX8_pair_84 : decode cX8_pair 84 = .ok (.aload_n 0, 1) := by decide +kernel
theorem dX8_pair_85 : decode cX8_pair 85 = .ok (.getfield 14, 3) := by decide +kernel
theorem dX8_pair_88 : decode cX8_pair 88 = .ok (.iload_n 2, 1) := by decide +kernel
theorem dX8_pair_89 : decode cX8_pair 89 = .ok (.aaload, 1) := by decide +kernel
theorem dX8_pair_90 : decode cX8_pair 90 = .ok (.iload_n 3, 1) := by decide +kernel
theorem dX8_pair_91 : decode cX8_pair 91 = .ok (.invokevirtual 143, 3) := by decide +kernel
theorem dX8_pair_94 : decode cX8_pair 94 = .ok (.aload_n 0, 1) := by decide +kernel
theorem dX8_pair_95 : decode cX8_pair 95 = .ok (.getfield 39, 3) := by decide +kernel
theorem dX8_pair_98 : decode cX8_pair 98 = .ok (.iload 5, 2) := by decide +kernel
theorem dX8_pair_100 : decode cX8_pair 100 = .ok (.invokevirtual 146, 3) := by decide +kernel
theorem dX8_pair_103 : decode cX8_pair 103 = .ok (.ifCond .eq 31, 3) := by decide +kernel
theorem dX8_pair_106 : decode cX8_pair 106 = .ok (.iload 6, 2) := by decide +kernel
theorem dX8_pair_108 : decode cX8_pair 108 = .ok (.ifCond .eq 22, 3) := by decide +kernel
theorem dX8_pair_111 : decode cX8_pair 111 = .ok (.aload_n 0, 1) := by decide +kernel
theorem dX8_pair_112 : decode cX8_pair 112 = .ok (.getfield 39, 3) := by decide +kernel
theorem dX8_pair_115 : decode cX8_pair 115 = .ok (.aload_n 0, 1) := by decide +kernel
theorem dX8_pair_116 : decode cX8_pair 116 = .ok (.getfield 14, 3) := by decide +kernel
theorem dX8_pair_119 : decode cX8_pair 119 = .ok (.iload 4, 2) := by decide +kernel
theorem dX8_pair_121 : decode cX8_pair 121 = .ok (.aaload, 1) := by decide +kernel
theorem dX8_pair_122 : decode cX8_pair 122 = .ok (.iload 5, 2) := by decide +kernel
theorem dX8_pair_124 : decode cX8_pair 124 = .ok (.invokevirtual 149, 3) := by decide +kernel
theorem dX8_pair_127 : decode cX8_pair 127 = .ok (.ifCond .eq 7, 3) := by decide +kernel
theorem dX8_pair_130 : decode cX8_pair 130 = .ok (.iconst 1, 1) := by decide +kernel
theorem dX8_pair_131 : decode cX8_pair 131 = .ok (.goto 4, 3) := by decide +kernel
theorem dX8_pair_134 : decode cX8_pair 134 = .ok (.iconst 0, 1) := by decide +kernel
theorem dX8_pair_135 : decode cX8_pair 135 = .ok (.istore 7, 2) := by decide +kernel
theorem dX8_pair_137 : decode cX8_pair 137 = .ok (.iload 7, 2) := by decide +kernel
theorem dX8_pair_139 : decode cX8_pair 139 = .ok (.ifCond .eq 7, 3) := by decide +kernel
theorem dX8_pair_142 : decode cX8_pair 142 = .ok (.iconst 1, 1) := by decide +kernel
theorem dX8_pair_143 : decode cX8_pair 143 = .ok (.goto 4, 3) := by decide +kernel
theorem dX8_pair_146 : decode cX8_pair 146 = .ok (.iconst 0, 1) := by decide +kernel
theorem dX8_pair_147 : decode cX8_pair 147 = .ok (.ireturn, 1) := by decide +kernel
theorem dX8_holds_0 : decode cX8_holds 0 = .ok (.aload_n 0, 1) := by decide +kernel
theorem dX8_holds_1 : decode cX8_holds 1 = .ok (.iload_n 1, 1) := by decide +kernel
theorem dX8_holds_2 : decode cX8_holds 2 = .ok (.invokevirtual 140, 3) := by decide +kernel
theorem dX8_holds_5 : decode cX8_holds 5 = .ok (.ifCond .eq 17, 3) := by decide +kernel
theorem dX8_holds_8 : decode cX8_holds 8 = .ok (.iload_n 2, 1) := by decide +kernel
theorem dX8_holds_9 : decode cX8_holds 9 = .ok (.invokestatic 73, 3) := by decide +kernel
theorem dX8_holds_12 : decode cX8_holds 12 = .ok (.ifCond .eq 10, 3) := by decide +kernel
theorem dX8_holds_15 : decode cX8_holds 15 = .ok (.iload_n 3, 1) := by decide +kernel
theorem dX8_holds_16 : decode cX8_holds 16 = .ok (.invokestatic 73, 3) := by decide +kernel
theorem dX8_holds_19 : decode cX8_holds 19 = .ok (.ifCond .ne 5, 3) := by decide +kernel
theorem dX8_holds_22 : decode cX8_holds 22 = .ok (.iconst (-1), 1) := by decide +kernel
theorem dX8_holds_23 : decode cX8_holds 23 = .ok (.ireturn, 1) := by decide +kernel
theorem dX8_holds_24 : decode cX8_holds 24 = .ok (.iload 4, 2) := by decide +kernel
theorem dX8_holds_26 : decode cX8_holds 26 = .ok (.iconst 3, 1) := by decide +kernel
theorem dX8_holds_27 : decode cX8_holds 27 = .ok (.invokestatic 99, 3) := by decide +kernel
theorem dX8_holds_30 : decode cX8_holds 30 = .ok (.ifCond .ne 6, 3) := by decide +kernel
theorem dX8_holds_33 : decode cX8_holds 33 = .ok (.bipush (-2), 2) := by decide +kernel
theorem dX8_holds_35 : decode cX8_holds 35 = .ok (.ireturn, 1) := by decide +kernel
theorem dX8_holds_36 : decode cX8_holds 36 = .ok (.iload_n 1, 1) := by decide +kernel
theorem dX8_holds_37 : decode cX8_holds 37 = .ok (.iload_n 2, 1) := by decide +kernel
theorem dX8_holds_38 : decode cX8_holds 38 = .ok (.iload_n 3, 1) := by decide +kernel
theorem dX8_holds_39 : decode cX8_holds 39 = .ok (.invokestatic 153, 3) := by decide +kernel
theorem dX8_holds_42 : decode cX8_holds 42 = .ok (.istore 5, 2) := by decide +kernel
theorem dX8_holds_44 : decode cX8_holds 44 = .ok (.aload_n 0, 1) := by decide +kernel
theorem dX8_holds_45 : decode cX8_holds 45 = .ok (.getfield 48, 3) := by decide +kernel
theorem dX8_holds_48 : decode cX8_holds 48 = .ok (.getfield 157, 3) := by decide +kernel
theorem dX8_holds_51 : decode cX8_holds 51 = .ok (.iload 5, 2) := by decide +kernel
theorem dX8_holds_53 : decode cX8_holds 53 = .ok (.if_icmp .eq 37, 3) := by decide +kernel
theorem dX8_holds_56 : decode cX8_holds 56 = .ok (.aload_n 0, 1) := by decide +kernel
theorem dX8_holds_57 : decode cX8_holds 57 = .ok (.getfield 48, 3) := by decide +kernel
theorem dX8_holds_60 : decode cX8_holds 60 = .ok (.aload_n 0, 1) := by decide +kernel
theorem dX8_holds_61 : decode cX8_holds 61 = .ok (.getfield 23, 3) := by decide +kernel
theorem dX8_holds_64 : decode cX8_holds 64 = .ok (.iload_n 1, 1) := by decide +kernel
theorem dX8_holds_65 : decode cX8_holds 65 = .ok (.aaload, 1) := by decide +kernel
theorem dX8_holds_66 : decode cX8_holds 66 = .ok (.aload_n 0, 1) := by decide +kernel
theorem dX8_holds_67 : decode cX8_holds 67 = .ok (.getfield 14, 3) := by decide +kernel
theorem dX8_holds_70 : decode cX8_holds 70 = .ok (.iload_n 2, 1) := by decide +kernel
theorem dX8_holds_71 : decode cX8_holds 71 = .ok (.aaload, 1) := by decide +kernel
theorem dX8_holds_72 : decode cX8_holds 72 = .ok (.aload_n 0, 1) := by decide +kernel
theorem dX8_holds_73 : decode cX8_holds 73 = .ok (.getfield 14, 3) := by decide +kernel
theorem dX8_holds_76 : decode cX8_holds 76 = .ok (.iload_n 3, 1) := by decide +kernel
theorem dX8_holds_77 : decode cX8_holds 77 = .ok (.aaload, 1) := by decide +kernel
theorem dX8_holds_78 : decode cX8_holds 78 = .ok (.invokevirtual 160, 3) := by decide +kernel
theorem dX8_holds_81 : decode cX8_holds 81 = .ok (.aload_n 0, 1) := by decide +kernel
theorem dX8_holds_82 : decode cX8_holds 82 = .ok (.getfield 48, 3) := by decide +kernel
theorem dX8_holds_85 : decode cX8_holds 85 = .ok (.iload 5, 2) := by decide +kernel
theorem dX8_holds_87 : decode cX8_holds 87 = .ok (.putfield 157, 3) := by decide +kernel
theorem dX8_holds_90 : decode cX8_holds 90 = .ok (.iload 4, 2) := by decide +kernel
theorem dX8_holds_92 : decode cX8_holds 92 = .ok (.tableswitch 52 0 2 #[28, 36, 44], 28) := by decide +kernel
theorem dX8_holds_120 : decode cX8_holds 120 = .ok (.aload_n 0, 1) := by decide +kernel
theorem dX8_holds_121 : decode cX8_holds 121 = .ok (.getfield 48, 3) := by decide +kernel
theorem dX8_holds_124 : decode cX8_holds 124 = .ok (.getfield 164, 3) := by decide +kernel
theorem dX8_holds_127 : decode cX8_holds 127 = .ok (.ireturn, 1) := by decide +kernel
theorem dX8_holds_128 : decode cX8_holds 128 = .ok (.aload_n 0, 1) := by decide +kernel
theorem dX8_holds_129 : decode cX8_holds 129 = .ok (.getfield 48, 3) := by decide +kernel
theorem dX8_holds_132 : decode cX8_holds 132 = .ok (.getfield 167, 3) := by decide +kernel
theorem dX8_holds_135 : decode cX8_holds 135 = .ok (.ireturn, 1) := by decide +kernel
theorem dX8_holds_136 : decode cX8_holds 136 = .ok (.aload_n 0, 1) := by decide +kernel
theorem dX8_holds_137 : decode cX8_holds 137 = .ok (.getfield 48, 3) := by decide +kernel
theorem dX8_holds_140 : decode cX8_holds 140 = .ok (.getfield 170, 3) := by decide +kernel
theorem dX8_holds_143 : decode cX8_holds 143 = .ok (.ireturn, 1) := by decide +kernel
theorem dX8_holds_144 : decode cX8_holds 144 = .ok (.aload_n 0, 1) := by decide +kernel
theorem dX8_holds_145 : decode cX8_holds 145 = .ok (.getfield 48, 3) := by decide +kernel
theorem dX8_holds_148 : decode cX8_holds 148 = .ok (.getfield 173, 3) := by decide +kernel
theorem dX8_holds_151 : decode cX8_holds 151 = .ok (.ireturn, 1) := by decide +kernel
theorem dX8_part_0 : decode cX8_part 0 = .ok (.iload_n 1, 1) := by decide +kernel
theorem dX8_part_1 : decode cX8_part 1 = .ok (.invokestatic 73, 3) := by decide +kernel
theorem dX8_part_4 : decode cX8_part 4 = .ok (.ifCond .eq 10, 3) := by decide +kernel
theorem dX8_part_7 : decode cX8_part 7 = .ok (.iload_n 3, 1) := by decide +kernel
theorem dX8_part_8 : decode cX8_part 8 = .ok (.invokestatic 73, 3) := by decide +kernel
theorem dX8_part_11 : decode cX8_part 11 = .ok (.ifCond .ne 5, 3) := by decide +kernel
theorem dX8_part_14 : decode cX8_part 14 = .ok (.iconst (-1), 1) := by decide +kernel
theorem dX8_part_15 : decode cX8_part 15 = .ok (.ireturn, 1) := by decide +kernel
theorem dX8_part_16 : decode cX8_part 16 = .ok (.iload_n 2, 1) := by decide +kernel
theorem dX8_part_17 : decode cX8_part 17 = .ok (.invokestatic 106, 3) := by decide +kernel
theorem dX8_part_20 : decode cX8_part 20 = .ok (.ifCond .eq 11, 3) := by decide +kernel
theorem dX8_part_23 : decode cX8_part 23 = .ok (.iload 4, 2) := by decide +kernel
theorem dX8_part_25 : decode cX8_part 25 = .ok (.invokestatic 106, 3) := by decide +kernel
theorem dX8_part_28 : decode cX8_part 28 = .ok (.ifCond .ne 6, 3) := by decide +kernel
theorem dX8_part_31 : decode cX8_part 31 = .ok (.bipush (-2), 2) := by decide +kernel
theorem dX8_part_33 : decode cX8_part 33 = .ok (.ireturn, 1) := by decide +kernel
theorem dX8_part_34 : decode cX8_part 34 = .ok (.aload_n 0, 1) := by decide +kernel
theorem dX8_part_35 : decode cX8_part 35 = .ok (.getfield 14, 3) := by decide +kernel
theorem dX8_part_38 : decode cX8_part 38 = .ok (.iload_n 1, 1) := by decide +kernel
theorem dX8_part_39 : decode cX8_part 39 = .ok (.aaload, 1) := by decide +kernel
theorem dX8_part_40 : decode cX8_part 40 = .ok (.iload_n 2, 1) := by decide +kernel
theorem dX8_part_41 : decode cX8_part 41 = .ok (.invokevirtual 109, 3) := by decide +kernel
theorem dX8_part_44 : decode cX8_part 44 = .ok (.aload_n 0, 1) := by decide +kernel
theorem dX8_part_45 : decode cX8_part 45 = .ok (.getfield 14, 3) := by decide +kernel
theorem dX8_part_48 : decode cX8_part 48 = .ok (.iload_n 3, 1) := by decide +kernel
theorem dX8_part_49 : decode cX8_part 49 = .ok (.aaload, 1) := by decide +kernel
theorem dX8_part_50 : decode cX8_part 50 = .ok (.iload 4, 2) := by decide +kernel
theorem dX8_part_52 : decode cX8_part 52 = .ok (.invokevirtual 109, 3) := by decide +kernel
theorem dX8_part_55 : decode cX8_part 55 = .ok (.iconst 0, 1) := by decide +kernel
theorem dX8_part_56 : decode cX8_part 56 = .ok (.istore 5, 2) := by decide +kernel
theorem dX8_part_58 : decode cX8_part 58 = .ok (.iload 5, 2) := by decide +kernel
theorem dX8_part_60 : decode cX8_part 60 = .ok (.bipush 24, 2) := by decide +kernel
theorem dX8_part_62 : decode cX8_part 62 = .ok (.if_icmp .gt 48, 3) := by decide +kernel
theorem dX8_part_65 : decode cX8_part 65 = .ok (.aload_n 0, 1) := by decide +kernel
theorem dX8_part_66 : decode cX8_part 66 = .ok (.getfield 14, 3) := by decide +kernel
theorem dX8_part_69 : decode cX8_part 69 = .ok (.iload_n 1, 1) := by decide +kernel
theorem dX8_part_70 : decode cX8_part 70 = .ok (.aaload, 1) := by decide +kernel
theorem dX8_part_71 : decode cX8_part 71 = .ok (.iload_n 2, 1) := by decide +kernel
theorem dX8_part_72 : decode cX8_part 72 = .ok (.iload 5, 2) := by decide +kernel
theorem dX8_part_74 : decode cX8_part 74 = .ok (.invokevirtual 176, 3) := by decide +kernel
theorem dX8_part_77 : decode cX8_part 77 = .ok (.istore 6, 2) := by decide +kernel
theorem dX8_part_79 : decode cX8_part 79 = .ok (.aload_n 0, 1) := by decide +kernel
theorem dX8_part_80 : decode cX8_part 80 = .ok (.getfield 14, 3) := by decide +kernel
theorem dX8_part_83 : decode cX8_part 83 = .ok (.iload_n 3, 1) := by decide +kernel
theorem dX8_part_84 : decode cX8_part 84 = .ok (.aaload, 1) := by decide +kernel
theorem dX8_part_85 : decode cX8_part 85 = .ok (.iload 4, 2) := by decide +kernel
theorem dX8_part_87 : decode cX8_part 87 = .ok (.iload 5, 2) := by decide +kernel
theorem dX8_part_89 : decode cX8_part 89 = .ok (.invokevirtual 176, 3) := by decide +kernel
theorem dX8_part_92 : decode cX8_part 92 = .ok (.istore 7, 2) := by decide +kernel
theorem dX8_part_94 : decode cX8_part 94 = .ok (.iload 6, 2) := by decide +kernel
theorem dX8_part_96 : decode cX8_part 96 = .ok (.iload 7, 2) := by decide +kernel
theorem dX8_part_98 : decode cX8_part 98 = .ok (.if_icmp .eq 6, 3) := by decide +kernel
theorem dX8_part_101 : decode cX8_part 101 = .ok (.iload 5, 2) := by decide +kernel
theorem dX8_part_103 : decode cX8_part 103 = .ok (.ireturn, 1) := by decide +kernel
theorem dX8_part_104 : decode cX8_part 104 = .ok (.iinc 5 1, 3) := by decide +kernel
theorem dX8_part_107 : decode cX8_part 107 = .ok (.goto (-49), 3) := by decide +kernel
theorem dX8_part_110 : decode cX8_part 110 = .ok (.bipush (-6), 2) := by decide +kernel
theorem dX8_part_112 : decode cX8_part 112 = .ok (.ireturn, 1) := by decide +kernel
theorem dX8_wait_0 : decode cX8_wait 0 = .ok (.iload_n 1, 1) := by decide +kernel
theorem dX8_wait_1 : decode cX8_wait 1 = .ok (.bipush 11, 2) := by decide +kernel
theorem dX8_wait_3 : decode cX8_wait 3 = .ok (.invokestatic 99, 3) := by decide +kernel
theorem dX8_wait_6 : decode cX8_wait 6 = .ok (.ifCond .eq 20, 3) := by decide +kernel
theorem dX8_wait_9 : decode cX8_wait 9 = .ok (.iload_n 2, 1) := by decide +kernel
theorem dX8_wait_10 : decode cX8_wait 10 = .ok (.bipush 11, 2) := by decide +kernel
theorem dX8_wait_12 : decode cX8_wait 12 = .ok (.invokestatic 99, 3) := by decide +kernel
theorem dX8_wait_15 : decode cX8_wait 15 = .ok (.ifCond .eq 11, 3) := by decide +kernel
theorem dX8_wait_18 : decode cX8_wait 18 = .ok (.iload_n 3, 1) := by decide +kernel
theorem dX8_wait_19 : decode cX8_wait 19 = .ok (.iconst 2, 1) := by decide +kernel
theorem dX8_wait_20 : decode cX8_wait 20 = .ok (.invokestatic 99, 3) := by decide +kernel
theorem dX8_wait_23 : decode cX8_wait 23 = .ok (.ifCond .ne 6, 3) := by decide +kernel
theorem dX8_wait_26 : decode cX8_wait 26 = .ok (.bipush (-2), 2) := by decide +kernel
theorem dX8_wait_28 : decode cX8_wait 28 = .ok (.ireturn, 1) := by decide +kernel
theorem dX8_wait_29 : decode cX8_wait 29 = .ok (.iload_n 1, 1) := by decide +kernel
theorem dX8_wait_30 : decode cX8_wait 30 = .ok (.bipush 13, 2) := by decide +kernel
theorem dX8_wait_32 : decode cX8_wait 32 = .ok (.imul, 1) := by decide +kernel
theorem dX8_wait_33 : decode cX8_wait 33 = .ok (.iload_n 2, 1) := by decide +kernel
theorem dX8_wait_34 : decode cX8_wait 34 = .ok (.iadd, 1) := by decide +kernel
theorem dX8_wait_35 : decode cX8_wait 35 = .ok (.istore 4, 2) := by decide +kernel
theorem dX8_wait_37 : decode cX8_wait 37 = .ok (.aload_n 0, 1) := by decide +kernel
theorem dX8_wait_38 : decode cX8_wait 38 = .ok (.getfield 62, 3) := by decide +kernel
theorem dX8_wait_41 : decode cX8_wait 41 = .ok (.getfield 179, 3) := by decide +kernel
theorem dX8_wait_44 : decode cX8_wait 44 = .ok (.iload 4, 2) := by decide +kernel
theorem dX8_wait_46 : decode cX8_wait 46 = .ok (.iaload, 1) := by decide +kernel
theorem dX8_wait_47 : decode cX8_wait 47 = .ok (.istore 5, 2) := by decide +kernel
theorem dX8_wait_49 : decode cX8_wait 49 = .ok (.aload_n 0, 1) := by decide +kernel
theorem dX8_wait_50 : decode cX8_wait 50 = .ok (.getfield 62, 3) := by decide +kernel
theorem dX8_wait_53 : decode cX8_wait 53 = .ok (.getfield 179, 3) := by decide +kernel
theorem dX8_wait_56 : decode cX8_wait 56 = .ok (.iload 4, 2) := by decide +kernel
theorem dX8_wait_58 : decode cX8_wait 58 = .ok (.iload_n 3, 1) := by decide +kernel
theorem dX8_wait_59 : decode cX8_wait 59 = .ok (.iastore, 1) := by decide +kernel
theorem dX8_wait_60 : decode cX8_wait 60 = .ok (.aload_n 0, 1) := by decide +kernel
theorem dX8_wait_61 : decode cX8_wait 61 = .ok (.invokevirtual 88, 3) := by decide +kernel
theorem dX8_wait_64 : decode cX8_wait 64 = .ok (.iload 5, 2) := by decide +kernel
theorem dX8_wait_66 : decode cX8_wait 66 = .ok (.ireturn, 1) := by decide +kernel
theorem dX8_walk_0 : decode cX8_walk 0 = .ok (.aload_n 0, 1) := by decide +kernel
theorem dX8_walk_1 : decode cX8_walk 1 = .ok (.iload_n 1, 1) := by decide +kernel
theorem dX8_walk_2 : decode cX8_walk 2 = .ok (.invokevirtual 140, 3) := by decide +kernel
theorem dX8_walk_5 : decode cX8_walk 5 = .ok (.ifCond .eq 17, 3) := by decide +kernel
theorem dX8_walk_8 : decode cX8_walk 8 = .ok (.iload_n 2, 1) := by decide +kernel
theorem dX8_walk_9 : decode cX8_walk 9 = .ok (.invokestatic 73, 3) := by decide +kernel
theorem dX8_walk_12 : decode cX8_walk 12 = .ok (.ifCond .eq 10, 3) := by decide +kernel
theorem dX8_walk_15 : decode cX8_walk 15 = .ok (.iload_n 3, 1) := by decide +kernel
theorem dX8_walk_16 : decode cX8_walk 16 = .ok (.invokestatic 73, 3) := by decide +kernel
theorem dX8_walk_19 : decode cX8_walk 19 = .ok (.ifCond .ne 5, 3) := by decide +kernel
theorem dX8_walk_22 : decode cX8_walk 22 = .ok (.iconst (-1), 1) := by decide +kernel
theorem dX8_walk_23 : decode cX8_walk 23 = .ok (.ireturn, 1) := by decide +kernel
theorem dX8_walk_24 : decode cX8_walk 24 = .ok (.iload 4, 2) := by decide +kernel
theorem dX8_walk_26 : decode cX8_walk 26 = .ok (.iconst 2, 1) := by decide +kernel
theorem dX8_walk_27 : decode cX8_walk 27 = .ok (.invokestatic 99, 3) := by decide +kernel
theorem dX8_walk_30 : decode cX8_walk 30 = .ok (.ifCond .ne 6, 3) := by decide +kernel
theorem dX8_walk_33 : decode cX8_walk 33 = .ok (.bipush (-2), 2) := by decide +kernel
theorem dX8_walk_35 : decode cX8_walk 35 = .ok (.ireturn, 1) := by decide +kernel
theorem dX8_walk_36 : decode cX8_walk 36 = .ok (.aload_n 0, 1) := by decide +kernel
theorem dX8_walk_37 : decode cX8_walk 37 = .ok (.iload_n 1, 1) := by decide +kernel
theorem dX8_walk_38 : decode cX8_walk 38 = .ok (.iload_n 2, 1) := by decide +kernel
theorem dX8_walk_39 : decode cX8_walk 39 = .ok (.iload_n 3, 1) := by decide +kernel
theorem dX8_walk_40 : decode cX8_walk 40 = .ok (.invokevirtual 182, 3) := by decide +kernel
theorem dX8_walk_43 : decode cX8_walk 43 = .ok (.iload 4, 2) := by decide +kernel
theorem dX8_walk_45 : decode cX8_walk 45 = .ok (.lookupswitch 43 #[(0, 27), (1, 35)], 27) := by decide +kernel
theorem dX8_walk_72 : decode cX8_walk 72 = .ok (.aload_n 0, 1) := by decide +kernel
theorem dX8_walk_73 : decode cX8_walk 73 = .ok (.getfield 62, 3) := by decide +kernel
theorem dX8_walk_76 : decode cX8_walk 76 = .ok (.invokevirtual 186, 3) := by decide +kernel
theorem dX8_walk_79 : decode cX8_walk 79 = .ok (.ireturn, 1) := by decide +kernel
theorem dX8_walk_80 : decode cX8_walk 80 = .ok (.aload_n 0, 1) := by decide +kernel
theorem dX8_walk_81 : decode cX8_walk 81 = .ok (.getfield 62, 3) := by decide +kernel
theorem dX8_walk_84 : decode cX8_walk 84 = .ok (.invokevirtual 189, 3) := by decide +kernel
theorem dX8_walk_87 : decode cX8_walk 87 = .ok (.ireturn, 1) := by decide +kernel
theorem dX8_walk_88 : decode cX8_walk 88 = .ok (.aload_n 0, 1) := by decide +kernel
theorem dX8_walk_89 : decode cX8_walk 89 = .ok (.getfield 62, 3) := by decide +kernel
theorem dX8_walk_92 : decode cX8_walk 92 = .ok (.getfield 192, 3) := by decide +kernel
theorem dX8_walk_95 : decode cX8_walk 95 = .ok (.ireturn, 1) := by decide +kernel
theorem dX8_shape_0 : decode cX8_shape 0 = .ok (.aload_n 0, 1) := by decide +kernel
theorem dX8_shape_1 : decode cX8_shape 1 = .ok (.iload_n 1, 1) := by decide +kernel
theorem dX8_shape_2 : decode cX8_shape 2 = .ok (.invokevirtual 140, 3) := by decide +kernel
theorem dX8_shape_5 : decode cX8_shape 5 = .ok (.ifCond .eq 17, 3) := by decide +kernel
theorem dX8_shape_8 : decode cX8_shape 8 = .ok (.iload_n 2, 1) := by decide +kernel
theorem dX8_shape_9 : decode cX8_shape 9 = .ok (.invokestatic 73, 3) := by decide +kernel
theorem dX8_shape_12 : decode cX8_shape 12 = .ok (.ifCond .eq 10, 3) := by decide +kernel
theorem dX8_shape_15 : decode cX8_shape 15 = .ok (.iload_n 3, 1) := by decide +kernel
theorem dX8_shape_16 : decode cX8_shape 16 = .ok (.invokestatic 73, 3) := by decide +kernel
theorem dX8_shape_19 : decode cX8_shape 19 = .ok (.ifCond .ne 5, 3) := by decide +kernel
theorem dX8_shape_22 : decode cX8_shape 22 = .ok (.iconst (-1), 1) := by decide +kernel
theorem dX8_shape_23 : decode cX8_shape 23 = .ok (.ireturn, 1) := by decide +kernel
theorem dX8_shape_24 : decode cX8_shape 24 = .ok (.iload 4, 2) := by decide +kernel
theorem dX8_shape_26 : decode cX8_shape 26 = .ok (.bipush 12, 2) := by decide +kernel
theorem dX8_shape_28 : decode cX8_shape 28 = .ok (.invokestatic 99, 3) := by decide +kernel
theorem dX8_shape_31 : decode cX8_shape 31 = .ok (.ifCond .eq 13, 3) := by decide +kernel
theorem dX8_shape_34 : decode cX8_shape 34 = .ok (.iload 5, 2) := by decide +kernel
theorem dX8_shape_36 : decode cX8_shape 36 = .ok (.bipush 12, 2) := by decide +kernel
theorem dX8_shape_38 : decode cX8_shape 38 = .ok (.invokestatic 99, 3) := by decide +kernel
theorem dX8_shape_41 : decode cX8_shape 41 = .ok (.ifCond .ne 6, 3) := by decide +kernel
theorem dX8_shape_44 : decode cX8_shape 44 = .ok (.bipush (-2), 2) := by decide +kernel
theorem dX8_shape_46 : decode cX8_shape 46 = .ok (.ireturn, 1) := by decide +kernel
theorem dX8_shape_47 : decode cX8_shape 47 = .ok (.aload_n 0, 1) := by decide +kernel
theorem dX8_shape_48 : decode cX8_shape 48 = .ok (.iload_n 1, 1) := by decide +kernel
theorem dX8_shape_49 : decode cX8_shape 49 = .ok (.iload_n 2, 1) := by decide +kernel
theorem dX8_shape_50 : decode cX8_shape 50 = .ok (.iload_n 3, 1) := by decide +kernel
theorem dX8_shape_51 : decode cX8_shape 51 = .ok (.invokevirtual 182, 3) := by decide +kernel
theorem dX8_shape_54 : decode cX8_shape 54 = .ok (.aload_n 0, 1) := by decide +kernel
theorem dX8_shape_55 : decode cX8_shape 55 = .ok (.getfield 62, 3) := by decide +kernel
theorem dX8_shape_58 : decode cX8_shape 58 = .ok (.getfield 195, 3) := by decide +kernel
theorem dX8_shape_61 : decode cX8_shape 61 = .ok (.iload 4, 2) := by decide +kernel
theorem dX8_shape_63 : decode cX8_shape 63 = .ok (.bipush 13, 2) := by decide +kernel
theorem dX8_shape_65 : decode cX8_shape 65 = .ok (.imul, 1) := by decide +kernel
theorem dX8_shape_66 : decode cX8_shape 66 = .ok (.iload 5, 2) := by decide +kernel
theorem dX8_shape_68 : decode cX8_shape 68 = .ok (.iadd, 1) := by decide +kernel
theorem dX8_shape_69 : decode cX8_shape 69 = .ok (.iaload, 1) := by decide +kernel
theorem dX8_shape_70 : decode cX8_shape 70 = .ok (.ireturn, 1) := by decide +kernel
theorem dX8_tell_0 : decode cX8_tell 0 = .ok (.iload_n 1, 1) := by decide +kernel
theorem dX8_tell_1 : decode cX8_tell 1 = .ok (.bipush 12, 2) := by decide +kernel
theorem dX8_tell_3 : decode cX8_tell 3 = .ok (.invokestatic 99, 3) := by decide +kernel
theorem dX8_tell_6 : decode cX8_tell 6 = .ok (.ifCond .eq 22, 3) := by decide +kernel
theorem dX8_tell_9 : decode cX8_tell 9 = .ok (.iload_n 2, 1) := by decide +kernel
theorem dX8_tell_10 : decode cX8_tell 10 = .ok (.bipush 12, 2) := by decide +kernel
theorem dX8_tell_12 : decode cX8_tell 12 = .ok (.invokestatic 99, 3) := by decide +kernel
theorem dX8_tell_15 : decode cX8_tell 15 = .ok (.ifCond .eq 13, 3) := by decide +kernel
theorem dX8_tell_18 : decode cX8_tell 18 = .ok (.iload_n 3, 1) := by decide +kernel
theorem dX8_tell_19 : decode cX8_tell 19 = .ok (.sipush 4095, 3) := by decide +kernel
theorem dX8_tell_22 : decode cX8_tell 22 = .ok (.invokestatic 99, 3) := by decide +kernel
theorem dX8_tell_25 : decode cX8_tell 25 = .ok (.ifCond .ne 6, 3) := by decide +kernel
theorem dX8_tell_28 : decode cX8_tell 28 = .ok (.bipush (-2), 2) := by decide +kernel
theorem dX8_tell_30 : decode cX8_tell 30 = .ok (.ireturn, 1) := by decide +kernel
theorem dX8_tell_31 : decode cX8_tell 31 = .ok (.iload_n 1, 1) := by decide +kernel
theorem dX8_tell_32 : decode cX8_tell 32 = .ok (.bipush 13, 2) := by decide +kernel
theorem dX8_tell_34 : decode cX8_tell 34 = .ok (.imul, 1) := by decide +kernel
theorem dX8_tell_35 : decode cX8_tell 35 = .ok (.iload_n 2, 1) := by decide +kernel
theorem dX8_tell_36 : decode cX8_tell 36 = .ok (.iadd, 1) := by decide +kernel
theorem dX8_tell_37 : decode cX8_tell 37 = .ok (.istore 4, 2) := by decide +kernel
theorem dX8_tell_39 : decode cX8_tell 39 = .ok (.aload_n 0, 1) := by decide +kernel
theorem dX8_tell_40 : decode cX8_tell 40 = .ok (.getfield 62, 3) := by decide +kernel
theorem dX8_tell_43 : decode cX8_tell 43 = .ok (.getfield 198, 3) := by decide +kernel
theorem dX8_tell_46 : decode cX8_tell 46 = .ok (.iload 4, 2) := by decide +kernel
theorem dX8_tell_48 : decode cX8_tell 48 = .ok (.iaload, 1) := by decide +kernel
theorem dX8_tell_49 : decode cX8_tell 49 = .ok (.istore 5, 2) := by decide +kernel
theorem dX8_tell_51 : decode cX8_tell 51 = .ok (.aload_n 0, 1) := by decide +kernel
theorem dX8_tell_52 : decode cX8_tell 52 = .ok (.getfield 62, 3) := by decide +kernel
theorem dX8_tell_55 : decode cX8_tell 55 = .ok (.getfield 198, 3) := by decide +kernel
theorem dX8_tell_58 : decode cX8_tell 58 = .ok (.iload 4, 2) := by decide +kernel
theorem dX8_tell_60 : decode cX8_tell 60 = .ok (.iload_n 3, 1) := by decide +kernel
theorem dX8_tell_61 : decode cX8_tell 61 = .ok (.iastore, 1) := by decide +kernel
theorem dX8_tell_62 : decode cX8_tell 62 = .ok (.iload 5, 2) := by decide +kernel
theorem dX8_tell_64 : decode cX8_tell 64 = .ok (.ireturn, 1) := by decide +kernel
theorem dX8_fails_0 : decode cX8_fails 0 = .ok (.aload_n 0, 1) := by decide +kernel
theorem dX8_fails_1 : decode cX8_fails 1 = .ok (.iload_n 1, 1) := by decide +kernel
theorem dX8_fails_2 : decode cX8_fails 2 = .ok (.invokevirtual 140, 3) := by decide +kernel
theorem dX8_fails_5 : decode cX8_fails 5 = .ok (.ifCond .eq 17, 3) := by decide +kernel
theorem dX8_fails_8 : decode cX8_fails 8 = .ok (.iload_n 2, 1) := by decide +kernel
theorem dX8_fails_9 : decode cX8_fails 9 = .ok (.invokestatic 73, 3) := by decide +kernel
theorem dX8_fails_12 : decode cX8_fails 12 = .ok (.ifCond .eq 10, 3) := by decide +kernel
theorem dX8_fails_15 : decode cX8_fails 15 = .ok (.iload_n 3, 1) := by decide +kernel
theorem dX8_fails_16 : decode cX8_fails 16 = .ok (.invokestatic 73, 3) := by decide +kernel
theorem dX8_fails_19 : decode cX8_fails 19 = .ok (.ifCond .ne 5, 3) := by decide +kernel
theorem dX8_fails_22 : decode cX8_fails 22 = .ok (.iconst (-1), 1) := by decide +kernel
theorem dX8_fails_23 : decode cX8_fails 23 = .ok (.ireturn, 1) := by decide +kernel
theorem dX8_fails_24 : decode cX8_fails 24 = .ok (.aload_n 0, 1) := by decide +kernel
theorem dX8_fails_25 : decode cX8_fails 25 = .ok (.iload_n 1, 1) := by decide +kernel
theorem dX8_fails_26 : decode cX8_fails 26 = .ok (.iload_n 2, 1) := by decide +kernel
theorem dX8_fails_27 : decode cX8_fails 27 = .ok (.iload_n 3, 1) := by decide +kernel
theorem dX8_fails_28 : decode cX8_fails 28 = .ok (.invokevirtual 182, 3) := by decide +kernel
theorem dX8_fails_31 : decode cX8_fails 31 = .ok (.aload_n 0, 1) := by decide +kernel
theorem dX8_fails_32 : decode cX8_fails 32 = .ok (.getfield 62, 3) := by decide +kernel
theorem dX8_fails_35 : decode cX8_fails 35 = .ok (.aload_n 0, 1) := by decide +kernel
theorem dX8_fails_36 : decode cX8_fails 36 = .ok (.getfield 14, 3) := by decide +kernel
theorem dX8_fails_39 : decode cX8_fails 39 = .ok (.iload_n 2, 1) := by decide +kernel
theorem dX8_fails_40 : decode cX8_fails 40 = .ok (.aaload, 1) := by decide +kernel
theorem dX8_fails_41 : decode cX8_fails 41 = .ok (.aload_n 0, 1) := by decide +kernel
theorem dX8_fails_42 : decode cX8_fails 42 = .ok (.getfield 14, 3) := by decide +kernel
theorem dX8_fails_45 : decode cX8_fails 45 = .ok (.iload_n 3, 1) := by decide +kernel
theorem dX8_fails_46 : decode cX8_fails 46 = .ok (.aaload, 1) := by decide +kernel
theorem dX8_fails_47 : decode cX8_fails 47 = .ok (.invokevirtual 201, 3) := by decide +kernel
theorem dX8_fails_50 : decode cX8_fails 50 = .ok (.ireturn, 1) := by decide +kernel
theorem dX8_so_0 : decode cX8_so 0 = .ok (.aload_n 0, 1) := by decide +kernel
theorem dX8_so_1 : decode cX8_so 1 = .ok (.iload_n 1, 1) := by decide +kernel
theorem dX8_so_2 : decode cX8_so 2 = .ok (.invokevirtual 140, 3) := by decide +kernel
theorem dX8_so_5 : decode cX8_so 5 = .ok (.ifCond .eq 10, 3) := by decide +kernel
theorem dX8_so_8 : decode cX8_so 8 = .ok (.iload_n 2, 1) := by decide +kernel
theorem dX8_so_9 : decode cX8_so 9 = .ok (.invokestatic 73, 3) := by decide +kernel
theorem dX8_so_12 : decode cX8_so 12 = .ok (.ifCond .ne 5, 3) := by decide +kernel
theorem dX8_so_15 : decode cX8_so 15 = .ok (.iconst (-1), 1) := by decide +kernel
theorem dX8_so_16 : decode cX8_so 16 = .ok (.ireturn, 1) := by decide +kernel
theorem dX8_so_17 : decode cX8_so 17 = .ok (.iload_n 3, 1) := by decide +kernel
theorem dX8_so_18 : decode cX8_so 18 = .ok (.iconst 1, 1) := by decide +kernel
theorem dX8_so_19 : decode cX8_so 19 = .ok (.invokestatic 99, 3) := by decide +kernel
theorem dX8_so_22 : decode cX8_so 22 = .ok (.ifCond .ne 6, 3) := by decide +kernel
theorem dX8_so_25 : decode cX8_so 25 = .ok (.bipush (-2), 2) := by decide +kernel
theorem dX8_so_27 : decode cX8_so 27 = .ok (.ireturn, 1) := by decide +kernel
theorem dX8_so_28 : decode cX8_so 28 = .ok (.aload_n 0, 1) := by decide +kernel
theorem dX8_so_29 : decode cX8_so 29 = .ok (.getfield 14, 3) := by decide +kernel
theorem dX8_so_32 : decode cX8_so 32 = .ok (.iload_n 2, 1) := by decide +kernel
theorem dX8_so_33 : decode cX8_so 33 = .ok (.aaload, 1) := by decide +kernel
theorem dX8_so_34 : decode cX8_so 34 = .ok (.astore 4, 2) := by decide +kernel
theorem dX8_so_36 : decode cX8_so 36 = .ok (.aload 4, 2) := by decide +kernel
theorem dX8_so_38 : decode cX8_so 38 = .ok (.invokevirtual 205, 3) := by decide +kernel
theorem dX8_so_41 : decode cX8_so 41 = .ok (.invokestatic 208, 3) := by decide +kernel
theorem dX8_so_44 : decode cX8_so 44 = .ok (.bipush 6, 2) := by decide +kernel
theorem dX8_so_46 : decode cX8_so 46 = .ok (.if_icmp .le 6, 3) := by decide +kernel
theorem dX8_so_49 : decode cX8_so 49 = .ok (.bipush (-3), 2) := by decide +kernel
theorem dX8_so_51 : decode cX8_so 51 = .ok (.ireturn, 1) := by decide +kernel
theorem dX8_so_52 : decode cX8_so 52 = .ok (.aload_n 0, 1) := by decide +kernel
theorem dX8_so_53 : decode cX8_so 53 = .ok (.getfield 55, 3) := by decide +kernel
theorem dX8_so_56 : decode cX8_so 56 = .ok (.aload_n 0, 1) := by decide +kernel
theorem dX8_so_57 : decode cX8_so 57 = .ok (.getfield 23, 3) := by decide +kernel
theorem dX8_so_60 : decode cX8_so 60 = .ok (.iload_n 1, 1) := by decide +kernel
theorem dX8_so_61 : decode cX8_so 61 = .ok (.aaload, 1) := by decide +kernel
theorem dX8_so_62 : decode cX8_so 62 = .ok (.aload 4, 2) := by decide +kernel
theorem dX8_so_64 : decode cX8_so 64 = .ok (.invokevirtual 214, 3) := by decide +kernel
theorem dX8_so_67 : decode cX8_so 67 = .ok (.istore 5, 2) := by decide +kernel
theorem dX8_so_69 : decode cX8_so 69 = .ok (.iload 5, 2) := by decide +kernel
theorem dX8_so_71 : decode cX8_so 71 = .ok (.bipush (-6), 2) := by decide +kernel
theorem dX8_so_73 : decode cX8_so 73 = .ok (.if_icmp .ne 6, 3) := by decide +kernel
theorem dX8_so_76 : decode cX8_so 76 = .ok (.bipush (-5), 2) := by decide +kernel
theorem dX8_so_78 : decode cX8_so 78 = .ok (.ireturn, 1) := by decide +kernel
theorem dX8_so_79 : decode cX8_so 79 = .ok (.iload_n 3, 1) := by decide +kernel
theorem dX8_so_80 : decode cX8_so 80 = .ok (.ifCond .ne 8, 3) := by decide +kernel
theorem dX8_so_83 : decode cX8_so 83 = .ok (.iload 5, 2) := by decide +kernel
theorem dX8_so_85 : decode cX8_so 85 = .ok (.goto 8, 3) := by decide +kernel
theorem dX8_so_88 : decode cX8_so 88 = .ok (.iload 5, 2) := by decide +kernel
theorem dX8_so_90 : decode cX8_so 90 = .ok (.invokestatic 208, 3) := by decide +kernel
theorem dX8_so_93 : decode cX8_so 93 = .ok (.ireturn, 1) := by decide +kernel
theorem dX8_fit_0 : decode cX8_fit 0 = .ok (.iload_n 1, 1) := by decide +kernel
theorem dX8_fit_1 : decode cX8_fit 1 = .ok (.invokestatic 73, 3) := by decide +kernel
theorem dX8_fit_4 : decode cX8_fit 4 = .ok (.ifCond .ne 5, 3) := by decide +kernel
theorem dX8_fit_7 : decode cX8_fit 7 = .ok (.iconst (-1), 1) := by decide +kernel
theorem dX8_fit_8 : decode cX8_fit 8 = .ok (.ireturn, 1) := by decide +kernel
theorem dX8_fit_9 : decode cX8_fit 9 = .ok (.iload_n 2, 1) := by decide +kernel
theorem dX8_fit_10 : decode cX8_fit 10 = .ok (.invokestatic 106, 3) := by decide +kernel
theorem dX8_fit_13 : decode cX8_fit 13 = .ok (.ifCond .eq 31, 3) := by decide +kernel
theorem dX8_fit_16 : decode cX8_fit 16 = .ok (.iload_n 3, 1) := by decide +kernel
theorem dX8_fit_17 : decode cX8_fit 17 = .ok (.bipush 15, 2) := by decide +kernel
theorem dX8_fit_19 : decode cX8_fit 19 = .ok (.invokestatic 99, 3) := by decide +kernel
theorem dX8_fit_22 : decode cX8_fit 22 = .ok (.ifCond .eq 22, 3) := by decide +kernel
theorem dX8_fit_25 : decode cX8_fit 25 = .ok (.iload 4, 2) := by decide +kernel
theorem dX8_fit_27 : decode cX8_fit 27 = .ok (.bipush 24, 2) := by decide +kernel
theorem dX8_fit_29 : decode cX8_fit 29 = .ok (.invokestatic 99, 3) := by decide +kernel
theorem dX8_fit_32 : decode cX8_fit 32 = .ok (.ifCond .eq 12, 3) := by decide +kernel
theorem dX8_fit_35 : decode cX8_fit 35 = .ok (.iload 5, 2) := by decide +kernel
theorem dX8_fit_37 : decode cX8_fit 37 = .ok (.iconst 1, 1) := by decide +kernel
theorem dX8_fit_38 : decode cX8_fit 38 = .ok (.invokestatic 99, 3) := by decide +kernel
theorem dX8_fit_41 : decode cX8_fit 41 = .ok (.ifCond .ne 6, 3) := by decide +kernel
theorem dX8_fit_44 : decode cX8_fit 44 = .ok (.bipush (-2), 2) := by decide +kernel
theorem dX8_fit_46 : decode cX8_fit 46 = .ok (.ireturn, 1) := by decide +kernel
theorem dX8_fit_47 : decode cX8_fit 47 = .ok (.aload_n 0, 1) := by decide +kernel
theorem dX8_fit_48 : decode cX8_fit 48 = .ok (.getfield 14, 3) := by decide +kernel
theorem dX8_fit_51 : decode cX8_fit 51 = .ok (.iload_n 1, 1) := by decide +kernel
theorem dX8_fit_52 : decode cX8_fit 52 = .ok (.aaload, 1) := by decide +kernel
theorem dX8_fit_53 : decode cX8_fit 53 = .ok (.astore 6, 2) := by decide +kernel
theorem dX8_fit_55 : decode cX8_fit 55 = .ok (.iload_n 3, 1) := by decide +kernel
theorem dX8_fit_56 : decode cX8_fit 56 = .ok (.invokestatic 218, 3) := by decide +kernel
theorem dX8_fit_59 : decode cX8_fit 59 = .ok (.istore 7, 2) := by decide +kernel
theorem dX8_fit_61 : decode cX8_fit 61 = .ok (.iconst 0, 1) := by decide +kernel
theorem dX8_fit_62 : decode cX8_fit 62 = .ok (.istore 8, 2) := by decide +kernel
theorem dX8_fit_64 : decode cX8_fit 64 = .ok (.bipush (-6), 2) := by decide +kernel
theorem dX8_fit_66 : decode cX8_fit 66 = .ok (.istore 9, 2) := by decide +kernel
theorem dX8_fit_68 : decode cX8_fit 68 = .ok (.aload 6, 2) := by decide +kernel
theorem dX8_fit_70 : decode cX8_fit 70 = .ok (.iload_n 2, 1) := by decide +kernel
theorem dX8_fit_71 : decode cX8_fit 71 = .ok (.invokevirtual 109, 3) := by decide +kernel
theorem dX8_fit_74 : decode cX8_fit 74 = .ok (.iconst 0, 1) := by decide +kernel
theorem dX8_fit_75 : decode cX8_fit 75 = .ok (.istore 10, 2) := by decide +kernel
theorem dX8_fit_77 : decode cX8_fit 77 = .ok (.iload 10, 2) := by decide +kernel
theorem dX8_fit_79 : decode cX8_fit 79 = .ok (.sipush 256, 3) := by decide +kernel
theorem dX8_fit_82 : decode cX8_fit 82 = .ok (.if_icmp .ge 61, 3) := by decide +kernel
theorem dX8_fit_85 : decode cX8_fit 85 = .ok (.iload 10, 2) := by decide +kernel
theorem dX8_fit_87 : decode cX8_fit 87 = .ok (.iload_n 2, 1) := by decide +kernel
theorem dX8_fit_88 : decode cX8_fit 88 = .ok (.ixor, 1) := by decide +kernel
theorem dX8_fit_89 : decode cX8_fit 89 = .ok (.iload 7, 2) := by decide +kernel
theorem dX8_fit_91 : decode cX8_fit 91 = .ok (.iand, 1) := by decide +kernel
theorem dX8_fit_92 : decode cX8_fit 92 = .ok (.ifCond .eq 6, 3) := by decide +kernel
theorem dX8_fit_95 : decode cX8_fit 95 = .ok (.goto 42, 3) := by decide +kernel
theorem dX8_fit_98 : decode cX8_fit 98 = .ok (.aload 6, 2) := by decide +kernel
theorem dX8_fit_100 : decode cX8_fit 100 = .ok (.iload 10, 2) := by decide +kernel
theorem dX8_fit_102 : decode cX8_fit 102 = .ok (.invokevirtual 109, 3) := by decide +kernel
theorem dX8_fit_105 : decode cX8_fit 105 = .ok (.aload 6, 2) := by decide +kernel
theorem dX8_fit_107 : decode cX8_fit 107 = .ok (.iload_n 2, 1) := by decide +kernel
theorem dX8_fit_108 : decode cX8_fit 108 = .ok (.iload 10, 2) := by decide +kernel
theorem dX8_fit_110 : decode cX8_fit 110 = .ok (.iload 4, 2) := by decide +kernel
theorem dX8_fit_112 : decode cX8_fit 112 = .ok (.invokevirtual 221, 3) := by decide +kernel
theorem dX8_fit_115 : decode cX8_fit 115 = .ok (.ifCond .eq 22, 3) := by decide +kernel
theorem dX8_fit_118 : decode cX8_fit 118 = .ok (.iinc 8 1, 3) := by decide +kernel
theorem dX8_fit_121 : decode cX8_fit 121 = .ok (.iload 9, 2) := by decide +kernel
theorem dX8_fit_123 : decode cX8_fit 123 = .ok (.bipush (-6), 2) := by decide +kernel
theorem dX8_fit_125 : decode cX8_fit 125 = .ok (.if_icmp .ne 8, 3) := by decide +kernel
theorem dX8_fit_128 : decode cX8_fit 128 = .ok (.iload 10, 2) := by decide +kernel
theorem dX8_fit_130 : decode cX8_fit 130 = .ok (.goto 5, 3) := by decide +kernel
theorem dX8_fit_133 : decode cX8_fit 133 = .ok (.iload 9, 2) := by decide +kernel
theorem dX8_fit_135 : decode cX8_fit 135 = .ok (.istore 9, 2) := by decide +kernel
theorem dX8_fit_137 : decode cX8_fit 137 = .ok (.iinc 10 1, 3) := by decide +kernel
theorem dX8_fit_140 : decode cX8_fit 140 = .ok (.goto (-63), 3) := by decide +kernel
theorem dX8_fit_143 : decode cX8_fit 143 = .ok (.iload 5, 2) := by decide +kernel
theorem dX8_fit_145 : decode cX8_fit 145 = .ok (.ifCond .ne 8, 3) := by decide +kernel
theorem dX8_fit_148 : decode cX8_fit 148 = .ok (.iload 8, 2) := by decide +kernel
theorem dX8_fit_150 : decode cX8_fit 150 = .ok (.goto 5, 3) := by decide +kernel
theorem dX8_fit_153 : decode cX8_fit 153 = .ok (.iload 9, 2) := by decide +kernel
theorem dX8_fit_155 : decode cX8_fit 155 = .ok (.ireturn, 1) := by decide +kernel
theorem dX8_far_0 : decode cX8_far 0 = .ok (.iload_n 1, 1) := by decide +kernel
theorem dX8_far_1 : decode cX8_far 1 = .ok (.invokestatic 73, 3) := by decide +kernel
theorem dX8_far_4 : decode cX8_far 4 = .ok (.ifCond .ne 5, 3) := by decide +kernel
theorem dX8_far_7 : decode cX8_far 7 = .ok (.iconst (-1), 1) := by decide +kernel
theorem dX8_far_8 : decode cX8_far 8 = .ok (.ireturn, 1) := by decide +kernel
theorem dX8_far_9 : decode cX8_far 9 = .ok (.iload_n 2, 1) := by decide +kernel
theorem dX8_far_10 : decode cX8_far 10 = .ok (.iconst 3, 1) := by decide +kernel
theorem dX8_far_11 : decode cX8_far 11 = .ok (.invokestatic 99, 3) := by decide +kernel
theorem dX8_far_14 : decode cX8_far 14 = .ok (.ifCond .eq 23, 3) := by decide +kernel
theorem dX8_far_17 : decode cX8_far 17 = .ok (.iload_n 3, 1) := by decide +kernel
theorem dX8_far_18 : decode cX8_far 18 = .ok (.iconst 3, 1) := by decide +kernel
theorem dX8_far_19 : decode cX8_far 19 = .ok (.invokestatic 99, 3) := by decide +kernel
theorem dX8_far_22 : decode cX8_far 22 = .ok (.ifCond .eq 15, 3) := by decide +kernel
theorem dX8_far_25 : decode cX8_far 25 = .ok (.iload 4, 2) := by decide +kernel
theorem dX8_far_27 : decode cX8_far 27 = .ok (.iconst 1, 1) := by decide +kernel
theorem dX8_far_28 : decode cX8_far 28 = .ok (.if_icmp .lt 9, 3) := by decide +kernel
theorem dX8_far_31 : decode cX8_far 31 = .ok (.iload 4, 2) := by decide +kernel
theorem dX8_far_33 : decode cX8_far 33 = .ok (.iconst 3, 1) := by decide +kernel
theorem dX8_far_34 : decode cX8_far 34 = .ok (.if_icmp .le 6, 3) := by decide +kernel
theorem dX8_far_37 : decode cX8_far 37 = .ok (.bipush (-2), 2) := by decide +kernel
theorem dX8_far_39 : decode cX8_far 39 = .ok (.ireturn, 1) := by decide +kernel
theorem dX8_far_40 : decode cX8_far 40 = .ok (.aload_n 0, 1) := by decide +kernel
theorem dX8_far_41 : decode cX8_far 41 = .ok (.getfield 14, 3) := by decide +kernel
theorem dX8_far_44 : decode cX8_far 44 = .ok (.iload_n 1, 1) := by decide +kernel
theorem dX8_far_45 : decode cX8_far 45 = .ok (.aaload, 1) := by decide +kernel
theorem dX8_far_46 : decode cX8_far 46 = .ok (.astore 5, 2) := by decide +kernel
theorem dX8_far_48 : decode cX8_far 48 = .ok (.aload 5, 2) := by decide +kernel
theorem dX8_far_50 : decode cX8_far 50 = .ok (.invokevirtual 225, 3) := by decide +kernel
theorem dX8_far_53 : decode cX8_far 53 = .ok (.iconst 0, 1) := by decide +kernel
theorem dX8_far_54 : decode cX8_far 54 = .ok (.istore 6, 2) := by decide +kernel
theorem dX8_far_56 : decode cX8_far 56 = .ok (.iconst 0, 1) := by decide +kernel
theorem dX8_far_57 : decode cX8_far 57 = .ok (.istore 7, 2) := by decide +kernel
theorem dX8_far_59 : decode cX8_far 59 = .ok (.iload 7, 2) := by decide +kernel
theorem dX8_far_61 : decode cX8_far 61 = .ok (.sipush 256, 3) := by decide +kernel
theorem dX8_far_64 : decode cX8_far 64 = .ok (.if_icmp .ge 100, 3) := by decide +kernel
theorem dX8_far_67 : decode cX8_far 67 = .ok (.iload 7, 2) := by decide +kernel
theorem dX8_far_69 : decode cX8_far 69 = .ok (.iload_n 2, 1) := by decide +kernel
theorem dX8_far_70 : decode cX8_far 70 = .ok (.invokestatic 228, 3) := by decide +kernel
theorem dX8_far_73 : decode cX8_far 73 = .ok (.istore 8, 2) := by decide +kernel
theorem dX8_far_75 : decode cX8_far 75 = .ok (.aload 5, 2) := by decide +kernel
theorem dX8_far_77 : decode cX8_far 77 = .ok (.getfield 115, 3) := by decide +kernel
theorem dX8_far_80 : decode cX8_far 80 = .ok (.iload 7, 2) := by decide +kernel
end
section
theorem dX8_far_82 : decode cX8_far 82 = .ok (.iaload, 1) := by decide +kernel
theorem dX8_far_83 : decode cX8_far 83 = .ok (.iload_n 3, 1) := by decide +kernel
theorem dX8_far_84 : decode cX8_far 84 = .ok (.invokestatic 228, 3) := by decide +kernel
theorem dX8_far_87 : decode cX8_far 87 = .ok (.istore 9, 2) := by decide +kernel
theorem dX8_far_89 : decode cX8_far 89 = .ok (.iconst 3, 1) := by decide +kernel
theorem dX8_far_90 : decode cX8_far 90 = .ok (.iload 8, 2) := by decide +kernel
theorem dX8_far_92 : decode cX8_far 92 = .ok (.iload 4, 2) := by decide +kernel
theorem dX8_far_94 : decode cX8_far 94 = .ok (.iadd, 1) := by decide +kernel
theorem dX8_far_95 : decode cX8_far 95 = .ok (.invokestatic 231, 3) := by decide +kernel
theorem dX8_far_98 : decode cX8_far 98 = .ok (.istore 10, 2) := by decide +kernel
theorem dX8_far_100 : decode cX8_far 100 = .ok (.iload 8, 2) := by decide +kernel
theorem dX8_far_102 : decode cX8_far 102 = .ok (.iconst 1, 1) := by decide +kernel
theorem dX8_far_103 : decode cX8_far 103 = .ok (.iadd, 1) := by decide +kernel
theorem dX8_far_104 : decode cX8_far 104 = .ok (.istore 11, 2) := by decide +kernel
theorem dX8_far_106 : decode cX8_far 106 = .ok (.iload 11, 2) := by decide +kernel
theorem dX8_far_108 : decode cX8_far 108 = .ok (.iload 10, 2) := by decide +kernel
theorem dX8_far_110 : decode cX8_far 110 = .ok (.if_icmp .gt 48, 3) := by decide +kernel
theorem dX8_far_113 : decode cX8_far 113 = .ok (.iload 7, 2) := by decide +kernel
theorem dX8_far_115 : decode cX8_far 115 = .ok (.iload_n 2, 1) := by decide +kernel
theorem dX8_far_116 : decode cX8_far 116 = .ok (.iload 11, 2) := by decide +kernel
theorem dX8_far_118 : decode cX8_far 118 = .ok (.invokestatic 236, 3) := by decide +kernel
theorem dX8_far_121 : decode cX8_far 121 = .ok (.istore 12, 2) := by decide +kernel
theorem dX8_far_123 : decode cX8_far 123 = .ok (.aload 5, 2) := by decide +kernel
theorem dX8_far_125 : decode cX8_far 125 = .ok (.getfield 115, 3) := by decide +kernel
theorem dX8_far_128 : decode cX8_far 128 = .ok (.iload 12, 2) := by decide +kernel
theorem dX8_far_130 : decode cX8_far 130 = .ok (.iaload, 1) := by decide +kernel
theorem dX8_far_131 : decode cX8_far 131 = .ok (.iload_n 3, 1) := by decide +kernel
theorem dX8_far_132 : decode cX8_far 132 = .ok (.invokestatic 228, 3) := by decide +kernel
theorem dX8_far_135 : decode cX8_far 135 = .ok (.istore 13, 2) := by decide +kernel
theorem dX8_far_137 : decode cX8_far 137 = .ok (.iload 6, 2) := by decide +kernel
theorem dX8_far_139 : decode cX8_far 139 = .ok (.iload 9, 2) := by decide +kernel
theorem dX8_far_141 : decode cX8_far 141 = .ok (.iload 13, 2) := by decide +kernel
theorem dX8_far_143 : decode cX8_far 143 = .ok (.isub, 1) := by decide +kernel
theorem dX8_far_144 : decode cX8_far 144 = .ok (.invokestatic 239, 3) := by decide +kernel
theorem dX8_far_147 : decode cX8_far 147 = .ok (.invokestatic 242, 3) := by decide +kernel
theorem dX8_far_150 : decode cX8_far 150 = .ok (.istore 6, 2) := by decide +kernel
theorem dX8_far_152 : decode cX8_far 152 = .ok (.iinc 11 1, 3) := by decide +kernel
theorem dX8_far_155 : decode cX8_far 155 = .ok (.goto (-49), 3) := by decide +kernel
theorem dX8_far_158 : decode cX8_far 158 = .ok (.iinc 7 1, 3) := by decide +kernel
theorem dX8_far_161 : decode cX8_far 161 = .ok (.goto (-102), 3) := by decide +kernel
theorem dX8_far_164 : decode cX8_far 164 = .ok (.iload 6, 2) := by decide +kernel
theorem dX8_far_166 : decode cX8_far 166 = .ok (.ireturn, 1) := by decide +kernel
theorem dX8_changed_0 : decode cX8_changed 0 = .ok (.iload_n 1, 1) := by decide +kernel
theorem dX8_changed_1 : decode cX8_changed 1 = .ok (.invokestatic 73, 3) := by decide +kernel
theorem dX8_changed_4 : decode cX8_changed 4 = .ok (.ifCond .eq 10, 3) := by decide +kernel
theorem dX8_changed_7 : decode cX8_changed 7 = .ok (.iload_n 2, 1) := by decide +kernel
theorem dX8_changed_8 : decode cX8_changed 8 = .ok (.invokestatic 73, 3) := by decide +kernel
theorem dX8_changed_11 : decode cX8_changed 11 = .ok (.ifCond .ne 5, 3) := by decide +kernel
theorem dX8_changed_14 : decode cX8_changed 14 = .ok (.iconst (-1), 1) := by decide +kernel
theorem dX8_changed_15 : decode cX8_changed 15 = .ok (.ireturn, 1) := by decide +kernel
theorem dX8_changed_16 : decode cX8_changed 16 = .ok (.iload_n 3, 1) := by decide +kernel
theorem dX8_changed_17 : decode cX8_changed 17 = .ok (.iconst 2, 1) := by decide +kernel
theorem dX8_changed_18 : decode cX8_changed 18 = .ok (.invokestatic 99, 3) := by decide +kernel
theorem dX8_changed_21 : decode cX8_changed 21 = .ok (.ifCond .ne 6, 3) := by decide +kernel
theorem dX8_changed_24 : decode cX8_changed 24 = .ok (.bipush (-2), 2) := by decide +kernel
theorem dX8_changed_26 : decode cX8_changed 26 = .ok (.ireturn, 1) := by decide +kernel
theorem dX8_changed_27 : decode cX8_changed 27 = .ok (.aload_n 0, 1) := by decide +kernel
theorem dX8_changed_28 : decode cX8_changed 28 = .ok (.getfield 14, 3) := by decide +kernel
theorem dX8_changed_31 : decode cX8_changed 31 = .ok (.iload_n 1, 1) := by decide +kernel
theorem dX8_changed_32 : decode cX8_changed 32 = .ok (.aaload, 1) := by decide +kernel
theorem dX8_changed_33 : decode cX8_changed 33 = .ok (.astore 4, 2) := by decide +kernel
theorem dX8_changed_35 : decode cX8_changed 35 = .ok (.aload_n 0, 1) := by decide +kernel
theorem dX8_changed_36 : decode cX8_changed 36 = .ok (.getfield 14, 3) := by decide +kernel
theorem dX8_changed_39 : decode cX8_changed 39 = .ok (.iload_n 2, 1) := by decide +kernel
theorem dX8_changed_40 : decode cX8_changed 40 = .ok (.aaload, 1) := by decide +kernel
theorem dX8_changed_41 : decode cX8_changed 41 = .ok (.astore 5, 2) := by decide +kernel
theorem dX8_changed_43 : decode cX8_changed 43 = .ok (.iload_n 3, 1) := by decide +kernel
theorem dX8_changed_44 : decode cX8_changed 44 = .ok (.iconst 2, 1) := by decide +kernel
theorem dX8_changed_45 : decode cX8_changed 45 = .ok (.if_icmp .ne 11, 3) := by decide +kernel
theorem dX8_changed_48 : decode cX8_changed 48 = .ok (.aload 4, 2) := by decide +kernel
theorem dX8_changed_50 : decode cX8_changed 50 = .ok (.aload 5, 2) := by decide +kernel
theorem dX8_changed_52 : decode cX8_changed 52 = .ok (.invokevirtual 245, 3) := by decide +kernel
theorem dX8_changed_55 : decode cX8_changed 55 = .ok (.ireturn, 1) := by decide +kernel
theorem dX8_changed_56 : decode cX8_changed 56 = .ok (.aload 4, 2) := by decide +kernel
theorem dX8_changed_58 : decode cX8_changed 58 = .ok (.invokevirtual 225, 3) := by decide +kernel
theorem dX8_changed_61 : decode cX8_changed 61 = .ok (.aload 5, 2) := by decide +kernel
theorem dX8_changed_63 : decode cX8_changed 63 = .ok (.invokevirtual 225, 3) := by decide +kernel
theorem dX8_changed_66 : decode cX8_changed 66 = .ok (.iconst 0, 1) := by decide +kernel
theorem dX8_changed_67 : decode cX8_changed 67 = .ok (.istore 6, 2) := by decide +kernel
theorem dX8_changed_69 : decode cX8_changed 69 = .ok (.bipush (-6), 2) := by decide +kernel
theorem dX8_changed_71 : decode cX8_changed 71 = .ok (.istore 7, 2) := by decide +kernel
theorem dX8_changed_73 : decode cX8_changed 73 = .ok (.iconst 0, 1) := by decide +kernel
theorem dX8_changed_74 : decode cX8_changed 74 = .ok (.istore 8, 2) := by decide +kernel
theorem dX8_changed_76 : decode cX8_changed 76 = .ok (.iload 8, 2) := by decide +kernel
theorem dX8_changed_78 : decode cX8_changed 78 = .ok (.sipush 256, 3) := by decide +kernel
theorem dX8_changed_81 : decode cX8_changed 81 = .ok (.if_icmp .ge 77, 3) := by decide +kernel
theorem dX8_changed_84 : decode cX8_changed 84 = .ok (.aload 4, 2) := by decide +kernel
theorem dX8_changed_86 : decode cX8_changed 86 = .ok (.getfield 249, 3) := by decide +kernel
theorem dX8_changed_89 : decode cX8_changed 89 = .ok (.iload 8, 2) := by decide +kernel
theorem dX8_changed_91 : decode cX8_changed 91 = .ok (.laload, 1) := by decide +kernel
theorem dX8_changed_92 : decode cX8_changed 92 = .ok (.aload 5, 2) := by decide +kernel
theorem dX8_changed_94 : decode cX8_changed 94 = .ok (.getfield 249, 3) := by decide +kernel
theorem dX8_changed_97 : decode cX8_changed 97 = .ok (.iload 8, 2) := by decide +kernel
theorem dX8_changed_99 : decode cX8_changed 99 = .ok (.laload, 1) := by decide +kernel
theorem dX8_changed_100 : decode cX8_changed 100 = .ok (.lxor, 1) := by decide +kernel
theorem dX8_changed_101 : decode cX8_changed 101 = .ok (.ldc2_w 253, 3) := by decide +kernel
theorem dX8_changed_104 : decode cX8_changed 104 = .ok (.land, 1) := by decide +kernel
theorem dX8_changed_105 : decode cX8_changed 105 = .ok (.lstore 9, 2) := by decide +kernel
theorem dX8_changed_107 : decode cX8_changed 107 = .ok (.lload 9, 2) := by decide +kernel
theorem dX8_changed_109 : decode cX8_changed 109 = .ok (.lconst 0, 1) := by decide +kernel
theorem dX8_changed_110 : decode cX8_changed 110 = .ok (.lcmp, 1) := by decide +kernel
theorem dX8_changed_111 : decode cX8_changed 111 = .ok (.ifCond .ne 22, 3) := by decide +kernel
theorem dX8_changed_114 : decode cX8_changed 114 = .ok (.aload 4, 2) := by decide +kernel
theorem dX8_changed_116 : decode cX8_changed 116 = .ok (.getfield 115, 3) := by decide +kernel
theorem dX8_changed_119 : decode cX8_changed 119 = .ok (.iload 8, 2) := by decide +kernel
theorem dX8_changed_121 : decode cX8_changed 121 = .ok (.iaload, 1) := by decide +kernel
theorem dX8_changed_122 : decode cX8_changed 122 = .ok (.aload 5, 2) := by decide +kernel
theorem dX8_changed_124 : decode cX8_changed 124 = .ok (.getfield 115, 3) := by decide +kernel
theorem dX8_changed_127 : decode cX8_changed 127 = .ok (.iload 8, 2) := by decide +kernel
theorem dX8_changed_129 : decode cX8_changed 129 = .ok (.iaload, 1) := by decide +kernel
theorem dX8_changed_130 : decode cX8_changed 130 = .ok (.if_icmp .eq 22, 3) := by decide +kernel
theorem dX8_changed_133 : decode cX8_changed 133 = .ok (.iinc 6 1, 3) := by decide +kernel
theorem dX8_changed_136 : decode cX8_changed 136 = .ok (.iload 7, 2) := by decide +kernel
theorem dX8_changed_138 : decode cX8_changed 138 = .ok (.bipush (-6), 2) := by decide +kernel
theorem dX8_changed_140 : decode cX8_changed 140 = .ok (.if_icmp .ne 8, 3) := by decide +kernel
theorem dX8_changed_143 : decode cX8_changed 143 = .ok (.iload 8, 2) := by decide +kernel
theorem dX8_changed_145 : decode cX8_changed 145 = .ok (.goto 5, 3) := by decide +kernel
theorem dX8_changed_148 : decode cX8_changed 148 = .ok (.iload 7, 2) := by decide +kernel
theorem dX8_changed_150 : decode cX8_changed 150 = .ok (.istore 7, 2) := by decide +kernel
theorem dX8_changed_152 : decode cX8_changed 152 = .ok (.iinc 8 1, 3) := by decide +kernel
theorem dX8_changed_155 : decode cX8_changed 155 = .ok (.goto (-79), 3) := by decide +kernel
theorem dX8_changed_158 : decode cX8_changed 158 = .ok (.iload_n 3, 1) := by decide +kernel
theorem dX8_changed_159 : decode cX8_changed 159 = .ok (.ifCond .ne 8, 3) := by decide +kernel
theorem dX8_changed_162 : decode cX8_changed 162 = .ok (.iload 6, 2) := by decide +kernel
theorem dX8_changed_164 : decode cX8_changed 164 = .ok (.goto 5, 3) := by decide +kernel
theorem dX8_changed_167 : decode cX8_changed 167 = .ok (.iload 7, 2) := by decide +kernel
theorem dX8_changed_169 : decode cX8_changed 169 = .ok (.ireturn, 1) := by decide +kernel
theorem dX8_orders_0 : decode cX8_orders 0 = .ok (.iload_n 1, 1) := by decide +kernel
theorem dX8_orders_1 : decode cX8_orders 1 = .ok (.invokestatic 73, 3) := by decide +kernel
theorem dX8_orders_4 : decode cX8_orders 4 = .ok (.ifCond .eq 10, 3) := by decide +kernel
theorem dX8_orders_7 : decode cX8_orders 7 = .ok (.iload_n 2, 1) := by decide +kernel
theorem dX8_orders_8 : decode cX8_orders 8 = .ok (.invokestatic 73, 3) := by decide +kernel
theorem dX8_orders_11 : decode cX8_orders 11 = .ok (.ifCond .ne 5, 3) := by decide +kernel
theorem dX8_orders_14 : decode cX8_orders 14 = .ok (.iconst (-1), 1) := by decide +kernel
theorem dX8_orders_15 : decode cX8_orders 15 = .ok (.ireturn, 1) := by decide +kernel
theorem dX8_orders_16 : decode cX8_orders 16 = .ok (.iload 4, 2) := by decide +kernel
theorem dX8_orders_18 : decode cX8_orders 18 = .ok (.bipush 10, 2) := by decide +kernel
theorem dX8_orders_20 : decode cX8_orders 20 = .ok (.if_icmp .lt 15, 3) := by decide +kernel
theorem dX8_orders_23 : decode cX8_orders 23 = .ok (.iload 4, 2) := by decide +kernel
theorem dX8_orders_25 : decode cX8_orders 25 = .ok (.sipush 266, 3) := by decide +kernel
theorem dX8_orders_28 : decode cX8_orders 28 = .ok (.if_icmp .ge 7, 3) := by decide +kernel
theorem dX8_orders_31 : decode cX8_orders 31 = .ok (.iconst 1, 1) := by decide +kernel
theorem dX8_orders_32 : decode cX8_orders 32 = .ok (.goto 4, 3) := by decide +kernel
theorem dX8_orders_35 : decode cX8_orders 35 = .ok (.iconst 0, 1) := by decide +kernel
theorem dX8_orders_36 : decode cX8_orders 36 = .ok (.istore 5, 2) := by decide +kernel
theorem dX8_orders_38 : decode cX8_orders 38 = .ok (.iload_n 3, 1) := by decide +kernel
theorem dX8_orders_39 : decode cX8_orders 39 = .ok (.invokestatic 106, 3) := by decide +kernel
theorem dX8_orders_42 : decode cX8_orders 42 = .ok (.ifCond .eq 17, 3) := by decide +kernel
theorem dX8_orders_45 : decode cX8_orders 45 = .ok (.iload 4, 2) := by decide +kernel
theorem dX8_orders_47 : decode cX8_orders 47 = .ok (.iconst 1, 1) := by decide +kernel
theorem dX8_orders_48 : decode cX8_orders 48 = .ok (.invokestatic 99, 3) := by decide +kernel
theorem dX8_orders_51 : decode cX8_orders 51 = .ok (.ifCond .ne 11, 3) := by decide +kernel
theorem dX8_orders_54 : decode cX8_orders 54 = .ok (.iload 5, 2) := by decide +kernel
theorem dX8_orders_56 : decode cX8_orders 56 = .ok (.ifCond .ne 6, 3) := by decide +kernel
theorem dX8_orders_59 : decode cX8_orders 59 = .ok (.bipush (-2), 2) := by decide +kernel
theorem dX8_orders_61 : decode cX8_orders 61 = .ok (.ireturn, 1) := by decide +kernel
theorem dX8_orders_62 : decode cX8_orders 62 = .ok (.iload_n 3, 1) := by decide +kernel
theorem dX8_orders_63 : decode cX8_orders 63 = .ok (.iload_n 1, 1) := by decide +kernel
theorem dX8_orders_64 : decode cX8_orders 64 = .ok (.iload_n 2, 1) := by decide +kernel
theorem dX8_orders_65 : decode cX8_orders 65 = .ok (.invokestatic 153, 3) := by decide +kernel
theorem dX8_orders_68 : decode cX8_orders 68 = .ok (.istore 6, 2) := by decide +kernel
theorem dX8_orders_70 : decode cX8_orders 70 = .ok (.aload_n 0, 1) := by decide +kernel
theorem dX8_orders_71 : decode cX8_orders 71 = .ok (.getfield 69, 3) := by decide +kernel
theorem dX8_orders_74 : decode cX8_orders 74 = .ok (.getfield 255, 3) := by decide +kernel
theorem dX8_orders_77 : decode cX8_orders 77 = .ok (.iload 6, 2) := by decide +kernel
theorem dX8_orders_79 : decode cX8_orders 79 = .ok (.if_icmp .eq 32, 3) := by decide +kernel
theorem dX8_orders_82 : decode cX8_orders 82 = .ok (.aload_n 0, 1) := by decide +kernel
theorem dX8_orders_83 : decode cX8_orders 83 = .ok (.getfield 69, 3) := by decide +kernel
theorem dX8_orders_86 : decode cX8_orders 86 = .ok (.aload_n 0, 1) := by decide +kernel
theorem dX8_orders_87 : decode cX8_orders 87 = .ok (.getfield 14, 3) := by decide +kernel
theorem dX8_orders_90 : decode cX8_orders 90 = .ok (.iload_n 1, 1) := by decide +kernel
theorem dX8_orders_91 : decode cX8_orders 91 = .ok (.aaload, 1) := by decide +kernel
theorem dX8_orders_92 : decode cX8_orders 92 = .ok (.aload_n 0, 1) := by decide +kernel
theorem dX8_orders_93 : decode cX8_orders 93 = .ok (.getfield 14, 3) := by decide +kernel
theorem dX8_orders_96 : decode cX8_orders 96 = .ok (.iload_n 2, 1) := by decide +kernel
theorem dX8_orders_97 : decode cX8_orders 97 = .ok (.aaload, 1) := by decide +kernel
theorem dX8_orders_98 : decode cX8_orders 98 = .ok (.iload_n 3, 1) := by decide +kernel
theorem dX8_orders_99 : decode cX8_orders 99 = .ok (.invokevirtual 256, 3) := by decide +kernel
theorem dX8_orders_102 : decode cX8_orders 102 = .ok (.aload_n 0, 1) := by decide +kernel
theorem dX8_orders_103 : decode cX8_orders 103 = .ok (.getfield 69, 3) := by decide +kernel
theorem dX8_orders_106 : decode cX8_orders 106 = .ok (.iload 6, 2) := by decide +kernel
theorem dX8_orders_108 : decode cX8_orders 108 = .ok (.putfield 255, 3) := by decide +kernel
theorem dX8_orders_111 : decode cX8_orders 111 = .ok (.iload 4, 2) := by decide +kernel
theorem dX8_orders_113 : decode cX8_orders 113 = .ok (.lookupswitch 43 #[(0, 27), (1, 35)], 27) := by decide +kernel
theorem dX8_orders_140 : decode cX8_orders 140 = .ok (.aload_n 0, 1) := by decide +kernel
theorem dX8_orders_141 : decode cX8_orders 141 = .ok (.getfield 69, 3) := by decide +kernel
theorem dX8_orders_144 : decode cX8_orders 144 = .ok (.invokevirtual 260, 3) := by decide +kernel
theorem dX8_orders_147 : decode cX8_orders 147 = .ok (.ireturn, 1) := by decide +kernel
theorem dX8_orders_148 : decode cX8_orders 148 = .ok (.aload_n 0, 1) := by decide +kernel
theorem dX8_orders_149 : decode cX8_orders 149 = .ok (.getfield 69, 3) := by decide +kernel
theorem dX8_orders_152 : decode cX8_orders 152 = .ok (.invokevirtual 263, 3) := by decide +kernel
theorem dX8_orders_155 : decode cX8_orders 155 = .ok (.ireturn, 1) := by decide +kernel
theorem dX8_orders_156 : decode cX8_orders 156 = .ok (.aload_n 0, 1) := by decide +kernel
theorem dX8_orders_157 : decode cX8_orders 157 = .ok (.getfield 69, 3) := by decide +kernel
theorem dX8_orders_160 : decode cX8_orders 160 = .ok (.iload 4, 2) := by decide +kernel
theorem dX8_orders_162 : decode cX8_orders 162 = .ok (.bipush 10, 2) := by decide +kernel
theorem dX8_orders_164 : decode cX8_orders 164 = .ok (.isub, 1) := by decide +kernel
theorem dX8_orders_165 : decode cX8_orders 165 = .ok (.invokevirtual 266, 3) := by decide +kernel
theorem dX8_orders_168 : decode cX8_orders 168 = .ok (.ifCond .eq 7, 3) := by decide +kernel
theorem dX8_orders_171 : decode cX8_orders 171 = .ok (.iconst 1, 1) := by decide +kernel
theorem dX8_orders_172 : decode cX8_orders 172 = .ok (.goto 4, 3) := by decide +kernel
theorem dX8_orders_175 : decode cX8_orders 175 = .ok (.iconst 0, 1) := by decide +kernel
theorem dX8_orders_176 : decode cX8_orders 176 = .ok (.ireturn, 1) := by decide +kernel
theorem dX8_told_0 : decode cX8_told 0 = .ok (.iload_n 1, 1) := by decide +kernel
theorem dX8_told_1 : decode cX8_told 1 = .ok (.ifCond .ne 8, 3) := by decide +kernel
theorem dX8_told_4 : decode cX8_told 4 = .ok (.aload_n 0, 1) := by decide +kernel
theorem dX8_told_5 : decode cX8_told 5 = .ok (.getfield 28, 3) := by decide +kernel
theorem dX8_told_8 : decode cX8_told 8 = .ok (.ireturn, 1) := by decide +kernel
theorem dX8_told_9 : decode cX8_told 9 = .ok (.iload_n 1, 1) := by decide +kernel
theorem dX8_told_10 : decode cX8_told 10 = .ok (.iconst 1, 1) := by decide +kernel
theorem dX8_told_11 : decode cX8_told 11 = .ok (.if_icmp .ne 11, 3) := by decide +kernel
theorem dX8_told_14 : decode cX8_told 14 = .ok (.aload_n 0, 1) := by decide +kernel
theorem dX8_told_15 : decode cX8_told 15 = .ok (.getfield 32, 3) := by decide +kernel
theorem dX8_told_18 : decode cX8_told 18 = .ok (.getfield 128, 3) := by decide +kernel
theorem dX8_told_21 : decode cX8_told 21 = .ok (.ireturn, 1) := by decide +kernel
theorem dX8_told_22 : decode cX8_told 22 = .ok (.iload_n 1, 1) := by decide +kernel
theorem dX8_told_23 : decode cX8_told 23 = .ok (.bipush 10, 2) := by decide +kernel
theorem dX8_told_25 : decode cX8_told 25 = .ok (.isub, 1) := by decide +kernel
theorem dX8_told_26 : decode cX8_told 26 = .ok (.invokestatic 73, 3) := by decide +kernel
theorem dX8_told_29 : decode cX8_told 29 = .ok (.ifCond .eq 16, 3) := by decide +kernel
theorem dX8_told_32 : decode cX8_told 32 = .ok (.aload_n 0, 1) := by decide +kernel
theorem dX8_told_33 : decode cX8_told 33 = .ok (.getfield 14, 3) := by decide +kernel
theorem dX8_told_36 : decode cX8_told 36 = .ok (.iload_n 1, 1) := by decide +kernel
theorem dX8_told_37 : decode cX8_told 37 = .ok (.bipush 10, 2) := by decide +kernel
theorem dX8_told_39 : decode cX8_told 39 = .ok (.isub, 1) := by decide +kernel
theorem dX8_told_40 : decode cX8_told 40 = .ok (.aaload, 1) := by decide +kernel
theorem dX8_told_41 : decode cX8_told 41 = .ok (.getfield 81, 3) := by decide +kernel
theorem dX8_told_44 : decode cX8_told 44 = .ok (.ireturn, 1) := by decide +kernel
theorem dX8_told_45 : decode cX8_told 45 = .ok (.iload_n 1, 1) := by decide +kernel
theorem dX8_told_46 : decode cX8_told 46 = .ok (.bipush 20, 2) := by decide +kernel
theorem dX8_told_48 : decode cX8_told 48 = .ok (.isub, 1) := by decide +kernel
theorem dX8_told_49 : decode cX8_told 49 = .ok (.invokestatic 73, 3) := by decide +kernel
theorem dX8_told_52 : decode cX8_told 52 = .ok (.ifCond .eq 16, 3) := by decide +kernel
theorem dX8_told_55 : decode cX8_told 55 = .ok (.aload_n 0, 1) := by decide +kernel
theorem dX8_told_56 : decode cX8_told 56 = .ok (.getfield 14, 3) := by decide +kernel
theorem dX8_told_59 : decode cX8_told 59 = .ok (.iload_n 1, 1) := by decide +kernel
theorem dX8_told_60 : decode cX8_told 60 = .ok (.bipush 20, 2) := by decide +kernel
theorem dX8_told_62 : decode cX8_told 62 = .ok (.isub, 1) := by decide +kernel
theorem dX8_told_63 : decode cX8_told 63 = .ok (.aaload, 1) := by decide +kernel
theorem dX8_told_64 : decode cX8_told 64 = .ok (.getfield 103, 3) := by decide +kernel
theorem dX8_told_67 : decode cX8_told 67 = .ok (.ireturn, 1) := by decide +kernel
theorem dX8_told_68 : decode cX8_told 68 = .ok (.bipush (-2), 2) := by decide +kernel
theorem dX8_told_70 : decode cX8_told 70 = .ok (.ireturn, 1) := by decide +kernel
theorem dX8_isWithin_0 : decode cX8_isWithin 0 = .ok (.iload_n 0, 1) := by decide +kernel
theorem dX8_isWithin_1 : decode cX8_isWithin 1 = .ok (.ifCond .lt 12, 3) := by decide +kernel
theorem dX8_isWithin_4 : decode cX8_isWithin 4 = .ok (.iload_n 0, 1) := by decide +kernel
theorem dX8_isWithin_5 : decode cX8_isWithin 5 = .ok (.iload_n 1, 1) := by decide +kernel
theorem dX8_isWithin_6 : decode cX8_isWithin 6 = .ok (.if_icmp .gt 7, 3) := by decide +kernel
theorem dX8_isWithin_9 : decode cX8_isWithin 9 = .ok (.iconst 1, 1) := by decide +kernel
theorem dX8_isWithin_10 : decode cX8_isWithin 10 = .ok (.goto 4, 3) := by decide +kernel
theorem dX8_isWithin_13 : decode cX8_isWithin 13 = .ok (.iconst 0, 1) := by decide +kernel
theorem dX8_isWithin_14 : decode cX8_isWithin 14 = .ok (.ireturn, 1) := by decide +kernel
theorem dX8_isProgram_0 : decode cX8_isProgram 0 = .ok (.iload_n 0, 1) := by decide +kernel
theorem dX8_isProgram_1 : decode cX8_isProgram 1 = .ok (.iconst 3, 1) := by decide +kernel
theorem dX8_isProgram_2 : decode cX8_isProgram 2 = .ok (.invokestatic 99, 3) := by decide +kernel
theorem dX8_isProgram_5 : decode cX8_isProgram 5 = .ok (.ireturn, 1) := by decide +kernel
theorem dX8_isMemory_0 : decode cX8_isMemory 0 = .ok (.iload_n 0, 1) := by decide +kernel
theorem dX8_isMemory_1 : decode cX8_isMemory 1 = .ok (.sipush 255, 3) := by decide +kernel
theorem dX8_isMemory_4 : decode cX8_isMemory 4 = .ok (.invokestatic 99, 3) := by decide +kernel
theorem dX8_isMemory_7 : decode cX8_isMemory 7 = .ok (.ireturn, 1) := by decide +kernel
theorem dX8_isSaying_0 : decode cX8_isSaying 0 = .ok (.iload_n 1, 1) := by decide +kernel
theorem dX8_isSaying_1 : decode cX8_isSaying 1 = .ok (.aload_n 0, 1) := by decide +kernel
theorem dX8_isSaying_2 : decode cX8_isSaying 2 = .ok (.getfield 28, 3) := by decide +kernel
theorem dX8_isSaying_5 : decode cX8_isSaying 5 = .ok (.iconst 1, 1) := by decide +kernel
theorem dX8_isSaying_6 : decode cX8_isSaying 6 = .ok (.isub, 1) := by decide +kernel
theorem dX8_isSaying_7 : decode cX8_isSaying 7 = .ok (.invokestatic 99, 3) := by decide +kernel
theorem dX8_isSaying_10 : decode cX8_isSaying 10 = .ok (.ireturn, 1) := by decide +kernel
theorem dX8_isAct_0 : decode cX8_isAct 0 = .ok (.iload_n 0, 1) := by decide +kernel
theorem dX8_isAct_1 : decode cX8_isAct 1 = .ok (.tableswitch 170 0 7 #[47, 47, 73, 73, 73, 103, 130, 152], 47) := by decide +kernel
theorem dX8_isAct_48 : decode cX8_isAct 48 = .ok (.iload_n 1, 1) := by decide +kernel
theorem dX8_isAct_49 : decode cX8_isAct 49 = .ok (.iconst 3, 1) := by decide +kernel
theorem dX8_isAct_50 : decode cX8_isAct 50 = .ok (.invokestatic 99, 3) := by decide +kernel
theorem dX8_isAct_53 : decode cX8_isAct 53 = .ok (.ifCond .eq 19, 3) := by decide +kernel
theorem dX8_isAct_56 : decode cX8_isAct 56 = .ok (.iload_n 2, 1) := by decide +kernel
theorem dX8_isAct_57 : decode cX8_isAct 57 = .ok (.iconst 3, 1) := by decide +kernel
theorem dX8_isAct_58 : decode cX8_isAct 58 = .ok (.invokestatic 99, 3) := by decide +kernel
theorem dX8_isAct_61 : decode cX8_isAct 61 = .ok (.ifCond .eq 11, 3) := by decide +kernel
theorem dX8_isAct_64 : decode cX8_isAct 64 = .ok (.iload_n 3, 1) := by decide +kernel
theorem dX8_isAct_65 : decode cX8_isAct 65 = .ok (.ifCond .ne 7, 3) := by decide +kernel
theorem dX8_isAct_68 : decode cX8_isAct 68 = .ok (.iconst 1, 1) := by decide +kernel
theorem dX8_isAct_69 : decode cX8_isAct 69 = .ok (.goto 4, 3) := by decide +kernel
theorem dX8_isAct_72 : decode cX8_isAct 72 = .ok (.iconst 0, 1) := by decide +kernel
theorem dX8_isAct_73 : decode cX8_isAct 73 = .ok (.ireturn, 1) := by decide +kernel
theorem dX8_isAct_74 : decode cX8_isAct 74 = .ok (.iload_n 1, 1) := by decide +kernel
theorem dX8_isAct_75 : decode cX8_isAct 75 = .ok (.iconst 3, 1) := by decide +kernel
theorem dX8_isAct_76 : decode cX8_isAct 76 = .ok (.invokestatic 99, 3) := by decide +kernel
theorem dX8_isAct_79 : decode cX8_isAct 79 = .ok (.ifCond .eq 23, 3) := by decide +kernel
theorem dX8_isAct_82 : decode cX8_isAct 82 = .ok (.iload_n 2, 1) := by decide +kernel
theorem dX8_isAct_83 : decode cX8_isAct 83 = .ok (.iconst 3, 1) := by decide +kernel
theorem dX8_isAct_84 : decode cX8_isAct 84 = .ok (.invokestatic 99, 3) := by decide +kernel
theorem dX8_isAct_87 : decode cX8_isAct 87 = .ok (.ifCond .eq 15, 3) := by decide +kernel
theorem dX8_isAct_90 : decode cX8_isAct 90 = .ok (.iload_n 3, 1) := by decide +kernel
theorem dX8_isAct_91 : decode cX8_isAct 91 = .ok (.iconst 3, 1) := by decide +kernel
theorem dX8_isAct_92 : decode cX8_isAct 92 = .ok (.invokestatic 99, 3) := by decide +kernel
theorem dX8_isAct_95 : decode cX8_isAct 95 = .ok (.ifCond .eq 7, 3) := by decide +kernel
theorem dX8_isAct_98 : decode cX8_isAct 98 = .ok (.iconst 1, 1) := by decide +kernel
theorem dX8_isAct_99 : decode cX8_isAct 99 = .ok (.goto 4, 3) := by decide +kernel
theorem dX8_isAct_102 : decode cX8_isAct 102 = .ok (.iconst 0, 1) := by decide +kernel
theorem dX8_isAct_103 : decode cX8_isAct 103 = .ok (.ireturn, 1) := by decide +kernel
theorem dX8_isAct_104 : decode cX8_isAct 104 = .ok (.iload_n 1, 1) := by decide +kernel
theorem dX8_isAct_105 : decode cX8_isAct 105 = .ok (.iconst 3, 1) := by decide +kernel
theorem dX8_isAct_106 : decode cX8_isAct 106 = .ok (.invokestatic 99, 3) := by decide +kernel
theorem dX8_isAct_109 : decode cX8_isAct 109 = .ok (.ifCond .eq 20, 3) := by decide +kernel
theorem dX8_isAct_112 : decode cX8_isAct 112 = .ok (.iload_n 2, 1) := by decide +kernel
theorem dX8_isAct_113 : decode cX8_isAct 113 = .ok (.bipush 12, 2) := by decide +kernel
theorem dX8_isAct_115 : decode cX8_isAct 115 = .ok (.invokestatic 99, 3) := by decide +kernel
theorem dX8_isAct_118 : decode cX8_isAct 118 = .ok (.ifCond .eq 11, 3) := by decide +kernel
theorem dX8_isAct_121 : decode cX8_isAct 121 = .ok (.iload_n 3, 1) := by decide +kernel
theorem dX8_isAct_122 : decode cX8_isAct 122 = .ok (.ifCond .ne 7, 3) := by decide +kernel
theorem dX8_isAct_125 : decode cX8_isAct 125 = .ok (.iconst 1, 1) := by decide +kernel
theorem dX8_isAct_126 : decode cX8_isAct 126 = .ok (.goto 4, 3) := by decide +kernel
theorem dX8_isAct_129 : decode cX8_isAct 129 = .ok (.iconst 0, 1) := by decide +kernel
theorem dX8_isAct_130 : decode cX8_isAct 130 = .ok (.ireturn, 1) := by decide +kernel
theorem dX8_isAct_131 : decode cX8_isAct 131 = .ok (.iload_n 1, 1) := by decide +kernel
theorem dX8_isAct_132 : decode cX8_isAct 132 = .ok (.iconst 3, 1) := by decide +kernel
theorem dX8_isAct_133 : decode cX8_isAct 133 = .ok (.invokestatic 99, 3) := by decide +kernel
theorem dX8_isAct_136 : decode cX8_isAct 136 = .ok (.ifCond .eq 15, 3) := by decide +kernel
theorem dX8_isAct_139 : decode cX8_isAct 139 = .ok (.iload_n 2, 1) := by decide +kernel
theorem dX8_isAct_140 : decode cX8_isAct 140 = .ok (.ifCond .ne 11, 3) := by decide +kernel
theorem dX8_isAct_143 : decode cX8_isAct 143 = .ok (.iload_n 3, 1) := by decide +kernel
theorem dX8_isAct_144 : decode cX8_isAct 144 = .ok (.ifCond .ne 7, 3) := by decide +kernel
theorem dX8_isAct_147 : decode cX8_isAct 147 = .ok (.iconst 1, 1) := by decide +kernel
theorem dX8_isAct_148 : decode cX8_isAct 148 = .ok (.goto 4, 3) := by decide +kernel
theorem dX8_isAct_151 : decode cX8_isAct 151 = .ok (.iconst 0, 1) := by decide +kernel
theorem dX8_isAct_152 : decode cX8_isAct 152 = .ok (.ireturn, 1) := by decide +kernel
theorem dX8_isAct_153 : decode cX8_isAct 153 = .ok (.iload_n 1, 1) := by decide +kernel
theorem dX8_isAct_154 : decode cX8_isAct 154 = .ok (.ifCond .ne 15, 3) := by decide +kernel
theorem dX8_isAct_157 : decode cX8_isAct 157 = .ok (.iload_n 2, 1) := by decide +kernel
theorem dX8_isAct_158 : decode cX8_isAct 158 = .ok (.ifCond .ne 11, 3) := by decide +kernel
theorem dX8_isAct_161 : decode cX8_isAct 161 = .ok (.iload_n 3, 1) := by decide +kernel
theorem dX8_isAct_162 : decode cX8_isAct 162 = .ok (.ifCond .ne 7, 3) := by decide +kernel
theorem dX8_isAct_165 : decode cX8_isAct 165 = .ok (.iconst 1, 1) := by decide +kernel
theorem dX8_isAct_166 : decode cX8_isAct 166 = .ok (.goto 4, 3) := by decide +kernel
theorem dX8_isAct_169 : decode cX8_isAct 169 = .ok (.iconst 0, 1) := by decide +kernel
theorem dX8_isAct_170 : decode cX8_isAct 170 = .ok (.ireturn, 1) := by decide +kernel
theorem dX8_isAct_171 : decode cX8_isAct 171 = .ok (.iconst 0, 1) := by decide +kernel
theorem dX8_isAct_172 : decode cX8_isAct 172 = .ok (.ireturn, 1) := by decide +kernel
theorem dX8_keyOf_0 : decode cX8_keyOf 0 = .ok (.iload_n 0, 1) := by decide +kernel
theorem dX8_keyOf_1 : decode cX8_keyOf 1 = .ok (.iconst 4, 1) := by decide +kernel
theorem dX8_keyOf_2 : decode cX8_keyOf 2 = .ok (.imul, 1) := by decide +kernel
theorem dX8_keyOf_3 : decode cX8_keyOf 3 = .ok (.iload_n 1, 1) := by decide +kernel
theorem dX8_keyOf_4 : decode cX8_keyOf 4 = .ok (.iadd, 1) := by decide +kernel
theorem dX8_keyOf_5 : decode cX8_keyOf 5 = .ok (.iconst 4, 1) := by decide +kernel
theorem dX8_keyOf_6 : decode cX8_keyOf 6 = .ok (.imul, 1) := by decide +kernel
theorem dX8_keyOf_7 : decode cX8_keyOf 7 = .ok (.iload_n 2, 1) := by decide +kernel
theorem dX8_keyOf_8 : decode cX8_keyOf 8 = .ok (.iadd, 1) := by decide +kernel
theorem dX8_keyOf_9 : decode cX8_keyOf 9 = .ok (.ireturn, 1) := by decide +kernel
theorem dX8_forget_0 : decode cX8_forget 0 = .ok (.aload_n 0, 1) := by decide +kernel
theorem dX8_forget_1 : decode cX8_forget 1 = .ok (.getfield 48, 3) := by decide +kernel
theorem dX8_forget_4 : decode cX8_forget 4 = .ok (.bipush (-6), 2) := by decide +kernel
theorem dX8_forget_6 : decode cX8_forget 6 = .ok (.putfield 157, 3) := by decide +kernel
theorem dX8_forget_9 : decode cX8_forget 9 = .ok (.aload_n 0, 1) := by decide +kernel
theorem dX8_forget_10 : decode cX8_forget 10 = .ok (.getfield 62, 3) := by decide +kernel
theorem dX8_forget_13 : decode cX8_forget 13 = .ok (.bipush (-6), 2) := by decide +kernel
theorem dX8_forget_15 : decode cX8_forget 15 = .ok (.putfield 269, 3) := by decide +kernel
theorem dX8_forget_18 : decode cX8_forget 18 = .ok (.aload_n 0, 1) := by decide +kernel
theorem dX8_forget_19 : decode cX8_forget 19 = .ok (.getfield 69, 3) := by decide +kernel
theorem dX8_forget_22 : decode cX8_forget 22 = .ok (.bipush (-6), 2) := by decide +kernel
theorem dX8_forget_24 : decode cX8_forget 24 = .ok (.putfield 255, 3) := by decide +kernel
theorem dX8_forget_27 : decode cX8_forget 27 = .ok (.return_, 1) := by decide +kernel
theorem dX8_makeWalk_0 : decode cX8_makeWalk 0 = .ok (.iload_n 1, 1) := by decide +kernel
theorem dX8_makeWalk_1 : decode cX8_makeWalk 1 = .ok (.iload_n 2, 1) := by decide +kernel
theorem dX8_makeWalk_2 : decode cX8_makeWalk 2 = .ok (.iload_n 3, 1) := by decide +kernel
theorem dX8_makeWalk_3 : decode cX8_makeWalk 3 = .ok (.invokestatic 153, 3) := by decide +kernel
theorem dX8_makeWalk_6 : decode cX8_makeWalk 6 = .ok (.istore 4, 2) := by decide +kernel
theorem dX8_makeWalk_8 : decode cX8_makeWalk 8 = .ok (.aload_n 0, 1) := by decide +kernel
theorem dX8_makeWalk_9 : decode cX8_makeWalk 9 = .ok (.getfield 62, 3) := by decide +kernel
theorem dX8_makeWalk_12 : decode cX8_makeWalk 12 = .ok (.getfield 269, 3) := by decide +kernel
theorem dX8_makeWalk_15 : decode cX8_makeWalk 15 = .ok (.iload 4, 2) := by decide +kernel
theorem dX8_makeWalk_17 : decode cX8_makeWalk 17 = .ok (.if_icmp .eq 37, 3) := by decide +kernel
theorem dX8_makeWalk_20 : decode cX8_makeWalk 20 = .ok (.aload_n 0, 1) := by decide +kernel
theorem dX8_makeWalk_21 : decode cX8_makeWalk 21 = .ok (.getfield 62, 3) := by decide +kernel
theorem dX8_makeWalk_24 : decode cX8_makeWalk 24 = .ok (.aload_n 0, 1) := by decide +kernel
theorem dX8_makeWalk_25 : decode cX8_makeWalk 25 = .ok (.getfield 23, 3) := by decide +kernel
theorem dX8_makeWalk_28 : decode cX8_makeWalk 28 = .ok (.iload_n 1, 1) := by decide +kernel
theorem dX8_makeWalk_29 : decode cX8_makeWalk 29 = .ok (.aaload, 1) := by decide +kernel
theorem dX8_makeWalk_30 : decode cX8_makeWalk 30 = .ok (.aload_n 0, 1) := by decide +kernel
theorem dX8_makeWalk_31 : decode cX8_makeWalk 31 = .ok (.getfield 14, 3) := by decide +kernel
theorem dX8_makeWalk_34 : decode cX8_makeWalk 34 = .ok (.iload_n 2, 1) := by decide +kernel
theorem dX8_makeWalk_35 : decode cX8_makeWalk 35 = .ok (.aaload, 1) := by decide +kernel
theorem dX8_makeWalk_36 : decode cX8_makeWalk 36 = .ok (.aload_n 0, 1) := by decide +kernel
theorem dX8_makeWalk_37 : decode cX8_makeWalk 37 = .ok (.getfield 14, 3) := by decide +kernel
theorem dX8_makeWalk_40 : decode cX8_makeWalk 40 = .ok (.iload_n 3, 1) := by decide +kernel
theorem dX8_makeWalk_41 : decode cX8_makeWalk 41 = .ok (.aaload, 1) := by decide +kernel
theorem dX8_makeWalk_42 : decode cX8_makeWalk 42 = .ok (.invokevirtual 270, 3) := by decide +kernel
theorem dX8_makeWalk_45 : decode cX8_makeWalk 45 = .ok (.aload_n 0, 1) := by decide +kernel
theorem dX8_makeWalk_46 : decode cX8_makeWalk 46 = .ok (.getfield 62, 3) := by decide +kernel
theorem dX8_makeWalk_49 : decode cX8_makeWalk 49 = .ok (.iload 4, 2) := by decide +kernel
theorem dX8_makeWalk_51 : decode cX8_makeWalk 51 = .ok (.putfield 269, 3) := by decide +kernel
theorem dX8_makeWalk_54 : decode cX8_makeWalk 54 = .ok (.return_, 1) := by decide +kernel
theorem dX8_valueOf_0 : decode cX8_valueOf 0 = .ok (.iload_n 0, 1) := by decide +kernel
theorem dX8_valueOf_1 : decode cX8_valueOf 1 = .ok (.bipush 6, 2) := by decide +kernel
theorem dX8_valueOf_3 : decode cX8_valueOf 3 = .ok (.iconst 2, 1) := by decide +kernel
theorem dX8_valueOf_4 : decode cX8_valueOf 4 = .ok (.iload_n 1, 1) := by decide +kernel
theorem dX8_valueOf_5 : decode cX8_valueOf 5 = .ok (.imul, 1) := by decide +kernel
theorem dX8_valueOf_6 : decode cX8_valueOf 6 = .ok (.isub, 1) := by decide +kernel
theorem dX8_valueOf_7 : decode cX8_valueOf 7 = .ok (.ishr, 1) := by decide +kernel
theorem dX8_valueOf_8 : decode cX8_valueOf 8 = .ok (.iconst 3, 1) := by decide +kernel
theorem dX8_valueOf_9 : decode cX8_valueOf 9 = .ok (.iand, 1) := by decide +kernel
theorem dX8_valueOf_10 : decode cX8_valueOf 10 = .ok (.ireturn, 1) := by decide +kernel
theorem dX8_withValue_0 : decode cX8_withValue 0 = .ok (.bipush 6, 2) := by decide +kernel
theorem dX8_withValue_2 : decode cX8_withValue 2 = .ok (.iconst 2, 1) := by decide +kernel
theorem dX8_withValue_3 : decode cX8_withValue 3 = .ok (.iload_n 1, 1) := by decide +kernel
theorem dX8_withValue_4 : decode cX8_withValue 4 = .ok (.imul, 1) := by decide +kernel
theorem dX8_withValue_5 : decode cX8_withValue 5 = .ok (.isub, 1) := by decide +kernel
theorem dX8_withValue_6 : decode cX8_withValue 6 = .ok (.istore_n 3, 1) := by decide +kernel
theorem dX8_withValue_7 : decode cX8_withValue 7 = .ok (.iload_n 0, 1) := by decide +kernel
theorem dX8_withValue_8 : decode cX8_withValue 8 = .ok (.iconst 3, 1) := by decide +kernel
theorem dX8_withValue_9 : decode cX8_withValue 9 = .ok (.iload_n 3, 1) := by decide +kernel
theorem dX8_withValue_10 : decode cX8_withValue 10 = .ok (.ishl, 1) := by decide +kernel
theorem dX8_withValue_11 : decode cX8_withValue 11 = .ok (.iconst (-1), 1) := by decide +kernel
theorem dX8_withValue_12 : decode cX8_withValue 12 = .ok (.ixor, 1) := by decide +kernel
theorem dX8_withValue_13 : decode cX8_withValue 13 = .ok (.iand, 1) := by decide +kernel
theorem dX8_withValue_14 : decode cX8_withValue 14 = .ok (.iload_n 2, 1) := by decide +kernel
theorem dX8_withValue_15 : decode cX8_withValue 15 = .ok (.iconst 3, 1) := by decide +kernel
theorem dX8_withValue_16 : decode cX8_withValue 16 = .ok (.iand, 1) := by decide +kernel
theorem dX8_withValue_17 : decode cX8_withValue 17 = .ok (.iload_n 3, 1) := by decide +kernel
theorem dX8_withValue_18 : decode cX8_withValue 18 = .ok (.ishl, 1) := by decide +kernel
theorem dX8_withValue_19 : decode cX8_withValue 19 = .ok (.ior, 1) := by decide +kernel
theorem dX8_withValue_20 : decode cX8_withValue 20 = .ok (.ireturn, 1) := by decide +kernel
theorem dX8_digitsOf_0 : decode cX8_digitsOf 0 = .ok (.iconst 0, 1) := by decide +kernel
theorem dX8_digitsOf_1 : decode cX8_digitsOf 1 = .ok (.istore_n 1, 1) := by decide +kernel
theorem dX8_digitsOf_2 : decode cX8_digitsOf 2 = .ok (.iconst 0, 1) := by decide +kernel
theorem dX8_digitsOf_3 : decode cX8_digitsOf 3 = .ok (.istore_n 2, 1) := by decide +kernel
theorem dX8_digitsOf_4 : decode cX8_digitsOf 4 = .ok (.iload_n 2, 1) := by decide +kernel
theorem dX8_digitsOf_5 : decode cX8_digitsOf 5 = .ok (.iconst 4, 1) := by decide +kernel
theorem dX8_digitsOf_6 : decode cX8_digitsOf 6 = .ok (.if_icmp .ge 24, 3) := by decide +kernel
theorem dX8_digitsOf_9 : decode cX8_digitsOf 9 = .ok (.iload_n 0, 1) := by decide +kernel
theorem dX8_digitsOf_10 : decode cX8_digitsOf 10 = .ok (.iload_n 2, 1) := by decide +kernel
theorem dX8_digitsOf_11 : decode cX8_digitsOf 11 = .ok (.ishr, 1) := by decide +kernel
theorem dX8_digitsOf_12 : decode cX8_digitsOf 12 = .ok (.iconst 1, 1) := by decide +kernel
theorem dX8_digitsOf_13 : decode cX8_digitsOf 13 = .ok (.iand, 1) := by decide +kernel
theorem dX8_digitsOf_14 : decode cX8_digitsOf 14 = .ok (.ifCond .eq 10, 3) := by decide +kernel
theorem dX8_digitsOf_17 : decode cX8_digitsOf 17 = .ok (.iload_n 1, 1) := by decide +kernel
theorem dX8_digitsOf_18 : decode cX8_digitsOf 18 = .ok (.iload_n 2, 1) := by decide +kernel
theorem dX8_digitsOf_19 : decode cX8_digitsOf 19 = .ok (.iconst 3, 1) := by decide +kernel
theorem dX8_digitsOf_20 : decode cX8_digitsOf 20 = .ok (.invokestatic 236, 3) := by decide +kernel
theorem dX8_digitsOf_23 : decode cX8_digitsOf 23 = .ok (.istore_n 1, 1) := by decide +kernel
theorem dX8_digitsOf_24 : decode cX8_digitsOf 24 = .ok (.iinc 2 1, 3) := by decide +kernel
theorem dX8_digitsOf_27 : decode cX8_digitsOf 27 = .ok (.goto (-23), 3) := by decide +kernel
theorem dX8_digitsOf_30 : decode cX8_digitsOf 30 = .ok (.iload_n 1, 1) := by decide +kernel
theorem dX8_digitsOf_31 : decode cX8_digitsOf 31 = .ok (.ireturn, 1) := by decide +kernel
theorem dX9_init_0 : decode cX9_init 0 = .ok (.aload_n 0, 1) := by decide +kernel
theorem dX9_init_1 : decode cX9_init 1 = .ok (.invokespecial 1, 3) := by decide +kernel
theorem dX9_init_4 : decode cX9_init 4 = .ok (.aload_n 0, 1) := by decide +kernel
theorem dX9_init_5 : decode cX9_init 5 = .ok (.bipush 48, 2) := by decide +kernel
theorem dX9_init_7 : decode cX9_init 7 = .ok (.newarray .int, 2) := by decide +kernel
theorem dX9_init_9 : decode cX9_init 9 = .ok (.putfield 7, 3) := by decide +kernel
theorem dX9_init_12 : decode cX9_init 12 = .ok (.aload_n 0, 1) := by decide +kernel
theorem dX9_init_13 : decode cX9_init 13 = .ok (.bipush 48, 2) := by decide +kernel
theorem dX9_init_15 : decode cX9_init 15 = .ok (.newarray .int, 2) := by decide +kernel
theorem dX9_init_17 : decode cX9_init 17 = .ok (.putfield 13, 3) := by decide +kernel
theorem dX9_init_20 : decode cX9_init 20 = .ok (.aload_n 0, 1) := by decide +kernel
theorem dX9_init_21 : decode cX9_init 21 = .ok (.bipush 48, 2) := by decide +kernel
theorem dX9_init_23 : decode cX9_init 23 = .ok (.newarray .int, 2) := by decide +kernel
theorem dX9_init_25 : decode cX9_init 25 = .ok (.putfield 16, 3) := by decide +kernel
theorem dX9_init_28 : decode cX9_init 28 = .ok (.aload_n 0, 1) := by decide +kernel
theorem dX9_init_29 : decode cX9_init 29 = .ok (.bipush 48, 2) := by decide +kernel
theorem dX9_init_31 : decode cX9_init 31 = .ok (.newarray .int, 2) := by decide +kernel
theorem dX9_init_33 : decode cX9_init 33 = .ok (.putfield 19, 3) := by decide +kernel
theorem dX9_init_36 : decode cX9_init 36 = .ok (.aload_n 0, 1) := by decide +kernel
theorem dX9_init_37 : decode cX9_init 37 = .ok (.iconst 4, 1) := by decide +kernel
theorem dX9_init_38 : decode cX9_init 38 = .ok (.newarray .int, 2) := by decide +kernel
theorem dX9_init_40 : decode cX9_init 40 = .ok (.putfield 22, 3) := by decide +kernel
theorem dX9_init_43 : decode cX9_init 43 = .ok (.aload_n 0, 1) := by decide +kernel
theorem dX9_init_44 : decode cX9_init 44 = .ok (.iconst 4, 1) := by decide +kernel
theorem dX9_init_45 : decode cX9_init 45 = .ok (.newarray .int, 2) := by decide +kernel
theorem dX9_init_47 : decode cX9_init 47 = .ok (.putfield 25, 3) := by decide +kernel
theorem dX9_init_50 : decode cX9_init 50 = .ok (.aload_n 0, 1) := by decide +kernel
theorem dX9_init_51 : decode cX9_init 51 = .ok (.iconst 4, 1) := by decide +kernel
theorem dX9_init_52 : decode cX9_init 52 = .ok (.newarray .boolean, 2) := by decide +kernel
theorem dX9_init_54 : decode cX9_init 54 = .ok (.putfield 28, 3) := by decide +kernel
theorem dX9_init_57 : decode cX9_init 57 = .ok (.aload_n 0, 1) := by decide +kernel
theorem dX9_init_58 : decode cX9_init 58 = .ok (.sipush 12288, 3) := by decide +kernel
theorem dX9_init_61 : decode cX9_init 61 = .ok (.newarray .int, 2) := by decide +kernel
theorem dX9_init_63 : decode cX9_init 63 = .ok (.putfield 32, 3) := by decide +kernel
theorem dX9_init_66 : decode cX9_init 66 = .ok (.aload_n 0, 1) := by decide +kernel
theorem dX9_init_67 : decode cX9_init 67 = .ok (.sipush 512, 3) := by decide +kernel
theorem dX9_init_70 : decode cX9_init 70 = .ok (.newarray .int, 2) := by decide +kernel
theorem dX9_init_72 : decode cX9_init 72 = .ok (.putfield 35, 3) := by decide +kernel
theorem dX9_init_75 : decode cX9_init 75 = .ok (.aload_n 0, 1) := by decide +kernel
theorem dX9_init_76 : decode cX9_init 76 = .ok (.sipush 512, 3) := by decide +kernel
theorem dX9_init_79 : decode cX9_init 79 = .ok (.newarray .int, 2) := by decide +kernel
theorem dX9_init_81 : decode cX9_init 81 = .ok (.putfield 38, 3) := by decide +kernel
theorem dX9_init_84 : decode cX9_init 84 = .ok (.aload_n 0, 1) := by decide +kernel
theorem dX9_init_85 : decode cX9_init 85 = .ok (.sipush 512, 3) := by decide +kernel
theorem dX9_init_88 : decode cX9_init 88 = .ok (.newarray .int, 2) := by decide +kernel
theorem dX9_init_90 : decode cX9_init 90 = .ok (.putfield 41, 3) := by decide +kernel
theorem dX9_init_93 : decode cX9_init 93 = .ok (.aload_n 0, 1) := by decide +kernel
theorem dX9_init_94 : decode cX9_init 94 = .ok (.sipush 512, 3) := by decide +kernel
theorem dX9_init_97 : decode cX9_init 97 = .ok (.newarray .int, 2) := by decide +kernel
theorem dX9_init_99 : decode cX9_init 99 = .ok (.putfield 44, 3) := by decide +kernel
theorem dX9_init_102 : decode cX9_init 102 = .ok (.aload_n 0, 1) := by decide +kernel
theorem dX9_init_103 : decode cX9_init 103 = .ok (.sipush 12288, 3) := by decide +kernel
theorem dX9_init_106 : decode cX9_init 106 = .ok (.newarray .int, 2) := by decide +kernel
theorem dX9_init_108 : decode cX9_init 108 = .ok (.putfield 47, 3) := by decide +kernel
theorem dX9_init_111 : decode cX9_init 111 = .ok (.aload_n 0, 1) := by decide +kernel
theorem dX9_init_112 : decode cX9_init 112 = .ok (.sipush 280, 3) := by decide +kernel
theorem dX9_init_115 : decode cX9_init 115 = .ok (.newarray .int, 2) := by decide +kernel
theorem dX9_init_117 : decode cX9_init 117 = .ok (.putfield 50, 3) := by decide +kernel
theorem dX9_init_120 : decode cX9_init 120 = .ok (.aload_n 0, 1) := by decide +kernel
theorem dX9_init_121 : decode cX9_init 121 = .ok (.bipush 7, 2) := by decide +kernel
theorem dX9_init_123 : decode cX9_init 123 = .ok (.newarray .int, 2) := by decide +kernel
theorem dX9_init_125 : decode cX9_init 125 = .ok (.putfield 53, 3) := by decide +kernel
theorem dX9_init_128 : decode cX9_init 128 = .ok (.aload_n 0, 1) := by decide +kernel
theorem dX9_init_129 : decode cX9_init 129 = .ok (.bipush (-6), 2) := by decide +kernel
theorem dX9_init_131 : decode cX9_init 131 = .ok (.putfield 56, 3) := by decide +kernel
theorem dX9_init_134 : decode cX9_init 134 = .ok (.aload_n 0, 1) := by decide +kernel
theorem dX9_init_135 : decode cX9_init 135 = .ok (.sipush 144, 3) := by decide +kernel
theorem dX9_init_138 : decode cX9_init 138 = .ok (.newarray .int, 2) := by decide +kernel
theorem dX9_init_140 : decode cX9_init 140 = .ok (.putfield 60, 3) := by decide +kernel
theorem dX9_init_143 : decode cX9_init 143 = .ok (.aload_n 0, 1) := by decide +kernel
theorem dX9_init_144 : decode cX9_init 144 = .ok (.sipush 169, 3) := by decide +kernel
theorem dX9_init_147 : decode cX9_init 147 = .ok (.newarray .int, 2) := by decide +kernel
theorem dX9_init_149 : decode cX9_init 149 = .ok (.putfield 63, 3) := by decide +kernel
theorem dX9_init_152 : decode cX9_init 152 = .ok (.aload_n 0, 1) := by decide +kernel
theorem dX9_init_153 : decode cX9_init 153 = .ok (.sipush 169, 3) := by decide +kernel
theorem dX9_init_156 : decode cX9_init 156 = .ok (.newarray .int, 2) := by decide +kernel
theorem dX9_init_158 : decode cX9_init 158 = .ok (.putfield 66, 3) := by decide +kernel
theorem dX9_init_161 : decode cX9_init 161 = .ok (.aload_n 0, 1) := by decide +kernel
theorem dX9_init_162 : decode cX9_init 162 = .ok (.sipush 169, 3) := by decide +kernel
theorem dX9_init_165 : decode cX9_init 165 = .ok (.newarray .boolean, 2) := by decide +kernel
theorem dX9_init_167 : decode cX9_init 167 = .ok (.putfield 69, 3) := by decide +kernel
theorem dX9_init_170 : decode cX9_init 170 = .ok (.aload_n 0, 1) := by decide +kernel
theorem dX9_init_171 : decode cX9_init 171 = .ok (.ldc 72, 2) := by decide +kernel
theorem dX9_init_173 : decode cX9_init 173 = .ok (.newarray .int, 2) := by decide +kernel
theorem dX9_init_175 : decode cX9_init 175 = .ok (.putfield 73, 3) := by decide +kernel
theorem dX9_init_178 : decode cX9_init 178 = .ok (.aload_n 0, 1) := by decide +kernel
theorem dX9_init_179 : decode cX9_init 179 = .ok (.bipush (-6), 2) := by decide +kernel
theorem dX9_init_181 : decode cX9_init 181 = .ok (.putfield 76, 3) := by decide +kernel
theorem dX9_init_184 : decode cX9_init 184 = .ok (.aload_n 0, 1) := by decide +kernel
theorem dX9_init_185 : decode cX9_init 185 = .ok (.bipush (-6), 2) := by decide +kernel
theorem dX9_init_187 : decode cX9_init 187 = .ok (.putfield 79, 3) := by decide +kernel
theorem dX9_init_190 : decode cX9_init 190 = .ok (.aload_n 0, 1) := by decide +kernel
theorem dX9_init_191 : decode cX9_init 191 = .ok (.ldc 82, 2) := by decide +kernel
theorem dX9_init_193 : decode cX9_init 193 = .ok (.newarray .boolean, 2) := by decide +kernel
theorem dX9_init_195 : decode cX9_init 195 = .ok (.putfield 83, 3) := by decide +kernel
theorem dX9_init_198 : decode cX9_init 198 = .ok (.aload_n 0, 1) := by decide +kernel
theorem dX9_init_199 : decode cX9_init 199 = .ok (.ldc 82, 2) := by decide +kernel
theorem dX9_init_201 : decode cX9_init 201 = .ok (.newarray .int, 2) := by decide +kernel
theorem dX9_init_203 : decode cX9_init 203 = .ok (.putfield 86, 3) := by decide +kernel
theorem dX9_init_206 : decode cX9_init 206 = .ok (.iconst 0, 1) := by decide +kernel
theorem dX9_init_207 : decode cX9_init 207 = .ok (.istore_n 1, 1) := by decide +kernel
theorem dX9_init_208 : decode cX9_init 208 = .ok (.iload_n 1, 1) := by decide +kernel
theorem dX9_init_209 : decode cX9_init 209 = .ok (.sipush 169, 3) := by decide +kernel
theorem dX9_init_212 : decode cX9_init 212 = .ok (.if_icmp .ge 18, 3) := by decide +kernel
theorem dX9_init_215 : decode cX9_init 215 = .ok (.aload_n 0, 1) := by decide +kernel
theorem dX9_init_216 : decode cX9_init 216 = .ok (.getfield 63, 3) := by decide +kernel
theorem dX9_init_219 : decode cX9_init 219 = .ok (.iload_n 1, 1) := by decide +kernel
theorem dX9_init_220 : decode cX9_init 220 = .ok (.sipush 4095, 3) := by decide +kernel
theorem dX9_init_223 : decode cX9_init 223 = .ok (.iastore, 1) := by decide +kernel
theorem dX9_init_224 : decode cX9_init 224 = .ok (.iinc 1 1, 3) := by decide +kernel
theorem dX9_init_227 : decode cX9_init 227 = .ok (.goto (-19), 3) := by decide +kernel
theorem dX9_init_230 : decode cX9_init 230 = .ok (.iconst 0, 1) := by decide +kernel
theorem dX9_init_231 : decode cX9_init 231 = .ok (.istore_n 1, 1) := by decide +kernel
theorem dX9_init_232 : decode cX9_init 232 = .ok (.iload_n 1, 1) := by decide +kernel
theorem dX9_init_233 : decode cX9_init 233 = .ok (.sipush 256, 3) := by decide +kernel
theorem dX9_init_236 : decode cX9_init 236 = .ok (.if_icmp .ge 41, 3) := by decide +kernel
theorem dX9_init_239 : decode cX9_init 239 = .ok (.iconst 0, 1) := by decide +kernel
theorem dX9_init_240 : decode cX9_init 240 = .ok (.istore_n 2, 1) := by decide +kernel
theorem dX9_init_241 : decode cX9_init 241 = .ok (.iload_n 2, 1) := by decide +kernel
theorem dX9_init_242 : decode cX9_init 242 = .ok (.sipush 256, 3) := by decide +kernel
theorem dX9_init_245 : decode cX9_init 245 = .ok (.if_icmp .ge 26, 3) := by decide +kernel
theorem dX9_init_248 : decode cX9_init 248 = .ok (.aload_n 0, 1) := by decide +kernel
theorem dX9_init_249 : decode cX9_init 249 = .ok (.getfield 73, 3) := by decide +kernel
theorem dX9_init_252 : decode cX9_init 252 = .ok (.sipush 256, 3) := by decide +kernel
theorem dX9_init_255 : decode cX9_init 255 = .ok (.iload_n 1, 1) := by decide +kernel
theorem dX9_init_256 : decode cX9_init 256 = .ok (.imul, 1) := by decide +kernel
theorem dX9_init_257 : decode cX9_init 257 = .ok (.iload_n 2, 1) := by decide +kernel
theorem dX9_init_258 : decode cX9_init 258 = .ok (.iadd, 1) := by decide +kernel
theorem dX9_init_259 : decode cX9_init 259 = .ok (.iload_n 1, 1) := by decide +kernel
theorem dX9_init_260 : decode cX9_init 260 = .ok (.iload_n 2, 1) := by decide +kernel
theorem dX9_init_261 : decode cX9_init 261 = .ok (.invokestatic 89, 3) := by decide +kernel
theorem dX9_init_264 : decode cX9_init 264 = .ok (.iastore, 1) := by decide +kernel
theorem dX9_init_265 : decode cX9_init 265 = .ok (.iinc 2 1, 3) := by decide +kernel
theorem dX9_init_268 : decode cX9_init 268 = .ok (.goto (-27), 3) := by decide +kernel
theorem dX9_init_271 : decode cX9_init 271 = .ok (.iinc 1 1, 3) := by decide +kernel
theorem dX9_init_274 : decode cX9_init 274 = .ok (.goto (-42), 3) := by decide +kernel
theorem dX9_init_277 : decode cX9_init 277 = .ok (.return_, 1) := by decide +kernel
theorem dX9_in_0 : decode cX9_in 0 = .ok (.lload_n 0, 1) := by decide +kernel
theorem dX9_in_1 : decode cX9_in 1 = .ok (.lload_n 2, 1) := by decide +kernel
theorem dX9_in_2 : decode cX9_in 2 = .ok (.lcmp, 1) := by decide +kernel
theorem dX9_in_3 : decode cX9_in 3 = .ok (.ifCond .lt 14, 3) := by decide +kernel
theorem dX9_in_6 : decode cX9_in 6 = .ok (.lload_n 0, 1) := by decide +kernel
theorem dX9_in_7 : decode cX9_in 7 = .ok (.lload 4, 2) := by decide +kernel
theorem dX9_in_9 : decode cX9_in 9 = .ok (.lcmp, 1) := by decide +kernel
theorem dX9_in_10 : decode cX9_in 10 = .ok (.ifCond .gt 7, 3) := by decide +kernel
theorem dX9_in_13 : decode cX9_in 13 = .ok (.iconst 1, 1) := by decide +kernel
theorem dX9_in_14 : decode cX9_in 14 = .ok (.goto 4, 3) := by decide +kernel
theorem dX9_in_17 : decode cX9_in 17 = .ok (.iconst 0, 1) := by decide +kernel
theorem dX9_in_18 : decode cX9_in 18 = .ok (.ireturn, 1) := by decide +kernel
theorem dX9_ones_0 : decode cX9_ones 0 = .ok (.iconst 0, 1) := by decide +kernel
theorem dX9_ones_1 : decode cX9_ones 1 = .ok (.istore_n 1, 1) := by decide +kernel
theorem dX9_ones_2 : decode cX9_ones 2 = .ok (.iconst 0, 1) := by decide +kernel
theorem dX9_ones_3 : decode cX9_ones 3 = .ok (.istore_n 2, 1) := by decide +kernel
theorem dX9_ones_4 : decode cX9_ones 4 = .ok (.iload_n 2, 1) := by decide +kernel
theorem dX9_ones_5 : decode cX9_ones 5 = .ok (.bipush 12, 2) := by decide +kernel
theorem dX9_ones_7 : decode cX9_ones 7 = .ok (.if_icmp .ge 17, 3) := by decide +kernel
theorem dX9_ones_10 : decode cX9_ones 10 = .ok (.iload_n 1, 1) := by decide +kernel
theorem dX9_ones_11 : decode cX9_ones 11 = .ok (.iload_n 0, 1) := by decide +kernel
theorem dX9_ones_12 : decode cX9_ones 12 = .ok (.iload_n 2, 1) := by decide +kernel
theorem dX9_ones_13 : decode cX9_ones 13 = .ok (.ishr, 1) := by decide +kernel
theorem dX9_ones_14 : decode cX9_ones 14 = .ok (.iconst 1, 1) := by decide +kernel
theorem dX9_ones_15 : decode cX9_ones 15 = .ok (.iand, 1) := by decide +kernel
theorem dX9_ones_16 : decode cX9_ones 16 = .ok (.iadd, 1) := by decide +kernel
theorem dX9_ones_17 : decode cX9_ones 17 = .ok (.istore_n 1, 1) := by decide +kernel
theorem dX9_ones_18 : decode cX9_ones 18 = .ok (.iinc 2 1, 3) := by decide +kernel
theorem dX9_ones_21 : decode cX9_ones 21 = .ok (.goto (-17), 3) := by decide +kernel
theorem dX9_ones_24 : decode cX9_ones 24 = .ok (.iload_n 1, 1) := by decide +kernel
theorem dX9_ones_25 : decode cX9_ones 25 = .ok (.ireturn, 1) := by decide +kernel
theorem dX9_isOther_0 : decode cX9_isOther 0 = .ok (.aload_n 0, 1) := by decide +kernel
theorem dX9_isOther_1 : decode cX9_isOther 1 = .ok (.getfield 28, 3) := by decide +kernel
theorem dX9_isOther_4 : decode cX9_isOther 4 = .ok (.iload_n 1, 1) := by decide +kernel
theorem dX9_isOther_5 : decode cX9_isOther 5 = .ok (.iconst 0, 1) := by decide +kernel
theorem dX9_isOther_6 : decode cX9_isOther 6 = .ok (.bastore, 1) := by decide +kernel
theorem dX9_isOther_7 : decode cX9_isOther 7 = .ok (.aload_n 0, 1) := by decide +kernel
theorem dX9_isOther_8 : decode cX9_isOther 8 = .ok (.dup, 1) := by decide +kernel
theorem dX9_isOther_9 : decode cX9_isOther 9 = .ok (.getfield 93, 3) := by decide +kernel
theorem dX9_isOther_12 : decode cX9_isOther 12 = .ok (.iconst 1, 1) := by decide +kernel
theorem dX9_isOther_13 : decode cX9_isOther 13 = .ok (.iadd, 1) := by decide +kernel
theorem dX9_isOther_14 : decode cX9_isOther 14 = .ok (.putfield 93, 3) := by decide +kernel
theorem dX9_isOther_17 : decode cX9_isOther 17 = .ok (.aload_n 0, 1) := by decide +kernel
theorem dX9_isOther_18 : decode cX9_isOther 18 = .ok (.dup, 1) := by decide +kernel
theorem dX9_isOther_19 : decode cX9_isOther 19 = .ok (.getfield 96, 3) := by decide +kernel
theorem dX9_isOther_22 : decode cX9_isOther 22 = .ok (.iconst 1, 1) := by decide +kernel
theorem dX9_isOther_23 : decode cX9_isOther 23 = .ok (.iadd, 1) := by decide +kernel
theorem dX9_isOther_24 : decode cX9_isOther 24 = .ok (.putfield 96, 3) := by decide +kernel
theorem dX9_isOther_27 : decode cX9_isOther 27 = .ok (.return_, 1) := by decide +kernel
theorem dX9_isProgram_0 : decode cX9_isProgram 0 = .ok (.iload_n 0, 1) := by decide +kernel
theorem dX9_isProgram_1 : decode cX9_isProgram 1 = .ok (.i2l, 1) := by decide +kernel
theorem dX9_isProgram_2 : decode cX9_isProgram 2 = .ok (.lconst 0, 1) := by decide +kernel
theorem dX9_isProgram_3 : decode cX9_isProgram 3 = .ok (.ldc2_w 99, 3) := by decide +kernel
theorem dX9_isProgram_6 : decode cX9_isProgram 6 = .ok (.invokestatic 101, 3) := by decide +kernel
theorem dX9_isProgram_9 : decode cX9_isProgram 9 = .ok (.ireturn, 1) := by decide +kernel
theorem dX9_isVariable_0 : decode cX9_isVariable 0 = .ok (.iload_n 0, 1) := by decide +kernel
theorem dX9_isVariable_1 : decode cX9_isVariable 1 = .ok (.i2l, 1) := by decide +kernel
theorem dX9_isVariable_2 : decode cX9_isVariable 2 = .ok (.lconst 0, 1) := by decide +kernel
theorem dX9_isVariable_3 : decode cX9_isVariable 3 = .ok (.ldc2_w 99, 3) := by decide +kernel
theorem dX9_isVariable_6 : decode cX9_isVariable 6 = .ok (.invokestatic 101, 3) := by decide +kernel
theorem dX9_isVariable_9 : decode cX9_isVariable 9 = .ok (.ireturn, 1) := by decide +kernel
theorem dX9_isLine_0 : decode cX9_isLine 0 = .ok (.iload_n 0, 1) := by decide +kernel
theorem dX9_isLine_1 : decode cX9_isLine 1 = .ok (.tableswitch 144 0 6 #[43, 43, 67, 67, 67, 94, 123], 43) := by decide +kernel
theorem dX9_isLine_44 : decode cX9_isLine 44 = .ok (.iload_n 1, 1) := by decide +kernel
theorem dX9_isLine_45 : decode cX9_isLine 45 = .ok (.invokestatic 105, 3) := by decide +kernel
theorem dX9_isLine_48 : decode cX9_isLine 48 = .ok (.ifCond .eq 18, 3) := by decide +kernel
theorem dX9_isLine_51 : decode cX9_isLine 51 = .ok (.iload_n 2, 1) := by decide +kernel
theorem dX9_isLine_52 : decode cX9_isLine 52 = .ok (.invokestatic 105, 3) := by decide +kernel
theorem dX9_isLine_55 : decode cX9_isLine 55 = .ok (.ifCond .eq 11, 3) := by decide +kernel
theorem dX9_isLine_58 : decode cX9_isLine 58 = .ok (.iload_n 3, 1) := by decide +kernel
theorem dX9_isLine_59 : decode cX9_isLine 59 = .ok (.ifCond .ne 7, 3) := by decide +kernel
theorem dX9_isLine_62 : decode cX9_isLine 62 = .ok (.iconst 1, 1) := by decide +kernel
theorem dX9_isLine_63 : decode cX9_isLine 63 = .ok (.goto 4, 3) := by decide +kernel
theorem dX9_isLine_66 : decode cX9_isLine 66 = .ok (.iconst 0, 1) := by decide +kernel
theorem dX9_isLine_67 : decode cX9_isLine 67 = .ok (.ireturn, 1) := by decide +kernel
theorem dX9_isLine_68 : decode cX9_isLine 68 = .ok (.iload_n 1, 1) := by decide +kernel
theorem dX9_isLine_69 : decode cX9_isLine 69 = .ok (.invokestatic 105, 3) := by decide +kernel
theorem dX9_isLine_72 : decode cX9_isLine 72 = .ok (.ifCond .eq 21, 3) := by decide +kernel
theorem dX9_isLine_75 : decode cX9_isLine 75 = .ok (.iload_n 2, 1) := by decide +kernel
theorem dX9_isLine_76 : decode cX9_isLine 76 = .ok (.invokestatic 105, 3) := by decide +kernel
theorem dX9_isLine_79 : decode cX9_isLine 79 = .ok (.ifCond .eq 14, 3) := by decide +kernel
theorem dX9_isLine_82 : decode cX9_isLine 82 = .ok (.iload_n 3, 1) := by decide +kernel
theorem dX9_isLine_83 : decode cX9_isLine 83 = .ok (.invokestatic 105, 3) := by decide +kernel
theorem dX9_isLine_86 : decode cX9_isLine 86 = .ok (.ifCond .eq 7, 3) := by decide +kernel
theorem dX9_isLine_89 : decode cX9_isLine 89 = .ok (.iconst 1, 1) := by decide +kernel
theorem dX9_isLine_90 : decode cX9_isLine 90 = .ok (.goto 4, 3) := by decide +kernel
theorem dX9_isLine_93 : decode cX9_isLine 93 = .ok (.iconst 0, 1) := by decide +kernel
theorem dX9_isLine_94 : decode cX9_isLine 94 = .ok (.ireturn, 1) := by decide +kernel
theorem dX9_isLine_95 : decode cX9_isLine 95 = .ok (.iload_n 1, 1) := by decide +kernel
theorem dX9_isLine_96 : decode cX9_isLine 96 = .ok (.invokestatic 105, 3) := by decide +kernel
theorem dX9_isLine_99 : decode cX9_isLine 99 = .ok (.ifCond .eq 23, 3) := by decide +kernel
theorem dX9_isLine_102 : decode cX9_isLine 102 = .ok (.iload_n 2, 1) := by decide +kernel
theorem dX9_isLine_103 : decode cX9_isLine 103 = .ok (.i2l, 1) := by decide +kernel
theorem dX9_isLine_104 : decode cX9_isLine 104 = .ok (.lconst 0, 1) := by decide +kernel
theorem dX9_isLine_105 : decode cX9_isLine 105 = .ok (.ldc2_w 109, 3) := by decide +kernel
theorem dX9_isLine_108 : decode cX9_isLine 108 = .ok (.invokestatic 101, 3) := by decide +kernel
theorem dX9_isLine_111 : decode cX9_isLine 111 = .ok (.ifCond .eq 11, 3) := by decide +kernel
theorem dX9_isLine_114 : decode cX9_isLine 114 = .ok (.iload_n 3, 1) := by decide +kernel
theorem dX9_isLine_115 : decode cX9_isLine 115 = .ok (.ifCond .ne 7, 3) := by decide +kernel
theorem dX9_isLine_118 : decode cX9_isLine 118 = .ok (.iconst 1, 1) := by decide +kernel
theorem dX9_isLine_119 : decode cX9_isLine 119 = .ok (.goto 4, 3) := by decide +kernel
theorem dX9_isLine_122 : decode cX9_isLine 122 = .ok (.iconst 0, 1) := by decide +kernel
theorem dX9_isLine_123 : decode cX9_isLine 123 = .ok (.ireturn, 1) := by decide +kernel
theorem dX9_isLine_124 : decode cX9_isLine 124 = .ok (.iload_n 1, 1) := by decide +kernel
theorem dX9_isLine_125 : decode cX9_isLine 125 = .ok (.invokestatic 105, 3) := by decide +kernel
theorem dX9_isLine_128 : decode cX9_isLine 128 = .ok (.ifCond .eq 15, 3) := by decide +kernel
theorem dX9_isLine_131 : decode cX9_isLine 131 = .ok (.iload_n 2, 1) := by decide +kernel
theorem dX9_isLine_132 : decode cX9_isLine 132 = .ok (.ifCond .ne 11, 3) := by decide +kernel
theorem dX9_isLine_135 : decode cX9_isLine 135 = .ok (.iload_n 3, 1) := by decide +kernel
theorem dX9_isLine_136 : decode cX9_isLine 136 = .ok (.ifCond .ne 7, 3) := by decide +kernel
theorem dX9_isLine_139 : decode cX9_isLine 139 = .ok (.iconst 1, 1) := by decide +kernel
theorem dX9_isLine_140 : decode cX9_isLine 140 = .ok (.goto 4, 3) := by decide +kernel
theorem dX9_isLine_143 : decode cX9_isLine 143 = .ok (.iconst 0, 1) := by decide +kernel
theorem dX9_isLine_144 : decode cX9_isLine 144 = .ok (.ireturn, 1) := by decide +kernel
theorem dX9_isLine_145 : decode cX9_isLine 145 = .ok (.iload_n 0, 1) := by decide +kernel
theorem dX9_isLine_146 : decode cX9_isLine 146 = .ok (.bipush 7, 2) := by decide +kernel
theorem dX9_isLine_148 : decode cX9_isLine 148 = .ok (.if_icmp .ne 19, 3) := by decide +kernel
theorem dX9_isLine_151 : decode cX9_isLine 151 = .ok (.iload_n 1, 1) := by decide +kernel
theorem dX9_isLine_152 : decode cX9_isLine 152 = .ok (.ifCond .ne 15, 3) := by decide +kernel
theorem dX9_isLine_155 : decode cX9_isLine 155 = .ok (.iload_n 2, 1) := by decide +kernel
theorem dX9_isLine_156 : decode cX9_isLine 156 = .ok (.ifCond .ne 11, 3) := by decide +kernel
theorem dX9_isLine_159 : decode cX9_isLine 159 = .ok (.iload_n 3, 1) := by decide +kernel
theorem dX9_isLine_160 : decode cX9_isLine 160 = .ok (.ifCond .ne 7, 3) := by decide +kernel
theorem dX9_isLine_163 : decode cX9_isLine 163 = .ok (.iconst 1, 1) := by decide +kernel
theorem dX9_isLine_164 : decode cX9_isLine 164 = .ok (.goto 4, 3) := by decide +kernel
theorem dX9_isLine_167 : decode cX9_isLine 167 = .ok (.iconst 0, 1) := by decide +kernel
theorem dX9_isLine_168 : decode cX9_isLine 168 = .ok (.ireturn, 1) := by decide +kernel
theorem dX9_lay_0 : decode cX9_lay 0 = .ok (.aload_n 0, 1) := by decide +kernel
theorem dX9_lay_1 : decode cX9_lay 1 = .ok (.getfield 7, 3) := by decide +kernel
theorem dX9_lay_4 : decode cX9_lay 4 = .ok (.iload_n 1, 1) := by decide +kernel
theorem dX9_lay_5 : decode cX9_lay 5 = .ok (.iload_n 2, 1) := by decide +kernel
theorem dX9_lay_6 : decode cX9_lay 6 = .ok (.iastore, 1) := by decide +kernel
theorem dX9_lay_7 : decode cX9_lay 7 = .ok (.aload_n 0, 1) := by decide +kernel
theorem dX9_lay_8 : decode cX9_lay 8 = .ok (.getfield 13, 3) := by decide +kernel
theorem dX9_lay_11 : decode cX9_lay 11 = .ok (.iload_n 1, 1) := by decide +kernel
theorem dX9_lay_12 : decode cX9_lay 12 = .ok (.iload_n 3, 1) := by decide +kernel
theorem dX9_lay_13 : decode cX9_lay 13 = .ok (.iastore, 1) := by decide +kernel
theorem dX9_lay_14 : decode cX9_lay 14 = .ok (.aload_n 0, 1) := by decide +kernel
theorem dX9_lay_15 : decode cX9_lay 15 = .ok (.getfield 16, 3) := by decide +kernel
theorem dX9_lay_18 : decode cX9_lay 18 = .ok (.iload_n 1, 1) := by decide +kernel
theorem dX9_lay_19 : decode cX9_lay 19 = .ok (.iload 4, 2) := by decide +kernel
theorem dX9_lay_21 : decode cX9_lay 21 = .ok (.iastore, 1) := by decide +kernel
theorem dX9_lay_22 : decode cX9_lay 22 = .ok (.aload_n 0, 1) := by decide +kernel
theorem dX9_lay_23 : decode cX9_lay 23 = .ok (.getfield 19, 3) := by decide +kernel
theorem dX9_lay_26 : decode cX9_lay 26 = .ok (.iload_n 1, 1) := by decide +kernel
theorem dX9_lay_27 : decode cX9_lay 27 = .ok (.iload 5, 2) := by decide +kernel
theorem dX9_lay_29 : decode cX9_lay 29 = .ok (.iastore, 1) := by decide +kernel
theorem dX9_lay_30 : decode cX9_lay 30 = .ok (.return_, 1) := by decide +kernel
theorem dX9_line_0 : decode cX9_line 0 = .ok (.iload_n 1, 1) := by decide +kernel
theorem dX9_line_1 : decode cX9_line 1 = .ok (.invokestatic 111, 3) := by decide +kernel
theorem dX9_line_4 : decode cX9_line 4 = .ok (.ifCond .ne 5, 3) := by decide +kernel
theorem dX9_line_7 : decode cX9_line 7 = .ok (.iconst (-1), 1) := by decide +kernel
theorem dX9_line_8 : decode cX9_line 8 = .ok (.ireturn, 1) := by decide +kernel
theorem dX9_line_9 : decode cX9_line 9 = .ok (.iload_n 2, 1) := by decide +kernel
theorem dX9_line_10 : decode cX9_line 10 = .ok (.iload_n 3, 1) := by decide +kernel
theorem dX9_line_11 : decode cX9_line 11 = .ok (.iload 4, 2) := by decide +kernel
theorem dX9_line_13 : decode cX9_line 13 = .ok (.iload 5, 2) := by decide +kernel
theorem dX9_line_15 : decode cX9_line 15 = .ok (.invokestatic 114, 3) := by decide +kernel
theorem dX9_line_18 : decode cX9_line 18 = .ok (.ifCond .ne 6, 3) := by decide +kernel
theorem dX9_line_21 : decode cX9_line 21 = .ok (.bipush (-2), 2) := by decide +kernel
theorem dX9_line_23 : decode cX9_line 23 = .ok (.ireturn, 1) := by decide +kernel
theorem dX9_line_24 : decode cX9_line 24 = .ok (.aload_n 0, 1) := by decide +kernel
theorem dX9_line_25 : decode cX9_line 25 = .ok (.getfield 22, 3) := by decide +kernel
theorem dX9_line_28 : decode cX9_line 28 = .ok (.iload_n 1, 1) := by decide +kernel
theorem dX9_line_29 : decode cX9_line 29 = .ok (.iaload, 1) := by decide +kernel
theorem dX9_line_30 : decode cX9_line 30 = .ok (.bipush 12, 2) := by decide +kernel
theorem dX9_line_32 : decode cX9_line 32 = .ok (.if_icmp .ne 6, 3) := by decide +kernel
theorem dX9_line_35 : decode cX9_line 35 = .ok (.bipush (-4), 2) := by decide +kernel
theorem dX9_line_37 : decode cX9_line 37 = .ok (.ireturn, 1) := by decide +kernel
theorem dX9_line_38 : decode cX9_line 38 = .ok (.aload_n 0, 1) := by decide +kernel
theorem dX9_line_39 : decode cX9_line 39 = .ok (.bipush 12, 2) := by decide +kernel
theorem dX9_line_41 : decode cX9_line 41 = .ok (.iload_n 1, 1) := by decide +kernel
theorem dX9_line_42 : decode cX9_line 42 = .ok (.imul, 1) := by decide +kernel
theorem dX9_line_43 : decode cX9_line 43 = .ok (.aload_n 0, 1) := by decide +kernel
theorem dX9_line_44 : decode cX9_line 44 = .ok (.getfield 22, 3) := by decide +kernel
theorem dX9_line_47 : decode cX9_line 47 = .ok (.iload_n 1, 1) := by decide +kernel
theorem dX9_line_48 : decode cX9_line 48 = .ok (.iaload, 1) := by decide +kernel
theorem dX9_line_49 : decode cX9_line 49 = .ok (.iadd, 1) := by decide +kernel
theorem dX9_line_50 : decode cX9_line 50 = .ok (.iload_n 2, 1) := by decide +kernel
theorem dX9_line_51 : decode cX9_line 51 = .ok (.iload_n 3, 1) := by decide +kernel
theorem dX9_line_52 : decode cX9_line 52 = .ok (.iload 4, 2) := by decide +kernel
theorem dX9_line_54 : decode cX9_line 54 = .ok (.iload 5, 2) := by decide +kernel
theorem dX9_line_56 : decode cX9_line 56 = .ok (.invokevirtual 118, 3) := by decide +kernel
theorem dX9_line_59 : decode cX9_line 59 = .ok (.aload_n 0, 1) := by decide +kernel
theorem dX9_line_60 : decode cX9_line 60 = .ok (.iload_n 1, 1) := by decide +kernel
theorem dX9_line_61 : decode cX9_line 61 = .ok (.invokevirtual 122, 3) := by decide +kernel
theorem dX9_line_64 : decode cX9_line 64 = .ok (.aload_n 0, 1) := by decide +kernel
theorem dX9_line_65 : decode cX9_line 65 = .ok (.getfield 22, 3) := by decide +kernel
theorem dX9_line_68 : decode cX9_line 68 = .ok (.iload_n 1, 1) := by decide +kernel
theorem dX9_line_69 : decode cX9_line 69 = .ok (.dup2, 1) := by decide +kernel
theorem dX9_line_70 : decode cX9_line 70 = .ok (.iaload, 1) := by decide +kernel
theorem dX9_line_71 : decode cX9_line 71 = .ok (.iconst 1, 1) := by decide +kernel
theorem dX9_line_72 : decode cX9_line 72 = .ok (.iadd, 1) := by decide +kernel
theorem dX9_line_73 : decode cX9_line 73 = .ok (.iastore, 1) := by decide +kernel
theorem dX9_line_74 : decode cX9_line 74 = .ok (.aload_n 0, 1) := by decide +kernel
theorem dX9_line_75 : decode cX9_line 75 = .ok (.getfield 22, 3) := by decide +kernel
theorem dX9_line_78 : decode cX9_line 78 = .ok (.iload_n 1, 1) := by decide +kernel
theorem dX9_line_79 : decode cX9_line 79 = .ok (.iaload, 1) := by decide +kernel
theorem dX9_line_80 : decode cX9_line 80 = .ok (.iconst 1, 1) := by decide +kernel
theorem dX9_line_81 : decode cX9_line 81 = .ok (.isub, 1) := by decide +kernel
theorem dX9_line_82 : decode cX9_line 82 = .ok (.ireturn, 1) := by decide +kernel
theorem dX9_change_0 : decode cX9_change 0 = .ok (.iload_n 1, 1) := by decide +kernel
theorem dX9_change_1 : decode cX9_change 1 = .ok (.invokestatic 111, 3) := by decide +kernel
theorem dX9_change_4 : decode cX9_change 4 = .ok (.ifCond .eq 21, 3) := by decide +kernel
theorem dX9_change_7 : decode cX9_change 7 = .ok (.iload_n 2, 1) := by decide +kernel
theorem dX9_change_8 : decode cX9_change 8 = .ok (.i2l, 1) := by decide +kernel
theorem dX9_change_9 : decode cX9_change 9 = .ok (.lconst 0, 1) := by decide +kernel
theorem dX9_change_10 : decode cX9_change 10 = .ok (.aload_n 0, 1) := by decide +kernel
theorem dX9_change_11 : decode cX9_change 11 = .ok (.getfield 22, 3) := by decide +kernel
theorem dX9_change_14 : decode cX9_change 14 = .ok (.iload_n 1, 1) := by decide +kernel
theorem dX9_change_15 : decode cX9_change 15 = .ok (.iaload, 1) := by decide +kernel
theorem dX9_change_16 : decode cX9_change 16 = .ok (.iconst 1, 1) := by decide +kernel
theorem dX9_change_17 : decode cX9_change 17 = .ok (.isub, 1) := by decide +kernel
theorem dX9_change_18 : decode cX9_change 18 = .ok (.i2l, 1) := by decide +kernel
theorem dX9_change_19 : decode cX9_change 19 = .ok (.invokestatic 101, 3) := by decide +kernel
theorem dX9_change_22 : decode cX9_change 22 = .ok (.ifCond .ne 5, 3) := by decide +kernel
theorem dX9_change_25 : decode cX9_change 25 = .ok (.iconst (-1), 1) := by decide +kernel
theorem dX9_change_26 : decode cX9_change 26 = .ok (.ireturn, 1) := by decide +kernel
theorem dX9_change_27 : decode cX9_change 27 = .ok (.iload_n 3, 1) := by decide +kernel
theorem dX9_change_28 : decode cX9_change 28 = .ok (.iload 4, 2) := by decide +kernel
theorem dX9_change_30 : decode cX9_change 30 = .ok (.iload 5, 2) := by decide +kernel
theorem dX9_change_32 : decode cX9_change 32 = .ok (.iload 6, 2) := by decide +kernel
theorem dX9_change_34 : decode cX9_change 34 = .ok (.invokestatic 114, 3) := by decide +kernel
theorem dX9_change_37 : decode cX9_change 37 = .ok (.ifCond .ne 6, 3) := by decide +kernel
theorem dX9_change_40 : decode cX9_change 40 = .ok (.bipush (-2), 2) := by decide +kernel
theorem dX9_change_42 : decode cX9_change 42 = .ok (.ireturn, 1) := by decide +kernel
theorem dX9_change_43 : decode cX9_change 43 = .ok (.aload_n 0, 1) := by decide +kernel
theorem dX9_change_44 : decode cX9_change 44 = .ok (.getfield 7, 3) := by decide +kernel
theorem dX9_change_47 : decode cX9_change 47 = .ok (.bipush 12, 2) := by decide +kernel
theorem dX9_change_49 : decode cX9_change 49 = .ok (.iload_n 1, 1) := by decide +kernel
theorem dX9_change_50 : decode cX9_change 50 = .ok (.imul, 1) := by decide +kernel
theorem dX9_change_51 : decode cX9_change 51 = .ok (.iload_n 2, 1) := by decide +kernel
theorem dX9_change_52 : decode cX9_change 52 = .ok (.iadd, 1) := by decide +kernel
theorem dX9_change_53 : decode cX9_change 53 = .ok (.iaload, 1) := by decide +kernel
theorem dX9_change_54 : decode cX9_change 54 = .ok (.istore 7, 2) := by decide +kernel
theorem dX9_change_56 : decode cX9_change 56 = .ok (.aload_n 0, 1) := by decide +kernel
theorem dX9_change_57 : decode cX9_change 57 = .ok (.bipush 12, 2) := by decide +kernel
theorem dX9_change_59 : decode cX9_change 59 = .ok (.iload_n 1, 1) := by decide +kernel
theorem dX9_change_60 : decode cX9_change 60 = .ok (.imul, 1) := by decide +kernel
theorem dX9_change_61 : decode cX9_change 61 = .ok (.iload_n 2, 1) := by decide +kernel
theorem dX9_change_62 : decode cX9_change 62 = .ok (.iadd, 1) := by decide +kernel
theorem dX9_change_63 : decode cX9_change 63 = .ok (.iload_n 3, 1) := by decide +kernel
theorem dX9_change_64 : decode cX9_change 64 = .ok (.iload 4, 2) := by decide +kernel
theorem dX9_change_66 : decode cX9_change 66 = .ok (.iload 5, 2) := by decide +kernel
theorem dX9_change_68 : decode cX9_change 68 = .ok (.iload 6, 2) := by decide +kernel
theorem dX9_change_70 : decode cX9_change 70 = .ok (.invokevirtual 118, 3) := by decide +kernel
theorem dX9_change_73 : decode cX9_change 73 = .ok (.aload_n 0, 1) := by decide +kernel
theorem dX9_change_74 : decode cX9_change 74 = .ok (.iload_n 1, 1) := by decide +kernel
theorem dX9_change_75 : decode cX9_change 75 = .ok (.invokevirtual 122, 3) := by decide +kernel
theorem dX9_change_78 : decode cX9_change 78 = .ok (.iload 7, 2) := by decide +kernel
theorem dX9_change_80 : decode cX9_change 80 = .ok (.ireturn, 1) := by decide +kernel
theorem dX9_clear_0 : decode cX9_clear 0 = .ok (.iload_n 1, 1) := by decide +kernel
theorem dX9_clear_1 : decode cX9_clear 1 = .ok (.invokestatic 111, 3) := by decide +kernel
theorem dX9_clear_4 : decode cX9_clear 4 = .ok (.ifCond .ne 5, 3) := by decide +kernel
theorem dX9_clear_7 : decode cX9_clear 7 = .ok (.iconst (-1), 1) := by decide +kernel
theorem dX9_clear_8 : decode cX9_clear 8 = .ok (.ireturn, 1) := by decide +kernel
theorem dX9_clear_9 : decode cX9_clear 9 = .ok (.aload_n 0, 1) := by decide +kernel
theorem dX9_clear_10 : decode cX9_clear 10 = .ok (.getfield 22, 3) := by decide +kernel
theorem dX9_clear_13 : decode cX9_clear 13 = .ok (.iload_n 1, 1) := by decide +kernel
theorem dX9_clear_14 : decode cX9_clear 14 = .ok (.iaload, 1) := by decide +kernel
theorem dX9_clear_15 : decode cX9_clear 15 = .ok (.istore_n 2, 1) := by decide +kernel
theorem dX9_clear_16 : decode cX9_clear 16 = .ok (.aload_n 0, 1) := by decide +kernel
theorem dX9_clear_17 : decode cX9_clear 17 = .ok (.getfield 22, 3) := by decide +kernel
theorem dX9_clear_20 : decode cX9_clear 20 = .ok (.iload_n 1, 1) := by decide +kernel
theorem dX9_clear_21 : decode cX9_clear 21 = .ok (.iconst 0, 1) := by decide +kernel
theorem dX9_clear_22 : decode cX9_clear 22 = .ok (.iastore, 1) := by decide +kernel
theorem dX9_clear_23 : decode cX9_clear 23 = .ok (.aload_n 0, 1) := by decide +kernel
theorem dX9_clear_24 : decode cX9_clear 24 = .ok (.getfield 25, 3) := by decide +kernel
theorem dX9_clear_27 : decode cX9_clear 27 = .ok (.iload_n 1, 1) := by decide +kernel
theorem dX9_clear_28 : decode cX9_clear 28 = .ok (.iconst 0, 1) := by decide +kernel
theorem dX9_clear_29 : decode cX9_clear 29 = .ok (.iastore, 1) := by decide +kernel
theorem dX9_clear_30 : decode cX9_clear 30 = .ok (.aload_n 0, 1) := by decide +kernel
theorem dX9_clear_31 : decode cX9_clear 31 = .ok (.iload_n 1, 1) := by decide +kernel
theorem dX9_clear_32 : decode cX9_clear 32 = .ok (.invokevirtual 122, 3) := by decide +kernel
theorem dX9_clear_35 : decode cX9_clear 35 = .ok (.iload_n 2, 1) := by decide +kernel
theorem dX9_clear_36 : decode cX9_clear 36 = .ok (.ireturn, 1) := by decide +kernel
theorem dX9_silent_0 : decode cX9_silent 0 = .ok (.iload_n 1, 1) := by decide +kernel
theorem dX9_silent_1 : decode cX9_silent 1 = .ok (.invokestatic 111, 3) := by decide +kernel
theorem dX9_silent_4 : decode cX9_silent 4 = .ok (.ifCond .ne 5, 3) := by decide +kernel
theorem dX9_silent_7 : decode cX9_silent 7 = .ok (.iconst (-1), 1) := by decide +kernel
theorem dX9_silent_8 : decode cX9_silent 8 = .ok (.ireturn, 1) := by decide +kernel
theorem dX9_silent_9 : decode cX9_silent 9 = .ok (.iload_n 2, 1) := by decide +kernel
theorem dX9_silent_10 : decode cX9_silent 10 = .ok (.i2l, 1) := by decide +kernel
theorem dX9_silent_11 : decode cX9_silent 11 = .ok (.lconst 0, 1) := by decide +kernel
theorem dX9_silent_12 : decode cX9_silent 12 = .ok (.ldc2_w 126, 3) := by decide +kernel
theorem dX9_silent_15 : decode cX9_silent 15 = .ok (.invokestatic 101, 3) := by decide +kernel
theorem dX9_silent_18 : decode cX9_silent 18 = .ok (.ifCond .ne 6, 3) := by decide +kernel
theorem dX9_silent_21 : decode cX9_silent 21 = .ok (.bipush (-2), 2) := by decide +kernel
theorem dX9_silent_23 : decode cX9_silent 23 = .ok (.ireturn, 1) := by decide +kernel
theorem dX9_silent_24 : decode cX9_silent 24 = .ok (.aload_n 0, 1) := by decide +kernel
theorem dX9_silent_25 : decode cX9_silent 25 = .ok (.getfield 25, 3) := by decide +kernel
theorem dX9_silent_28 : decode cX9_silent 28 = .ok (.iload_n 1, 1) := by decide +kernel
theorem dX9_silent_29 : decode cX9_silent 29 = .ok (.iaload, 1) := by decide +kernel
theorem dX9_silent_30 : decode cX9_silent 30 = .ok (.istore_n 3, 1) := by decide +kernel
theorem dX9_silent_31 : decode cX9_silent 31 = .ok (.aload_n 0, 1) := by decide +kernel
theorem dX9_silent_32 : decode cX9_silent 32 = .ok (.getfield 25, 3) := by decide +kernel
theorem dX9_silent_35 : decode cX9_silent 35 = .ok (.iload_n 1, 1) := by decide +kernel
theorem dX9_silent_36 : decode cX9_silent 36 = .ok (.iload_n 2, 1) := by decide +kernel
theorem dX9_silent_37 : decode cX9_silent 37 = .ok (.iastore, 1) := by decide +kernel
theorem dX9_silent_38 : decode cX9_silent 38 = .ok (.aload_n 0, 1) := by decide +kernel
theorem dX9_silent_39 : decode cX9_silent 39 = .ok (.dup, 1) := by decide +kernel
theorem dX9_silent_40 : decode cX9_silent 40 = .ok (.getfield 93, 3) := by decide +kernel
theorem dX9_silent_43 : decode cX9_silent 43 = .ok (.iconst 1, 1) := by decide +kernel
theorem dX9_silent_44 : decode cX9_silent 44 = .ok (.iadd, 1) := by decide +kernel
theorem dX9_silent_45 : decode cX9_silent 45 = .ok (.putfield 93, 3) := by decide +kernel
theorem dX9_silent_48 : decode cX9_silent 48 = .ok (.iload_n 3, 1) := by decide +kernel
theorem dX9_silent_49 : decode cX9_silent 49 = .ok (.ireturn, 1) := by decide +kernel
theorem dX9_valueOf_0 : decode cX9_valueOf 0 = .ok (.iload_n 0, 1) := by decide +kernel
theorem dX9_valueOf_1 : decode cX9_valueOf 1 = .ok (.iconst 2, 1) := by decide +kernel
theorem dX9_valueOf_2 : decode cX9_valueOf 2 = .ok (.iconst 3, 1) := by decide +kernel
theorem dX9_valueOf_3 : decode cX9_valueOf 3 = .ok (.iload_n 1, 1) := by decide +kernel
theorem dX9_valueOf_4 : decode cX9_valueOf 4 = .ok (.isub, 1) := by decide +kernel
theorem dX9_valueOf_5 : decode cX9_valueOf 5 = .ok (.imul, 1) := by decide +kernel
theorem dX9_valueOf_6 : decode cX9_valueOf 6 = .ok (.ishr, 1) := by decide +kernel
theorem dX9_valueOf_7 : decode cX9_valueOf 7 = .ok (.iconst 3, 1) := by decide +kernel
theorem dX9_valueOf_8 : decode cX9_valueOf 8 = .ok (.iand, 1) := by decide +kernel
theorem dX9_valueOf_9 : decode cX9_valueOf 9 = .ok (.ireturn, 1) := by decide +kernel
theorem dX9_with_0 : decode cX9_with 0 = .ok (.iconst 2, 1) := by decide +kernel
theorem dX9_with_1 : decode cX9_with 1 = .ok (.iconst 3, 1) := by decide +kernel
theorem dX9_with_2 : decode cX9_with 2 = .ok (.iload_n 1, 1) := by decide +kernel
theorem dX9_with_3 : decode cX9_with 3 = .ok (.isub, 1) := by decide +kernel
theorem dX9_with_4 : decode cX9_with 4 = .ok (.imul, 1) := by decide +kernel
theorem dX9_with_5 : decode cX9_with 5 = .ok (.istore_n 3, 1) := by decide +kernel
theorem dX9_with_6 : decode cX9_with 6 = .ok (.iload_n 0, 1) := by decide +kernel
theorem dX9_with_7 : decode cX9_with 7 = .ok (.iconst 3, 1) := by decide +kernel
theorem dX9_with_8 : decode cX9_with 8 = .ok (.iload_n 3, 1) := by decide +kernel
theorem dX9_with_9 : decode cX9_with 9 = .ok (.ishl, 1) := by decide +kernel
theorem dX9_with_10 : decode cX9_with 10 = .ok (.iconst (-1), 1) := by decide +kernel
theorem dX9_with_11 : decode cX9_with 11 = .ok (.ixor, 1) := by decide +kernel
theorem dX9_with_12 : decode cX9_with 12 = .ok (.iand, 1) := by decide +kernel
theorem dX9_with_13 : decode cX9_with 13 = .ok (.iload_n 2, 1) := by decide +kernel
theorem dX9_with_14 : decode cX9_with 14 = .ok (.iload_n 3, 1) := by decide +kernel
theorem dX9_with_15 : decode cX9_with 15 = .ok (.ishl, 1) := by decide +kernel
theorem dX9_with_16 : decode cX9_with 16 = .ok (.ior, 1) := by decide +kernel
theorem dX9_with_17 : decode cX9_with 17 = .ok (.ireturn, 1) := by decide +kernel
theorem dX9_held_0 : decode cX9_held 0 = .ok (.iload_n 2, 1) := by decide +kernel
theorem dX9_held_1 : decode cX9_held 1 = .ok (.aload_n 0, 1) := by decide +kernel
theorem dX9_held_2 : decode cX9_held 2 = .ok (.getfield 22, 3) := by decide +kernel
theorem dX9_held_5 : decode cX9_held 5 = .ok (.iload_n 1, 1) := by decide +kernel
theorem dX9_held_6 : decode cX9_held 6 = .ok (.iaload, 1) := by decide +kernel
theorem dX9_held_7 : decode cX9_held 7 = .ok (.if_icmp .lt 8, 3) := by decide +kernel
theorem dX9_held_10 : decode cX9_held 10 = .ok (.bipush 12, 2) := by decide +kernel
theorem dX9_held_12 : decode cX9_held 12 = .ok (.goto 4, 3) := by decide +kernel
theorem dX9_held_15 : decode cX9_held 15 = .ok (.iload_n 2, 1) := by decide +kernel
theorem dX9_held_16 : decode cX9_held 16 = .ok (.ireturn, 1) := by decide +kernel
theorem dX9_work_0 : decode cX9_work 0 = .ok (.bipush 12, 2) := by decide +kernel
theorem dX9_work_2 : decode cX9_work 2 = .ok (.iload_n 1, 1) := by decide +kernel
theorem dX9_work_3 : decode cX9_work 3 = .ok (.imul, 1) := by decide +kernel
theorem dX9_work_4 : decode cX9_work 4 = .ok (.iload_n 2, 1) := by decide +kernel
theorem dX9_work_5 : decode cX9_work 5 = .ok (.iadd, 1) := by decide +kernel
theorem dX9_work_6 : decode cX9_work 6 = .ok (.istore 4, 2) := by decide +kernel
theorem dX9_work_8 : decode cX9_work 8 = .ok (.iload_n 3, 1) := by decide +kernel
theorem dX9_work_9 : decode cX9_work 9 = .ok (.aload_n 0, 1) := by decide +kernel
theorem dX9_work_10 : decode cX9_work 10 = .ok (.getfield 16, 3) := by decide +kernel
theorem dX9_work_13 : decode cX9_work 13 = .ok (.iload 4, 2) := by decide +kernel
theorem dX9_work_15 : decode cX9_work 15 = .ok (.iaload, 1) := by decide +kernel
theorem dX9_work_16 : decode cX9_work 16 = .ok (.iconst 3, 1) := by decide +kernel
theorem dX9_work_17 : decode cX9_work 17 = .ok (.iand, 1) := by decide +kernel
theorem dX9_work_18 : decode cX9_work 18 = .ok (.invokestatic 128, 3) := by decide +kernel
theorem dX9_work_21 : decode cX9_work 21 = .ok (.istore 5, 2) := by decide +kernel
theorem dX9_work_23 : decode cX9_work 23 = .ok (.iload_n 3, 1) := by decide +kernel
theorem dX9_work_24 : decode cX9_work 24 = .ok (.aload_n 0, 1) := by decide +kernel
theorem dX9_work_25 : decode cX9_work 25 = .ok (.getfield 19, 3) := by decide +kernel
theorem dX9_work_28 : decode cX9_work 28 = .ok (.iload 4, 2) := by decide +kernel
theorem dX9_work_30 : decode cX9_work 30 = .ok (.iaload, 1) := by decide +kernel
theorem dX9_work_31 : decode cX9_work 31 = .ok (.iconst 3, 1) := by decide +kernel
theorem dX9_work_32 : decode cX9_work 32 = .ok (.iand, 1) := by decide +kernel
theorem dX9_work_33 : decode cX9_work 33 = .ok (.invokestatic 128, 3) := by decide +kernel
theorem dX9_work_36 : decode cX9_work 36 = .ok (.istore 6, 2) := by decide +kernel
theorem dX9_work_38 : decode cX9_work 38 = .ok (.aload_n 0, 1) := by decide +kernel
theorem dX9_work_39 : decode cX9_work 39 = .ok (.iload_n 3, 1) := by decide +kernel
theorem dX9_work_40 : decode cX9_work 40 = .ok (.putfield 131, 3) := by decide +kernel
theorem dX9_work_43 : decode cX9_work 43 = .ok (.aload_n 0, 1) := by decide +kernel
theorem dX9_work_44 : decode cX9_work 44 = .ok (.aload_n 0, 1) := by decide +kernel
theorem dX9_work_45 : decode cX9_work 45 = .ok (.iload_n 1, 1) := by decide +kernel
theorem dX9_work_46 : decode cX9_work 46 = .ok (.iload_n 2, 1) := by decide +kernel
theorem dX9_work_47 : decode cX9_work 47 = .ok (.iconst 1, 1) := by decide +kernel
theorem dX9_work_48 : decode cX9_work 48 = .ok (.iadd, 1) := by decide +kernel
theorem dX9_work_49 : decode cX9_work 49 = .ok (.invokevirtual 134, 3) := by decide +kernel
theorem dX9_work_52 : decode cX9_work 52 = .ok (.putfield 137, 3) := by decide +kernel
theorem dX9_work_55 : decode cX9_work 55 = .ok (.aload_n 0, 1) := by decide +kernel
theorem dX9_work_56 : decode cX9_work 56 = .ok (.iconst 0, 1) := by decide +kernel
theorem dX9_work_57 : decode cX9_work 57 = .ok (.putfield 140, 3) := by decide +kernel
theorem dX9_work_60 : decode cX9_work 60 = .ok (.aload_n 0, 1) := by decide +kernel
theorem dX9_work_61 : decode cX9_work 61 = .ok (.getfield 7, 3) := by decide +kernel
theorem dX9_work_64 : decode cX9_work 64 = .ok (.iload 4, 2) := by decide +kernel
theorem dX9_work_66 : decode cX9_work 66 = .ok (.iaload, 1) := by decide +kernel
theorem dX9_work_67 : decode cX9_work 67 = .ok (.tableswitch 253 0 7 #[45, 70, 90, 115, 140, 204, 253, 244], 45) := by decide +kernel
theorem dX9_work_112 : decode cX9_work 112 = .ok (.aload_n 0, 1) := by decide +kernel
theorem dX9_work_113 : decode cX9_work 113 = .ok (.iload_n 3, 1) := by decide +kernel
theorem dX9_work_114 : decode cX9_work 114 = .ok (.aload_n 0, 1) := by decide +kernel
theorem dX9_work_115 : decode cX9_work 115 = .ok (.getfield 13, 3) := by decide +kernel
theorem dX9_work_118 : decode cX9_work 118 = .ok (.iload 4, 2) := by decide +kernel
theorem dX9_work_120 : decode cX9_work 120 = .ok (.iaload, 1) := by decide +kernel
theorem dX9_work_121 : decode cX9_work 121 = .ok (.aload_n 0, 1) := by decide +kernel
theorem dX9_work_122 : decode cX9_work 122 = .ok (.getfield 16, 3) := by decide +kernel
theorem dX9_work_125 : decode cX9_work 125 = .ok (.iload 4, 2) := by decide +kernel
theorem dX9_work_127 : decode cX9_work 127 = .ok (.iaload, 1) := by decide +kernel
theorem dX9_work_128 : decode cX9_work 128 = .ok (.invokestatic 143, 3) := by decide +kernel
theorem dX9_work_131 : decode cX9_work 131 = .ok (.putfield 131, 3) := by decide +kernel
theorem dX9_work_134 : decode cX9_work 134 = .ok (.goto 186, 3) := by decide +kernel
theorem dX9_work_137 : decode cX9_work 137 = .ok (.aload_n 0, 1) := by decide +kernel
theorem dX9_work_138 : decode cX9_work 138 = .ok (.iload_n 3, 1) := by decide +kernel
theorem dX9_work_139 : decode cX9_work 139 = .ok (.aload_n 0, 1) := by decide +kernel
theorem dX9_work_140 : decode cX9_work 140 = .ok (.getfield 13, 3) := by decide +kernel
theorem dX9_work_143 : decode cX9_work 143 = .ok (.iload 4, 2) := by decide +kernel
theorem dX9_work_145 : decode cX9_work 145 = .ok (.iaload, 1) := by decide +kernel
theorem dX9_work_146 : decode cX9_work 146 = .ok (.iload 5, 2) := by decide +kernel
theorem dX9_work_148 : decode cX9_work 148 = .ok (.invokestatic 143, 3) := by decide +kernel
theorem dX9_work_151 : decode cX9_work 151 = .ok (.putfield 131, 3) := by decide +kernel
theorem dX9_work_154 : decode cX9_work 154 = .ok (.goto 166, 3) := by decide +kernel
theorem dX9_work_157 : decode cX9_work 157 = .ok (.aload_n 0, 1) := by decide +kernel
theorem dX9_work_158 : decode cX9_work 158 = .ok (.iload_n 3, 1) := by decide +kernel
theorem dX9_work_159 : decode cX9_work 159 = .ok (.aload_n 0, 1) := by decide +kernel
theorem dX9_work_160 : decode cX9_work 160 = .ok (.getfield 13, 3) := by decide +kernel
theorem dX9_work_163 : decode cX9_work 163 = .ok (.iload 4, 2) := by decide +kernel
theorem dX9_work_165 : decode cX9_work 165 = .ok (.iaload, 1) := by decide +kernel
theorem dX9_work_166 : decode cX9_work 166 = .ok (.iload 5, 2) := by decide +kernel
theorem dX9_work_168 : decode cX9_work 168 = .ok (.iload 6, 2) := by decide +kernel
theorem dX9_work_170 : decode cX9_work 170 = .ok (.iadd, 1) := by decide +kernel
theorem dX9_work_171 : decode cX9_work 171 = .ok (.iconst 3, 1) := by decide +kernel
theorem dX9_work_172 : decode cX9_work 172 = .ok (.iand, 1) := by decide +kernel
theorem dX9_work_173 : decode cX9_work 173 = .ok (.invokestatic 143, 3) := by decide +kernel
theorem dX9_work_176 : decode cX9_work 176 = .ok (.putfield 131, 3) := by decide +kernel
theorem dX9_work_179 : decode cX9_work 179 = .ok (.goto 141, 3) := by decide +kernel
theorem dX9_work_182 : decode cX9_work 182 = .ok (.aload_n 0, 1) := by decide +kernel
theorem dX9_work_183 : decode cX9_work 183 = .ok (.iload_n 3, 1) := by decide +kernel
theorem dX9_work_184 : decode cX9_work 184 = .ok (.aload_n 0, 1) := by decide +kernel
theorem dX9_work_185 : decode cX9_work 185 = .ok (.getfield 13, 3) := by decide +kernel
theorem dX9_work_188 : decode cX9_work 188 = .ok (.iload 4, 2) := by decide +kernel
theorem dX9_work_190 : decode cX9_work 190 = .ok (.iaload, 1) := by decide +kernel
theorem dX9_work_191 : decode cX9_work 191 = .ok (.iload 5, 2) := by decide +kernel
theorem dX9_work_193 : decode cX9_work 193 = .ok (.iload 6, 2) := by decide +kernel
theorem dX9_work_195 : decode cX9_work 195 = .ok (.isub, 1) := by decide +kernel
theorem dX9_work_196 : decode cX9_work 196 = .ok (.iconst 3, 1) := by decide +kernel
theorem dX9_work_197 : decode cX9_work 197 = .ok (.iand, 1) := by decide +kernel
theorem dX9_work_198 : decode cX9_work 198 = .ok (.invokestatic 143, 3) := by decide +kernel
theorem dX9_work_201 : decode cX9_work 201 = .ok (.putfield 131, 3) := by decide +kernel
theorem dX9_work_204 : decode cX9_work 204 = .ok (.goto 116, 3) := by decide +kernel
theorem dX9_work_207 : decode cX9_work 207 = .ok (.aload_n 0, 1) := by decide +kernel
theorem dX9_work_208 : decode cX9_work 208 = .ok (.iload 6, 2) := by decide +kernel
theorem dX9_work_210 : decode cX9_work 210 = .ok (.ifCond .ne 7, 3) := by decide +kernel
theorem dX9_work_213 : decode cX9_work 213 = .ok (.iconst 1, 1) := by decide +kernel
theorem dX9_work_214 : decode cX9_work 214 = .ok (.goto 4, 3) := by decide +kernel
theorem dX9_work_217 : decode cX9_work 217 = .ok (.iconst 0, 1) := by decide +kernel
theorem dX9_work_218 : decode cX9_work 218 = .ok (.putfield 140, 3) := by decide +kernel
theorem dX9_work_221 : decode cX9_work 221 = .ok (.aload_n 0, 1) := by decide +kernel
theorem dX9_work_222 : decode cX9_work 222 = .ok (.iload 6, 2) := by decide +kernel
theorem dX9_work_224 : decode cX9_work 224 = .ok (.ifCond .ne 7, 3) := by decide +kernel
theorem dX9_work_227 : decode cX9_work 227 = .ok (.iload_n 3, 1) := by decide +kernel
theorem dX9_work_228 : decode cX9_work 228 = .ok (.goto 19, 3) := by decide +kernel
theorem dX9_work_231 : decode cX9_work 231 = .ok (.iload_n 3, 1) := by decide +kernel
theorem dX9_work_232 : decode cX9_work 232 = .ok (.aload_n 0, 1) := by decide +kernel
theorem dX9_work_233 : decode cX9_work 233 = .ok (.getfield 13, 3) := by decide +kernel
theorem dX9_work_236 : decode cX9_work 236 = .ok (.iload 4, 2) := by decide +kernel
theorem dX9_work_238 : decode cX9_work 238 = .ok (.iaload, 1) := by decide +kernel
theorem dX9_work_239 : decode cX9_work 239 = .ok (.iload 5, 2) := by decide +kernel
theorem dX9_work_241 : decode cX9_work 241 = .ok (.iload 6, 2) := by decide +kernel
theorem dX9_work_243 : decode cX9_work 243 = .ok (.irem, 1) := by decide +kernel
theorem dX9_work_244 : decode cX9_work 244 = .ok (.invokestatic 143, 3) := by decide +kernel
theorem dX9_work_247 : decode cX9_work 247 = .ok (.putfield 131, 3) := by decide +kernel
theorem dX9_work_250 : decode cX9_work 250 = .ok (.aload_n 0, 1) := by decide +kernel
theorem dX9_work_251 : decode cX9_work 251 = .ok (.iload 6, 2) := by decide +kernel
theorem dX9_work_253 : decode cX9_work 253 = .ok (.ifCond .ne 8, 3) := by decide +kernel
theorem dX9_work_256 : decode cX9_work 256 = .ok (.bipush 12, 2) := by decide +kernel
theorem dX9_work_258 : decode cX9_work 258 = .ok (.goto 7, 3) := by decide +kernel
theorem dX9_work_261 : decode cX9_work 261 = .ok (.aload_n 0, 1) := by decide +kernel
theorem dX9_work_262 : decode cX9_work 262 = .ok (.getfield 137, 3) := by decide +kernel
theorem dX9_work_265 : decode cX9_work 265 = .ok (.putfield 137, 3) := by decide +kernel
theorem dX9_work_268 : decode cX9_work 268 = .ok (.goto 52, 3) := by decide +kernel
theorem dX9_work_271 : decode cX9_work 271 = .ok (.aload_n 0, 1) := by decide +kernel
theorem dX9_work_272 : decode cX9_work 272 = .ok (.iload_n 3, 1) := by decide +kernel
theorem dX9_work_273 : decode cX9_work 273 = .ok (.aload_n 0, 1) := by decide +kernel
theorem dX9_work_274 : decode cX9_work 274 = .ok (.getfield 13, 3) := by decide +kernel
theorem dX9_work_277 : decode cX9_work 277 = .ok (.iload 4, 2) := by decide +kernel
theorem dX9_work_279 : decode cX9_work 279 = .ok (.iaload, 1) := by decide +kernel
theorem dX9_work_280 : decode cX9_work 280 = .ok (.invokestatic 128, 3) := by decide +kernel
theorem dX9_work_283 : decode cX9_work 283 = .ok (.ifCond .le 18, 3) := by decide +kernel
theorem dX9_work_286 : decode cX9_work 286 = .ok (.aload_n 0, 1) := by decide +kernel
theorem dX9_work_287 : decode cX9_work 287 = .ok (.iload_n 1, 1) := by decide +kernel
theorem dX9_work_288 : decode cX9_work 288 = .ok (.aload_n 0, 1) := by decide +kernel
theorem dX9_work_289 : decode cX9_work 289 = .ok (.getfield 16, 3) := by decide +kernel
theorem dX9_work_292 : decode cX9_work 292 = .ok (.iload 4, 2) := by decide +kernel
theorem dX9_work_294 : decode cX9_work 294 = .ok (.iaload, 1) := by decide +kernel
theorem dX9_work_295 : decode cX9_work 295 = .ok (.invokevirtual 134, 3) := by decide +kernel
theorem dX9_work_298 : decode cX9_work 298 = .ok (.goto 7, 3) := by decide +kernel
theorem dX9_work_301 : decode cX9_work 301 = .ok (.aload_n 0, 1) := by decide +kernel
theorem dX9_work_302 : decode cX9_work 302 = .ok (.getfield 137, 3) := by decide +kernel
theorem dX9_work_305 : decode cX9_work 305 = .ok (.putfield 137, 3) := by decide +kernel
theorem dX9_work_308 : decode cX9_work 308 = .ok (.goto 12, 3) := by decide +kernel
theorem dX9_work_311 : decode cX9_work 311 = .ok (.aload_n 0, 1) := by decide +kernel
theorem dX9_work_312 : decode cX9_work 312 = .ok (.bipush 12, 2) := by decide +kernel
theorem dX9_work_314 : decode cX9_work 314 = .ok (.putfield 137, 3) := by decide +kernel
theorem dX9_work_317 : decode cX9_work 317 = .ok (.goto 3, 3) := by decide +kernel
theorem dX9_work_320 : decode cX9_work 320 = .ok (.return_, 1) := by decide +kernel
theorem dX9_layTable_0 : decode cX9_layTable 0 = .ok (.iconst 0, 1) := by decide +kernel
theorem dX9_layTable_1 : decode cX9_layTable 1 = .ok (.istore_n 2, 1) := by decide +kernel
theorem dX9_layTable_2 : decode cX9_layTable 2 = .ok (.iload_n 2, 1) := by decide +kernel
theorem dX9_layTable_3 : decode cX9_layTable 3 = .ok (.aload_n 0, 1) := by decide +kernel
theorem dX9_layTable_4 : decode cX9_layTable 4 = .ok (.getfield 22, 3) := by decide +kernel
theorem dX9_layTable_7 : decode cX9_layTable 7 = .ok (.iload_n 1, 1) := by decide +kernel
theorem dX9_layTable_8 : decode cX9_layTable 8 = .ok (.iaload, 1) := by decide +kernel
theorem dX9_layTable_9 : decode cX9_layTable 9 = .ok (.if_icmp .ge 79, 3) := by decide +kernel
theorem dX9_layTable_12 : decode cX9_layTable 12 = .ok (.aload_n 0, 1) := by decide +kernel
theorem dX9_layTable_13 : decode cX9_layTable 13 = .ok (.getfield 28, 3) := by decide +kernel
theorem dX9_layTable_16 : decode cX9_layTable 16 = .ok (.iload_n 1, 1) := by decide +kernel
theorem dX9_layTable_17 : decode cX9_layTable 17 = .ok (.baload, 1) := by decide +kernel
theorem dX9_layTable_18 : decode cX9_layTable 18 = .ok (.ifCond .ne 70, 3) := by decide +kernel
theorem dX9_layTable_21 : decode cX9_layTable 21 = .ok (.iconst 0, 1) := by decide +kernel
theorem dX9_layTable_22 : decode cX9_layTable 22 = .ok (.istore_n 3, 1) := by decide +kernel
theorem dX9_layTable_23 : decode cX9_layTable 23 = .ok (.iload_n 3, 1) := by decide +kernel
theorem dX9_layTable_24 : decode cX9_layTable 24 = .ok (.sipush 256, 3) := by decide +kernel
theorem dX9_layTable_27 : decode cX9_layTable 27 = .ok (.if_icmp .ge 55, 3) := by decide +kernel
theorem dX9_layTable_30 : decode cX9_layTable 30 = .ok (.aload_n 0, 1) := by decide +kernel
theorem dX9_layTable_31 : decode cX9_layTable 31 = .ok (.iload_n 1, 1) := by decide +kernel
theorem dX9_layTable_32 : decode cX9_layTable 32 = .ok (.iload_n 2, 1) := by decide +kernel
theorem dX9_layTable_33 : decode cX9_layTable 33 = .ok (.iload_n 3, 1) := by decide +kernel
theorem dX9_layTable_34 : decode cX9_layTable 34 = .ok (.invokevirtual 147, 3) := by decide +kernel
theorem dX9_layTable_37 : decode cX9_layTable 37 = .ok (.aload_n 0, 1) := by decide +kernel
theorem dX9_layTable_38 : decode cX9_layTable 38 = .ok (.getfield 32, 3) := by decide +kernel
theorem dX9_layTable_41 : decode cX9_layTable 41 = .ok (.sipush 256, 3) := by decide +kernel
theorem dX9_layTable_44 : decode cX9_layTable 44 = .ok (.bipush 12, 2) := by decide +kernel
theorem dX9_layTable_46 : decode cX9_layTable 46 = .ok (.iload_n 1, 1) := by decide +kernel
theorem dX9_layTable_47 : decode cX9_layTable 47 = .ok (.imul, 1) := by decide +kernel
theorem dX9_layTable_48 : decode cX9_layTable 48 = .ok (.iload_n 2, 1) := by decide +kernel
theorem dX9_layTable_49 : decode cX9_layTable 49 = .ok (.iadd, 1) := by decide +kernel
theorem dX9_layTable_50 : decode cX9_layTable 50 = .ok (.imul, 1) := by decide +kernel
theorem dX9_layTable_51 : decode cX9_layTable 51 = .ok (.iload_n 3, 1) := by decide +kernel
theorem dX9_layTable_52 : decode cX9_layTable 52 = .ok (.iadd, 1) := by decide +kernel
theorem dX9_layTable_53 : decode cX9_layTable 53 = .ok (.sipush 256, 3) := by decide +kernel
theorem dX9_layTable_56 : decode cX9_layTable 56 = .ok (.aload_n 0, 1) := by decide +kernel
theorem dX9_layTable_57 : decode cX9_layTable 57 = .ok (.getfield 137, 3) := by decide +kernel
theorem dX9_layTable_60 : decode cX9_layTable 60 = .ok (.imul, 1) := by decide +kernel
theorem dX9_layTable_61 : decode cX9_layTable 61 = .ok (.aload_n 0, 1) := by decide +kernel
theorem dX9_layTable_62 : decode cX9_layTable 62 = .ok (.getfield 131, 3) := by decide +kernel
theorem dX9_layTable_65 : decode cX9_layTable 65 = .ok (.iadd, 1) := by decide +kernel
theorem dX9_layTable_66 : decode cX9_layTable 66 = .ok (.sipush 4096, 3) := by decide +kernel
theorem dX9_layTable_69 : decode cX9_layTable 69 = .ok (.aload_n 0, 1) := by decide +kernel
theorem dX9_layTable_70 : decode cX9_layTable 70 = .ok (.getfield 140, 3) := by decide +kernel
theorem dX9_layTable_73 : decode cX9_layTable 73 = .ok (.imul, 1) := by decide +kernel
theorem dX9_layTable_74 : decode cX9_layTable 74 = .ok (.iadd, 1) := by decide +kernel
theorem dX9_layTable_75 : decode cX9_layTable 75 = .ok (.iastore, 1) := by decide +kernel
theorem dX9_layTable_76 : decode cX9_layTable 76 = .ok (.iinc 3 1, 3) := by decide +kernel
theorem dX9_layTable_79 : decode cX9_layTable 79 = .ok (.goto (-56), 3) := by decide +kernel
theorem dX9_layTable_82 : decode cX9_layTable 82 = .ok (.iinc 2 1, 3) := by decide +kernel
theorem dX9_layTable_85 : decode cX9_layTable 85 = .ok (.goto (-83), 3) := by decide +kernel
theorem dX9_layTable_88 : decode cX9_layTable 88 = .ok (.aload_n 0, 1) := by decide +kernel
theorem dX9_layTable_89 : decode cX9_layTable 89 = .ok (.getfield 28, 3) := by decide +kernel
theorem dX9_layTable_92 : decode cX9_layTable 92 = .ok (.iload_n 1, 1) := by decide +kernel
theorem dX9_layTable_93 : decode cX9_layTable 93 = .ok (.iconst 1, 1) := by decide +kernel
theorem dX9_layTable_94 : decode cX9_layTable 94 = .ok (.bastore, 1) := by decide +kernel
theorem dX9_layTable_95 : decode cX9_layTable 95 = .ok (.return_, 1) := by decide +kernel
theorem dX9_step_0 : decode cX9_step 0 = .ok (.aload_n 0, 1) := by decide +kernel
theorem dX9_step_1 : decode cX9_step 1 = .ok (.getfield 32, 3) := by decide +kernel
theorem dX9_step_4 : decode cX9_step 4 = .ok (.sipush 256, 3) := by decide +kernel
theorem dX9_step_7 : decode cX9_step 7 = .ok (.bipush 12, 2) := by decide +kernel
theorem dX9_step_9 : decode cX9_step 9 = .ok (.iload_n 1, 1) := by decide +kernel
theorem dX9_step_10 : decode cX9_step 10 = .ok (.imul, 1) := by decide +kernel
theorem dX9_step_11 : decode cX9_step 11 = .ok (.iload_n 2, 1) := by decide +kernel
theorem dX9_step_12 : decode cX9_step 12 = .ok (.iadd, 1) := by decide +kernel
theorem dX9_step_13 : decode cX9_step 13 = .ok (.imul, 1) := by decide +kernel
theorem dX9_step_14 : decode cX9_step 14 = .ok (.iload_n 3, 1) := by decide +kernel
theorem dX9_step_15 : decode cX9_step 15 = .ok (.iadd, 1) := by decide +kernel
theorem dX9_step_16 : decode cX9_step 16 = .ok (.iaload, 1) := by decide +kernel
theorem dX9_step_17 : decode cX9_step 17 = .ok (.istore 4, 2) := by decide +kernel
theorem dX9_step_19 : decode cX9_step 19 = .ok (.aload_n 0, 1) := by decide +kernel
theorem dX9_step_20 : decode cX9_step 20 = .ok (.iload 4, 2) := by decide +kernel
theorem dX9_step_22 : decode cX9_step 22 = .ok (.bipush 12, 2) := by decide +kernel
theorem dX9_step_24 : decode cX9_step 24 = .ok (.ishr, 1) := by decide +kernel
theorem dX9_step_25 : decode cX9_step 25 = .ok (.putfield 140, 3) := by decide +kernel
theorem dX9_step_28 : decode cX9_step 28 = .ok (.aload_n 0, 1) := by decide +kernel
theorem dX9_step_29 : decode cX9_step 29 = .ok (.iload 4, 2) := by decide +kernel
theorem dX9_step_31 : decode cX9_step 31 = .ok (.bipush 8, 2) := by decide +kernel
theorem dX9_step_33 : decode cX9_step 33 = .ok (.ishr, 1) := by decide +kernel
theorem dX9_step_34 : decode cX9_step 34 = .ok (.bipush 15, 2) := by decide +kernel
theorem dX9_step_36 : decode cX9_step 36 = .ok (.iand, 1) := by decide +kernel
theorem dX9_step_37 : decode cX9_step 37 = .ok (.putfield 137, 3) := by decide +kernel
theorem dX9_step_40 : decode cX9_step 40 = .ok (.aload_n 0, 1) := by decide +kernel
theorem dX9_step_41 : decode cX9_step 41 = .ok (.iload 4, 2) := by decide +kernel
theorem dX9_step_43 : decode cX9_step 43 = .ok (.sipush 255, 3) := by decide +kernel
theorem dX9_step_46 : decode cX9_step 46 = .ok (.iand, 1) := by decide +kernel
theorem dX9_step_47 : decode cX9_step 47 = .ok (.putfield 131, 3) := by decide +kernel
theorem dX9_step_50 : decode cX9_step 50 = .ok (.return_, 1) := by decide +kernel
theorem dX9_runOne_0 : decode cX9_runOne 0 = .ok (.aload_n 0, 1) := by decide +kernel
theorem dX9_runOne_1 : decode cX9_runOne 1 = .ok (.iload_n 1, 1) := by decide +kernel
theorem dX9_runOne_2 : decode cX9_runOne 2 = .ok (.invokevirtual 151, 3) := by decide +kernel
theorem dX9_runOne_5 : decode cX9_runOne 5 = .ok (.aload_n 0, 1) := by decide +kernel
theorem dX9_runOne_6 : decode cX9_runOne 6 = .ok (.iload_n 1, 1) := by decide +kernel
theorem dX9_runOne_7 : decode cX9_runOne 7 = .ok (.iconst 0, 1) := by decide +kernel
theorem dX9_runOne_8 : decode cX9_runOne 8 = .ok (.invokevirtual 134, 3) := by decide +kernel
theorem dX9_runOne_11 : decode cX9_runOne 11 = .ok (.istore 4, 2) := by decide +kernel
theorem dX9_runOne_13 : decode cX9_runOne 13 = .ok (.iload_n 2, 1) := by decide +kernel
theorem dX9_runOne_14 : decode cX9_runOne 14 = .ok (.istore 5, 2) := by decide +kernel
theorem dX9_runOne_16 : decode cX9_runOne 16 = .ok (.iconst 0, 1) := by decide +kernel
theorem dX9_runOne_17 : decode cX9_runOne 17 = .ok (.istore 6, 2) := by decide +kernel
theorem dX9_runOne_19 : decode cX9_runOne 19 = .ok (.iconst 0, 1) := by decide +kernel
theorem dX9_runOne_20 : decode cX9_runOne 20 = .ok (.istore 7, 2) := by decide +kernel
theorem dX9_runOne_22 : decode cX9_runOne 22 = .ok (.aload_n 0, 1) := by decide +kernel
theorem dX9_runOne_23 : decode cX9_runOne 23 = .ok (.getfield 44, 3) := by decide +kernel
theorem dX9_runOne_26 : decode cX9_runOne 26 = .ok (.iload_n 3, 1) := by decide +kernel
theorem dX9_runOne_27 : decode cX9_runOne 27 = .ok (.iconst 0, 1) := by decide +kernel
theorem dX9_runOne_28 : decode cX9_runOne 28 = .ok (.iastore, 1) := by decide +kernel
theorem dX9_runOne_29 : decode cX9_runOne 29 = .ok (.iload 4, 2) := by decide +kernel
theorem dX9_runOne_31 : decode cX9_runOne 31 = .ok (.bipush 12, 2) := by decide +kernel
theorem dX9_runOne_33 : decode cX9_runOne 33 = .ok (.if_icmp .ge 117, 3) := by decide +kernel
theorem dX9_runOne_36 : decode cX9_runOne 36 = .ok (.iload 6, 2) := by decide +kernel
theorem dX9_runOne_38 : decode cX9_runOne 38 = .ok (.bipush 24, 2) := by decide +kernel
theorem dX9_runOne_40 : decode cX9_runOne 40 = .ok (.if_icmp .ge 110, 3) := by decide +kernel
theorem dX9_runOne_43 : decode cX9_runOne 43 = .ok (.aload_n 0, 1) := by decide +kernel
theorem dX9_runOne_44 : decode cX9_runOne 44 = .ok (.getfield 7, 3) := by decide +kernel
theorem dX9_runOne_47 : decode cX9_runOne 47 = .ok (.bipush 12, 2) := by decide +kernel
theorem dX9_runOne_49 : decode cX9_runOne 49 = .ok (.iload_n 1, 1) := by decide +kernel
theorem dX9_runOne_50 : decode cX9_runOne 50 = .ok (.imul, 1) := by decide +kernel
theorem dX9_runOne_51 : decode cX9_runOne 51 = .ok (.iload 4, 2) := by decide +kernel
theorem dX9_runOne_53 : decode cX9_runOne 53 = .ok (.iadd, 1) := by decide +kernel
theorem dX9_runOne_54 : decode cX9_runOne 54 = .ok (.iaload, 1) := by decide +kernel
theorem dX9_runOne_55 : decode cX9_runOne 55 = .ok (.bipush 6, 2) := by decide +kernel
theorem dX9_runOne_57 : decode cX9_runOne 57 = .ok (.if_icmp .ne 60, 3) := by decide +kernel
theorem dX9_runOne_60 : decode cX9_runOne 60 = .ok (.aload_n 0, 1) := by decide +kernel
theorem dX9_runOne_61 : decode cX9_runOne 61 = .ok (.getfield 25, 3) := by decide +kernel
theorem dX9_runOne_64 : decode cX9_runOne 64 = .ok (.iload_n 1, 1) := by decide +kernel
theorem dX9_runOne_65 : decode cX9_runOne 65 = .ok (.iaload, 1) := by decide +kernel
theorem dX9_runOne_66 : decode cX9_runOne 66 = .ok (.iload 4, 2) := by decide +kernel
theorem dX9_runOne_68 : decode cX9_runOne 68 = .ok (.ishr, 1) := by decide +kernel
theorem dX9_runOne_69 : decode cX9_runOne 69 = .ok (.iconst 1, 1) := by decide +kernel
theorem dX9_runOne_70 : decode cX9_runOne 70 = .ok (.iand, 1) := by decide +kernel
theorem dX9_runOne_71 : decode cX9_runOne 71 = .ok (.ifCond .ne 46, 3) := by decide +kernel
theorem dX9_runOne_74 : decode cX9_runOne 74 = .ok (.aload_n 0, 1) := by decide +kernel
theorem dX9_runOne_75 : decode cX9_runOne 75 = .ok (.getfield 47, 3) := by decide +kernel
theorem dX9_runOne_78 : decode cX9_runOne 78 = .ok (.bipush 24, 2) := by decide +kernel
theorem dX9_runOne_80 : decode cX9_runOne 80 = .ok (.iload_n 3, 1) := by decide +kernel
theorem dX9_runOne_81 : decode cX9_runOne 81 = .ok (.imul, 1) := by decide +kernel
theorem dX9_runOne_82 : decode cX9_runOne 82 = .ok (.aload_n 0, 1) := by decide +kernel
theorem dX9_runOne_83 : decode cX9_runOne 83 = .ok (.getfield 44, 3) := by decide +kernel
theorem dX9_runOne_86 : decode cX9_runOne 86 = .ok (.iload_n 3, 1) := by decide +kernel
theorem dX9_runOne_87 : decode cX9_runOne 87 = .ok (.iaload, 1) := by decide +kernel
theorem dX9_runOne_88 : decode cX9_runOne 88 = .ok (.iadd, 1) := by decide +kernel
theorem dX9_runOne_89 : decode cX9_runOne 89 = .ok (.iload 5, 2) := by decide +kernel
theorem dX9_runOne_91 : decode cX9_runOne 91 = .ok (.aload_n 0, 1) := by decide +kernel
theorem dX9_runOne_92 : decode cX9_runOne 92 = .ok (.getfield 13, 3) := by decide +kernel
theorem dX9_runOne_95 : decode cX9_runOne 95 = .ok (.bipush 12, 2) := by decide +kernel
theorem dX9_runOne_97 : decode cX9_runOne 97 = .ok (.iload_n 1, 1) := by decide +kernel
theorem dX9_runOne_98 : decode cX9_runOne 98 = .ok (.imul, 1) := by decide +kernel
theorem dX9_runOne_99 : decode cX9_runOne 99 = .ok (.iload 4, 2) := by decide +kernel
theorem dX9_runOne_101 : decode cX9_runOne 101 = .ok (.iadd, 1) := by decide +kernel
theorem dX9_runOne_102 : decode cX9_runOne 102 = .ok (.iaload, 1) := by decide +kernel
theorem dX9_runOne_103 : decode cX9_runOne 103 = .ok (.invokestatic 128, 3) := by decide +kernel
theorem dX9_runOne_106 : decode cX9_runOne 106 = .ok (.iastore, 1) := by decide +kernel
theorem dX9_runOne_107 : decode cX9_runOne 107 = .ok (.aload_n 0, 1) := by decide +kernel
theorem dX9_runOne_108 : decode cX9_runOne 108 = .ok (.getfield 44, 3) := by decide +kernel
theorem dX9_runOne_111 : decode cX9_runOne 111 = .ok (.iload_n 3, 1) := by decide +kernel
theorem dX9_runOne_112 : decode cX9_runOne 112 = .ok (.dup2, 1) := by decide +kernel
theorem dX9_runOne_113 : decode cX9_runOne 113 = .ok (.iaload, 1) := by decide +kernel
theorem dX9_runOne_114 : decode cX9_runOne 114 = .ok (.iconst 1, 1) := by decide +kernel
theorem dX9_runOne_115 : decode cX9_runOne 115 = .ok (.iadd, 1) := by decide +kernel
theorem dX9_runOne_116 : decode cX9_runOne 116 = .ok (.iastore, 1) := by decide +kernel
theorem dX9_runOne_117 : decode cX9_runOne 117 = .ok (.aload_n 0, 1) := by decide +kernel
theorem dX9_runOne_118 : decode cX9_runOne 118 = .ok (.iload_n 1, 1) := by decide +kernel
theorem dX9_runOne_119 : decode cX9_runOne 119 = .ok (.iload 4, 2) := by decide +kernel
theorem dX9_runOne_121 : decode cX9_runOne 121 = .ok (.iload 5, 2) := by decide +kernel
theorem dX9_runOne_123 : decode cX9_runOne 123 = .ok (.invokevirtual 154, 3) := by decide +kernel
theorem dX9_runOne_126 : decode cX9_runOne 126 = .ok (.aload_n 0, 1) := by decide +kernel
theorem dX9_runOne_127 : decode cX9_runOne 127 = .ok (.getfield 140, 3) := by decide +kernel
theorem dX9_runOne_130 : decode cX9_runOne 130 = .ok (.istore 7, 2) := by decide +kernel
theorem dX9_runOne_132 : decode cX9_runOne 132 = .ok (.aload_n 0, 1) := by decide +kernel
theorem dX9_runOne_133 : decode cX9_runOne 133 = .ok (.getfield 137, 3) := by decide +kernel
theorem dX9_runOne_136 : decode cX9_runOne 136 = .ok (.istore 4, 2) := by decide +kernel
theorem dX9_runOne_138 : decode cX9_runOne 138 = .ok (.aload_n 0, 1) := by decide +kernel
theorem dX9_runOne_139 : decode cX9_runOne 139 = .ok (.getfield 131, 3) := by decide +kernel
theorem dX9_runOne_142 : decode cX9_runOne 142 = .ok (.istore 5, 2) := by decide +kernel
theorem dX9_runOne_144 : decode cX9_runOne 144 = .ok (.iinc 6 1, 3) := by decide +kernel
theorem dX9_runOne_147 : decode cX9_runOne 147 = .ok (.goto (-118), 3) := by decide +kernel
theorem dX9_runOne_150 : decode cX9_runOne 150 = .ok (.aload_n 0, 1) := by decide +kernel
theorem dX9_runOne_151 : decode cX9_runOne 151 = .ok (.getfield 35, 3) := by decide +kernel
theorem dX9_runOne_154 : decode cX9_runOne 154 = .ok (.iload_n 3, 1) := by decide +kernel
theorem dX9_runOne_155 : decode cX9_runOne 155 = .ok (.iload 4, 2) := by decide +kernel
theorem dX9_runOne_157 : decode cX9_runOne 157 = .ok (.bipush 12, 2) := by decide +kernel
theorem dX9_runOne_159 : decode cX9_runOne 159 = .ok (.if_icmp .ge 7, 3) := by decide +kernel
theorem dX9_runOne_162 : decode cX9_runOne 162 = .ok (.iconst 2, 1) := by decide +kernel
theorem dX9_runOne_163 : decode cX9_runOne 163 = .ok (.goto 5, 3) := by decide +kernel
theorem dX9_runOne_166 : decode cX9_runOne 166 = .ok (.iload 7, 2) := by decide +kernel
theorem dX9_runOne_168 : decode cX9_runOne 168 = .ok (.iastore, 1) := by decide +kernel
theorem dX9_runOne_169 : decode cX9_runOne 169 = .ok (.aload_n 0, 1) := by decide +kernel
theorem dX9_runOne_170 : decode cX9_runOne 170 = .ok (.getfield 38, 3) := by decide +kernel
theorem dX9_runOne_173 : decode cX9_runOne 173 = .ok (.iload_n 3, 1) := by decide +kernel
theorem dX9_runOne_174 : decode cX9_runOne 174 = .ok (.iload 5, 2) := by decide +kernel
theorem dX9_runOne_176 : decode cX9_runOne 176 = .ok (.iastore, 1) := by decide +kernel
theorem dX9_runOne_177 : decode cX9_runOne 177 = .ok (.aload_n 0, 1) := by decide +kernel
theorem dX9_runOne_178 : decode cX9_runOne 178 = .ok (.getfield 41, 3) := by decide +kernel
theorem dX9_runOne_181 : decode cX9_runOne 181 = .ok (.iload_n 3, 1) := by decide +kernel
theorem dX9_runOne_182 : decode cX9_runOne 182 = .ok (.iload 6, 2) := by decide +kernel
theorem dX9_runOne_184 : decode cX9_runOne 184 = .ok (.iastore, 1) := by decide +kernel
theorem dX9_runOne_185 : decode cX9_runOne 185 = .ok (.return_, 1) := by decide +kernel
theorem dX9_runAll_0 : decode cX9_runAll 0 = .ok (.iconst 0, 1) := by decide +kernel
theorem dX9_runAll_1 : decode cX9_runAll 1 = .ok (.istore_n 3, 1) := by decide +kernel
theorem dX9_runAll_2 : decode cX9_runAll 2 = .ok (.iload_n 3, 1) := by decide +kernel
theorem dX9_runAll_3 : decode cX9_runAll 3 = .ok (.sipush 256, 3) := by decide +kernel
theorem dX9_runAll_6 : decode cX9_runAll 6 = .ok (.if_icmp .ge 27, 3) := by decide +kernel
theorem dX9_runAll_9 : decode cX9_runAll 9 = .ok (.aload_n 0, 1) := by decide +kernel
theorem dX9_runAll_10 : decode cX9_runAll 10 = .ok (.iload_n 1, 1) := by decide +kernel
theorem dX9_runAll_11 : decode cX9_runAll 11 = .ok (.iload_n 3, 1) := by decide +kernel
theorem dX9_runAll_12 : decode cX9_runAll 12 = .ok (.iload_n 3, 1) := by decide +kernel
theorem dX9_runAll_13 : decode cX9_runAll 13 = .ok (.invokevirtual 157, 3) := by decide +kernel
theorem dX9_runAll_16 : decode cX9_runAll 16 = .ok (.aload_n 0, 1) := by decide +kernel
theorem dX9_runAll_17 : decode cX9_runAll 17 = .ok (.iload_n 2, 1) := by decide +kernel
theorem dX9_runAll_18 : decode cX9_runAll 18 = .ok (.iload_n 3, 1) := by decide +kernel
theorem dX9_runAll_19 : decode cX9_runAll 19 = .ok (.sipush 256, 3) := by decide +kernel
theorem dX9_runAll_22 : decode cX9_runAll 22 = .ok (.iload_n 3, 1) := by decide +kernel
theorem dX9_runAll_23 : decode cX9_runAll 23 = .ok (.iadd, 1) := by decide +kernel
theorem dX9_runAll_24 : decode cX9_runAll 24 = .ok (.invokevirtual 157, 3) := by decide +kernel
theorem dX9_runAll_27 : decode cX9_runAll 27 = .ok (.iinc 3 1, 3) := by decide +kernel
theorem dX9_runAll_30 : decode cX9_runAll 30 = .ok (.goto (-28), 3) := by decide +kernel
theorem dX9_runAll_33 : decode cX9_runAll 33 = .ok (.return_, 1) := by decide +kernel
theorem dX9_isStart_0 : decode cX9_isStart 0 = .ok (.iload_n 0, 1) := by decide +kernel
theorem dX9_isStart_1 : decode cX9_isStart 1 = .ok (.i2l, 1) := by decide +kernel
theorem dX9_isStart_2 : decode cX9_isStart 2 = .ok (.lconst 0, 1) := by decide +kernel
theorem dX9_isStart_3 : decode cX9_isStart 3 = .ok (.ldc2_w 160, 3) := by decide +kernel
theorem dX9_isStart_6 : decode cX9_isStart 6 = .ok (.invokestatic 101, 3) := by decide +kernel
theorem dX9_isStart_9 : decode cX9_isStart 9 = .ok (.ireturn, 1) := by decide +kernel
theorem dX9_run_0 : decode cX9_run 0 = .ok (.iload_n 1, 1) := by decide +kernel
theorem dX9_run_1 : decode cX9_run 1 = .ok (.invokestatic 111, 3) := by decide +kernel
theorem dX9_run_4 : decode cX9_run 4 = .ok (.ifCond .ne 5, 3) := by decide +kernel
theorem dX9_run_7 : decode cX9_run 7 = .ok (.iconst (-1), 1) := by decide +kernel
theorem dX9_run_8 : decode cX9_run 8 = .ok (.ireturn, 1) := by decide +kernel
theorem dX9_run_9 : decode cX9_run 9 = .ok (.iload_n 2, 1) := by decide +kernel
theorem dX9_run_10 : decode cX9_run 10 = .ok (.invokestatic 162, 3) := by decide +kernel
theorem dX9_run_13 : decode cX9_run 13 = .ok (.ifCond .eq 29, 3) := by decide +kernel
theorem dX9_run_16 : decode cX9_run 16 = .ok (.iload_n 3, 1) := by decide +kernel
theorem dX9_run_17 : decode cX9_run 17 = .ok (.i2l, 1) := by decide +kernel
theorem dX9_run_18 : decode cX9_run 18 = .ok (.lconst 0, 1) := by decide +kernel
theorem dX9_run_19 : decode cX9_run 19 = .ok (.ldc2_w 99, 3) := by decide +kernel
theorem dX9_run_22 : decode cX9_run 22 = .ok (.invokestatic 101, 3) := by decide +kernel
theorem dX9_run_25 : decode cX9_run 25 = .ok (.ifCond .ne 20, 3) := by decide +kernel
theorem dX9_run_28 : decode cX9_run 28 = .ok (.iload_n 3, 1) := by decide +kernel
theorem dX9_run_29 : decode cX9_run 29 = .ok (.i2l, 1) := by decide +kernel
theorem dX9_run_30 : decode cX9_run 30 = .ok (.ldc2_w 165, 3) := by decide +kernel
theorem dX9_run_33 : decode cX9_run 33 = .ok (.ldc2_w 167, 3) := by decide +kernel
theorem dX9_run_36 : decode cX9_run 36 = .ok (.invokestatic 101, 3) := by decide +kernel
theorem dX9_run_39 : decode cX9_run 39 = .ok (.ifCond .ne 6, 3) := by decide +kernel
theorem dX9_run_42 : decode cX9_run 42 = .ok (.bipush (-2), 2) := by decide +kernel
theorem dX9_run_44 : decode cX9_run 44 = .ok (.ireturn, 1) := by decide +kernel
theorem dX9_run_45 : decode cX9_run 45 = .ok (.aload_n 0, 1) := by decide +kernel
theorem dX9_run_46 : decode cX9_run 46 = .ok (.iload_n 1, 1) := by decide +kernel
theorem dX9_run_47 : decode cX9_run 47 = .ok (.iload_n 2, 1) := by decide +kernel
theorem dX9_run_48 : decode cX9_run 48 = .ok (.iconst 0, 1) := by decide +kernel
theorem dX9_run_49 : decode cX9_run 49 = .ok (.invokevirtual 157, 3) := by decide +kernel
theorem dX9_run_52 : decode cX9_run 52 = .ok (.iload_n 3, 1) := by decide +kernel
theorem dX9_run_53 : decode cX9_run 53 = .ok (.tableswitch 59 0 3 #[31, 38, 45, 52], 31) := by decide +kernel
theorem dX9_run_84 : decode cX9_run 84 = .ok (.aload_n 0, 1) := by decide +kernel
theorem dX9_run_85 : decode cX9_run 85 = .ok (.getfield 35, 3) := by decide +kernel
theorem dX9_run_88 : decode cX9_run 88 = .ok (.iconst 0, 1) := by decide +kernel
theorem dX9_run_89 : decode cX9_run 89 = .ok (.iaload, 1) := by decide +kernel
theorem dX9_run_90 : decode cX9_run 90 = .ok (.ireturn, 1) := by decide +kernel
theorem dX9_run_91 : decode cX9_run 91 = .ok (.aload_n 0, 1) := by decide +kernel
theorem dX9_run_92 : decode cX9_run 92 = .ok (.getfield 38, 3) := by decide +kernel
theorem dX9_run_95 : decode cX9_run 95 = .ok (.iconst 0, 1) := by decide +kernel
theorem dX9_run_96 : decode cX9_run 96 = .ok (.iaload, 1) := by decide +kernel
theorem dX9_run_97 : decode cX9_run 97 = .ok (.ireturn, 1) := by decide +kernel
theorem dX9_run_98 : decode cX9_run 98 = .ok (.aload_n 0, 1) := by decide +kernel
theorem dX9_run_99 : decode cX9_run 99 = .ok (.getfield 41, 3) := by decide +kernel
theorem dX9_run_102 : decode cX9_run 102 = .ok (.iconst 0, 1) := by decide +kernel
theorem dX9_run_103 : decode cX9_run 103 = .ok (.iaload, 1) := by decide +kernel
theorem dX9_run_104 : decode cX9_run 104 = .ok (.ireturn, 1) := by decide +kernel
theorem dX9_run_105 : decode cX9_run 105 = .ok (.aload_n 0, 1) := by decide +kernel
theorem dX9_run_106 : decode cX9_run 106 = .ok (.getfield 44, 3) := by decide +kernel
theorem dX9_run_109 : decode cX9_run 109 = .ok (.iconst 0, 1) := by decide +kernel
theorem dX9_run_110 : decode cX9_run 110 = .ok (.iaload, 1) := by decide +kernel
theorem dX9_run_111 : decode cX9_run 111 = .ok (.ireturn, 1) := by decide +kernel
theorem dX9_run_112 : decode cX9_run 112 = .ok (.iload_n 3, 1) := by decide +kernel
theorem dX9_run_113 : decode cX9_run 113 = .ok (.bipush 10, 2) := by decide +kernel
theorem dX9_run_115 : decode cX9_run 115 = .ok (.isub, 1) := by decide +kernel
theorem dX9_run_116 : decode cX9_run 116 = .ok (.aload_n 0, 1) := by decide +kernel
theorem dX9_run_117 : decode cX9_run 117 = .ok (.getfield 44, 3) := by decide +kernel
theorem dX9_run_120 : decode cX9_run 120 = .ok (.iconst 0, 1) := by decide +kernel
theorem dX9_run_121 : decode cX9_run 121 = .ok (.iaload, 1) := by decide +kernel
theorem dX9_run_122 : decode cX9_run 122 = .ok (.if_icmp .ge 15, 3) := by decide +kernel
theorem dX9_run_125 : decode cX9_run 125 = .ok (.aload_n 0, 1) := by decide +kernel
theorem dX9_run_126 : decode cX9_run 126 = .ok (.getfield 47, 3) := by decide +kernel
theorem dX9_run_129 : decode cX9_run 129 = .ok (.iload_n 3, 1) := by decide +kernel
theorem dX9_run_130 : decode cX9_run 130 = .ok (.bipush 10, 2) := by decide +kernel
theorem dX9_run_132 : decode cX9_run 132 = .ok (.isub, 1) := by decide +kernel
theorem dX9_run_133 : decode cX9_run 133 = .ok (.iaload, 1) := by decide +kernel
theorem dX9_run_134 : decode cX9_run 134 = .ok (.goto 5, 3) := by decide +kernel
theorem dX9_run_137 : decode cX9_run 137 = .ok (.bipush (-6), 2) := by decide +kernel
theorem dX9_run_139 : decode cX9_run 139 = .ok (.ireturn, 1) := by decide +kernel
theorem dX9_areShownAlike_0 : decode cX9_areShownAlike 0 = .ok (.iconst 1, 1) := by decide +kernel
theorem dX9_areShownAlike_1 : decode cX9_areShownAlike 1 = .ok (.istore 4, 2) := by decide +kernel
theorem dX9_areShownAlike_3 : decode cX9_areShownAlike 3 = .ok (.iconst 0, 1) := by decide +kernel
theorem dX9_areShownAlike_4 : decode cX9_areShownAlike 4 = .ok (.istore 5, 2) := by decide +kernel
theorem dX9_areShownAlike_6 : decode cX9_areShownAlike 6 = .ok (.iload 5, 2) := by decide +kernel
theorem dX9_areShownAlike_8 : decode cX9_areShownAlike 8 = .ok (.iload_n 3, 1) := by decide +kernel
theorem dX9_areShownAlike_9 : decode cX9_areShownAlike 9 = .ok (.if_icmp .ge 48, 3) := by decide +kernel
theorem dX9_areShownAlike_12 : decode cX9_areShownAlike 12 = .ok (.iload 4, 2) := by decide +kernel
theorem dX9_areShownAlike_14 : decode cX9_areShownAlike 14 = .ok (.ifCond .eq 43, 3) := by decide +kernel
theorem dX9_areShownAlike_17 : decode cX9_areShownAlike 17 = .ok (.aload_n 0, 1) := by decide +kernel
theorem dX9_areShownAlike_18 : decode cX9_areShownAlike 18 = .ok (.getfield 47, 3) := by decide +kernel
theorem dX9_areShownAlike_21 : decode cX9_areShownAlike 21 = .ok (.bipush 24, 2) := by decide +kernel
theorem dX9_areShownAlike_23 : decode cX9_areShownAlike 23 = .ok (.iload_n 1, 1) := by decide +kernel
theorem dX9_areShownAlike_24 : decode cX9_areShownAlike 24 = .ok (.imul, 1) := by decide +kernel
theorem dX9_areShownAlike_25 : decode cX9_areShownAlike 25 = .ok (.iload 5, 2) := by decide +kernel
theorem dX9_areShownAlike_27 : decode cX9_areShownAlike 27 = .ok (.iadd, 1) := by decide +kernel
theorem dX9_areShownAlike_28 : decode cX9_areShownAlike 28 = .ok (.iaload, 1) := by decide +kernel
theorem dX9_areShownAlike_29 : decode cX9_areShownAlike 29 = .ok (.aload_n 0, 1) := by decide +kernel
theorem dX9_areShownAlike_30 : decode cX9_areShownAlike 30 = .ok (.getfield 47, 3) := by decide +kernel
theorem dX9_areShownAlike_33 : decode cX9_areShownAlike 33 = .ok (.bipush 24, 2) := by decide +kernel
theorem dX9_areShownAlike_35 : decode cX9_areShownAlike 35 = .ok (.iload_n 2, 1) := by decide +kernel
theorem dX9_areShownAlike_36 : decode cX9_areShownAlike 36 = .ok (.imul, 1) := by decide +kernel
theorem dX9_areShownAlike_37 : decode cX9_areShownAlike 37 = .ok (.iload 5, 2) := by decide +kernel
theorem dX9_areShownAlike_39 : decode cX9_areShownAlike 39 = .ok (.iadd, 1) := by decide +kernel
theorem dX9_areShownAlike_40 : decode cX9_areShownAlike 40 = .ok (.iaload, 1) := by decide +kernel
theorem dX9_areShownAlike_41 : decode cX9_areShownAlike 41 = .ok (.if_icmp .ne 7, 3) := by decide +kernel
theorem dX9_areShownAlike_44 : decode cX9_areShownAlike 44 = .ok (.iconst 1, 1) := by decide +kernel
theorem dX9_areShownAlike_45 : decode cX9_areShownAlike 45 = .ok (.goto 4, 3) := by decide +kernel
theorem dX9_areShownAlike_48 : decode cX9_areShownAlike 48 = .ok (.iconst 0, 1) := by decide +kernel
theorem dX9_areShownAlike_49 : decode cX9_areShownAlike 49 = .ok (.istore 4, 2) := by decide +kernel
theorem dX9_areShownAlike_51 : decode cX9_areShownAlike 51 = .ok (.iinc 5 1, 3) := by decide +kernel
theorem dX9_areShownAlike_54 : decode cX9_areShownAlike 54 = .ok (.goto (-48), 3) := by decide +kernel
theorem dX9_areShownAlike_57 : decode cX9_areShownAlike 57 = .ok (.iload 4, 2) := by decide +kernel
theorem dX9_areShownAlike_59 : decode cX9_areShownAlike 59 = .ok (.ireturn, 1) := by decide +kernel
theorem dX9_say_0 : decode cX9_say 0 = .ok (.iload_n 1, 1) := by decide +kernel
theorem dX9_say_1 : decode cX9_say 1 = .ok (.i2l, 1) := by decide +kernel
theorem dX9_say_2 : decode cX9_say 2 = .ok (.ldc2_w 167, 3) := by decide +kernel
theorem dX9_say_5 : decode cX9_say 5 = .ok (.ldc2_w 169, 3) := by decide +kernel
theorem dX9_say_8 : decode cX9_say 8 = .ok (.invokestatic 101, 3) := by decide +kernel
theorem dX9_say_11 : decode cX9_say 11 = .ok (.ifCond .ne 6, 3) := by decide +kernel
theorem dX9_say_14 : decode cX9_say 14 = .ok (.bipush (-2), 2) := by decide +kernel
theorem dX9_say_16 : decode cX9_say 16 = .ok (.ireturn, 1) := by decide +kernel
theorem dX9_say_17 : decode cX9_say 17 = .ok (.aload_n 0, 1) := by decide +kernel
theorem dX9_say_18 : decode cX9_say 18 = .ok (.getfield 53, 3) := by decide +kernel
theorem dX9_say_21 : decode cX9_say 21 = .ok (.bipush 6, 2) := by decide +kernel
theorem dX9_say_23 : decode cX9_say 23 = .ok (.iaload, 1) := by decide +kernel
theorem dX9_say_24 : decode cX9_say 24 = .ok (.bipush 40, 2) := by decide +kernel
theorem dX9_say_26 : decode cX9_say 26 = .ok (.if_icmp .ne 6, 3) := by decide +kernel
theorem dX9_say_29 : decode cX9_say 29 = .ok (.bipush (-4), 2) := by decide +kernel
theorem dX9_say_31 : decode cX9_say 31 = .ok (.ireturn, 1) := by decide +kernel
theorem dX9_say_32 : decode cX9_say 32 = .ok (.aload_n 0, 1) := by decide +kernel
theorem dX9_say_33 : decode cX9_say 33 = .ok (.getfield 50, 3) := by decide +kernel
theorem dX9_say_36 : decode cX9_say 36 = .ok (.sipush 240, 3) := by decide +kernel
theorem dX9_say_39 : decode cX9_say 39 = .ok (.aload_n 0, 1) := by decide +kernel
theorem dX9_say_40 : decode cX9_say 40 = .ok (.getfield 53, 3) := by decide +kernel
theorem dX9_say_43 : decode cX9_say 43 = .ok (.bipush 6, 2) := by decide +kernel
theorem dX9_say_45 : decode cX9_say 45 = .ok (.iaload, 1) := by decide +kernel
theorem dX9_say_46 : decode cX9_say 46 = .ok (.iadd, 1) := by decide +kernel
theorem dX9_say_47 : decode cX9_say 47 = .ok (.iload_n 1, 1) := by decide +kernel
theorem dX9_say_48 : decode cX9_say 48 = .ok (.iastore, 1) := by decide +kernel
theorem dX9_say_49 : decode cX9_say 49 = .ok (.aload_n 0, 1) := by decide +kernel
theorem dX9_say_50 : decode cX9_say 50 = .ok (.getfield 53, 3) := by decide +kernel
theorem dX9_say_53 : decode cX9_say 53 = .ok (.bipush 6, 2) := by decide +kernel
theorem dX9_say_55 : decode cX9_say 55 = .ok (.dup2, 1) := by decide +kernel
theorem dX9_say_56 : decode cX9_say 56 = .ok (.iaload, 1) := by decide +kernel
theorem dX9_say_57 : decode cX9_say 57 = .ok (.iconst 1, 1) := by decide +kernel
theorem dX9_say_58 : decode cX9_say 58 = .ok (.iadd, 1) := by decide +kernel
theorem dX9_say_59 : decode cX9_say 59 = .ok (.iastore, 1) := by decide +kernel
theorem dX9_say_60 : decode cX9_say 60 = .ok (.aload_n 0, 1) := by decide +kernel
theorem dX9_say_61 : decode cX9_say 61 = .ok (.getfield 53, 3) := by decide +kernel
theorem dX9_say_64 : decode cX9_say 64 = .ok (.bipush 6, 2) := by decide +kernel
theorem dX9_say_66 : decode cX9_say 66 = .ok (.iaload, 1) := by decide +kernel
theorem dX9_say_67 : decode cX9_say 67 = .ok (.ireturn, 1) := by decide +kernel
theorem dX9_wipe_0 : decode cX9_wipe 0 = .ok (.aload_n 0, 1) := by decide +kernel
theorem dX9_wipe_1 : decode cX9_wipe 1 = .ok (.getfield 53, 3) := by decide +kernel
theorem dX9_wipe_4 : decode cX9_wipe 4 = .ok (.bipush 6, 2) := by decide +kernel
theorem dX9_wipe_6 : decode cX9_wipe 6 = .ok (.iaload, 1) := by decide +kernel
theorem dX9_wipe_7 : decode cX9_wipe 7 = .ok (.istore_n 1, 1) := by decide +kernel
theorem dX9_wipe_8 : decode cX9_wipe 8 = .ok (.aload_n 0, 1) := by decide +kernel
theorem dX9_wipe_9 : decode cX9_wipe 9 = .ok (.getfield 53, 3) := by decide +kernel
theorem dX9_wipe_12 : decode cX9_wipe 12 = .ok (.bipush 6, 2) := by decide +kernel
theorem dX9_wipe_14 : decode cX9_wipe 14 = .ok (.iconst 0, 1) := by decide +kernel
theorem dX9_wipe_15 : decode cX9_wipe 15 = .ok (.iastore, 1) := by decide +kernel
theorem dX9_wipe_16 : decode cX9_wipe 16 = .ok (.iload_n 1, 1) := by decide +kernel
theorem dX9_wipe_17 : decode cX9_wipe 17 = .ok (.ireturn, 1) := by decide +kernel
theorem dX9_isLetter_0 : decode cX9_isLetter 0 = .ok (.iload_n 0, 1) := by decide +kernel
theorem dX9_isLetter_1 : decode cX9_isLetter 1 = .ok (.i2l, 1) := by decide +kernel
theorem dX9_isLetter_2 : decode cX9_isLetter 2 = .ok (.ldc2_w 171, 3) := by decide +kernel
theorem dX9_isLetter_5 : decode cX9_isLetter 5 = .ok (.ldc2_w 173, 3) := by decide +kernel
theorem dX9_isLetter_8 : decode cX9_isLetter 8 = .ok (.invokestatic 101, 3) := by decide +kernel
theorem dX9_isLetter_11 : decode cX9_isLetter 11 = .ok (.ireturn, 1) := by decide +kernel
theorem dX9_isHow_0 : decode cX9_isHow 0 = .ok (.iload_n 0, 1) := by decide +kernel
theorem dX9_isHow_1 : decode cX9_isHow 1 = .ok (.bipush 61, 2) := by decide +kernel
theorem dX9_isHow_3 : decode cX9_isHow 3 = .ok (.if_icmp .eq 21, 3) := by decide +kernel
theorem dX9_isHow_6 : decode cX9_isHow 6 = .ok (.iload_n 0, 1) := by decide +kernel
theorem dX9_isHow_7 : decode cX9_isHow 7 = .ok (.bipush 60, 2) := by decide +kernel
theorem dX9_isHow_9 : decode cX9_isHow 9 = .ok (.if_icmp .eq 15, 3) := by decide +kernel
theorem dX9_isHow_12 : decode cX9_isHow 12 = .ok (.iload_n 0, 1) := by decide +kernel
theorem dX9_isHow_13 : decode cX9_isHow 13 = .ok (.bipush 62, 2) := by decide +kernel
theorem dX9_isHow_15 : decode cX9_isHow 15 = .ok (.if_icmp .eq 9, 3) := by decide +kernel
theorem dX9_isHow_18 : decode cX9_isHow 18 = .ok (.iload_n 0, 1) := by decide +kernel
theorem dX9_isHow_19 : decode cX9_isHow 19 = .ok (.bipush 35, 2) := by decide +kernel
theorem dX9_isHow_21 : decode cX9_isHow 21 = .ok (.if_icmp .ne 7, 3) := by decide +kernel
theorem dX9_isHow_24 : decode cX9_isHow 24 = .ok (.iconst 1, 1) := by decide +kernel
theorem dX9_isHow_25 : decode cX9_isHow 25 = .ok (.goto 4, 3) := by decide +kernel
theorem dX9_isHow_28 : decode cX9_isHow 28 = .ok (.iconst 0, 1) := by decide +kernel
theorem dX9_isHow_29 : decode cX9_isHow 29 = .ok (.ireturn, 1) := by decide +kernel
theorem dX9_isOfEnd_0 : decode cX9_isOfEnd 0 = .ok (.iload_n 0, 1) := by decide +kernel
theorem dX9_isOfEnd_1 : decode cX9_isOfEnd 1 = .ok (.bipush 101, 2) := by decide +kernel
theorem dX9_isOfEnd_3 : decode cX9_isOfEnd 3 = .ok (.if_icmp .eq 15, 3) := by decide +kernel
theorem dX9_isOfEnd_6 : decode cX9_isOfEnd 6 = .ok (.iload_n 0, 1) := by decide +kernel
theorem dX9_isOfEnd_7 : decode cX9_isOfEnd 7 = .ok (.bipush 111, 2) := by decide +kernel
theorem dX9_isOfEnd_9 : decode cX9_isOfEnd 9 = .ok (.if_icmp .eq 9, 3) := by decide +kernel
theorem dX9_isOfEnd_12 : decode cX9_isOfEnd 12 = .ok (.iload_n 0, 1) := by decide +kernel
theorem dX9_isOfEnd_13 : decode cX9_isOfEnd 13 = .ok (.bipush 116, 2) := by decide +kernel
theorem dX9_isOfEnd_15 : decode cX9_isOfEnd 15 = .ok (.if_icmp .ne 7, 3) := by decide +kernel
theorem dX9_isOfEnd_18 : decode cX9_isOfEnd 18 = .ok (.iconst 1, 1) := by decide +kernel
theorem dX9_isOfEnd_19 : decode cX9_isOfEnd 19 = .ok (.goto 4, 3) := by decide +kernel
theorem dX9_isOfEnd_22 : decode cX9_isOfEnd 22 = .ok (.iconst 0, 1) := by decide +kernel
theorem dX9_isOfEnd_23 : decode cX9_isOfEnd 23 = .ok (.ireturn, 1) := by decide +kernel
theorem dX9_stepOf_0 : decode cX9_stepOf 0 = .ok (.iload_n 0, 1) := by decide +kernel
theorem dX9_stepOf_1 : decode cX9_stepOf 1 = .ok (.tableswitch 81 0 2 #[27, 55, 68], 27) := by decide +kernel
theorem dX9_stepOf_28 : decode cX9_stepOf 28 = .ok (.iload_n 1, 1) := by decide +kernel
theorem dX9_stepOf_29 : decode cX9_stepOf 29 = .ok (.invokestatic 175, 3) := by decide +kernel
theorem dX9_stepOf_32 : decode cX9_stepOf 32 = .ok (.ifCond .eq 7, 3) := by decide +kernel
theorem dX9_stepOf_35 : decode cX9_stepOf 35 = .ok (.iconst 1, 1) := by decide +kernel
theorem dX9_stepOf_36 : decode cX9_stepOf 36 = .ok (.goto 19, 3) := by decide +kernel
theorem dX9_stepOf_39 : decode cX9_stepOf 39 = .ok (.iload_n 2, 1) := by decide +kernel
theorem dX9_stepOf_40 : decode cX9_stepOf 40 = .ok (.ifCond .eq 14, 3) := by decide +kernel
theorem dX9_stepOf_43 : decode cX9_stepOf 43 = .ok (.iload_n 1, 1) := by decide +kernel
theorem dX9_stepOf_44 : decode cX9_stepOf 44 = .ok (.invokestatic 178, 3) := by decide +kernel
theorem dX9_stepOf_47 : decode cX9_stepOf 47 = .ok (.ifCond .eq 7, 3) := by decide +kernel
theorem dX9_stepOf_50 : decode cX9_stepOf 50 = .ok (.iconst 3, 1) := by decide +kernel
theorem dX9_stepOf_51 : decode cX9_stepOf 51 = .ok (.goto 4, 3) := by decide +kernel
theorem dX9_stepOf_54 : decode cX9_stepOf 54 = .ok (.iconst (-1), 1) := by decide +kernel
theorem dX9_stepOf_55 : decode cX9_stepOf 55 = .ok (.ireturn, 1) := by decide +kernel
theorem dX9_stepOf_56 : decode cX9_stepOf 56 = .ok (.iload_n 1, 1) := by decide +kernel
theorem dX9_stepOf_57 : decode cX9_stepOf 57 = .ok (.invokestatic 181, 3) := by decide +kernel
theorem dX9_stepOf_60 : decode cX9_stepOf 60 = .ok (.ifCond .eq 7, 3) := by decide +kernel
theorem dX9_stepOf_63 : decode cX9_stepOf 63 = .ok (.iconst 2, 1) := by decide +kernel
theorem dX9_stepOf_64 : decode cX9_stepOf 64 = .ok (.goto 4, 3) := by decide +kernel
theorem dX9_stepOf_67 : decode cX9_stepOf 67 = .ok (.iconst (-1), 1) := by decide +kernel
theorem dX9_stepOf_68 : decode cX9_stepOf 68 = .ok (.ireturn, 1) := by decide +kernel
theorem dX9_stepOf_69 : decode cX9_stepOf 69 = .ok (.iload_n 1, 1) := by decide +kernel
theorem dX9_stepOf_70 : decode cX9_stepOf 70 = .ok (.invokestatic 175, 3) := by decide +kernel
theorem dX9_stepOf_73 : decode cX9_stepOf 73 = .ok (.ifCond .eq 7, 3) := by decide +kernel
theorem dX9_stepOf_76 : decode cX9_stepOf 76 = .ok (.iconst 3, 1) := by decide +kernel
theorem dX9_stepOf_77 : decode cX9_stepOf 77 = .ok (.goto 4, 3) := by decide +kernel
theorem dX9_stepOf_80 : decode cX9_stepOf 80 = .ok (.iconst (-1), 1) := by decide +kernel
theorem dX9_stepOf_81 : decode cX9_stepOf 81 = .ok (.ireturn, 1) := by decide +kernel
theorem dX9_stepOf_82 : decode cX9_stepOf 82 = .ok (.iload_n 1, 1) := by decide +kernel
theorem dX9_stepOf_83 : decode cX9_stepOf 83 = .ok (.bipush 38, 2) := by decide +kernel
theorem dX9_stepOf_85 : decode cX9_stepOf 85 = .ok (.if_icmp .eq 13, 3) := by decide +kernel
theorem dX9_stepOf_88 : decode cX9_stepOf 88 = .ok (.iload_n 1, 1) := by decide +kernel
theorem dX9_stepOf_89 : decode cX9_stepOf 89 = .ok (.bipush 58, 2) := by decide +kernel
theorem dX9_stepOf_91 : decode cX9_stepOf 91 = .ok (.if_icmp .ne 11, 3) := by decide +kernel
theorem dX9_stepOf_94 : decode cX9_stepOf 94 = .ok (.iload_n 2, 1) := by decide +kernel
theorem dX9_stepOf_95 : decode cX9_stepOf 95 = .ok (.ifCond .ne 7, 3) := by decide +kernel
theorem dX9_stepOf_98 : decode cX9_stepOf 98 = .ok (.iconst 0, 1) := by decide +kernel
theorem dX9_stepOf_99 : decode cX9_stepOf 99 = .ok (.goto 4, 3) := by decide +kernel
theorem dX9_stepOf_102 : decode cX9_stepOf 102 = .ok (.iconst (-1), 1) := by decide +kernel
theorem dX9_stepOf_103 : decode cX9_stepOf 103 = .ok (.ireturn, 1) := by decide +kernel
theorem dX9_fault_0 : decode cX9_fault 0 = .ok (.iconst 0, 1) := by decide +kernel
theorem dX9_fault_1 : decode cX9_fault 1 = .ok (.istore_n 1, 1) := by decide +kernel
theorem dX9_fault_2 : decode cX9_fault 2 = .ok (.iconst 0, 1) := by decide +kernel
theorem dX9_fault_3 : decode cX9_fault 3 = .ok (.istore_n 2, 1) := by decide +kernel
theorem dX9_fault_4 : decode cX9_fault 4 = .ok (.iconst 0, 1) := by decide +kernel
theorem dX9_fault_5 : decode cX9_fault 5 = .ok (.istore_n 3, 1) := by decide +kernel
theorem dX9_fault_6 : decode cX9_fault 6 = .ok (.iload_n 3, 1) := by decide +kernel
theorem dX9_fault_7 : decode cX9_fault 7 = .ok (.aload_n 0, 1) := by decide +kernel
theorem dX9_fault_8 : decode cX9_fault 8 = .ok (.getfield 53, 3) := by decide +kernel
theorem dX9_fault_11 : decode cX9_fault 11 = .ok (.bipush 6, 2) := by decide +kernel
theorem dX9_fault_13 : decode cX9_fault 13 = .ok (.iaload, 1) := by decide +kernel
theorem dX9_fault_14 : decode cX9_fault 14 = .ok (.if_icmp .ge 52, 3) := by decide +kernel
theorem dX9_fault_17 : decode cX9_fault 17 = .ok (.aload_n 0, 1) := by decide +kernel
theorem dX9_fault_18 : decode cX9_fault 18 = .ok (.getfield 50, 3) := by decide +kernel
theorem dX9_fault_21 : decode cX9_fault 21 = .ok (.sipush 240, 3) := by decide +kernel
theorem dX9_fault_24 : decode cX9_fault 24 = .ok (.iload_n 3, 1) := by decide +kernel
theorem dX9_fault_25 : decode cX9_fault 25 = .ok (.iadd, 1) := by decide +kernel
theorem dX9_fault_26 : decode cX9_fault 26 = .ok (.iaload, 1) := by decide +kernel
theorem dX9_fault_27 : decode cX9_fault 27 = .ok (.istore 4, 2) := by decide +kernel
theorem dX9_fault_29 : decode cX9_fault 29 = .ok (.iload_n 1, 1) := by decide +kernel
theorem dX9_fault_30 : decode cX9_fault 30 = .ok (.iload 4, 2) := by decide +kernel
theorem dX9_fault_32 : decode cX9_fault 32 = .ok (.iload_n 2, 1) := by decide +kernel
theorem dX9_fault_33 : decode cX9_fault 33 = .ok (.invokestatic 184, 3) := by decide +kernel
theorem dX9_fault_36 : decode cX9_fault 36 = .ok (.istore_n 1, 1) := by decide +kernel
theorem dX9_fault_37 : decode cX9_fault 37 = .ok (.iload_n 1, 1) := by decide +kernel
theorem dX9_fault_38 : decode cX9_fault 38 = .ok (.ifCond .ge 5, 3) := by decide +kernel
theorem dX9_fault_41 : decode cX9_fault 41 = .ok (.iload_n 3, 1) := by decide +kernel
theorem dX9_fault_42 : decode cX9_fault 42 = .ok (.ireturn, 1) := by decide +kernel
theorem dX9_fault_43 : decode cX9_fault 43 = .ok (.iload_n 2, 1) := by decide +kernel
theorem dX9_fault_44 : decode cX9_fault 44 = .ok (.ifCond .ne 10, 3) := by decide +kernel
theorem dX9_fault_47 : decode cX9_fault 47 = .ok (.iload 4, 2) := by decide +kernel
theorem dX9_fault_49 : decode cX9_fault 49 = .ok (.bipush 58, 2) := by decide +kernel
theorem dX9_fault_51 : decode cX9_fault 51 = .ok (.if_icmp .ne 7, 3) := by decide +kernel
theorem dX9_fault_54 : decode cX9_fault 54 = .ok (.iconst 1, 1) := by decide +kernel
theorem dX9_fault_55 : decode cX9_fault 55 = .ok (.goto 4, 3) := by decide +kernel
theorem dX9_fault_58 : decode cX9_fault 58 = .ok (.iconst 0, 1) := by decide +kernel
theorem dX9_fault_59 : decode cX9_fault 59 = .ok (.istore_n 2, 1) := by decide +kernel
theorem dX9_fault_60 : decode cX9_fault 60 = .ok (.iinc 3 1, 3) := by decide +kernel
theorem dX9_fault_63 : decode cX9_fault 63 = .ok (.goto (-57), 3) := by decide +kernel
theorem dX9_fault_66 : decode cX9_fault 66 = .ok (.iload_n 2, 1) := by decide +kernel
theorem dX9_fault_67 : decode cX9_fault 67 = .ok (.ifCond .eq 13, 3) := by decide +kernel
theorem dX9_fault_70 : decode cX9_fault 70 = .ok (.iload_n 1, 1) := by decide +kernel
theorem dX9_fault_71 : decode cX9_fault 71 = .ok (.iconst 3, 1) := by decide +kernel
theorem dX9_fault_72 : decode cX9_fault 72 = .ok (.if_icmp .ne 8, 3) := by decide +kernel
theorem dX9_fault_75 : decode cX9_fault 75 = .ok (.bipush (-6), 2) := by decide +kernel
theorem dX9_fault_77 : decode cX9_fault 77 = .ok (.goto 10, 3) := by decide +kernel
theorem dX9_fault_80 : decode cX9_fault 80 = .ok (.aload_n 0, 1) := by decide +kernel
theorem dX9_fault_81 : decode cX9_fault 81 = .ok (.getfield 53, 3) := by decide +kernel
theorem dX9_fault_84 : decode cX9_fault 84 = .ok (.bipush 6, 2) := by decide +kernel
theorem dX9_fault_86 : decode cX9_fault 86 = .ok (.iaload, 1) := by decide +kernel
theorem dX9_fault_87 : decode cX9_fault 87 = .ok (.ireturn, 1) := by decide +kernel
theorem dX9_saying_0 : decode cX9_saying 0 = .ok (.aload_n 0, 1) := by decide +kernel
theorem dX9_saying_1 : decode cX9_saying 1 = .ok (.getfield 188, 3) := by decide +kernel
theorem dX9_saying_4 : decode cX9_saying 4 = .ok (.bipush 6, 2) := by decide +kernel
theorem dX9_saying_6 : decode cX9_saying 6 = .ok (.if_icmp .ne 6, 3) := by decide +kernel
theorem dX9_saying_9 : decode cX9_saying 9 = .ok (.bipush (-4), 2) := by decide +kernel
theorem dX9_saying_11 : decode cX9_saying 11 = .ok (.ireturn, 1) := by decide +kernel
theorem dX9_saying_12 : decode cX9_saying 12 = .ok (.aload_n 0, 1) := by decide +kernel
theorem dX9_saying_13 : decode cX9_saying 13 = .ok (.invokevirtual 191, 3) := by decide +kernel
theorem dX9_saying_16 : decode cX9_saying 16 = .ok (.ifCond .lt 6, 3) := by decide +kernel
theorem dX9_saying_19 : decode cX9_saying 19 = .ok (.bipush (-5), 2) := by decide +kernel
theorem dX9_saying_21 : decode cX9_saying 21 = .ok (.ireturn, 1) := by decide +kernel
theorem dX9_saying_22 : decode cX9_saying 22 = .ok (.iconst 0, 1) := by decide +kernel
theorem dX9_saying_23 : decode cX9_saying 23 = .ok (.istore_n 1, 1) := by decide +kernel
theorem dX9_saying_24 : decode cX9_saying 24 = .ok (.iload_n 1, 1) := by decide +kernel
theorem dX9_saying_25 : decode cX9_saying 25 = .ok (.aload_n 0, 1) := by decide +kernel
theorem dX9_saying_26 : decode cX9_saying 26 = .ok (.getfield 53, 3) := by decide +kernel
theorem dX9_saying_29 : decode cX9_saying 29 = .ok (.bipush 6, 2) := by decide +kernel
theorem dX9_saying_31 : decode cX9_saying 31 = .ok (.iaload, 1) := by decide +kernel
theorem dX9_saying_32 : decode cX9_saying 32 = .ok (.if_icmp .ge 33, 3) := by decide +kernel
theorem dX9_saying_35 : decode cX9_saying 35 = .ok (.aload_n 0, 1) := by decide +kernel
theorem dX9_saying_36 : decode cX9_saying 36 = .ok (.getfield 50, 3) := by decide +kernel
theorem dX9_saying_39 : decode cX9_saying 39 = .ok (.bipush 40, 2) := by decide +kernel
theorem dX9_saying_41 : decode cX9_saying 41 = .ok (.aload_n 0, 1) := by decide +kernel
end
section
theorem dX9_saying_42 : decode cX9_saying 42 = .ok (.getfield 188, 3) := by decide +kernel
theorem dX9_saying_45 : decode cX9_saying 45 = .ok (.imul, 1) := by decide +kernel
theorem dX9_saying_46 : decode cX9_saying 46 = .ok (.iload_n 1, 1) := by decide +kernel
theorem dX9_saying_47 : decode cX9_saying 47 = .ok (.iadd, 1) := by decide +kernel
theorem dX9_saying_48 : decode cX9_saying 48 = .ok (.aload_n 0, 1) := by decide +kernel
theorem dX9_saying_49 : decode cX9_saying 49 = .ok (.getfield 50, 3) := by decide +kernel
theorem dX9_saying_52 : decode cX9_saying 52 = .ok (.sipush 240, 3) := by decide +kernel
theorem dX9_saying_55 : decode cX9_saying 55 = .ok (.iload_n 1, 1) := by decide +kernel
theorem dX9_saying_56 : decode cX9_saying 56 = .ok (.iadd, 1) := by decide +kernel
theorem dX9_saying_57 : decode cX9_saying 57 = .ok (.iaload, 1) := by decide +kernel
theorem dX9_saying_58 : decode cX9_saying 58 = .ok (.iastore, 1) := by decide +kernel
theorem dX9_saying_59 : decode cX9_saying 59 = .ok (.iinc 1 1, 3) := by decide +kernel
theorem dX9_saying_62 : decode cX9_saying 62 = .ok (.goto (-38), 3) := by decide +kernel
theorem dX9_saying_65 : decode cX9_saying 65 = .ok (.aload_n 0, 1) := by decide +kernel
theorem dX9_saying_66 : decode cX9_saying 66 = .ok (.getfield 53, 3) := by decide +kernel
theorem dX9_saying_69 : decode cX9_saying 69 = .ok (.aload_n 0, 1) := by decide +kernel
theorem dX9_saying_70 : decode cX9_saying 70 = .ok (.getfield 188, 3) := by decide +kernel
theorem dX9_saying_73 : decode cX9_saying 73 = .ok (.aload_n 0, 1) := by decide +kernel
theorem dX9_saying_74 : decode cX9_saying 74 = .ok (.getfield 53, 3) := by decide +kernel
theorem dX9_saying_77 : decode cX9_saying 77 = .ok (.bipush 6, 2) := by decide +kernel
theorem dX9_saying_79 : decode cX9_saying 79 = .ok (.iaload, 1) := by decide +kernel
theorem dX9_saying_80 : decode cX9_saying 80 = .ok (.iastore, 1) := by decide +kernel
theorem dX9_saying_81 : decode cX9_saying 81 = .ok (.aload_n 0, 1) := by decide +kernel
theorem dX9_saying_82 : decode cX9_saying 82 = .ok (.getfield 53, 3) := by decide +kernel
theorem dX9_saying_85 : decode cX9_saying 85 = .ok (.bipush 6, 2) := by decide +kernel
theorem dX9_saying_87 : decode cX9_saying 87 = .ok (.iconst 0, 1) := by decide +kernel
theorem dX9_saying_88 : decode cX9_saying 88 = .ok (.iastore, 1) := by decide +kernel
theorem dX9_saying_89 : decode cX9_saying 89 = .ok (.aload_n 0, 1) := by decide +kernel
theorem dX9_saying_90 : decode cX9_saying 90 = .ok (.dup, 1) := by decide +kernel
theorem dX9_saying_91 : decode cX9_saying 91 = .ok (.getfield 188, 3) := by decide +kernel
theorem dX9_saying_94 : decode cX9_saying 94 = .ok (.iconst 1, 1) := by decide +kernel
theorem dX9_saying_95 : decode cX9_saying 95 = .ok (.iadd, 1) := by decide +kernel
theorem dX9_saying_96 : decode cX9_saying 96 = .ok (.putfield 188, 3) := by decide +kernel
theorem dX9_saying_99 : decode cX9_saying 99 = .ok (.aload_n 0, 1) := by decide +kernel
theorem dX9_saying_100 : decode cX9_saying 100 = .ok (.getfield 188, 3) := by decide +kernel
theorem dX9_saying_103 : decode cX9_saying 103 = .ok (.iconst 1, 1) := by decide +kernel
theorem dX9_saying_104 : decode cX9_saying 104 = .ok (.isub, 1) := by decide +kernel
theorem dX9_saying_105 : decode cX9_saying 105 = .ok (.ireturn, 1) := by decide +kernel
theorem dX9_isSaying_0 : decode cX9_isSaying 0 = .ok (.iload_n 1, 1) := by decide +kernel
theorem dX9_isSaying_1 : decode cX9_isSaying 1 = .ok (.i2l, 1) := by decide +kernel
theorem dX9_isSaying_2 : decode cX9_isSaying 2 = .ok (.lconst 0, 1) := by decide +kernel
theorem dX9_isSaying_3 : decode cX9_isSaying 3 = .ok (.aload_n 0, 1) := by decide +kernel
theorem dX9_isSaying_4 : decode cX9_isSaying 4 = .ok (.getfield 188, 3) := by decide +kernel
theorem dX9_isSaying_7 : decode cX9_isSaying 7 = .ok (.iconst 1, 1) := by decide +kernel
theorem dX9_isSaying_8 : decode cX9_isSaying 8 = .ok (.isub, 1) := by decide +kernel
theorem dX9_isSaying_9 : decode cX9_isSaying 9 = .ok (.i2l, 1) := by decide +kernel
theorem dX9_isSaying_10 : decode cX9_isSaying 10 = .ok (.invokestatic 101, 3) := by decide +kernel
theorem dX9_isSaying_13 : decode cX9_isSaying 13 = .ok (.ireturn, 1) := by decide +kernel
theorem dX9_stand_0 : decode cX9_stand 0 = .ok (.iload_n 0, 1) := by decide +kernel
theorem dX9_stand_1 : decode cX9_stand 1 = .ok (.bipush 61, 2) := by decide +kernel
theorem dX9_stand_3 : decode cX9_stand 3 = .ok (.if_icmp .ne 16, 3) := by decide +kernel
theorem dX9_stand_6 : decode cX9_stand 6 = .ok (.iload_n 1, 1) := by decide +kernel
theorem dX9_stand_7 : decode cX9_stand 7 = .ok (.iload_n 2, 1) := by decide +kernel
theorem dX9_stand_8 : decode cX9_stand 8 = .ok (.if_icmp .ne 7, 3) := by decide +kernel
theorem dX9_stand_11 : decode cX9_stand 11 = .ok (.iconst 1, 1) := by decide +kernel
theorem dX9_stand_12 : decode cX9_stand 12 = .ok (.goto 55, 3) := by decide +kernel
theorem dX9_stand_15 : decode cX9_stand 15 = .ok (.iconst 0, 1) := by decide +kernel
theorem dX9_stand_16 : decode cX9_stand 16 = .ok (.goto 51, 3) := by decide +kernel
theorem dX9_stand_19 : decode cX9_stand 19 = .ok (.iload_n 0, 1) := by decide +kernel
theorem dX9_stand_20 : decode cX9_stand 20 = .ok (.bipush 60, 2) := by decide +kernel
theorem dX9_stand_22 : decode cX9_stand 22 = .ok (.if_icmp .ne 16, 3) := by decide +kernel
theorem dX9_stand_25 : decode cX9_stand 25 = .ok (.iload_n 1, 1) := by decide +kernel
theorem dX9_stand_26 : decode cX9_stand 26 = .ok (.iload_n 2, 1) := by decide +kernel
theorem dX9_stand_27 : decode cX9_stand 27 = .ok (.if_icmp .ge 7, 3) := by decide +kernel
theorem dX9_stand_30 : decode cX9_stand 30 = .ok (.iconst 1, 1) := by decide +kernel
theorem dX9_stand_31 : decode cX9_stand 31 = .ok (.goto 36, 3) := by decide +kernel
theorem dX9_stand_34 : decode cX9_stand 34 = .ok (.iconst 0, 1) := by decide +kernel
theorem dX9_stand_35 : decode cX9_stand 35 = .ok (.goto 32, 3) := by decide +kernel
theorem dX9_stand_38 : decode cX9_stand 38 = .ok (.iload_n 0, 1) := by decide +kernel
theorem dX9_stand_39 : decode cX9_stand 39 = .ok (.bipush 62, 2) := by decide +kernel
theorem dX9_stand_41 : decode cX9_stand 41 = .ok (.if_icmp .ne 16, 3) := by decide +kernel
theorem dX9_stand_44 : decode cX9_stand 44 = .ok (.iload_n 1, 1) := by decide +kernel
theorem dX9_stand_45 : decode cX9_stand 45 = .ok (.iload_n 2, 1) := by decide +kernel
theorem dX9_stand_46 : decode cX9_stand 46 = .ok (.if_icmp .le 7, 3) := by decide +kernel
theorem dX9_stand_49 : decode cX9_stand 49 = .ok (.iconst 1, 1) := by decide +kernel
theorem dX9_stand_50 : decode cX9_stand 50 = .ok (.goto 17, 3) := by decide +kernel
theorem dX9_stand_53 : decode cX9_stand 53 = .ok (.iconst 0, 1) := by decide +kernel
theorem dX9_stand_54 : decode cX9_stand 54 = .ok (.goto 13, 3) := by decide +kernel
theorem dX9_stand_57 : decode cX9_stand 57 = .ok (.iload_n 1, 1) := by decide +kernel
theorem dX9_stand_58 : decode cX9_stand 58 = .ok (.iload_n 2, 1) := by decide +kernel
theorem dX9_stand_59 : decode cX9_stand 59 = .ok (.if_icmp .eq 7, 3) := by decide +kernel
theorem dX9_stand_62 : decode cX9_stand 62 = .ok (.iconst 1, 1) := by decide +kernel
theorem dX9_stand_63 : decode cX9_stand 63 = .ok (.goto 4, 3) := by decide +kernel
theorem dX9_stand_66 : decode cX9_stand 66 = .ok (.iconst 0, 1) := by decide +kernel
theorem dX9_stand_67 : decode cX9_stand 67 = .ok (.ireturn, 1) := by decide +kernel
theorem dX9_markOf_0 : decode cX9_markOf 0 = .ok (.bipush 40, 2) := by decide +kernel
theorem dX9_markOf_2 : decode cX9_markOf 2 = .ok (.iload_n 1, 1) := by decide +kernel
theorem dX9_markOf_3 : decode cX9_markOf 3 = .ok (.imul, 1) := by decide +kernel
theorem dX9_markOf_4 : decode cX9_markOf 4 = .ok (.istore_n 2, 1) := by decide +kernel
theorem dX9_markOf_5 : decode cX9_markOf 5 = .ok (.aload_n 0, 1) := by decide +kernel
theorem dX9_markOf_6 : decode cX9_markOf 6 = .ok (.getfield 50, 3) := by decide +kernel
theorem dX9_markOf_9 : decode cX9_markOf 9 = .ok (.iload_n 2, 1) := by decide +kernel
theorem dX9_markOf_10 : decode cX9_markOf 10 = .ok (.iaload, 1) := by decide +kernel
theorem dX9_markOf_11 : decode cX9_markOf 11 = .ok (.bipush 58, 2) := by decide +kernel
theorem dX9_markOf_13 : decode cX9_markOf 13 = .ok (.if_icmp .eq 9, 3) := by decide +kernel
theorem dX9_markOf_16 : decode cX9_markOf 16 = .ok (.iinc 2 1, 3) := by decide +kernel
theorem dX9_markOf_19 : decode cX9_markOf 19 = .ok (.goto (-14), 3) := by decide +kernel
theorem dX9_markOf_22 : decode cX9_markOf 22 = .ok (.iload_n 2, 1) := by decide +kernel
theorem dX9_markOf_23 : decode cX9_markOf 23 = .ok (.iconst 1, 1) := by decide +kernel
theorem dX9_markOf_24 : decode cX9_markOf 24 = .ok (.iadd, 1) := by decide +kernel
theorem dX9_markOf_25 : decode cX9_markOf 25 = .ok (.ireturn, 1) := by decide +kernel
theorem dX9_allStand_0 : decode cX9_allStand 0 = .ok (.iconst 1, 1) := by decide +kernel
theorem dX9_allStand_1 : decode cX9_allStand 1 = .ok (.istore 5, 2) := by decide +kernel
theorem dX9_allStand_3 : decode cX9_allStand 3 = .ok (.iload_n 1, 1) := by decide +kernel
theorem dX9_allStand_4 : decode cX9_allStand 4 = .ok (.istore 6, 2) := by decide +kernel
theorem dX9_allStand_6 : decode cX9_allStand 6 = .ok (.iload 6, 2) := by decide +kernel
theorem dX9_allStand_8 : decode cX9_allStand 8 = .ok (.iload_n 2, 1) := by decide +kernel
theorem dX9_allStand_9 : decode cX9_allStand 9 = .ok (.if_icmp .ge 78, 3) := by decide +kernel
theorem dX9_allStand_12 : decode cX9_allStand 12 = .ok (.iload 5, 2) := by decide +kernel
theorem dX9_allStand_14 : decode cX9_allStand 14 = .ok (.ifCond .eq 73, 3) := by decide +kernel
theorem dX9_allStand_17 : decode cX9_allStand 17 = .ok (.aload_n 0, 1) := by decide +kernel
theorem dX9_allStand_18 : decode cX9_allStand 18 = .ok (.getfield 50, 3) := by decide +kernel
theorem dX9_allStand_21 : decode cX9_allStand 21 = .ok (.iload 6, 2) := by decide +kernel
theorem dX9_allStand_23 : decode cX9_allStand 23 = .ok (.iaload, 1) := by decide +kernel
theorem dX9_allStand_24 : decode cX9_allStand 24 = .ok (.invokestatic 175, 3) := by decide +kernel
theorem dX9_allStand_27 : decode cX9_allStand 27 = .ok (.ifCond .eq 54, 3) := by decide +kernel
theorem dX9_allStand_30 : decode cX9_allStand 30 = .ok (.aload_n 0, 1) := by decide +kernel
theorem dX9_allStand_31 : decode cX9_allStand 31 = .ok (.getfield 50, 3) := by decide +kernel
theorem dX9_allStand_34 : decode cX9_allStand 34 = .ok (.iload 6, 2) := by decide +kernel
theorem dX9_allStand_36 : decode cX9_allStand 36 = .ok (.iconst 1, 1) := by decide +kernel
theorem dX9_allStand_37 : decode cX9_allStand 37 = .ok (.iadd, 1) := by decide +kernel
theorem dX9_allStand_38 : decode cX9_allStand 38 = .ok (.iaload, 1) := by decide +kernel
theorem dX9_allStand_39 : decode cX9_allStand 39 = .ok (.iload_n 3, 1) := by decide +kernel
theorem dX9_allStand_40 : decode cX9_allStand 40 = .ok (.aload_n 0, 1) := by decide +kernel
theorem dX9_allStand_41 : decode cX9_allStand 41 = .ok (.getfield 50, 3) := by decide +kernel
theorem dX9_allStand_44 : decode cX9_allStand 44 = .ok (.iload 6, 2) := by decide +kernel
theorem dX9_allStand_46 : decode cX9_allStand 46 = .ok (.iaload, 1) := by decide +kernel
theorem dX9_allStand_47 : decode cX9_allStand 47 = .ok (.bipush 97, 2) := by decide +kernel
theorem dX9_allStand_49 : decode cX9_allStand 49 = .ok (.isub, 1) := by decide +kernel
theorem dX9_allStand_50 : decode cX9_allStand 50 = .ok (.invokestatic 128, 3) := by decide +kernel
theorem dX9_allStand_53 : decode cX9_allStand 53 = .ok (.iload 4, 2) := by decide +kernel
theorem dX9_allStand_55 : decode cX9_allStand 55 = .ok (.aload_n 0, 1) := by decide +kernel
theorem dX9_allStand_56 : decode cX9_allStand 56 = .ok (.getfield 50, 3) := by decide +kernel
theorem dX9_allStand_59 : decode cX9_allStand 59 = .ok (.iload 6, 2) := by decide +kernel
theorem dX9_allStand_61 : decode cX9_allStand 61 = .ok (.iconst 2, 1) := by decide +kernel
theorem dX9_allStand_62 : decode cX9_allStand 62 = .ok (.iadd, 1) := by decide +kernel
theorem dX9_allStand_63 : decode cX9_allStand 63 = .ok (.iaload, 1) := by decide +kernel
theorem dX9_allStand_64 : decode cX9_allStand 64 = .ok (.bipush 97, 2) := by decide +kernel
theorem dX9_allStand_66 : decode cX9_allStand 66 = .ok (.isub, 1) := by decide +kernel
theorem dX9_allStand_67 : decode cX9_allStand 67 = .ok (.invokestatic 128, 3) := by decide +kernel
theorem dX9_allStand_70 : decode cX9_allStand 70 = .ok (.invokestatic 195, 3) := by decide +kernel
theorem dX9_allStand_73 : decode cX9_allStand 73 = .ok (.istore 5, 2) := by decide +kernel
theorem dX9_allStand_75 : decode cX9_allStand 75 = .ok (.iinc 6 4, 3) := by decide +kernel
theorem dX9_allStand_78 : decode cX9_allStand 78 = .ok (.goto (-72), 3) := by decide +kernel
theorem dX9_allStand_81 : decode cX9_allStand 81 = .ok (.iinc 6 2, 3) := by decide +kernel
theorem dX9_allStand_84 : decode cX9_allStand 84 = .ok (.goto (-78), 3) := by decide +kernel
theorem dX9_allStand_87 : decode cX9_allStand 87 = .ok (.iload 5, 2) := by decide +kernel
theorem dX9_allStand_89 : decode cX9_allStand 89 = .ok (.ireturn, 1) := by decide +kernel
theorem dX9_isMeant_0 : decode cX9_isMeant 0 = .ok (.aload_n 0, 1) := by decide +kernel
theorem dX9_isMeant_1 : decode cX9_isMeant 1 = .ok (.bipush 40, 2) := by decide +kernel
theorem dX9_isMeant_3 : decode cX9_isMeant 3 = .ok (.iload_n 1, 1) := by decide +kernel
theorem dX9_isMeant_4 : decode cX9_isMeant 4 = .ok (.imul, 1) := by decide +kernel
theorem dX9_isMeant_5 : decode cX9_isMeant 5 = .ok (.aload_n 0, 1) := by decide +kernel
theorem dX9_isMeant_6 : decode cX9_isMeant 6 = .ok (.iload_n 1, 1) := by decide +kernel
theorem dX9_isMeant_7 : decode cX9_isMeant 7 = .ok (.invokevirtual 199, 3) := by decide +kernel
theorem dX9_isMeant_10 : decode cX9_isMeant 10 = .ok (.iconst 1, 1) := by decide +kernel
theorem dX9_isMeant_11 : decode cX9_isMeant 11 = .ok (.isub, 1) := by decide +kernel
theorem dX9_isMeant_12 : decode cX9_isMeant 12 = .ok (.iload_n 2, 1) := by decide +kernel
theorem dX9_isMeant_13 : decode cX9_isMeant 13 = .ok (.iload_n 3, 1) := by decide +kernel
theorem dX9_isMeant_14 : decode cX9_isMeant 14 = .ok (.invokevirtual 203, 3) := by decide +kernel
theorem dX9_isMeant_17 : decode cX9_isMeant 17 = .ok (.ireturn, 1) := by decide +kernel
theorem dX9_isAsSaid_0 : decode cX9_isAsSaid 0 = .ok (.aload_n 0, 1) := by decide +kernel
theorem dX9_isAsSaid_1 : decode cX9_isAsSaid 1 = .ok (.iload_n 1, 1) := by decide +kernel
theorem dX9_isAsSaid_2 : decode cX9_isAsSaid 2 = .ok (.invokevirtual 199, 3) := by decide +kernel
theorem dX9_isAsSaid_5 : decode cX9_isAsSaid 5 = .ok (.istore 4, 2) := by decide +kernel
theorem dX9_isAsSaid_7 : decode cX9_isAsSaid 7 = .ok (.bipush 40, 2) := by decide +kernel
theorem dX9_isAsSaid_9 : decode cX9_isAsSaid 9 = .ok (.iload_n 1, 1) := by decide +kernel
theorem dX9_isAsSaid_10 : decode cX9_isAsSaid 10 = .ok (.imul, 1) := by decide +kernel
theorem dX9_isAsSaid_11 : decode cX9_isAsSaid 11 = .ok (.aload_n 0, 1) := by decide +kernel
theorem dX9_isAsSaid_12 : decode cX9_isAsSaid 12 = .ok (.getfield 53, 3) := by decide +kernel
theorem dX9_isAsSaid_15 : decode cX9_isAsSaid 15 = .ok (.iload_n 1, 1) := by decide +kernel
theorem dX9_isAsSaid_16 : decode cX9_isAsSaid 16 = .ok (.iaload, 1) := by decide +kernel
theorem dX9_isAsSaid_17 : decode cX9_isAsSaid 17 = .ok (.iadd, 1) := by decide +kernel
theorem dX9_isAsSaid_18 : decode cX9_isAsSaid 18 = .ok (.istore 5, 2) := by decide +kernel
theorem dX9_isAsSaid_20 : decode cX9_isAsSaid 20 = .ok (.aload_n 0, 1) := by decide +kernel
theorem dX9_isAsSaid_21 : decode cX9_isAsSaid 21 = .ok (.iload 4, 2) := by decide +kernel
theorem dX9_isAsSaid_23 : decode cX9_isAsSaid 23 = .ok (.iload 5, 2) := by decide +kernel
theorem dX9_isAsSaid_25 : decode cX9_isAsSaid 25 = .ok (.aload_n 0, 1) := by decide +kernel
theorem dX9_isAsSaid_26 : decode cX9_isAsSaid 26 = .ok (.getfield 38, 3) := by decide +kernel
theorem dX9_isAsSaid_29 : decode cX9_isAsSaid 29 = .ok (.iload_n 2, 1) := by decide +kernel
theorem dX9_isAsSaid_30 : decode cX9_isAsSaid 30 = .ok (.iaload, 1) := by decide +kernel
theorem dX9_isAsSaid_31 : decode cX9_isAsSaid 31 = .ok (.aload_n 0, 1) := by decide +kernel
theorem dX9_isAsSaid_32 : decode cX9_isAsSaid 32 = .ok (.getfield 38, 3) := by decide +kernel
theorem dX9_isAsSaid_35 : decode cX9_isAsSaid 35 = .ok (.iload_n 3, 1) := by decide +kernel
theorem dX9_isAsSaid_36 : decode cX9_isAsSaid 36 = .ok (.iaload, 1) := by decide +kernel
theorem dX9_isAsSaid_37 : decode cX9_isAsSaid 37 = .ok (.invokevirtual 203, 3) := by decide +kernel
theorem dX9_isAsSaid_40 : decode cX9_isAsSaid 40 = .ok (.istore 6, 2) := by decide +kernel
theorem dX9_isAsSaid_42 : decode cX9_isAsSaid 42 = .ok (.iload 4, 2) := by decide +kernel
theorem dX9_isAsSaid_44 : decode cX9_isAsSaid 44 = .ok (.istore 7, 2) := by decide +kernel
theorem dX9_isAsSaid_46 : decode cX9_isAsSaid 46 = .ok (.iload 7, 2) := by decide +kernel
theorem dX9_isAsSaid_48 : decode cX9_isAsSaid 48 = .ok (.iload 5, 2) := by decide +kernel
theorem dX9_isAsSaid_50 : decode cX9_isAsSaid 50 = .ok (.if_icmp .ge 134, 3) := by decide +kernel
theorem dX9_isAsSaid_53 : decode cX9_isAsSaid 53 = .ok (.iload 6, 2) := by decide +kernel
theorem dX9_isAsSaid_55 : decode cX9_isAsSaid 55 = .ok (.ifCond .eq 129, 3) := by decide +kernel
theorem dX9_isAsSaid_58 : decode cX9_isAsSaid 58 = .ok (.aload_n 0, 1) := by decide +kernel
theorem dX9_isAsSaid_59 : decode cX9_isAsSaid 59 = .ok (.getfield 50, 3) := by decide +kernel
theorem dX9_isAsSaid_62 : decode cX9_isAsSaid 62 = .ok (.iload 7, 2) := by decide +kernel
theorem dX9_isAsSaid_64 : decode cX9_isAsSaid 64 = .ok (.iaload, 1) := by decide +kernel
theorem dX9_isAsSaid_65 : decode cX9_isAsSaid 65 = .ok (.istore 8, 2) := by decide +kernel
theorem dX9_isAsSaid_67 : decode cX9_isAsSaid 67 = .ok (.iload 8, 2) := by decide +kernel
theorem dX9_isAsSaid_69 : decode cX9_isAsSaid 69 = .ok (.invokestatic 175, 3) := by decide +kernel
theorem dX9_isAsSaid_72 : decode cX9_isAsSaid 72 = .ok (.ifCond .eq 9, 3) := by decide +kernel
theorem dX9_isAsSaid_75 : decode cX9_isAsSaid 75 = .ok (.iinc 7 4, 3) := by decide +kernel
theorem dX9_isAsSaid_78 : decode cX9_isAsSaid 78 = .ok (.goto 103, 3) := by decide +kernel
theorem dX9_isAsSaid_81 : decode cX9_isAsSaid 81 = .ok (.iload 8, 2) := by decide +kernel
theorem dX9_isAsSaid_83 : decode cX9_isAsSaid 83 = .ok (.bipush 101, 2) := by decide +kernel
theorem dX9_isAsSaid_85 : decode cX9_isAsSaid 85 = .ok (.if_icmp .ne 26, 3) := by decide +kernel
theorem dX9_isAsSaid_88 : decode cX9_isAsSaid 88 = .ok (.aload_n 0, 1) := by decide +kernel
theorem dX9_isAsSaid_89 : decode cX9_isAsSaid 89 = .ok (.getfield 35, 3) := by decide +kernel
theorem dX9_isAsSaid_92 : decode cX9_isAsSaid 92 = .ok (.iload_n 2, 1) := by decide +kernel
theorem dX9_isAsSaid_93 : decode cX9_isAsSaid 93 = .ok (.iaload, 1) := by decide +kernel
theorem dX9_isAsSaid_94 : decode cX9_isAsSaid 94 = .ok (.aload_n 0, 1) := by decide +kernel
theorem dX9_isAsSaid_95 : decode cX9_isAsSaid 95 = .ok (.getfield 35, 3) := by decide +kernel
theorem dX9_isAsSaid_98 : decode cX9_isAsSaid 98 = .ok (.iload_n 3, 1) := by decide +kernel
theorem dX9_isAsSaid_99 : decode cX9_isAsSaid 99 = .ok (.iaload, 1) := by decide +kernel
theorem dX9_isAsSaid_100 : decode cX9_isAsSaid 100 = .ok (.if_icmp .ne 7, 3) := by decide +kernel
theorem dX9_isAsSaid_103 : decode cX9_isAsSaid 103 = .ok (.iconst 1, 1) := by decide +kernel
theorem dX9_isAsSaid_104 : decode cX9_isAsSaid 104 = .ok (.goto 72, 3) := by decide +kernel
theorem dX9_isAsSaid_107 : decode cX9_isAsSaid 107 = .ok (.iconst 0, 1) := by decide +kernel
theorem dX9_isAsSaid_108 : decode cX9_isAsSaid 108 = .ok (.goto 68, 3) := by decide +kernel
theorem dX9_isAsSaid_111 : decode cX9_isAsSaid 111 = .ok (.iload 8, 2) := by decide +kernel
theorem dX9_isAsSaid_113 : decode cX9_isAsSaid 113 = .ok (.bipush 116, 2) := by decide +kernel
theorem dX9_isAsSaid_115 : decode cX9_isAsSaid 115 = .ok (.if_icmp .ne 26, 3) := by decide +kernel
theorem dX9_isAsSaid_118 : decode cX9_isAsSaid 118 = .ok (.aload_n 0, 1) := by decide +kernel
theorem dX9_isAsSaid_119 : decode cX9_isAsSaid 119 = .ok (.getfield 41, 3) := by decide +kernel
theorem dX9_isAsSaid_122 : decode cX9_isAsSaid 122 = .ok (.iload_n 2, 1) := by decide +kernel
theorem dX9_isAsSaid_123 : decode cX9_isAsSaid 123 = .ok (.iaload, 1) := by decide +kernel
theorem dX9_isAsSaid_124 : decode cX9_isAsSaid 124 = .ok (.aload_n 0, 1) := by decide +kernel
theorem dX9_isAsSaid_125 : decode cX9_isAsSaid 125 = .ok (.getfield 41, 3) := by decide +kernel
theorem dX9_isAsSaid_128 : decode cX9_isAsSaid 128 = .ok (.iload_n 3, 1) := by decide +kernel
theorem dX9_isAsSaid_129 : decode cX9_isAsSaid 129 = .ok (.iaload, 1) := by decide +kernel
theorem dX9_isAsSaid_130 : decode cX9_isAsSaid 130 = .ok (.if_icmp .ne 7, 3) := by decide +kernel
theorem dX9_isAsSaid_133 : decode cX9_isAsSaid 133 = .ok (.iconst 1, 1) := by decide +kernel
theorem dX9_isAsSaid_134 : decode cX9_isAsSaid 134 = .ok (.goto 42, 3) := by decide +kernel
theorem dX9_isAsSaid_137 : decode cX9_isAsSaid 137 = .ok (.iconst 0, 1) := by decide +kernel
theorem dX9_isAsSaid_138 : decode cX9_isAsSaid 138 = .ok (.goto 38, 3) := by decide +kernel
theorem dX9_isAsSaid_141 : decode cX9_isAsSaid 141 = .ok (.aload_n 0, 1) := by decide +kernel
theorem dX9_isAsSaid_142 : decode cX9_isAsSaid 142 = .ok (.getfield 44, 3) := by decide +kernel
theorem dX9_isAsSaid_145 : decode cX9_isAsSaid 145 = .ok (.iload_n 2, 1) := by decide +kernel
theorem dX9_isAsSaid_146 : decode cX9_isAsSaid 146 = .ok (.iaload, 1) := by decide +kernel
theorem dX9_isAsSaid_147 : decode cX9_isAsSaid 147 = .ok (.aload_n 0, 1) := by decide +kernel
theorem dX9_isAsSaid_148 : decode cX9_isAsSaid 148 = .ok (.getfield 44, 3) := by decide +kernel
theorem dX9_isAsSaid_151 : decode cX9_isAsSaid 151 = .ok (.iload_n 3, 1) := by decide +kernel
theorem dX9_isAsSaid_152 : decode cX9_isAsSaid 152 = .ok (.iaload, 1) := by decide +kernel
theorem dX9_isAsSaid_153 : decode cX9_isAsSaid 153 = .ok (.if_icmp .ne 22, 3) := by decide +kernel
theorem dX9_isAsSaid_156 : decode cX9_isAsSaid 156 = .ok (.aload_n 0, 1) := by decide +kernel
theorem dX9_isAsSaid_157 : decode cX9_isAsSaid 157 = .ok (.iload_n 2, 1) := by decide +kernel
theorem dX9_isAsSaid_158 : decode cX9_isAsSaid 158 = .ok (.iload_n 3, 1) := by decide +kernel
theorem dX9_isAsSaid_159 : decode cX9_isAsSaid 159 = .ok (.aload_n 0, 1) := by decide +kernel
theorem dX9_isAsSaid_160 : decode cX9_isAsSaid 160 = .ok (.getfield 44, 3) := by decide +kernel
theorem dX9_isAsSaid_163 : decode cX9_isAsSaid 163 = .ok (.iload_n 2, 1) := by decide +kernel
theorem dX9_isAsSaid_164 : decode cX9_isAsSaid 164 = .ok (.iaload, 1) := by decide +kernel
theorem dX9_isAsSaid_165 : decode cX9_isAsSaid 165 = .ok (.invokevirtual 206, 3) := by decide +kernel
theorem dX9_isAsSaid_168 : decode cX9_isAsSaid 168 = .ok (.ifCond .eq 7, 3) := by decide +kernel
theorem dX9_isAsSaid_171 : decode cX9_isAsSaid 171 = .ok (.iconst 1, 1) := by decide +kernel
theorem dX9_isAsSaid_172 : decode cX9_isAsSaid 172 = .ok (.goto 4, 3) := by decide +kernel
theorem dX9_isAsSaid_175 : decode cX9_isAsSaid 175 = .ok (.iconst 0, 1) := by decide +kernel
theorem dX9_isAsSaid_176 : decode cX9_isAsSaid 176 = .ok (.istore 6, 2) := by decide +kernel
theorem dX9_isAsSaid_178 : decode cX9_isAsSaid 178 = .ok (.iinc 7 2, 3) := by decide +kernel
theorem dX9_isAsSaid_181 : decode cX9_isAsSaid 181 = .ok (.goto (-135), 3) := by decide +kernel
theorem dX9_isAsSaid_184 : decode cX9_isAsSaid 184 = .ok (.iload 6, 2) := by decide +kernel
theorem dX9_isAsSaid_186 : decode cX9_isAsSaid 186 = .ok (.ireturn, 1) := by decide +kernel
theorem dX9_pair_0 : decode cX9_pair 0 = .ok (.aload_n 0, 1) := by decide +kernel
theorem dX9_pair_1 : decode cX9_pair 1 = .ok (.iload_n 1, 1) := by decide +kernel
theorem dX9_pair_2 : decode cX9_pair 2 = .ok (.invokevirtual 209, 3) := by decide +kernel
theorem dX9_pair_5 : decode cX9_pair 5 = .ok (.ifCond .eq 18, 3) := by decide +kernel
theorem dX9_pair_8 : decode cX9_pair 8 = .ok (.iload_n 2, 1) := by decide +kernel
theorem dX9_pair_9 : decode cX9_pair 9 = .ok (.invokestatic 111, 3) := by decide +kernel
theorem dX9_pair_12 : decode cX9_pair 12 = .ok (.ifCond .eq 11, 3) := by decide +kernel
theorem dX9_pair_15 : decode cX9_pair 15 = .ok (.iload 4, 2) := by decide +kernel
theorem dX9_pair_17 : decode cX9_pair 17 = .ok (.invokestatic 111, 3) := by decide +kernel
theorem dX9_pair_20 : decode cX9_pair 20 = .ok (.ifCond .ne 5, 3) := by decide +kernel
theorem dX9_pair_23 : decode cX9_pair 23 = .ok (.iconst (-1), 1) := by decide +kernel
theorem dX9_pair_24 : decode cX9_pair 24 = .ok (.ireturn, 1) := by decide +kernel
theorem dX9_pair_25 : decode cX9_pair 25 = .ok (.iload_n 3, 1) := by decide +kernel
theorem dX9_pair_26 : decode cX9_pair 26 = .ok (.invokestatic 162, 3) := by decide +kernel
theorem dX9_pair_29 : decode cX9_pair 29 = .ok (.ifCond .eq 22, 3) := by decide +kernel
theorem dX9_pair_32 : decode cX9_pair 32 = .ok (.iload 5, 2) := by decide +kernel
theorem dX9_pair_34 : decode cX9_pair 34 = .ok (.invokestatic 162, 3) := by decide +kernel
theorem dX9_pair_37 : decode cX9_pair 37 = .ok (.ifCond .eq 14, 3) := by decide +kernel
theorem dX9_pair_40 : decode cX9_pair 40 = .ok (.iload 6, 2) := by decide +kernel
theorem dX9_pair_42 : decode cX9_pair 42 = .ok (.i2l, 1) := by decide +kernel
theorem dX9_pair_43 : decode cX9_pair 43 = .ok (.lconst 0, 1) := by decide +kernel
theorem dX9_pair_44 : decode cX9_pair 44 = .ok (.lconst 1, 1) := by decide +kernel
theorem dX9_pair_45 : decode cX9_pair 45 = .ok (.invokestatic 101, 3) := by decide +kernel
theorem dX9_pair_48 : decode cX9_pair 48 = .ok (.ifCond .ne 6, 3) := by decide +kernel
theorem dX9_pair_51 : decode cX9_pair 51 = .ok (.bipush (-2), 2) := by decide +kernel
theorem dX9_pair_53 : decode cX9_pair 53 = .ok (.ireturn, 1) := by decide +kernel
theorem dX9_pair_54 : decode cX9_pair 54 = .ok (.aload_n 0, 1) := by decide +kernel
theorem dX9_pair_55 : decode cX9_pair 55 = .ok (.iload_n 1, 1) := by decide +kernel
theorem dX9_pair_56 : decode cX9_pair 56 = .ok (.iload_n 3, 1) := by decide +kernel
theorem dX9_pair_57 : decode cX9_pair 57 = .ok (.iload 5, 2) := by decide +kernel
theorem dX9_pair_59 : decode cX9_pair 59 = .ok (.invokevirtual 212, 3) := by decide +kernel
theorem dX9_pair_62 : decode cX9_pair 62 = .ok (.istore 7, 2) := by decide +kernel
theorem dX9_pair_64 : decode cX9_pair 64 = .ok (.iload 6, 2) := by decide +kernel
theorem dX9_pair_66 : decode cX9_pair 66 = .ok (.ifCond .eq 8, 3) := by decide +kernel
theorem dX9_pair_69 : decode cX9_pair 69 = .ok (.iload 7, 2) := by decide +kernel
theorem dX9_pair_71 : decode cX9_pair 71 = .ok (.ifCond .ne 14, 3) := by decide +kernel
theorem dX9_pair_74 : decode cX9_pair 74 = .ok (.iload 7, 2) := by decide +kernel
theorem dX9_pair_76 : decode cX9_pair 76 = .ok (.ifCond .eq 7, 3) := by decide +kernel
theorem dX9_pair_79 : decode cX9_pair 79 = .ok (.iconst 1, 1) := by decide +kernel
theorem dX9_pair_80 : decode cX9_pair 80 = .ok (.goto 4, 3) := by decide +kernel
theorem dX9_pair_83 : decode cX9_pair 83 = .ok (.iconst 0, 1) := by decide +kernel
theorem dX9_pair_84 : decode cX9_pair 84 = .ok (.ireturn, 1) := by decide +kernel
theorem dX9_pair_85 : decode cX9_pair 85 = .ok (.aload_n 0, 1) := by decide +kernel
theorem dX9_pair_86 : decode cX9_pair 86 = .ok (.iload_n 2, 1) := by decide +kernel
theorem dX9_pair_87 : decode cX9_pair 87 = .ok (.iload_n 3, 1) := by decide +kernel
theorem dX9_pair_88 : decode cX9_pair 88 = .ok (.iconst 0, 1) := by decide +kernel
theorem dX9_pair_89 : decode cX9_pair 89 = .ok (.invokevirtual 157, 3) := by decide +kernel
theorem dX9_pair_92 : decode cX9_pair 92 = .ok (.aload_n 0, 1) := by decide +kernel
theorem dX9_pair_93 : decode cX9_pair 93 = .ok (.iload 4, 2) := by decide +kernel
theorem dX9_pair_95 : decode cX9_pair 95 = .ok (.iload 5, 2) := by decide +kernel
theorem dX9_pair_97 : decode cX9_pair 97 = .ok (.iconst 1, 1) := by decide +kernel
theorem dX9_pair_98 : decode cX9_pair 98 = .ok (.invokevirtual 157, 3) := by decide +kernel
theorem dX9_pair_101 : decode cX9_pair 101 = .ok (.aload_n 0, 1) := by decide +kernel
theorem dX9_pair_102 : decode cX9_pair 102 = .ok (.iload_n 1, 1) := by decide +kernel
theorem dX9_pair_103 : decode cX9_pair 103 = .ok (.iconst 0, 1) := by decide +kernel
theorem dX9_pair_104 : decode cX9_pair 104 = .ok (.iconst 1, 1) := by decide +kernel
theorem dX9_pair_105 : decode cX9_pair 105 = .ok (.invokevirtual 215, 3) := by decide +kernel
theorem dX9_pair_108 : decode cX9_pair 108 = .ok (.ifCond .eq 7, 3) := by decide +kernel
theorem dX9_pair_111 : decode cX9_pair 111 = .ok (.iconst 0, 1) := by decide +kernel
theorem dX9_pair_112 : decode cX9_pair 112 = .ok (.goto 4, 3) := by decide +kernel
theorem dX9_pair_115 : decode cX9_pair 115 = .ok (.iconst 1, 1) := by decide +kernel
theorem dX9_pair_116 : decode cX9_pair 116 = .ok (.ireturn, 1) := by decide +kernel
theorem dX9_findPairs_0 : decode cX9_findPairs 0 = .ok (.aload_n 0, 1) := by decide +kernel
theorem dX9_findPairs_1 : decode cX9_findPairs 1 = .ok (.iconst 0, 1) := by decide +kernel
theorem dX9_findPairs_2 : decode cX9_findPairs 2 = .ok (.putfield 218, 3) := by decide +kernel
theorem dX9_findPairs_5 : decode cX9_findPairs 5 = .ok (.aload_n 0, 1) := by decide +kernel
theorem dX9_findPairs_6 : decode cX9_findPairs 6 = .ok (.bipush (-6), 2) := by decide +kernel
theorem dX9_findPairs_8 : decode cX9_findPairs 8 = .ok (.putfield 221, 3) := by decide +kernel
theorem dX9_findPairs_11 : decode cX9_findPairs 11 = .ok (.aload_n 0, 1) := by decide +kernel
theorem dX9_findPairs_12 : decode cX9_findPairs 12 = .ok (.iconst 0, 1) := by decide +kernel
theorem dX9_findPairs_13 : decode cX9_findPairs 13 = .ok (.putfield 224, 3) := by decide +kernel
theorem dX9_findPairs_16 : decode cX9_findPairs 16 = .ok (.aload_n 0, 1) := by decide +kernel
theorem dX9_findPairs_17 : decode cX9_findPairs 17 = .ok (.bipush (-6), 2) := by decide +kernel
theorem dX9_findPairs_19 : decode cX9_findPairs 19 = .ok (.putfield 227, 3) := by decide +kernel
theorem dX9_findPairs_22 : decode cX9_findPairs 22 = .ok (.iconst 0, 1) := by decide +kernel
theorem dX9_findPairs_23 : decode cX9_findPairs 23 = .ok (.istore_n 2, 1) := by decide +kernel
theorem dX9_findPairs_24 : decode cX9_findPairs 24 = .ok (.iload_n 2, 1) := by decide +kernel
theorem dX9_findPairs_25 : decode cX9_findPairs 25 = .ok (.sipush 256, 3) := by decide +kernel
theorem dX9_findPairs_28 : decode cX9_findPairs 28 = .ok (.if_icmp .ge 151, 3) := by decide +kernel
theorem dX9_findPairs_31 : decode cX9_findPairs 31 = .ok (.iconst 0, 1) := by decide +kernel
theorem dX9_findPairs_32 : decode cX9_findPairs 32 = .ok (.istore_n 3, 1) := by decide +kernel
theorem dX9_findPairs_33 : decode cX9_findPairs 33 = .ok (.iconst 0, 1) := by decide +kernel
theorem dX9_findPairs_34 : decode cX9_findPairs 34 = .ok (.istore 4, 2) := by decide +kernel
theorem dX9_findPairs_36 : decode cX9_findPairs 36 = .ok (.iload 4, 2) := by decide +kernel
theorem dX9_findPairs_38 : decode cX9_findPairs 38 = .ok (.sipush 256, 3) := by decide +kernel
theorem dX9_findPairs_41 : decode cX9_findPairs 41 = .ok (.if_icmp .ge 109, 3) := by decide +kernel
theorem dX9_findPairs_44 : decode cX9_findPairs 44 = .ok (.aload_n 0, 1) := by decide +kernel
theorem dX9_findPairs_45 : decode cX9_findPairs 45 = .ok (.iload_n 1, 1) := by decide +kernel
theorem dX9_findPairs_46 : decode cX9_findPairs 46 = .ok (.iload_n 2, 1) := by decide +kernel
theorem dX9_findPairs_47 : decode cX9_findPairs 47 = .ok (.iload 4, 2) := by decide +kernel
theorem dX9_findPairs_49 : decode cX9_findPairs 49 = .ok (.invokevirtual 212, 3) := by decide +kernel
theorem dX9_findPairs_52 : decode cX9_findPairs 52 = .ok (.ifCond .eq 92, 3) := by decide +kernel
theorem dX9_findPairs_55 : decode cX9_findPairs 55 = .ok (.aload_n 0, 1) := by decide +kernel
theorem dX9_findPairs_56 : decode cX9_findPairs 56 = .ok (.iload_n 1, 1) := by decide +kernel
theorem dX9_findPairs_57 : decode cX9_findPairs 57 = .ok (.iload_n 2, 1) := by decide +kernel
theorem dX9_findPairs_58 : decode cX9_findPairs 58 = .ok (.sipush 256, 3) := by decide +kernel
theorem dX9_findPairs_61 : decode cX9_findPairs 61 = .ok (.iload 4, 2) := by decide +kernel
theorem dX9_findPairs_63 : decode cX9_findPairs 63 = .ok (.iadd, 1) := by decide +kernel
theorem dX9_findPairs_64 : decode cX9_findPairs 64 = .ok (.invokevirtual 215, 3) := by decide +kernel
theorem dX9_findPairs_67 : decode cX9_findPairs 67 = .ok (.istore 5, 2) := by decide +kernel
theorem dX9_findPairs_69 : decode cX9_findPairs 69 = .ok (.aload_n 0, 1) := by decide +kernel
theorem dX9_findPairs_70 : decode cX9_findPairs 70 = .ok (.dup, 1) := by decide +kernel
theorem dX9_findPairs_71 : decode cX9_findPairs 71 = .ok (.getfield 224, 3) := by decide +kernel
theorem dX9_findPairs_74 : decode cX9_findPairs 74 = .ok (.iconst 1, 1) := by decide +kernel
theorem dX9_findPairs_75 : decode cX9_findPairs 75 = .ok (.iadd, 1) := by decide +kernel
theorem dX9_findPairs_76 : decode cX9_findPairs 76 = .ok (.putfield 224, 3) := by decide +kernel
theorem dX9_findPairs_79 : decode cX9_findPairs 79 = .ok (.iload_n 3, 1) := by decide +kernel
theorem dX9_findPairs_80 : decode cX9_findPairs 80 = .ok (.ifCond .ne 8, 3) := by decide +kernel
theorem dX9_findPairs_83 : decode cX9_findPairs 83 = .ok (.iload 5, 2) := by decide +kernel
theorem dX9_findPairs_85 : decode cX9_findPairs 85 = .ok (.ifCond .eq 7, 3) := by decide +kernel
theorem dX9_findPairs_88 : decode cX9_findPairs 88 = .ok (.iconst 1, 1) := by decide +kernel
theorem dX9_findPairs_89 : decode cX9_findPairs 89 = .ok (.goto 4, 3) := by decide +kernel
theorem dX9_findPairs_92 : decode cX9_findPairs 92 = .ok (.iconst 0, 1) := by decide +kernel
theorem dX9_findPairs_93 : decode cX9_findPairs 93 = .ok (.istore_n 3, 1) := by decide +kernel
theorem dX9_findPairs_94 : decode cX9_findPairs 94 = .ok (.aload_n 0, 1) := by decide +kernel
theorem dX9_findPairs_95 : decode cX9_findPairs 95 = .ok (.iload 5, 2) := by decide +kernel
theorem dX9_findPairs_97 : decode cX9_findPairs 97 = .ok (.ifCond .ne 21, 3) := by decide +kernel
theorem dX9_findPairs_100 : decode cX9_findPairs 100 = .ok (.aload_n 0, 1) := by decide +kernel
theorem dX9_findPairs_101 : decode cX9_findPairs 101 = .ok (.getfield 218, 3) := by decide +kernel
theorem dX9_findPairs_104 : decode cX9_findPairs 104 = .ok (.ifCond .ne 14, 3) := by decide +kernel
theorem dX9_findPairs_107 : decode cX9_findPairs 107 = .ok (.sipush 256, 3) := by decide +kernel
theorem dX9_findPairs_110 : decode cX9_findPairs 110 = .ok (.iload_n 2, 1) := by decide +kernel
theorem dX9_findPairs_111 : decode cX9_findPairs 111 = .ok (.imul, 1) := by decide +kernel
theorem dX9_findPairs_112 : decode cX9_findPairs 112 = .ok (.iload 4, 2) := by decide +kernel
theorem dX9_findPairs_114 : decode cX9_findPairs 114 = .ok (.iadd, 1) := by decide +kernel
theorem dX9_findPairs_115 : decode cX9_findPairs 115 = .ok (.goto 7, 3) := by decide +kernel
theorem dX9_findPairs_118 : decode cX9_findPairs 118 = .ok (.aload_n 0, 1) := by decide +kernel
theorem dX9_findPairs_119 : decode cX9_findPairs 119 = .ok (.getfield 221, 3) := by decide +kernel
theorem dX9_findPairs_122 : decode cX9_findPairs 122 = .ok (.putfield 221, 3) := by decide +kernel
theorem dX9_findPairs_125 : decode cX9_findPairs 125 = .ok (.aload_n 0, 1) := by decide +kernel
theorem dX9_findPairs_126 : decode cX9_findPairs 126 = .ok (.dup, 1) := by decide +kernel
theorem dX9_findPairs_127 : decode cX9_findPairs 127 = .ok (.getfield 218, 3) := by decide +kernel
theorem dX9_findPairs_130 : decode cX9_findPairs 130 = .ok (.iload 5, 2) := by decide +kernel
theorem dX9_findPairs_132 : decode cX9_findPairs 132 = .ok (.ifCond .eq 7, 3) := by decide +kernel
theorem dX9_findPairs_135 : decode cX9_findPairs 135 = .ok (.iconst 0, 1) := by decide +kernel
theorem dX9_findPairs_136 : decode cX9_findPairs 136 = .ok (.goto 4, 3) := by decide +kernel
theorem dX9_findPairs_139 : decode cX9_findPairs 139 = .ok (.iconst 1, 1) := by decide +kernel
theorem dX9_findPairs_140 : decode cX9_findPairs 140 = .ok (.iadd, 1) := by decide +kernel
theorem dX9_findPairs_141 : decode cX9_findPairs 141 = .ok (.putfield 218, 3) := by decide +kernel
theorem dX9_findPairs_144 : decode cX9_findPairs 144 = .ok (.iinc 4 1, 3) := by decide +kernel
theorem dX9_findPairs_147 : decode cX9_findPairs 147 = .ok (.goto (-111), 3) := by decide +kernel
theorem dX9_findPairs_150 : decode cX9_findPairs 150 = .ok (.aload_n 0, 1) := by decide +kernel
theorem dX9_findPairs_151 : decode cX9_findPairs 151 = .ok (.iload_n 3, 1) := by decide +kernel
theorem dX9_findPairs_152 : decode cX9_findPairs 152 = .ok (.ifCond .ne 10, 3) := by decide +kernel
theorem dX9_findPairs_155 : decode cX9_findPairs 155 = .ok (.aload_n 0, 1) := by decide +kernel
theorem dX9_findPairs_156 : decode cX9_findPairs 156 = .ok (.getfield 227, 3) := by decide +kernel
theorem dX9_findPairs_159 : decode cX9_findPairs 159 = .ok (.ifCond .lt 10, 3) := by decide +kernel
theorem dX9_findPairs_162 : decode cX9_findPairs 162 = .ok (.aload_n 0, 1) := by decide +kernel
theorem dX9_findPairs_163 : decode cX9_findPairs 163 = .ok (.getfield 227, 3) := by decide +kernel
theorem dX9_findPairs_166 : decode cX9_findPairs 166 = .ok (.goto 4, 3) := by decide +kernel
theorem dX9_findPairs_169 : decode cX9_findPairs 169 = .ok (.iload_n 2, 1) := by decide +kernel
theorem dX9_findPairs_170 : decode cX9_findPairs 170 = .ok (.putfield 227, 3) := by decide +kernel
theorem dX9_findPairs_173 : decode cX9_findPairs 173 = .ok (.iinc 2 1, 3) := by decide +kernel
theorem dX9_findPairs_176 : decode cX9_findPairs 176 = .ok (.goto (-152), 3) := by decide +kernel
theorem dX9_findPairs_179 : decode cX9_findPairs 179 = .ok (.return_, 1) := by decide +kernel
theorem dX9_holds_0 : decode cX9_holds 0 = .ok (.aload_n 0, 1) := by decide +kernel
theorem dX9_holds_1 : decode cX9_holds 1 = .ok (.iload_n 1, 1) := by decide +kernel
theorem dX9_holds_2 : decode cX9_holds 2 = .ok (.invokevirtual 209, 3) := by decide +kernel
theorem dX9_holds_5 : decode cX9_holds 5 = .ok (.ifCond .eq 17, 3) := by decide +kernel
theorem dX9_holds_8 : decode cX9_holds 8 = .ok (.iload_n 2, 1) := by decide +kernel
theorem dX9_holds_9 : decode cX9_holds 9 = .ok (.invokestatic 111, 3) := by decide +kernel
theorem dX9_holds_12 : decode cX9_holds 12 = .ok (.ifCond .eq 10, 3) := by decide +kernel
theorem dX9_holds_15 : decode cX9_holds 15 = .ok (.iload_n 3, 1) := by decide +kernel
theorem dX9_holds_16 : decode cX9_holds 16 = .ok (.invokestatic 111, 3) := by decide +kernel
theorem dX9_holds_19 : decode cX9_holds 19 = .ok (.ifCond .ne 5, 3) := by decide +kernel
theorem dX9_holds_22 : decode cX9_holds 22 = .ok (.iconst (-1), 1) := by decide +kernel
theorem dX9_holds_23 : decode cX9_holds 23 = .ok (.ireturn, 1) := by decide +kernel
theorem dX9_holds_24 : decode cX9_holds 24 = .ok (.iload 4, 2) := by decide +kernel
theorem dX9_holds_26 : decode cX9_holds 26 = .ok (.i2l, 1) := by decide +kernel
theorem dX9_holds_27 : decode cX9_holds 27 = .ok (.lconst 0, 1) := by decide +kernel
theorem dX9_holds_28 : decode cX9_holds 28 = .ok (.ldc2_w 99, 3) := by decide +kernel
theorem dX9_holds_31 : decode cX9_holds 31 = .ok (.invokestatic 101, 3) := by decide +kernel
theorem dX9_holds_34 : decode cX9_holds 34 = .ok (.ifCond .ne 6, 3) := by decide +kernel
theorem dX9_holds_37 : decode cX9_holds 37 = .ok (.bipush (-2), 2) := by decide +kernel
theorem dX9_holds_39 : decode cX9_holds 39 = .ok (.ireturn, 1) := by decide +kernel
theorem dX9_holds_40 : decode cX9_holds 40 = .ok (.bipush 16, 2) := by decide +kernel
theorem dX9_holds_42 : decode cX9_holds 42 = .ok (.iload_n 1, 1) := by decide +kernel
theorem dX9_holds_43 : decode cX9_holds 43 = .ok (.imul, 1) := by decide +kernel
theorem dX9_holds_44 : decode cX9_holds 44 = .ok (.iconst 4, 1) := by decide +kernel
theorem dX9_holds_45 : decode cX9_holds 45 = .ok (.iload_n 2, 1) := by decide +kernel
theorem dX9_holds_46 : decode cX9_holds 46 = .ok (.imul, 1) := by decide +kernel
theorem dX9_holds_47 : decode cX9_holds 47 = .ok (.iadd, 1) := by decide +kernel
theorem dX9_holds_48 : decode cX9_holds 48 = .ok (.iload_n 3, 1) := by decide +kernel
theorem dX9_holds_49 : decode cX9_holds 49 = .ok (.iadd, 1) := by decide +kernel
theorem dX9_holds_50 : decode cX9_holds 50 = .ok (.istore 5, 2) := by decide +kernel
theorem dX9_holds_52 : decode cX9_holds 52 = .ok (.aload_n 0, 1) := by decide +kernel
theorem dX9_holds_53 : decode cX9_holds 53 = .ok (.getfield 230, 3) := by decide +kernel
theorem dX9_holds_56 : decode cX9_holds 56 = .ok (.iload 5, 2) := by decide +kernel
theorem dX9_holds_58 : decode cX9_holds 58 = .ok (.if_icmp .ne 14, 3) := by decide +kernel
theorem dX9_holds_61 : decode cX9_holds 61 = .ok (.aload_n 0, 1) := by decide +kernel
theorem dX9_holds_62 : decode cX9_holds 62 = .ok (.getfield 56, 3) := by decide +kernel
theorem dX9_holds_65 : decode cX9_holds 65 = .ok (.aload_n 0, 1) := by decide +kernel
theorem dX9_holds_66 : decode cX9_holds 66 = .ok (.getfield 93, 3) := by decide +kernel
theorem dX9_holds_69 : decode cX9_holds 69 = .ok (.if_icmp .eq 28, 3) := by decide +kernel
theorem dX9_holds_72 : decode cX9_holds 72 = .ok (.aload_n 0, 1) := by decide +kernel
theorem dX9_holds_73 : decode cX9_holds 73 = .ok (.iload_n 2, 1) := by decide +kernel
theorem dX9_holds_74 : decode cX9_holds 74 = .ok (.iload_n 3, 1) := by decide +kernel
theorem dX9_holds_75 : decode cX9_holds 75 = .ok (.invokevirtual 233, 3) := by decide +kernel
theorem dX9_holds_78 : decode cX9_holds 78 = .ok (.aload_n 0, 1) := by decide +kernel
theorem dX9_holds_79 : decode cX9_holds 79 = .ok (.iload_n 1, 1) := by decide +kernel
theorem dX9_holds_80 : decode cX9_holds 80 = .ok (.invokevirtual 237, 3) := by decide +kernel
theorem dX9_holds_83 : decode cX9_holds 83 = .ok (.aload_n 0, 1) := by decide +kernel
theorem dX9_holds_84 : decode cX9_holds 84 = .ok (.iload 5, 2) := by decide +kernel
theorem dX9_holds_86 : decode cX9_holds 86 = .ok (.putfield 230, 3) := by decide +kernel
theorem dX9_holds_89 : decode cX9_holds 89 = .ok (.aload_n 0, 1) := by decide +kernel
theorem dX9_holds_90 : decode cX9_holds 90 = .ok (.aload_n 0, 1) := by decide +kernel
theorem dX9_holds_91 : decode cX9_holds 91 = .ok (.getfield 93, 3) := by decide +kernel
theorem dX9_holds_94 : decode cX9_holds 94 = .ok (.putfield 56, 3) := by decide +kernel
theorem dX9_holds_97 : decode cX9_holds 97 = .ok (.iload 4, 2) := by decide +kernel
theorem dX9_holds_99 : decode cX9_holds 99 = .ok (.ifCond .ne 10, 3) := by decide +kernel
theorem dX9_holds_102 : decode cX9_holds 102 = .ok (.aload_n 0, 1) := by decide +kernel
theorem dX9_holds_103 : decode cX9_holds 103 = .ok (.getfield 218, 3) := by decide +kernel
theorem dX9_holds_106 : decode cX9_holds 106 = .ok (.goto 33, 3) := by decide +kernel
theorem dX9_holds_109 : decode cX9_holds 109 = .ok (.iload 4, 2) := by decide +kernel
theorem dX9_holds_111 : decode cX9_holds 111 = .ok (.iconst 1, 1) := by decide +kernel
theorem dX9_holds_112 : decode cX9_holds 112 = .ok (.if_icmp .ne 10, 3) := by decide +kernel
theorem dX9_holds_115 : decode cX9_holds 115 = .ok (.aload_n 0, 1) := by decide +kernel
theorem dX9_holds_116 : decode cX9_holds 116 = .ok (.getfield 221, 3) := by decide +kernel
theorem dX9_holds_119 : decode cX9_holds 119 = .ok (.goto 20, 3) := by decide +kernel
theorem dX9_holds_122 : decode cX9_holds 122 = .ok (.iload 4, 2) := by decide +kernel
theorem dX9_holds_124 : decode cX9_holds 124 = .ok (.iconst 2, 1) := by decide +kernel
theorem dX9_holds_125 : decode cX9_holds 125 = .ok (.if_icmp .ne 10, 3) := by decide +kernel
theorem dX9_holds_128 : decode cX9_holds 128 = .ok (.aload_n 0, 1) := by decide +kernel
theorem dX9_holds_129 : decode cX9_holds 129 = .ok (.getfield 224, 3) := by decide +kernel
theorem dX9_holds_132 : decode cX9_holds 132 = .ok (.goto 7, 3) := by decide +kernel
theorem dX9_holds_135 : decode cX9_holds 135 = .ok (.aload_n 0, 1) := by decide +kernel
theorem dX9_holds_136 : decode cX9_holds 136 = .ok (.getfield 227, 3) := by decide +kernel
theorem dX9_holds_139 : decode cX9_holds 139 = .ok (.ireturn, 1) := by decide +kernel
theorem dX9_beginBoth_0 : decode cX9_beginBoth 0 = .ok (.aload_n 0, 1) := by decide +kernel
theorem dX9_beginBoth_1 : decode cX9_beginBoth 1 = .ok (.aload_n 0, 1) := by decide +kernel
theorem dX9_beginBoth_2 : decode cX9_beginBoth 2 = .ok (.iload_n 1, 1) := by decide +kernel
theorem dX9_beginBoth_3 : decode cX9_beginBoth 3 = .ok (.iconst 0, 1) := by decide +kernel
theorem dX9_beginBoth_4 : decode cX9_beginBoth 4 = .ok (.invokevirtual 134, 3) := by decide +kernel
theorem dX9_beginBoth_7 : decode cX9_beginBoth 7 = .ok (.putfield 240, 3) := by decide +kernel
theorem dX9_beginBoth_10 : decode cX9_beginBoth 10 = .ok (.aload_n 0, 1) := by decide +kernel
theorem dX9_beginBoth_11 : decode cX9_beginBoth 11 = .ok (.iload_n 2, 1) := by decide +kernel
theorem dX9_beginBoth_12 : decode cX9_beginBoth 12 = .ok (.putfield 243, 3) := by decide +kernel
theorem dX9_beginBoth_15 : decode cX9_beginBoth 15 = .ok (.aload_n 0, 1) := by decide +kernel
theorem dX9_beginBoth_16 : decode cX9_beginBoth 16 = .ok (.iconst 0, 1) := by decide +kernel
theorem dX9_beginBoth_17 : decode cX9_beginBoth 17 = .ok (.putfield 246, 3) := by decide +kernel
theorem dX9_beginBoth_20 : decode cX9_beginBoth 20 = .ok (.aload_n 0, 1) := by decide +kernel
theorem dX9_beginBoth_21 : decode cX9_beginBoth 21 = .ok (.aload_n 0, 1) := by decide +kernel
theorem dX9_beginBoth_22 : decode cX9_beginBoth 22 = .ok (.iload_n 3, 1) := by decide +kernel
theorem dX9_beginBoth_23 : decode cX9_beginBoth 23 = .ok (.iconst 0, 1) := by decide +kernel
theorem dX9_beginBoth_24 : decode cX9_beginBoth 24 = .ok (.invokevirtual 134, 3) := by decide +kernel
theorem dX9_beginBoth_27 : decode cX9_beginBoth 27 = .ok (.putfield 249, 3) := by decide +kernel
theorem dX9_beginBoth_30 : decode cX9_beginBoth 30 = .ok (.aload_n 0, 1) := by decide +kernel
theorem dX9_beginBoth_31 : decode cX9_beginBoth 31 = .ok (.iload 4, 2) := by decide +kernel
theorem dX9_beginBoth_33 : decode cX9_beginBoth 33 = .ok (.putfield 252, 3) := by decide +kernel
theorem dX9_beginBoth_36 : decode cX9_beginBoth 36 = .ok (.aload_n 0, 1) := by decide +kernel
theorem dX9_beginBoth_37 : decode cX9_beginBoth 37 = .ok (.iconst 0, 1) := by decide +kernel
theorem dX9_beginBoth_38 : decode cX9_beginBoth 38 = .ok (.putfield 255, 3) := by decide +kernel
theorem dX9_beginBoth_41 : decode cX9_beginBoth 41 = .ok (.return_, 1) := by decide +kernel
theorem dX9_stepFirst_0 : decode cX9_stepFirst 0 = .ok (.aload_n 0, 1) := by decide +kernel
theorem dX9_stepFirst_1 : decode cX9_stepFirst 1 = .ok (.iload_n 1, 1) := by decide +kernel
theorem dX9_stepFirst_2 : decode cX9_stepFirst 2 = .ok (.aload_n 0, 1) := by decide +kernel
theorem dX9_stepFirst_3 : decode cX9_stepFirst 3 = .ok (.getfield 240, 3) := by decide +kernel
theorem dX9_stepFirst_6 : decode cX9_stepFirst 6 = .ok (.aload_n 0, 1) := by decide +kernel
theorem dX9_stepFirst_7 : decode cX9_stepFirst 7 = .ok (.getfield 243, 3) := by decide +kernel
theorem dX9_stepFirst_10 : decode cX9_stepFirst 10 = .ok (.invokevirtual 154, 3) := by decide +kernel
theorem dX9_stepFirst_13 : decode cX9_stepFirst 13 = .ok (.aload_n 0, 1) := by decide +kernel
theorem dX9_stepFirst_14 : decode cX9_stepFirst 14 = .ok (.dup, 1) := by decide +kernel
theorem dX9_stepFirst_15 : decode cX9_stepFirst 15 = .ok (.getfield 246, 3) := by decide +kernel
theorem dX9_stepFirst_18 : decode cX9_stepFirst 18 = .ok (.iconst 1, 1) := by decide +kernel
theorem dX9_stepFirst_19 : decode cX9_stepFirst 19 = .ok (.iadd, 1) := by decide +kernel
theorem dX9_stepFirst_20 : decode cX9_stepFirst 20 = .ok (.putfield 246, 3) := by decide +kernel
theorem dX9_stepFirst_23 : decode cX9_stepFirst 23 = .ok (.aload_n 0, 1) := by decide +kernel
theorem dX9_stepFirst_24 : decode cX9_stepFirst 24 = .ok (.aload_n 0, 1) := by decide +kernel
theorem dX9_stepFirst_25 : decode cX9_stepFirst 25 = .ok (.getfield 246, 3) := by decide +kernel
theorem dX9_stepFirst_28 : decode cX9_stepFirst 28 = .ok (.bipush 24, 2) := by decide +kernel
theorem dX9_stepFirst_30 : decode cX9_stepFirst 30 = .ok (.if_icmp .ne 8, 3) := by decide +kernel
theorem dX9_stepFirst_33 : decode cX9_stepFirst 33 = .ok (.bipush 12, 2) := by decide +kernel
theorem dX9_stepFirst_35 : decode cX9_stepFirst 35 = .ok (.goto 7, 3) := by decide +kernel
theorem dX9_stepFirst_38 : decode cX9_stepFirst 38 = .ok (.aload_n 0, 1) := by decide +kernel
theorem dX9_stepFirst_39 : decode cX9_stepFirst 39 = .ok (.getfield 137, 3) := by decide +kernel
theorem dX9_stepFirst_42 : decode cX9_stepFirst 42 = .ok (.putfield 240, 3) := by decide +kernel
theorem dX9_stepFirst_45 : decode cX9_stepFirst 45 = .ok (.aload_n 0, 1) := by decide +kernel
theorem dX9_stepFirst_46 : decode cX9_stepFirst 46 = .ok (.aload_n 0, 1) := by decide +kernel
theorem dX9_stepFirst_47 : decode cX9_stepFirst 47 = .ok (.getfield 131, 3) := by decide +kernel
theorem dX9_stepFirst_50 : decode cX9_stepFirst 50 = .ok (.putfield 243, 3) := by decide +kernel
theorem dX9_stepFirst_53 : decode cX9_stepFirst 53 = .ok (.return_, 1) := by decide +kernel
theorem dX9_stepSecond_0 : decode cX9_stepSecond 0 = .ok (.aload_n 0, 1) := by decide +kernel
theorem dX9_stepSecond_1 : decode cX9_stepSecond 1 = .ok (.iload_n 1, 1) := by decide +kernel
theorem dX9_stepSecond_2 : decode cX9_stepSecond 2 = .ok (.aload_n 0, 1) := by decide +kernel
theorem dX9_stepSecond_3 : decode cX9_stepSecond 3 = .ok (.getfield 249, 3) := by decide +kernel
theorem dX9_stepSecond_6 : decode cX9_stepSecond 6 = .ok (.aload_n 0, 1) := by decide +kernel
theorem dX9_stepSecond_7 : decode cX9_stepSecond 7 = .ok (.getfield 252, 3) := by decide +kernel
theorem dX9_stepSecond_10 : decode cX9_stepSecond 10 = .ok (.invokevirtual 154, 3) := by decide +kernel
theorem dX9_stepSecond_13 : decode cX9_stepSecond 13 = .ok (.aload_n 0, 1) := by decide +kernel
theorem dX9_stepSecond_14 : decode cX9_stepSecond 14 = .ok (.dup, 1) := by decide +kernel
theorem dX9_stepSecond_15 : decode cX9_stepSecond 15 = .ok (.getfield 255, 3) := by decide +kernel
theorem dX9_stepSecond_18 : decode cX9_stepSecond 18 = .ok (.iconst 1, 1) := by decide +kernel
theorem dX9_stepSecond_19 : decode cX9_stepSecond 19 = .ok (.iadd, 1) := by decide +kernel
theorem dX9_stepSecond_20 : decode cX9_stepSecond 20 = .ok (.putfield 255, 3) := by decide +kernel
theorem dX9_stepSecond_23 : decode cX9_stepSecond 23 = .ok (.aload_n 0, 1) := by decide +kernel
theorem dX9_stepSecond_24 : decode cX9_stepSecond 24 = .ok (.aload_n 0, 1) := by decide +kernel
theorem dX9_stepSecond_25 : decode cX9_stepSecond 25 = .ok (.getfield 255, 3) := by decide +kernel
theorem dX9_stepSecond_28 : decode cX9_stepSecond 28 = .ok (.bipush 24, 2) := by decide +kernel
theorem dX9_stepSecond_30 : decode cX9_stepSecond 30 = .ok (.if_icmp .ne 8, 3) := by decide +kernel
theorem dX9_stepSecond_33 : decode cX9_stepSecond 33 = .ok (.bipush 12, 2) := by decide +kernel
theorem dX9_stepSecond_35 : decode cX9_stepSecond 35 = .ok (.goto 7, 3) := by decide +kernel
theorem dX9_stepSecond_38 : decode cX9_stepSecond 38 = .ok (.aload_n 0, 1) := by decide +kernel
theorem dX9_stepSecond_39 : decode cX9_stepSecond 39 = .ok (.getfield 137, 3) := by decide +kernel
theorem dX9_stepSecond_42 : decode cX9_stepSecond 42 = .ok (.putfield 249, 3) := by decide +kernel
theorem dX9_stepSecond_45 : decode cX9_stepSecond 45 = .ok (.aload_n 0, 1) := by decide +kernel
theorem dX9_stepSecond_46 : decode cX9_stepSecond 46 = .ok (.aload_n 0, 1) := by decide +kernel
theorem dX9_stepSecond_47 : decode cX9_stepSecond 47 = .ok (.getfield 131, 3) := by decide +kernel
theorem dX9_stepSecond_50 : decode cX9_stepSecond 50 = .ok (.putfield 252, 3) := by decide +kernel
theorem dX9_stepSecond_53 : decode cX9_stepSecond 53 = .ok (.return_, 1) := by decide +kernel
theorem dX9_part_0 : decode cX9_part 0 = .ok (.iload_n 1, 1) := by decide +kernel
theorem dX9_part_1 : decode cX9_part 1 = .ok (.invokestatic 111, 3) := by decide +kernel
theorem dX9_part_4 : decode cX9_part 4 = .ok (.ifCond .eq 10, 3) := by decide +kernel
theorem dX9_part_7 : decode cX9_part 7 = .ok (.iload_n 3, 1) := by decide +kernel
theorem dX9_part_8 : decode cX9_part 8 = .ok (.invokestatic 111, 3) := by decide +kernel
theorem dX9_part_11 : decode cX9_part 11 = .ok (.ifCond .ne 5, 3) := by decide +kernel
theorem dX9_part_14 : decode cX9_part 14 = .ok (.iconst (-1), 1) := by decide +kernel
theorem dX9_part_15 : decode cX9_part 15 = .ok (.ireturn, 1) := by decide +kernel
theorem dX9_part_16 : decode cX9_part 16 = .ok (.iload_n 2, 1) := by decide +kernel
theorem dX9_part_17 : decode cX9_part 17 = .ok (.invokestatic 162, 3) := by decide +kernel
theorem dX9_part_20 : decode cX9_part 20 = .ok (.ifCond .eq 11, 3) := by decide +kernel
theorem dX9_part_23 : decode cX9_part 23 = .ok (.iload 4, 2) := by decide +kernel
theorem dX9_part_25 : decode cX9_part 25 = .ok (.invokestatic 162, 3) := by decide +kernel
theorem dX9_part_28 : decode cX9_part 28 = .ok (.ifCond .ne 6, 3) := by decide +kernel
theorem dX9_part_31 : decode cX9_part 31 = .ok (.bipush (-2), 2) := by decide +kernel
theorem dX9_part_33 : decode cX9_part 33 = .ok (.ireturn, 1) := by decide +kernel
theorem dX9_part_34 : decode cX9_part 34 = .ok (.aload_n 0, 1) := by decide +kernel
theorem dX9_part_35 : decode cX9_part 35 = .ok (.iload_n 1, 1) := by decide +kernel
theorem dX9_part_36 : decode cX9_part 36 = .ok (.invokevirtual 151, 3) := by decide +kernel
theorem dX9_part_39 : decode cX9_part 39 = .ok (.aload_n 0, 1) := by decide +kernel
theorem dX9_part_40 : decode cX9_part 40 = .ok (.iload_n 3, 1) := by decide +kernel
theorem dX9_part_41 : decode cX9_part 41 = .ok (.invokevirtual 151, 3) := by decide +kernel
theorem dX9_part_44 : decode cX9_part 44 = .ok (.aload_n 0, 1) := by decide +kernel
theorem dX9_part_45 : decode cX9_part 45 = .ok (.iload_n 1, 1) := by decide +kernel
theorem dX9_part_46 : decode cX9_part 46 = .ok (.iload_n 2, 1) := by decide +kernel
theorem dX9_part_47 : decode cX9_part 47 = .ok (.iload_n 3, 1) := by decide +kernel
theorem dX9_part_48 : decode cX9_part 48 = .ok (.iload 4, 2) := by decide +kernel
theorem dX9_part_50 : decode cX9_part 50 = .ok (.invokevirtual 258, 3) := by decide +kernel
theorem dX9_part_53 : decode cX9_part 53 = .ok (.iconst 0, 1) := by decide +kernel
theorem dX9_part_54 : decode cX9_part 54 = .ok (.istore 5, 2) := by decide +kernel
theorem dX9_part_56 : decode cX9_part 56 = .ok (.aload_n 0, 1) := by decide +kernel
theorem dX9_part_57 : decode cX9_part 57 = .ok (.getfield 240, 3) := by decide +kernel
theorem dX9_part_60 : decode cX9_part 60 = .ok (.aload_n 0, 1) := by decide +kernel
theorem dX9_part_61 : decode cX9_part 61 = .ok (.getfield 249, 3) := by decide +kernel
theorem dX9_part_64 : decode cX9_part 64 = .ok (.if_icmp .ne 28, 3) := by decide +kernel
theorem dX9_part_67 : decode cX9_part 67 = .ok (.aload_n 0, 1) := by decide +kernel
theorem dX9_part_68 : decode cX9_part 68 = .ok (.getfield 240, 3) := by decide +kernel
theorem dX9_part_71 : decode cX9_part 71 = .ok (.bipush 12, 2) := by decide +kernel
theorem dX9_part_73 : decode cX9_part 73 = .ok (.if_icmp .ge 19, 3) := by decide +kernel
theorem dX9_part_76 : decode cX9_part 76 = .ok (.aload_n 0, 1) := by decide +kernel
theorem dX9_part_77 : decode cX9_part 77 = .ok (.iload_n 1, 1) := by decide +kernel
theorem dX9_part_78 : decode cX9_part 78 = .ok (.invokevirtual 262, 3) := by decide +kernel
theorem dX9_part_81 : decode cX9_part 81 = .ok (.aload_n 0, 1) := by decide +kernel
theorem dX9_part_82 : decode cX9_part 82 = .ok (.iload_n 3, 1) := by decide +kernel
theorem dX9_part_83 : decode cX9_part 83 = .ok (.invokevirtual 265, 3) := by decide +kernel
theorem dX9_part_86 : decode cX9_part 86 = .ok (.iinc 5 1, 3) := by decide +kernel
theorem dX9_part_89 : decode cX9_part 89 = .ok (.goto (-33), 3) := by decide +kernel
theorem dX9_part_92 : decode cX9_part 92 = .ok (.aload_n 0, 1) := by decide +kernel
theorem dX9_part_93 : decode cX9_part 93 = .ok (.getfield 240, 3) := by decide +kernel
theorem dX9_part_96 : decode cX9_part 96 = .ok (.aload_n 0, 1) := by decide +kernel
theorem dX9_part_97 : decode cX9_part 97 = .ok (.getfield 249, 3) := by decide +kernel
theorem dX9_part_100 : decode cX9_part 100 = .ok (.if_icmp .ne 8, 3) := by decide +kernel
theorem dX9_part_103 : decode cX9_part 103 = .ok (.bipush (-6), 2) := by decide +kernel
theorem dX9_part_105 : decode cX9_part 105 = .ok (.goto 5, 3) := by decide +kernel
theorem dX9_part_108 : decode cX9_part 108 = .ok (.iload 5, 2) := by decide +kernel
theorem dX9_part_110 : decode cX9_part 110 = .ok (.ireturn, 1) := by decide +kernel
theorem dX9_wait_0 : decode cX9_wait 0 = .ok (.iload_n 1, 1) := by decide +kernel
theorem dX9_wait_1 : decode cX9_wait 1 = .ok (.i2l, 1) := by decide +kernel
theorem dX9_wait_2 : decode cX9_wait 2 = .ok (.lconst 0, 1) := by decide +kernel
theorem dX9_wait_3 : decode cX9_wait 3 = .ok (.ldc2_w 268, 3) := by decide +kernel
theorem dX9_wait_6 : decode cX9_wait 6 = .ok (.invokestatic 101, 3) := by decide +kernel
theorem dX9_wait_9 : decode cX9_wait 9 = .ok (.ifCond .eq 27, 3) := by decide +kernel
theorem dX9_wait_12 : decode cX9_wait 12 = .ok (.iload_n 2, 1) := by decide +kernel
theorem dX9_wait_13 : decode cX9_wait 13 = .ok (.i2l, 1) := by decide +kernel
theorem dX9_wait_14 : decode cX9_wait 14 = .ok (.lconst 0, 1) := by decide +kernel
theorem dX9_wait_15 : decode cX9_wait 15 = .ok (.ldc2_w 268, 3) := by decide +kernel
theorem dX9_wait_18 : decode cX9_wait 18 = .ok (.invokestatic 101, 3) := by decide +kernel
theorem dX9_wait_21 : decode cX9_wait 21 = .ok (.ifCond .eq 15, 3) := by decide +kernel
theorem dX9_wait_24 : decode cX9_wait 24 = .ok (.iload_n 3, 1) := by decide +kernel
theorem dX9_wait_25 : decode cX9_wait 25 = .ok (.i2l, 1) := by decide +kernel
theorem dX9_wait_26 : decode cX9_wait 26 = .ok (.lconst 0, 1) := by decide +kernel
theorem dX9_wait_27 : decode cX9_wait 27 = .ok (.ldc2_w 270, 3) := by decide +kernel
theorem dX9_wait_30 : decode cX9_wait 30 = .ok (.invokestatic 101, 3) := by decide +kernel
theorem dX9_wait_33 : decode cX9_wait 33 = .ok (.ifCond .ne 6, 3) := by decide +kernel
theorem dX9_wait_36 : decode cX9_wait 36 = .ok (.bipush (-2), 2) := by decide +kernel
theorem dX9_wait_38 : decode cX9_wait 38 = .ok (.ireturn, 1) := by decide +kernel
theorem dX9_wait_39 : decode cX9_wait 39 = .ok (.aload_n 0, 1) := by decide +kernel
theorem dX9_wait_40 : decode cX9_wait 40 = .ok (.getfield 60, 3) := by decide +kernel
theorem dX9_wait_43 : decode cX9_wait 43 = .ok (.bipush 12, 2) := by decide +kernel
theorem dX9_wait_45 : decode cX9_wait 45 = .ok (.iload_n 1, 1) := by decide +kernel
theorem dX9_wait_46 : decode cX9_wait 46 = .ok (.imul, 1) := by decide +kernel
theorem dX9_wait_47 : decode cX9_wait 47 = .ok (.iload_n 2, 1) := by decide +kernel
theorem dX9_wait_48 : decode cX9_wait 48 = .ok (.iadd, 1) := by decide +kernel
theorem dX9_wait_49 : decode cX9_wait 49 = .ok (.iaload, 1) := by decide +kernel
theorem dX9_wait_50 : decode cX9_wait 50 = .ok (.istore 4, 2) := by decide +kernel
theorem dX9_wait_52 : decode cX9_wait 52 = .ok (.aload_n 0, 1) := by decide +kernel
theorem dX9_wait_53 : decode cX9_wait 53 = .ok (.getfield 60, 3) := by decide +kernel
theorem dX9_wait_56 : decode cX9_wait 56 = .ok (.bipush 12, 2) := by decide +kernel
theorem dX9_wait_58 : decode cX9_wait 58 = .ok (.iload_n 1, 1) := by decide +kernel
theorem dX9_wait_59 : decode cX9_wait 59 = .ok (.imul, 1) := by decide +kernel
theorem dX9_wait_60 : decode cX9_wait 60 = .ok (.iload_n 2, 1) := by decide +kernel
theorem dX9_wait_61 : decode cX9_wait 61 = .ok (.iadd, 1) := by decide +kernel
theorem dX9_wait_62 : decode cX9_wait 62 = .ok (.iload_n 3, 1) := by decide +kernel
theorem dX9_wait_63 : decode cX9_wait 63 = .ok (.iastore, 1) := by decide +kernel
theorem dX9_wait_64 : decode cX9_wait 64 = .ok (.aload_n 0, 1) := by decide +kernel
theorem dX9_wait_65 : decode cX9_wait 65 = .ok (.dup, 1) := by decide +kernel
theorem dX9_wait_66 : decode cX9_wait 66 = .ok (.getfield 96, 3) := by decide +kernel
theorem dX9_wait_69 : decode cX9_wait 69 = .ok (.iconst 1, 1) := by decide +kernel
theorem dX9_wait_70 : decode cX9_wait 70 = .ok (.iadd, 1) := by decide +kernel
theorem dX9_wait_71 : decode cX9_wait 71 = .ok (.putfield 96, 3) := by decide +kernel
theorem dX9_wait_74 : decode cX9_wait 74 = .ok (.iload 4, 2) := by decide +kernel
theorem dX9_wait_76 : decode cX9_wait 76 = .ok (.ireturn, 1) := by decide +kernel
theorem dX9_moverAt_0 : decode cX9_moverAt 0 = .ok (.iload_n 1, 1) := by decide +kernel
theorem dX9_moverAt_1 : decode cX9_moverAt 1 = .ok (.bipush 12, 2) := by decide +kernel
theorem dX9_moverAt_3 : decode cX9_moverAt 3 = .ok (.if_icmp .eq 9, 3) := by decide +kernel
theorem dX9_moverAt_6 : decode cX9_moverAt 6 = .ok (.iload_n 2, 1) := by decide +kernel
theorem dX9_moverAt_7 : decode cX9_moverAt 7 = .ok (.bipush 12, 2) := by decide +kernel
theorem dX9_moverAt_9 : decode cX9_moverAt 9 = .ok (.if_icmp .ne 24, 3) := by decide +kernel
theorem dX9_moverAt_12 : decode cX9_moverAt 12 = .ok (.iload_n 1, 1) := by decide +kernel
theorem dX9_moverAt_13 : decode cX9_moverAt 13 = .ok (.iload_n 2, 1) := by decide +kernel
theorem dX9_moverAt_14 : decode cX9_moverAt 14 = .ok (.if_icmp .ne 7, 3) := by decide +kernel
theorem dX9_moverAt_17 : decode cX9_moverAt 17 = .ok (.iconst 3, 1) := by decide +kernel
theorem dX9_moverAt_18 : decode cX9_moverAt 18 = .ok (.goto 14, 3) := by decide +kernel
theorem dX9_moverAt_21 : decode cX9_moverAt 21 = .ok (.iload_n 1, 1) := by decide +kernel
theorem dX9_moverAt_22 : decode cX9_moverAt 22 = .ok (.bipush 12, 2) := by decide +kernel
theorem dX9_moverAt_24 : decode cX9_moverAt 24 = .ok (.if_icmp .ne 7, 3) := by decide +kernel
theorem dX9_moverAt_27 : decode cX9_moverAt 27 = .ok (.iconst 2, 1) := by decide +kernel
theorem dX9_moverAt_28 : decode cX9_moverAt 28 = .ok (.goto 4, 3) := by decide +kernel
theorem dX9_moverAt_31 : decode cX9_moverAt 31 = .ok (.iconst 1, 1) := by decide +kernel
theorem dX9_moverAt_32 : decode cX9_moverAt 32 = .ok (.ireturn, 1) := by decide +kernel
theorem dX9_moverAt_33 : decode cX9_moverAt 33 = .ok (.aload_n 0, 1) := by decide +kernel
theorem dX9_moverAt_34 : decode cX9_moverAt 34 = .ok (.getfield 60, 3) := by decide +kernel
theorem dX9_moverAt_37 : decode cX9_moverAt 37 = .ok (.bipush 12, 2) := by decide +kernel
theorem dX9_moverAt_39 : decode cX9_moverAt 39 = .ok (.iload_n 1, 1) := by decide +kernel
theorem dX9_moverAt_40 : decode cX9_moverAt 40 = .ok (.imul, 1) := by decide +kernel
theorem dX9_moverAt_41 : decode cX9_moverAt 41 = .ok (.iload_n 2, 1) := by decide +kernel
theorem dX9_moverAt_42 : decode cX9_moverAt 42 = .ok (.iadd, 1) := by decide +kernel
theorem dX9_moverAt_43 : decode cX9_moverAt 43 = .ok (.iaload, 1) := by decide +kernel
theorem dX9_moverAt_44 : decode cX9_moverAt 44 = .ok (.ireturn, 1) := by decide +kernel
theorem dX9_saysOf_0 : decode cX9_saysOf 0 = .ok (.iconst 0, 1) := by decide +kernel
theorem dX9_saysOf_1 : decode cX9_saysOf 1 = .ok (.istore_n 2, 1) := by decide +kernel
theorem dX9_saysOf_2 : decode cX9_saysOf 2 = .ok (.iconst 0, 1) := by decide +kernel
theorem dX9_saysOf_3 : decode cX9_saysOf 3 = .ok (.istore_n 3, 1) := by decide +kernel
theorem dX9_saysOf_4 : decode cX9_saysOf 4 = .ok (.iload_n 3, 1) := by decide +kernel
theorem dX9_saysOf_5 : decode cX9_saysOf 5 = .ok (.iconst 4, 1) := by decide +kernel
theorem dX9_saysOf_6 : decode cX9_saysOf 6 = .ok (.if_icmp .ge 76, 3) := by decide +kernel
theorem dX9_saysOf_9 : decode cX9_saysOf 9 = .ok (.iload_n 0, 1) := by decide +kernel
theorem dX9_saysOf_10 : decode cX9_saysOf 10 = .ok (.iload_n 3, 1) := by decide +kernel
theorem dX9_saysOf_11 : decode cX9_saysOf 11 = .ok (.invokestatic 128, 3) := by decide +kernel
theorem dX9_saysOf_14 : decode cX9_saysOf 14 = .ok (.istore 4, 2) := by decide +kernel
theorem dX9_saysOf_16 : decode cX9_saysOf 16 = .ok (.iload_n 1, 1) := by decide +kernel
theorem dX9_saysOf_17 : decode cX9_saysOf 17 = .ok (.iload_n 3, 1) := by decide +kernel
theorem dX9_saysOf_18 : decode cX9_saysOf 18 = .ok (.invokestatic 128, 3) := by decide +kernel
theorem dX9_saysOf_21 : decode cX9_saysOf 21 = .ok (.istore 5, 2) := by decide +kernel
theorem dX9_saysOf_23 : decode cX9_saysOf 23 = .ok (.iload_n 2, 1) := by decide +kernel
theorem dX9_saysOf_24 : decode cX9_saysOf 24 = .ok (.iload 4, 2) := by decide +kernel
theorem dX9_saysOf_26 : decode cX9_saysOf 26 = .ok (.iload 5, 2) := by decide +kernel
theorem dX9_saysOf_28 : decode cX9_saysOf 28 = .ok (.if_icmp .ne 11, 3) := by decide +kernel
theorem dX9_saysOf_31 : decode cX9_saysOf 31 = .ok (.iconst 1, 1) := by decide +kernel
theorem dX9_saysOf_32 : decode cX9_saysOf 32 = .ok (.iconst 3, 1) := by decide +kernel
theorem dX9_saysOf_33 : decode cX9_saysOf 33 = .ok (.iload_n 3, 1) := by decide +kernel
theorem dX9_saysOf_34 : decode cX9_saysOf 34 = .ok (.imul, 1) := by decide +kernel
theorem dX9_saysOf_35 : decode cX9_saysOf 35 = .ok (.ishl, 1) := by decide +kernel
theorem dX9_saysOf_36 : decode cX9_saysOf 36 = .ok (.goto 4, 3) := by decide +kernel
theorem dX9_saysOf_39 : decode cX9_saysOf 39 = .ok (.iconst 0, 1) := by decide +kernel
theorem dX9_saysOf_40 : decode cX9_saysOf 40 = .ok (.iload 4, 2) := by decide +kernel
theorem dX9_saysOf_42 : decode cX9_saysOf 42 = .ok (.iload 5, 2) := by decide +kernel
theorem dX9_saysOf_44 : decode cX9_saysOf 44 = .ok (.if_icmp .lt 11, 3) := by decide +kernel
theorem dX9_saysOf_47 : decode cX9_saysOf 47 = .ok (.iconst 2, 1) := by decide +kernel
theorem dX9_saysOf_48 : decode cX9_saysOf 48 = .ok (.iconst 3, 1) := by decide +kernel
theorem dX9_saysOf_49 : decode cX9_saysOf 49 = .ok (.iload_n 3, 1) := by decide +kernel
theorem dX9_saysOf_50 : decode cX9_saysOf 50 = .ok (.imul, 1) := by decide +kernel
theorem dX9_saysOf_51 : decode cX9_saysOf 51 = .ok (.ishl, 1) := by decide +kernel
theorem dX9_saysOf_52 : decode cX9_saysOf 52 = .ok (.goto 4, 3) := by decide +kernel
theorem dX9_saysOf_55 : decode cX9_saysOf 55 = .ok (.iconst 0, 1) := by decide +kernel
theorem dX9_saysOf_56 : decode cX9_saysOf 56 = .ok (.ior, 1) := by decide +kernel
theorem dX9_saysOf_57 : decode cX9_saysOf 57 = .ok (.iload 4, 2) := by decide +kernel
theorem dX9_saysOf_59 : decode cX9_saysOf 59 = .ok (.iload 5, 2) := by decide +kernel
theorem dX9_saysOf_61 : decode cX9_saysOf 61 = .ok (.if_icmp .gt 11, 3) := by decide +kernel
theorem dX9_saysOf_64 : decode cX9_saysOf 64 = .ok (.iconst 4, 1) := by decide +kernel
theorem dX9_saysOf_65 : decode cX9_saysOf 65 = .ok (.iconst 3, 1) := by decide +kernel
theorem dX9_saysOf_66 : decode cX9_saysOf 66 = .ok (.iload_n 3, 1) := by decide +kernel
theorem dX9_saysOf_67 : decode cX9_saysOf 67 = .ok (.imul, 1) := by decide +kernel
theorem dX9_saysOf_68 : decode cX9_saysOf 68 = .ok (.ishl, 1) := by decide +kernel
theorem dX9_saysOf_69 : decode cX9_saysOf 69 = .ok (.goto 4, 3) := by decide +kernel
theorem dX9_saysOf_72 : decode cX9_saysOf 72 = .ok (.iconst 0, 1) := by decide +kernel
theorem dX9_saysOf_73 : decode cX9_saysOf 73 = .ok (.ior, 1) := by decide +kernel
theorem dX9_saysOf_74 : decode cX9_saysOf 74 = .ok (.ior, 1) := by decide +kernel
theorem dX9_saysOf_75 : decode cX9_saysOf 75 = .ok (.istore_n 2, 1) := by decide +kernel
theorem dX9_saysOf_76 : decode cX9_saysOf 76 = .ok (.iinc 3 1, 3) := by decide +kernel
theorem dX9_saysOf_79 : decode cX9_saysOf 79 = .ok (.goto (-75), 3) := by decide +kernel
theorem dX9_saysOf_82 : decode cX9_saysOf 82 = .ok (.iload_n 2, 1) := by decide +kernel
theorem dX9_saysOf_83 : decode cX9_saysOf 83 = .ok (.ireturn, 1) := by decide +kernel
theorem dX9_standThere_0 : decode cX9_standThere 0 = .ok (.bipush 13, 2) := by decide +kernel
theorem dX9_standThere_2 : decode cX9_standThere 2 = .ok (.aload_n 0, 1) := by decide +kernel
theorem dX9_standThere_3 : decode cX9_standThere 3 = .ok (.getfield 240, 3) := by decide +kernel
theorem dX9_standThere_6 : decode cX9_standThere 6 = .ok (.imul, 1) := by decide +kernel
theorem dX9_standThere_7 : decode cX9_standThere 7 = .ok (.aload_n 0, 1) := by decide +kernel
theorem dX9_standThere_8 : decode cX9_standThere 8 = .ok (.getfield 249, 3) := by decide +kernel
theorem dX9_standThere_11 : decode cX9_standThere 11 = .ok (.iadd, 1) := by decide +kernel
theorem dX9_standThere_12 : decode cX9_standThere 12 = .ok (.istore_n 1, 1) := by decide +kernel
theorem dX9_standThere_13 : decode cX9_standThere 13 = .ok (.aload_n 0, 1) := by decide +kernel
theorem dX9_standThere_14 : decode cX9_standThere 14 = .ok (.getfield 69, 3) := by decide +kernel
theorem dX9_standThere_17 : decode cX9_standThere 17 = .ok (.iload_n 1, 1) := by decide +kernel
theorem dX9_standThere_18 : decode cX9_standThere 18 = .ok (.iconst 1, 1) := by decide +kernel
theorem dX9_standThere_19 : decode cX9_standThere 19 = .ok (.bastore, 1) := by decide +kernel
theorem dX9_standThere_20 : decode cX9_standThere 20 = .ok (.aload_n 0, 1) := by decide +kernel
theorem dX9_standThere_21 : decode cX9_standThere 21 = .ok (.getfield 66, 3) := by decide +kernel
theorem dX9_standThere_24 : decode cX9_standThere 24 = .ok (.iload_n 1, 1) := by decide +kernel
theorem dX9_standThere_25 : decode cX9_standThere 25 = .ok (.dup2, 1) := by decide +kernel
theorem dX9_standThere_26 : decode cX9_standThere 26 = .ok (.iaload, 1) := by decide +kernel
theorem dX9_standThere_27 : decode cX9_standThere 27 = .ok (.aload_n 0, 1) := by decide +kernel
theorem dX9_standThere_28 : decode cX9_standThere 28 = .ok (.getfield 73, 3) := by decide +kernel
theorem dX9_standThere_31 : decode cX9_standThere 31 = .ok (.sipush 256, 3) := by decide +kernel
theorem dX9_standThere_34 : decode cX9_standThere 34 = .ok (.aload_n 0, 1) := by decide +kernel
theorem dX9_standThere_35 : decode cX9_standThere 35 = .ok (.getfield 243, 3) := by decide +kernel
theorem dX9_standThere_38 : decode cX9_standThere 38 = .ok (.imul, 1) := by decide +kernel
theorem dX9_standThere_39 : decode cX9_standThere 39 = .ok (.aload_n 0, 1) := by decide +kernel
theorem dX9_standThere_40 : decode cX9_standThere 40 = .ok (.getfield 252, 3) := by decide +kernel
theorem dX9_standThere_43 : decode cX9_standThere 43 = .ok (.iadd, 1) := by decide +kernel
theorem dX9_standThere_44 : decode cX9_standThere 44 = .ok (.iaload, 1) := by decide +kernel
theorem dX9_standThere_45 : decode cX9_standThere 45 = .ok (.iand, 1) := by decide +kernel
theorem dX9_standThere_46 : decode cX9_standThere 46 = .ok (.iastore, 1) := by decide +kernel
theorem dX9_standThere_47 : decode cX9_standThere 47 = .ok (.return_, 1) := by decide +kernel
theorem dX9_walkOne_0 : decode cX9_walkOne 0 = .ok (.iconst 0, 1) := by decide +kernel
theorem dX9_walkOne_1 : decode cX9_walkOne 1 = .ok (.istore_n 3, 1) := by decide +kernel
theorem dX9_walkOne_2 : decode cX9_walkOne 2 = .ok (.aload_n 0, 1) := by decide +kernel
theorem dX9_walkOne_3 : decode cX9_walkOne 3 = .ok (.invokevirtual 272, 3) := by decide +kernel
theorem dX9_walkOne_6 : decode cX9_walkOne 6 = .ok (.aload_n 0, 1) := by decide +kernel
theorem dX9_walkOne_7 : decode cX9_walkOne 7 = .ok (.aload_n 0, 1) := by decide +kernel
theorem dX9_walkOne_8 : decode cX9_walkOne 8 = .ok (.getfield 240, 3) := by decide +kernel
theorem dX9_walkOne_11 : decode cX9_walkOne 11 = .ok (.aload_n 0, 1) := by decide +kernel
theorem dX9_walkOne_12 : decode cX9_walkOne 12 = .ok (.getfield 249, 3) := by decide +kernel
theorem dX9_walkOne_15 : decode cX9_walkOne 15 = .ok (.invokevirtual 275, 3) := by decide +kernel
theorem dX9_walkOne_18 : decode cX9_walkOne 18 = .ok (.istore 4, 2) := by decide +kernel
theorem dX9_walkOne_20 : decode cX9_walkOne 20 = .ok (.iload 4, 2) := by decide +kernel
theorem dX9_walkOne_22 : decode cX9_walkOne 22 = .ok (.iconst 3, 1) := by decide +kernel
theorem dX9_walkOne_23 : decode cX9_walkOne 23 = .ok (.if_icmp .ge 49, 3) := by decide +kernel
theorem dX9_walkOne_26 : decode cX9_walkOne 26 = .ok (.iload 4, 2) := by decide +kernel
theorem dX9_walkOne_28 : decode cX9_walkOne 28 = .ok (.iconst 2, 1) := by decide +kernel
theorem dX9_walkOne_29 : decode cX9_walkOne 29 = .ok (.if_icmp .eq 8, 3) := by decide +kernel
theorem dX9_walkOne_32 : decode cX9_walkOne 32 = .ok (.aload_n 0, 1) := by decide +kernel
theorem dX9_walkOne_33 : decode cX9_walkOne 33 = .ok (.iload_n 1, 1) := by decide +kernel
theorem dX9_walkOne_34 : decode cX9_walkOne 34 = .ok (.invokevirtual 262, 3) := by decide +kernel
theorem dX9_walkOne_37 : decode cX9_walkOne 37 = .ok (.iload 4, 2) := by decide +kernel
theorem dX9_walkOne_39 : decode cX9_walkOne 39 = .ok (.iconst 1, 1) := by decide +kernel
theorem dX9_walkOne_40 : decode cX9_walkOne 40 = .ok (.if_icmp .eq 8, 3) := by decide +kernel
theorem dX9_walkOne_43 : decode cX9_walkOne 43 = .ok (.aload_n 0, 1) := by decide +kernel
theorem dX9_walkOne_44 : decode cX9_walkOne 44 = .ok (.iload_n 2, 1) := by decide +kernel
theorem dX9_walkOne_45 : decode cX9_walkOne 45 = .ok (.invokevirtual 265, 3) := by decide +kernel
theorem dX9_walkOne_48 : decode cX9_walkOne 48 = .ok (.iinc 3 1, 3) := by decide +kernel
theorem dX9_walkOne_51 : decode cX9_walkOne 51 = .ok (.aload_n 0, 1) := by decide +kernel
theorem dX9_walkOne_52 : decode cX9_walkOne 52 = .ok (.invokevirtual 272, 3) := by decide +kernel
theorem dX9_walkOne_55 : decode cX9_walkOne 55 = .ok (.aload_n 0, 1) := by decide +kernel
theorem dX9_walkOne_56 : decode cX9_walkOne 56 = .ok (.aload_n 0, 1) := by decide +kernel
theorem dX9_walkOne_57 : decode cX9_walkOne 57 = .ok (.getfield 240, 3) := by decide +kernel
theorem dX9_walkOne_60 : decode cX9_walkOne 60 = .ok (.aload_n 0, 1) := by decide +kernel
theorem dX9_walkOne_61 : decode cX9_walkOne 61 = .ok (.getfield 249, 3) := by decide +kernel
theorem dX9_walkOne_64 : decode cX9_walkOne 64 = .ok (.invokevirtual 275, 3) := by decide +kernel
theorem dX9_walkOne_67 : decode cX9_walkOne 67 = .ok (.istore 4, 2) := by decide +kernel
theorem dX9_walkOne_69 : decode cX9_walkOne 69 = .ok (.goto (-49), 3) := by decide +kernel
theorem dX9_walkOne_72 : decode cX9_walkOne 72 = .ok (.aload_n 0, 1) := by decide +kernel
theorem dX9_walkOne_73 : decode cX9_walkOne 73 = .ok (.iload_n 3, 1) := by decide +kernel
theorem dX9_walkOne_74 : decode cX9_walkOne 74 = .ok (.aload_n 0, 1) := by decide +kernel
theorem dX9_walkOne_75 : decode cX9_walkOne 75 = .ok (.getfield 278, 3) := by decide +kernel
theorem dX9_walkOne_78 : decode cX9_walkOne 78 = .ok (.if_icmp .le 7, 3) := by decide +kernel
theorem dX9_walkOne_81 : decode cX9_walkOne 81 = .ok (.iload_n 3, 1) := by decide +kernel
theorem dX9_walkOne_82 : decode cX9_walkOne 82 = .ok (.goto 7, 3) := by decide +kernel
theorem dX9_walkOne_85 : decode cX9_walkOne 85 = .ok (.aload_n 0, 1) := by decide +kernel
theorem dX9_walkOne_86 : decode cX9_walkOne 86 = .ok (.getfield 278, 3) := by decide +kernel
theorem dX9_walkOne_89 : decode cX9_walkOne 89 = .ok (.putfield 278, 3) := by decide +kernel
theorem dX9_walkOne_92 : decode cX9_walkOne 92 = .ok (.return_, 1) := by decide +kernel
theorem dX9_walkAll_0 : decode cX9_walkAll 0 = .ok (.bipush 16, 2) := by decide +kernel
theorem dX9_walkAll_2 : decode cX9_walkAll 2 = .ok (.iload_n 1, 1) := by decide +kernel
theorem dX9_walkAll_3 : decode cX9_walkAll 3 = .ok (.imul, 1) := by decide +kernel
theorem dX9_walkAll_4 : decode cX9_walkAll 4 = .ok (.iconst 4, 1) := by decide +kernel
theorem dX9_walkAll_5 : decode cX9_walkAll 5 = .ok (.iload_n 2, 1) := by decide +kernel
theorem dX9_walkAll_6 : decode cX9_walkAll 6 = .ok (.imul, 1) := by decide +kernel
theorem dX9_walkAll_7 : decode cX9_walkAll 7 = .ok (.iadd, 1) := by decide +kernel
theorem dX9_walkAll_8 : decode cX9_walkAll 8 = .ok (.iload_n 3, 1) := by decide +kernel
theorem dX9_walkAll_9 : decode cX9_walkAll 9 = .ok (.iadd, 1) := by decide +kernel
theorem dX9_walkAll_10 : decode cX9_walkAll 10 = .ok (.istore 4, 2) := by decide +kernel
theorem dX9_walkAll_12 : decode cX9_walkAll 12 = .ok (.aload_n 0, 1) := by decide +kernel
theorem dX9_walkAll_13 : decode cX9_walkAll 13 = .ok (.getfield 281, 3) := by decide +kernel
theorem dX9_walkAll_16 : decode cX9_walkAll 16 = .ok (.iload 4, 2) := by decide +kernel
theorem dX9_walkAll_18 : decode cX9_walkAll 18 = .ok (.if_icmp .ne 15, 3) := by decide +kernel
theorem dX9_walkAll_21 : decode cX9_walkAll 21 = .ok (.aload_n 0, 1) := by decide +kernel
theorem dX9_walkAll_22 : decode cX9_walkAll 22 = .ok (.getfield 76, 3) := by decide +kernel
theorem dX9_walkAll_25 : decode cX9_walkAll 25 = .ok (.aload_n 0, 1) := by decide +kernel
theorem dX9_walkAll_26 : decode cX9_walkAll 26 = .ok (.getfield 96, 3) := by decide +kernel
theorem dX9_walkAll_29 : decode cX9_walkAll 29 = .ok (.if_icmp .ne 4, 3) := by decide +kernel
theorem dX9_walkAll_32 : decode cX9_walkAll 32 = .ok (.return_, 1) := by decide +kernel
theorem dX9_walkAll_33 : decode cX9_walkAll 33 = .ok (.aload_n 0, 1) := by decide +kernel
theorem dX9_walkAll_34 : decode cX9_walkAll 34 = .ok (.iload 4, 2) := by decide +kernel
theorem dX9_walkAll_36 : decode cX9_walkAll 36 = .ok (.putfield 281, 3) := by decide +kernel
theorem dX9_walkAll_39 : decode cX9_walkAll 39 = .ok (.aload_n 0, 1) := by decide +kernel
theorem dX9_walkAll_40 : decode cX9_walkAll 40 = .ok (.aload_n 0, 1) := by decide +kernel
theorem dX9_walkAll_41 : decode cX9_walkAll 41 = .ok (.getfield 96, 3) := by decide +kernel
theorem dX9_walkAll_44 : decode cX9_walkAll 44 = .ok (.putfield 76, 3) := by decide +kernel
theorem dX9_walkAll_47 : decode cX9_walkAll 47 = .ok (.aload_n 0, 1) := by decide +kernel
theorem dX9_walkAll_48 : decode cX9_walkAll 48 = .ok (.iload_n 2, 1) := by decide +kernel
theorem dX9_walkAll_49 : decode cX9_walkAll 49 = .ok (.invokevirtual 151, 3) := by decide +kernel
theorem dX9_walkAll_52 : decode cX9_walkAll 52 = .ok (.aload_n 0, 1) := by decide +kernel
theorem dX9_walkAll_53 : decode cX9_walkAll 53 = .ok (.iload_n 3, 1) := by decide +kernel
theorem dX9_walkAll_54 : decode cX9_walkAll 54 = .ok (.invokevirtual 151, 3) := by decide +kernel
theorem dX9_walkAll_57 : decode cX9_walkAll 57 = .ok (.iconst 0, 1) := by decide +kernel
theorem dX9_walkAll_58 : decode cX9_walkAll 58 = .ok (.istore 5, 2) := by decide +kernel
theorem dX9_walkAll_60 : decode cX9_walkAll 60 = .ok (.iload 5, 2) := by decide +kernel
theorem dX9_walkAll_62 : decode cX9_walkAll 62 = .ok (.sipush 169, 3) := by decide +kernel
theorem dX9_walkAll_65 : decode cX9_walkAll 65 = .ok (.if_icmp .ge 27, 3) := by decide +kernel
theorem dX9_walkAll_68 : decode cX9_walkAll 68 = .ok (.aload_n 0, 1) := by decide +kernel
theorem dX9_walkAll_69 : decode cX9_walkAll 69 = .ok (.getfield 69, 3) := by decide +kernel
theorem dX9_walkAll_72 : decode cX9_walkAll 72 = .ok (.iload 5, 2) := by decide +kernel
theorem dX9_walkAll_74 : decode cX9_walkAll 74 = .ok (.iconst 0, 1) := by decide +kernel
theorem dX9_walkAll_75 : decode cX9_walkAll 75 = .ok (.bastore, 1) := by decide +kernel
theorem dX9_walkAll_76 : decode cX9_walkAll 76 = .ok (.aload_n 0, 1) := by decide +kernel
theorem dX9_walkAll_77 : decode cX9_walkAll 77 = .ok (.getfield 66, 3) := by decide +kernel
theorem dX9_walkAll_80 : decode cX9_walkAll 80 = .ok (.iload 5, 2) := by decide +kernel
theorem dX9_walkAll_82 : decode cX9_walkAll 82 = .ok (.sipush 4095, 3) := by decide +kernel
theorem dX9_walkAll_85 : decode cX9_walkAll 85 = .ok (.iastore, 1) := by decide +kernel
theorem dX9_walkAll_86 : decode cX9_walkAll 86 = .ok (.iinc 5 1, 3) := by decide +kernel
theorem dX9_walkAll_89 : decode cX9_walkAll 89 = .ok (.goto (-29), 3) := by decide +kernel
theorem dX9_walkAll_92 : decode cX9_walkAll 92 = .ok (.aload_n 0, 1) := by decide +kernel
theorem dX9_walkAll_93 : decode cX9_walkAll 93 = .ok (.iconst 0, 1) := by decide +kernel
theorem dX9_walkAll_94 : decode cX9_walkAll 94 = .ok (.putfield 278, 3) := by decide +kernel
theorem dX9_walkAll_97 : decode cX9_walkAll 97 = .ok (.iconst 0, 1) := by decide +kernel
theorem dX9_walkAll_98 : decode cX9_walkAll 98 = .ok (.istore 5, 2) := by decide +kernel
theorem dX9_walkAll_100 : decode cX9_walkAll 100 = .ok (.iload 5, 2) := by decide +kernel
theorem dX9_walkAll_102 : decode cX9_walkAll 102 = .ok (.sipush 256, 3) := by decide +kernel
theorem dX9_walkAll_105 : decode cX9_walkAll 105 = .ok (.if_icmp .ge 54, 3) := by decide +kernel
theorem dX9_walkAll_108 : decode cX9_walkAll 108 = .ok (.iconst 0, 1) := by decide +kernel
theorem dX9_walkAll_109 : decode cX9_walkAll 109 = .ok (.istore 6, 2) := by decide +kernel
theorem dX9_walkAll_111 : decode cX9_walkAll 111 = .ok (.iload 6, 2) := by decide +kernel
theorem dX9_walkAll_113 : decode cX9_walkAll 113 = .ok (.sipush 256, 3) := by decide +kernel
theorem dX9_walkAll_116 : decode cX9_walkAll 116 = .ok (.if_icmp .ge 37, 3) := by decide +kernel
theorem dX9_walkAll_119 : decode cX9_walkAll 119 = .ok (.aload_n 0, 1) := by decide +kernel
theorem dX9_walkAll_120 : decode cX9_walkAll 120 = .ok (.iload_n 1, 1) := by decide +kernel
theorem dX9_walkAll_121 : decode cX9_walkAll 121 = .ok (.iload 5, 2) := by decide +kernel
theorem dX9_walkAll_123 : decode cX9_walkAll 123 = .ok (.iload 6, 2) := by decide +kernel
theorem dX9_walkAll_125 : decode cX9_walkAll 125 = .ok (.invokevirtual 212, 3) := by decide +kernel
theorem dX9_walkAll_128 : decode cX9_walkAll 128 = .ok (.ifCond .eq 19, 3) := by decide +kernel
theorem dX9_walkAll_131 : decode cX9_walkAll 131 = .ok (.aload_n 0, 1) := by decide +kernel
theorem dX9_walkAll_132 : decode cX9_walkAll 132 = .ok (.iload_n 2, 1) := by decide +kernel
theorem dX9_walkAll_133 : decode cX9_walkAll 133 = .ok (.iload 5, 2) := by decide +kernel
theorem dX9_walkAll_135 : decode cX9_walkAll 135 = .ok (.iload_n 3, 1) := by decide +kernel
theorem dX9_walkAll_136 : decode cX9_walkAll 136 = .ok (.iload 6, 2) := by decide +kernel
theorem dX9_walkAll_138 : decode cX9_walkAll 138 = .ok (.invokevirtual 258, 3) := by decide +kernel
theorem dX9_walkAll_141 : decode cX9_walkAll 141 = .ok (.aload_n 0, 1) := by decide +kernel
theorem dX9_walkAll_142 : decode cX9_walkAll 142 = .ok (.iload_n 2, 1) := by decide +kernel
theorem dX9_walkAll_143 : decode cX9_walkAll 143 = .ok (.iload_n 3, 1) := by decide +kernel
theorem dX9_walkAll_144 : decode cX9_walkAll 144 = .ok (.invokevirtual 284, 3) := by decide +kernel
theorem dX9_walkAll_147 : decode cX9_walkAll 147 = .ok (.iinc 6 1, 3) := by decide +kernel
theorem dX9_walkAll_150 : decode cX9_walkAll 150 = .ok (.goto (-39), 3) := by decide +kernel
theorem dX9_walkAll_153 : decode cX9_walkAll 153 = .ok (.iinc 5 1, 3) := by decide +kernel
theorem dX9_walkAll_156 : decode cX9_walkAll 156 = .ok (.goto (-56), 3) := by decide +kernel
theorem dX9_walkAll_159 : decode cX9_walkAll 159 = .ok (.return_, 1) := by decide +kernel
theorem dX9_walk_0 : decode cX9_walk 0 = .ok (.aload_n 0, 1) := by decide +kernel
theorem dX9_walk_1 : decode cX9_walk 1 = .ok (.iload_n 1, 1) := by decide +kernel
theorem dX9_walk_2 : decode cX9_walk 2 = .ok (.invokevirtual 209, 3) := by decide +kernel
theorem dX9_walk_5 : decode cX9_walk 5 = .ok (.ifCond .eq 17, 3) := by decide +kernel
theorem dX9_walk_8 : decode cX9_walk 8 = .ok (.iload_n 2, 1) := by decide +kernel
theorem dX9_walk_9 : decode cX9_walk 9 = .ok (.invokestatic 111, 3) := by decide +kernel
theorem dX9_walk_12 : decode cX9_walk 12 = .ok (.ifCond .eq 10, 3) := by decide +kernel
theorem dX9_walk_15 : decode cX9_walk 15 = .ok (.iload_n 3, 1) := by decide +kernel
theorem dX9_walk_16 : decode cX9_walk 16 = .ok (.invokestatic 111, 3) := by decide +kernel
theorem dX9_walk_19 : decode cX9_walk 19 = .ok (.ifCond .ne 5, 3) := by decide +kernel
theorem dX9_walk_22 : decode cX9_walk 22 = .ok (.iconst (-1), 1) := by decide +kernel
theorem dX9_walk_23 : decode cX9_walk 23 = .ok (.ireturn, 1) := by decide +kernel
theorem dX9_walk_24 : decode cX9_walk 24 = .ok (.iload 4, 2) := by decide +kernel
theorem dX9_walk_26 : decode cX9_walk 26 = .ok (.i2l, 1) := by decide +kernel
theorem dX9_walk_27 : decode cX9_walk 27 = .ok (.lconst 0, 1) := by decide +kernel
theorem dX9_walk_28 : decode cX9_walk 28 = .ok (.ldc2_w 270, 3) := by decide +kernel
theorem dX9_walk_31 : decode cX9_walk 31 = .ok (.invokestatic 101, 3) := by decide +kernel
theorem dX9_walk_34 : decode cX9_walk 34 = .ok (.ifCond .ne 6, 3) := by decide +kernel
theorem dX9_walk_37 : decode cX9_walk 37 = .ok (.bipush (-2), 2) := by decide +kernel
theorem dX9_walk_39 : decode cX9_walk 39 = .ok (.ireturn, 1) := by decide +kernel
theorem dX9_walk_40 : decode cX9_walk 40 = .ok (.aload_n 0, 1) := by decide +kernel
theorem dX9_walk_41 : decode cX9_walk 41 = .ok (.iload_n 1, 1) := by decide +kernel
theorem dX9_walk_42 : decode cX9_walk 42 = .ok (.iload_n 2, 1) := by decide +kernel
theorem dX9_walk_43 : decode cX9_walk 43 = .ok (.iload_n 3, 1) := by decide +kernel
theorem dX9_walk_44 : decode cX9_walk 44 = .ok (.invokevirtual 287, 3) := by decide +kernel
theorem dX9_walk_47 : decode cX9_walk 47 = .ok (.iload 4, 2) := by decide +kernel
theorem dX9_walk_49 : decode cX9_walk 49 = .ok (.iconst 2, 1) := by decide +kernel
theorem dX9_walk_50 : decode cX9_walk 50 = .ok (.if_icmp .ne 8, 3) := by decide +kernel
theorem dX9_walk_53 : decode cX9_walk 53 = .ok (.aload_n 0, 1) := by decide +kernel
theorem dX9_walk_54 : decode cX9_walk 54 = .ok (.getfield 278, 3) := by decide +kernel
theorem dX9_walk_57 : decode cX9_walk 57 = .ok (.ireturn, 1) := by decide +kernel
theorem dX9_walk_58 : decode cX9_walk 58 = .ok (.iconst 0, 1) := by decide +kernel
theorem dX9_walk_59 : decode cX9_walk 59 = .ok (.istore 5, 2) := by decide +kernel
theorem dX9_walk_61 : decode cX9_walk 61 = .ok (.iconst 0, 1) := by decide +kernel
theorem dX9_walk_62 : decode cX9_walk 62 = .ok (.istore 6, 2) := by decide +kernel
theorem dX9_walk_64 : decode cX9_walk 64 = .ok (.iload 6, 2) := by decide +kernel
theorem dX9_walk_66 : decode cX9_walk 66 = .ok (.sipush 169, 3) := by decide +kernel
theorem dX9_walk_69 : decode cX9_walk 69 = .ok (.if_icmp .ge 47, 3) := by decide +kernel
theorem dX9_walk_72 : decode cX9_walk 72 = .ok (.iload 5, 2) := by decide +kernel
theorem dX9_walk_74 : decode cX9_walk 74 = .ok (.aload_n 0, 1) := by decide +kernel
theorem dX9_walk_75 : decode cX9_walk 75 = .ok (.getfield 69, 3) := by decide +kernel
theorem dX9_walk_78 : decode cX9_walk 78 = .ok (.iload 6, 2) := by decide +kernel
theorem dX9_walk_80 : decode cX9_walk 80 = .ok (.baload, 1) := by decide +kernel
theorem dX9_walk_81 : decode cX9_walk 81 = .ok (.ifCond .eq 25, 3) := by decide +kernel
theorem dX9_walk_84 : decode cX9_walk 84 = .ok (.iload 4, 2) := by decide +kernel
theorem dX9_walk_86 : decode cX9_walk 86 = .ok (.ifCond .eq 16, 3) := by decide +kernel
theorem dX9_walk_89 : decode cX9_walk 89 = .ok (.iload 6, 2) := by decide +kernel
theorem dX9_walk_91 : decode cX9_walk 91 = .ok (.bipush 13, 2) := by decide +kernel
theorem dX9_walk_93 : decode cX9_walk 93 = .ok (.idiv, 1) := by decide +kernel
theorem dX9_walk_94 : decode cX9_walk 94 = .ok (.iload 6, 2) := by decide +kernel
theorem dX9_walk_96 : decode cX9_walk 96 = .ok (.bipush 13, 2) := by decide +kernel
theorem dX9_walk_98 : decode cX9_walk 98 = .ok (.irem, 1) := by decide +kernel
theorem dX9_walk_99 : decode cX9_walk 99 = .ok (.if_icmp .eq 7, 3) := by decide +kernel
theorem dX9_walk_102 : decode cX9_walk 102 = .ok (.iconst 1, 1) := by decide +kernel
theorem dX9_walk_103 : decode cX9_walk 103 = .ok (.goto 4, 3) := by decide +kernel
theorem dX9_walk_106 : decode cX9_walk 106 = .ok (.iconst 0, 1) := by decide +kernel
theorem dX9_walk_107 : decode cX9_walk 107 = .ok (.iadd, 1) := by decide +kernel
theorem dX9_walk_108 : decode cX9_walk 108 = .ok (.istore 5, 2) := by decide +kernel
theorem dX9_walk_110 : decode cX9_walk 110 = .ok (.iinc 6 1, 3) := by decide +kernel
theorem dX9_walk_113 : decode cX9_walk 113 = .ok (.goto (-49), 3) := by decide +kernel
theorem dX9_walk_116 : decode cX9_walk 116 = .ok (.iload 5, 2) := by decide +kernel
theorem dX9_walk_118 : decode cX9_walk 118 = .ok (.ireturn, 1) := by decide +kernel
theorem dX9_isPlace_0 : decode cX9_isPlace 0 = .ok (.iload_n 0, 1) := by decide +kernel
theorem dX9_isPlace_1 : decode cX9_isPlace 1 = .ok (.i2l, 1) := by decide +kernel
theorem dX9_isPlace_2 : decode cX9_isPlace 2 = .ok (.lconst 0, 1) := by decide +kernel
theorem dX9_isPlace_3 : decode cX9_isPlace 3 = .ok (.ldc2_w 109, 3) := by decide +kernel
theorem dX9_isPlace_6 : decode cX9_isPlace 6 = .ok (.invokestatic 101, 3) := by decide +kernel
theorem dX9_isPlace_9 : decode cX9_isPlace 9 = .ok (.ifCond .eq 19, 3) := by decide +kernel
theorem dX9_isPlace_12 : decode cX9_isPlace 12 = .ok (.iload_n 1, 1) := by decide +kernel
theorem dX9_isPlace_13 : decode cX9_isPlace 13 = .ok (.i2l, 1) := by decide +kernel
theorem dX9_isPlace_14 : decode cX9_isPlace 14 = .ok (.lconst 0, 1) := by decide +kernel
theorem dX9_isPlace_15 : decode cX9_isPlace 15 = .ok (.ldc2_w 109, 3) := by decide +kernel
theorem dX9_isPlace_18 : decode cX9_isPlace 18 = .ok (.invokestatic 101, 3) := by decide +kernel
theorem dX9_isPlace_21 : decode cX9_isPlace 21 = .ok (.ifCond .eq 7, 3) := by decide +kernel
theorem dX9_isPlace_24 : decode cX9_isPlace 24 = .ok (.iconst 1, 1) := by decide +kernel
theorem dX9_isPlace_25 : decode cX9_isPlace 25 = .ok (.goto 4, 3) := by decide +kernel
theorem dX9_isPlace_28 : decode cX9_isPlace 28 = .ok (.iconst 0, 1) := by decide +kernel
theorem dX9_isPlace_29 : decode cX9_isPlace 29 = .ok (.ireturn, 1) := by decide +kernel
theorem dX9_shape_0 : decode cX9_shape 0 = .ok (.aload_n 0, 1) := by decide +kernel
theorem dX9_shape_1 : decode cX9_shape 1 = .ok (.iload_n 1, 1) := by decide +kernel
theorem dX9_shape_2 : decode cX9_shape 2 = .ok (.invokevirtual 209, 3) := by decide +kernel
theorem dX9_shape_5 : decode cX9_shape 5 = .ok (.ifCond .eq 17, 3) := by decide +kernel
theorem dX9_shape_8 : decode cX9_shape 8 = .ok (.iload_n 2, 1) := by decide +kernel
theorem dX9_shape_9 : decode cX9_shape 9 = .ok (.invokestatic 111, 3) := by decide +kernel
theorem dX9_shape_12 : decode cX9_shape 12 = .ok (.ifCond .eq 10, 3) := by decide +kernel
theorem dX9_shape_15 : decode cX9_shape 15 = .ok (.iload_n 3, 1) := by decide +kernel
theorem dX9_shape_16 : decode cX9_shape 16 = .ok (.invokestatic 111, 3) := by decide +kernel
theorem dX9_shape_19 : decode cX9_shape 19 = .ok (.ifCond .ne 5, 3) := by decide +kernel
theorem dX9_shape_22 : decode cX9_shape 22 = .ok (.iconst (-1), 1) := by decide +kernel
theorem dX9_shape_23 : decode cX9_shape 23 = .ok (.ireturn, 1) := by decide +kernel
theorem dX9_shape_24 : decode cX9_shape 24 = .ok (.iload 4, 2) := by decide +kernel
theorem dX9_shape_26 : decode cX9_shape 26 = .ok (.iload 5, 2) := by decide +kernel
theorem dX9_shape_28 : decode cX9_shape 28 = .ok (.invokestatic 290, 3) := by decide +kernel
theorem dX9_shape_31 : decode cX9_shape 31 = .ok (.ifCond .ne 6, 3) := by decide +kernel
theorem dX9_shape_34 : decode cX9_shape 34 = .ok (.bipush (-2), 2) := by decide +kernel
theorem dX9_shape_36 : decode cX9_shape 36 = .ok (.ireturn, 1) := by decide +kernel
theorem dX9_shape_37 : decode cX9_shape 37 = .ok (.aload_n 0, 1) := by decide +kernel
theorem dX9_shape_38 : decode cX9_shape 38 = .ok (.iload_n 1, 1) := by decide +kernel
theorem dX9_shape_39 : decode cX9_shape 39 = .ok (.iload_n 2, 1) := by decide +kernel
theorem dX9_shape_40 : decode cX9_shape 40 = .ok (.iload_n 3, 1) := by decide +kernel
theorem dX9_shape_41 : decode cX9_shape 41 = .ok (.invokevirtual 287, 3) := by decide +kernel
theorem dX9_shape_44 : decode cX9_shape 44 = .ok (.aload_n 0, 1) := by decide +kernel
theorem dX9_shape_45 : decode cX9_shape 45 = .ok (.getfield 66, 3) := by decide +kernel
theorem dX9_shape_48 : decode cX9_shape 48 = .ok (.bipush 13, 2) := by decide +kernel
theorem dX9_shape_50 : decode cX9_shape 50 = .ok (.iload 4, 2) := by decide +kernel
theorem dX9_shape_52 : decode cX9_shape 52 = .ok (.imul, 1) := by decide +kernel
theorem dX9_shape_53 : decode cX9_shape 53 = .ok (.iload 5, 2) := by decide +kernel
theorem dX9_shape_55 : decode cX9_shape 55 = .ok (.iadd, 1) := by decide +kernel
theorem dX9_shape_56 : decode cX9_shape 56 = .ok (.iaload, 1) := by decide +kernel
theorem dX9_shape_57 : decode cX9_shape 57 = .ok (.ireturn, 1) := by decide +kernel
theorem dX9_tell_0 : decode cX9_tell 0 = .ok (.iload_n 1, 1) := by decide +kernel
theorem dX9_tell_1 : decode cX9_tell 1 = .ok (.iload_n 2, 1) := by decide +kernel
theorem dX9_tell_2 : decode cX9_tell 2 = .ok (.invokestatic 290, 3) := by decide +kernel
theorem dX9_tell_5 : decode cX9_tell 5 = .ok (.ifCond .eq 15, 3) := by decide +kernel
theorem dX9_tell_8 : decode cX9_tell 8 = .ok (.iload_n 3, 1) := by decide +kernel
theorem dX9_tell_9 : decode cX9_tell 9 = .ok (.i2l, 1) := by decide +kernel
theorem dX9_tell_10 : decode cX9_tell 10 = .ok (.lconst 0, 1) := by decide +kernel
theorem dX9_tell_11 : decode cX9_tell 11 = .ok (.ldc2_w 126, 3) := by decide +kernel
theorem dX9_tell_14 : decode cX9_tell 14 = .ok (.invokestatic 101, 3) := by decide +kernel
theorem dX9_tell_17 : decode cX9_tell 17 = .ok (.ifCond .ne 6, 3) := by decide +kernel
theorem dX9_tell_20 : decode cX9_tell 20 = .ok (.bipush (-2), 2) := by decide +kernel
theorem dX9_tell_22 : decode cX9_tell 22 = .ok (.ireturn, 1) := by decide +kernel
theorem dX9_tell_23 : decode cX9_tell 23 = .ok (.aload_n 0, 1) := by decide +kernel
theorem dX9_tell_24 : decode cX9_tell 24 = .ok (.getfield 63, 3) := by decide +kernel
theorem dX9_tell_27 : decode cX9_tell 27 = .ok (.bipush 13, 2) := by decide +kernel
theorem dX9_tell_29 : decode cX9_tell 29 = .ok (.iload_n 1, 1) := by decide +kernel
theorem dX9_tell_30 : decode cX9_tell 30 = .ok (.imul, 1) := by decide +kernel
theorem dX9_tell_31 : decode cX9_tell 31 = .ok (.iload_n 2, 1) := by decide +kernel
theorem dX9_tell_32 : decode cX9_tell 32 = .ok (.iadd, 1) := by decide +kernel
theorem dX9_tell_33 : decode cX9_tell 33 = .ok (.iaload, 1) := by decide +kernel
theorem dX9_tell_34 : decode cX9_tell 34 = .ok (.istore 4, 2) := by decide +kernel
theorem dX9_tell_36 : decode cX9_tell 36 = .ok (.aload_n 0, 1) := by decide +kernel
theorem dX9_tell_37 : decode cX9_tell 37 = .ok (.getfield 63, 3) := by decide +kernel
theorem dX9_tell_40 : decode cX9_tell 40 = .ok (.bipush 13, 2) := by decide +kernel
theorem dX9_tell_42 : decode cX9_tell 42 = .ok (.iload_n 1, 1) := by decide +kernel
theorem dX9_tell_43 : decode cX9_tell 43 = .ok (.imul, 1) := by decide +kernel
theorem dX9_tell_44 : decode cX9_tell 44 = .ok (.iload_n 2, 1) := by decide +kernel
theorem dX9_tell_45 : decode cX9_tell 45 = .ok (.iadd, 1) := by decide +kernel
theorem dX9_tell_46 : decode cX9_tell 46 = .ok (.iload_n 3, 1) := by decide +kernel
theorem dX9_tell_47 : decode cX9_tell 47 = .ok (.iastore, 1) := by decide +kernel
theorem dX9_tell_48 : decode cX9_tell 48 = .ok (.iload 4, 2) := by decide +kernel
theorem dX9_tell_50 : decode cX9_tell 50 = .ok (.ireturn, 1) := by decide +kernel
theorem dX9_isKept_0 : decode cX9_isKept 0 = .ok (.aload_n 0, 1) := by decide +kernel
theorem dX9_isKept_1 : decode cX9_isKept 1 = .ok (.getfield 63, 3) := by decide +kernel
theorem dX9_isKept_4 : decode cX9_isKept 4 = .ok (.bipush 13, 2) := by decide +kernel
theorem dX9_isKept_6 : decode cX9_isKept 6 = .ok (.iload_n 3, 1) := by decide +kernel
theorem dX9_isKept_7 : decode cX9_isKept 7 = .ok (.imul, 1) := by decide +kernel
theorem dX9_isKept_8 : decode cX9_isKept 8 = .ok (.iload 4, 2) := by decide +kernel
theorem dX9_isKept_10 : decode cX9_isKept 10 = .ok (.iadd, 1) := by decide +kernel
theorem dX9_isKept_11 : decode cX9_isKept 11 = .ok (.iaload, 1) := by decide +kernel
theorem dX9_isKept_12 : decode cX9_isKept 12 = .ok (.istore 5, 2) := by decide +kernel
theorem dX9_isKept_14 : decode cX9_isKept 14 = .ok (.aload_n 0, 1) := by decide +kernel
theorem dX9_isKept_15 : decode cX9_isKept 15 = .ok (.iload_n 3, 1) := by decide +kernel
theorem dX9_isKept_16 : decode cX9_isKept 16 = .ok (.iload 4, 2) := by decide +kernel
theorem dX9_isKept_18 : decode cX9_isKept 18 = .ok (.invokevirtual 275, 3) := by decide +kernel
theorem dX9_isKept_21 : decode cX9_isKept 21 = .ok (.istore 6, 2) := by decide +kernel
theorem dX9_isKept_23 : decode cX9_isKept 23 = .ok (.iconst 1, 1) := by decide +kernel
theorem dX9_isKept_24 : decode cX9_isKept 24 = .ok (.istore 7, 2) := by decide +kernel
theorem dX9_isKept_26 : decode cX9_isKept 26 = .ok (.iconst 0, 1) := by decide +kernel
theorem dX9_isKept_27 : decode cX9_isKept 27 = .ok (.istore 8, 2) := by decide +kernel
theorem dX9_isKept_29 : decode cX9_isKept 29 = .ok (.iload 8, 2) := by decide +kernel
theorem dX9_isKept_31 : decode cX9_isKept 31 = .ok (.sipush 256, 3) := by decide +kernel
theorem dX9_isKept_34 : decode cX9_isKept 34 = .ok (.if_icmp .ge 161, 3) := by decide +kernel
theorem dX9_isKept_37 : decode cX9_isKept 37 = .ok (.iload 7, 2) := by decide +kernel
theorem dX9_isKept_39 : decode cX9_isKept 39 = .ok (.ifCond .eq 156, 3) := by decide +kernel
theorem dX9_isKept_42 : decode cX9_isKept 42 = .ok (.iconst 0, 1) := by decide +kernel
theorem dX9_isKept_43 : decode cX9_isKept 43 = .ok (.istore 9, 2) := by decide +kernel
theorem dX9_isKept_45 : decode cX9_isKept 45 = .ok (.iload 9, 2) := by decide +kernel
theorem dX9_isKept_47 : decode cX9_isKept 47 = .ok (.sipush 256, 3) := by decide +kernel
theorem dX9_isKept_50 : decode cX9_isKept 50 = .ok (.if_icmp .ge 139, 3) := by decide +kernel
theorem dX9_isKept_53 : decode cX9_isKept 53 = .ok (.iload 7, 2) := by decide +kernel
theorem dX9_isKept_55 : decode cX9_isKept 55 = .ok (.ifCond .eq 134, 3) := by decide +kernel
theorem dX9_isKept_58 : decode cX9_isKept 58 = .ok (.iload 5, 2) := by decide +kernel
theorem dX9_isKept_60 : decode cX9_isKept 60 = .ok (.aload_n 0, 1) := by decide +kernel
theorem dX9_isKept_61 : decode cX9_isKept 61 = .ok (.getfield 73, 3) := by decide +kernel
theorem dX9_isKept_64 : decode cX9_isKept 64 = .ok (.sipush 256, 3) := by decide +kernel
theorem dX9_isKept_67 : decode cX9_isKept 67 = .ok (.iload 8, 2) := by decide +kernel
theorem dX9_isKept_69 : decode cX9_isKept 69 = .ok (.imul, 1) := by decide +kernel
theorem dX9_isKept_70 : decode cX9_isKept 70 = .ok (.iload 9, 2) := by decide +kernel
theorem dX9_isKept_72 : decode cX9_isKept 72 = .ok (.iadd, 1) := by decide +kernel
theorem dX9_isKept_73 : decode cX9_isKept 73 = .ok (.iaload, 1) := by decide +kernel
theorem dX9_isKept_74 : decode cX9_isKept 74 = .ok (.iconst (-1), 1) := by decide +kernel
theorem dX9_isKept_75 : decode cX9_isKept 75 = .ok (.ixor, 1) := by decide +kernel
theorem dX9_isKept_76 : decode cX9_isKept 76 = .ok (.iand, 1) := by decide +kernel
theorem dX9_isKept_77 : decode cX9_isKept 77 = .ok (.ifCond .ne 106, 3) := by decide +kernel
theorem dX9_isKept_80 : decode cX9_isKept 80 = .ok (.aload_n 0, 1) := by decide +kernel
theorem dX9_isKept_81 : decode cX9_isKept 81 = .ok (.iload_n 3, 1) := by decide +kernel
theorem dX9_isKept_82 : decode cX9_isKept 82 = .ok (.putfield 240, 3) := by decide +kernel
theorem dX9_isKept_85 : decode cX9_isKept 85 = .ok (.aload_n 0, 1) := by decide +kernel
theorem dX9_isKept_86 : decode cX9_isKept 86 = .ok (.iload 8, 2) := by decide +kernel
theorem dX9_isKept_88 : decode cX9_isKept 88 = .ok (.putfield 243, 3) := by decide +kernel
theorem dX9_isKept_91 : decode cX9_isKept 91 = .ok (.aload_n 0, 1) := by decide +kernel
theorem dX9_isKept_92 : decode cX9_isKept 92 = .ok (.iconst 0, 1) := by decide +kernel
theorem dX9_isKept_93 : decode cX9_isKept 93 = .ok (.putfield 246, 3) := by decide +kernel
theorem dX9_isKept_96 : decode cX9_isKept 96 = .ok (.aload_n 0, 1) := by decide +kernel
theorem dX9_isKept_97 : decode cX9_isKept 97 = .ok (.iload 4, 2) := by decide +kernel
theorem dX9_isKept_99 : decode cX9_isKept 99 = .ok (.putfield 249, 3) := by decide +kernel
theorem dX9_isKept_102 : decode cX9_isKept 102 = .ok (.aload_n 0, 1) := by decide +kernel
theorem dX9_isKept_103 : decode cX9_isKept 103 = .ok (.iload 9, 2) := by decide +kernel
theorem dX9_isKept_105 : decode cX9_isKept 105 = .ok (.putfield 252, 3) := by decide +kernel
theorem dX9_isKept_108 : decode cX9_isKept 108 = .ok (.aload_n 0, 1) := by decide +kernel
theorem dX9_isKept_109 : decode cX9_isKept 109 = .ok (.iconst 0, 1) := by decide +kernel
theorem dX9_isKept_110 : decode cX9_isKept 110 = .ok (.putfield 255, 3) := by decide +kernel
theorem dX9_isKept_113 : decode cX9_isKept 113 = .ok (.iload 6, 2) := by decide +kernel
theorem dX9_isKept_115 : decode cX9_isKept 115 = .ok (.iconst 2, 1) := by decide +kernel
theorem dX9_isKept_116 : decode cX9_isKept 116 = .ok (.if_icmp .eq 8, 3) := by decide +kernel
theorem dX9_isKept_119 : decode cX9_isKept 119 = .ok (.aload_n 0, 1) := by decide +kernel
theorem dX9_isKept_120 : decode cX9_isKept 120 = .ok (.iload_n 1, 1) := by decide +kernel
theorem dX9_isKept_121 : decode cX9_isKept 121 = .ok (.invokevirtual 262, 3) := by decide +kernel
theorem dX9_isKept_124 : decode cX9_isKept 124 = .ok (.iload 6, 2) := by decide +kernel
theorem dX9_isKept_126 : decode cX9_isKept 126 = .ok (.iconst 1, 1) := by decide +kernel
theorem dX9_isKept_127 : decode cX9_isKept 127 = .ok (.if_icmp .eq 8, 3) := by decide +kernel
theorem dX9_isKept_130 : decode cX9_isKept 130 = .ok (.aload_n 0, 1) := by decide +kernel
theorem dX9_isKept_131 : decode cX9_isKept 131 = .ok (.iload_n 2, 1) := by decide +kernel
theorem dX9_isKept_132 : decode cX9_isKept 132 = .ok (.invokevirtual 265, 3) := by decide +kernel
theorem dX9_isKept_135 : decode cX9_isKept 135 = .ok (.aload_n 0, 1) := by decide +kernel
theorem dX9_isKept_136 : decode cX9_isKept 136 = .ok (.getfield 63, 3) := by decide +kernel
theorem dX9_isKept_139 : decode cX9_isKept 139 = .ok (.bipush 13, 2) := by decide +kernel
theorem dX9_isKept_141 : decode cX9_isKept 141 = .ok (.aload_n 0, 1) := by decide +kernel
theorem dX9_isKept_142 : decode cX9_isKept 142 = .ok (.getfield 240, 3) := by decide +kernel
theorem dX9_isKept_145 : decode cX9_isKept 145 = .ok (.imul, 1) := by decide +kernel
theorem dX9_isKept_146 : decode cX9_isKept 146 = .ok (.aload_n 0, 1) := by decide +kernel
theorem dX9_isKept_147 : decode cX9_isKept 147 = .ok (.getfield 249, 3) := by decide +kernel
theorem dX9_isKept_150 : decode cX9_isKept 150 = .ok (.iadd, 1) := by decide +kernel
theorem dX9_isKept_151 : decode cX9_isKept 151 = .ok (.iaload, 1) := by decide +kernel
theorem dX9_isKept_152 : decode cX9_isKept 152 = .ok (.aload_n 0, 1) := by decide +kernel
theorem dX9_isKept_153 : decode cX9_isKept 153 = .ok (.getfield 73, 3) := by decide +kernel
theorem dX9_isKept_156 : decode cX9_isKept 156 = .ok (.sipush 256, 3) := by decide +kernel
theorem dX9_isKept_159 : decode cX9_isKept 159 = .ok (.aload_n 0, 1) := by decide +kernel
theorem dX9_isKept_160 : decode cX9_isKept 160 = .ok (.getfield 243, 3) := by decide +kernel
theorem dX9_isKept_163 : decode cX9_isKept 163 = .ok (.imul, 1) := by decide +kernel
theorem dX9_isKept_164 : decode cX9_isKept 164 = .ok (.aload_n 0, 1) := by decide +kernel
theorem dX9_isKept_165 : decode cX9_isKept 165 = .ok (.getfield 252, 3) := by decide +kernel
theorem dX9_isKept_168 : decode cX9_isKept 168 = .ok (.iadd, 1) := by decide +kernel
theorem dX9_isKept_169 : decode cX9_isKept 169 = .ok (.iaload, 1) := by decide +kernel
theorem dX9_isKept_170 : decode cX9_isKept 170 = .ok (.iconst (-1), 1) := by decide +kernel
theorem dX9_isKept_171 : decode cX9_isKept 171 = .ok (.ixor, 1) := by decide +kernel
theorem dX9_isKept_172 : decode cX9_isKept 172 = .ok (.iand, 1) := by decide +kernel
theorem dX9_isKept_173 : decode cX9_isKept 173 = .ok (.ifCond .ne 7, 3) := by decide +kernel
theorem dX9_isKept_176 : decode cX9_isKept 176 = .ok (.iconst 1, 1) := by decide +kernel
theorem dX9_isKept_177 : decode cX9_isKept 177 = .ok (.goto 4, 3) := by decide +kernel
theorem dX9_isKept_180 : decode cX9_isKept 180 = .ok (.iconst 0, 1) := by decide +kernel
theorem dX9_isKept_181 : decode cX9_isKept 181 = .ok (.istore 7, 2) := by decide +kernel
theorem dX9_isKept_183 : decode cX9_isKept 183 = .ok (.iinc 9 1, 3) := by decide +kernel
theorem dX9_isKept_186 : decode cX9_isKept 186 = .ok (.goto (-141), 3) := by decide +kernel
theorem dX9_isKept_189 : decode cX9_isKept 189 = .ok (.iinc 8 1, 3) := by decide +kernel
theorem dX9_isKept_192 : decode cX9_isKept 192 = .ok (.goto (-163), 3) := by decide +kernel
theorem dX9_isKept_195 : decode cX9_isKept 195 = .ok (.iload 7, 2) := by decide +kernel
theorem dX9_isKept_197 : decode cX9_isKept 197 = .ok (.ireturn, 1) := by decide +kernel
theorem dX9_fails_0 : decode cX9_fails 0 = .ok (.aload_n 0, 1) := by decide +kernel
theorem dX9_fails_1 : decode cX9_fails 1 = .ok (.iload_n 1, 1) := by decide +kernel
theorem dX9_fails_2 : decode cX9_fails 2 = .ok (.invokevirtual 209, 3) := by decide +kernel
theorem dX9_fails_5 : decode cX9_fails 5 = .ok (.ifCond .eq 17, 3) := by decide +kernel
theorem dX9_fails_8 : decode cX9_fails 8 = .ok (.iload_n 2, 1) := by decide +kernel
theorem dX9_fails_9 : decode cX9_fails 9 = .ok (.invokestatic 111, 3) := by decide +kernel
theorem dX9_fails_12 : decode cX9_fails 12 = .ok (.ifCond .eq 10, 3) := by decide +kernel
theorem dX9_fails_15 : decode cX9_fails 15 = .ok (.iload_n 3, 1) := by decide +kernel
theorem dX9_fails_16 : decode cX9_fails 16 = .ok (.invokestatic 111, 3) := by decide +kernel
theorem dX9_fails_19 : decode cX9_fails 19 = .ok (.ifCond .ne 5, 3) := by decide +kernel
theorem dX9_fails_22 : decode cX9_fails 22 = .ok (.iconst (-1), 1) := by decide +kernel
theorem dX9_fails_23 : decode cX9_fails 23 = .ok (.ireturn, 1) := by decide +kernel
theorem dX9_fails_24 : decode cX9_fails 24 = .ok (.aload_n 0, 1) := by decide +kernel
theorem dX9_fails_25 : decode cX9_fails 25 = .ok (.iload_n 1, 1) := by decide +kernel
theorem dX9_fails_26 : decode cX9_fails 26 = .ok (.iload_n 2, 1) := by decide +kernel
theorem dX9_fails_27 : decode cX9_fails 27 = .ok (.iload_n 3, 1) := by decide +kernel
theorem dX9_fails_28 : decode cX9_fails 28 = .ok (.invokevirtual 287, 3) := by decide +kernel
theorem dX9_fails_31 : decode cX9_fails 31 = .ok (.iconst 0, 1) := by decide +kernel
theorem dX9_fails_32 : decode cX9_fails 32 = .ok (.istore 4, 2) := by decide +kernel
theorem dX9_fails_34 : decode cX9_fails 34 = .ok (.iload 4, 2) := by decide +kernel
theorem dX9_fails_36 : decode cX9_fails 36 = .ok (.sipush 168, 3) := by decide +kernel
theorem dX9_fails_39 : decode cX9_fails 39 = .ok (.if_icmp .ge 53, 3) := by decide +kernel
theorem dX9_fails_42 : decode cX9_fails 42 = .ok (.aload_n 0, 1) := by decide +kernel
theorem dX9_fails_43 : decode cX9_fails 43 = .ok (.getfield 69, 3) := by decide +kernel
theorem dX9_fails_46 : decode cX9_fails 46 = .ok (.iload 4, 2) := by decide +kernel
theorem dX9_fails_48 : decode cX9_fails 48 = .ok (.baload, 1) := by decide +kernel
theorem dX9_fails_49 : decode cX9_fails 49 = .ok (.ifCond .eq 37, 3) := by decide +kernel
theorem dX9_fails_52 : decode cX9_fails 52 = .ok (.aload_n 0, 1) := by decide +kernel
theorem dX9_fails_53 : decode cX9_fails 53 = .ok (.iload_n 2, 1) := by decide +kernel
theorem dX9_fails_54 : decode cX9_fails 54 = .ok (.iload_n 3, 1) := by decide +kernel
theorem dX9_fails_55 : decode cX9_fails 55 = .ok (.iload 4, 2) := by decide +kernel
theorem dX9_fails_57 : decode cX9_fails 57 = .ok (.bipush 13, 2) := by decide +kernel
theorem dX9_fails_59 : decode cX9_fails 59 = .ok (.idiv, 1) := by decide +kernel
theorem dX9_fails_60 : decode cX9_fails 60 = .ok (.iload 4, 2) := by decide +kernel
theorem dX9_fails_62 : decode cX9_fails 62 = .ok (.bipush 13, 2) := by decide +kernel
theorem dX9_fails_64 : decode cX9_fails 64 = .ok (.irem, 1) := by decide +kernel
theorem dX9_fails_65 : decode cX9_fails 65 = .ok (.invokevirtual 294, 3) := by decide +kernel
theorem dX9_fails_68 : decode cX9_fails 68 = .ok (.ifCond .ne 18, 3) := by decide +kernel
theorem dX9_fails_71 : decode cX9_fails 71 = .ok (.bipush 100, 2) := by decide +kernel
theorem dX9_fails_73 : decode cX9_fails 73 = .ok (.iload 4, 2) := by decide +kernel
theorem dX9_fails_75 : decode cX9_fails 75 = .ok (.bipush 13, 2) := by decide +kernel
theorem dX9_fails_77 : decode cX9_fails 77 = .ok (.idiv, 1) := by decide +kernel
theorem dX9_fails_78 : decode cX9_fails 78 = .ok (.imul, 1) := by decide +kernel
theorem dX9_fails_79 : decode cX9_fails 79 = .ok (.iload 4, 2) := by decide +kernel
theorem dX9_fails_81 : decode cX9_fails 81 = .ok (.bipush 13, 2) := by decide +kernel
theorem dX9_fails_83 : decode cX9_fails 83 = .ok (.irem, 1) := by decide +kernel
theorem dX9_fails_84 : decode cX9_fails 84 = .ok (.iadd, 1) := by decide +kernel
theorem dX9_fails_85 : decode cX9_fails 85 = .ok (.ireturn, 1) := by decide +kernel
theorem dX9_fails_86 : decode cX9_fails 86 = .ok (.iinc 4 1, 3) := by decide +kernel
theorem dX9_fails_89 : decode cX9_fails 89 = .ok (.goto (-55), 3) := by decide +kernel
theorem dX9_fails_92 : decode cX9_fails 92 = .ok (.bipush (-6), 2) := by decide +kernel
theorem dX9_fails_94 : decode cX9_fails 94 = .ok (.ireturn, 1) := by decide +kernel
theorem dX9_so_0 : decode cX9_so 0 = .ok (.aload_n 0, 1) := by decide +kernel
theorem dX9_so_1 : decode cX9_so 1 = .ok (.iload_n 1, 1) := by decide +kernel
theorem dX9_so_2 : decode cX9_so 2 = .ok (.invokevirtual 209, 3) := by decide +kernel
theorem dX9_so_5 : decode cX9_so 5 = .ok (.ifCond .eq 10, 3) := by decide +kernel
theorem dX9_so_8 : decode cX9_so 8 = .ok (.iload_n 2, 1) := by decide +kernel
theorem dX9_so_9 : decode cX9_so 9 = .ok (.invokestatic 111, 3) := by decide +kernel
theorem dX9_so_12 : decode cX9_so 12 = .ok (.ifCond .ne 5, 3) := by decide +kernel
theorem dX9_so_15 : decode cX9_so 15 = .ok (.iconst (-1), 1) := by decide +kernel
theorem dX9_so_16 : decode cX9_so 16 = .ok (.ireturn, 1) := by decide +kernel
theorem dX9_so_17 : decode cX9_so 17 = .ok (.iload_n 3, 1) := by decide +kernel
theorem dX9_so_18 : decode cX9_so 18 = .ok (.i2l, 1) := by decide +kernel
theorem dX9_so_19 : decode cX9_so 19 = .ok (.lconst 0, 1) := by decide +kernel
theorem dX9_so_20 : decode cX9_so 20 = .ok (.lconst 1, 1) := by decide +kernel
theorem dX9_so_21 : decode cX9_so 21 = .ok (.invokestatic 101, 3) := by decide +kernel
theorem dX9_so_24 : decode cX9_so 24 = .ok (.ifCond .ne 6, 3) := by decide +kernel
theorem dX9_so_27 : decode cX9_so 27 = .ok (.bipush (-2), 2) := by decide +kernel
theorem dX9_so_29 : decode cX9_so 29 = .ok (.ireturn, 1) := by decide +kernel
theorem dX9_so_30 : decode cX9_so 30 = .ok (.iconst 0, 1) := by decide +kernel
theorem dX9_so_31 : decode cX9_so 31 = .ok (.istore 4, 2) := by decide +kernel
theorem dX9_so_33 : decode cX9_so 33 = .ok (.iconst 0, 1) := by decide +kernel
theorem dX9_so_34 : decode cX9_so 34 = .ok (.istore 5, 2) := by decide +kernel
theorem dX9_so_36 : decode cX9_so 36 = .ok (.iload 5, 2) := by decide +kernel
theorem dX9_so_38 : decode cX9_so 38 = .ok (.aload_n 0, 1) := by decide +kernel
theorem dX9_so_39 : decode cX9_so 39 = .ok (.getfield 22, 3) := by decide +kernel
theorem dX9_so_42 : decode cX9_so 42 = .ok (.iload_n 2, 1) := by decide +kernel
theorem dX9_so_43 : decode cX9_so 43 = .ok (.iaload, 1) := by decide +kernel
theorem dX9_so_44 : decode cX9_so 44 = .ok (.if_icmp .ge 65, 3) := by decide +kernel
theorem dX9_so_47 : decode cX9_so 47 = .ok (.aload_n 0, 1) := by decide +kernel
theorem dX9_so_48 : decode cX9_so 48 = .ok (.getfield 7, 3) := by decide +kernel
theorem dX9_so_51 : decode cX9_so 51 = .ok (.bipush 12, 2) := by decide +kernel
theorem dX9_so_53 : decode cX9_so 53 = .ok (.iload_n 2, 1) := by decide +kernel
theorem dX9_so_54 : decode cX9_so 54 = .ok (.imul, 1) := by decide +kernel
theorem dX9_so_55 : decode cX9_so 55 = .ok (.iload 5, 2) := by decide +kernel
theorem dX9_so_57 : decode cX9_so 57 = .ok (.iadd, 1) := by decide +kernel
theorem dX9_so_58 : decode cX9_so 58 = .ok (.iaload, 1) := by decide +kernel
theorem dX9_so_59 : decode cX9_so 59 = .ok (.bipush 6, 2) := by decide +kernel
theorem dX9_so_61 : decode cX9_so 61 = .ok (.if_icmp .ne 21, 3) := by decide +kernel
theorem dX9_so_64 : decode cX9_so 64 = .ok (.aload_n 0, 1) := by decide +kernel
theorem dX9_so_65 : decode cX9_so 65 = .ok (.getfield 25, 3) := by decide +kernel
theorem dX9_so_68 : decode cX9_so 68 = .ok (.iload_n 2, 1) := by decide +kernel
theorem dX9_so_69 : decode cX9_so 69 = .ok (.iaload, 1) := by decide +kernel
theorem dX9_so_70 : decode cX9_so 70 = .ok (.iload 5, 2) := by decide +kernel
theorem dX9_so_72 : decode cX9_so 72 = .ok (.ishr, 1) := by decide +kernel
theorem dX9_so_73 : decode cX9_so 73 = .ok (.iconst 1, 1) := by decide +kernel
theorem dX9_so_74 : decode cX9_so 74 = .ok (.iand, 1) := by decide +kernel
theorem dX9_so_75 : decode cX9_so 75 = .ok (.ifCond .ne 7, 3) := by decide +kernel
theorem dX9_so_78 : decode cX9_so 78 = .ok (.iconst 1, 1) := by decide +kernel
theorem dX9_so_79 : decode cX9_so 79 = .ok (.goto 4, 3) := by decide +kernel
theorem dX9_so_82 : decode cX9_so 82 = .ok (.iconst 0, 1) := by decide +kernel
theorem dX9_so_83 : decode cX9_so 83 = .ok (.istore 6, 2) := by decide +kernel
theorem dX9_so_85 : decode cX9_so 85 = .ok (.iload 4, 2) := by decide +kernel
theorem dX9_so_87 : decode cX9_so 87 = .ok (.iload 6, 2) := by decide +kernel
theorem dX9_so_89 : decode cX9_so 89 = .ok (.ifCond .eq 10, 3) := by decide +kernel
theorem dX9_so_92 : decode cX9_so 92 = .ok (.iconst 1, 1) := by decide +kernel
theorem dX9_so_93 : decode cX9_so 93 = .ok (.iload 5, 2) := by decide +kernel
theorem dX9_so_95 : decode cX9_so 95 = .ok (.ishl, 1) := by decide +kernel
theorem dX9_so_96 : decode cX9_so 96 = .ok (.goto 4, 3) := by decide +kernel
theorem dX9_so_99 : decode cX9_so 99 = .ok (.iconst 0, 1) := by decide +kernel
theorem dX9_so_100 : decode cX9_so 100 = .ok (.ior, 1) := by decide +kernel
theorem dX9_so_101 : decode cX9_so 101 = .ok (.istore 4, 2) := by decide +kernel
theorem dX9_so_103 : decode cX9_so 103 = .ok (.iinc 5 1, 3) := by decide +kernel
theorem dX9_so_106 : decode cX9_so 106 = .ok (.goto (-70), 3) := by decide +kernel
theorem dX9_so_109 : decode cX9_so 109 = .ok (.iload 4, 2) := by decide +kernel
theorem dX9_so_111 : decode cX9_so 111 = .ok (.invokestatic 297, 3) := by decide +kernel
theorem dX9_so_114 : decode cX9_so 114 = .ok (.bipush 6, 2) := by decide +kernel
theorem dX9_so_116 : decode cX9_so 116 = .ok (.if_icmp .le 6, 3) := by decide +kernel
theorem dX9_so_119 : decode cX9_so 119 = .ok (.bipush (-3), 2) := by decide +kernel
theorem dX9_so_121 : decode cX9_so 121 = .ok (.ireturn, 1) := by decide +kernel
theorem dX9_so_122 : decode cX9_so 122 = .ok (.iconst 4, 1) := by decide +kernel
theorem dX9_so_123 : decode cX9_so 123 = .ok (.iload_n 1, 1) := by decide +kernel
theorem dX9_so_124 : decode cX9_so 124 = .ok (.imul, 1) := by decide +kernel
theorem dX9_so_125 : decode cX9_so 125 = .ok (.iload_n 2, 1) := by decide +kernel
theorem dX9_so_126 : decode cX9_so 126 = .ok (.iadd, 1) := by decide +kernel
theorem dX9_so_127 : decode cX9_so 127 = .ok (.istore 5, 2) := by decide +kernel
theorem dX9_so_129 : decode cX9_so 129 = .ok (.aload_n 0, 1) := by decide +kernel
theorem dX9_so_130 : decode cX9_so 130 = .ok (.getfield 300, 3) := by decide +kernel
theorem dX9_so_133 : decode cX9_so 133 = .ok (.iload 5, 2) := by decide +kernel
theorem dX9_so_135 : decode cX9_so 135 = .ok (.if_icmp .ne 14, 3) := by decide +kernel
theorem dX9_so_138 : decode cX9_so 138 = .ok (.aload_n 0, 1) := by decide +kernel
theorem dX9_so_139 : decode cX9_so 139 = .ok (.getfield 79, 3) := by decide +kernel
theorem dX9_so_142 : decode cX9_so 142 = .ok (.aload_n 0, 1) := by decide +kernel
theorem dX9_so_143 : decode cX9_so 143 = .ok (.getfield 93, 3) := by decide +kernel
theorem dX9_so_146 : decode cX9_so 146 = .ok (.if_icmp .eq 35, 3) := by decide +kernel
theorem dX9_so_149 : decode cX9_so 149 = .ok (.aload_n 0, 1) := by decide +kernel
theorem dX9_so_150 : decode cX9_so 150 = .ok (.aload_n 0, 1) := by decide +kernel
theorem dX9_so_151 : decode cX9_so 151 = .ok (.iload_n 1, 1) := by decide +kernel
theorem dX9_so_152 : decode cX9_so 152 = .ok (.iload_n 2, 1) := by decide +kernel
theorem dX9_so_153 : decode cX9_so 153 = .ok (.iload 4, 2) := by decide +kernel
theorem dX9_so_155 : decode cX9_so 155 = .ok (.invokevirtual 303, 3) := by decide +kernel
theorem dX9_so_158 : decode cX9_so 158 = .ok (.putfield 306, 3) := by decide +kernel
theorem dX9_so_161 : decode cX9_so 161 = .ok (.aload_n 0, 1) := by decide +kernel
theorem dX9_so_162 : decode cX9_so 162 = .ok (.iload 5, 2) := by decide +kernel
theorem dX9_so_164 : decode cX9_so 164 = .ok (.putfield 300, 3) := by decide +kernel
theorem dX9_so_167 : decode cX9_so 167 = .ok (.aload_n 0, 1) := by decide +kernel
theorem dX9_so_168 : decode cX9_so 168 = .ok (.aload_n 0, 1) := by decide +kernel
theorem dX9_so_169 : decode cX9_so 169 = .ok (.getfield 93, 3) := by decide +kernel
theorem dX9_so_172 : decode cX9_so 172 = .ok (.putfield 79, 3) := by decide +kernel
theorem dX9_so_175 : decode cX9_so 175 = .ok (.aload_n 0, 1) := by decide +kernel
theorem dX9_so_176 : decode cX9_so 176 = .ok (.bipush (-6), 2) := by decide +kernel
theorem dX9_so_178 : decode cX9_so 178 = .ok (.putfield 56, 3) := by decide +kernel
theorem dX9_so_181 : decode cX9_so 181 = .ok (.aload_n 0, 1) := by decide +kernel
theorem dX9_so_182 : decode cX9_so 182 = .ok (.getfield 306, 3) := by decide +kernel
theorem dX9_so_185 : decode cX9_so 185 = .ok (.ifCond .ge 8, 3) := by decide +kernel
theorem dX9_so_188 : decode cX9_so 188 = .ok (.bipush (-5), 2) := by decide +kernel
theorem dX9_so_190 : decode cX9_so 190 = .ok (.goto 21, 3) := by decide +kernel
theorem dX9_so_193 : decode cX9_so 193 = .ok (.iload_n 3, 1) := by decide +kernel
theorem dX9_so_194 : decode cX9_so 194 = .ok (.ifCond .ne 10, 3) := by decide +kernel
theorem dX9_so_197 : decode cX9_so 197 = .ok (.aload_n 0, 1) := by decide +kernel
theorem dX9_so_198 : decode cX9_so 198 = .ok (.getfield 306, 3) := by decide +kernel
theorem dX9_so_201 : decode cX9_so 201 = .ok (.goto 10, 3) := by decide +kernel
theorem dX9_so_204 : decode cX9_so 204 = .ok (.aload_n 0, 1) := by decide +kernel
theorem dX9_so_205 : decode cX9_so 205 = .ok (.getfield 306, 3) := by decide +kernel
theorem dX9_so_208 : decode cX9_so 208 = .ok (.invokestatic 297, 3) := by decide +kernel
theorem dX9_so_211 : decode cX9_so 211 = .ok (.ireturn, 1) := by decide +kernel
theorem dX9_bestSilence_0 : decode cX9_bestSilence 0 = .ok (.aload_n 0, 1) := by decide +kernel
theorem dX9_bestSilence_1 : decode cX9_bestSilence 1 = .ok (.getfield 25, 3) := by decide +kernel
theorem dX9_bestSilence_4 : decode cX9_bestSilence 4 = .ok (.iload_n 2, 1) := by decide +kernel
theorem dX9_bestSilence_5 : decode cX9_bestSilence 5 = .ok (.iaload, 1) := by decide +kernel
theorem dX9_bestSilence_6 : decode cX9_bestSilence 6 = .ok (.istore 4, 2) := by decide +kernel
theorem dX9_bestSilence_8 : decode cX9_bestSilence 8 = .ok (.bipush (-6), 2) := by decide +kernel
theorem dX9_bestSilence_10 : decode cX9_bestSilence 10 = .ok (.istore 5, 2) := by decide +kernel
theorem dX9_bestSilence_12 : decode cX9_bestSilence 12 = .ok (.iconst 0, 1) := by decide +kernel
theorem dX9_bestSilence_13 : decode cX9_bestSilence 13 = .ok (.istore 6, 2) := by decide +kernel
theorem dX9_bestSilence_15 : decode cX9_bestSilence 15 = .ok (.iconst 1, 1) := by decide +kernel
theorem dX9_bestSilence_16 : decode cX9_bestSilence 16 = .ok (.istore 7, 2) := by decide +kernel
theorem dX9_bestSilence_18 : decode cX9_bestSilence 18 = .ok (.iload 7, 2) := by decide +kernel
theorem dX9_bestSilence_20 : decode cX9_bestSilence 20 = .ok (.ifCond .eq 78, 3) := by decide +kernel
theorem dX9_bestSilence_23 : decode cX9_bestSilence 23 = .ok (.iload 5, 2) := by decide +kernel
theorem dX9_bestSilence_25 : decode cX9_bestSilence 25 = .ok (.ifCond .lt 16, 3) := by decide +kernel
theorem dX9_bestSilence_28 : decode cX9_bestSilence 28 = .ok (.iload 6, 2) := by decide +kernel
theorem dX9_bestSilence_30 : decode cX9_bestSilence 30 = .ok (.invokestatic 297, 3) := by decide +kernel
theorem dX9_bestSilence_33 : decode cX9_bestSilence 33 = .ok (.iload 5, 2) := by decide +kernel
theorem dX9_bestSilence_35 : decode cX9_bestSilence 35 = .ok (.invokestatic 297, 3) := by decide +kernel
theorem dX9_bestSilence_38 : decode cX9_bestSilence 38 = .ok (.if_icmp .ge 37, 3) := by decide +kernel
theorem dX9_bestSilence_41 : decode cX9_bestSilence 41 = .ok (.aload_n 0, 1) := by decide +kernel
theorem dX9_bestSilence_42 : decode cX9_bestSilence 42 = .ok (.getfield 25, 3) := by decide +kernel
theorem dX9_bestSilence_45 : decode cX9_bestSilence 45 = .ok (.iload_n 2, 1) := by decide +kernel
theorem dX9_bestSilence_46 : decode cX9_bestSilence 46 = .ok (.iload 4, 2) := by decide +kernel
theorem dX9_bestSilence_48 : decode cX9_bestSilence 48 = .ok (.iload 6, 2) := by decide +kernel
theorem dX9_bestSilence_50 : decode cX9_bestSilence 50 = .ok (.ior, 1) := by decide +kernel
theorem dX9_bestSilence_51 : decode cX9_bestSilence 51 = .ok (.iastore, 1) := by decide +kernel
theorem dX9_bestSilence_52 : decode cX9_bestSilence 52 = .ok (.aload_n 0, 1) := by decide +kernel
theorem dX9_bestSilence_53 : decode cX9_bestSilence 53 = .ok (.iload_n 2, 1) := by decide +kernel
theorem dX9_bestSilence_54 : decode cX9_bestSilence 54 = .ok (.iload_n 2, 1) := by decide +kernel
theorem dX9_bestSilence_55 : decode cX9_bestSilence 55 = .ok (.invokevirtual 233, 3) := by decide +kernel
theorem dX9_bestSilence_58 : decode cX9_bestSilence 58 = .ok (.aload_n 0, 1) := by decide +kernel
theorem dX9_bestSilence_59 : decode cX9_bestSilence 59 = .ok (.iload_n 1, 1) := by decide +kernel
theorem dX9_bestSilence_60 : decode cX9_bestSilence 60 = .ok (.invokevirtual 309, 3) := by decide +kernel
theorem dX9_bestSilence_63 : decode cX9_bestSilence 63 = .ok (.ifCond .eq 8, 3) := by decide +kernel
theorem dX9_bestSilence_66 : decode cX9_bestSilence 66 = .ok (.iload 6, 2) := by decide +kernel
theorem dX9_bestSilence_68 : decode cX9_bestSilence 68 = .ok (.goto 5, 3) := by decide +kernel
theorem dX9_bestSilence_71 : decode cX9_bestSilence 71 = .ok (.iload 5, 2) := by decide +kernel
theorem dX9_bestSilence_73 : decode cX9_bestSilence 73 = .ok (.istore 5, 2) := by decide +kernel
theorem dX9_bestSilence_75 : decode cX9_bestSilence 75 = .ok (.iload 6, 2) := by decide +kernel
theorem dX9_bestSilence_77 : decode cX9_bestSilence 77 = .ok (.iload_n 3, 1) := by decide +kernel
theorem dX9_bestSilence_78 : decode cX9_bestSilence 78 = .ok (.isub, 1) := by decide +kernel
theorem dX9_bestSilence_79 : decode cX9_bestSilence 79 = .ok (.iload_n 3, 1) := by decide +kernel
theorem dX9_bestSilence_80 : decode cX9_bestSilence 80 = .ok (.iand, 1) := by decide +kernel
theorem dX9_bestSilence_81 : decode cX9_bestSilence 81 = .ok (.istore 6, 2) := by decide +kernel
theorem dX9_bestSilence_83 : decode cX9_bestSilence 83 = .ok (.iload 6, 2) := by decide +kernel
theorem dX9_bestSilence_85 : decode cX9_bestSilence 85 = .ok (.ifCond .eq 7, 3) := by decide +kernel
theorem dX9_bestSilence_88 : decode cX9_bestSilence 88 = .ok (.iconst 1, 1) := by decide +kernel
theorem dX9_bestSilence_89 : decode cX9_bestSilence 89 = .ok (.goto 4, 3) := by decide +kernel
theorem dX9_bestSilence_92 : decode cX9_bestSilence 92 = .ok (.iconst 0, 1) := by decide +kernel
theorem dX9_bestSilence_93 : decode cX9_bestSilence 93 = .ok (.istore 7, 2) := by decide +kernel
theorem dX9_bestSilence_95 : decode cX9_bestSilence 95 = .ok (.goto (-77), 3) := by decide +kernel
theorem dX9_bestSilence_98 : decode cX9_bestSilence 98 = .ok (.aload_n 0, 1) := by decide +kernel
theorem dX9_bestSilence_99 : decode cX9_bestSilence 99 = .ok (.getfield 25, 3) := by decide +kernel
theorem dX9_bestSilence_102 : decode cX9_bestSilence 102 = .ok (.iload_n 2, 1) := by decide +kernel
theorem dX9_bestSilence_103 : decode cX9_bestSilence 103 = .ok (.iload 4, 2) := by decide +kernel
theorem dX9_bestSilence_105 : decode cX9_bestSilence 105 = .ok (.iastore, 1) := by decide +kernel
theorem dX9_bestSilence_106 : decode cX9_bestSilence 106 = .ok (.iload 5, 2) := by decide +kernel
theorem dX9_bestSilence_108 : decode cX9_bestSilence 108 = .ok (.ireturn, 1) := by decide +kernel
theorem dX9_noneBroken_0 : decode cX9_noneBroken 0 = .ok (.iconst 1, 1) := by decide +kernel
theorem dX9_noneBroken_1 : decode cX9_noneBroken 1 = .ok (.istore_n 2, 1) := by decide +kernel
theorem dX9_noneBroken_2 : decode cX9_noneBroken 2 = .ok (.iconst 0, 1) := by decide +kernel
theorem dX9_noneBroken_3 : decode cX9_noneBroken 3 = .ok (.istore_n 3, 1) := by decide +kernel
theorem dX9_noneBroken_4 : decode cX9_noneBroken 4 = .ok (.iload_n 3, 1) := by decide +kernel
theorem dX9_noneBroken_5 : decode cX9_noneBroken 5 = .ok (.sipush 256, 3) := by decide +kernel
theorem dX9_noneBroken_8 : decode cX9_noneBroken 8 = .ok (.if_icmp .ge 66, 3) := by decide +kernel
theorem dX9_noneBroken_11 : decode cX9_noneBroken 11 = .ok (.iload_n 2, 1) := by decide +kernel
theorem dX9_noneBroken_12 : decode cX9_noneBroken 12 = .ok (.ifCond .eq 62, 3) := by decide +kernel
theorem dX9_noneBroken_15 : decode cX9_noneBroken 15 = .ok (.iconst 0, 1) := by decide +kernel
theorem dX9_noneBroken_16 : decode cX9_noneBroken 16 = .ok (.istore 4, 2) := by decide +kernel
theorem dX9_noneBroken_18 : decode cX9_noneBroken 18 = .ok (.iload 4, 2) := by decide +kernel
theorem dX9_noneBroken_20 : decode cX9_noneBroken 20 = .ok (.sipush 256, 3) := by decide +kernel
theorem dX9_noneBroken_23 : decode cX9_noneBroken 23 = .ok (.if_icmp .ge 45, 3) := by decide +kernel
theorem dX9_noneBroken_26 : decode cX9_noneBroken 26 = .ok (.iload_n 2, 1) := by decide +kernel
theorem dX9_noneBroken_27 : decode cX9_noneBroken 27 = .ok (.ifCond .eq 41, 3) := by decide +kernel
theorem dX9_noneBroken_30 : decode cX9_noneBroken 30 = .ok (.aload_n 0, 1) := by decide +kernel
theorem dX9_noneBroken_31 : decode cX9_noneBroken 31 = .ok (.iload_n 1, 1) := by decide +kernel
theorem dX9_noneBroken_32 : decode cX9_noneBroken 32 = .ok (.iload_n 3, 1) := by decide +kernel
theorem dX9_noneBroken_33 : decode cX9_noneBroken 33 = .ok (.iload 4, 2) := by decide +kernel
theorem dX9_noneBroken_35 : decode cX9_noneBroken 35 = .ok (.invokevirtual 212, 3) := by decide +kernel
theorem dX9_noneBroken_38 : decode cX9_noneBroken 38 = .ok (.ifCond .eq 18, 3) := by decide +kernel
theorem dX9_noneBroken_41 : decode cX9_noneBroken 41 = .ok (.aload_n 0, 1) := by decide +kernel
theorem dX9_noneBroken_42 : decode cX9_noneBroken 42 = .ok (.iload_n 1, 1) := by decide +kernel
theorem dX9_noneBroken_43 : decode cX9_noneBroken 43 = .ok (.iload_n 3, 1) := by decide +kernel
theorem dX9_noneBroken_44 : decode cX9_noneBroken 44 = .ok (.sipush 256, 3) := by decide +kernel
theorem dX9_noneBroken_47 : decode cX9_noneBroken 47 = .ok (.iload 4, 2) := by decide +kernel
theorem dX9_noneBroken_49 : decode cX9_noneBroken 49 = .ok (.iadd, 1) := by decide +kernel
theorem dX9_noneBroken_50 : decode cX9_noneBroken 50 = .ok (.invokevirtual 215, 3) := by decide +kernel
theorem dX9_noneBroken_53 : decode cX9_noneBroken 53 = .ok (.ifCond .eq 7, 3) := by decide +kernel
theorem dX9_noneBroken_56 : decode cX9_noneBroken 56 = .ok (.iconst 1, 1) := by decide +kernel
theorem dX9_noneBroken_57 : decode cX9_noneBroken 57 = .ok (.goto 4, 3) := by decide +kernel
theorem dX9_noneBroken_60 : decode cX9_noneBroken 60 = .ok (.iconst 0, 1) := by decide +kernel
theorem dX9_noneBroken_61 : decode cX9_noneBroken 61 = .ok (.istore_n 2, 1) := by decide +kernel
theorem dX9_noneBroken_62 : decode cX9_noneBroken 62 = .ok (.iinc 4 1, 3) := by decide +kernel
theorem dX9_noneBroken_65 : decode cX9_noneBroken 65 = .ok (.goto (-47), 3) := by decide +kernel
theorem dX9_noneBroken_68 : decode cX9_noneBroken 68 = .ok (.iinc 3 1, 3) := by decide +kernel
theorem dX9_noneBroken_71 : decode cX9_noneBroken 71 = .ok (.goto (-67), 3) := by decide +kernel
theorem dX9_noneBroken_74 : decode cX9_noneBroken 74 = .ok (.iload_n 2, 1) := by decide +kernel
theorem dX9_noneBroken_75 : decode cX9_noneBroken 75 = .ok (.ireturn, 1) := by decide +kernel
theorem dX9_areAlikeIn_0 : decode cX9_areAlikeIn 0 = .ok (.iconst 1, 1) := by decide +kernel
theorem dX9_areAlikeIn_1 : decode cX9_areAlikeIn 1 = .ok (.istore_n 3, 1) := by decide +kernel
theorem dX9_areAlikeIn_2 : decode cX9_areAlikeIn 2 = .ok (.iconst 0, 1) := by decide +kernel
theorem dX9_areAlikeIn_3 : decode cX9_areAlikeIn 3 = .ok (.istore 4, 2) := by decide +kernel
theorem dX9_areAlikeIn_5 : decode cX9_areAlikeIn 5 = .ok (.iload 4, 2) := by decide +kernel
theorem dX9_areAlikeIn_7 : decode cX9_areAlikeIn 7 = .ok (.iconst 4, 1) := by decide +kernel
theorem dX9_areAlikeIn_8 : decode cX9_areAlikeIn 8 = .ok (.if_icmp .ge 43, 3) := by decide +kernel
theorem dX9_areAlikeIn_11 : decode cX9_areAlikeIn 11 = .ok (.iload_n 3, 1) := by decide +kernel
theorem dX9_areAlikeIn_12 : decode cX9_areAlikeIn 12 = .ok (.ifCond .eq 31, 3) := by decide +kernel
theorem dX9_areAlikeIn_15 : decode cX9_areAlikeIn 15 = .ok (.iload_n 2, 1) := by decide +kernel
theorem dX9_areAlikeIn_16 : decode cX9_areAlikeIn 16 = .ok (.iload 4, 2) := by decide +kernel
theorem dX9_areAlikeIn_18 : decode cX9_areAlikeIn 18 = .ok (.ishr, 1) := by decide +kernel
theorem dX9_areAlikeIn_19 : decode cX9_areAlikeIn 19 = .ok (.iconst 1, 1) := by decide +kernel
theorem dX9_areAlikeIn_20 : decode cX9_areAlikeIn 20 = .ok (.iand, 1) := by decide +kernel
theorem dX9_areAlikeIn_21 : decode cX9_areAlikeIn 21 = .ok (.ifCond .eq 18, 3) := by decide +kernel
theorem dX9_areAlikeIn_24 : decode cX9_areAlikeIn 24 = .ok (.iload_n 0, 1) := by decide +kernel
theorem dX9_areAlikeIn_25 : decode cX9_areAlikeIn 25 = .ok (.iload 4, 2) := by decide +kernel
theorem dX9_areAlikeIn_27 : decode cX9_areAlikeIn 27 = .ok (.invokestatic 128, 3) := by decide +kernel
theorem dX9_areAlikeIn_30 : decode cX9_areAlikeIn 30 = .ok (.iload_n 1, 1) := by decide +kernel
theorem dX9_areAlikeIn_31 : decode cX9_areAlikeIn 31 = .ok (.iload 4, 2) := by decide +kernel
theorem dX9_areAlikeIn_33 : decode cX9_areAlikeIn 33 = .ok (.invokestatic 128, 3) := by decide +kernel
theorem dX9_areAlikeIn_36 : decode cX9_areAlikeIn 36 = .ok (.if_icmp .ne 7, 3) := by decide +kernel
theorem dX9_areAlikeIn_39 : decode cX9_areAlikeIn 39 = .ok (.iconst 1, 1) := by decide +kernel
theorem dX9_areAlikeIn_40 : decode cX9_areAlikeIn 40 = .ok (.goto 4, 3) := by decide +kernel
theorem dX9_areAlikeIn_43 : decode cX9_areAlikeIn 43 = .ok (.iconst 0, 1) := by decide +kernel
theorem dX9_areAlikeIn_44 : decode cX9_areAlikeIn 44 = .ok (.istore_n 3, 1) := by decide +kernel
theorem dX9_areAlikeIn_45 : decode cX9_areAlikeIn 45 = .ok (.iinc 4 1, 3) := by decide +kernel
theorem dX9_areAlikeIn_48 : decode cX9_areAlikeIn 48 = .ok (.goto (-43), 3) := by decide +kernel
theorem dX9_areAlikeIn_51 : decode cX9_areAlikeIn 51 = .ok (.iload_n 3, 1) := by decide +kernel
theorem dX9_areAlikeIn_52 : decode cX9_areAlikeIn 52 = .ok (.ireturn, 1) := by decide +kernel
theorem dX9_fit_0 : decode cX9_fit 0 = .ok (.iload_n 1, 1) := by decide +kernel
theorem dX9_fit_1 : decode cX9_fit 1 = .ok (.invokestatic 111, 3) := by decide +kernel
theorem dX9_fit_4 : decode cX9_fit 4 = .ok (.ifCond .ne 5, 3) := by decide +kernel
theorem dX9_fit_7 : decode cX9_fit 7 = .ok (.iconst (-1), 1) := by decide +kernel
theorem dX9_fit_8 : decode cX9_fit 8 = .ok (.ireturn, 1) := by decide +kernel
theorem dX9_fit_9 : decode cX9_fit 9 = .ok (.iload_n 2, 1) := by decide +kernel
theorem dX9_fit_10 : decode cX9_fit 10 = .ok (.invokestatic 162, 3) := by decide +kernel
theorem dX9_fit_13 : decode cX9_fit 13 = .ok (.ifCond .eq 39, 3) := by decide +kernel
theorem dX9_fit_16 : decode cX9_fit 16 = .ok (.iload_n 3, 1) := by decide +kernel
theorem dX9_fit_17 : decode cX9_fit 17 = .ok (.i2l, 1) := by decide +kernel
theorem dX9_fit_18 : decode cX9_fit 18 = .ok (.lconst 0, 1) := by decide +kernel
theorem dX9_fit_19 : decode cX9_fit 19 = .ok (.ldc2_w 312, 3) := by decide +kernel
theorem dX9_fit_22 : decode cX9_fit 22 = .ok (.invokestatic 101, 3) := by decide +kernel
theorem dX9_fit_25 : decode cX9_fit 25 = .ok (.ifCond .eq 27, 3) := by decide +kernel
theorem dX9_fit_28 : decode cX9_fit 28 = .ok (.iload 4, 2) := by decide +kernel
theorem dX9_fit_30 : decode cX9_fit 30 = .ok (.i2l, 1) := by decide +kernel
theorem dX9_fit_31 : decode cX9_fit 31 = .ok (.lconst 0, 1) := by decide +kernel
theorem dX9_fit_32 : decode cX9_fit 32 = .ok (.ldc2_w 314, 3) := by decide +kernel
theorem dX9_fit_35 : decode cX9_fit 35 = .ok (.invokestatic 101, 3) := by decide +kernel
theorem dX9_fit_38 : decode cX9_fit 38 = .ok (.ifCond .eq 14, 3) := by decide +kernel
theorem dX9_fit_41 : decode cX9_fit 41 = .ok (.iload 5, 2) := by decide +kernel
theorem dX9_fit_43 : decode cX9_fit 43 = .ok (.i2l, 1) := by decide +kernel
theorem dX9_fit_44 : decode cX9_fit 44 = .ok (.lconst 0, 1) := by decide +kernel
theorem dX9_fit_45 : decode cX9_fit 45 = .ok (.lconst 1, 1) := by decide +kernel
theorem dX9_fit_46 : decode cX9_fit 46 = .ok (.invokestatic 101, 3) := by decide +kernel
theorem dX9_fit_49 : decode cX9_fit 49 = .ok (.ifCond .ne 6, 3) := by decide +kernel
theorem dX9_fit_52 : decode cX9_fit 52 = .ok (.bipush (-2), 2) := by decide +kernel
theorem dX9_fit_54 : decode cX9_fit 54 = .ok (.ireturn, 1) := by decide +kernel
theorem dX9_fit_55 : decode cX9_fit 55 = .ok (.aload_n 0, 1) := by decide +kernel
theorem dX9_fit_56 : decode cX9_fit 56 = .ok (.iload_n 1, 1) := by decide +kernel
theorem dX9_fit_57 : decode cX9_fit 57 = .ok (.iload_n 2, 1) := by decide +kernel
theorem dX9_fit_58 : decode cX9_fit 58 = .ok (.iconst 0, 1) := by decide +kernel
theorem dX9_fit_59 : decode cX9_fit 59 = .ok (.invokevirtual 157, 3) := by decide +kernel
theorem dX9_fit_62 : decode cX9_fit 62 = .ok (.iconst 0, 1) := by decide +kernel
theorem dX9_fit_63 : decode cX9_fit 63 = .ok (.istore 6, 2) := by decide +kernel
theorem dX9_fit_65 : decode cX9_fit 65 = .ok (.bipush (-6), 2) := by decide +kernel
theorem dX9_fit_67 : decode cX9_fit 67 = .ok (.istore 7, 2) := by decide +kernel
theorem dX9_fit_69 : decode cX9_fit 69 = .ok (.iconst 0, 1) := by decide +kernel
theorem dX9_fit_70 : decode cX9_fit 70 = .ok (.istore 8, 2) := by decide +kernel
theorem dX9_fit_72 : decode cX9_fit 72 = .ok (.iload 8, 2) := by decide +kernel
theorem dX9_fit_74 : decode cX9_fit 74 = .ok (.sipush 256, 3) := by decide +kernel
theorem dX9_fit_77 : decode cX9_fit 77 = .ok (.if_icmp .ge 132, 3) := by decide +kernel
theorem dX9_fit_80 : decode cX9_fit 80 = .ok (.iload_n 2, 1) := by decide +kernel
theorem dX9_fit_81 : decode cX9_fit 81 = .ok (.iload 8, 2) := by decide +kernel
theorem dX9_fit_83 : decode cX9_fit 83 = .ok (.iload_n 3, 1) := by decide +kernel
theorem dX9_fit_84 : decode cX9_fit 84 = .ok (.invokestatic 316, 3) := by decide +kernel
theorem dX9_fit_87 : decode cX9_fit 87 = .ok (.ifCond .eq 116, 3) := by decide +kernel
theorem dX9_fit_90 : decode cX9_fit 90 = .ok (.aload_n 0, 1) := by decide +kernel
theorem dX9_fit_91 : decode cX9_fit 91 = .ok (.iload_n 1, 1) := by decide +kernel
theorem dX9_fit_92 : decode cX9_fit 92 = .ok (.iload 8, 2) := by decide +kernel
theorem dX9_fit_94 : decode cX9_fit 94 = .ok (.iconst 1, 1) := by decide +kernel
theorem dX9_fit_95 : decode cX9_fit 95 = .ok (.invokevirtual 157, 3) := by decide +kernel
theorem dX9_fit_98 : decode cX9_fit 98 = .ok (.aload_n 0, 1) := by decide +kernel
theorem dX9_fit_99 : decode cX9_fit 99 = .ok (.getfield 44, 3) := by decide +kernel
theorem dX9_fit_102 : decode cX9_fit 102 = .ok (.iconst 0, 1) := by decide +kernel
theorem dX9_fit_103 : decode cX9_fit 103 = .ok (.iaload, 1) := by decide +kernel
theorem dX9_fit_104 : decode cX9_fit 104 = .ok (.iload 4, 2) := by decide +kernel
theorem dX9_fit_106 : decode cX9_fit 106 = .ok (.if_icmp .lt 22, 3) := by decide +kernel
theorem dX9_fit_109 : decode cX9_fit 109 = .ok (.aload_n 0, 1) := by decide +kernel
theorem dX9_fit_110 : decode cX9_fit 110 = .ok (.getfield 44, 3) := by decide +kernel
theorem dX9_fit_113 : decode cX9_fit 113 = .ok (.iconst 1, 1) := by decide +kernel
theorem dX9_fit_114 : decode cX9_fit 114 = .ok (.iaload, 1) := by decide +kernel
theorem dX9_fit_115 : decode cX9_fit 115 = .ok (.iload 4, 2) := by decide +kernel
theorem dX9_fit_117 : decode cX9_fit 117 = .ok (.if_icmp .lt 7, 3) := by decide +kernel
theorem dX9_fit_120 : decode cX9_fit 120 = .ok (.iconst 1, 1) := by decide +kernel
theorem dX9_fit_121 : decode cX9_fit 121 = .ok (.goto 27, 3) := by decide +kernel
theorem dX9_fit_124 : decode cX9_fit 124 = .ok (.iconst 0, 1) := by decide +kernel
theorem dX9_fit_125 : decode cX9_fit 125 = .ok (.goto 23, 3) := by decide +kernel
theorem dX9_fit_128 : decode cX9_fit 128 = .ok (.aload_n 0, 1) := by decide +kernel
theorem dX9_fit_129 : decode cX9_fit 129 = .ok (.getfield 44, 3) := by decide +kernel
theorem dX9_fit_132 : decode cX9_fit 132 = .ok (.iconst 1, 1) := by decide +kernel
theorem dX9_fit_133 : decode cX9_fit 133 = .ok (.iaload, 1) := by decide +kernel
theorem dX9_fit_134 : decode cX9_fit 134 = .ok (.aload_n 0, 1) := by decide +kernel
theorem dX9_fit_135 : decode cX9_fit 135 = .ok (.getfield 44, 3) := by decide +kernel
theorem dX9_fit_138 : decode cX9_fit 138 = .ok (.iconst 0, 1) := by decide +kernel
theorem dX9_fit_139 : decode cX9_fit 139 = .ok (.iaload, 1) := by decide +kernel
theorem dX9_fit_140 : decode cX9_fit 140 = .ok (.if_icmp .ne 7, 3) := by decide +kernel
theorem dX9_fit_143 : decode cX9_fit 143 = .ok (.iconst 1, 1) := by decide +kernel
theorem dX9_fit_144 : decode cX9_fit 144 = .ok (.goto 4, 3) := by decide +kernel
theorem dX9_fit_147 : decode cX9_fit 147 = .ok (.iconst 0, 1) := by decide +kernel
theorem dX9_fit_148 : decode cX9_fit 148 = .ok (.istore 9, 2) := by decide +kernel
theorem dX9_fit_150 : decode cX9_fit 150 = .ok (.iload 9, 2) := by decide +kernel
theorem dX9_fit_152 : decode cX9_fit 152 = .ok (.ifCond .eq 51, 3) := by decide +kernel
theorem dX9_fit_155 : decode cX9_fit 155 = .ok (.aload_n 0, 1) := by decide +kernel
theorem dX9_fit_156 : decode cX9_fit 156 = .ok (.iconst 0, 1) := by decide +kernel
theorem dX9_fit_157 : decode cX9_fit 157 = .ok (.iconst 1, 1) := by decide +kernel
theorem dX9_fit_158 : decode cX9_fit 158 = .ok (.aload_n 0, 1) := by decide +kernel
theorem dX9_fit_159 : decode cX9_fit 159 = .ok (.getfield 44, 3) := by decide +kernel
theorem dX9_fit_162 : decode cX9_fit 162 = .ok (.iconst 0, 1) := by decide +kernel
theorem dX9_fit_163 : decode cX9_fit 163 = .ok (.iaload, 1) := by decide +kernel
theorem dX9_fit_164 : decode cX9_fit 164 = .ok (.iload 4, 2) := by decide +kernel
theorem dX9_fit_166 : decode cX9_fit 166 = .ok (.if_icmp .ge 12, 3) := by decide +kernel
theorem dX9_fit_169 : decode cX9_fit 169 = .ok (.aload_n 0, 1) := by decide +kernel
theorem dX9_fit_170 : decode cX9_fit 170 = .ok (.getfield 44, 3) := by decide +kernel
theorem dX9_fit_173 : decode cX9_fit 173 = .ok (.iconst 0, 1) := by decide +kernel
theorem dX9_fit_174 : decode cX9_fit 174 = .ok (.iaload, 1) := by decide +kernel
theorem dX9_fit_175 : decode cX9_fit 175 = .ok (.goto 5, 3) := by decide +kernel
theorem dX9_fit_178 : decode cX9_fit 178 = .ok (.iload 4, 2) := by decide +kernel
theorem dX9_fit_180 : decode cX9_fit 180 = .ok (.invokevirtual 206, 3) := by decide +kernel
theorem dX9_fit_183 : decode cX9_fit 183 = .ok (.ifCond .eq 20, 3) := by decide +kernel
theorem dX9_fit_186 : decode cX9_fit 186 = .ok (.iload 6, 2) := by decide +kernel
theorem dX9_fit_188 : decode cX9_fit 188 = .ok (.ifCond .ne 8, 3) := by decide +kernel
theorem dX9_fit_191 : decode cX9_fit 191 = .ok (.iload 8, 2) := by decide +kernel
theorem dX9_fit_193 : decode cX9_fit 193 = .ok (.goto 5, 3) := by decide +kernel
theorem dX9_fit_196 : decode cX9_fit 196 = .ok (.iload 7, 2) := by decide +kernel
theorem dX9_fit_198 : decode cX9_fit 198 = .ok (.istore 7, 2) := by decide +kernel
theorem dX9_fit_200 : decode cX9_fit 200 = .ok (.iinc 6 1, 3) := by decide +kernel
theorem dX9_fit_203 : decode cX9_fit 203 = .ok (.iinc 8 1, 3) := by decide +kernel
theorem dX9_fit_206 : decode cX9_fit 206 = .ok (.goto (-134), 3) := by decide +kernel
theorem dX9_fit_209 : decode cX9_fit 209 = .ok (.iload 5, 2) := by decide +kernel
theorem dX9_fit_211 : decode cX9_fit 211 = .ok (.ifCond .ne 8, 3) := by decide +kernel
theorem dX9_fit_214 : decode cX9_fit 214 = .ok (.iload 6, 2) := by decide +kernel
theorem dX9_fit_216 : decode cX9_fit 216 = .ok (.goto 5, 3) := by decide +kernel
theorem dX9_fit_219 : decode cX9_fit 219 = .ok (.iload 7, 2) := by decide +kernel
theorem dX9_fit_221 : decode cX9_fit 221 = .ok (.ireturn, 1) := by decide +kernel
theorem dX9_far_0 : decode cX9_far 0 = .ok (.iload_n 1, 1) := by decide +kernel
theorem dX9_far_1 : decode cX9_far 1 = .ok (.invokestatic 111, 3) := by decide +kernel
theorem dX9_far_4 : decode cX9_far 4 = .ok (.ifCond .ne 5, 3) := by decide +kernel
theorem dX9_far_7 : decode cX9_far 7 = .ok (.iconst (-1), 1) := by decide +kernel
theorem dX9_far_8 : decode cX9_far 8 = .ok (.ireturn, 1) := by decide +kernel
theorem dX9_far_9 : decode cX9_far 9 = .ok (.iload_n 2, 1) := by decide +kernel
theorem dX9_far_10 : decode cX9_far 10 = .ok (.invokestatic 105, 3) := by decide +kernel
theorem dX9_far_13 : decode cX9_far 13 = .ok (.ifCond .eq 23, 3) := by decide +kernel
theorem dX9_far_16 : decode cX9_far 16 = .ok (.iload_n 3, 1) := by decide +kernel
theorem dX9_far_17 : decode cX9_far 17 = .ok (.invokestatic 105, 3) := by decide +kernel
theorem dX9_far_20 : decode cX9_far 20 = .ok (.ifCond .eq 16, 3) := by decide +kernel
theorem dX9_far_23 : decode cX9_far 23 = .ok (.iload 4, 2) := by decide +kernel
theorem dX9_far_25 : decode cX9_far 25 = .ok (.i2l, 1) := by decide +kernel
theorem dX9_far_26 : decode cX9_far 26 = .ok (.lconst 1, 1) := by decide +kernel
theorem dX9_far_27 : decode cX9_far 27 = .ok (.ldc2_w 99, 3) := by decide +kernel
theorem dX9_far_30 : decode cX9_far 30 = .ok (.invokestatic 101, 3) := by decide +kernel
theorem dX9_far_33 : decode cX9_far 33 = .ok (.ifCond .ne 6, 3) := by decide +kernel
theorem dX9_far_36 : decode cX9_far 36 = .ok (.bipush (-2), 2) := by decide +kernel
theorem dX9_far_38 : decode cX9_far 38 = .ok (.ireturn, 1) := by decide +kernel
theorem dX9_far_39 : decode cX9_far 39 = .ok (.aload_n 0, 1) := by decide +kernel
theorem dX9_far_40 : decode cX9_far 40 = .ok (.iload_n 1, 1) := by decide +kernel
theorem dX9_far_41 : decode cX9_far 41 = .ok (.iload_n 1, 1) := by decide +kernel
theorem dX9_far_42 : decode cX9_far 42 = .ok (.invokevirtual 233, 3) := by decide +kernel
theorem dX9_far_45 : decode cX9_far 45 = .ok (.aload_n 0, 1) := by decide +kernel
end
section
theorem dX9_far_46 : decode cX9_far 46 = .ok (.bipush (-6), 2) := by decide +kernel
theorem dX9_far_48 : decode cX9_far 48 = .ok (.putfield 56, 3) := by decide +kernel
theorem dX9_far_51 : decode cX9_far 51 = .ok (.iconst 0, 1) := by decide +kernel
theorem dX9_far_52 : decode cX9_far 52 = .ok (.istore 5, 2) := by decide +kernel
theorem dX9_far_54 : decode cX9_far 54 = .ok (.iconst 0, 1) := by decide +kernel
theorem dX9_far_55 : decode cX9_far 55 = .ok (.istore 6, 2) := by decide +kernel
theorem dX9_far_57 : decode cX9_far 57 = .ok (.iload 6, 2) := by decide +kernel
theorem dX9_far_59 : decode cX9_far 59 = .ok (.sipush 256, 3) := by decide +kernel
theorem dX9_far_62 : decode cX9_far 62 = .ok (.if_icmp .ge 97, 3) := by decide +kernel
theorem dX9_far_65 : decode cX9_far 65 = .ok (.iconst 0, 1) := by decide +kernel
theorem dX9_far_66 : decode cX9_far 66 = .ok (.istore 7, 2) := by decide +kernel
theorem dX9_far_68 : decode cX9_far 68 = .ok (.iload 7, 2) := by decide +kernel
theorem dX9_far_70 : decode cX9_far 70 = .ok (.iconst 4, 1) := by decide +kernel
theorem dX9_far_71 : decode cX9_far 71 = .ok (.if_icmp .ge 82, 3) := by decide +kernel
theorem dX9_far_74 : decode cX9_far 74 = .ok (.iload 7, 2) := by decide +kernel
theorem dX9_far_76 : decode cX9_far 76 = .ok (.iload 6, 2) := by decide +kernel
theorem dX9_far_78 : decode cX9_far 78 = .ok (.iload_n 2, 1) := by decide +kernel
theorem dX9_far_79 : decode cX9_far 79 = .ok (.invokestatic 128, 3) := by decide +kernel
theorem dX9_far_82 : decode cX9_far 82 = .ok (.isub, 1) := by decide +kernel
theorem dX9_far_83 : decode cX9_far 83 = .ok (.istore 8, 2) := by decide +kernel
theorem dX9_far_85 : decode cX9_far 85 = .ok (.aload_n 0, 1) := by decide +kernel
theorem dX9_far_86 : decode cX9_far 86 = .ok (.getfield 38, 3) := by decide +kernel
theorem dX9_far_89 : decode cX9_far 89 = .ok (.iload 6, 2) := by decide +kernel
theorem dX9_far_91 : decode cX9_far 91 = .ok (.iload_n 2, 1) := by decide +kernel
theorem dX9_far_92 : decode cX9_far 92 = .ok (.iload 7, 2) := by decide +kernel
theorem dX9_far_94 : decode cX9_far 94 = .ok (.invokestatic 143, 3) := by decide +kernel
theorem dX9_far_97 : decode cX9_far 97 = .ok (.iaload, 1) := by decide +kernel
theorem dX9_far_98 : decode cX9_far 98 = .ok (.iload_n 3, 1) := by decide +kernel
theorem dX9_far_99 : decode cX9_far 99 = .ok (.invokestatic 128, 3) := by decide +kernel
theorem dX9_far_102 : decode cX9_far 102 = .ok (.aload_n 0, 1) := by decide +kernel
theorem dX9_far_103 : decode cX9_far 103 = .ok (.getfield 38, 3) := by decide +kernel
theorem dX9_far_106 : decode cX9_far 106 = .ok (.iload 6, 2) := by decide +kernel
theorem dX9_far_108 : decode cX9_far 108 = .ok (.iaload, 1) := by decide +kernel
theorem dX9_far_109 : decode cX9_far 109 = .ok (.iload_n 3, 1) := by decide +kernel
theorem dX9_far_110 : decode cX9_far 110 = .ok (.invokestatic 128, 3) := by decide +kernel
theorem dX9_far_113 : decode cX9_far 113 = .ok (.isub, 1) := by decide +kernel
theorem dX9_far_114 : decode cX9_far 114 = .ok (.istore 9, 2) := by decide +kernel
theorem dX9_far_116 : decode cX9_far 116 = .ok (.iload 8, 2) := by decide +kernel
theorem dX9_far_118 : decode cX9_far 118 = .ok (.iload 4, 2) := by decide +kernel
theorem dX9_far_120 : decode cX9_far 120 = .ok (.if_icmp .gt 23, 3) := by decide +kernel
theorem dX9_far_123 : decode cX9_far 123 = .ok (.iload 8, 2) := by decide +kernel
theorem dX9_far_125 : decode cX9_far 125 = .ok (.iload 4, 2) := by decide +kernel
theorem dX9_far_127 : decode cX9_far 127 = .ok (.ineg, 1) := by decide +kernel
theorem dX9_far_128 : decode cX9_far 128 = .ok (.if_icmp .lt 15, 3) := by decide +kernel
theorem dX9_far_131 : decode cX9_far 131 = .ok (.iload 9, 2) := by decide +kernel
theorem dX9_far_133 : decode cX9_far 133 = .ok (.iload 5, 2) := by decide +kernel
theorem dX9_far_135 : decode cX9_far 135 = .ok (.if_icmp .le 8, 3) := by decide +kernel
theorem dX9_far_138 : decode cX9_far 138 = .ok (.iload 9, 2) := by decide +kernel
theorem dX9_far_140 : decode cX9_far 140 = .ok (.goto 5, 3) := by decide +kernel
theorem dX9_far_143 : decode cX9_far 143 = .ok (.iload 5, 2) := by decide +kernel
theorem dX9_far_145 : decode cX9_far 145 = .ok (.istore 5, 2) := by decide +kernel
theorem dX9_far_147 : decode cX9_far 147 = .ok (.iinc 7 1, 3) := by decide +kernel
theorem dX9_far_150 : decode cX9_far 150 = .ok (.goto (-82), 3) := by decide +kernel
theorem dX9_far_153 : decode cX9_far 153 = .ok (.iinc 6 1, 3) := by decide +kernel
theorem dX9_far_156 : decode cX9_far 156 = .ok (.goto (-99), 3) := by decide +kernel
theorem dX9_far_159 : decode cX9_far 159 = .ok (.iload 5, 2) := by decide +kernel
theorem dX9_far_161 : decode cX9_far 161 = .ok (.ireturn, 1) := by decide +kernel
theorem dX9_unlikeLines_0 : decode cX9_unlikeLines 0 = .ok (.iconst 0, 1) := by decide +kernel
theorem dX9_unlikeLines_1 : decode cX9_unlikeLines 1 = .ok (.istore_n 3, 1) := by decide +kernel
theorem dX9_unlikeLines_2 : decode cX9_unlikeLines 2 = .ok (.iconst 0, 1) := by decide +kernel
theorem dX9_unlikeLines_3 : decode cX9_unlikeLines 3 = .ok (.istore 4, 2) := by decide +kernel
theorem dX9_unlikeLines_5 : decode cX9_unlikeLines 5 = .ok (.iload 4, 2) := by decide +kernel
theorem dX9_unlikeLines_7 : decode cX9_unlikeLines 7 = .ok (.bipush 12, 2) := by decide +kernel
theorem dX9_unlikeLines_9 : decode cX9_unlikeLines 9 = .ok (.if_icmp .ge 166, 3) := by decide +kernel
theorem dX9_unlikeLines_12 : decode cX9_unlikeLines 12 = .ok (.iload 4, 2) := by decide +kernel
theorem dX9_unlikeLines_14 : decode cX9_unlikeLines 14 = .ok (.aload_n 0, 1) := by decide +kernel
theorem dX9_unlikeLines_15 : decode cX9_unlikeLines 15 = .ok (.getfield 22, 3) := by decide +kernel
theorem dX9_unlikeLines_18 : decode cX9_unlikeLines 18 = .ok (.iload_n 1, 1) := by decide +kernel
theorem dX9_unlikeLines_19 : decode cX9_unlikeLines 19 = .ok (.iaload, 1) := by decide +kernel
theorem dX9_unlikeLines_20 : decode cX9_unlikeLines 20 = .ok (.if_icmp .ge 7, 3) := by decide +kernel
theorem dX9_unlikeLines_23 : decode cX9_unlikeLines 23 = .ok (.iconst 1, 1) := by decide +kernel
theorem dX9_unlikeLines_24 : decode cX9_unlikeLines 24 = .ok (.goto 4, 3) := by decide +kernel
theorem dX9_unlikeLines_27 : decode cX9_unlikeLines 27 = .ok (.iconst 0, 1) := by decide +kernel
theorem dX9_unlikeLines_28 : decode cX9_unlikeLines 28 = .ok (.istore 5, 2) := by decide +kernel
theorem dX9_unlikeLines_30 : decode cX9_unlikeLines 30 = .ok (.iload 4, 2) := by decide +kernel
theorem dX9_unlikeLines_32 : decode cX9_unlikeLines 32 = .ok (.aload_n 0, 1) := by decide +kernel
theorem dX9_unlikeLines_33 : decode cX9_unlikeLines 33 = .ok (.getfield 22, 3) := by decide +kernel
theorem dX9_unlikeLines_36 : decode cX9_unlikeLines 36 = .ok (.iload_n 2, 1) := by decide +kernel
theorem dX9_unlikeLines_37 : decode cX9_unlikeLines 37 = .ok (.iaload, 1) := by decide +kernel
theorem dX9_unlikeLines_38 : decode cX9_unlikeLines 38 = .ok (.if_icmp .ge 7, 3) := by decide +kernel
theorem dX9_unlikeLines_41 : decode cX9_unlikeLines 41 = .ok (.iconst 1, 1) := by decide +kernel
theorem dX9_unlikeLines_42 : decode cX9_unlikeLines 42 = .ok (.goto 4, 3) := by decide +kernel
theorem dX9_unlikeLines_45 : decode cX9_unlikeLines 45 = .ok (.iconst 0, 1) := by decide +kernel
theorem dX9_unlikeLines_46 : decode cX9_unlikeLines 46 = .ok (.istore 6, 2) := by decide +kernel
theorem dX9_unlikeLines_48 : decode cX9_unlikeLines 48 = .ok (.bipush 12, 2) := by decide +kernel
theorem dX9_unlikeLines_50 : decode cX9_unlikeLines 50 = .ok (.iload_n 1, 1) := by decide +kernel
theorem dX9_unlikeLines_51 : decode cX9_unlikeLines 51 = .ok (.imul, 1) := by decide +kernel
theorem dX9_unlikeLines_52 : decode cX9_unlikeLines 52 = .ok (.iload 4, 2) := by decide +kernel
theorem dX9_unlikeLines_54 : decode cX9_unlikeLines 54 = .ok (.iadd, 1) := by decide +kernel
theorem dX9_unlikeLines_55 : decode cX9_unlikeLines 55 = .ok (.istore 7, 2) := by decide +kernel
theorem dX9_unlikeLines_57 : decode cX9_unlikeLines 57 = .ok (.bipush 12, 2) := by decide +kernel
theorem dX9_unlikeLines_59 : decode cX9_unlikeLines 59 = .ok (.iload_n 2, 1) := by decide +kernel
theorem dX9_unlikeLines_60 : decode cX9_unlikeLines 60 = .ok (.imul, 1) := by decide +kernel
theorem dX9_unlikeLines_61 : decode cX9_unlikeLines 61 = .ok (.iload 4, 2) := by decide +kernel
theorem dX9_unlikeLines_63 : decode cX9_unlikeLines 63 = .ok (.iadd, 1) := by decide +kernel
theorem dX9_unlikeLines_64 : decode cX9_unlikeLines 64 = .ok (.istore 8, 2) := by decide +kernel
theorem dX9_unlikeLines_66 : decode cX9_unlikeLines 66 = .ok (.iload 5, 2) := by decide +kernel
theorem dX9_unlikeLines_68 : decode cX9_unlikeLines 68 = .ok (.iload 6, 2) := by decide +kernel
theorem dX9_unlikeLines_70 : decode cX9_unlikeLines 70 = .ok (.if_icmp .ne 80, 3) := by decide +kernel
theorem dX9_unlikeLines_73 : decode cX9_unlikeLines 73 = .ok (.iload 5, 2) := by decide +kernel
theorem dX9_unlikeLines_75 : decode cX9_unlikeLines 75 = .ok (.ifCond .eq 71, 3) := by decide +kernel
theorem dX9_unlikeLines_78 : decode cX9_unlikeLines 78 = .ok (.aload_n 0, 1) := by decide +kernel
theorem dX9_unlikeLines_79 : decode cX9_unlikeLines 79 = .ok (.getfield 7, 3) := by decide +kernel
theorem dX9_unlikeLines_82 : decode cX9_unlikeLines 82 = .ok (.iload 7, 2) := by decide +kernel
theorem dX9_unlikeLines_84 : decode cX9_unlikeLines 84 = .ok (.iaload, 1) := by decide +kernel
theorem dX9_unlikeLines_85 : decode cX9_unlikeLines 85 = .ok (.aload_n 0, 1) := by decide +kernel
theorem dX9_unlikeLines_86 : decode cX9_unlikeLines 86 = .ok (.getfield 7, 3) := by decide +kernel
theorem dX9_unlikeLines_89 : decode cX9_unlikeLines 89 = .ok (.iload 8, 2) := by decide +kernel
theorem dX9_unlikeLines_91 : decode cX9_unlikeLines 91 = .ok (.iaload, 1) := by decide +kernel
theorem dX9_unlikeLines_92 : decode cX9_unlikeLines 92 = .ok (.if_icmp .ne 58, 3) := by decide +kernel
theorem dX9_unlikeLines_95 : decode cX9_unlikeLines 95 = .ok (.aload_n 0, 1) := by decide +kernel
theorem dX9_unlikeLines_96 : decode cX9_unlikeLines 96 = .ok (.getfield 13, 3) := by decide +kernel
theorem dX9_unlikeLines_99 : decode cX9_unlikeLines 99 = .ok (.iload 7, 2) := by decide +kernel
theorem dX9_unlikeLines_101 : decode cX9_unlikeLines 101 = .ok (.iaload, 1) := by decide +kernel
theorem dX9_unlikeLines_102 : decode cX9_unlikeLines 102 = .ok (.aload_n 0, 1) := by decide +kernel
theorem dX9_unlikeLines_103 : decode cX9_unlikeLines 103 = .ok (.getfield 13, 3) := by decide +kernel
theorem dX9_unlikeLines_106 : decode cX9_unlikeLines 106 = .ok (.iload 8, 2) := by decide +kernel
theorem dX9_unlikeLines_108 : decode cX9_unlikeLines 108 = .ok (.iaload, 1) := by decide +kernel
theorem dX9_unlikeLines_109 : decode cX9_unlikeLines 109 = .ok (.if_icmp .ne 41, 3) := by decide +kernel
theorem dX9_unlikeLines_112 : decode cX9_unlikeLines 112 = .ok (.aload_n 0, 1) := by decide +kernel
theorem dX9_unlikeLines_113 : decode cX9_unlikeLines 113 = .ok (.getfield 16, 3) := by decide +kernel
theorem dX9_unlikeLines_116 : decode cX9_unlikeLines 116 = .ok (.iload 7, 2) := by decide +kernel
theorem dX9_unlikeLines_118 : decode cX9_unlikeLines 118 = .ok (.iaload, 1) := by decide +kernel
theorem dX9_unlikeLines_119 : decode cX9_unlikeLines 119 = .ok (.aload_n 0, 1) := by decide +kernel
theorem dX9_unlikeLines_120 : decode cX9_unlikeLines 120 = .ok (.getfield 16, 3) := by decide +kernel
theorem dX9_unlikeLines_123 : decode cX9_unlikeLines 123 = .ok (.iload 8, 2) := by decide +kernel
theorem dX9_unlikeLines_125 : decode cX9_unlikeLines 125 = .ok (.iaload, 1) := by decide +kernel
theorem dX9_unlikeLines_126 : decode cX9_unlikeLines 126 = .ok (.if_icmp .ne 24, 3) := by decide +kernel
theorem dX9_unlikeLines_129 : decode cX9_unlikeLines 129 = .ok (.aload_n 0, 1) := by decide +kernel
theorem dX9_unlikeLines_130 : decode cX9_unlikeLines 130 = .ok (.getfield 19, 3) := by decide +kernel
theorem dX9_unlikeLines_133 : decode cX9_unlikeLines 133 = .ok (.iload 7, 2) := by decide +kernel
theorem dX9_unlikeLines_135 : decode cX9_unlikeLines 135 = .ok (.iaload, 1) := by decide +kernel
theorem dX9_unlikeLines_136 : decode cX9_unlikeLines 136 = .ok (.aload_n 0, 1) := by decide +kernel
theorem dX9_unlikeLines_137 : decode cX9_unlikeLines 137 = .ok (.getfield 19, 3) := by decide +kernel
theorem dX9_unlikeLines_140 : decode cX9_unlikeLines 140 = .ok (.iload 8, 2) := by decide +kernel
theorem dX9_unlikeLines_142 : decode cX9_unlikeLines 142 = .ok (.iaload, 1) := by decide +kernel
theorem dX9_unlikeLines_143 : decode cX9_unlikeLines 143 = .ok (.if_icmp .ne 7, 3) := by decide +kernel
theorem dX9_unlikeLines_146 : decode cX9_unlikeLines 146 = .ok (.iconst 1, 1) := by decide +kernel
theorem dX9_unlikeLines_147 : decode cX9_unlikeLines 147 = .ok (.goto 4, 3) := by decide +kernel
theorem dX9_unlikeLines_150 : decode cX9_unlikeLines 150 = .ok (.iconst 0, 1) := by decide +kernel
theorem dX9_unlikeLines_151 : decode cX9_unlikeLines 151 = .ok (.istore 9, 2) := by decide +kernel
theorem dX9_unlikeLines_153 : decode cX9_unlikeLines 153 = .ok (.iload_n 3, 1) := by decide +kernel
theorem dX9_unlikeLines_154 : decode cX9_unlikeLines 154 = .ok (.iload 9, 2) := by decide +kernel
theorem dX9_unlikeLines_156 : decode cX9_unlikeLines 156 = .ok (.ifCond .eq 7, 3) := by decide +kernel
theorem dX9_unlikeLines_159 : decode cX9_unlikeLines 159 = .ok (.iconst 0, 1) := by decide +kernel
theorem dX9_unlikeLines_160 : decode cX9_unlikeLines 160 = .ok (.goto 7, 3) := by decide +kernel
theorem dX9_unlikeLines_163 : decode cX9_unlikeLines 163 = .ok (.iconst 1, 1) := by decide +kernel
theorem dX9_unlikeLines_164 : decode cX9_unlikeLines 164 = .ok (.iload 4, 2) := by decide +kernel
theorem dX9_unlikeLines_166 : decode cX9_unlikeLines 166 = .ok (.ishl, 1) := by decide +kernel
theorem dX9_unlikeLines_167 : decode cX9_unlikeLines 167 = .ok (.ior, 1) := by decide +kernel
theorem dX9_unlikeLines_168 : decode cX9_unlikeLines 168 = .ok (.istore_n 3, 1) := by decide +kernel
theorem dX9_unlikeLines_169 : decode cX9_unlikeLines 169 = .ok (.iinc 4 1, 3) := by decide +kernel
theorem dX9_unlikeLines_172 : decode cX9_unlikeLines 172 = .ok (.goto (-167), 3) := by decide +kernel
theorem dX9_unlikeLines_175 : decode cX9_unlikeLines 175 = .ok (.iload_n 3, 1) := by decide +kernel
theorem dX9_unlikeLines_176 : decode cX9_unlikeLines 176 = .ok (.ireturn, 1) := by decide +kernel
theorem dX9_changed_0 : decode cX9_changed 0 = .ok (.iload_n 1, 1) := by decide +kernel
theorem dX9_changed_1 : decode cX9_changed 1 = .ok (.invokestatic 111, 3) := by decide +kernel
theorem dX9_changed_4 : decode cX9_changed 4 = .ok (.ifCond .eq 10, 3) := by decide +kernel
theorem dX9_changed_7 : decode cX9_changed 7 = .ok (.iload_n 2, 1) := by decide +kernel
theorem dX9_changed_8 : decode cX9_changed 8 = .ok (.invokestatic 111, 3) := by decide +kernel
theorem dX9_changed_11 : decode cX9_changed 11 = .ok (.ifCond .ne 5, 3) := by decide +kernel
theorem dX9_changed_14 : decode cX9_changed 14 = .ok (.iconst (-1), 1) := by decide +kernel
theorem dX9_changed_15 : decode cX9_changed 15 = .ok (.ireturn, 1) := by decide +kernel
theorem dX9_changed_16 : decode cX9_changed 16 = .ok (.iload_n 3, 1) := by decide +kernel
theorem dX9_changed_17 : decode cX9_changed 17 = .ok (.i2l, 1) := by decide +kernel
theorem dX9_changed_18 : decode cX9_changed 18 = .ok (.lconst 0, 1) := by decide +kernel
theorem dX9_changed_19 : decode cX9_changed 19 = .ok (.ldc2_w 270, 3) := by decide +kernel
theorem dX9_changed_22 : decode cX9_changed 22 = .ok (.invokestatic 101, 3) := by decide +kernel
theorem dX9_changed_25 : decode cX9_changed 25 = .ok (.ifCond .ne 6, 3) := by decide +kernel
theorem dX9_changed_28 : decode cX9_changed 28 = .ok (.bipush (-2), 2) := by decide +kernel
theorem dX9_changed_30 : decode cX9_changed 30 = .ok (.ireturn, 1) := by decide +kernel
theorem dX9_changed_31 : decode cX9_changed 31 = .ok (.iload_n 3, 1) := by decide +kernel
theorem dX9_changed_32 : decode cX9_changed 32 = .ok (.iconst 2, 1) := by decide +kernel
theorem dX9_changed_33 : decode cX9_changed 33 = .ok (.if_icmp .ne 10, 3) := by decide +kernel
theorem dX9_changed_36 : decode cX9_changed 36 = .ok (.aload_n 0, 1) := by decide +kernel
theorem dX9_changed_37 : decode cX9_changed 37 = .ok (.iload_n 1, 1) := by decide +kernel
theorem dX9_changed_38 : decode cX9_changed 38 = .ok (.iload_n 2, 1) := by decide +kernel
theorem dX9_changed_39 : decode cX9_changed 39 = .ok (.invokevirtual 319, 3) := by decide +kernel
theorem dX9_changed_42 : decode cX9_changed 42 = .ok (.ireturn, 1) := by decide +kernel
theorem dX9_changed_43 : decode cX9_changed 43 = .ok (.aload_n 0, 1) := by decide +kernel
theorem dX9_changed_44 : decode cX9_changed 44 = .ok (.iload_n 1, 1) := by decide +kernel
theorem dX9_changed_45 : decode cX9_changed 45 = .ok (.iload_n 2, 1) := by decide +kernel
theorem dX9_changed_46 : decode cX9_changed 46 = .ok (.invokevirtual 233, 3) := by decide +kernel
theorem dX9_changed_49 : decode cX9_changed 49 = .ok (.aload_n 0, 1) := by decide +kernel
theorem dX9_changed_50 : decode cX9_changed 50 = .ok (.bipush (-6), 2) := by decide +kernel
theorem dX9_changed_52 : decode cX9_changed 52 = .ok (.putfield 56, 3) := by decide +kernel
theorem dX9_changed_55 : decode cX9_changed 55 = .ok (.iconst 0, 1) := by decide +kernel
theorem dX9_changed_56 : decode cX9_changed 56 = .ok (.istore 4, 2) := by decide +kernel
theorem dX9_changed_58 : decode cX9_changed 58 = .ok (.bipush (-6), 2) := by decide +kernel
theorem dX9_changed_60 : decode cX9_changed 60 = .ok (.istore 5, 2) := by decide +kernel
theorem dX9_changed_62 : decode cX9_changed 62 = .ok (.iconst 0, 1) := by decide +kernel
theorem dX9_changed_63 : decode cX9_changed 63 = .ok (.istore 6, 2) := by decide +kernel
theorem dX9_changed_65 : decode cX9_changed 65 = .ok (.iload 6, 2) := by decide +kernel
theorem dX9_changed_67 : decode cX9_changed 67 = .ok (.sipush 256, 3) := by decide +kernel
theorem dX9_changed_70 : decode cX9_changed 70 = .ok (.if_icmp .ge 127, 3) := by decide +kernel
theorem dX9_changed_73 : decode cX9_changed 73 = .ok (.sipush 256, 3) := by decide +kernel
theorem dX9_changed_76 : decode cX9_changed 76 = .ok (.iload 6, 2) := by decide +kernel
theorem dX9_changed_78 : decode cX9_changed 78 = .ok (.iadd, 1) := by decide +kernel
theorem dX9_changed_79 : decode cX9_changed 79 = .ok (.istore 7, 2) := by decide +kernel
theorem dX9_changed_81 : decode cX9_changed 81 = .ok (.aload_n 0, 1) := by decide +kernel
theorem dX9_changed_82 : decode cX9_changed 82 = .ok (.getfield 38, 3) := by decide +kernel
theorem dX9_changed_85 : decode cX9_changed 85 = .ok (.iload 6, 2) := by decide +kernel
theorem dX9_changed_87 : decode cX9_changed 87 = .ok (.iaload, 1) := by decide +kernel
theorem dX9_changed_88 : decode cX9_changed 88 = .ok (.aload_n 0, 1) := by decide +kernel
theorem dX9_changed_89 : decode cX9_changed 89 = .ok (.getfield 38, 3) := by decide +kernel
theorem dX9_changed_92 : decode cX9_changed 92 = .ok (.iload 7, 2) := by decide +kernel
theorem dX9_changed_94 : decode cX9_changed 94 = .ok (.iaload, 1) := by decide +kernel
theorem dX9_changed_95 : decode cX9_changed 95 = .ok (.if_icmp .ne 59, 3) := by decide +kernel
theorem dX9_changed_98 : decode cX9_changed 98 = .ok (.aload_n 0, 1) := by decide +kernel
theorem dX9_changed_99 : decode cX9_changed 99 = .ok (.getfield 35, 3) := by decide +kernel
theorem dX9_changed_102 : decode cX9_changed 102 = .ok (.iload 6, 2) := by decide +kernel
theorem dX9_changed_104 : decode cX9_changed 104 = .ok (.iaload, 1) := by decide +kernel
theorem dX9_changed_105 : decode cX9_changed 105 = .ok (.aload_n 0, 1) := by decide +kernel
theorem dX9_changed_106 : decode cX9_changed 106 = .ok (.getfield 35, 3) := by decide +kernel
theorem dX9_changed_109 : decode cX9_changed 109 = .ok (.iload 7, 2) := by decide +kernel
theorem dX9_changed_111 : decode cX9_changed 111 = .ok (.iaload, 1) := by decide +kernel
theorem dX9_changed_112 : decode cX9_changed 112 = .ok (.if_icmp .ne 42, 3) := by decide +kernel
theorem dX9_changed_115 : decode cX9_changed 115 = .ok (.aload_n 0, 1) := by decide +kernel
theorem dX9_changed_116 : decode cX9_changed 116 = .ok (.getfield 44, 3) := by decide +kernel
theorem dX9_changed_119 : decode cX9_changed 119 = .ok (.iload 6, 2) := by decide +kernel
theorem dX9_changed_121 : decode cX9_changed 121 = .ok (.iaload, 1) := by decide +kernel
theorem dX9_changed_122 : decode cX9_changed 122 = .ok (.aload_n 0, 1) := by decide +kernel
theorem dX9_changed_123 : decode cX9_changed 123 = .ok (.getfield 44, 3) := by decide +kernel
theorem dX9_changed_126 : decode cX9_changed 126 = .ok (.iload 7, 2) := by decide +kernel
theorem dX9_changed_128 : decode cX9_changed 128 = .ok (.iaload, 1) := by decide +kernel
theorem dX9_changed_129 : decode cX9_changed 129 = .ok (.if_icmp .ne 25, 3) := by decide +kernel
theorem dX9_changed_132 : decode cX9_changed 132 = .ok (.aload_n 0, 1) := by decide +kernel
theorem dX9_changed_133 : decode cX9_changed 133 = .ok (.iload 6, 2) := by decide +kernel
theorem dX9_changed_135 : decode cX9_changed 135 = .ok (.iload 7, 2) := by decide +kernel
theorem dX9_changed_137 : decode cX9_changed 137 = .ok (.aload_n 0, 1) := by decide +kernel
theorem dX9_changed_138 : decode cX9_changed 138 = .ok (.getfield 44, 3) := by decide +kernel
theorem dX9_changed_141 : decode cX9_changed 141 = .ok (.iload 6, 2) := by decide +kernel
theorem dX9_changed_143 : decode cX9_changed 143 = .ok (.iaload, 1) := by decide +kernel
theorem dX9_changed_144 : decode cX9_changed 144 = .ok (.invokevirtual 206, 3) := by decide +kernel
theorem dX9_changed_147 : decode cX9_changed 147 = .ok (.ifCond .eq 7, 3) := by decide +kernel
theorem dX9_changed_150 : decode cX9_changed 150 = .ok (.iconst 1, 1) := by decide +kernel
theorem dX9_changed_151 : decode cX9_changed 151 = .ok (.goto 4, 3) := by decide +kernel
theorem dX9_changed_154 : decode cX9_changed 154 = .ok (.iconst 0, 1) := by decide +kernel
theorem dX9_changed_155 : decode cX9_changed 155 = .ok (.istore 8, 2) := by decide +kernel
theorem dX9_changed_157 : decode cX9_changed 157 = .ok (.iload 8, 2) := by decide +kernel
theorem dX9_changed_159 : decode cX9_changed 159 = .ok (.ifCond .ne 13, 3) := by decide +kernel
theorem dX9_changed_162 : decode cX9_changed 162 = .ok (.iload 4, 2) := by decide +kernel
theorem dX9_changed_164 : decode cX9_changed 164 = .ok (.ifCond .ne 8, 3) := by decide +kernel
theorem dX9_changed_167 : decode cX9_changed 167 = .ok (.iload 6, 2) := by decide +kernel
theorem dX9_changed_169 : decode cX9_changed 169 = .ok (.goto 5, 3) := by decide +kernel
theorem dX9_changed_172 : decode cX9_changed 172 = .ok (.iload 5, 2) := by decide +kernel
theorem dX9_changed_174 : decode cX9_changed 174 = .ok (.istore 5, 2) := by decide +kernel
theorem dX9_changed_176 : decode cX9_changed 176 = .ok (.iload 4, 2) := by decide +kernel
theorem dX9_changed_178 : decode cX9_changed 178 = .ok (.iload 8, 2) := by decide +kernel
theorem dX9_changed_180 : decode cX9_changed 180 = .ok (.ifCond .eq 7, 3) := by decide +kernel
theorem dX9_changed_183 : decode cX9_changed 183 = .ok (.iconst 0, 1) := by decide +kernel
theorem dX9_changed_184 : decode cX9_changed 184 = .ok (.goto 4, 3) := by decide +kernel
theorem dX9_changed_187 : decode cX9_changed 187 = .ok (.iconst 1, 1) := by decide +kernel
theorem dX9_changed_188 : decode cX9_changed 188 = .ok (.iadd, 1) := by decide +kernel
theorem dX9_changed_189 : decode cX9_changed 189 = .ok (.istore 4, 2) := by decide +kernel
theorem dX9_changed_191 : decode cX9_changed 191 = .ok (.iinc 6 1, 3) := by decide +kernel
theorem dX9_changed_194 : decode cX9_changed 194 = .ok (.goto (-129), 3) := by decide +kernel
theorem dX9_changed_197 : decode cX9_changed 197 = .ok (.iload_n 3, 1) := by decide +kernel
theorem dX9_changed_198 : decode cX9_changed 198 = .ok (.ifCond .ne 8, 3) := by decide +kernel
theorem dX9_changed_201 : decode cX9_changed 201 = .ok (.iload 4, 2) := by decide +kernel
theorem dX9_changed_203 : decode cX9_changed 203 = .ok (.goto 5, 3) := by decide +kernel
theorem dX9_changed_206 : decode cX9_changed 206 = .ok (.iload 5, 2) := by decide +kernel
theorem dX9_changed_208 : decode cX9_changed 208 = .ok (.ireturn, 1) := by decide +kernel
theorem dX9_come_0 : decode cX9_come 0 = .ok (.sipush 256, 3) := by decide +kernel
theorem dX9_come_3 : decode cX9_come 3 = .ok (.bipush 13, 2) := by decide +kernel
theorem dX9_come_5 : decode cX9_come 5 = .ok (.iload_n 1, 1) := by decide +kernel
theorem dX9_come_6 : decode cX9_come 6 = .ok (.imul, 1) := by decide +kernel
theorem dX9_come_7 : decode cX9_come 7 = .ok (.iload_n 2, 1) := by decide +kernel
theorem dX9_come_8 : decode cX9_come 8 = .ok (.iadd, 1) := by decide +kernel
theorem dX9_come_9 : decode cX9_come 9 = .ok (.imul, 1) := by decide +kernel
theorem dX9_come_10 : decode cX9_come 10 = .ok (.iload_n 3, 1) := by decide +kernel
theorem dX9_come_11 : decode cX9_come 11 = .ok (.iadd, 1) := by decide +kernel
theorem dX9_come_12 : decode cX9_come 12 = .ok (.istore 4, 2) := by decide +kernel
theorem dX9_come_14 : decode cX9_come 14 = .ok (.aload_n 0, 1) := by decide +kernel
theorem dX9_come_15 : decode cX9_come 15 = .ok (.getfield 83, 3) := by decide +kernel
theorem dX9_come_18 : decode cX9_come 18 = .ok (.iload 4, 2) := by decide +kernel
theorem dX9_come_20 : decode cX9_come 20 = .ok (.baload, 1) := by decide +kernel
theorem dX9_come_21 : decode cX9_come 21 = .ok (.ifCond .ne 32, 3) := by decide +kernel
theorem dX9_come_24 : decode cX9_come 24 = .ok (.aload_n 0, 1) := by decide +kernel
theorem dX9_come_25 : decode cX9_come 25 = .ok (.getfield 83, 3) := by decide +kernel
theorem dX9_come_28 : decode cX9_come 28 = .ok (.iload 4, 2) := by decide +kernel
theorem dX9_come_30 : decode cX9_come 30 = .ok (.iconst 1, 1) := by decide +kernel
theorem dX9_come_31 : decode cX9_come 31 = .ok (.bastore, 1) := by decide +kernel
theorem dX9_come_32 : decode cX9_come 32 = .ok (.aload_n 0, 1) := by decide +kernel
theorem dX9_come_33 : decode cX9_come 33 = .ok (.getfield 86, 3) := by decide +kernel
theorem dX9_come_36 : decode cX9_come 36 = .ok (.aload_n 0, 1) := by decide +kernel
theorem dX9_come_37 : decode cX9_come 37 = .ok (.getfield 322, 3) := by decide +kernel
theorem dX9_come_40 : decode cX9_come 40 = .ok (.iload 4, 2) := by decide +kernel
theorem dX9_come_42 : decode cX9_come 42 = .ok (.iastore, 1) := by decide +kernel
theorem dX9_come_43 : decode cX9_come 43 = .ok (.aload_n 0, 1) := by decide +kernel
theorem dX9_come_44 : decode cX9_come 44 = .ok (.dup, 1) := by decide +kernel
theorem dX9_come_45 : decode cX9_come 45 = .ok (.getfield 322, 3) := by decide +kernel
theorem dX9_come_48 : decode cX9_come 48 = .ok (.iconst 1, 1) := by decide +kernel
theorem dX9_come_49 : decode cX9_come 49 = .ok (.iadd, 1) := by decide +kernel
theorem dX9_come_50 : decode cX9_come 50 = .ok (.putfield 322, 3) := by decide +kernel
theorem dX9_come_53 : decode cX9_come 53 = .ok (.return_, 1) := by decide +kernel
theorem dX9_findOrders_0 : decode cX9_findOrders 0 = .ok (.aload_n 0, 1) := by decide +kernel
theorem dX9_findOrders_1 : decode cX9_findOrders 1 = .ok (.iload_n 1, 1) := by decide +kernel
theorem dX9_findOrders_2 : decode cX9_findOrders 2 = .ok (.invokevirtual 151, 3) := by decide +kernel
theorem dX9_findOrders_5 : decode cX9_findOrders 5 = .ok (.aload_n 0, 1) := by decide +kernel
theorem dX9_findOrders_6 : decode cX9_findOrders 6 = .ok (.iload_n 2, 1) := by decide +kernel
theorem dX9_findOrders_7 : decode cX9_findOrders 7 = .ok (.invokevirtual 151, 3) := by decide +kernel
theorem dX9_findOrders_10 : decode cX9_findOrders 10 = .ok (.iconst 0, 1) := by decide +kernel
theorem dX9_findOrders_11 : decode cX9_findOrders 11 = .ok (.istore 4, 2) := by decide +kernel
theorem dX9_findOrders_13 : decode cX9_findOrders 13 = .ok (.iload 4, 2) := by decide +kernel
theorem dX9_findOrders_15 : decode cX9_findOrders 15 = .ok (.ldc 82, 2) := by decide +kernel
theorem dX9_findOrders_17 : decode cX9_findOrders 17 = .ok (.if_icmp .ge 17, 3) := by decide +kernel
theorem dX9_findOrders_20 : decode cX9_findOrders 20 = .ok (.aload_n 0, 1) := by decide +kernel
theorem dX9_findOrders_21 : decode cX9_findOrders 21 = .ok (.getfield 83, 3) := by decide +kernel
theorem dX9_findOrders_24 : decode cX9_findOrders 24 = .ok (.iload 4, 2) := by decide +kernel
theorem dX9_findOrders_26 : decode cX9_findOrders 26 = .ok (.iconst 0, 1) := by decide +kernel
theorem dX9_findOrders_27 : decode cX9_findOrders 27 = .ok (.bastore, 1) := by decide +kernel
theorem dX9_findOrders_28 : decode cX9_findOrders 28 = .ok (.iinc 4 1, 3) := by decide +kernel
theorem dX9_findOrders_31 : decode cX9_findOrders 31 = .ok (.goto (-18), 3) := by decide +kernel
theorem dX9_findOrders_34 : decode cX9_findOrders 34 = .ok (.aload_n 0, 1) := by decide +kernel
theorem dX9_findOrders_35 : decode cX9_findOrders 35 = .ok (.iconst 0, 1) := by decide +kernel
theorem dX9_findOrders_36 : decode cX9_findOrders 36 = .ok (.putfield 322, 3) := by decide +kernel
theorem dX9_findOrders_39 : decode cX9_findOrders 39 = .ok (.aload_n 0, 1) := by decide +kernel
theorem dX9_findOrders_40 : decode cX9_findOrders 40 = .ok (.aload_n 0, 1) := by decide +kernel
theorem dX9_findOrders_41 : decode cX9_findOrders 41 = .ok (.iload_n 1, 1) := by decide +kernel
theorem dX9_findOrders_42 : decode cX9_findOrders 42 = .ok (.iconst 0, 1) := by decide +kernel
theorem dX9_findOrders_43 : decode cX9_findOrders 43 = .ok (.invokevirtual 134, 3) := by decide +kernel
theorem dX9_findOrders_46 : decode cX9_findOrders 46 = .ok (.aload_n 0, 1) := by decide +kernel
theorem dX9_findOrders_47 : decode cX9_findOrders 47 = .ok (.iload_n 2, 1) := by decide +kernel
theorem dX9_findOrders_48 : decode cX9_findOrders 48 = .ok (.iconst 0, 1) := by decide +kernel
theorem dX9_findOrders_49 : decode cX9_findOrders 49 = .ok (.invokevirtual 134, 3) := by decide +kernel
theorem dX9_findOrders_52 : decode cX9_findOrders 52 = .ok (.iload_n 3, 1) := by decide +kernel
theorem dX9_findOrders_53 : decode cX9_findOrders 53 = .ok (.invokevirtual 325, 3) := by decide +kernel
theorem dX9_findOrders_56 : decode cX9_findOrders 56 = .ok (.iconst 0, 1) := by decide +kernel
theorem dX9_findOrders_57 : decode cX9_findOrders 57 = .ok (.istore 4, 2) := by decide +kernel
theorem dX9_findOrders_59 : decode cX9_findOrders 59 = .ok (.iload 4, 2) := by decide +kernel
theorem dX9_findOrders_61 : decode cX9_findOrders 61 = .ok (.aload_n 0, 1) := by decide +kernel
theorem dX9_findOrders_62 : decode cX9_findOrders 62 = .ok (.getfield 322, 3) := by decide +kernel
theorem dX9_findOrders_65 : decode cX9_findOrders 65 = .ok (.if_icmp .ge 114, 3) := by decide +kernel
theorem dX9_findOrders_68 : decode cX9_findOrders 68 = .ok (.aload_n 0, 1) := by decide +kernel
theorem dX9_findOrders_69 : decode cX9_findOrders 69 = .ok (.getfield 86, 3) := by decide +kernel
theorem dX9_findOrders_72 : decode cX9_findOrders 72 = .ok (.iload 4, 2) := by decide +kernel
theorem dX9_findOrders_74 : decode cX9_findOrders 74 = .ok (.iaload, 1) := by decide +kernel
theorem dX9_findOrders_75 : decode cX9_findOrders 75 = .ok (.sipush 256, 3) := by decide +kernel
theorem dX9_findOrders_78 : decode cX9_findOrders 78 = .ok (.idiv, 1) := by decide +kernel
theorem dX9_findOrders_79 : decode cX9_findOrders 79 = .ok (.bipush 13, 2) := by decide +kernel
theorem dX9_findOrders_81 : decode cX9_findOrders 81 = .ok (.idiv, 1) := by decide +kernel
theorem dX9_findOrders_82 : decode cX9_findOrders 82 = .ok (.istore 5, 2) := by decide +kernel
theorem dX9_findOrders_84 : decode cX9_findOrders 84 = .ok (.aload_n 0, 1) := by decide +kernel
theorem dX9_findOrders_85 : decode cX9_findOrders 85 = .ok (.getfield 86, 3) := by decide +kernel
theorem dX9_findOrders_88 : decode cX9_findOrders 88 = .ok (.iload 4, 2) := by decide +kernel
theorem dX9_findOrders_90 : decode cX9_findOrders 90 = .ok (.iaload, 1) := by decide +kernel
theorem dX9_findOrders_91 : decode cX9_findOrders 91 = .ok (.sipush 256, 3) := by decide +kernel
theorem dX9_findOrders_94 : decode cX9_findOrders 94 = .ok (.idiv, 1) := by decide +kernel
theorem dX9_findOrders_95 : decode cX9_findOrders 95 = .ok (.bipush 13, 2) := by decide +kernel
theorem dX9_findOrders_97 : decode cX9_findOrders 97 = .ok (.irem, 1) := by decide +kernel
theorem dX9_findOrders_98 : decode cX9_findOrders 98 = .ok (.istore 6, 2) := by decide +kernel
theorem dX9_findOrders_100 : decode cX9_findOrders 100 = .ok (.aload_n 0, 1) := by decide +kernel
theorem dX9_findOrders_101 : decode cX9_findOrders 101 = .ok (.getfield 86, 3) := by decide +kernel
theorem dX9_findOrders_104 : decode cX9_findOrders 104 = .ok (.iload 4, 2) := by decide +kernel
theorem dX9_findOrders_106 : decode cX9_findOrders 106 = .ok (.iaload, 1) := by decide +kernel
theorem dX9_findOrders_107 : decode cX9_findOrders 107 = .ok (.sipush 256, 3) := by decide +kernel
theorem dX9_findOrders_110 : decode cX9_findOrders 110 = .ok (.irem, 1) := by decide +kernel
theorem dX9_findOrders_111 : decode cX9_findOrders 111 = .ok (.istore 7, 2) := by decide +kernel
theorem dX9_findOrders_113 : decode cX9_findOrders 113 = .ok (.iload 5, 2) := by decide +kernel
theorem dX9_findOrders_115 : decode cX9_findOrders 115 = .ok (.bipush 12, 2) := by decide +kernel
theorem dX9_findOrders_117 : decode cX9_findOrders 117 = .ok (.if_icmp .ge 26, 3) := by decide +kernel
theorem dX9_findOrders_120 : decode cX9_findOrders 120 = .ok (.aload_n 0, 1) := by decide +kernel
theorem dX9_findOrders_121 : decode cX9_findOrders 121 = .ok (.iload_n 1, 1) := by decide +kernel
theorem dX9_findOrders_122 : decode cX9_findOrders 122 = .ok (.iload 5, 2) := by decide +kernel
theorem dX9_findOrders_124 : decode cX9_findOrders 124 = .ok (.iload 7, 2) := by decide +kernel
theorem dX9_findOrders_126 : decode cX9_findOrders 126 = .ok (.invokevirtual 154, 3) := by decide +kernel
theorem dX9_findOrders_129 : decode cX9_findOrders 129 = .ok (.aload_n 0, 1) := by decide +kernel
theorem dX9_findOrders_130 : decode cX9_findOrders 130 = .ok (.aload_n 0, 1) := by decide +kernel
theorem dX9_findOrders_131 : decode cX9_findOrders 131 = .ok (.getfield 137, 3) := by decide +kernel
theorem dX9_findOrders_134 : decode cX9_findOrders 134 = .ok (.iload 6, 2) := by decide +kernel
theorem dX9_findOrders_136 : decode cX9_findOrders 136 = .ok (.aload_n 0, 1) := by decide +kernel
theorem dX9_findOrders_137 : decode cX9_findOrders 137 = .ok (.getfield 131, 3) := by decide +kernel
theorem dX9_findOrders_140 : decode cX9_findOrders 140 = .ok (.invokevirtual 325, 3) := by decide +kernel
theorem dX9_findOrders_143 : decode cX9_findOrders 143 = .ok (.iload 6, 2) := by decide +kernel
theorem dX9_findOrders_145 : decode cX9_findOrders 145 = .ok (.bipush 12, 2) := by decide +kernel
theorem dX9_findOrders_147 : decode cX9_findOrders 147 = .ok (.if_icmp .ge 26, 3) := by decide +kernel
theorem dX9_findOrders_150 : decode cX9_findOrders 150 = .ok (.aload_n 0, 1) := by decide +kernel
theorem dX9_findOrders_151 : decode cX9_findOrders 151 = .ok (.iload_n 2, 1) := by decide +kernel
theorem dX9_findOrders_152 : decode cX9_findOrders 152 = .ok (.iload 6, 2) := by decide +kernel
theorem dX9_findOrders_154 : decode cX9_findOrders 154 = .ok (.iload 7, 2) := by decide +kernel
theorem dX9_findOrders_156 : decode cX9_findOrders 156 = .ok (.invokevirtual 154, 3) := by decide +kernel
theorem dX9_findOrders_159 : decode cX9_findOrders 159 = .ok (.aload_n 0, 1) := by decide +kernel
theorem dX9_findOrders_160 : decode cX9_findOrders 160 = .ok (.iload 5, 2) := by decide +kernel
theorem dX9_findOrders_162 : decode cX9_findOrders 162 = .ok (.aload_n 0, 1) := by decide +kernel
theorem dX9_findOrders_163 : decode cX9_findOrders 163 = .ok (.getfield 137, 3) := by decide +kernel
theorem dX9_findOrders_166 : decode cX9_findOrders 166 = .ok (.aload_n 0, 1) := by decide +kernel
theorem dX9_findOrders_167 : decode cX9_findOrders 167 = .ok (.getfield 131, 3) := by decide +kernel
theorem dX9_findOrders_170 : decode cX9_findOrders 170 = .ok (.invokevirtual 325, 3) := by decide +kernel
theorem dX9_findOrders_173 : decode cX9_findOrders 173 = .ok (.iinc 4 1, 3) := by decide +kernel
theorem dX9_findOrders_176 : decode cX9_findOrders 176 = .ok (.goto (-117), 3) := by decide +kernel
theorem dX9_findOrders_179 : decode cX9_findOrders 179 = .ok (.return_, 1) := by decide +kernel
theorem dX9_orders_0 : decode cX9_orders 0 = .ok (.iload_n 1, 1) := by decide +kernel
theorem dX9_orders_1 : decode cX9_orders 1 = .ok (.invokestatic 111, 3) := by decide +kernel
theorem dX9_orders_4 : decode cX9_orders 4 = .ok (.ifCond .eq 10, 3) := by decide +kernel
theorem dX9_orders_7 : decode cX9_orders 7 = .ok (.iload_n 2, 1) := by decide +kernel
theorem dX9_orders_8 : decode cX9_orders 8 = .ok (.invokestatic 111, 3) := by decide +kernel
theorem dX9_orders_11 : decode cX9_orders 11 = .ok (.ifCond .ne 5, 3) := by decide +kernel
theorem dX9_orders_14 : decode cX9_orders 14 = .ok (.iconst (-1), 1) := by decide +kernel
theorem dX9_orders_15 : decode cX9_orders 15 = .ok (.ireturn, 1) := by decide +kernel
theorem dX9_orders_16 : decode cX9_orders 16 = .ok (.iload_n 3, 1) := by decide +kernel
theorem dX9_orders_17 : decode cX9_orders 17 = .ok (.invokestatic 162, 3) := by decide +kernel
theorem dX9_orders_20 : decode cX9_orders 20 = .ok (.ifCond .eq 29, 3) := by decide +kernel
theorem dX9_orders_23 : decode cX9_orders 23 = .ok (.iload 4, 2) := by decide +kernel
theorem dX9_orders_25 : decode cX9_orders 25 = .ok (.i2l, 1) := by decide +kernel
theorem dX9_orders_26 : decode cX9_orders 26 = .ok (.lconst 0, 1) := by decide +kernel
theorem dX9_orders_27 : decode cX9_orders 27 = .ok (.lconst 1, 1) := by decide +kernel
theorem dX9_orders_28 : decode cX9_orders 28 = .ok (.invokestatic 101, 3) := by decide +kernel
theorem dX9_orders_31 : decode cX9_orders 31 = .ok (.ifCond .ne 21, 3) := by decide +kernel
theorem dX9_orders_34 : decode cX9_orders 34 = .ok (.iload 4, 2) := by decide +kernel
theorem dX9_orders_36 : decode cX9_orders 36 = .ok (.i2l, 1) := by decide +kernel
theorem dX9_orders_37 : decode cX9_orders 37 = .ok (.ldc2_w 165, 3) := by decide +kernel
theorem dX9_orders_40 : decode cX9_orders 40 = .ok (.ldc2_w 328, 3) := by decide +kernel
theorem dX9_orders_43 : decode cX9_orders 43 = .ok (.invokestatic 101, 3) := by decide +kernel
theorem dX9_orders_46 : decode cX9_orders 46 = .ok (.ifCond .ne 6, 3) := by decide +kernel
theorem dX9_orders_49 : decode cX9_orders 49 = .ok (.bipush (-2), 2) := by decide +kernel
theorem dX9_orders_51 : decode cX9_orders 51 = .ok (.ireturn, 1) := by decide +kernel
theorem dX9_orders_52 : decode cX9_orders 52 = .ok (.aload_n 0, 1) := by decide +kernel
theorem dX9_orders_53 : decode cX9_orders 53 = .ok (.iload_n 1, 1) := by decide +kernel
theorem dX9_orders_54 : decode cX9_orders 54 = .ok (.iload_n 2, 1) := by decide +kernel
theorem dX9_orders_55 : decode cX9_orders 55 = .ok (.iload_n 3, 1) := by decide +kernel
theorem dX9_orders_56 : decode cX9_orders 56 = .ok (.invokevirtual 330, 3) := by decide +kernel
theorem dX9_orders_59 : decode cX9_orders 59 = .ok (.ldc_w 333, 3) := by decide +kernel
theorem dX9_orders_62 : decode cX9_orders 62 = .ok (.istore 5, 2) := by decide +kernel
theorem dX9_orders_64 : decode cX9_orders 64 = .ok (.iload 4, 2) := by decide +kernel
theorem dX9_orders_66 : decode cX9_orders 66 = .ok (.bipush 9, 2) := by decide +kernel
theorem dX9_orders_68 : decode cX9_orders 68 = .ok (.if_icmp .le 25, 3) := by decide +kernel
theorem dX9_orders_71 : decode cX9_orders 71 = .ok (.aload_n 0, 1) := by decide +kernel
theorem dX9_orders_72 : decode cX9_orders 72 = .ok (.getfield 83, 3) := by decide +kernel
theorem dX9_orders_75 : decode cX9_orders 75 = .ok (.iload 5, 2) := by decide +kernel
theorem dX9_orders_77 : decode cX9_orders 77 = .ok (.iload 4, 2) := by decide +kernel
theorem dX9_orders_79 : decode cX9_orders 79 = .ok (.iadd, 1) := by decide +kernel
theorem dX9_orders_80 : decode cX9_orders 80 = .ok (.bipush 10, 2) := by decide +kernel
theorem dX9_orders_82 : decode cX9_orders 82 = .ok (.isub, 1) := by decide +kernel
theorem dX9_orders_83 : decode cX9_orders 83 = .ok (.baload, 1) := by decide +kernel
theorem dX9_orders_84 : decode cX9_orders 84 = .ok (.ifCond .eq 7, 3) := by decide +kernel
theorem dX9_orders_87 : decode cX9_orders 87 = .ok (.iconst 1, 1) := by decide +kernel
theorem dX9_orders_88 : decode cX9_orders 88 = .ok (.goto 4, 3) := by decide +kernel
theorem dX9_orders_91 : decode cX9_orders 91 = .ok (.iconst 0, 1) := by decide +kernel
theorem dX9_orders_92 : decode cX9_orders 92 = .ok (.ireturn, 1) := by decide +kernel
theorem dX9_orders_93 : decode cX9_orders 93 = .ok (.iconst 0, 1) := by decide +kernel
theorem dX9_orders_94 : decode cX9_orders 94 = .ok (.istore 6, 2) := by decide +kernel
theorem dX9_orders_96 : decode cX9_orders 96 = .ok (.bipush (-6), 2) := by decide +kernel
theorem dX9_orders_98 : decode cX9_orders 98 = .ok (.istore 7, 2) := by decide +kernel
theorem dX9_orders_100 : decode cX9_orders 100 = .ok (.sipush 255, 3) := by decide +kernel
theorem dX9_orders_103 : decode cX9_orders 103 = .ok (.istore 8, 2) := by decide +kernel
theorem dX9_orders_105 : decode cX9_orders 105 = .ok (.iload 8, 2) := by decide +kernel
theorem dX9_orders_107 : decode cX9_orders 107 = .ok (.ifCond .lt 54, 3) := by decide +kernel
theorem dX9_orders_110 : decode cX9_orders 110 = .ok (.aload_n 0, 1) := by decide +kernel
theorem dX9_orders_111 : decode cX9_orders 111 = .ok (.getfield 83, 3) := by decide +kernel
theorem dX9_orders_114 : decode cX9_orders 114 = .ok (.iload 5, 2) := by decide +kernel
theorem dX9_orders_116 : decode cX9_orders 116 = .ok (.iload 8, 2) := by decide +kernel
theorem dX9_orders_118 : decode cX9_orders 118 = .ok (.iadd, 1) := by decide +kernel
theorem dX9_orders_119 : decode cX9_orders 119 = .ok (.baload, 1) := by decide +kernel
theorem dX9_orders_120 : decode cX9_orders 120 = .ok (.ifCond .eq 8, 3) := by decide +kernel
theorem dX9_orders_123 : decode cX9_orders 123 = .ok (.iload 8, 2) := by decide +kernel
theorem dX9_orders_125 : decode cX9_orders 125 = .ok (.goto 5, 3) := by decide +kernel
theorem dX9_orders_128 : decode cX9_orders 128 = .ok (.iload 7, 2) := by decide +kernel
theorem dX9_orders_130 : decode cX9_orders 130 = .ok (.istore 7, 2) := by decide +kernel
theorem dX9_orders_132 : decode cX9_orders 132 = .ok (.iload 6, 2) := by decide +kernel
theorem dX9_orders_134 : decode cX9_orders 134 = .ok (.aload_n 0, 1) := by decide +kernel
theorem dX9_orders_135 : decode cX9_orders 135 = .ok (.getfield 83, 3) := by decide +kernel
theorem dX9_orders_138 : decode cX9_orders 138 = .ok (.iload 5, 2) := by decide +kernel
theorem dX9_orders_140 : decode cX9_orders 140 = .ok (.iload 8, 2) := by decide +kernel
theorem dX9_orders_142 : decode cX9_orders 142 = .ok (.iadd, 1) := by decide +kernel
theorem dX9_orders_143 : decode cX9_orders 143 = .ok (.baload, 1) := by decide +kernel
theorem dX9_orders_144 : decode cX9_orders 144 = .ok (.ifCond .eq 7, 3) := by decide +kernel
theorem dX9_orders_147 : decode cX9_orders 147 = .ok (.iconst 1, 1) := by decide +kernel
theorem dX9_orders_148 : decode cX9_orders 148 = .ok (.goto 4, 3) := by decide +kernel
theorem dX9_orders_151 : decode cX9_orders 151 = .ok (.iconst 0, 1) := by decide +kernel
theorem dX9_orders_152 : decode cX9_orders 152 = .ok (.iadd, 1) := by decide +kernel
theorem dX9_orders_153 : decode cX9_orders 153 = .ok (.istore 6, 2) := by decide +kernel
theorem dX9_orders_155 : decode cX9_orders 155 = .ok (.iinc 8 (-1), 3) := by decide +kernel
theorem dX9_orders_158 : decode cX9_orders 158 = .ok (.goto (-53), 3) := by decide +kernel
theorem dX9_orders_161 : decode cX9_orders 161 = .ok (.iload 4, 2) := by decide +kernel
theorem dX9_orders_163 : decode cX9_orders 163 = .ok (.ifCond .ne 8, 3) := by decide +kernel
theorem dX9_orders_166 : decode cX9_orders 166 = .ok (.iload 6, 2) := by decide +kernel
theorem dX9_orders_168 : decode cX9_orders 168 = .ok (.goto 5, 3) := by decide +kernel
theorem dX9_orders_171 : decode cX9_orders 171 = .ok (.iload 7, 2) := by decide +kernel
theorem dX9_orders_173 : decode cX9_orders 173 = .ok (.ireturn, 1) := by decide +kernel
theorem dX9_told_0 : decode cX9_told 0 = .ok (.iload_n 1, 1) := by decide +kernel
theorem dX9_told_1 : decode cX9_told 1 = .ok (.i2l, 1) := by decide +kernel
theorem dX9_told_2 : decode cX9_told 2 = .ok (.ldc2_w 165, 3) := by decide +kernel
theorem dX9_told_5 : decode cX9_told 5 = .ok (.ldc2_w 334, 3) := by decide +kernel
theorem dX9_told_8 : decode cX9_told 8 = .ok (.invokestatic 101, 3) := by decide +kernel
theorem dX9_told_11 : decode cX9_told 11 = .ok (.ifCond .eq 13, 3) := by decide +kernel
theorem dX9_told_14 : decode cX9_told 14 = .ok (.aload_n 0, 1) := by decide +kernel
theorem dX9_told_15 : decode cX9_told 15 = .ok (.getfield 22, 3) := by decide +kernel
theorem dX9_told_18 : decode cX9_told 18 = .ok (.iload_n 1, 1) := by decide +kernel
theorem dX9_told_19 : decode cX9_told 19 = .ok (.bipush 10, 2) := by decide +kernel
theorem dX9_told_21 : decode cX9_told 21 = .ok (.isub, 1) := by decide +kernel
theorem dX9_told_22 : decode cX9_told 22 = .ok (.iaload, 1) := by decide +kernel
theorem dX9_told_23 : decode cX9_told 23 = .ok (.ireturn, 1) := by decide +kernel
theorem dX9_told_24 : decode cX9_told 24 = .ok (.iload_n 1, 1) := by decide +kernel
theorem dX9_told_25 : decode cX9_told 25 = .ok (.i2l, 1) := by decide +kernel
theorem dX9_told_26 : decode cX9_told 26 = .ok (.ldc2_w 336, 3) := by decide +kernel
theorem dX9_told_29 : decode cX9_told 29 = .ok (.ldc2_w 338, 3) := by decide +kernel
theorem dX9_told_32 : decode cX9_told 32 = .ok (.invokestatic 101, 3) := by decide +kernel
theorem dX9_told_35 : decode cX9_told 35 = .ok (.ifCond .eq 13, 3) := by decide +kernel
theorem dX9_told_38 : decode cX9_told 38 = .ok (.aload_n 0, 1) := by decide +kernel
theorem dX9_told_39 : decode cX9_told 39 = .ok (.getfield 25, 3) := by decide +kernel
theorem dX9_told_42 : decode cX9_told 42 = .ok (.iload_n 1, 1) := by decide +kernel
theorem dX9_told_43 : decode cX9_told 43 = .ok (.bipush 20, 2) := by decide +kernel
theorem dX9_told_45 : decode cX9_told 45 = .ok (.isub, 1) := by decide +kernel
theorem dX9_told_46 : decode cX9_told 46 = .ok (.iaload, 1) := by decide +kernel
theorem dX9_told_47 : decode cX9_told 47 = .ok (.ireturn, 1) := by decide +kernel
theorem dX9_told_48 : decode cX9_told 48 = .ok (.iload_n 1, 1) := by decide +kernel
theorem dX9_told_49 : decode cX9_told 49 = .ok (.ifCond .ne 10, 3) := by decide +kernel
theorem dX9_told_52 : decode cX9_told 52 = .ok (.aload_n 0, 1) := by decide +kernel
theorem dX9_told_53 : decode cX9_told 53 = .ok (.getfield 188, 3) := by decide +kernel
theorem dX9_told_56 : decode cX9_told 56 = .ok (.goto 20, 3) := by decide +kernel
theorem dX9_told_59 : decode cX9_told 59 = .ok (.iload_n 1, 1) := by decide +kernel
theorem dX9_told_60 : decode cX9_told 60 = .ok (.iconst 1, 1) := by decide +kernel
theorem dX9_told_61 : decode cX9_told 61 = .ok (.if_icmp .ne 13, 3) := by decide +kernel
theorem dX9_told_64 : decode cX9_told 64 = .ok (.aload_n 0, 1) := by decide +kernel
theorem dX9_told_65 : decode cX9_told 65 = .ok (.getfield 53, 3) := by decide +kernel
theorem dX9_told_68 : decode cX9_told 68 = .ok (.bipush 6, 2) := by decide +kernel
theorem dX9_told_70 : decode cX9_told 70 = .ok (.iaload, 1) := by decide +kernel
theorem dX9_told_71 : decode cX9_told 71 = .ok (.goto 5, 3) := by decide +kernel
theorem dX9_told_74 : decode cX9_told 74 = .ok (.bipush (-2), 2) := by decide +kernel
theorem dX9_told_76 : decode cX9_told 76 = .ok (.ireturn, 1) := by decide +kernel
theorem dJ6_bitCount_0f7a4_0 : decode cJ6_bitCount_0f7a4 0 = .ok (.iload_n 0, 1) := by decide +kernel
theorem dJ6_bitCount_0f7a4_1 : decode cJ6_bitCount_0f7a4 1 = .ok (.iload_n 0, 1) := by decide +kernel
theorem dJ6_bitCount_0f7a4_2 : decode cJ6_bitCount_0f7a4 2 = .ok (.iconst 1, 1) := by decide +kernel
theorem dJ6_bitCount_0f7a4_3 : decode cJ6_bitCount_0f7a4 3 = .ok (.iushr, 1) := by decide +kernel
theorem dJ6_bitCount_0f7a4_4 : decode cJ6_bitCount_0f7a4 4 = .ok (.ldc_w 265, 3) := by decide +kernel
theorem dJ6_bitCount_0f7a4_7 : decode cJ6_bitCount_0f7a4 7 = .ok (.iand, 1) := by decide +kernel
theorem dJ6_bitCount_0f7a4_8 : decode cJ6_bitCount_0f7a4 8 = .ok (.isub, 1) := by decide +kernel
theorem dJ6_bitCount_0f7a4_9 : decode cJ6_bitCount_0f7a4 9 = .ok (.istore_n 0, 1) := by decide +kernel
theorem dJ6_bitCount_0f7a4_10 : decode cJ6_bitCount_0f7a4 10 = .ok (.iload_n 0, 1) := by decide +kernel
theorem dJ6_bitCount_0f7a4_11 : decode cJ6_bitCount_0f7a4 11 = .ok (.ldc_w 266, 3) := by decide +kernel
theorem dJ6_bitCount_0f7a4_14 : decode cJ6_bitCount_0f7a4 14 = .ok (.iand, 1) := by decide +kernel
theorem dJ6_bitCount_0f7a4_15 : decode cJ6_bitCount_0f7a4 15 = .ok (.iload_n 0, 1) := by decide +kernel
theorem dJ6_bitCount_0f7a4_16 : decode cJ6_bitCount_0f7a4 16 = .ok (.iconst 2, 1) := by decide +kernel
theorem dJ6_bitCount_0f7a4_17 : decode cJ6_bitCount_0f7a4 17 = .ok (.iushr, 1) := by decide +kernel
theorem dJ6_bitCount_0f7a4_18 : decode cJ6_bitCount_0f7a4 18 = .ok (.ldc_w 266, 3) := by decide +kernel
theorem dJ6_bitCount_0f7a4_21 : decode cJ6_bitCount_0f7a4 21 = .ok (.iand, 1) := by decide +kernel
theorem dJ6_bitCount_0f7a4_22 : decode cJ6_bitCount_0f7a4 22 = .ok (.iadd, 1) := by decide +kernel
theorem dJ6_bitCount_0f7a4_23 : decode cJ6_bitCount_0f7a4 23 = .ok (.istore_n 0, 1) := by decide +kernel
theorem dJ6_bitCount_0f7a4_24 : decode cJ6_bitCount_0f7a4 24 = .ok (.iload_n 0, 1) := by decide +kernel
theorem dJ6_bitCount_0f7a4_25 : decode cJ6_bitCount_0f7a4 25 = .ok (.iload_n 0, 1) := by decide +kernel
theorem dJ6_bitCount_0f7a4_26 : decode cJ6_bitCount_0f7a4 26 = .ok (.iconst 4, 1) := by decide +kernel
theorem dJ6_bitCount_0f7a4_27 : decode cJ6_bitCount_0f7a4 27 = .ok (.iushr, 1) := by decide +kernel
theorem dJ6_bitCount_0f7a4_28 : decode cJ6_bitCount_0f7a4 28 = .ok (.iadd, 1) := by decide +kernel
theorem dJ6_bitCount_0f7a4_29 : decode cJ6_bitCount_0f7a4 29 = .ok (.ldc_w 267, 3) := by decide +kernel
theorem dJ6_bitCount_0f7a4_32 : decode cJ6_bitCount_0f7a4 32 = .ok (.iand, 1) := by decide +kernel
theorem dJ6_bitCount_0f7a4_33 : decode cJ6_bitCount_0f7a4 33 = .ok (.istore_n 0, 1) := by decide +kernel
theorem dJ6_bitCount_0f7a4_34 : decode cJ6_bitCount_0f7a4 34 = .ok (.iload_n 0, 1) := by decide +kernel
theorem dJ6_bitCount_0f7a4_35 : decode cJ6_bitCount_0f7a4 35 = .ok (.iload_n 0, 1) := by decide +kernel
theorem dJ6_bitCount_0f7a4_36 : decode cJ6_bitCount_0f7a4 36 = .ok (.bipush 8, 2) := by decide +kernel
theorem dJ6_bitCount_0f7a4_38 : decode cJ6_bitCount_0f7a4 38 = .ok (.iushr, 1) := by decide +kernel
theorem dJ6_bitCount_0f7a4_39 : decode cJ6_bitCount_0f7a4 39 = .ok (.iadd, 1) := by decide +kernel
theorem dJ6_bitCount_0f7a4_40 : decode cJ6_bitCount_0f7a4 40 = .ok (.istore_n 0, 1) := by decide +kernel
theorem dJ6_bitCount_0f7a4_41 : decode cJ6_bitCount_0f7a4 41 = .ok (.iload_n 0, 1) := by decide +kernel
theorem dJ6_bitCount_0f7a4_42 : decode cJ6_bitCount_0f7a4 42 = .ok (.iload_n 0, 1) := by decide +kernel
theorem dJ6_bitCount_0f7a4_43 : decode cJ6_bitCount_0f7a4 43 = .ok (.bipush 16, 2) := by decide +kernel
theorem dJ6_bitCount_0f7a4_45 : decode cJ6_bitCount_0f7a4 45 = .ok (.iushr, 1) := by decide +kernel
theorem dJ6_bitCount_0f7a4_46 : decode cJ6_bitCount_0f7a4 46 = .ok (.iadd, 1) := by decide +kernel
theorem dJ6_bitCount_0f7a4_47 : decode cJ6_bitCount_0f7a4 47 = .ok (.istore_n 0, 1) := by decide +kernel
theorem dJ6_bitCount_0f7a4_48 : decode cJ6_bitCount_0f7a4 48 = .ok (.iload_n 0, 1) := by decide +kernel
theorem dJ6_bitCount_0f7a4_49 : decode cJ6_bitCount_0f7a4 49 = .ok (.bipush 63, 2) := by decide +kernel
theorem dJ6_bitCount_0f7a4_51 : decode cJ6_bitCount_0f7a4 51 = .ok (.iand, 1) := by decide +kernel
theorem dJ6_bitCount_0f7a4_52 : decode cJ6_bitCount_0f7a4 52 = .ok (.ireturn, 1) := by decide +kernel
theorem dJ7_fill_d0a16_0 : decode cJ7_fill_d0a16 0 = .ok (.iconst 0, 1) := by decide +kernel
theorem dJ7_fill_d0a16_1 : decode cJ7_fill_d0a16 1 = .ok (.istore_n 3, 1) := by decide +kernel
theorem dJ7_fill_d0a16_2 : decode cJ7_fill_d0a16 2 = .ok (.aload_n 0, 1) := by decide +kernel
theorem dJ7_fill_d0a16_3 : decode cJ7_fill_d0a16 3 = .ok (.arraylength, 1) := by decide +kernel
theorem dJ7_fill_d0a16_4 : decode cJ7_fill_d0a16 4 = .ok (.istore 4, 2) := by decide +kernel
theorem dJ7_fill_d0a16_6 : decode cJ7_fill_d0a16 6 = .ok (.iload_n 3, 1) := by decide +kernel
theorem dJ7_fill_d0a16_7 : decode cJ7_fill_d0a16 7 = .ok (.iload 4, 2) := by decide +kernel
theorem dJ7_fill_d0a16_9 : decode cJ7_fill_d0a16 9 = .ok (.if_icmp .ge 13, 3) := by decide +kernel
theorem dJ7_fill_d0a16_12 : decode cJ7_fill_d0a16 12 = .ok (.aload_n 0, 1) := by decide +kernel
theorem dJ7_fill_d0a16_13 : decode cJ7_fill_d0a16 13 = .ok (.iload_n 3, 1) := by decide +kernel
theorem dJ7_fill_d0a16_14 : decode cJ7_fill_d0a16 14 = .ok (.lload_n 1, 1) := by decide +kernel
theorem dJ7_fill_d0a16_15 : decode cJ7_fill_d0a16 15 = .ok (.lastore, 1) := by decide +kernel
theorem dJ7_fill_d0a16_16 : decode cJ7_fill_d0a16 16 = .ok (.iinc 3 1, 3) := by decide +kernel
theorem dJ7_fill_d0a16_19 : decode cJ7_fill_d0a16 19 = .ok (.goto (-13), 3) := by decide +kernel
theorem dJ7_fill_d0a16_22 : decode cJ7_fill_d0a16 22 = .ok (.return_, 1) := by decide +kernel
theorem dJ7_fill_53178_0 : decode cJ7_fill_53178 0 = .ok (.iconst 0, 1) := by decide +kernel
theorem dJ7_fill_53178_1 : decode cJ7_fill_53178 1 = .ok (.istore_n 2, 1) := by decide +kernel
theorem dJ7_fill_53178_2 : decode cJ7_fill_53178 2 = .ok (.aload_n 0, 1) := by decide +kernel
theorem dJ7_fill_53178_3 : decode cJ7_fill_53178 3 = .ok (.arraylength, 1) := by decide +kernel
theorem dJ7_fill_53178_4 : decode cJ7_fill_53178 4 = .ok (.istore_n 3, 1) := by decide +kernel
theorem dJ7_fill_53178_5 : decode cJ7_fill_53178 5 = .ok (.iload_n 2, 1) := by decide +kernel
theorem dJ7_fill_53178_6 : decode cJ7_fill_53178 6 = .ok (.iload_n 3, 1) := by decide +kernel
theorem dJ7_fill_53178_7 : decode cJ7_fill_53178 7 = .ok (.if_icmp .ge 13, 3) := by decide +kernel
theorem dJ7_fill_53178_10 : decode cJ7_fill_53178 10 = .ok (.aload_n 0, 1) := by decide +kernel
theorem dJ7_fill_53178_11 : decode cJ7_fill_53178 11 = .ok (.iload_n 2, 1) := by decide +kernel
theorem dJ7_fill_53178_12 : decode cJ7_fill_53178 12 = .ok (.iload_n 1, 1) := by decide +kernel
theorem dJ7_fill_53178_13 : decode cJ7_fill_53178 13 = .ok (.iastore, 1) := by decide +kernel
theorem dJ7_fill_53178_14 : decode cJ7_fill_53178 14 = .ok (.iinc 2 1, 3) := by decide +kernel
theorem dJ7_fill_53178_17 : decode cJ7_fill_53178 17 = .ok (.goto (-12), 3) := by decide +kernel
theorem dJ7_fill_53178_20 : decode cJ7_fill_53178 20 = .ok (.return_, 1) := by decide +kernel
theorem dJ9_abs_0f7a4_0 : decode cJ9_abs_0f7a4 0 = .ok (.iload_n 0, 1) := by decide +kernel
theorem dJ9_abs_0f7a4_1 : decode cJ9_abs_0f7a4 1 = .ok (.ifCond .ge 8, 3) := by decide +kernel
theorem dJ9_abs_0f7a4_4 : decode cJ9_abs_0f7a4 4 = .ok (.iload_n 0, 1) := by decide +kernel
theorem dJ9_abs_0f7a4_5 : decode cJ9_abs_0f7a4 5 = .ok (.ineg, 1) := by decide +kernel
theorem dJ9_abs_0f7a4_6 : decode cJ9_abs_0f7a4 6 = .ok (.goto 4, 3) := by decide +kernel
theorem dJ9_abs_0f7a4_9 : decode cJ9_abs_0f7a4 9 = .ok (.iload_n 0, 1) := by decide +kernel
theorem dJ9_abs_0f7a4_10 : decode cJ9_abs_0f7a4 10 = .ok (.ireturn, 1) := by decide +kernel
theorem dJ9_max_7cf53_0 : decode cJ9_max_7cf53 0 = .ok (.iload_n 0, 1) := by decide +kernel
theorem dJ9_max_7cf53_1 : decode cJ9_max_7cf53 1 = .ok (.iload_n 1, 1) := by decide +kernel
theorem dJ9_max_7cf53_2 : decode cJ9_max_7cf53 2 = .ok (.if_icmp .lt 7, 3) := by decide +kernel
theorem dJ9_max_7cf53_5 : decode cJ9_max_7cf53 5 = .ok (.iload_n 0, 1) := by decide +kernel
theorem dJ9_max_7cf53_6 : decode cJ9_max_7cf53 6 = .ok (.goto 4, 3) := by decide +kernel
theorem dJ9_max_7cf53_9 : decode cJ9_max_7cf53 9 = .ok (.iload_n 1, 1) := by decide +kernel
theorem dJ9_max_7cf53_10 : decode cJ9_max_7cf53 10 = .ok (.ireturn, 1) := by decide +kernel
theorem dJ9_min_7cf53_0 : decode cJ9_min_7cf53 0 = .ok (.iload_n 0, 1) := by decide +kernel
theorem dJ9_min_7cf53_1 : decode cJ9_min_7cf53 1 = .ok (.iload_n 1, 1) := by decide +kernel
theorem dJ9_min_7cf53_2 : decode cJ9_min_7cf53 2 = .ok (.if_icmp .gt 7, 3) := by decide +kernel
theorem dJ9_min_7cf53_5 : decode cJ9_min_7cf53 5 = .ok (.iload_n 0, 1) := by decide +kernel
theorem dJ9_min_7cf53_6 : decode cJ9_min_7cf53 6 = .ok (.goto 4, 3) := by decide +kernel
theorem dJ9_min_7cf53_9 : decode cJ9_min_7cf53 9 = .ok (.iload_n 1, 1) := by decide +kernel
theorem dJ9_min_7cf53_10 : decode cJ9_min_7cf53 10 = .ok (.ireturn, 1) := by decide +kernel
theorem dL_law_0 : decode cL_law 0 = .ok (.new 7, 3) := by decide +kernel
theorem dL_law_3 : decode cL_law 3 = .ok (.dup, 1) := by decide +kernel
theorem dL_law_4 : decode cL_law 4 = .ok (.invokespecial 9, 3) := by decide +kernel
theorem dL_law_7 : decode cL_law 7 = .ok (.astore_n 1, 1) := by decide +kernel
theorem dL_law_8 : decode cL_law 8 = .ok (.new 10, 3) := by decide +kernel
theorem dL_law_11 : decode cL_law 11 = .ok (.dup, 1) := by decide +kernel
theorem dL_law_12 : decode cL_law 12 = .ok (.invokespecial 12, 3) := by decide +kernel
theorem dL_law_15 : decode cL_law 15 = .ok (.astore_n 2, 1) := by decide +kernel
theorem dL_law_16 : decode cL_law 16 = .ok (.iconst 0, 1) := by decide +kernel
theorem dL_law_17 : decode cL_law 17 = .ok (.istore_n 3, 1) := by decide +kernel
theorem dL_law_18 : decode cL_law 18 = .ok (.iload_n 3, 1) := by decide +kernel
theorem dL_law_19 : decode cL_law 19 = .ok (.aload_n 0, 1) := by decide +kernel
theorem dL_law_20 : decode cL_law 20 = .ok (.arraylength, 1) := by decide +kernel
theorem dL_law_21 : decode cL_law 21 = .ok (.bipush 7, 2) := by decide +kernel
theorem dL_law_23 : decode cL_law 23 = .ok (.isub, 1) := by decide +kernel
theorem dL_law_24 : decode cL_law 24 = .ok (.if_icmp .gt 1125, 3) := by decide +kernel
theorem dL_law_27 : decode cL_law 27 = .ok (.aload_n 0, 1) := by decide +kernel
theorem dL_law_28 : decode cL_law 28 = .ok (.iload_n 3, 1) := by decide +kernel
theorem dL_law_29 : decode cL_law 29 = .ok (.iaload, 1) := by decide +kernel
theorem dL_law_30 : decode cL_law 30 = .ok (.bipush 31, 2) := by decide +kernel
theorem dL_law_32 : decode cL_law 32 = .ok (.iand, 1) := by decide +kernel
theorem dL_law_33 : decode cL_law 33 = .ok (.tableswitch 1110 0 22 #[107, 170, 245, 268, 301, 344, 367, 380, 393, 406, 481, 534, 587, 630, 683, 746, 789, 832, 875, 938, 991, 1034, 1087], 107) := by decide +kernel
theorem dL_law_140 : decode cL_law 140 = .ok (.aload_n 1, 1) := by decide +kernel
theorem dL_law_141 : decode cL_law 141 = .ok (.aload_n 0, 1) := by decide +kernel
theorem dL_law_142 : decode cL_law 142 = .ok (.iload_n 3, 1) := by decide +kernel
theorem dL_law_143 : decode cL_law 143 = .ok (.iconst 1, 1) := by decide +kernel
theorem dL_law_144 : decode cL_law 144 = .ok (.iadd, 1) := by decide +kernel
theorem dL_law_145 : decode cL_law 145 = .ok (.iaload, 1) := by decide +kernel
theorem dL_law_146 : decode cL_law 146 = .ok (.aload_n 0, 1) := by decide +kernel
theorem dL_law_147 : decode cL_law 147 = .ok (.iload_n 3, 1) := by decide +kernel
theorem dL_law_148 : decode cL_law 148 = .ok (.iconst 2, 1) := by decide +kernel
theorem dL_law_149 : decode cL_law 149 = .ok (.iadd, 1) := by decide +kernel
theorem dL_law_150 : decode cL_law 150 = .ok (.iaload, 1) := by decide +kernel
theorem dL_law_151 : decode cL_law 151 = .ok (.aload_n 0, 1) := by decide +kernel
theorem dL_law_152 : decode cL_law 152 = .ok (.iload_n 3, 1) := by decide +kernel
theorem dL_law_153 : decode cL_law 153 = .ok (.iconst 3, 1) := by decide +kernel
theorem dL_law_154 : decode cL_law 154 = .ok (.iadd, 1) := by decide +kernel
theorem dL_law_155 : decode cL_law 155 = .ok (.iaload, 1) := by decide +kernel
theorem dL_law_156 : decode cL_law 156 = .ok (.aload_n 0, 1) := by decide +kernel
theorem dL_law_157 : decode cL_law 157 = .ok (.iload_n 3, 1) := by decide +kernel
theorem dL_law_158 : decode cL_law 158 = .ok (.iconst 4, 1) := by decide +kernel
theorem dL_law_159 : decode cL_law 159 = .ok (.iadd, 1) := by decide +kernel
theorem dL_law_160 : decode cL_law 160 = .ok (.iaload, 1) := by decide +kernel
theorem dL_law_161 : decode cL_law 161 = .ok (.aload_n 0, 1) := by decide +kernel
theorem dL_law_162 : decode cL_law 162 = .ok (.iload_n 3, 1) := by decide +kernel
theorem dL_law_163 : decode cL_law 163 = .ok (.iconst 5, 1) := by decide +kernel
theorem dL_law_164 : decode cL_law 164 = .ok (.iadd, 1) := by decide +kernel
theorem dL_law_165 : decode cL_law 165 = .ok (.iaload, 1) := by decide +kernel
theorem dL_law_166 : decode cL_law 166 = .ok (.invokevirtual 13, 3) := by decide +kernel
theorem dL_law_169 : decode cL_law 169 = .ok (.aload_n 2, 1) := by decide +kernel
theorem dL_law_170 : decode cL_law 170 = .ok (.aload_n 0, 1) := by decide +kernel
theorem dL_law_171 : decode cL_law 171 = .ok (.iload_n 3, 1) := by decide +kernel
theorem dL_law_172 : decode cL_law 172 = .ok (.iconst 1, 1) := by decide +kernel
theorem dL_law_173 : decode cL_law 173 = .ok (.iadd, 1) := by decide +kernel
theorem dL_law_174 : decode cL_law 174 = .ok (.iaload, 1) := by decide +kernel
theorem dL_law_175 : decode cL_law 175 = .ok (.aload_n 0, 1) := by decide +kernel
theorem dL_law_176 : decode cL_law 176 = .ok (.iload_n 3, 1) := by decide +kernel
theorem dL_law_177 : decode cL_law 177 = .ok (.iconst 2, 1) := by decide +kernel
theorem dL_law_178 : decode cL_law 178 = .ok (.iadd, 1) := by decide +kernel
theorem dL_law_179 : decode cL_law 179 = .ok (.iaload, 1) := by decide +kernel
theorem dL_law_180 : decode cL_law 180 = .ok (.aload_n 0, 1) := by decide +kernel
theorem dL_law_181 : decode cL_law 181 = .ok (.iload_n 3, 1) := by decide +kernel
theorem dL_law_182 : decode cL_law 182 = .ok (.iconst 3, 1) := by decide +kernel
theorem dL_law_183 : decode cL_law 183 = .ok (.iadd, 1) := by decide +kernel
theorem dL_law_184 : decode cL_law 184 = .ok (.iaload, 1) := by decide +kernel
theorem dL_law_185 : decode cL_law 185 = .ok (.aload_n 0, 1) := by decide +kernel
theorem dL_law_186 : decode cL_law 186 = .ok (.iload_n 3, 1) := by decide +kernel
theorem dL_law_187 : decode cL_law 187 = .ok (.iconst 4, 1) := by decide +kernel
theorem dL_law_188 : decode cL_law 188 = .ok (.iadd, 1) := by decide +kernel
theorem dL_law_189 : decode cL_law 189 = .ok (.iaload, 1) := by decide +kernel
theorem dL_law_190 : decode cL_law 190 = .ok (.aload_n 0, 1) := by decide +kernel
theorem dL_law_191 : decode cL_law 191 = .ok (.iload_n 3, 1) := by decide +kernel
theorem dL_law_192 : decode cL_law 192 = .ok (.iconst 5, 1) := by decide +kernel
theorem dL_law_193 : decode cL_law 193 = .ok (.iadd, 1) := by decide +kernel
theorem dL_law_194 : decode cL_law 194 = .ok (.iaload, 1) := by decide +kernel
theorem dL_law_195 : decode cL_law 195 = .ok (.invokevirtual 17, 3) := by decide +kernel
theorem dL_law_198 : decode cL_law 198 = .ok (.if_icmp .eq 945, 3) := by decide +kernel
theorem dL_law_201 : decode cL_law 201 = .ok (.iconst 0, 1) := by decide +kernel
theorem dL_law_202 : decode cL_law 202 = .ok (.ireturn, 1) := by decide +kernel
theorem dL_law_203 : decode cL_law 203 = .ok (.aload_n 1, 1) := by decide +kernel
theorem dL_law_204 : decode cL_law 204 = .ok (.aload_n 0, 1) := by decide +kernel
theorem dL_law_205 : decode cL_law 205 = .ok (.iload_n 3, 1) := by decide +kernel
theorem dL_law_206 : decode cL_law 206 = .ok (.iconst 1, 1) := by decide +kernel
theorem dL_law_207 : decode cL_law 207 = .ok (.iadd, 1) := by decide +kernel
theorem dL_law_208 : decode cL_law 208 = .ok (.iaload, 1) := by decide +kernel
theorem dL_law_209 : decode cL_law 209 = .ok (.aload_n 0, 1) := by decide +kernel
theorem dL_law_210 : decode cL_law 210 = .ok (.iload_n 3, 1) := by decide +kernel
theorem dL_law_211 : decode cL_law 211 = .ok (.iconst 2, 1) := by decide +kernel
theorem dL_law_212 : decode cL_law 212 = .ok (.iadd, 1) := by decide +kernel
theorem dL_law_213 : decode cL_law 213 = .ok (.iaload, 1) := by decide +kernel
theorem dL_law_214 : decode cL_law 214 = .ok (.aload_n 0, 1) := by decide +kernel
theorem dL_law_215 : decode cL_law 215 = .ok (.iload_n 3, 1) := by decide +kernel
theorem dL_law_216 : decode cL_law 216 = .ok (.iconst 3, 1) := by decide +kernel
theorem dL_law_217 : decode cL_law 217 = .ok (.iadd, 1) := by decide +kernel
theorem dL_law_218 : decode cL_law 218 = .ok (.iaload, 1) := by decide +kernel
theorem dL_law_219 : decode cL_law 219 = .ok (.aload_n 0, 1) := by decide +kernel
theorem dL_law_220 : decode cL_law 220 = .ok (.iload_n 3, 1) := by decide +kernel
theorem dL_law_221 : decode cL_law 221 = .ok (.iconst 4, 1) := by decide +kernel
theorem dL_law_222 : decode cL_law 222 = .ok (.iadd, 1) := by decide +kernel
theorem dL_law_223 : decode cL_law 223 = .ok (.iaload, 1) := by decide +kernel
theorem dL_law_224 : decode cL_law 224 = .ok (.aload_n 0, 1) := by decide +kernel
theorem dL_law_225 : decode cL_law 225 = .ok (.iload_n 3, 1) := by decide +kernel
theorem dL_law_226 : decode cL_law 226 = .ok (.iconst 5, 1) := by decide +kernel
theorem dL_law_227 : decode cL_law 227 = .ok (.iadd, 1) := by decide +kernel
theorem dL_law_228 : decode cL_law 228 = .ok (.iaload, 1) := by decide +kernel
theorem dL_law_229 : decode cL_law 229 = .ok (.aload_n 0, 1) := by decide +kernel
theorem dL_law_230 : decode cL_law 230 = .ok (.iload_n 3, 1) := by decide +kernel
theorem dL_law_231 : decode cL_law 231 = .ok (.bipush 6, 2) := by decide +kernel
theorem dL_law_233 : decode cL_law 233 = .ok (.iadd, 1) := by decide +kernel
theorem dL_law_234 : decode cL_law 234 = .ok (.iaload, 1) := by decide +kernel
theorem dL_law_235 : decode cL_law 235 = .ok (.invokevirtual 18, 3) := by decide +kernel
theorem dL_law_238 : decode cL_law 238 = .ok (.aload_n 2, 1) := by decide +kernel
theorem dL_law_239 : decode cL_law 239 = .ok (.aload_n 0, 1) := by decide +kernel
theorem dL_law_240 : decode cL_law 240 = .ok (.iload_n 3, 1) := by decide +kernel
theorem dL_law_241 : decode cL_law 241 = .ok (.iconst 1, 1) := by decide +kernel
theorem dL_law_242 : decode cL_law 242 = .ok (.iadd, 1) := by decide +kernel
theorem dL_law_243 : decode cL_law 243 = .ok (.iaload, 1) := by decide +kernel
theorem dL_law_244 : decode cL_law 244 = .ok (.aload_n 0, 1) := by decide +kernel
theorem dL_law_245 : decode cL_law 245 = .ok (.iload_n 3, 1) := by decide +kernel
theorem dL_law_246 : decode cL_law 246 = .ok (.iconst 2, 1) := by decide +kernel
theorem dL_law_247 : decode cL_law 247 = .ok (.iadd, 1) := by decide +kernel
theorem dL_law_248 : decode cL_law 248 = .ok (.iaload, 1) := by decide +kernel
theorem dL_law_249 : decode cL_law 249 = .ok (.aload_n 0, 1) := by decide +kernel
theorem dL_law_250 : decode cL_law 250 = .ok (.iload_n 3, 1) := by decide +kernel
theorem dL_law_251 : decode cL_law 251 = .ok (.iconst 3, 1) := by decide +kernel
theorem dL_law_252 : decode cL_law 252 = .ok (.iadd, 1) := by decide +kernel
theorem dL_law_253 : decode cL_law 253 = .ok (.iaload, 1) := by decide +kernel
theorem dL_law_254 : decode cL_law 254 = .ok (.aload_n 0, 1) := by decide +kernel
theorem dL_law_255 : decode cL_law 255 = .ok (.iload_n 3, 1) := by decide +kernel
theorem dL_law_256 : decode cL_law 256 = .ok (.iconst 4, 1) := by decide +kernel
theorem dL_law_257 : decode cL_law 257 = .ok (.iadd, 1) := by decide +kernel
theorem dL_law_258 : decode cL_law 258 = .ok (.iaload, 1) := by decide +kernel
theorem dL_law_259 : decode cL_law 259 = .ok (.aload_n 0, 1) := by decide +kernel
theorem dL_law_260 : decode cL_law 260 = .ok (.iload_n 3, 1) := by decide +kernel
theorem dL_law_261 : decode cL_law 261 = .ok (.iconst 5, 1) := by decide +kernel
theorem dL_law_262 : decode cL_law 262 = .ok (.iadd, 1) := by decide +kernel
theorem dL_law_263 : decode cL_law 263 = .ok (.iaload, 1) := by decide +kernel
theorem dL_law_264 : decode cL_law 264 = .ok (.aload_n 0, 1) := by decide +kernel
theorem dL_law_265 : decode cL_law 265 = .ok (.iload_n 3, 1) := by decide +kernel
theorem dL_law_266 : decode cL_law 266 = .ok (.bipush 6, 2) := by decide +kernel
theorem dL_law_268 : decode cL_law 268 = .ok (.iadd, 1) := by decide +kernel
theorem dL_law_269 : decode cL_law 269 = .ok (.iaload, 1) := by decide +kernel
theorem dL_law_270 : decode cL_law 270 = .ok (.invokevirtual 22, 3) := by decide +kernel
theorem dL_law_273 : decode cL_law 273 = .ok (.if_icmp .eq 870, 3) := by decide +kernel
theorem dL_law_276 : decode cL_law 276 = .ok (.iconst 0, 1) := by decide +kernel
theorem dL_law_277 : decode cL_law 277 = .ok (.ireturn, 1) := by decide +kernel
theorem dL_law_278 : decode cL_law 278 = .ok (.aload_n 1, 1) := by decide +kernel
theorem dL_law_279 : decode cL_law 279 = .ok (.aload_n 0, 1) := by decide +kernel
theorem dL_law_280 : decode cL_law 280 = .ok (.iload_n 3, 1) := by decide +kernel
theorem dL_law_281 : decode cL_law 281 = .ok (.iconst 1, 1) := by decide +kernel
theorem dL_law_282 : decode cL_law 282 = .ok (.iadd, 1) := by decide +kernel
theorem dL_law_283 : decode cL_law 283 = .ok (.iaload, 1) := by decide +kernel
theorem dL_law_284 : decode cL_law 284 = .ok (.invokevirtual 23, 3) := by decide +kernel
theorem dL_law_287 : decode cL_law 287 = .ok (.aload_n 2, 1) := by decide +kernel
theorem dL_law_288 : decode cL_law 288 = .ok (.aload_n 0, 1) := by decide +kernel
theorem dL_law_289 : decode cL_law 289 = .ok (.iload_n 3, 1) := by decide +kernel
theorem dL_law_290 : decode cL_law 290 = .ok (.iconst 1, 1) := by decide +kernel
theorem dL_law_291 : decode cL_law 291 = .ok (.iadd, 1) := by decide +kernel
theorem dL_law_292 : decode cL_law 292 = .ok (.iaload, 1) := by decide +kernel
theorem dL_law_293 : decode cL_law 293 = .ok (.invokevirtual 27, 3) := by decide +kernel
theorem dL_law_296 : decode cL_law 296 = .ok (.if_icmp .eq 847, 3) := by decide +kernel
theorem dL_law_299 : decode cL_law 299 = .ok (.iconst 0, 1) := by decide +kernel
theorem dL_law_300 : decode cL_law 300 = .ok (.ireturn, 1) := by decide +kernel
theorem dL_law_301 : decode cL_law 301 = .ok (.aload_n 1, 1) := by decide +kernel
theorem dL_law_302 : decode cL_law 302 = .ok (.aload_n 0, 1) := by decide +kernel
theorem dL_law_303 : decode cL_law 303 = .ok (.iload_n 3, 1) := by decide +kernel
theorem dL_law_304 : decode cL_law 304 = .ok (.iconst 1, 1) := by decide +kernel
theorem dL_law_305 : decode cL_law 305 = .ok (.iadd, 1) := by decide +kernel
theorem dL_law_306 : decode cL_law 306 = .ok (.iaload, 1) := by decide +kernel
theorem dL_law_307 : decode cL_law 307 = .ok (.aload_n 0, 1) := by decide +kernel
theorem dL_law_308 : decode cL_law 308 = .ok (.iload_n 3, 1) := by decide +kernel
theorem dL_law_309 : decode cL_law 309 = .ok (.iconst 2, 1) := by decide +kernel
theorem dL_law_310 : decode cL_law 310 = .ok (.iadd, 1) := by decide +kernel
theorem dL_law_311 : decode cL_law 311 = .ok (.iaload, 1) := by decide +kernel
theorem dL_law_312 : decode cL_law 312 = .ok (.invokevirtual 28, 3) := by decide +kernel
theorem dL_law_315 : decode cL_law 315 = .ok (.aload_n 2, 1) := by decide +kernel
theorem dL_law_316 : decode cL_law 316 = .ok (.aload_n 0, 1) := by decide +kernel
theorem dL_law_317 : decode cL_law 317 = .ok (.iload_n 3, 1) := by decide +kernel
theorem dL_law_318 : decode cL_law 318 = .ok (.iconst 1, 1) := by decide +kernel
theorem dL_law_319 : decode cL_law 319 = .ok (.iadd, 1) := by decide +kernel
theorem dL_law_320 : decode cL_law 320 = .ok (.iaload, 1) := by decide +kernel
theorem dL_law_321 : decode cL_law 321 = .ok (.aload_n 0, 1) := by decide +kernel
theorem dL_law_322 : decode cL_law 322 = .ok (.iload_n 3, 1) := by decide +kernel
theorem dL_law_323 : decode cL_law 323 = .ok (.iconst 2, 1) := by decide +kernel
theorem dL_law_324 : decode cL_law 324 = .ok (.iadd, 1) := by decide +kernel
theorem dL_law_325 : decode cL_law 325 = .ok (.iaload, 1) := by decide +kernel
theorem dL_law_326 : decode cL_law 326 = .ok (.invokevirtual 32, 3) := by decide +kernel
theorem dL_law_329 : decode cL_law 329 = .ok (.if_icmp .eq 814, 3) := by decide +kernel
theorem dL_law_332 : decode cL_law 332 = .ok (.iconst 0, 1) := by decide +kernel
theorem dL_law_333 : decode cL_law 333 = .ok (.ireturn, 1) := by decide +kernel
theorem dL_law_334 : decode cL_law 334 = .ok (.aload_n 1, 1) := by decide +kernel
theorem dL_law_335 : decode cL_law 335 = .ok (.aload_n 0, 1) := by decide +kernel
theorem dL_law_336 : decode cL_law 336 = .ok (.iload_n 3, 1) := by decide +kernel
theorem dL_law_337 : decode cL_law 337 = .ok (.iconst 1, 1) := by decide +kernel
theorem dL_law_338 : decode cL_law 338 = .ok (.iadd, 1) := by decide +kernel
theorem dL_law_339 : decode cL_law 339 = .ok (.iaload, 1) := by decide +kernel
theorem dL_law_340 : decode cL_law 340 = .ok (.aload_n 0, 1) := by decide +kernel
theorem dL_law_341 : decode cL_law 341 = .ok (.iload_n 3, 1) := by decide +kernel
theorem dL_law_342 : decode cL_law 342 = .ok (.iconst 2, 1) := by decide +kernel
theorem dL_law_343 : decode cL_law 343 = .ok (.iadd, 1) := by decide +kernel
theorem dL_law_344 : decode cL_law 344 = .ok (.iaload, 1) := by decide +kernel
theorem dL_law_345 : decode cL_law 345 = .ok (.aload_n 0, 1) := by decide +kernel
theorem dL_law_346 : decode cL_law 346 = .ok (.iload_n 3, 1) := by decide +kernel
theorem dL_law_347 : decode cL_law 347 = .ok (.iconst 3, 1) := by decide +kernel
theorem dL_law_348 : decode cL_law 348 = .ok (.iadd, 1) := by decide +kernel
theorem dL_law_349 : decode cL_law 349 = .ok (.iaload, 1) := by decide +kernel
theorem dL_law_350 : decode cL_law 350 = .ok (.invokevirtual 33, 3) := by decide +kernel
theorem dL_law_353 : decode cL_law 353 = .ok (.aload_n 2, 1) := by decide +kernel
theorem dL_law_354 : decode cL_law 354 = .ok (.aload_n 0, 1) := by decide +kernel
theorem dL_law_355 : decode cL_law 355 = .ok (.iload_n 3, 1) := by decide +kernel
theorem dL_law_356 : decode cL_law 356 = .ok (.iconst 1, 1) := by decide +kernel
theorem dL_law_357 : decode cL_law 357 = .ok (.iadd, 1) := by decide +kernel
theorem dL_law_358 : decode cL_law 358 = .ok (.iaload, 1) := by decide +kernel
theorem dL_law_359 : decode cL_law 359 = .ok (.aload_n 0, 1) := by decide +kernel
theorem dL_law_360 : decode cL_law 360 = .ok (.iload_n 3, 1) := by decide +kernel
theorem dL_law_361 : decode cL_law 361 = .ok (.iconst 2, 1) := by decide +kernel
theorem dL_law_362 : decode cL_law 362 = .ok (.iadd, 1) := by decide +kernel
theorem dL_law_363 : decode cL_law 363 = .ok (.iaload, 1) := by decide +kernel
theorem dL_law_364 : decode cL_law 364 = .ok (.aload_n 0, 1) := by decide +kernel
theorem dL_law_365 : decode cL_law 365 = .ok (.iload_n 3, 1) := by decide +kernel
theorem dL_law_366 : decode cL_law 366 = .ok (.iconst 3, 1) := by decide +kernel
theorem dL_law_367 : decode cL_law 367 = .ok (.iadd, 1) := by decide +kernel
theorem dL_law_368 : decode cL_law 368 = .ok (.iaload, 1) := by decide +kernel
theorem dL_law_369 : decode cL_law 369 = .ok (.invokevirtual 37, 3) := by decide +kernel
theorem dL_law_372 : decode cL_law 372 = .ok (.if_icmp .eq 771, 3) := by decide +kernel
theorem dL_law_375 : decode cL_law 375 = .ok (.iconst 0, 1) := by decide +kernel
theorem dL_law_376 : decode cL_law 376 = .ok (.ireturn, 1) := by decide +kernel
theorem dL_law_377 : decode cL_law 377 = .ok (.aload_n 1, 1) := by decide +kernel
theorem dL_law_378 : decode cL_law 378 = .ok (.aload_n 0, 1) := by decide +kernel
theorem dL_law_379 : decode cL_law 379 = .ok (.iload_n 3, 1) := by decide +kernel
theorem dL_law_380 : decode cL_law 380 = .ok (.iconst 1, 1) := by decide +kernel
theorem dL_law_381 : decode cL_law 381 = .ok (.iadd, 1) := by decide +kernel
theorem dL_law_382 : decode cL_law 382 = .ok (.iaload, 1) := by decide +kernel
theorem dL_law_383 : decode cL_law 383 = .ok (.invokevirtual 38, 3) := by decide +kernel
theorem dL_law_386 : decode cL_law 386 = .ok (.aload_n 2, 1) := by decide +kernel
theorem dL_law_387 : decode cL_law 387 = .ok (.aload_n 0, 1) := by decide +kernel
theorem dL_law_388 : decode cL_law 388 = .ok (.iload_n 3, 1) := by decide +kernel
theorem dL_law_389 : decode cL_law 389 = .ok (.iconst 1, 1) := by decide +kernel
theorem dL_law_390 : decode cL_law 390 = .ok (.iadd, 1) := by decide +kernel
theorem dL_law_391 : decode cL_law 391 = .ok (.iaload, 1) := by decide +kernel
theorem dL_law_392 : decode cL_law 392 = .ok (.invokevirtual 41, 3) := by decide +kernel
theorem dL_law_395 : decode cL_law 395 = .ok (.if_icmp .eq 748, 3) := by decide +kernel
theorem dL_law_398 : decode cL_law 398 = .ok (.iconst 0, 1) := by decide +kernel
theorem dL_law_399 : decode cL_law 399 = .ok (.ireturn, 1) := by decide +kernel
theorem dL_law_400 : decode cL_law 400 = .ok (.aload_n 1, 1) := by decide +kernel
theorem dL_law_401 : decode cL_law 401 = .ok (.invokevirtual 42, 3) := by decide +kernel
theorem dL_law_404 : decode cL_law 404 = .ok (.aload_n 2, 1) := by decide +kernel
theorem dL_law_405 : decode cL_law 405 = .ok (.invokevirtual 46, 3) := by decide +kernel
theorem dL_law_408 : decode cL_law 408 = .ok (.if_icmp .eq 735, 3) := by decide +kernel
theorem dL_law_411 : decode cL_law 411 = .ok (.iconst 0, 1) := by decide +kernel
theorem dL_law_412 : decode cL_law 412 = .ok (.ireturn, 1) := by decide +kernel
theorem dL_law_413 : decode cL_law 413 = .ok (.aload_n 1, 1) := by decide +kernel
theorem dL_law_414 : decode cL_law 414 = .ok (.invokevirtual 47, 3) := by decide +kernel
theorem dL_law_417 : decode cL_law 417 = .ok (.aload_n 2, 1) := by decide +kernel
theorem dL_law_418 : decode cL_law 418 = .ok (.invokevirtual 50, 3) := by decide +kernel
theorem dL_law_421 : decode cL_law 421 = .ok (.if_icmp .eq 722, 3) := by decide +kernel
theorem dL_law_424 : decode cL_law 424 = .ok (.iconst 0, 1) := by decide +kernel
theorem dL_law_425 : decode cL_law 425 = .ok (.ireturn, 1) := by decide +kernel
theorem dL_law_426 : decode cL_law 426 = .ok (.aload_n 1, 1) := by decide +kernel
theorem dL_law_427 : decode cL_law 427 = .ok (.invokevirtual 51, 3) := by decide +kernel
theorem dL_law_430 : decode cL_law 430 = .ok (.aload_n 2, 1) := by decide +kernel
theorem dL_law_431 : decode cL_law 431 = .ok (.invokevirtual 54, 3) := by decide +kernel
theorem dL_law_434 : decode cL_law 434 = .ok (.if_icmp .eq 709, 3) := by decide +kernel
theorem dL_law_437 : decode cL_law 437 = .ok (.iconst 0, 1) := by decide +kernel
theorem dL_law_438 : decode cL_law 438 = .ok (.ireturn, 1) := by decide +kernel
theorem dL_law_439 : decode cL_law 439 = .ok (.aload_n 1, 1) := by decide +kernel
theorem dL_law_440 : decode cL_law 440 = .ok (.aload_n 0, 1) := by decide +kernel
theorem dL_law_441 : decode cL_law 441 = .ok (.iload_n 3, 1) := by decide +kernel
theorem dL_law_442 : decode cL_law 442 = .ok (.iconst 1, 1) := by decide +kernel
theorem dL_law_443 : decode cL_law 443 = .ok (.iadd, 1) := by decide +kernel
theorem dL_law_444 : decode cL_law 444 = .ok (.iaload, 1) := by decide +kernel
theorem dL_law_445 : decode cL_law 445 = .ok (.aload_n 0, 1) := by decide +kernel
theorem dL_law_446 : decode cL_law 446 = .ok (.iload_n 3, 1) := by decide +kernel
theorem dL_law_447 : decode cL_law 447 = .ok (.iconst 2, 1) := by decide +kernel
theorem dL_law_448 : decode cL_law 448 = .ok (.iadd, 1) := by decide +kernel
theorem dL_law_449 : decode cL_law 449 = .ok (.iaload, 1) := by decide +kernel
theorem dL_law_450 : decode cL_law 450 = .ok (.aload_n 0, 1) := by decide +kernel
theorem dL_law_451 : decode cL_law 451 = .ok (.iload_n 3, 1) := by decide +kernel
theorem dL_law_452 : decode cL_law 452 = .ok (.iconst 3, 1) := by decide +kernel
theorem dL_law_453 : decode cL_law 453 = .ok (.iadd, 1) := by decide +kernel
theorem dL_law_454 : decode cL_law 454 = .ok (.iaload, 1) := by decide +kernel
theorem dL_law_455 : decode cL_law 455 = .ok (.aload_n 0, 1) := by decide +kernel
theorem dL_law_456 : decode cL_law 456 = .ok (.iload_n 3, 1) := by decide +kernel
theorem dL_law_457 : decode cL_law 457 = .ok (.iconst 4, 1) := by decide +kernel
theorem dL_law_458 : decode cL_law 458 = .ok (.iadd, 1) := by decide +kernel
theorem dL_law_459 : decode cL_law 459 = .ok (.iaload, 1) := by decide +kernel
theorem dL_law_460 : decode cL_law 460 = .ok (.aload_n 0, 1) := by decide +kernel
theorem dL_law_461 : decode cL_law 461 = .ok (.iload_n 3, 1) := by decide +kernel
theorem dL_law_462 : decode cL_law 462 = .ok (.iconst 5, 1) := by decide +kernel
theorem dL_law_463 : decode cL_law 463 = .ok (.iadd, 1) := by decide +kernel
theorem dL_law_464 : decode cL_law 464 = .ok (.iaload, 1) := by decide +kernel
theorem dL_law_465 : decode cL_law 465 = .ok (.aload_n 0, 1) := by decide +kernel
theorem dL_law_466 : decode cL_law 466 = .ok (.iload_n 3, 1) := by decide +kernel
theorem dL_law_467 : decode cL_law 467 = .ok (.bipush 6, 2) := by decide +kernel
theorem dL_law_469 : decode cL_law 469 = .ok (.iadd, 1) := by decide +kernel
theorem dL_law_470 : decode cL_law 470 = .ok (.iaload, 1) := by decide +kernel
theorem dL_law_471 : decode cL_law 471 = .ok (.invokevirtual 55, 3) := by decide +kernel
theorem dL_law_474 : decode cL_law 474 = .ok (.aload_n 2, 1) := by decide +kernel
theorem dL_law_475 : decode cL_law 475 = .ok (.aload_n 0, 1) := by decide +kernel
theorem dL_law_476 : decode cL_law 476 = .ok (.iload_n 3, 1) := by decide +kernel
theorem dL_law_477 : decode cL_law 477 = .ok (.iconst 1, 1) := by decide +kernel
theorem dL_law_478 : decode cL_law 478 = .ok (.iadd, 1) := by decide +kernel
theorem dL_law_479 : decode cL_law 479 = .ok (.iaload, 1) := by decide +kernel
theorem dL_law_480 : decode cL_law 480 = .ok (.aload_n 0, 1) := by decide +kernel
theorem dL_law_481 : decode cL_law 481 = .ok (.iload_n 3, 1) := by decide +kernel
theorem dL_law_482 : decode cL_law 482 = .ok (.iconst 2, 1) := by decide +kernel
theorem dL_law_483 : decode cL_law 483 = .ok (.iadd, 1) := by decide +kernel
theorem dL_law_484 : decode cL_law 484 = .ok (.iaload, 1) := by decide +kernel
theorem dL_law_485 : decode cL_law 485 = .ok (.aload_n 0, 1) := by decide +kernel
theorem dL_law_486 : decode cL_law 486 = .ok (.iload_n 3, 1) := by decide +kernel
theorem dL_law_487 : decode cL_law 487 = .ok (.iconst 3, 1) := by decide +kernel
theorem dL_law_488 : decode cL_law 488 = .ok (.iadd, 1) := by decide +kernel
theorem dL_law_489 : decode cL_law 489 = .ok (.iaload, 1) := by decide +kernel
theorem dL_law_490 : decode cL_law 490 = .ok (.aload_n 0, 1) := by decide +kernel
theorem dL_law_491 : decode cL_law 491 = .ok (.iload_n 3, 1) := by decide +kernel
theorem dL_law_492 : decode cL_law 492 = .ok (.iconst 4, 1) := by decide +kernel
theorem dL_law_493 : decode cL_law 493 = .ok (.iadd, 1) := by decide +kernel
theorem dL_law_494 : decode cL_law 494 = .ok (.iaload, 1) := by decide +kernel
theorem dL_law_495 : decode cL_law 495 = .ok (.aload_n 0, 1) := by decide +kernel
theorem dL_law_496 : decode cL_law 496 = .ok (.iload_n 3, 1) := by decide +kernel
theorem dL_law_497 : decode cL_law 497 = .ok (.iconst 5, 1) := by decide +kernel
theorem dL_law_498 : decode cL_law 498 = .ok (.iadd, 1) := by decide +kernel
theorem dL_law_499 : decode cL_law 499 = .ok (.iaload, 1) := by decide +kernel
theorem dL_law_500 : decode cL_law 500 = .ok (.aload_n 0, 1) := by decide +kernel
theorem dL_law_501 : decode cL_law 501 = .ok (.iload_n 3, 1) := by decide +kernel
theorem dL_law_502 : decode cL_law 502 = .ok (.bipush 6, 2) := by decide +kernel
theorem dL_law_504 : decode cL_law 504 = .ok (.iadd, 1) := by decide +kernel
theorem dL_law_505 : decode cL_law 505 = .ok (.iaload, 1) := by decide +kernel
theorem dL_law_506 : decode cL_law 506 = .ok (.invokevirtual 58, 3) := by decide +kernel
theorem dL_law_509 : decode cL_law 509 = .ok (.if_icmp .eq 634, 3) := by decide +kernel
theorem dL_law_512 : decode cL_law 512 = .ok (.iconst 0, 1) := by decide +kernel
theorem dL_law_513 : decode cL_law 513 = .ok (.ireturn, 1) := by decide +kernel
theorem dL_law_514 : decode cL_law 514 = .ok (.aload_n 1, 1) := by decide +kernel
theorem dL_law_515 : decode cL_law 515 = .ok (.aload_n 0, 1) := by decide +kernel
theorem dL_law_516 : decode cL_law 516 = .ok (.iload_n 3, 1) := by decide +kernel
theorem dL_law_517 : decode cL_law 517 = .ok (.iconst 1, 1) := by decide +kernel
theorem dL_law_518 : decode cL_law 518 = .ok (.iadd, 1) := by decide +kernel
theorem dL_law_519 : decode cL_law 519 = .ok (.iaload, 1) := by decide +kernel
theorem dL_law_520 : decode cL_law 520 = .ok (.aload_n 0, 1) := by decide +kernel
theorem dL_law_521 : decode cL_law 521 = .ok (.iload_n 3, 1) := by decide +kernel
theorem dL_law_522 : decode cL_law 522 = .ok (.iconst 2, 1) := by decide +kernel
theorem dL_law_523 : decode cL_law 523 = .ok (.iadd, 1) := by decide +kernel
theorem dL_law_524 : decode cL_law 524 = .ok (.iaload, 1) := by decide +kernel
theorem dL_law_525 : decode cL_law 525 = .ok (.aload_n 0, 1) := by decide +kernel
theorem dL_law_526 : decode cL_law 526 = .ok (.iload_n 3, 1) := by decide +kernel
theorem dL_law_527 : decode cL_law 527 = .ok (.iconst 3, 1) := by decide +kernel
theorem dL_law_528 : decode cL_law 528 = .ok (.iadd, 1) := by decide +kernel
theorem dL_law_529 : decode cL_law 529 = .ok (.iaload, 1) := by decide +kernel
theorem dL_law_530 : decode cL_law 530 = .ok (.aload_n 0, 1) := by decide +kernel
theorem dL_law_531 : decode cL_law 531 = .ok (.iload_n 3, 1) := by decide +kernel
theorem dL_law_532 : decode cL_law 532 = .ok (.iconst 4, 1) := by decide +kernel
theorem dL_law_533 : decode cL_law 533 = .ok (.iadd, 1) := by decide +kernel
theorem dL_law_534 : decode cL_law 534 = .ok (.iaload, 1) := by decide +kernel
theorem dL_law_535 : decode cL_law 535 = .ok (.invokevirtual 59, 3) := by decide +kernel
theorem dL_law_538 : decode cL_law 538 = .ok (.aload_n 2, 1) := by decide +kernel
theorem dL_law_539 : decode cL_law 539 = .ok (.aload_n 0, 1) := by decide +kernel
theorem dL_law_540 : decode cL_law 540 = .ok (.iload_n 3, 1) := by decide +kernel
theorem dL_law_541 : decode cL_law 541 = .ok (.iconst 1, 1) := by decide +kernel
theorem dL_law_542 : decode cL_law 542 = .ok (.iadd, 1) := by decide +kernel
theorem dL_law_543 : decode cL_law 543 = .ok (.iaload, 1) := by decide +kernel
theorem dL_law_544 : decode cL_law 544 = .ok (.aload_n 0, 1) := by decide +kernel
theorem dL_law_545 : decode cL_law 545 = .ok (.iload_n 3, 1) := by decide +kernel
theorem dL_law_546 : decode cL_law 546 = .ok (.iconst 2, 1) := by decide +kernel
theorem dL_law_547 : decode cL_law 547 = .ok (.iadd, 1) := by decide +kernel
theorem dL_law_548 : decode cL_law 548 = .ok (.iaload, 1) := by decide +kernel
theorem dL_law_549 : decode cL_law 549 = .ok (.aload_n 0, 1) := by decide +kernel
theorem dL_law_550 : decode cL_law 550 = .ok (.iload_n 3, 1) := by decide +kernel
theorem dL_law_551 : decode cL_law 551 = .ok (.iconst 3, 1) := by decide +kernel
theorem dL_law_552 : decode cL_law 552 = .ok (.iadd, 1) := by decide +kernel
theorem dL_law_553 : decode cL_law 553 = .ok (.iaload, 1) := by decide +kernel
theorem dL_law_554 : decode cL_law 554 = .ok (.aload_n 0, 1) := by decide +kernel
theorem dL_law_555 : decode cL_law 555 = .ok (.iload_n 3, 1) := by decide +kernel
theorem dL_law_556 : decode cL_law 556 = .ok (.iconst 4, 1) := by decide +kernel
theorem dL_law_557 : decode cL_law 557 = .ok (.iadd, 1) := by decide +kernel
theorem dL_law_558 : decode cL_law 558 = .ok (.iaload, 1) := by decide +kernel
theorem dL_law_559 : decode cL_law 559 = .ok (.invokevirtual 63, 3) := by decide +kernel
theorem dL_law_562 : decode cL_law 562 = .ok (.if_icmp .eq 581, 3) := by decide +kernel
theorem dL_law_565 : decode cL_law 565 = .ok (.iconst 0, 1) := by decide +kernel
theorem dL_law_566 : decode cL_law 566 = .ok (.ireturn, 1) := by decide +kernel
theorem dL_law_567 : decode cL_law 567 = .ok (.aload_n 1, 1) := by decide +kernel
theorem dL_law_568 : decode cL_law 568 = .ok (.aload_n 0, 1) := by decide +kernel
theorem dL_law_569 : decode cL_law 569 = .ok (.iload_n 3, 1) := by decide +kernel
theorem dL_law_570 : decode cL_law 570 = .ok (.iconst 1, 1) := by decide +kernel
theorem dL_law_571 : decode cL_law 571 = .ok (.iadd, 1) := by decide +kernel
theorem dL_law_572 : decode cL_law 572 = .ok (.iaload, 1) := by decide +kernel
theorem dL_law_573 : decode cL_law 573 = .ok (.aload_n 0, 1) := by decide +kernel
theorem dL_law_574 : decode cL_law 574 = .ok (.iload_n 3, 1) := by decide +kernel
theorem dL_law_575 : decode cL_law 575 = .ok (.iconst 2, 1) := by decide +kernel
theorem dL_law_576 : decode cL_law 576 = .ok (.iadd, 1) := by decide +kernel
theorem dL_law_577 : decode cL_law 577 = .ok (.iaload, 1) := by decide +kernel
theorem dL_law_578 : decode cL_law 578 = .ok (.aload_n 0, 1) := by decide +kernel
theorem dL_law_579 : decode cL_law 579 = .ok (.iload_n 3, 1) := by decide +kernel
theorem dL_law_580 : decode cL_law 580 = .ok (.iconst 3, 1) := by decide +kernel
theorem dL_law_581 : decode cL_law 581 = .ok (.iadd, 1) := by decide +kernel
theorem dL_law_582 : decode cL_law 582 = .ok (.iaload, 1) := by decide +kernel
theorem dL_law_583 : decode cL_law 583 = .ok (.aload_n 0, 1) := by decide +kernel
theorem dL_law_584 : decode cL_law 584 = .ok (.iload_n 3, 1) := by decide +kernel
theorem dL_law_585 : decode cL_law 585 = .ok (.iconst 4, 1) := by decide +kernel
theorem dL_law_586 : decode cL_law 586 = .ok (.iadd, 1) := by decide +kernel
theorem dL_law_587 : decode cL_law 587 = .ok (.iaload, 1) := by decide +kernel
theorem dL_law_588 : decode cL_law 588 = .ok (.invokevirtual 64, 3) := by decide +kernel
theorem dL_law_591 : decode cL_law 591 = .ok (.aload_n 2, 1) := by decide +kernel
theorem dL_law_592 : decode cL_law 592 = .ok (.aload_n 0, 1) := by decide +kernel
theorem dL_law_593 : decode cL_law 593 = .ok (.iload_n 3, 1) := by decide +kernel
theorem dL_law_594 : decode cL_law 594 = .ok (.iconst 1, 1) := by decide +kernel
theorem dL_law_595 : decode cL_law 595 = .ok (.iadd, 1) := by decide +kernel
theorem dL_law_596 : decode cL_law 596 = .ok (.iaload, 1) := by decide +kernel
theorem dL_law_597 : decode cL_law 597 = .ok (.aload_n 0, 1) := by decide +kernel
theorem dL_law_598 : decode cL_law 598 = .ok (.iload_n 3, 1) := by decide +kernel
theorem dL_law_599 : decode cL_law 599 = .ok (.iconst 2, 1) := by decide +kernel
theorem dL_law_600 : decode cL_law 600 = .ok (.iadd, 1) := by decide +kernel
theorem dL_law_601 : decode cL_law 601 = .ok (.iaload, 1) := by decide +kernel
theorem dL_law_602 : decode cL_law 602 = .ok (.aload_n 0, 1) := by decide +kernel
theorem dL_law_603 : decode cL_law 603 = .ok (.iload_n 3, 1) := by decide +kernel
theorem dL_law_604 : decode cL_law 604 = .ok (.iconst 3, 1) := by decide +kernel
theorem dL_law_605 : decode cL_law 605 = .ok (.iadd, 1) := by decide +kernel
theorem dL_law_606 : decode cL_law 606 = .ok (.iaload, 1) := by decide +kernel
theorem dL_law_607 : decode cL_law 607 = .ok (.aload_n 0, 1) := by decide +kernel
theorem dL_law_608 : decode cL_law 608 = .ok (.iload_n 3, 1) := by decide +kernel
theorem dL_law_609 : decode cL_law 609 = .ok (.iconst 4, 1) := by decide +kernel
theorem dL_law_610 : decode cL_law 610 = .ok (.iadd, 1) := by decide +kernel
theorem dL_law_611 : decode cL_law 611 = .ok (.iaload, 1) := by decide +kernel
theorem dL_law_612 : decode cL_law 612 = .ok (.invokevirtual 67, 3) := by decide +kernel
theorem dL_law_615 : decode cL_law 615 = .ok (.if_icmp .eq 528, 3) := by decide +kernel
theorem dL_law_618 : decode cL_law 618 = .ok (.iconst 0, 1) := by decide +kernel
theorem dL_law_619 : decode cL_law 619 = .ok (.ireturn, 1) := by decide +kernel
theorem dL_law_620 : decode cL_law 620 = .ok (.aload_n 1, 1) := by decide +kernel
theorem dL_law_621 : decode cL_law 621 = .ok (.aload_n 0, 1) := by decide +kernel
theorem dL_law_622 : decode cL_law 622 = .ok (.iload_n 3, 1) := by decide +kernel
theorem dL_law_623 : decode cL_law 623 = .ok (.iconst 1, 1) := by decide +kernel
theorem dL_law_624 : decode cL_law 624 = .ok (.iadd, 1) := by decide +kernel
theorem dL_law_625 : decode cL_law 625 = .ok (.iaload, 1) := by decide +kernel
theorem dL_law_626 : decode cL_law 626 = .ok (.aload_n 0, 1) := by decide +kernel
theorem dL_law_627 : decode cL_law 627 = .ok (.iload_n 3, 1) := by decide +kernel
theorem dL_law_628 : decode cL_law 628 = .ok (.iconst 2, 1) := by decide +kernel
theorem dL_law_629 : decode cL_law 629 = .ok (.iadd, 1) := by decide +kernel
theorem dL_law_630 : decode cL_law 630 = .ok (.iaload, 1) := by decide +kernel
theorem dL_law_631 : decode cL_law 631 = .ok (.aload_n 0, 1) := by decide +kernel
theorem dL_law_632 : decode cL_law 632 = .ok (.iload_n 3, 1) := by decide +kernel
theorem dL_law_633 : decode cL_law 633 = .ok (.iconst 3, 1) := by decide +kernel
theorem dL_law_634 : decode cL_law 634 = .ok (.iadd, 1) := by decide +kernel
theorem dL_law_635 : decode cL_law 635 = .ok (.iaload, 1) := by decide +kernel
theorem dL_law_636 : decode cL_law 636 = .ok (.invokevirtual 68, 3) := by decide +kernel
theorem dL_law_639 : decode cL_law 639 = .ok (.aload_n 2, 1) := by decide +kernel
theorem dL_law_640 : decode cL_law 640 = .ok (.aload_n 0, 1) := by decide +kernel
theorem dL_law_641 : decode cL_law 641 = .ok (.iload_n 3, 1) := by decide +kernel
theorem dL_law_642 : decode cL_law 642 = .ok (.iconst 1, 1) := by decide +kernel
theorem dL_law_643 : decode cL_law 643 = .ok (.iadd, 1) := by decide +kernel
theorem dL_law_644 : decode cL_law 644 = .ok (.iaload, 1) := by decide +kernel
theorem dL_law_645 : decode cL_law 645 = .ok (.aload_n 0, 1) := by decide +kernel
theorem dL_law_646 : decode cL_law 646 = .ok (.iload_n 3, 1) := by decide +kernel
theorem dL_law_647 : decode cL_law 647 = .ok (.iconst 2, 1) := by decide +kernel
theorem dL_law_648 : decode cL_law 648 = .ok (.iadd, 1) := by decide +kernel
theorem dL_law_649 : decode cL_law 649 = .ok (.iaload, 1) := by decide +kernel
theorem dL_law_650 : decode cL_law 650 = .ok (.aload_n 0, 1) := by decide +kernel
theorem dL_law_651 : decode cL_law 651 = .ok (.iload_n 3, 1) := by decide +kernel
theorem dL_law_652 : decode cL_law 652 = .ok (.iconst 3, 1) := by decide +kernel
theorem dL_law_653 : decode cL_law 653 = .ok (.iadd, 1) := by decide +kernel
theorem dL_law_654 : decode cL_law 654 = .ok (.iaload, 1) := by decide +kernel
theorem dL_law_655 : decode cL_law 655 = .ok (.invokevirtual 71, 3) := by decide +kernel
theorem dL_law_658 : decode cL_law 658 = .ok (.if_icmp .eq 485, 3) := by decide +kernel
theorem dL_law_661 : decode cL_law 661 = .ok (.iconst 0, 1) := by decide +kernel
theorem dL_law_662 : decode cL_law 662 = .ok (.ireturn, 1) := by decide +kernel
theorem dL_law_663 : decode cL_law 663 = .ok (.aload_n 1, 1) := by decide +kernel
theorem dL_law_664 : decode cL_law 664 = .ok (.aload_n 0, 1) := by decide +kernel
theorem dL_law_665 : decode cL_law 665 = .ok (.iload_n 3, 1) := by decide +kernel
theorem dL_law_666 : decode cL_law 666 = .ok (.iconst 1, 1) := by decide +kernel
theorem dL_law_667 : decode cL_law 667 = .ok (.iadd, 1) := by decide +kernel
theorem dL_law_668 : decode cL_law 668 = .ok (.iaload, 1) := by decide +kernel
theorem dL_law_669 : decode cL_law 669 = .ok (.aload_n 0, 1) := by decide +kernel
theorem dL_law_670 : decode cL_law 670 = .ok (.iload_n 3, 1) := by decide +kernel
theorem dL_law_671 : decode cL_law 671 = .ok (.iconst 2, 1) := by decide +kernel
theorem dL_law_672 : decode cL_law 672 = .ok (.iadd, 1) := by decide +kernel
theorem dL_law_673 : decode cL_law 673 = .ok (.iaload, 1) := by decide +kernel
theorem dL_law_674 : decode cL_law 674 = .ok (.aload_n 0, 1) := by decide +kernel
theorem dL_law_675 : decode cL_law 675 = .ok (.iload_n 3, 1) := by decide +kernel
theorem dL_law_676 : decode cL_law 676 = .ok (.iconst 3, 1) := by decide +kernel
theorem dL_law_677 : decode cL_law 677 = .ok (.iadd, 1) := by decide +kernel
theorem dL_law_678 : decode cL_law 678 = .ok (.iaload, 1) := by decide +kernel
theorem dL_law_679 : decode cL_law 679 = .ok (.aload_n 0, 1) := by decide +kernel
theorem dL_law_680 : decode cL_law 680 = .ok (.iload_n 3, 1) := by decide +kernel
theorem dL_law_681 : decode cL_law 681 = .ok (.iconst 4, 1) := by decide +kernel
theorem dL_law_682 : decode cL_law 682 = .ok (.iadd, 1) := by decide +kernel
theorem dL_law_683 : decode cL_law 683 = .ok (.iaload, 1) := by decide +kernel
theorem dL_law_684 : decode cL_law 684 = .ok (.invokevirtual 72, 3) := by decide +kernel
theorem dL_law_687 : decode cL_law 687 = .ok (.aload_n 2, 1) := by decide +kernel
theorem dL_law_688 : decode cL_law 688 = .ok (.aload_n 0, 1) := by decide +kernel
theorem dL_law_689 : decode cL_law 689 = .ok (.iload_n 3, 1) := by decide +kernel
theorem dL_law_690 : decode cL_law 690 = .ok (.iconst 1, 1) := by decide +kernel
theorem dL_law_691 : decode cL_law 691 = .ok (.iadd, 1) := by decide +kernel
theorem dL_law_692 : decode cL_law 692 = .ok (.iaload, 1) := by decide +kernel
theorem dL_law_693 : decode cL_law 693 = .ok (.aload_n 0, 1) := by decide +kernel
theorem dL_law_694 : decode cL_law 694 = .ok (.iload_n 3, 1) := by decide +kernel
theorem dL_law_695 : decode cL_law 695 = .ok (.iconst 2, 1) := by decide +kernel
theorem dL_law_696 : decode cL_law 696 = .ok (.iadd, 1) := by decide +kernel
theorem dL_law_697 : decode cL_law 697 = .ok (.iaload, 1) := by decide +kernel
theorem dL_law_698 : decode cL_law 698 = .ok (.aload_n 0, 1) := by decide +kernel
theorem dL_law_699 : decode cL_law 699 = .ok (.iload_n 3, 1) := by decide +kernel
theorem dL_law_700 : decode cL_law 700 = .ok (.iconst 3, 1) := by decide +kernel
theorem dL_law_701 : decode cL_law 701 = .ok (.iadd, 1) := by decide +kernel
theorem dL_law_702 : decode cL_law 702 = .ok (.iaload, 1) := by decide +kernel
theorem dL_law_703 : decode cL_law 703 = .ok (.aload_n 0, 1) := by decide +kernel
theorem dL_law_704 : decode cL_law 704 = .ok (.iload_n 3, 1) := by decide +kernel
theorem dL_law_705 : decode cL_law 705 = .ok (.iconst 4, 1) := by decide +kernel
theorem dL_law_706 : decode cL_law 706 = .ok (.iadd, 1) := by decide +kernel
theorem dL_law_707 : decode cL_law 707 = .ok (.iaload, 1) := by decide +kernel
theorem dL_law_708 : decode cL_law 708 = .ok (.invokevirtual 75, 3) := by decide +kernel
theorem dL_law_711 : decode cL_law 711 = .ok (.if_icmp .eq 432, 3) := by decide +kernel
theorem dL_law_714 : decode cL_law 714 = .ok (.iconst 0, 1) := by decide +kernel
theorem dL_law_715 : decode cL_law 715 = .ok (.ireturn, 1) := by decide +kernel
theorem dL_law_716 : decode cL_law 716 = .ok (.aload_n 1, 1) := by decide +kernel
theorem dL_law_717 : decode cL_law 717 = .ok (.aload_n 0, 1) := by decide +kernel
theorem dL_law_718 : decode cL_law 718 = .ok (.iload_n 3, 1) := by decide +kernel
theorem dL_law_719 : decode cL_law 719 = .ok (.iconst 1, 1) := by decide +kernel
theorem dL_law_720 : decode cL_law 720 = .ok (.iadd, 1) := by decide +kernel
theorem dL_law_721 : decode cL_law 721 = .ok (.iaload, 1) := by decide +kernel
theorem dL_law_722 : decode cL_law 722 = .ok (.aload_n 0, 1) := by decide +kernel
theorem dL_law_723 : decode cL_law 723 = .ok (.iload_n 3, 1) := by decide +kernel
theorem dL_law_724 : decode cL_law 724 = .ok (.iconst 2, 1) := by decide +kernel
theorem dL_law_725 : decode cL_law 725 = .ok (.iadd, 1) := by decide +kernel
theorem dL_law_726 : decode cL_law 726 = .ok (.iaload, 1) := by decide +kernel
theorem dL_law_727 : decode cL_law 727 = .ok (.aload_n 0, 1) := by decide +kernel
theorem dL_law_728 : decode cL_law 728 = .ok (.iload_n 3, 1) := by decide +kernel
theorem dL_law_729 : decode cL_law 729 = .ok (.iconst 3, 1) := by decide +kernel
theorem dL_law_730 : decode cL_law 730 = .ok (.iadd, 1) := by decide +kernel
theorem dL_law_731 : decode cL_law 731 = .ok (.iaload, 1) := by decide +kernel
theorem dL_law_732 : decode cL_law 732 = .ok (.aload_n 0, 1) := by decide +kernel
theorem dL_law_733 : decode cL_law 733 = .ok (.iload_n 3, 1) := by decide +kernel
theorem dL_law_734 : decode cL_law 734 = .ok (.iconst 4, 1) := by decide +kernel
theorem dL_law_735 : decode cL_law 735 = .ok (.iadd, 1) := by decide +kernel
theorem dL_law_736 : decode cL_law 736 = .ok (.iaload, 1) := by decide +kernel
theorem dL_law_737 : decode cL_law 737 = .ok (.aload_n 0, 1) := by decide +kernel
theorem dL_law_738 : decode cL_law 738 = .ok (.iload_n 3, 1) := by decide +kernel
theorem dL_law_739 : decode cL_law 739 = .ok (.iconst 5, 1) := by decide +kernel
theorem dL_law_740 : decode cL_law 740 = .ok (.iadd, 1) := by decide +kernel
theorem dL_law_741 : decode cL_law 741 = .ok (.iaload, 1) := by decide +kernel
theorem dL_law_742 : decode cL_law 742 = .ok (.invokevirtual 76, 3) := by decide +kernel
theorem dL_law_745 : decode cL_law 745 = .ok (.aload_n 2, 1) := by decide +kernel
theorem dL_law_746 : decode cL_law 746 = .ok (.aload_n 0, 1) := by decide +kernel
theorem dL_law_747 : decode cL_law 747 = .ok (.iload_n 3, 1) := by decide +kernel
theorem dL_law_748 : decode cL_law 748 = .ok (.iconst 1, 1) := by decide +kernel
theorem dL_law_749 : decode cL_law 749 = .ok (.iadd, 1) := by decide +kernel
theorem dL_law_750 : decode cL_law 750 = .ok (.iaload, 1) := by decide +kernel
theorem dL_law_751 : decode cL_law 751 = .ok (.aload_n 0, 1) := by decide +kernel
theorem dL_law_752 : decode cL_law 752 = .ok (.iload_n 3, 1) := by decide +kernel
theorem dL_law_753 : decode cL_law 753 = .ok (.iconst 2, 1) := by decide +kernel
theorem dL_law_754 : decode cL_law 754 = .ok (.iadd, 1) := by decide +kernel
theorem dL_law_755 : decode cL_law 755 = .ok (.iaload, 1) := by decide +kernel
theorem dL_law_756 : decode cL_law 756 = .ok (.aload_n 0, 1) := by decide +kernel
theorem dL_law_757 : decode cL_law 757 = .ok (.iload_n 3, 1) := by decide +kernel
theorem dL_law_758 : decode cL_law 758 = .ok (.iconst 3, 1) := by decide +kernel
theorem dL_law_759 : decode cL_law 759 = .ok (.iadd, 1) := by decide +kernel
theorem dL_law_760 : decode cL_law 760 = .ok (.iaload, 1) := by decide +kernel
theorem dL_law_761 : decode cL_law 761 = .ok (.aload_n 0, 1) := by decide +kernel
theorem dL_law_762 : decode cL_law 762 = .ok (.iload_n 3, 1) := by decide +kernel
theorem dL_law_763 : decode cL_law 763 = .ok (.iconst 4, 1) := by decide +kernel
theorem dL_law_764 : decode cL_law 764 = .ok (.iadd, 1) := by decide +kernel
theorem dL_law_765 : decode cL_law 765 = .ok (.iaload, 1) := by decide +kernel
theorem dL_law_766 : decode cL_law 766 = .ok (.aload_n 0, 1) := by decide +kernel
theorem dL_law_767 : decode cL_law 767 = .ok (.iload_n 3, 1) := by decide +kernel
theorem dL_law_768 : decode cL_law 768 = .ok (.iconst 5, 1) := by decide +kernel
theorem dL_law_769 : decode cL_law 769 = .ok (.iadd, 1) := by decide +kernel
theorem dL_law_770 : decode cL_law 770 = .ok (.iaload, 1) := by decide +kernel
theorem dL_law_771 : decode cL_law 771 = .ok (.invokevirtual 79, 3) := by decide +kernel
theorem dL_law_774 : decode cL_law 774 = .ok (.if_icmp .eq 369, 3) := by decide +kernel
theorem dL_law_777 : decode cL_law 777 = .ok (.iconst 0, 1) := by decide +kernel
theorem dL_law_778 : decode cL_law 778 = .ok (.ireturn, 1) := by decide +kernel
theorem dL_law_779 : decode cL_law 779 = .ok (.aload_n 1, 1) := by decide +kernel
theorem dL_law_780 : decode cL_law 780 = .ok (.aload_n 0, 1) := by decide +kernel
theorem dL_law_781 : decode cL_law 781 = .ok (.iload_n 3, 1) := by decide +kernel
theorem dL_law_782 : decode cL_law 782 = .ok (.iconst 1, 1) := by decide +kernel
theorem dL_law_783 : decode cL_law 783 = .ok (.iadd, 1) := by decide +kernel
theorem dL_law_784 : decode cL_law 784 = .ok (.iaload, 1) := by decide +kernel
theorem dL_law_785 : decode cL_law 785 = .ok (.aload_n 0, 1) := by decide +kernel
theorem dL_law_786 : decode cL_law 786 = .ok (.iload_n 3, 1) := by decide +kernel
theorem dL_law_787 : decode cL_law 787 = .ok (.iconst 2, 1) := by decide +kernel
theorem dL_law_788 : decode cL_law 788 = .ok (.iadd, 1) := by decide +kernel
theorem dL_law_789 : decode cL_law 789 = .ok (.iaload, 1) := by decide +kernel
theorem dL_law_790 : decode cL_law 790 = .ok (.aload_n 0, 1) := by decide +kernel
theorem dL_law_791 : decode cL_law 791 = .ok (.iload_n 3, 1) := by decide +kernel
theorem dL_law_792 : decode cL_law 792 = .ok (.iconst 3, 1) := by decide +kernel
theorem dL_law_793 : decode cL_law 793 = .ok (.iadd, 1) := by decide +kernel
theorem dL_law_794 : decode cL_law 794 = .ok (.iaload, 1) := by decide +kernel
theorem dL_law_795 : decode cL_law 795 = .ok (.invokevirtual 80, 3) := by decide +kernel
theorem dL_law_798 : decode cL_law 798 = .ok (.aload_n 2, 1) := by decide +kernel
theorem dL_law_799 : decode cL_law 799 = .ok (.aload_n 0, 1) := by decide +kernel
theorem dL_law_800 : decode cL_law 800 = .ok (.iload_n 3, 1) := by decide +kernel
theorem dL_law_801 : decode cL_law 801 = .ok (.iconst 1, 1) := by decide +kernel
theorem dL_law_802 : decode cL_law 802 = .ok (.iadd, 1) := by decide +kernel
theorem dL_law_803 : decode cL_law 803 = .ok (.iaload, 1) := by decide +kernel
theorem dL_law_804 : decode cL_law 804 = .ok (.aload_n 0, 1) := by decide +kernel
theorem dL_law_805 : decode cL_law 805 = .ok (.iload_n 3, 1) := by decide +kernel
theorem dL_law_806 : decode cL_law 806 = .ok (.iconst 2, 1) := by decide +kernel
theorem dL_law_807 : decode cL_law 807 = .ok (.iadd, 1) := by decide +kernel
theorem dL_law_808 : decode cL_law 808 = .ok (.iaload, 1) := by decide +kernel
theorem dL_law_809 : decode cL_law 809 = .ok (.aload_n 0, 1) := by decide +kernel
theorem dL_law_810 : decode cL_law 810 = .ok (.iload_n 3, 1) := by decide +kernel
theorem dL_law_811 : decode cL_law 811 = .ok (.iconst 3, 1) := by decide +kernel
theorem dL_law_812 : decode cL_law 812 = .ok (.iadd, 1) := by decide +kernel
theorem dL_law_813 : decode cL_law 813 = .ok (.iaload, 1) := by decide +kernel
theorem dL_law_814 : decode cL_law 814 = .ok (.invokevirtual 83, 3) := by decide +kernel
theorem dL_law_817 : decode cL_law 817 = .ok (.if_icmp .eq 326, 3) := by decide +kernel
theorem dL_law_820 : decode cL_law 820 = .ok (.iconst 0, 1) := by decide +kernel
theorem dL_law_821 : decode cL_law 821 = .ok (.ireturn, 1) := by decide +kernel
theorem dL_law_822 : decode cL_law 822 = .ok (.aload_n 1, 1) := by decide +kernel
theorem dL_law_823 : decode cL_law 823 = .ok (.aload_n 0, 1) := by decide +kernel
theorem dL_law_824 : decode cL_law 824 = .ok (.iload_n 3, 1) := by decide +kernel
theorem dL_law_825 : decode cL_law 825 = .ok (.iconst 1, 1) := by decide +kernel
theorem dL_law_826 : decode cL_law 826 = .ok (.iadd, 1) := by decide +kernel
theorem dL_law_827 : decode cL_law 827 = .ok (.iaload, 1) := by decide +kernel
theorem dL_law_828 : decode cL_law 828 = .ok (.aload_n 0, 1) := by decide +kernel
theorem dL_law_829 : decode cL_law 829 = .ok (.iload_n 3, 1) := by decide +kernel
theorem dL_law_830 : decode cL_law 830 = .ok (.iconst 2, 1) := by decide +kernel
theorem dL_law_831 : decode cL_law 831 = .ok (.iadd, 1) := by decide +kernel
theorem dL_law_832 : decode cL_law 832 = .ok (.iaload, 1) := by decide +kernel
theorem dL_law_833 : decode cL_law 833 = .ok (.aload_n 0, 1) := by decide +kernel
theorem dL_law_834 : decode cL_law 834 = .ok (.iload_n 3, 1) := by decide +kernel
theorem dL_law_835 : decode cL_law 835 = .ok (.iconst 3, 1) := by decide +kernel
theorem dL_law_836 : decode cL_law 836 = .ok (.iadd, 1) := by decide +kernel
theorem dL_law_837 : decode cL_law 837 = .ok (.iaload, 1) := by decide +kernel
theorem dL_law_838 : decode cL_law 838 = .ok (.invokevirtual 84, 3) := by decide +kernel
theorem dL_law_841 : decode cL_law 841 = .ok (.aload_n 2, 1) := by decide +kernel
theorem dL_law_842 : decode cL_law 842 = .ok (.aload_n 0, 1) := by decide +kernel
theorem dL_law_843 : decode cL_law 843 = .ok (.iload_n 3, 1) := by decide +kernel
theorem dL_law_844 : decode cL_law 844 = .ok (.iconst 1, 1) := by decide +kernel
theorem dL_law_845 : decode cL_law 845 = .ok (.iadd, 1) := by decide +kernel
theorem dL_law_846 : decode cL_law 846 = .ok (.iaload, 1) := by decide +kernel
theorem dL_law_847 : decode cL_law 847 = .ok (.aload_n 0, 1) := by decide +kernel
theorem dL_law_848 : decode cL_law 848 = .ok (.iload_n 3, 1) := by decide +kernel
theorem dL_law_849 : decode cL_law 849 = .ok (.iconst 2, 1) := by decide +kernel
theorem dL_law_850 : decode cL_law 850 = .ok (.iadd, 1) := by decide +kernel
theorem dL_law_851 : decode cL_law 851 = .ok (.iaload, 1) := by decide +kernel
theorem dL_law_852 : decode cL_law 852 = .ok (.aload_n 0, 1) := by decide +kernel
theorem dL_law_853 : decode cL_law 853 = .ok (.iload_n 3, 1) := by decide +kernel
theorem dL_law_854 : decode cL_law 854 = .ok (.iconst 3, 1) := by decide +kernel
theorem dL_law_855 : decode cL_law 855 = .ok (.iadd, 1) := by decide +kernel
theorem dL_law_856 : decode cL_law 856 = .ok (.iaload, 1) := by decide +kernel
theorem dL_law_857 : decode cL_law 857 = .ok (.invokevirtual 87, 3) := by decide +kernel
theorem dL_law_860 : decode cL_law 860 = .ok (.if_icmp .eq 283, 3) := by decide +kernel
theorem dL_law_863 : decode cL_law 863 = .ok (.iconst 0, 1) := by decide +kernel
theorem dL_law_864 : decode cL_law 864 = .ok (.ireturn, 1) := by decide +kernel
theorem dL_law_865 : decode cL_law 865 = .ok (.aload_n 1, 1) := by decide +kernel
theorem dL_law_866 : decode cL_law 866 = .ok (.aload_n 0, 1) := by decide +kernel
theorem dL_law_867 : decode cL_law 867 = .ok (.iload_n 3, 1) := by decide +kernel
theorem dL_law_868 : decode cL_law 868 = .ok (.iconst 1, 1) := by decide +kernel
theorem dL_law_869 : decode cL_law 869 = .ok (.iadd, 1) := by decide +kernel
theorem dL_law_870 : decode cL_law 870 = .ok (.iaload, 1) := by decide +kernel
theorem dL_law_871 : decode cL_law 871 = .ok (.aload_n 0, 1) := by decide +kernel
theorem dL_law_872 : decode cL_law 872 = .ok (.iload_n 3, 1) := by decide +kernel
theorem dL_law_873 : decode cL_law 873 = .ok (.iconst 2, 1) := by decide +kernel
theorem dL_law_874 : decode cL_law 874 = .ok (.iadd, 1) := by decide +kernel
theorem dL_law_875 : decode cL_law 875 = .ok (.iaload, 1) := by decide +kernel
theorem dL_law_876 : decode cL_law 876 = .ok (.aload_n 0, 1) := by decide +kernel
theorem dL_law_877 : decode cL_law 877 = .ok (.iload_n 3, 1) := by decide +kernel
theorem dL_law_878 : decode cL_law 878 = .ok (.iconst 3, 1) := by decide +kernel
theorem dL_law_879 : decode cL_law 879 = .ok (.iadd, 1) := by decide +kernel
theorem dL_law_880 : decode cL_law 880 = .ok (.iaload, 1) := by decide +kernel
theorem dL_law_881 : decode cL_law 881 = .ok (.invokevirtual 88, 3) := by decide +kernel
theorem dL_law_884 : decode cL_law 884 = .ok (.aload_n 2, 1) := by decide +kernel
theorem dL_law_885 : decode cL_law 885 = .ok (.aload_n 0, 1) := by decide +kernel
theorem dL_law_886 : decode cL_law 886 = .ok (.iload_n 3, 1) := by decide +kernel
theorem dL_law_887 : decode cL_law 887 = .ok (.iconst 1, 1) := by decide +kernel
theorem dL_law_888 : decode cL_law 888 = .ok (.iadd, 1) := by decide +kernel
theorem dL_law_889 : decode cL_law 889 = .ok (.iaload, 1) := by decide +kernel
theorem dL_law_890 : decode cL_law 890 = .ok (.aload_n 0, 1) := by decide +kernel
theorem dL_law_891 : decode cL_law 891 = .ok (.iload_n 3, 1) := by decide +kernel
theorem dL_law_892 : decode cL_law 892 = .ok (.iconst 2, 1) := by decide +kernel
theorem dL_law_893 : decode cL_law 893 = .ok (.iadd, 1) := by decide +kernel
theorem dL_law_894 : decode cL_law 894 = .ok (.iaload, 1) := by decide +kernel
theorem dL_law_895 : decode cL_law 895 = .ok (.aload_n 0, 1) := by decide +kernel
theorem dL_law_896 : decode cL_law 896 = .ok (.iload_n 3, 1) := by decide +kernel
theorem dL_law_897 : decode cL_law 897 = .ok (.iconst 3, 1) := by decide +kernel
theorem dL_law_898 : decode cL_law 898 = .ok (.iadd, 1) := by decide +kernel
theorem dL_law_899 : decode cL_law 899 = .ok (.iaload, 1) := by decide +kernel
theorem dL_law_900 : decode cL_law 900 = .ok (.invokevirtual 91, 3) := by decide +kernel
theorem dL_law_903 : decode cL_law 903 = .ok (.if_icmp .eq 240, 3) := by decide +kernel
theorem dL_law_906 : decode cL_law 906 = .ok (.iconst 0, 1) := by decide +kernel
theorem dL_law_907 : decode cL_law 907 = .ok (.ireturn, 1) := by decide +kernel
theorem dL_law_908 : decode cL_law 908 = .ok (.aload_n 1, 1) := by decide +kernel
theorem dL_law_909 : decode cL_law 909 = .ok (.aload_n 0, 1) := by decide +kernel
theorem dL_law_910 : decode cL_law 910 = .ok (.iload_n 3, 1) := by decide +kernel
theorem dL_law_911 : decode cL_law 911 = .ok (.iconst 1, 1) := by decide +kernel
theorem dL_law_912 : decode cL_law 912 = .ok (.iadd, 1) := by decide +kernel
theorem dL_law_913 : decode cL_law 913 = .ok (.iaload, 1) := by decide +kernel
theorem dL_law_914 : decode cL_law 914 = .ok (.aload_n 0, 1) := by decide +kernel
theorem dL_law_915 : decode cL_law 915 = .ok (.iload_n 3, 1) := by decide +kernel
theorem dL_law_916 : decode cL_law 916 = .ok (.iconst 2, 1) := by decide +kernel
theorem dL_law_917 : decode cL_law 917 = .ok (.iadd, 1) := by decide +kernel
theorem dL_law_918 : decode cL_law 918 = .ok (.iaload, 1) := by decide +kernel
theorem dL_law_919 : decode cL_law 919 = .ok (.aload_n 0, 1) := by decide +kernel
theorem dL_law_920 : decode cL_law 920 = .ok (.iload_n 3, 1) := by decide +kernel
theorem dL_law_921 : decode cL_law 921 = .ok (.iconst 3, 1) := by decide +kernel
theorem dL_law_922 : decode cL_law 922 = .ok (.iadd, 1) := by decide +kernel
theorem dL_law_923 : decode cL_law 923 = .ok (.iaload, 1) := by decide +kernel
theorem dL_law_924 : decode cL_law 924 = .ok (.aload_n 0, 1) := by decide +kernel
theorem dL_law_925 : decode cL_law 925 = .ok (.iload_n 3, 1) := by decide +kernel
theorem dL_law_926 : decode cL_law 926 = .ok (.iconst 4, 1) := by decide +kernel
theorem dL_law_927 : decode cL_law 927 = .ok (.iadd, 1) := by decide +kernel
theorem dL_law_928 : decode cL_law 928 = .ok (.iaload, 1) := by decide +kernel
theorem dL_law_929 : decode cL_law 929 = .ok (.aload_n 0, 1) := by decide +kernel
theorem dL_law_930 : decode cL_law 930 = .ok (.iload_n 3, 1) := by decide +kernel
theorem dL_law_931 : decode cL_law 931 = .ok (.iconst 5, 1) := by decide +kernel
theorem dL_law_932 : decode cL_law 932 = .ok (.iadd, 1) := by decide +kernel
theorem dL_law_933 : decode cL_law 933 = .ok (.iaload, 1) := by decide +kernel
theorem dL_law_934 : decode cL_law 934 = .ok (.invokevirtual 92, 3) := by decide +kernel
theorem dL_law_937 : decode cL_law 937 = .ok (.aload_n 2, 1) := by decide +kernel
theorem dL_law_938 : decode cL_law 938 = .ok (.aload_n 0, 1) := by decide +kernel
theorem dL_law_939 : decode cL_law 939 = .ok (.iload_n 3, 1) := by decide +kernel
theorem dL_law_940 : decode cL_law 940 = .ok (.iconst 1, 1) := by decide +kernel
theorem dL_law_941 : decode cL_law 941 = .ok (.iadd, 1) := by decide +kernel
theorem dL_law_942 : decode cL_law 942 = .ok (.iaload, 1) := by decide +kernel
theorem dL_law_943 : decode cL_law 943 = .ok (.aload_n 0, 1) := by decide +kernel
theorem dL_law_944 : decode cL_law 944 = .ok (.iload_n 3, 1) := by decide +kernel
theorem dL_law_945 : decode cL_law 945 = .ok (.iconst 2, 1) := by decide +kernel
theorem dL_law_946 : decode cL_law 946 = .ok (.iadd, 1) := by decide +kernel
theorem dL_law_947 : decode cL_law 947 = .ok (.iaload, 1) := by decide +kernel
theorem dL_law_948 : decode cL_law 948 = .ok (.aload_n 0, 1) := by decide +kernel
theorem dL_law_949 : decode cL_law 949 = .ok (.iload_n 3, 1) := by decide +kernel
theorem dL_law_950 : decode cL_law 950 = .ok (.iconst 3, 1) := by decide +kernel
theorem dL_law_951 : decode cL_law 951 = .ok (.iadd, 1) := by decide +kernel
theorem dL_law_952 : decode cL_law 952 = .ok (.iaload, 1) := by decide +kernel
theorem dL_law_953 : decode cL_law 953 = .ok (.aload_n 0, 1) := by decide +kernel
theorem dL_law_954 : decode cL_law 954 = .ok (.iload_n 3, 1) := by decide +kernel
theorem dL_law_955 : decode cL_law 955 = .ok (.iconst 4, 1) := by decide +kernel
theorem dL_law_956 : decode cL_law 956 = .ok (.iadd, 1) := by decide +kernel
theorem dL_law_957 : decode cL_law 957 = .ok (.iaload, 1) := by decide +kernel
theorem dL_law_958 : decode cL_law 958 = .ok (.aload_n 0, 1) := by decide +kernel
theorem dL_law_959 : decode cL_law 959 = .ok (.iload_n 3, 1) := by decide +kernel
theorem dL_law_960 : decode cL_law 960 = .ok (.iconst 5, 1) := by decide +kernel
theorem dL_law_961 : decode cL_law 961 = .ok (.iadd, 1) := by decide +kernel
theorem dL_law_962 : decode cL_law 962 = .ok (.iaload, 1) := by decide +kernel
theorem dL_law_963 : decode cL_law 963 = .ok (.invokevirtual 95, 3) := by decide +kernel
theorem dL_law_966 : decode cL_law 966 = .ok (.if_icmp .eq 177, 3) := by decide +kernel
theorem dL_law_969 : decode cL_law 969 = .ok (.iconst 0, 1) := by decide +kernel
theorem dL_law_970 : decode cL_law 970 = .ok (.ireturn, 1) := by decide +kernel
theorem dL_law_971 : decode cL_law 971 = .ok (.aload_n 1, 1) := by decide +kernel
theorem dL_law_972 : decode cL_law 972 = .ok (.aload_n 0, 1) := by decide +kernel
theorem dL_law_973 : decode cL_law 973 = .ok (.iload_n 3, 1) := by decide +kernel
theorem dL_law_974 : decode cL_law 974 = .ok (.iconst 1, 1) := by decide +kernel
theorem dL_law_975 : decode cL_law 975 = .ok (.iadd, 1) := by decide +kernel
theorem dL_law_976 : decode cL_law 976 = .ok (.iaload, 1) := by decide +kernel
theorem dL_law_977 : decode cL_law 977 = .ok (.aload_n 0, 1) := by decide +kernel
theorem dL_law_978 : decode cL_law 978 = .ok (.iload_n 3, 1) := by decide +kernel
theorem dL_law_979 : decode cL_law 979 = .ok (.iconst 2, 1) := by decide +kernel
theorem dL_law_980 : decode cL_law 980 = .ok (.iadd, 1) := by decide +kernel
theorem dL_law_981 : decode cL_law 981 = .ok (.iaload, 1) := by decide +kernel
theorem dL_law_982 : decode cL_law 982 = .ok (.aload_n 0, 1) := by decide +kernel
theorem dL_law_983 : decode cL_law 983 = .ok (.iload_n 3, 1) := by decide +kernel
theorem dL_law_984 : decode cL_law 984 = .ok (.iconst 3, 1) := by decide +kernel
theorem dL_law_985 : decode cL_law 985 = .ok (.iadd, 1) := by decide +kernel
theorem dL_law_986 : decode cL_law 986 = .ok (.iaload, 1) := by decide +kernel
theorem dL_law_987 : decode cL_law 987 = .ok (.aload_n 0, 1) := by decide +kernel
theorem dL_law_988 : decode cL_law 988 = .ok (.iload_n 3, 1) := by decide +kernel
theorem dL_law_989 : decode cL_law 989 = .ok (.iconst 4, 1) := by decide +kernel
theorem dL_law_990 : decode cL_law 990 = .ok (.iadd, 1) := by decide +kernel
theorem dL_law_991 : decode cL_law 991 = .ok (.iaload, 1) := by decide +kernel
theorem dL_law_992 : decode cL_law 992 = .ok (.invokevirtual 96, 3) := by decide +kernel
theorem dL_law_995 : decode cL_law 995 = .ok (.aload_n 2, 1) := by decide +kernel
theorem dL_law_996 : decode cL_law 996 = .ok (.aload_n 0, 1) := by decide +kernel
theorem dL_law_997 : decode cL_law 997 = .ok (.iload_n 3, 1) := by decide +kernel
theorem dL_law_998 : decode cL_law 998 = .ok (.iconst 1, 1) := by decide +kernel
theorem dL_law_999 : decode cL_law 999 = .ok (.iadd, 1) := by decide +kernel
theorem dL_law_1000 : decode cL_law 1000 = .ok (.iaload, 1) := by decide +kernel
theorem dL_law_1001 : decode cL_law 1001 = .ok (.aload_n 0, 1) := by decide +kernel
theorem dL_law_1002 : decode cL_law 1002 = .ok (.iload_n 3, 1) := by decide +kernel
theorem dL_law_1003 : decode cL_law 1003 = .ok (.iconst 2, 1) := by decide +kernel
theorem dL_law_1004 : decode cL_law 1004 = .ok (.iadd, 1) := by decide +kernel
theorem dL_law_1005 : decode cL_law 1005 = .ok (.iaload, 1) := by decide +kernel
theorem dL_law_1006 : decode cL_law 1006 = .ok (.aload_n 0, 1) := by decide +kernel
theorem dL_law_1007 : decode cL_law 1007 = .ok (.iload_n 3, 1) := by decide +kernel
theorem dL_law_1008 : decode cL_law 1008 = .ok (.iconst 3, 1) := by decide +kernel
theorem dL_law_1009 : decode cL_law 1009 = .ok (.iadd, 1) := by decide +kernel
theorem dL_law_1010 : decode cL_law 1010 = .ok (.iaload, 1) := by decide +kernel
theorem dL_law_1011 : decode cL_law 1011 = .ok (.aload_n 0, 1) := by decide +kernel
theorem dL_law_1012 : decode cL_law 1012 = .ok (.iload_n 3, 1) := by decide +kernel
theorem dL_law_1013 : decode cL_law 1013 = .ok (.iconst 4, 1) := by decide +kernel
theorem dL_law_1014 : decode cL_law 1014 = .ok (.iadd, 1) := by decide +kernel
theorem dL_law_1015 : decode cL_law 1015 = .ok (.iaload, 1) := by decide +kernel
theorem dL_law_1016 : decode cL_law 1016 = .ok (.invokevirtual 99, 3) := by decide +kernel
theorem dL_law_1019 : decode cL_law 1019 = .ok (.if_icmp .eq 124, 3) := by decide +kernel
theorem dL_law_1022 : decode cL_law 1022 = .ok (.iconst 0, 1) := by decide +kernel
theorem dL_law_1023 : decode cL_law 1023 = .ok (.ireturn, 1) := by decide +kernel
theorem dL_law_1024 : decode cL_law 1024 = .ok (.aload_n 1, 1) := by decide +kernel
theorem dL_law_1025 : decode cL_law 1025 = .ok (.aload_n 0, 1) := by decide +kernel
theorem dL_law_1026 : decode cL_law 1026 = .ok (.iload_n 3, 1) := by decide +kernel
theorem dL_law_1027 : decode cL_law 1027 = .ok (.iconst 1, 1) := by decide +kernel
theorem dL_law_1028 : decode cL_law 1028 = .ok (.iadd, 1) := by decide +kernel
theorem dL_law_1029 : decode cL_law 1029 = .ok (.iaload, 1) := by decide +kernel
theorem dL_law_1030 : decode cL_law 1030 = .ok (.aload_n 0, 1) := by decide +kernel
theorem dL_law_1031 : decode cL_law 1031 = .ok (.iload_n 3, 1) := by decide +kernel
theorem dL_law_1032 : decode cL_law 1032 = .ok (.iconst 2, 1) := by decide +kernel
theorem dL_law_1033 : decode cL_law 1033 = .ok (.iadd, 1) := by decide +kernel
theorem dL_law_1034 : decode cL_law 1034 = .ok (.iaload, 1) := by decide +kernel
theorem dL_law_1035 : decode cL_law 1035 = .ok (.aload_n 0, 1) := by decide +kernel
theorem dL_law_1036 : decode cL_law 1036 = .ok (.iload_n 3, 1) := by decide +kernel
theorem dL_law_1037 : decode cL_law 1037 = .ok (.iconst 3, 1) := by decide +kernel
theorem dL_law_1038 : decode cL_law 1038 = .ok (.iadd, 1) := by decide +kernel
theorem dL_law_1039 : decode cL_law 1039 = .ok (.iaload, 1) := by decide +kernel
theorem dL_law_1040 : decode cL_law 1040 = .ok (.invokevirtual 100, 3) := by decide +kernel
theorem dL_law_1043 : decode cL_law 1043 = .ok (.aload_n 2, 1) := by decide +kernel
theorem dL_law_1044 : decode cL_law 1044 = .ok (.aload_n 0, 1) := by decide +kernel
theorem dL_law_1045 : decode cL_law 1045 = .ok (.iload_n 3, 1) := by decide +kernel
theorem dL_law_1046 : decode cL_law 1046 = .ok (.iconst 1, 1) := by decide +kernel
theorem dL_law_1047 : decode cL_law 1047 = .ok (.iadd, 1) := by decide +kernel
theorem dL_law_1048 : decode cL_law 1048 = .ok (.iaload, 1) := by decide +kernel
theorem dL_law_1049 : decode cL_law 1049 = .ok (.aload_n 0, 1) := by decide +kernel
theorem dL_law_1050 : decode cL_law 1050 = .ok (.iload_n 3, 1) := by decide +kernel
theorem dL_law_1051 : decode cL_law 1051 = .ok (.iconst 2, 1) := by decide +kernel
theorem dL_law_1052 : decode cL_law 1052 = .ok (.iadd, 1) := by decide +kernel
theorem dL_law_1053 : decode cL_law 1053 = .ok (.iaload, 1) := by decide +kernel
theorem dL_law_1054 : decode cL_law 1054 = .ok (.aload_n 0, 1) := by decide +kernel
theorem dL_law_1055 : decode cL_law 1055 = .ok (.iload_n 3, 1) := by decide +kernel
theorem dL_law_1056 : decode cL_law 1056 = .ok (.iconst 3, 1) := by decide +kernel
theorem dL_law_1057 : decode cL_law 1057 = .ok (.iadd, 1) := by decide +kernel
theorem dL_law_1058 : decode cL_law 1058 = .ok (.iaload, 1) := by decide +kernel
theorem dL_law_1059 : decode cL_law 1059 = .ok (.invokevirtual 103, 3) := by decide +kernel
theorem dL_law_1062 : decode cL_law 1062 = .ok (.if_icmp .eq 81, 3) := by decide +kernel
theorem dL_law_1065 : decode cL_law 1065 = .ok (.iconst 0, 1) := by decide +kernel
theorem dL_law_1066 : decode cL_law 1066 = .ok (.ireturn, 1) := by decide +kernel
theorem dL_law_1067 : decode cL_law 1067 = .ok (.aload_n 1, 1) := by decide +kernel
theorem dL_law_1068 : decode cL_law 1068 = .ok (.aload_n 0, 1) := by decide +kernel
theorem dL_law_1069 : decode cL_law 1069 = .ok (.iload_n 3, 1) := by decide +kernel
theorem dL_law_1070 : decode cL_law 1070 = .ok (.iconst 1, 1) := by decide +kernel
theorem dL_law_1071 : decode cL_law 1071 = .ok (.iadd, 1) := by decide +kernel
theorem dL_law_1072 : decode cL_law 1072 = .ok (.iaload, 1) := by decide +kernel
theorem dL_law_1073 : decode cL_law 1073 = .ok (.aload_n 0, 1) := by decide +kernel
theorem dL_law_1074 : decode cL_law 1074 = .ok (.iload_n 3, 1) := by decide +kernel
theorem dL_law_1075 : decode cL_law 1075 = .ok (.iconst 2, 1) := by decide +kernel
theorem dL_law_1076 : decode cL_law 1076 = .ok (.iadd, 1) := by decide +kernel
theorem dL_law_1077 : decode cL_law 1077 = .ok (.iaload, 1) := by decide +kernel
theorem dL_law_1078 : decode cL_law 1078 = .ok (.aload_n 0, 1) := by decide +kernel
theorem dL_law_1079 : decode cL_law 1079 = .ok (.iload_n 3, 1) := by decide +kernel
theorem dL_law_1080 : decode cL_law 1080 = .ok (.iconst 3, 1) := by decide +kernel
theorem dL_law_1081 : decode cL_law 1081 = .ok (.iadd, 1) := by decide +kernel
theorem dL_law_1082 : decode cL_law 1082 = .ok (.iaload, 1) := by decide +kernel
theorem dL_law_1083 : decode cL_law 1083 = .ok (.aload_n 0, 1) := by decide +kernel
theorem dL_law_1084 : decode cL_law 1084 = .ok (.iload_n 3, 1) := by decide +kernel
theorem dL_law_1085 : decode cL_law 1085 = .ok (.iconst 4, 1) := by decide +kernel
theorem dL_law_1086 : decode cL_law 1086 = .ok (.iadd, 1) := by decide +kernel
theorem dL_law_1087 : decode cL_law 1087 = .ok (.iaload, 1) := by decide +kernel
theorem dL_law_1088 : decode cL_law 1088 = .ok (.invokevirtual 104, 3) := by decide +kernel
theorem dL_law_1091 : decode cL_law 1091 = .ok (.aload_n 2, 1) := by decide +kernel
theorem dL_law_1092 : decode cL_law 1092 = .ok (.aload_n 0, 1) := by decide +kernel
theorem dL_law_1093 : decode cL_law 1093 = .ok (.iload_n 3, 1) := by decide +kernel
theorem dL_law_1094 : decode cL_law 1094 = .ok (.iconst 1, 1) := by decide +kernel
theorem dL_law_1095 : decode cL_law 1095 = .ok (.iadd, 1) := by decide +kernel
theorem dL_law_1096 : decode cL_law 1096 = .ok (.iaload, 1) := by decide +kernel
theorem dL_law_1097 : decode cL_law 1097 = .ok (.aload_n 0, 1) := by decide +kernel
theorem dL_law_1098 : decode cL_law 1098 = .ok (.iload_n 3, 1) := by decide +kernel
theorem dL_law_1099 : decode cL_law 1099 = .ok (.iconst 2, 1) := by decide +kernel
theorem dL_law_1100 : decode cL_law 1100 = .ok (.iadd, 1) := by decide +kernel
theorem dL_law_1101 : decode cL_law 1101 = .ok (.iaload, 1) := by decide +kernel
theorem dL_law_1102 : decode cL_law 1102 = .ok (.aload_n 0, 1) := by decide +kernel
theorem dL_law_1103 : decode cL_law 1103 = .ok (.iload_n 3, 1) := by decide +kernel
theorem dL_law_1104 : decode cL_law 1104 = .ok (.iconst 3, 1) := by decide +kernel
theorem dL_law_1105 : decode cL_law 1105 = .ok (.iadd, 1) := by decide +kernel
theorem dL_law_1106 : decode cL_law 1106 = .ok (.iaload, 1) := by decide +kernel
theorem dL_law_1107 : decode cL_law 1107 = .ok (.aload_n 0, 1) := by decide +kernel
theorem dL_law_1108 : decode cL_law 1108 = .ok (.iload_n 3, 1) := by decide +kernel
theorem dL_law_1109 : decode cL_law 1109 = .ok (.iconst 4, 1) := by decide +kernel
theorem dL_law_1110 : decode cL_law 1110 = .ok (.iadd, 1) := by decide +kernel
theorem dL_law_1111 : decode cL_law 1111 = .ok (.iaload, 1) := by decide +kernel
theorem dL_law_1112 : decode cL_law 1112 = .ok (.invokevirtual 107, 3) := by decide +kernel
theorem dL_law_1115 : decode cL_law 1115 = .ok (.if_icmp .eq 28, 3) := by decide +kernel
theorem dL_law_1118 : decode cL_law 1118 = .ok (.iconst 0, 1) := by decide +kernel
theorem dL_law_1119 : decode cL_law 1119 = .ok (.ireturn, 1) := by decide +kernel
theorem dL_law_1120 : decode cL_law 1120 = .ok (.aload_n 1, 1) := by decide +kernel
theorem dL_law_1121 : decode cL_law 1121 = .ok (.aload_n 0, 1) := by decide +kernel
theorem dL_law_1122 : decode cL_law 1122 = .ok (.iload_n 3, 1) := by decide +kernel
theorem dL_law_1123 : decode cL_law 1123 = .ok (.iconst 1, 1) := by decide +kernel
theorem dL_law_1124 : decode cL_law 1124 = .ok (.iadd, 1) := by decide +kernel
theorem dL_law_1125 : decode cL_law 1125 = .ok (.iaload, 1) := by decide +kernel
theorem dL_law_1126 : decode cL_law 1126 = .ok (.invokevirtual 108, 3) := by decide +kernel
theorem dL_law_1129 : decode cL_law 1129 = .ok (.aload_n 2, 1) := by decide +kernel
theorem dL_law_1130 : decode cL_law 1130 = .ok (.aload_n 0, 1) := by decide +kernel
theorem dL_law_1131 : decode cL_law 1131 = .ok (.iload_n 3, 1) := by decide +kernel
theorem dL_law_1132 : decode cL_law 1132 = .ok (.iconst 1, 1) := by decide +kernel
theorem dL_law_1133 : decode cL_law 1133 = .ok (.iadd, 1) := by decide +kernel
theorem dL_law_1134 : decode cL_law 1134 = .ok (.iaload, 1) := by decide +kernel
theorem dL_law_1135 : decode cL_law 1135 = .ok (.invokevirtual 111, 3) := by decide +kernel
theorem dL_law_1138 : decode cL_law 1138 = .ok (.if_icmp .eq 5, 3) := by decide +kernel
theorem dL_law_1141 : decode cL_law 1141 = .ok (.iconst 0, 1) := by decide +kernel
theorem dL_law_1142 : decode cL_law 1142 = .ok (.ireturn, 1) := by decide +kernel
theorem dL_law_1143 : decode cL_law 1143 = .ok (.iinc 3 7, 3) := by decide +kernel
theorem dL_law_1146 : decode cL_law 1146 = .ok (.goto (-1128), 3) := by decide +kernel
theorem dL_law_1149 : decode cL_law 1149 = .ok (.iconst 1, 1) := by decide +kernel
theorem dL_law_1150 : decode cL_law 1150 = .ok (.ireturn, 1) := by decide +kernel
end
section
/-! ===== the state, the world of a state, the judgement of a port ===== -/
abbrev St : Type := (Nat → Nat → Int32) × (Nat → Nat → Int64)
abbrev EnT : Type := Nat → (Nat → Int32) → (Nat → Int64) → va_E
/-- D, array classes, addresses, number of cells, contents -/
abbrev Vw : Type := va_G × List (ClassId × FieldType) × (Nat → Nat) × Nat × EnT
abbrev vq (v : Vw) : Nat → Nat := v.2.2.1
abbrev vN (v : Vw) : Nat := v.2.2.2.1
abbrev vE (v : Vw) : EnT := v.2.2.2.2
def stI (σ : St) (k j : Nat) (x : Int32) : St := (va_up σ.1 k (upd (σ.1 k) j x), σ.2)
def stL (σ : St) (k j : Nat) (x : Int64) : St := (σ.1, va_up σ.2 k (vp_updL (σ.2 k) j x))
def stR (σ : St) (k : Nat) (f : Nat → Int32) : St := (va_up σ.1 k f, σ.2)
def wd (v : Vw) (σ : St) : va_W := (List.range (vN v)).map fun k => (vq v k, vE v k (σ.1 k) (σ.2 k))
theorem wd_at (v : Vw) (σ : St) {k : Nat} (hk : k < vN v) : (wd v σ)[k]? = some (vq v k, vE v k (σ.1 k) (σ.2 k)) := by
  simp [wd, hk]
theorem wd_ato {v : Vw} {σ : St} {k : Nat} {q : Nat × va_E} (h : (wd v σ)[k]? = some q) : k < vN v ∧ q = (vq v k, vE v k (σ.1 k) (σ.2 k)) := by
  have hk : k < vN v := by
    rcases Nat.lt_or_ge k (vN v) with h1 | h1
    · exact h1
    · rw [List.getElem?_eq_none (by simp [wd]; exact h1)] at h; cases h
  rw [wd_at v σ hk] at h
  exact ⟨hk, (Option.some.inj h).symm⟩
theorem wd_len (v : Vw) (σ : St) : (wd v σ).length = vN v := by simp [wd]
theorem wd_set {v : Vw} {σ σ' : St} {k : Nat} (hk : k < vN v) {en : va_E} (he : en = vE v k (σ'.1 k) (σ'.2 k)) (h : ∀ j, j ≠ k → σ'.1 j = σ.1 j ∧ σ'.2 j = σ.2 j) : (wd v σ).set k (vq v k, en) = wd v σ' := by
  apply List.ext_getElem?
  intro i
  rcases Nat.lt_or_ge i (vN v) with hi | hi
  · by_cases e : i = k
    · subst e
      rw [wd_at v σ' hi, List.getElem?_set_self (by rw [wd_len]; exact hi), he]
    · rw [List.getElem?_set_ne (fun h => e h.symm), wd_at v σ hi, wd_at v σ' hi, (h i e).1, (h i e).2]
  · rw [List.getElem?_eq_none (by rw [List.length_set, wd_len]; exact hi), List.getElem?_eq_none (by rw [wd_len]; exact hi)]
def Aq (v : Vw) (sz : Nat) : Nat → Prop := fun a => (∃ k, k < vN v ∧ a = vq v k) ∨ sz ≤ a
def Dq (v : Vw) : Prop := ∀ i j, i < vN v → j < vN v → vq v i = vq v j → i = j
theorem wd_D {v : Vw} (h : Dq v) {A : Nat → Prop} (hA : ∀ k, k < vN v → A (vq v k)) (σ : St) : va_D A (wd v σ) := by
  refine ⟨fun i j p q hi hj e => ?_, fun k q hk => ?_⟩
  · obtain ⟨h1, rfl⟩ := wd_ato hi
    obtain ⟨h2, rfl⟩ := wd_ato hj
    exact h i j h1 h2 e
  · obtain ⟨h1, rfl⟩ := wd_ato hk
    exact hA k h1
theorem wd_Dq {v : Vw} (h : Dq v) (sz : Nat) (σ : St) : va_D (Aq v sz) (wd v σ) := wd_D h (fun k hk => Or.inl ⟨k, hk, rfl⟩) σ
/-- the five words of nest mates -/
def Nst (U : State) : Prop := va_Nw (.methodLinkNest RX1 18 yX8_valueOf RX8) U ∧ va_Nw (.methodLinkNest RX4 63 yX8_valueOf RX8) U ∧ va_Nw (.methodLinkNest RX4 67 yX8_withValue RX8) U ∧ va_Nw (.methodLinkNest RX5 56 yX8_valueOf RX8) U ∧ va_Nw (.methodLinkNest RX2 33 yX4_stateAt RX8) U
def Kx (v : Vw) (U : State) : Prop := va_K v.1 vwCl v.2.1 U ∧ Nst U
theorem Kx.warm {v : Vw} {s U : State} (hW : s.WarmedH U.vm) (h : Kx v s) : Kx v U := ⟨va_K.moved hW.alike h.1, va_Nw.warmM hW h.2.1, va_Nw.warmM hW h.2.2.1, va_Nw.warmM hW h.2.2.2.1, va_Nw.warmM hW h.2.2.2.2.1, va_Nw.warmM hW h.2.2.2.2.2⟩
theorem Kx.same {v : Vw} {u U : State} (e : u.vm = U.vm) (h : Kx v u) : Kx v U := ⟨va_K.moved (by rw [e]; exact Vm.Alike.refl U.vm) h.1, va_Nw.same rfl e h.2.1, va_Nw.same rfl e h.2.2.1, va_Nw.same rfl e h.2.2.2.1, va_Nw.same rfl e h.2.2.2.2.1, va_Nw.same rfl e h.2.2.2.2.2⟩
/-- the good words of the tables -/
def WSl : List Cond := lw_tbl.filter goodWord
theorem WSl_good : GoodIn WSl WSl := fun _ h => ⟨h, good_of_word (List.mem_filter.mp h).2⟩
theorem WSl_cons {w : Cond} (h : w ∈ WSl) : GoodIn WSl (w :: WSl) := fun _ h1 => (List.mem_cons.mp h1).elim (fun e => e ▸ WSl_good _ h) (WSl_good _)
theorem inG {w : Cond} (h : w ∈ lw_tbl) (g : goodWord w = true) : w ∈ WSl := List.mem_filter.mpr ⟨h, g⟩
theorem in_t1 {w : Cond} (h : w ∈ tables_1_1) : w ∈ lw_tbl := List.mem_append_right _ (List.mem_append_left _ h)
theorem in_t2 {w : Cond} (h : w ∈ tables_1_2) : w ∈ lw_tbl := List.mem_append_right _ (List.mem_append_right _ (List.mem_append_left _ h))
theorem in_t3 {w : Cond} (h : w ∈ tables_1_3) : w ∈ lw_tbl := List.mem_append_right _ (List.mem_append_right _ (List.mem_append_right _ (List.mem_append_left _ h)))
theorem in_t4 {w : Cond} (h : w ∈ tables_1_4) : w ∈ lw_tbl := List.mem_append_right _ (List.mem_append_right _ (List.mem_append_right _ (List.mem_append_right _ (List.mem_append_left _ h))))
theorem in_t5 {w : Cond} (h : w ∈ tables_1_5) : w ∈ lw_tbl := List.mem_append_right _ (List.mem_append_right _ (List.mem_append_right _ (List.mem_append_right _ (List.mem_append_right _ h))))
theorem in_s1 {y : MethodName} {n : Nat} (h : (y, n) ∈ lw_privs_1) : Cond.selects y.cls y y ∈ lw_tbl := List.mem_append_left _ (List.mem_map.mpr ⟨(y, n), List.mem_append_left _ h, rfl⟩)
theorem in_s2 {y : MethodName} {n : Nat} (h : (y, n) ∈ lw_privs_2) : Cond.selects y.cls y y ∈ lw_tbl := List.mem_append_left _ (List.mem_map.mpr ⟨(y, n), List.mem_append_right _ (List.mem_append_left _ h), rfl⟩)
theorem in_s3 {y : MethodName} {n : Nat} (h : (y, n) ∈ lw_privs_3) : Cond.selects y.cls y y ∈ lw_tbl := List.mem_append_left _ (List.mem_map.mpr ⟨(y, n), List.mem_append_right _ (List.mem_append_right _ h), rfl⟩)
end
section
/-! ===== the judgement, and a row an instruction ===== -/
def chk {X : Type} (b : Bool) (o : Option X) : Option X := match b with
  | true => o
  | false => none
def inb (i : Int32) (n : Nat) : Bool := decide (¬ (i < 0 ∨ n ≤ i.toNatClampNeg))
def isb (x : Int32) : Bool := decide (x = 0 ∨ x = 1)
def nz (x : Int32) : Bool := decide (¬ x = 0)
def nm {A X : Type} (a : A) (k : A → Option X) : Option X := k a
def un {A B X : Type} (g : A → B → Option X) (p : A × B) : Option X := g p.1 p.2
/-- a loop: inl goes on, inr leaves -/
def wh {S R : Type} : Nat → (S → Option (S ⊕ R)) → S → Option R
  | 0, _, _ => none
  | n + 1, b, s => (b s).bind (fun x => match x with
    | .inl s' => wh n b s'
    | .inr r => some r)
theorem inb_of {i : Int32} {n : Nat} (h : inb i n = true) : vp_in i n := of_decide_eq_true (p := ¬ (i < 0 ∨ n ≤ i.toNatClampNeg)) h
theorem nz_of {x : Int32} (h : nz x = true) : ¬ x = 0 := of_decide_eq_true h
def Cx (v : Vw) (cc : ByteArray) (nL : Nat) (own : String) (rt : Option FieldType) (p : Program) (s : State) (m : MethodId) (args : Array Value) (meth : Method) (c : Code) : Prop :=
  p.tables.exec = Jvm.exec ∧ c.code = cc ∧ c.maxLocals = nL ∧ s.vm.findClass own = some m.cls ∧ (∀ w ∈ WSl, w.before args s = true) ∧ Kx v s ∧ meth.locks = false ∧ meth.sig.returnType = rt ∧ Dq v
/-- the end of a method: its answer, its world, nothing else changed -/
def Qx (v : Vw) (sz : Nat) (z : Option Value × St) : Array Value → State → Outcome → State → Prop := fun _ st oc t => oc = .returned z.1 ∧ va_P v.1 vwCl (wd v z.2) t.heap ∧ va_F (Aq v sz) st t
/-- from the frame at pc, with the world of σ, the machine comes to the end that the port's answer names, if it has one -/
def GK {X Res : Type} (v : Vw) (cc : ByteArray) (nL : Nat) (own : String) (rt : Option FieldType) (l : Launch) (R : Room) (fin : Res → Option Value × St) (o : Option X) (K : X → Option Res) (σ : St) (pc : Nat) (lv : List (Nat × Value)) (st : List Value) : Prop :=
  ∀ res : Res, o.bind K = some res → ∀ (p : Program) (e : Env) (s : State) (m : MethodId) (args : Array Value) (below : List Frame) (meth : Method) (c : Code) (H : Heap) (locs : List Loc) (ls : Array Slot),
    Cx v cc nL own rt p s m args meth c → va_P v.1 vwCl (wd v σ) H → va_S (Aq v s.heap.size) s.heap H locs → lv_has ls nL lv →
    W p l e R s m args below meth c H locs 0 0 (MQ below (Qx v s.heap.size (fin res)) args s 0 0 (Aq v s.heap.size)) (F0 m pc ls st)
section RW
variable {X Res : Type} {v : Vw} {cc : ByteArray} {nL : Nat} {own : String} {rt : Option FieldType} {l : Launch} {R : Room} {fin : Res → Option Value × St} {o : Option X} {K : X → Option Res} {σ : St} {pc : Nat} {lv lv' : List (Nat × Value)} {st : List Value} {A B : Option X}
-- what a port does without an instruction
theorem g_nm {T : Type} {a : T} {k : T → Option X} (h : GK v cc nL own rt l R fin (k a) K σ pc lv st) : GK v cc nL own rt l R fin (nm a k) K σ pc lv st := h
theorem g_nmi {a : Int32} {k : Int32 → Option X} (h : ∀ x : Int32, GK v cc nL own rt l R fin (k x) K σ pc lv (.int x :: st)) : GK v cc nL own rt l R fin (nm a k) K σ pc lv (.int a :: st) := h a
theorem g_nml {a : Int64} {k : Int64 → Option X} (h : ∀ x : Int64, GK v cc nL own rt l R fin (k x) K σ pc lv (.long x :: st)) : GK v cc nL own rt l R fin (nm a k) K σ pc lv (.long a :: st) := h a
theorem g_if {c : Prop} [Decidable c] (h1 : c → GK v cc nL own rt l R fin A K σ pc lv st) (h2 : ¬ c → GK v cc nL own rt l R fin B K σ pc lv st) : GK v cc nL own rt l R fin (if c then A else B) K σ pc lv st := by
  by_cases h : c
  · rw [if_pos h]; exact h1 h
  · rw [if_neg h]; exact h2 h
theorem g_chk {b : Bool} (h : b = true → GK v cc nL own rt l R fin o K σ pc lv st) : GK v cc nL own rt l R fin (chk b o) K σ pc lv st := by
  cases b
  · intro res hr; cases hr
  · exact h rfl
theorem g_bind {Y : Type} {o1 : Option Y} {k : Y → Option X} (h : GK v cc nL own rt l R fin o1 (fun y => (k y).bind K) σ pc lv st) : GK v cc nL own rt l R fin (o1.bind k) K σ pc lv st := by
  intro res hr
  exact h res (by rw [Option.bind_assoc] at hr; exact hr)
/-- fewer locals -/
theorem g_sub (ks : List Nat) (hl : lv_pick lv ks = lv') (h : GK v cc nL own rt l R fin o K σ pc lv' st) : GK v cc nL own rt l R fin o K σ pc lv st :=
  fun res hr p e s m args below meth c H locs ls C hP hS hv => h res hr p e s m args below meth c H locs ls C hP hS (lv_sub hv ks hl)
/-- a loop by its port -/
theorem g_wh {S Y : Type} {b : S → Option (S ⊕ Y)} {k : Y → Option X} (sg : S → St) (lf : S → List (Nat × Value)) {pc : Nat} {n : Nat} {s0 : S}
    (hb : ∀ (K2 : S ⊕ Y → Option Res), (∀ r, K2 (.inr r) = (k r).bind K) → (∀ s, GK v cc nL own rt l R fin (some (.inl s)) K2 (sg s) pc (lf s) []) → ∀ s, GK v cc nL own rt l R fin (b s) K2 (sg s) pc (lf s) []) : GK v cc nL own rt l R fin ((wh n b s0).bind k) K (sg s0) pc (lf s0) [] := by
  induction n generalizing s0 with
  | zero => intro res hr; cases hr
  | succ n ih =>
    have h2 : ((wh (n + 1) b s0).bind k).bind K = (b s0).bind (fun x => match x with
      | .inl s' => ((wh n b s').bind k).bind K
      | .inr r => (k r).bind K) := by
      show (((b s0).bind _).bind k).bind K = _
      rw [Option.bind_assoc, Option.bind_assoc]
      congr 1
      funext x
      cases x with
      | inl s' => exact (Option.bind_assoc _ _ _).symm
      | inr r => rfl
    intro res hr
    rw [h2] at hr
    exact hb _ (fun r => rfl) (fun s => by intro res2 hr2; exact ih res2 hr2) s0 res hr
-- constants
theorem g_iconst {n : Int} (w : Int32) (d : decode cc pc = .ok (.iconst n, 1)) (hw : Int32.ofInt n = w) (h : GK v cc nL own rt l R fin o K σ (pc + 1) lv (.int w :: st)) : GK v cc nL own rt l R fin o K σ pc lv st :=
  fun res hr p e s m args below meth c H locs ls C hP hS hv => lv_iconst C.1 C.2.1 d hw (h res hr p e s m args below meth c H locs ls C hP hS hv)
theorem g_bipush {n : Int} (w : Int32) (d : decode cc pc = .ok (.bipush n, 2)) (hw : (Int8.ofInt n).toInt32 = w) (h : GK v cc nL own rt l R fin o K σ (pc + 2) lv (.int w :: st)) : GK v cc nL own rt l R fin o K σ pc lv st :=
  fun res hr p e s m args below meth c H locs ls C hP hS hv => lv_bipush C.1 C.2.1 d hw (h res hr p e s m args below meth c H locs ls C hP hS hv)
theorem g_sipush {n : Int} (w : Int32) (d : decode cc pc = .ok (.sipush n, 3)) (hw : (Int16.ofInt n).toInt32 = w) (h : GK v cc nL own rt l R fin o K σ (pc + 3) lv (.int w :: st)) : GK v cc nL own rt l R fin o K σ pc lv st :=
  fun res hr p e s m args below meth c H locs ls C hP hS hv => lv_sipush C.1 C.2.1 d hw (h res hr p e s m args below meth c H locs ls C hP hS hv)
theorem g_lconst {n : Fin 2} (w : Int64) (d : decode cc pc = .ok (.lconst n, 1)) (hw : Int64.ofNat (n : Nat) = w) (h : GK v cc nL own rt l R fin o K σ (pc + 1) lv (.long w :: st)) : GK v cc nL own rt l R fin o K σ pc lv st :=
  fun res hr p e s m args below meth c H locs ls C hP hS hv => lv_lconst C.1 C.2.1 d hw (h res hr p e s m args below meth c H locs ls C hP hS hv)
theorem g_ldc {i : Nat} {w : Int32} (d : decode cc pc = .ok (.ldc i, 2)) (hw : Cond.constant own i w ∈ WSl) (h : GK v cc nL own rt l R fin o K σ (pc + 2) lv (.int w :: st)) : GK v cc nL own rt l R fin o K σ pc lv st :=
  fun res hr p e s m args below meth c H locs ls C hP hS hv => lv_ldc C.1 C.2.1 C.2.2.2.1 (C.2.2.2.2.1 _ hw) d (h res hr p e s m args below meth c H locs ls C hP hS hv)
theorem g_ldcw {i : Nat} {w : Int32} (d : decode cc pc = .ok (.ldc_w i, 3)) (hw : Cond.constant own i w ∈ WSl) (h : GK v cc nL own rt l R fin o K σ (pc + 3) lv (.int w :: st)) : GK v cc nL own rt l R fin o K σ pc lv st :=
  fun res hr p e s m args below meth c H locs ls C hP hS hv => lv_ldcw C.1 C.2.1 C.2.2.2.1 (C.2.2.2.2.1 _ hw) d (h res hr p e s m args below meth c H locs ls C hP hS hv)
theorem g_ldc2 {i : Nat} {w : Int64} (d : decode cc pc = .ok (.ldc2_w i, 3)) (hw : Cond.constantLong own i w ∈ WSl) (h : GK v cc nL own rt l R fin o K σ (pc + 3) lv (.long w :: st)) : GK v cc nL own rt l R fin o K σ pc lv st :=
  fun res hr p e s m args below meth c H locs ls C hP hS hv => lv_ldc2 C.1 C.2.1 C.2.2.2.1 (C.2.2.2.2.1 _ hw) d (h res hr p e s m args below meth c H locs ls C hP hS hv)
-- locals
theorem g_iload_n {k : Fin 4} (j : Nat) {i : Nat} {x : Int32} (d : decode cc pc = .ok (.iload_n k, 1)) (hi : (k : Nat) = i) (hj : lv[j]? = some (i, .int x)) (h : GK v cc nL own rt l R fin o K σ (pc + 1) lv (.int x :: st)) : GK v cc nL own rt l R fin o K σ pc lv st :=
  fun res hr p e s m args below meth c H locs ls C hP hS hv => lv_iload_n C.1 C.2.1 d hi (lv_at hv j hj) (h res hr p e s m args below meth c H locs ls C hP hS hv)
theorem g_iload (j : Nat) {i : Nat} {x : Int32} (d : decode cc pc = .ok (.iload i, 2)) (hj : lv[j]? = some (i, .int x)) (h : GK v cc nL own rt l R fin o K σ (pc + 2) lv (.int x :: st)) : GK v cc nL own rt l R fin o K σ pc lv st :=
  fun res hr p e s m args below meth c H locs ls C hP hS hv => lv_iload C.1 C.2.1 d (lv_at hv j hj) (h res hr p e s m args below meth c H locs ls C hP hS hv)
theorem g_lload_n {k : Fin 4} (j : Nat) {i : Nat} {x : Int64} (d : decode cc pc = .ok (.lload_n k, 1)) (hi : (k : Nat) = i) (hj : lv[j]? = some (i, .long x)) (h : GK v cc nL own rt l R fin o K σ (pc + 1) lv (.long x :: st)) : GK v cc nL own rt l R fin o K σ pc lv st :=
  fun res hr p e s m args below meth c H locs ls C hP hS hv => lv_lload_n C.1 C.2.1 d hi (lv_at hv j hj) (h res hr p e s m args below meth c H locs ls C hP hS hv)
theorem g_lload (j : Nat) {i : Nat} {x : Int64} (d : decode cc pc = .ok (.lload i, 2)) (hj : lv[j]? = some (i, .long x)) (h : GK v cc nL own rt l R fin o K σ (pc + 2) lv (.long x :: st)) : GK v cc nL own rt l R fin o K σ pc lv st :=
  fun res hr p e s m args below meth c H locs ls C hP hS hv => lv_lload C.1 C.2.1 d (lv_at hv j hj) (h res hr p e s m args below meth c H locs ls C hP hS hv)
theorem g_aload_n {k : Fin 4} (j : Nat) {i : Nat} {x : Nat} (d : decode cc pc = .ok (.aload_n k, 1)) (hi : (k : Nat) = i) (hj : lv[j]? = some (i, .ref x)) (h : GK v cc nL own rt l R fin o K σ (pc + 1) lv (.ref x :: st)) : GK v cc nL own rt l R fin o K σ pc lv st :=
  fun res hr p e s m args below meth c H locs ls C hP hS hv => lv_aload_n C.1 C.2.1 d hi (lv_at hv j hj) (h res hr p e s m args below meth c H locs ls C hP hS hv)
theorem g_aload (j : Nat) {i : Nat} {x : Nat} (d : decode cc pc = .ok (.aload i, 2)) (hj : lv[j]? = some (i, .ref x)) (h : GK v cc nL own rt l R fin o K σ (pc + 2) lv (.ref x :: st)) : GK v cc nL own rt l R fin o K σ pc lv st :=
  fun res hr p e s m args below meth c H locs ls C hP hS hv => lv_aload C.1 C.2.1 d (lv_at hv j hj) (h res hr p e s m args below meth c H locs ls C hP hS hv)
theorem g_istore_n {k : Fin 4} {i : Nat} {x : Int32} (d : decode cc pc = .ok (.istore_n k, 1)) (hi : (k : Nat) = i) (hn : i < nL) (hl : (i, Value.int x) :: lv.filter (fun q => !(q.1 == i) && !(q.1 + 1 == i && q.2.category == 2)) = lv') (h : GK v cc nL own rt l R fin o K σ (pc + 1) lv' st) : GK v cc nL own rt l R fin o K σ pc lv (.int x :: st) :=
  fun res hr p e s m args below meth c H locs ls C hP hS hv => lv_istore_n C.1 C.2.1 d hi hv hn hl (fun ls' hv' => h res hr p e s m args below meth c H locs ls' C hP hS hv')
theorem g_istore {i : Nat} {x : Int32} (d : decode cc pc = .ok (.istore i, 2)) (hn : i < nL) (hl : (i, Value.int x) :: lv.filter (fun q => !(q.1 == i) && !(q.1 + 1 == i && q.2.category == 2)) = lv') (h : GK v cc nL own rt l R fin o K σ (pc + 2) lv' st) : GK v cc nL own rt l R fin o K σ pc lv (.int x :: st) :=
  fun res hr p e s m args below meth c H locs ls C hP hS hv => lv_istore C.1 C.2.1 d hv hn hl (fun ls' hv' => h res hr p e s m args below meth c H locs ls' C hP hS hv')
theorem g_astore_n {k : Fin 4} {i : Nat} {x : Nat} (d : decode cc pc = .ok (.astore_n k, 1)) (hi : (k : Nat) = i) (hn : i < nL) (hl : (i, Value.ref x) :: lv.filter (fun q => !(q.1 == i) && !(q.1 + 1 == i && q.2.category == 2)) = lv') (h : GK v cc nL own rt l R fin o K σ (pc + 1) lv' st) : GK v cc nL own rt l R fin o K σ pc lv (.ref x :: st) :=
  fun res hr p e s m args below meth c H locs ls C hP hS hv => lv_astore_n C.1 C.2.1 d hi hv hn hl (fun ls' hv' => h res hr p e s m args below meth c H locs ls' C hP hS hv')
theorem g_astore {i : Nat} {x : Nat} (d : decode cc pc = .ok (.astore i, 2)) (hn : i < nL) (hl : (i, Value.ref x) :: lv.filter (fun q => !(q.1 == i) && !(q.1 + 1 == i && q.2.category == 2)) = lv') (h : GK v cc nL own rt l R fin o K σ (pc + 2) lv' st) : GK v cc nL own rt l R fin o K σ pc lv (.ref x :: st) :=
  fun res hr p e s m args below meth c H locs ls C hP hS hv => lv_astore C.1 C.2.1 d hv hn hl (fun ls' hv' => h res hr p e s m args below meth c H locs ls' C hP hS hv')
theorem g_lstore_n {k : Fin 4} {i : Nat} {x : Int64} (d : decode cc pc = .ok (.lstore_n k, 1)) (hi : (k : Nat) = i) (hn : i + 1 < nL) (hl : (i, Value.long x) :: lv.filter (fun q => !(q.1 == i) && (!(q.1 == i + 1) && !(q.1 + 1 == i && q.2.category == 2))) = lv') (h : GK v cc nL own rt l R fin o K σ (pc + 1) lv' st) : GK v cc nL own rt l R fin o K σ pc lv (.long x :: st) :=
  fun res hr p e s m args below meth c H locs ls C hP hS hv => lv_lstore_n C.1 C.2.1 d hi hv hn hl (fun ls' hv' => h res hr p e s m args below meth c H locs ls' C hP hS hv')
theorem g_lstore {i : Nat} {x : Int64} (d : decode cc pc = .ok (.lstore i, 2)) (hn : i + 1 < nL) (hl : (i, Value.long x) :: lv.filter (fun q => !(q.1 == i) && (!(q.1 == i + 1) && !(q.1 + 1 == i && q.2.category == 2))) = lv') (h : GK v cc nL own rt l R fin o K σ (pc + 2) lv' st) : GK v cc nL own rt l R fin o K σ pc lv (.long x :: st) :=
  fun res hr p e s m args below meth c H locs ls C hP hS hv => lv_lstore C.1 C.2.1 d hv hn hl (fun ls' hv' => h res hr p e s m args below meth c H locs ls' C hP hS hv')
theorem g_iinc {i j : Nat} {n : Int} {x : Int32} (w : Int32) (d : decode cc pc = .ok (.iinc i n, 3)) (hj : lv[j]? = some (i, .int x)) (hw : Int32.ofInt n = w) (hn : i < nL) {k : Int32 → Option X} {lf : Int32 → List (Nat × Value)} (hl : ∀ y, (i, Value.int y) :: lv.filter (fun q => !(q.1 == i) && !(q.1 + 1 == i && q.2.category == 2)) = lf y) (h : ∀ y : Int32, GK v cc nL own rt l R fin (k y) K σ (pc + 3) (lf y) st) : GK v cc nL own rt l R fin (nm (x + w) k) K σ pc lv st :=
  fun res hr p e s m args below meth c H locs ls C hP hS hv => lv_iinc C.1 C.2.1 d hv hj (by rw [hw]) hn (hl (x + w)) (fun ls' hv' => h (x + w) res hr p e s m args below meth c H locs ls' C hP hS hv')
-- arithmetic
theorem g_iadd {x y : Int32} (d : decode cc pc = .ok (.iadd, 1)) (h : GK v cc nL own rt l R fin o K σ (pc + 1) lv (.int (x + y) :: st)) : GK v cc nL own rt l R fin o K σ pc lv (.int y :: .int x :: st) :=
  fun res hr p e s m args below meth c H locs ls C hP hS hv => lv_iadd C.1 C.2.1 d (h res hr p e s m args below meth c H locs ls C hP hS hv)
theorem g_isub {x y : Int32} (d : decode cc pc = .ok (.isub, 1)) (h : GK v cc nL own rt l R fin o K σ (pc + 1) lv (.int (x - y) :: st)) : GK v cc nL own rt l R fin o K σ pc lv (.int y :: .int x :: st) :=
  fun res hr p e s m args below meth c H locs ls C hP hS hv => lv_isub C.1 C.2.1 d (h res hr p e s m args below meth c H locs ls C hP hS hv)
theorem g_imul {x y : Int32} (d : decode cc pc = .ok (.imul, 1)) (h : GK v cc nL own rt l R fin o K σ (pc + 1) lv (.int (x * y) :: st)) : GK v cc nL own rt l R fin o K σ pc lv (.int y :: .int x :: st) :=
  fun res hr p e s m args below meth c H locs ls C hP hS hv => lv_imul C.1 C.2.1 d (h res hr p e s m args below meth c H locs ls C hP hS hv)
theorem g_iand {x y : Int32} (d : decode cc pc = .ok (.iand, 1)) (h : GK v cc nL own rt l R fin o K σ (pc + 1) lv (.int (x &&& y) :: st)) : GK v cc nL own rt l R fin o K σ pc lv (.int y :: .int x :: st) :=
  fun res hr p e s m args below meth c H locs ls C hP hS hv => lv_iand C.1 C.2.1 d (h res hr p e s m args below meth c H locs ls C hP hS hv)
theorem g_ior {x y : Int32} (d : decode cc pc = .ok (.ior, 1)) (h : GK v cc nL own rt l R fin o K σ (pc + 1) lv (.int (x ||| y) :: st)) : GK v cc nL own rt l R fin o K σ pc lv (.int y :: .int x :: st) :=
  fun res hr p e s m args below meth c H locs ls C hP hS hv => lv_ior C.1 C.2.1 d (h res hr p e s m args below meth c H locs ls C hP hS hv)
theorem g_ixor {x y : Int32} (d : decode cc pc = .ok (.ixor, 1)) (h : GK v cc nL own rt l R fin o K σ (pc + 1) lv (.int (x ^^^ y) :: st)) : GK v cc nL own rt l R fin o K σ pc lv (.int y :: .int x :: st) :=
  fun res hr p e s m args below meth c H locs ls C hP hS hv => lv_ixor C.1 C.2.1 d (h res hr p e s m args below meth c H locs ls C hP hS hv)
theorem g_ishl {x y : Int32} (d : decode cc pc = .ok (.ishl, 1)) (h : GK v cc nL own rt l R fin o K σ (pc + 1) lv (.int (x <<< (y &&& 31)) :: st)) : GK v cc nL own rt l R fin o K σ pc lv (.int y :: .int x :: st) :=
  fun res hr p e s m args below meth c H locs ls C hP hS hv => lv_ishl C.1 C.2.1 d (h res hr p e s m args below meth c H locs ls C hP hS hv)
theorem g_ishr {x y : Int32} (d : decode cc pc = .ok (.ishr, 1)) (h : GK v cc nL own rt l R fin o K σ (pc + 1) lv (.int (x >>> (y &&& 31)) :: st)) : GK v cc nL own rt l R fin o K σ pc lv (.int y :: .int x :: st) :=
  fun res hr p e s m args below meth c H locs ls C hP hS hv => lv_ishr C.1 C.2.1 d (h res hr p e s m args below meth c H locs ls C hP hS hv)
theorem g_iushr {x y : Int32} (d : decode cc pc = .ok (.iushr, 1)) (h : GK v cc nL own rt l R fin o K σ (pc + 1) lv (.int ((x.toUInt32 >>> (y.toUInt32 &&& Int32.toUInt32 31)).toInt32) :: st)) : GK v cc nL own rt l R fin o K σ pc lv (.int y :: .int x :: st) :=
  fun res hr p e s m args below meth c H locs ls C hP hS hv => lv_iushr C.1 C.2.1 d rfl (h res hr p e s m args below meth c H locs ls C hP hS hv)
theorem g_ineg {x : Int32} (d : decode cc pc = .ok (.ineg, 1)) (h : GK v cc nL own rt l R fin o K σ (pc + 1) lv (.int (-x) :: st)) : GK v cc nL own rt l R fin o K σ pc lv (.int x :: st) :=
  fun res hr p e s m args below meth c H locs ls C hP hS hv => lv_ineg C.1 C.2.1 d (h res hr p e s m args below meth c H locs ls C hP hS hv)
theorem g_i2l {x : Int32} (d : decode cc pc = .ok (.i2l, 1)) (h : GK v cc nL own rt l R fin o K σ (pc + 1) lv (.long x.toInt64 :: st)) : GK v cc nL own rt l R fin o K σ pc lv (.int x :: st) :=
  fun res hr p e s m args below meth c H locs ls C hP hS hv => lv_i2l C.1 C.2.1 d rfl (h res hr p e s m args below meth c H locs ls C hP hS hv)
theorem g_l2i {x : Int64} (d : decode cc pc = .ok (.l2i, 1)) (h : GK v cc nL own rt l R fin o K σ (pc + 1) lv (.int x.toInt32 :: st)) : GK v cc nL own rt l R fin o K σ pc lv (.long x :: st) :=
  fun res hr p e s m args below meth c H locs ls C hP hS hv => lv_l2i C.1 C.2.1 d rfl (h res hr p e s m args below meth c H locs ls C hP hS hv)
theorem g_land {x y : Int64} (d : decode cc pc = .ok (.land, 1)) (h : GK v cc nL own rt l R fin o K σ (pc + 1) lv (.long (x &&& y) :: st)) : GK v cc nL own rt l R fin o K σ pc lv (.long y :: .long x :: st) :=
  fun res hr p e s m args below meth c H locs ls C hP hS hv => lv_land C.1 C.2.1 d (h res hr p e s m args below meth c H locs ls C hP hS hv)
theorem g_lor {x y : Int64} (d : decode cc pc = .ok (.lor, 1)) (h : GK v cc nL own rt l R fin o K σ (pc + 1) lv (.long (x ||| y) :: st)) : GK v cc nL own rt l R fin o K σ pc lv (.long y :: .long x :: st) :=
  fun res hr p e s m args below meth c H locs ls C hP hS hv => lv_lor C.1 C.2.1 d (h res hr p e s m args below meth c H locs ls C hP hS hv)
theorem g_lxor {x y : Int64} (d : decode cc pc = .ok (.lxor, 1)) (h : GK v cc nL own rt l R fin o K σ (pc + 1) lv (.long (x ^^^ y) :: st)) : GK v cc nL own rt l R fin o K σ pc lv (.long y :: .long x :: st) :=
  fun res hr p e s m args below meth c H locs ls C hP hS hv => lv_lxor C.1 C.2.1 d (h res hr p e s m args below meth c H locs ls C hP hS hv)
theorem g_lshl {x : Int64} {y : Int32} (d : decode cc pc = .ok (.lshl, 1)) (h : GK v cc nL own rt l R fin o K σ (pc + 1) lv (.long (x <<< (y.toInt64 &&& 63)) :: st)) : GK v cc nL own rt l R fin o K σ pc lv (.int y :: .long x :: st) :=
  fun res hr p e s m args below meth c H locs ls C hP hS hv => lv_lshl C.1 C.2.1 d rfl (h res hr p e s m args below meth c H locs ls C hP hS hv)
theorem g_lshr {x : Int64} {y : Int32} (d : decode cc pc = .ok (.lshr, 1)) (h : GK v cc nL own rt l R fin o K σ (pc + 1) lv (.long (x >>> (y.toInt64 &&& 63)) :: st)) : GK v cc nL own rt l R fin o K σ pc lv (.int y :: .long x :: st) :=
  fun res hr p e s m args below meth c H locs ls C hP hS hv => lv_lshr C.1 C.2.1 d rfl (h res hr p e s m args below meth c H locs ls C hP hS hv)
theorem g_lcmp {x y : Int64} (d : decode cc pc = .ok (.lcmp, 1)) (h : GK v cc nL own rt l R fin o K σ (pc + 1) lv (.int (lg_cmp x y) :: st)) : GK v cc nL own rt l R fin o K σ pc lv (.long y :: .long x :: st) :=
  fun res hr p e s m args below meth c H locs ls C hP hS hv => W.lcmp C.1 C.2.1 d (h res hr p e s m args below meth c H locs ls C hP hS hv)
theorem g_idiv {x y : Int32} (d : decode cc pc = .ok (.idiv, 1)) (h : GK v cc nL own rt l R fin o K σ (pc + 1) lv (.int (x / y) :: st)) : GK v cc nL own rt l R fin (chk (nz y) o) K σ pc lv (.int y :: .int x :: st) :=
  g_chk fun hz res hr p e s m args below meth c H locs ls C hP hS hv => lv_idiv C.1 C.2.1 d (nz_of hz) (h res hr p e s m args below meth c H locs ls C hP hS hv)
theorem g_irem {x y : Int32} (d : decode cc pc = .ok (.irem, 1)) (h : GK v cc nL own rt l R fin o K σ (pc + 1) lv (.int (x - x / y * y) :: st)) : GK v cc nL own rt l R fin (chk (nz y) o) K σ pc lv (.int y :: .int x :: st) :=
  g_chk fun hz res hr p e s m args below meth c H locs ls C hP hS hv => lv_irem C.1 C.2.1 d (nz_of hz) (h res hr p e s m args below meth c H locs ls C hP hS hv)
theorem g_dup {a : Value} (d : decode cc pc = .ok (.dup, 1)) (ha : a.category = 1) (h : GK v cc nL own rt l R fin o K σ (pc + 1) lv (a :: a :: st)) : GK v cc nL own rt l R fin o K σ pc lv (a :: st) :=
  fun res hr p e s m args below meth c H locs ls C hP hS hv => lv_dup C.1 C.2.1 d ha (h res hr p e s m args below meth c H locs ls C hP hS hv)
theorem g_dup_x1 {a b : Value} (d : decode cc pc = .ok (.dup_x1, 1)) (ha : a.category = 1) (hb : b.category = 1) (h : GK v cc nL own rt l R fin o K σ (pc + 1) lv (a :: b :: a :: st)) : GK v cc nL own rt l R fin o K σ pc lv (a :: b :: st) :=
  fun res hr p e s m args below meth c H locs ls C hP hS hv => lv_dup_x1 C.1 C.2.1 d ha hb (h res hr p e s m args below meth c H locs ls C hP hS hv)
theorem g_dup2 {a b : Value} (d : decode cc pc = .ok (.dup2, 1)) (ha : a.category = 1) (hb : b.category = 1) (h : GK v cc nL own rt l R fin o K σ (pc + 1) lv (a :: b :: a :: b :: st)) : GK v cc nL own rt l R fin o K σ pc lv (a :: b :: st) :=
  fun res hr p e s m args below meth c H locs ls C hP hS hv => lv_dup2_11 C.1 C.2.1 d ha hb (h res hr p e s m args below meth c H locs ls C hP hS hv)
-- branches
theorem g_goto {off : Int} (tgt : Nat) (d : decode cc pc = .ok (.goto off, 3)) (ht : (pc : Int) + off = (tgt : Int)) (h : GK v cc nL own rt l R fin o K σ tgt lv st) : GK v cc nL own rt l R fin o K σ pc lv st :=
  fun res hr p e s m args below meth c H locs ls C hP hS hv => lv_goto C.1 C.2.1 d ht (h res hr p e s m args below meth c H locs ls C hP hS hv)
theorem g_icmp_eq {x y : Int32} {off : Int} (tgt : Nat) (d : decode cc pc = .ok (.if_icmp .eq off, 3)) (ht : (pc : Int) + off = (tgt : Int)) (h1 : GK v cc nL own rt l R fin A K σ tgt lv st) (h2 : GK v cc nL own rt l R fin B K σ (pc + 3) lv st) : GK v cc nL own rt l R fin (if x = y then A else B) K σ pc lv (.int y :: .int x :: st) :=
  fun res hr p e s m args below meth c H locs ls C hP hS hv => lv_icmp_eq C.1 C.2.1 d ht (fun c1 => h1 res (by rw [if_pos c1] at hr; exact hr) p e s m args below meth c H locs ls C hP hS hv) (fun c1 => h2 res (by rw [if_neg c1] at hr; exact hr) p e s m args below meth c H locs ls C hP hS hv)
theorem g_icmp_ne {x y : Int32} {off : Int} (tgt : Nat) (d : decode cc pc = .ok (.if_icmp .ne off, 3)) (ht : (pc : Int) + off = (tgt : Int)) (h1 : GK v cc nL own rt l R fin A K σ tgt lv st) (h2 : GK v cc nL own rt l R fin B K σ (pc + 3) lv st) : GK v cc nL own rt l R fin (if x = y then B else A) K σ pc lv (.int y :: .int x :: st) :=
  fun res hr p e s m args below meth c H locs ls C hP hS hv => lv_icmp_ne C.1 C.2.1 d ht (fun c1 => h1 res (by rw [if_neg c1] at hr; exact hr) p e s m args below meth c H locs ls C hP hS hv) (fun c1 => h2 res (by rw [if_pos c1] at hr; exact hr) p e s m args below meth c H locs ls C hP hS hv)
theorem g_icmp_lt {x y : Int32} {off : Int} (tgt : Nat) (d : decode cc pc = .ok (.if_icmp .lt off, 3)) (ht : (pc : Int) + off = (tgt : Int)) (h1 : GK v cc nL own rt l R fin A K σ tgt lv st) (h2 : GK v cc nL own rt l R fin B K σ (pc + 3) lv st) : GK v cc nL own rt l R fin (if x < y then A else B) K σ pc lv (.int y :: .int x :: st) :=
  fun res hr p e s m args below meth c H locs ls C hP hS hv => lv_icmp_lt C.1 C.2.1 d ht (fun c1 => h1 res (by rw [if_pos c1] at hr; exact hr) p e s m args below meth c H locs ls C hP hS hv) (fun c1 => h2 res (by rw [if_neg c1] at hr; exact hr) p e s m args below meth c H locs ls C hP hS hv)
theorem g_icmp_ge {x y : Int32} {off : Int} (tgt : Nat) (d : decode cc pc = .ok (.if_icmp .ge off, 3)) (ht : (pc : Int) + off = (tgt : Int)) (h1 : GK v cc nL own rt l R fin A K σ tgt lv st) (h2 : GK v cc nL own rt l R fin B K σ (pc + 3) lv st) : GK v cc nL own rt l R fin (if y ≤ x then A else B) K σ pc lv (.int y :: .int x :: st) :=
  fun res hr p e s m args below meth c H locs ls C hP hS hv => lv_icmp_ge C.1 C.2.1 d ht (fun c1 => h1 res (by rw [if_pos c1] at hr; exact hr) p e s m args below meth c H locs ls C hP hS hv) (fun c1 => h2 res (by rw [if_neg c1] at hr; exact hr) p e s m args below meth c H locs ls C hP hS hv)
theorem g_icmp_gt {x y : Int32} {off : Int} (tgt : Nat) (d : decode cc pc = .ok (.if_icmp .gt off, 3)) (ht : (pc : Int) + off = (tgt : Int)) (h1 : GK v cc nL own rt l R fin A K σ tgt lv st) (h2 : GK v cc nL own rt l R fin B K σ (pc + 3) lv st) : GK v cc nL own rt l R fin (if y < x then A else B) K σ pc lv (.int y :: .int x :: st) :=
  fun res hr p e s m args below meth c H locs ls C hP hS hv => lv_icmp_gt C.1 C.2.1 d ht (fun c1 => h1 res (by rw [if_pos c1] at hr; exact hr) p e s m args below meth c H locs ls C hP hS hv) (fun c1 => h2 res (by rw [if_neg c1] at hr; exact hr) p e s m args below meth c H locs ls C hP hS hv)
theorem g_icmp_le {x y : Int32} {off : Int} (tgt : Nat) (d : decode cc pc = .ok (.if_icmp .le off, 3)) (ht : (pc : Int) + off = (tgt : Int)) (h1 : GK v cc nL own rt l R fin A K σ tgt lv st) (h2 : GK v cc nL own rt l R fin B K σ (pc + 3) lv st) : GK v cc nL own rt l R fin (if x ≤ y then A else B) K σ pc lv (.int y :: .int x :: st) :=
  fun res hr p e s m args below meth c H locs ls C hP hS hv => lv_icmp_le C.1 C.2.1 d ht (fun c1 => h1 res (by rw [if_pos c1] at hr; exact hr) p e s m args below meth c H locs ls C hP hS hv) (fun c1 => h2 res (by rw [if_neg c1] at hr; exact hr) p e s m args below meth c H locs ls C hP hS hv)
theorem g_if_eq {x : Int32} {off : Int} (tgt : Nat) (d : decode cc pc = .ok (.ifCond .eq off, 3)) (ht : (pc : Int) + off = (tgt : Int)) (h1 : GK v cc nL own rt l R fin A K σ tgt lv st) (h2 : GK v cc nL own rt l R fin B K σ (pc + 3) lv st) : GK v cc nL own rt l R fin (if x = 0 then A else B) K σ pc lv (.int x :: st) :=
  fun res hr p e s m args below meth c H locs ls C hP hS hv => lv_if_eq C.1 C.2.1 d ht (fun c1 => h1 res (by rw [if_pos c1] at hr; exact hr) p e s m args below meth c H locs ls C hP hS hv) (fun c1 => h2 res (by rw [if_neg c1] at hr; exact hr) p e s m args below meth c H locs ls C hP hS hv)
theorem g_if_ne {x : Int32} {off : Int} (tgt : Nat) (d : decode cc pc = .ok (.ifCond .ne off, 3)) (ht : (pc : Int) + off = (tgt : Int)) (h1 : GK v cc nL own rt l R fin A K σ tgt lv st) (h2 : GK v cc nL own rt l R fin B K σ (pc + 3) lv st) : GK v cc nL own rt l R fin (if x = 0 then B else A) K σ pc lv (.int x :: st) :=
  fun res hr p e s m args below meth c H locs ls C hP hS hv => lv_if_ne C.1 C.2.1 d ht (fun c1 => h1 res (by rw [if_neg c1] at hr; exact hr) p e s m args below meth c H locs ls C hP hS hv) (fun c1 => h2 res (by rw [if_pos c1] at hr; exact hr) p e s m args below meth c H locs ls C hP hS hv)
theorem g_if_lt {x : Int32} {off : Int} (tgt : Nat) (d : decode cc pc = .ok (.ifCond .lt off, 3)) (ht : (pc : Int) + off = (tgt : Int)) (h1 : GK v cc nL own rt l R fin A K σ tgt lv st) (h2 : GK v cc nL own rt l R fin B K σ (pc + 3) lv st) : GK v cc nL own rt l R fin (if x < 0 then A else B) K σ pc lv (.int x :: st) :=
  fun res hr p e s m args below meth c H locs ls C hP hS hv => lv_if_lt C.1 C.2.1 d ht (fun c1 => h1 res (by rw [if_pos c1] at hr; exact hr) p e s m args below meth c H locs ls C hP hS hv) (fun c1 => h2 res (by rw [if_neg c1] at hr; exact hr) p e s m args below meth c H locs ls C hP hS hv)
theorem g_if_ge {x : Int32} {off : Int} (tgt : Nat) (d : decode cc pc = .ok (.ifCond .ge off, 3)) (ht : (pc : Int) + off = (tgt : Int)) (h1 : GK v cc nL own rt l R fin A K σ tgt lv st) (h2 : GK v cc nL own rt l R fin B K σ (pc + 3) lv st) : GK v cc nL own rt l R fin (if 0 ≤ x then A else B) K σ pc lv (.int x :: st) :=
  fun res hr p e s m args below meth c H locs ls C hP hS hv => lv_if_ge C.1 C.2.1 d ht (fun c1 => h1 res (by rw [if_pos c1] at hr; exact hr) p e s m args below meth c H locs ls C hP hS hv) (fun c1 => h2 res (by rw [if_neg c1] at hr; exact hr) p e s m args below meth c H locs ls C hP hS hv)
theorem g_if_gt {x : Int32} {off : Int} (tgt : Nat) (d : decode cc pc = .ok (.ifCond .gt off, 3)) (ht : (pc : Int) + off = (tgt : Int)) (h1 : GK v cc nL own rt l R fin A K σ tgt lv st) (h2 : GK v cc nL own rt l R fin B K σ (pc + 3) lv st) : GK v cc nL own rt l R fin (if 0 < x then A else B) K σ pc lv (.int x :: st) :=
  fun res hr p e s m args below meth c H locs ls C hP hS hv => lv_if_gt C.1 C.2.1 d ht (fun c1 => h1 res (by rw [if_pos c1] at hr; exact hr) p e s m args below meth c H locs ls C hP hS hv) (fun c1 => h2 res (by rw [if_neg c1] at hr; exact hr) p e s m args below meth c H locs ls C hP hS hv)
theorem g_if_le {x : Int32} {off : Int} (tgt : Nat) (d : decode cc pc = .ok (.ifCond .le off, 3)) (ht : (pc : Int) + off = (tgt : Int)) (h1 : GK v cc nL own rt l R fin A K σ tgt lv st) (h2 : GK v cc nL own rt l R fin B K σ (pc + 3) lv st) : GK v cc nL own rt l R fin (if x ≤ 0 then A else B) K σ pc lv (.int x :: st) :=
  fun res hr p e s m args below meth c H locs ls C hP hS hv => lv_if_le C.1 C.2.1 d ht (fun c1 => h1 res (by rw [if_pos c1] at hr; exact hr) p e s m args below meth c H locs ls C hP hS hv) (fun c1 => h2 res (by rw [if_neg c1] at hr; exact hr) p e s m args below meth c H locs ls C hP hS hv)
theorem i32_ne (z : Int) {x c : Int32} (hz : c.toInt = z) (h : ¬ x = c) : ¬ x.toInt = z := fun e => h (Int32.toInt_inj.mp (e.trans hz.symm))
theorem i32_eq (z : Int) {x c : Int32} (hz : c.toInt = z) (h : x = c) : x.toInt = z := by rw [h]; exact hz
theorem g_tbl {dflt lo hi : Int} {offs : Array Int} {len : Nat} {x : Int32} {off : Int} (z : Int) (tgt : Nat) (d : decode cc pc = .ok (.tableswitch dflt lo hi offs, len)) (hz : x.toInt = z) (h1 : ¬ z < lo) (h2 : ¬ hi < z) (ho : offs[(z - lo).toNat]? = some off) (ht : (pc : Int) + off = (tgt : Int)) (h : GK v cc nL own rt l R fin o K σ tgt lv st) : GK v cc nL own rt l R fin o K σ pc lv (.int x :: st) :=
  fun res hr p e s m args below meth c H locs ls C hP hS hv => lv_tableIn C.1 C.2.1 d (by rw [hz]; exact h1) (by rw [hz]; exact h2) (by rw [hz]; exact ho) ht (h res hr p e s m args below meth c H locs ls C hP hS hv)
theorem g_tblOut {dflt lo hi : Int} {offs : Array Int} {len : Nat} {x : Int32} (tgt : Nat) (d : decode cc pc = .ok (.tableswitch dflt lo hi offs, len)) (hz : x.toInt < lo ∨ hi < x.toInt) (ht : (pc : Int) + dflt = (tgt : Int)) (h : GK v cc nL own rt l R fin o K σ tgt lv st) : GK v cc nL own rt l R fin o K σ pc lv (.int x :: st) :=
  fun res hr p e s m args below meth c H locs ls C hP hS hv => lv_tableOut C.1 C.2.1 d hz ht (h res hr p e s m args below meth c H locs ls C hP hS hv)
theorem g_lku {dflt : Int} {ps : Array (Int × Int)} {len : Nat} {x : Int32} {off : Int} (tgt : Nat) (d : decode cc pc = .ok (.lookupswitch dflt ps, len)) (hp : (ps.toList.zip (ps.toList.drop 1)).all (fun (a, next) => a.1 < next.1) = true) (ho : Op.lookupswitch.offset ps.toList dflt x.toInt = off) (ht : (pc : Int) + off = (tgt : Int)) (h : GK v cc nL own rt l R fin o K σ tgt lv st) : GK v cc nL own rt l R fin o K σ pc lv (.int x :: st) :=
  fun res hr p e s m args below meth c H locs ls C hP hS hv => lv_lookup C.1 C.2.1 d hp ho ht (h res hr p e s m args below meth c H locs ls C hP hS hv)
-- ends
theorem g_end {z : X} {H : Heap} {res : Res} {p : Program} {s : State} {m : MethodId} {args : Array Value} {meth : Method} {c : Code} {locs : List Loc} {w : Option Value} (hk : ∀ res, K z = some res → fin res = (w, σ)) (hr : (some z).bind K = some res) (_ : Cx v cc nL own rt p s m args meth c) (hP : va_P v.1 vwCl (wd v σ) H) (hS : va_S (Aq v s.heap.size) s.heap H locs) : ∀ t : State, t.heap = H → s.WarmedH t.vm → Qx v s.heap.size (fin res) args s (.returned w) t := by
  intro t ht _
  rw [hk res hr]
  exact ⟨rfl, by rw [ht]; exact hP, hS.F ht⟩
theorem g_iret {x : Int32} {z : X} (hk : ∀ res, K z = some res → fin res = (some (.int x), σ)) (hrt : rt = some .int) (d : decode cc pc = .ok (.ireturn, 1)) : GK v cc nL own rt l R fin (some z) K σ pc lv [.int x] :=
  fun res hr p e s m args below meth c H locs ls C hP hS hv => W.iret C.1 C.2.1 (C.2.2.2.2.2.2.2.1.trans hrt) (g_end hk hr C hP hS) hS.2.2 d C.2.2.2.2.2.2.1
theorem isb_nar {x : Int32} (h : isb x = true) : narrow .boolean (.int x) = .int x := by
  rcases of_decide_eq_true h with rfl | rfl <;> rfl
theorem g_zret {x : Int32} {z : X} (hx : isb x = true) (hk : ∀ res, K z = some res → fin res = (some (.int x), σ)) (hrt : rt = some .boolean) (d : decode cc pc = .ok (.ireturn, 1)) : GK v cc nL own rt l R fin (some z) K σ pc lv [.int x] :=
  fun res hr p e s m args below meth c H locs ls C hP hS hv => W.zret C.1 C.2.1 (C.2.2.2.2.2.2.2.1.trans hrt) (isb_nar hx) (g_end hk hr C hP hS) hS.2.2 d C.2.2.2.2.2.2.1
theorem g_lret {x : Int64} {z : X} (hk : ∀ res, K z = some res → fin res = (some (.long x), σ)) (hrt : rt = some .long) (d : decode cc pc = .ok (.lreturn, 1)) : GK v cc nL own rt l R fin (some z) K σ pc lv [.long x] :=
  fun res hr p e s m args below meth c H locs ls C hP hS hv => W.lret C.1 C.2.1 (C.2.2.2.2.2.2.2.1.trans hrt) (g_end hk hr C hP hS) hS.2.2 d C.2.2.2.2.2.2.1
theorem g_vret {z : X} (hk : ∀ res, K z = some res → fin res = (none, σ)) (hrt : rt = none) (d : decode cc pc = .ok (.return_, 1)) : GK v cc nL own rt l R fin (some z) K σ pc lv [] :=
  fun res hr p e s m args below meth c H locs ls C hP hS hv => W.vret C.1 C.2.1 (C.2.2.2.2.2.2.2.1.trans hrt) (g_end hk hr C hP hS) hS.2.2 d C.2.2.2.2.2.2.1
/-- out of a loop -/
theorem g_exit {S Y : Type} {K2 : S ⊕ Y → Option Res} {k : Y → Option X} {r : Y} (hK : ∀ r, K2 (.inr r) = (k r).bind K) (h : GK v cc nL own rt l R fin (k r) K σ pc lv st) : GK v cc nL own rt l R fin (some (.inr r : S ⊕ Y)) K2 σ pc lv st :=
  fun res hr => h res (by rw [← hK]; exact hr)
-- fields
theorem g_get {C0 : String} {T : u_T} {n ci idx k : Nat} (j : Nat) {fs : List Value} {a : Value} (hk : k < vN v) (hE : vE v k (σ.1 k) (σ.2 k) = .inr (ci, fs)) (hc : vwCl[ci]? = some (C0, T, n)) (hin : ∀ w ∈ u_ws C0 T n, w ∈ WSl) (hj : j < n) (hlink : Cond.fieldLink own idx (T j).1 (T j).2.1 (T j).2.2.1 ∈ WSl) (ha : fs[j]? = some a) (d : decode cc pc = .ok (.getfield idx, 3)) (h : GK v cc nL own rt l R fin o K σ (pc + 3) lv (a :: st)) : GK v cc nL own rt l R fin o K σ pc lv (.ref (vq v k) :: st) :=
  fun res hr p e s m args below meth c H locs ls C hP hS hv => va_get C.1 C.2.1 C.2.2.2.2.1 hin C.2.2.2.1 C.2.2.2.2.2.1.1 hP k (by rw [wd_at v σ hk, hE]) hc j hj (C.2.2.2.2.1 _ hlink) (fun _ h9 => h9) ha d (h res hr p e s m args below meth c H locs ls C hP hS hv)
theorem g_puti {C0 : String} {T : u_T} {n ci idx k : Nat} (j : Nat) {fs : List Value} {x : Int32} {kk : St → Option X} (hk : k < vN v) (hE : vE v k (σ.1 k) (σ.2 k) = .inr (ci, fs)) (hE' : vE v k (upd (σ.1 k) j x) (σ.2 k) = .inr (ci, fs.set j (.int x))) (hc : vwCl[ci]? = some (C0, T, n)) (hin : ∀ w ∈ u_ws C0 T n, w ∈ WSl) (ty0 : Nat → FieldType) (hty : ∀ k, k < n → parseFieldDescriptor (T k).2.2.1 = some (ty0 k)) (hnm : ∀ a, a < n → ∀ b, b < n → a ≠ b → (T a).2.1 ≠ (T b).2.1) (hj : j < n) (hlink : Cond.fieldLink own idx (T j).1 (T j).2.1 (T j).2.2.1 ∈ WSl) (hfin : (T j).2.2.2 = false) (hd : parseFieldDescriptor (T j).2.2.1 = some .int) (hl : j < fs.length) (d : decode cc pc = .ok (.putfield idx, 3)) (h : ∀ σ1, GK v cc nL own rt l R fin (kk σ1) K σ1 (pc + 3) lv st) : GK v cc nL own rt l R fin (nm (stI σ k j x) kk) K σ pc lv (.int x :: .ref (vq v k) :: st) :=
  fun res hr p e s m args below meth c H locs ls C hP hS hv => va_put C.1 C.2.1 C.2.2.2.2.1 hin ty0 hty hnm C.2.2.2.1 C.2.2.2.2.2.1.1 hP (wd_Dq C.2.2.2.2.2.2.2.2 _ σ) hS k (by rw [wd_at v σ hk, hE]) hc j hj (C.2.2.2.2.1 _ hlink) (fun _ h9 => h9) hfin hd rfl rfl hl d (fun H1 locs1 hP1 _ hS1 => h (stI σ k j x) res hr p e s m args below meth c H1 locs1 ls C (by rw [wd_set (σ' := stI σ k j x) hk (by rw [← hE']; simp [stI, va_up]) (fun i hi => by simp [stI, va_up, hi])] at hP1; exact hP1) hS1 hv)
theorem g_putl {C0 : String} {T : u_T} {n ci idx k : Nat} (j : Nat) {fs : List Value} {x : Int64} {kk : St → Option X} (hk : k < vN v) (hE : vE v k (σ.1 k) (σ.2 k) = .inr (ci, fs)) (hE' : vE v k (σ.1 k) (vp_updL (σ.2 k) j x) = .inr (ci, fs.set j (.long x))) (hc : vwCl[ci]? = some (C0, T, n)) (hin : ∀ w ∈ u_ws C0 T n, w ∈ WSl) (ty0 : Nat → FieldType) (hty : ∀ k, k < n → parseFieldDescriptor (T k).2.2.1 = some (ty0 k)) (hnm : ∀ a, a < n → ∀ b, b < n → a ≠ b → (T a).2.1 ≠ (T b).2.1) (hj : j < n) (hlink : Cond.fieldLink own idx (T j).1 (T j).2.1 (T j).2.2.1 ∈ WSl) (hfin : (T j).2.2.2 = false) (hd : parseFieldDescriptor (T j).2.2.1 = some .long) (hl : j < fs.length) (d : decode cc pc = .ok (.putfield idx, 3)) (h : ∀ σ1, GK v cc nL own rt l R fin (kk σ1) K σ1 (pc + 3) lv st) : GK v cc nL own rt l R fin (nm (stL σ k j x) kk) K σ pc lv (.long x :: .ref (vq v k) :: st) :=
  fun res hr p e s m args below meth c H locs ls C hP hS hv => va_put C.1 C.2.1 C.2.2.2.2.1 hin ty0 hty hnm C.2.2.2.1 C.2.2.2.2.2.1.1 hP (wd_Dq C.2.2.2.2.2.2.2.2 _ σ) hS k (by rw [wd_at v σ hk, hE]) hc j hj (C.2.2.2.2.1 _ hlink) (fun _ h9 => h9) hfin hd rfl rfl hl d (fun H1 locs1 hP1 _ hS1 => h (stL σ k j x) res hr p e s m args below meth c H1 locs1 ls C (by rw [wd_set (σ' := stL σ k j x) hk (by rw [← hE']; simp [stL, va_up]) (fun i hi => by simp [stL, va_up, hi])] at hP1; exact hP1) hS1 hv)
-- arrays
theorem g_iald {k t0 n : Nat} {cA : ClassId} {i : Int32} (hk : k < vN v) (hE : vE v k (σ.1 k) (σ.2 k) = .inl (cA, n, .inl (σ.1 k))) (ht : v.2.1[t0]? = some (cA, .int)) (d : decode cc pc = .ok (.iaload, 1)) (h : GK v cc nL own rt l R fin o K σ (pc + 1) lv (.int (σ.1 k i.toNatClampNeg) :: st)) : GK v cc nL own rt l R fin (chk (inb i n) o) K σ pc lv (.int i :: .ref (vq v k) :: st) :=
  g_chk fun hb res hr p e s m args below meth c H locs ls C hP hS hv => va_iald C.1 C.2.1 C.2.2.2.2.2.1.1 hP k t0 (by rw [wd_at v σ hk, hE]) ht (inb_of hb) d (h res hr p e s m args below meth c H locs ls C hP hS hv)
theorem g_zald {k t0 n : Nat} {cA : ClassId} {i : Int32} (hk : k < vN v) (hE : vE v k (σ.1 k) (σ.2 k) = .inl (cA, n, .inl (σ.1 k))) (ht : v.2.1[t0]? = some (cA, .boolean)) (d : decode cc pc = .ok (.baload, 1)) (h : GK v cc nL own rt l R fin o K σ (pc + 1) lv (.int (σ.1 k i.toNatClampNeg) :: st)) : GK v cc nL own rt l R fin (chk (inb i n) o) K σ pc lv (.int i :: .ref (vq v k) :: st) :=
  g_chk fun hb res hr p e s m args below meth c H locs ls C hP hS hv => va_zald C.1 C.2.1 C.2.2.2.2.2.1.1 hP k t0 (by rw [wd_at v σ hk, hE]) ht (inb_of hb) d (h res hr p e s m args below meth c H locs ls C hP hS hv)
theorem g_lald {k t0 n : Nat} {cA : ClassId} {i : Int32} (hk : k < vN v) (hE : vE v k (σ.1 k) (σ.2 k) = .inl (cA, n, .inr (.inl (σ.2 k)))) (ht : v.2.1[t0]? = some (cA, .long)) (d : decode cc pc = .ok (.laload, 1)) (h : GK v cc nL own rt l R fin o K σ (pc + 1) lv (.long (σ.2 k i.toNatClampNeg) :: st)) : GK v cc nL own rt l R fin (chk (inb i n) o) K σ pc lv (.int i :: .ref (vq v k) :: st) :=
  g_chk fun hb res hr p e s m args below meth c H locs ls C hP hS hv => va_lald C.1 C.2.1 C.2.2.2.2.2.1.1 hP k t0 (by rw [wd_at v σ hk, hE]) ht (inb_of hb) d (h res hr p e s m args below meth c H locs ls C hP hS hv)
theorem g_aald {k t0 n : Nat} {cA : ClassId} {C0 : String} {f : Nat → Option Nat} {i : Int32} {kk : Nat → Option X} (g : Nat → Nat) (hk : k < vN v) (hE : vE v k (σ.1 k) (σ.2 k) = .inl (cA, n, .inr (.inr (.inr (.inr f))))) (hf : ∀ j, f j = some (vq v (g j))) (ht : v.2.1[t0]? = some (cA, .object C0)) (d : decode cc pc = .ok (.aaload, 1)) (h : ∀ pa, (∃ j, j < n ∧ pa = g j) → GK v cc nL own rt l R fin (kk pa) K σ (pc + 1) lv (.ref (vq v pa) :: st)) : GK v cc nL own rt l R fin (chk (inb i n) (nm (g i.toNatClampNeg) kk)) K σ pc lv (.int i :: .ref (vq v k) :: st) :=
  g_chk fun hb res hr p e s m args below meth c H locs ls C hP hS hv => va_aldq C.1 C.2.1 C.2.2.2.2.2.1.1 hP k t0 (by rw [wd_at v σ hk, hE]) ht (inb_of hb) d (by rw [hf]; exact h (g i.toNatClampNeg) ⟨i.toNatClampNeg, Nat.not_le.mp fun q => inb_of hb (Or.inr q), rfl⟩ res hr p e s m args below meth c H locs ls C hP hS hv)
theorem g_alen {k t0 : Nat} {cA : ClassId} {x : vp_A} {ty : FieldType} {w : Int32} (hk : k < vN v) (hE : vE v k (σ.1 k) (σ.2 k) = .inl (cA, x)) (ht : v.2.1[t0]? = some (cA, ty)) (hw : Int32.ofNat x.1 = w) (d : decode cc pc = .ok (.arraylength, 1)) (h : GK v cc nL own rt l R fin o K σ (pc + 1) lv (.int w :: st)) : GK v cc nL own rt l R fin o K σ pc lv (.ref (vq v k) :: st) :=
  fun res hr p e s m args below meth c H locs ls C hP hS hv => va_alen C.1 C.2.1 C.2.2.2.2.2.1.1 hP k t0 (by rw [wd_at v σ hk, hE]) ht hw d (h res hr p e s m args below meth c H locs ls C hP hS hv)
theorem g_iast {k t0 n : Nat} {cA : ClassId} {i x : Int32} {kk : St → Option X} (hk : k < vN v) (hE : ∀ a b, vE v k a b = .inl (cA, n, .inl a)) (ht : v.2.1[t0]? = some (cA, .int)) (d : decode cc pc = .ok (.iastore, 1)) (h : ∀ σ1, GK v cc nL own rt l R fin (kk σ1) K σ1 (pc + 1) lv st) : GK v cc nL own rt l R fin (chk (inb i n) (nm (stI σ k i.toNatClampNeg x) kk)) K σ pc lv (.int x :: .int i :: .ref (vq v k) :: st) :=
  g_chk fun hb res hr p e s m args below meth c H locs ls C hP hS hv => va_iast C.1 C.2.1 C.2.2.2.2.2.1.1 hP (wd_Dq C.2.2.2.2.2.2.2.2 _ σ) hS k t0 (by rw [wd_at v σ hk, hE]) ht (inb_of hb) d (fun H1 locs1 hP1 _ hS1 => h (stI σ k i.toNatClampNeg x) res hr p e s m args below meth c H1 locs1 ls C (by rw [wd_set (σ' := stI σ k i.toNatClampNeg x) hk (by rw [hE]; simp [stI, va_up]) (fun i hi => by simp [stI, va_up, hi])] at hP1; exact hP1) hS1 hv)
theorem g_zast {k t0 n : Nat} {cA : ClassId} {i x : Int32} {kk : St → Option X} (hx : vp_nar .boolean x = x) (hk : k < vN v) (hE : ∀ a b, vE v k a b = .inl (cA, n, .inl a)) (ht : v.2.1[t0]? = some (cA, .boolean)) (d : decode cc pc = .ok (.bastore, 1)) (h : ∀ σ1, GK v cc nL own rt l R fin (kk σ1) K σ1 (pc + 1) lv st) : GK v cc nL own rt l R fin (chk (inb i n) (nm (stI σ k i.toNatClampNeg x) kk)) K σ pc lv (.int x :: .int i :: .ref (vq v k) :: st) :=
  g_chk fun hb res hr p e s m args below meth c H locs ls C hP hS hv => va_zast C.1 C.2.1 C.2.2.2.2.2.1.1 hP (wd_Dq C.2.2.2.2.2.2.2.2 _ σ) hS k t0 (by rw [wd_at v σ hk, hE]) ht (inb_of hb) d (fun H1 locs1 hP1 _ hS1 => h (stI σ k i.toNatClampNeg x) res hr p e s m args below meth c H1 locs1 ls C (by rw [hx, wd_set (σ' := stI σ k i.toNatClampNeg x) hk (by rw [hE]; simp [stI, va_up]) (fun i hi => by simp [stI, va_up, hi])] at hP1; exact hP1) hS1 hv)
theorem g_last {k t0 n : Nat} {cA : ClassId} {i : Int32} {x : Int64} {kk : St → Option X} (hk : k < vN v) (hE : ∀ a b, vE v k a b = .inl (cA, n, .inr (.inl b))) (ht : v.2.1[t0]? = some (cA, .long)) (d : decode cc pc = .ok (.lastore, 1)) (h : ∀ σ1, GK v cc nL own rt l R fin (kk σ1) K σ1 (pc + 1) lv st) : GK v cc nL own rt l R fin (chk (inb i n) (nm (stL σ k i.toNatClampNeg x) kk)) K σ pc lv (.long x :: .int i :: .ref (vq v k) :: st) :=
  g_chk fun hb res hr p e s m args below meth c H locs ls C hP hS hv => va_last C.1 C.2.1 C.2.2.2.2.2.1.1 hP (wd_Dq C.2.2.2.2.2.2.2.2 _ σ) hS k t0 (by rw [wd_at v σ hk, hE]) ht (inb_of hb) d (fun H1 locs1 hP1 _ hS1 => h (stL σ k i.toNatClampNeg x) res hr p e s m args below meth c H1 locs1 ls C (by rw [wd_set (σ' := stL σ k i.toNatClampNeg x) hk (by rw [hE]; simp [stL, va_up]) (fun i hi => by simp [stL, va_up, hi])] at hP1; exact hP1) hS1 hv)
end RW
end
section
/-! ===== contracts of ports, and calls ===== -/
/-- the method answers z.1 and leaves the world of z.2 -/
def MetX (v : Vw) (l : Launch) (y : MethodName) (cc : ByteArray) (nL : Nat) (rt : Option FieldType) (rm : Room) (av : List Value) (σ : St) (z : Option Value × St) : Prop :=
  ∀ sz, Met l y (Cond.code y cc nL rt :: WSl) rm (va_Pc av (fun U => U.heap.size = sz ∧ va_P v.1 vwCl (wd v σ) U.heap ∧ Kx v U ∧ Dq v)) (Qx v sz z) 0 0 (Aq v sz)
theorem MetX.of {X Res : Type} {v : Vw} {cc : ByteArray} {nL : Nat} {rt : Option FieldType} {l : Launch} {rm : Room} {fin : Res → Option Value × St} {o : Option X} {K : X → Option Res} {σ : St} {lv : List (Nat × Value)} {y : MethodName} {av : List Value} (hy : plainName y.cls = true) (hn : (lg_sl av).length ≤ nL) (hlv : lv_args 0 av = lv) (G : GK v cc nL y.cls rt l rm fin o K σ 0 lv []) : ∀ res, o.bind K = some res → MetX v l y cc nL rt rm av σ (fin res) := by
  intro res hr sz
  refine Met.ofW (cc := cc) (maxL := nL) (ret := rt) hy rfl ?_
  intro p e s m args below meth c s₁ B hml hv
  obtain ⟨rfl, hsz, hP, hK, hD⟩ := hv
  subst hsz
  have hts := atoms_spec (ws := Cond.code y cc nL rt :: WSl) B.pre
  have hl := lv_entry av (n := nL) hn
  rw [hlv] at hl
  rw [lg_entry_eq]
  exact G res hr p e s m _ below meth c s.heap [] _ ⟨B.exec, B.bytes, hml, findClass_of_methodNamed B.named, fun w h => hts w (List.mem_cons_of_mem _ h), hK, B.notSynchronized, B.returns, hD⟩ hP va_S.rf hl
def CalV (y : MethodName) (C0 : String) (cc : ByteArray) (nL : Nat) (rt : Option FieldType) (n : Nat) : Prop := Cond.instanceMethod y ∈ WSl ∧ Cond.selects C0 y y ∈ WSl ∧ Cond.initialized C0 ∈ WSl ∧ Cond.code y cc nL rt ∈ WSl ∧ (y.cls = C0 ∧ y.cls ≠ "java/lang/invoke/MethodHandle" ∧ y.cls ≠ "java/lang/invoke/VarHandle" ∧ (parseMethodDescriptor y.desc).map (fun d => d.parameters.length) = some n)
def CalS (y : MethodName) (cc : ByteArray) (nL : Nat) (rt : Option FieldType) (n : Nat) : Prop := Cond.static y ∈ WSl ∧ Cond.initialized y.cls ∈ WSl ∧ Cond.code y cc nL rt ∈ WSl ∧ (y.cls ≠ "java/lang/invoke/MethodHandle" ∧ y.cls ≠ "java/lang/invoke/VarHandle" ∧ (parseMethodDescriptor y.desc).map (fun d => d.parameters.length) = some n)
def RmOk (R rm : Room) (nL : Nat) : Prop := rm.cells = 0 ∧ rm.slots = 0 ∧ rm.frames + 1 ≤ R.frames ∧ 8 + (nL + 11) + rm.locals ≤ R.locals
section CW
variable {X Res : Type} {v : Vw} {cc : ByteArray} {nL : Nat} {own : String} {rt : Option FieldType} {l : Launch} {R : Room} {fin : Res → Option Value × St} {K : X → Option Res} {σ : St} {pc : Nat} {lv : List (Nat × Value)} {rest st0 : List Value} {y : MethodName} {cc1 : ByteArray} {nL1 n idx : Nat} {rt1 : Option FieldType} {rm : Room} {As : List Value} {k ci N0 : Nat} {C0 : String} {T : u_T} {fs : List Value}
theorem Aq_mono {a b : Nat} (h : a ≤ b) {q : Nat} (hq : Aq v b q) : Aq v a q := hq.elim Or.inl (fun h1 => Or.inr (Nat.le_trans h h1))
theorem g_core {Y : Type} {f : Option Y} {kk : Y → Option X} (rv : Y → Option Value) (ns : Y → St)
    (hrun : ∀ r, f = some r → ∀ (p : Program) (e : Env) (s : State) (m : MethodId) (args : Array Value) (below : List Frame) (meth : Method) (c : Code) (H : Heap) (locs : List Loc) (ls : Array Slot), Cx v cc nL own rt p s m args meth c → va_P v.1 vwCl (wd v σ) H → lv_has ls nL lv → ∃ a, va_Run p l e R s m args below meth c H locs 0 0 0 0 (F0 m pc ls st0) rest (Qx v H.size (rv r, ns r) a) (Aq v H.size))
    (h : ∀ r, GK v cc nL own rt l R fin (kk r) K (ns r) (pc + 3) lv ((rv r).toList ++ rest)) : GK v cc nL own rt l R fin (f.bind kk) K σ pc lv st0 := by
  intro res hr p e s m args below meth c H locs ls C hP hS hv
  cases hf : f with
  | none => rw [hf] at hr; cases hr
  | some r =>
    rw [hf] at hr
    obtain ⟨a, hrn⟩ := hrun r hf p e s m args below meth c H locs ls C hP hv
    intro T hT X
    obtain ⟨w, st₀, t, T', L, h0, X', hL, e1, e2, ⟨hw, hP1, hz, hk⟩, stp⟩ := hrn T hT X
    have hw2 : w = rv r := by injection hw
    subst hw2
    rw [h0] at hz hk
    have hS1 : va_S (Aq v s.heap.size) s.heap T'.heap (locs ++ L) := ⟨Nat.le_trans hS.1 (by rw [e1]; exact hz), fun q h1 h2 => by rw [e1, hk q (Nat.lt_of_lt_of_le h1 hS.1) (fun z => h2 (Aq_mono hS.1 z))]; exact hS.2.1 q h1 h2, fun q hq => by
      rcases List.mem_append.mp hq with h3 | h3
      · exact hS.2.2 q h3
      · exact Aq_mono hS.1 (hL q h3)⟩
    obtain ⟨t2, a1, b1⟩ := h r res hr p e s m args below meth c T'.heap (locs ++ L) ls C (by rw [e1]; exact hP1) hS1 hv T' rfl X'
    exact ⟨t2, stp t2 a1, b1⟩
theorem g_blind {av : List Value} {sz : Nat} : FrameBlind (va_Pc av (fun U => U.heap.size = sz ∧ va_P v.1 vwCl (wd v σ) U.heap ∧ Kx v U ∧ Dq v)) := fun a U g mk q => by
  obtain ⟨q0, q1, qP, qK, qD⟩ := q
  exact ⟨q0, q1, qP, Kx.same (u := U) (U := U.calling g mk a) rfl qK, qD⟩
theorem g_runV {z : Option Value × St} (hM : MetX v l y cc1 nL1 rt1 rm (.ref (vq v k) :: As) σ z) (cw : CalV y C0 cc1 nL1 rt1 n) (hlk : Cond.methodLink own idx y ∈ WSl) (hR : RmOk R rm nL1) (hk : k < vN v) (hE : vE v k (σ.1 k) (σ.2 k) = .inr (ci, fs)) (hc : vwCl[ci]? = some (C0, T, N0)) (d : decode cc pc = .ok (.invokevirtual idx, 3)) (hn : As.length = n) (hst : st0 = As.reverse ++ .ref (vq v k) :: rest) (hr : (rest.map fun v => v.category).sum ≤ 8)
    {p : Program} {e : Env} {s : State} {m : MethodId} {args : Array Value} {below : List Frame} {meth : Method} {c : Code} {H : Heap} {locs : List Loc} {ls : Array Slot} (C : Cx v cc nL own rt p s m args meth c) (hP : va_P v.1 vwCl (wd v σ) H) (hv : lv_has ls nL lv) : ∃ a, va_Run p l e R s m args below meth c H locs 0 0 0 0 (F0 m pc ls st0) rest (Qx v H.size z a) (Aq v H.size) := by
  subst hst
  refine ⟨_, va_runV (As := As) (rest := rest) (n := n) ⟨C.1, C.2.1, C.2.2.1, C.2.2.2.1, C.2.2.2.2.1⟩ (hM H.size) (cwV n C.2.2.2.2.1 ?_ rfl hR.1 hR.2.1 cw.2.2.2.2 hR.2.2) ⟨g_blind, va_recv C.2.2.2.2.2.1.1 hP (q0 := k) hc (by rw [wd_at v σ hk, hE]), fun U hU hW => ⟨rfl, by rw [hU], by rw [hU]; exact hP, Kx.warm hW C.2.2.2.2.2.1, C.2.2.2.2.2.2.2.2⟩⟩ rfl hn hv.1 rfl (lv_room hr) d ⟨Nat.zero_le _, Nat.zero_le _⟩⟩
  intro w hw
  simp only [wsV, List.cons_append, List.nil_append, List.mem_cons] at hw
  rcases hw with rfl | rfl | rfl | rfl | rfl | hw
  · exact WSl_good _ hlk
  · exact WSl_good _ cw.1
  · exact WSl_good _ cw.2.1
  · exact WSl_good _ cw.2.2.1
  · exact WSl_good _ cw.2.2.2.1
  · exact WSl_good _ hw
theorem g_runS {z : Option Value × St} (hM : MetX v l y cc1 nL1 rt1 rm As σ z) (cw : CalS y cc1 nL1 rt1 n) (hlk : Cond.methodLink own idx y ∈ WSl) (hR : RmOk R rm nL1) (d : decode cc pc = .ok (.invokestatic idx, 3)) (hn : As.length = n) (hst : st0 = As.reverse ++ rest) (hr : (rest.map fun v => v.category).sum ≤ 8)
    {p : Program} {e : Env} {s : State} {m : MethodId} {args : Array Value} {below : List Frame} {meth : Method} {c : Code} {H : Heap} {locs : List Loc} {ls : Array Slot} (C : Cx v cc nL own rt p s m args meth c) (hP : va_P v.1 vwCl (wd v σ) H) (hv : lv_has ls nL lv) : ∃ a, va_Run p l e R s m args below meth c H locs 0 0 0 0 (F0 m pc ls st0) rest (Qx v H.size z a) (Aq v H.size) := by
  subst hst
  exact ⟨_, va_runS (As := As) (rest := rest) (n := n) ⟨C.1, C.2.1, C.2.2.1, C.2.2.2.1, C.2.2.2.2.1⟩ (hM H.size) ⟨callB_of n C.2.2.2.2.1 (WSl_cons cw.2.2.1) rfl hR.1 hR.2.1 (C.2.2.2.2.1 _ cw.2.1) (C.2.2.2.2.1 _ hlk) cw.2.2.2 hR.2.2, C.2.2.2.2.1 _ cw.1⟩ ⟨g_blind, fun U hU hW => ⟨rfl, by rw [hU], by rw [hU]; exact hP, Kx.warm hW C.2.2.2.2.2.1, C.2.2.2.2.2.2.2.2⟩⟩ rfl hn hv.1 rfl (lv_room hr) d ⟨Nat.zero_le _, Nat.zero_le _⟩⟩
theorem g_runSN {host : String} {z : Option Value × St} (hM : MetX v l y cc1 nL1 rt1 rm As σ z) (cw : CalS y cc1 nL1 rt1 n) (hlk : ∀ U, Nst U → va_Nw (.methodLinkNest own idx y host) U) (hR : RmOk R rm nL1) (d : decode cc pc = .ok (.invokestatic idx, 3)) (hn : As.length = n) (hst : st0 = As.reverse ++ rest) (hr : (rest.map fun v => v.category).sum ≤ 8)
    {p : Program} {e : Env} {s : State} {m : MethodId} {args : Array Value} {below : List Frame} {meth : Method} {c : Code} {H : Heap} {locs : List Loc} {ls : Array Slot} (C : Cx v cc nL own rt p s m args meth c) (hP : va_P v.1 vwCl (wd v σ) H) (hv : lv_has ls nL lv) : ∃ a, va_Run p l e R s m args below meth c H locs 0 0 0 0 (F0 m pc ls st0) rest (Qx v H.size z a) (Aq v H.size) := by
  subst hst
  exact ⟨_, va_runSN (As := As) (rest := rest) (n := n) (host := host) ⟨C.1, C.2.1, C.2.2.1, C.2.2.2.1, C.2.2.2.2.1⟩ (hM H.size) ⟨va_cnB n C.2.2.2.2.1 (WSl_cons cw.2.2.1) rfl hR.1 hR.2.1 (hlk s C.2.2.2.2.2.1.2) (C.2.2.2.2.1 _ cw.2.1) cw.2.2.2 hR.2.2, C.2.2.2.2.1 _ cw.1, trivial⟩ ⟨g_blind, fun U hU hW => ⟨rfl, by rw [hU], by rw [hU]; exact hP, Kx.warm hW C.2.2.2.2.2.1, C.2.2.2.2.2.2.2.2⟩⟩ rfl hn hv.1 rfl (lv_room hr) d ⟨Nat.zero_le _, Nat.zero_le _⟩⟩
theorem g_runVN {host : String} {z : Option Value × St} (hM : MetX v l y cc1 nL1 rt1 rm (.ref (vq v k) :: As) σ z) (cw : CalV y C0 cc1 nL1 rt1 n) (hlk : ∀ U, Nst U → va_Nw (.methodLinkNest own idx y host) U) (hR : RmOk R rm nL1) (hk : k < vN v) (hE : vE v k (σ.1 k) (σ.2 k) = .inr (ci, fs)) (hc : vwCl[ci]? = some (C0, T, N0)) (d : decode cc pc = .ok (.invokevirtual idx, 3)) (hn : As.length = n) (hst : st0 = As.reverse ++ .ref (vq v k) :: rest) (hr : (rest.map fun v => v.category).sum ≤ 8)
    {p : Program} {e : Env} {s : State} {m : MethodId} {args : Array Value} {below : List Frame} {meth : Method} {c : Code} {H : Heap} {locs : List Loc} {ls : Array Slot} (C : Cx v cc nL own rt p s m args meth c) (hP : va_P v.1 vwCl (wd v σ) H) (hv : lv_has ls nL lv) : ∃ a, va_Run p l e R s m args below meth c H locs 0 0 0 0 (F0 m pc ls st0) rest (Qx v H.size z a) (Aq v H.size) := by
  subst hst
  exact ⟨_, va_runVN (As := As) (rest := rest) (n := n) (host := host) (C := C0) ⟨C.1, C.2.1, C.2.2.1, C.2.2.2.1, C.2.2.2.2.1⟩ (hM H.size) ⟨va_cnB n C.2.2.2.2.1 (WSl_cons cw.2.2.2.1) rfl hR.1 hR.2.1 (hlk s C.2.2.2.2.2.1.2) (by rw [cw.2.2.2.2.1]; exact C.2.2.2.2.1 _ cw.2.2.1) cw.2.2.2.2.2 hR.2.2, C.2.2.2.2.1 _ cw.1, C.2.2.2.2.1 _ cw.2.1⟩ ⟨g_blind, va_recv C.2.2.2.2.2.1.1 hP (q0 := k) hc (by rw [wd_at v σ hk, hE]), fun U hU hW => ⟨rfl, by rw [hU], by rw [hU]; exact hP, Kx.warm hW C.2.2.2.2.2.1, C.2.2.2.2.2.2.2.2⟩⟩ rfl hn hv.1 rfl (lv_room hr) d ⟨Nat.zero_le _, Nat.zero_le _⟩⟩
theorem gV_i {f : Option Int32} {kk : Int32 → Option X} (As : List Value) (rest : List Value) (hM : ∀ r, f = some r → MetX v l y cc1 nL1 rt1 rm (.ref (vq v k) :: As) σ (some (.int r), σ)) (cw : CalV y C0 cc1 nL1 rt1 n) (hlk : Cond.methodLink own idx y ∈ WSl) (hR : RmOk R rm nL1) (hk : k < vN v) (hE : vE v k (σ.1 k) (σ.2 k) = .inr (ci, fs)) (hc : vwCl[ci]? = some (C0, T, N0)) (d : decode cc pc = .ok (.invokevirtual idx, 3)) (hn : As.length = n) (hst : st0 = As.reverse ++ .ref (vq v k) :: rest) (hr : (rest.map fun v => v.category).sum ≤ 8) (h : ∀ r, GK v cc nL own rt l R fin (kk r) K σ (pc + 3) lv (.int r :: rest)) : GK v cc nL own rt l R fin (f.bind kk) K σ pc lv st0 :=
  g_core (fun r => some (.int r)) (fun _ => σ) (fun r hf p e s m args below meth c H locs ls C hP hv => g_runV (hM r hf) cw hlk hR hk hE hc d hn hst hr C hP hv) (fun r => h r)
theorem gS_i {f : Option Int32} {kk : Int32 → Option X} (As : List Value) (rest : List Value) (hM : ∀ r, f = some r → MetX v l y cc1 nL1 rt1 rm As σ (some (.int r), σ)) (cw : CalS y cc1 nL1 rt1 n) (hlk : Cond.methodLink own idx y ∈ WSl) (hR : RmOk R rm nL1) (d : decode cc pc = .ok (.invokestatic idx, 3)) (hn : As.length = n) (hst : st0 = As.reverse ++ rest) (hr : (rest.map fun v => v.category).sum ≤ 8) (h : ∀ r, GK v cc nL own rt l R fin (kk r) K σ (pc + 3) lv (.int r :: rest)) : GK v cc nL own rt l R fin (f.bind kk) K σ pc lv st0 :=
  g_core (fun r => some (.int r)) (fun _ => σ) (fun r hf p e s m args below meth c H locs ls C hP hv => g_runS (hM r hf) cw hlk hR d hn hst hr C hP hv) (fun r => h r)
theorem gSN_i {host : String} {f : Option Int32} {kk : Int32 → Option X} (As : List Value) (rest : List Value) (hM : ∀ r, f = some r → MetX v l y cc1 nL1 rt1 rm As σ (some (.int r), σ)) (cw : CalS y cc1 nL1 rt1 n) (hlk : ∀ U, Nst U → va_Nw (.methodLinkNest own idx y host) U) (hR : RmOk R rm nL1) (d : decode cc pc = .ok (.invokestatic idx, 3)) (hn : As.length = n) (hst : st0 = As.reverse ++ rest) (hr : (rest.map fun v => v.category).sum ≤ 8) (h : ∀ r, GK v cc nL own rt l R fin (kk r) K σ (pc + 3) lv (.int r :: rest)) : GK v cc nL own rt l R fin (f.bind kk) K σ pc lv st0 :=
  g_core (fun r => some (.int r)) (fun _ => σ) (fun r hf p e s m args below meth c H locs ls C hP hv => g_runSN (hM r hf) cw hlk hR d hn hst hr C hP hv) (fun r => h r)
theorem gVN_i {host : String} {f : Option Int32} {kk : Int32 → Option X} (As : List Value) (rest : List Value) (hM : ∀ r, f = some r → MetX v l y cc1 nL1 rt1 rm (.ref (vq v k) :: As) σ (some (.int r), σ)) (cw : CalV y C0 cc1 nL1 rt1 n) (hlk : ∀ U, Nst U → va_Nw (.methodLinkNest own idx y host) U) (hR : RmOk R rm nL1) (hk : k < vN v) (hE : vE v k (σ.1 k) (σ.2 k) = .inr (ci, fs)) (hc : vwCl[ci]? = some (C0, T, N0)) (d : decode cc pc = .ok (.invokevirtual idx, 3)) (hn : As.length = n) (hst : st0 = As.reverse ++ .ref (vq v k) :: rest) (hr : (rest.map fun v => v.category).sum ≤ 8) (h : ∀ r, GK v cc nL own rt l R fin (kk r) K σ (pc + 3) lv (.int r :: rest)) : GK v cc nL own rt l R fin (f.bind kk) K σ pc lv st0 :=
  g_core (fun r => some (.int r)) (fun _ => σ) (fun r hf p e s m args below meth c H locs ls C hP hv => g_runVN (hM r hf) cw hlk hR hk hE hc d hn hst hr C hP hv) (fun r => h r)
theorem gV_l {f : Option Int64} {kk : Int64 → Option X} (As : List Value) (rest : List Value) (hM : ∀ r, f = some r → MetX v l y cc1 nL1 rt1 rm (.ref (vq v k) :: As) σ (some (.long r), σ)) (cw : CalV y C0 cc1 nL1 rt1 n) (hlk : Cond.methodLink own idx y ∈ WSl) (hR : RmOk R rm nL1) (hk : k < vN v) (hE : vE v k (σ.1 k) (σ.2 k) = .inr (ci, fs)) (hc : vwCl[ci]? = some (C0, T, N0)) (d : decode cc pc = .ok (.invokevirtual idx, 3)) (hn : As.length = n) (hst : st0 = As.reverse ++ .ref (vq v k) :: rest) (hr : (rest.map fun v => v.category).sum ≤ 8) (h : ∀ r, GK v cc nL own rt l R fin (kk r) K σ (pc + 3) lv (.long r :: rest)) : GK v cc nL own rt l R fin (f.bind kk) K σ pc lv st0 :=
  g_core (fun r => some (.long r)) (fun _ => σ) (fun r hf p e s m args below meth c H locs ls C hP hv => g_runV (hM r hf) cw hlk hR hk hE hc d hn hst hr C hP hv) (fun r => h r)
theorem gS_l {f : Option Int64} {kk : Int64 → Option X} (As : List Value) (rest : List Value) (hM : ∀ r, f = some r → MetX v l y cc1 nL1 rt1 rm As σ (some (.long r), σ)) (cw : CalS y cc1 nL1 rt1 n) (hlk : Cond.methodLink own idx y ∈ WSl) (hR : RmOk R rm nL1) (d : decode cc pc = .ok (.invokestatic idx, 3)) (hn : As.length = n) (hst : st0 = As.reverse ++ rest) (hr : (rest.map fun v => v.category).sum ≤ 8) (h : ∀ r, GK v cc nL own rt l R fin (kk r) K σ (pc + 3) lv (.long r :: rest)) : GK v cc nL own rt l R fin (f.bind kk) K σ pc lv st0 :=
  g_core (fun r => some (.long r)) (fun _ => σ) (fun r hf p e s m args below meth c H locs ls C hP hv => g_runS (hM r hf) cw hlk hR d hn hst hr C hP hv) (fun r => h r)
theorem gSN_l {host : String} {f : Option Int64} {kk : Int64 → Option X} (As : List Value) (rest : List Value) (hM : ∀ r, f = some r → MetX v l y cc1 nL1 rt1 rm As σ (some (.long r), σ)) (cw : CalS y cc1 nL1 rt1 n) (hlk : ∀ U, Nst U → va_Nw (.methodLinkNest own idx y host) U) (hR : RmOk R rm nL1) (d : decode cc pc = .ok (.invokestatic idx, 3)) (hn : As.length = n) (hst : st0 = As.reverse ++ rest) (hr : (rest.map fun v => v.category).sum ≤ 8) (h : ∀ r, GK v cc nL own rt l R fin (kk r) K σ (pc + 3) lv (.long r :: rest)) : GK v cc nL own rt l R fin (f.bind kk) K σ pc lv st0 :=
  g_core (fun r => some (.long r)) (fun _ => σ) (fun r hf p e s m args below meth c H locs ls C hP hv => g_runSN (hM r hf) cw hlk hR d hn hst hr C hP hv) (fun r => h r)
theorem gVN_l {host : String} {f : Option Int64} {kk : Int64 → Option X} (As : List Value) (rest : List Value) (hM : ∀ r, f = some r → MetX v l y cc1 nL1 rt1 rm (.ref (vq v k) :: As) σ (some (.long r), σ)) (cw : CalV y C0 cc1 nL1 rt1 n) (hlk : ∀ U, Nst U → va_Nw (.methodLinkNest own idx y host) U) (hR : RmOk R rm nL1) (hk : k < vN v) (hE : vE v k (σ.1 k) (σ.2 k) = .inr (ci, fs)) (hc : vwCl[ci]? = some (C0, T, N0)) (d : decode cc pc = .ok (.invokevirtual idx, 3)) (hn : As.length = n) (hst : st0 = As.reverse ++ .ref (vq v k) :: rest) (hr : (rest.map fun v => v.category).sum ≤ 8) (h : ∀ r, GK v cc nL own rt l R fin (kk r) K σ (pc + 3) lv (.long r :: rest)) : GK v cc nL own rt l R fin (f.bind kk) K σ pc lv st0 :=
  g_core (fun r => some (.long r)) (fun _ => σ) (fun r hf p e s m args below meth c H locs ls C hP hv => g_runVN (hM r hf) cw hlk hR hk hE hc d hn hst hr C hP hv) (fun r => h r)
theorem gV_e {f : Option (Int32 × St)} {kk : Int32 → St → Option X} (As : List Value) (rest : List Value) (hM : ∀ r, f = some r → MetX v l y cc1 nL1 rt1 rm (.ref (vq v k) :: As) σ (some (.int r.1), r.2)) (cw : CalV y C0 cc1 nL1 rt1 n) (hlk : Cond.methodLink own idx y ∈ WSl) (hR : RmOk R rm nL1) (hk : k < vN v) (hE : vE v k (σ.1 k) (σ.2 k) = .inr (ci, fs)) (hc : vwCl[ci]? = some (C0, T, N0)) (d : decode cc pc = .ok (.invokevirtual idx, 3)) (hn : As.length = n) (hst : st0 = As.reverse ++ .ref (vq v k) :: rest) (hr : (rest.map fun v => v.category).sum ≤ 8) (h : ∀ r s1, GK v cc nL own rt l R fin (kk r s1) K s1 (pc + 3) lv (.int r :: rest)) : GK v cc nL own rt l R fin (f.bind (un kk)) K σ pc lv st0 :=
  g_core (fun r => some (.int r.1)) (fun r => r.2) (fun r hf p e s m args below meth c H locs ls C hP hv => g_runV (hM r hf) cw hlk hR hk hE hc d hn hst hr C hP hv) (fun r => h r.1 r.2)
theorem gS_e {f : Option (Int32 × St)} {kk : Int32 → St → Option X} (As : List Value) (rest : List Value) (hM : ∀ r, f = some r → MetX v l y cc1 nL1 rt1 rm As σ (some (.int r.1), r.2)) (cw : CalS y cc1 nL1 rt1 n) (hlk : Cond.methodLink own idx y ∈ WSl) (hR : RmOk R rm nL1) (d : decode cc pc = .ok (.invokestatic idx, 3)) (hn : As.length = n) (hst : st0 = As.reverse ++ rest) (hr : (rest.map fun v => v.category).sum ≤ 8) (h : ∀ r s1, GK v cc nL own rt l R fin (kk r s1) K s1 (pc + 3) lv (.int r :: rest)) : GK v cc nL own rt l R fin (f.bind (un kk)) K σ pc lv st0 :=
  g_core (fun r => some (.int r.1)) (fun r => r.2) (fun r hf p e s m args below meth c H locs ls C hP hv => g_runS (hM r hf) cw hlk hR d hn hst hr C hP hv) (fun r => h r.1 r.2)
theorem gSN_e {host : String} {f : Option (Int32 × St)} {kk : Int32 → St → Option X} (As : List Value) (rest : List Value) (hM : ∀ r, f = some r → MetX v l y cc1 nL1 rt1 rm As σ (some (.int r.1), r.2)) (cw : CalS y cc1 nL1 rt1 n) (hlk : ∀ U, Nst U → va_Nw (.methodLinkNest own idx y host) U) (hR : RmOk R rm nL1) (d : decode cc pc = .ok (.invokestatic idx, 3)) (hn : As.length = n) (hst : st0 = As.reverse ++ rest) (hr : (rest.map fun v => v.category).sum ≤ 8) (h : ∀ r s1, GK v cc nL own rt l R fin (kk r s1) K s1 (pc + 3) lv (.int r :: rest)) : GK v cc nL own rt l R fin (f.bind (un kk)) K σ pc lv st0 :=
  g_core (fun r => some (.int r.1)) (fun r => r.2) (fun r hf p e s m args below meth c H locs ls C hP hv => g_runSN (hM r hf) cw hlk hR d hn hst hr C hP hv) (fun r => h r.1 r.2)
theorem gVN_e {host : String} {f : Option (Int32 × St)} {kk : Int32 → St → Option X} (As : List Value) (rest : List Value) (hM : ∀ r, f = some r → MetX v l y cc1 nL1 rt1 rm (.ref (vq v k) :: As) σ (some (.int r.1), r.2)) (cw : CalV y C0 cc1 nL1 rt1 n) (hlk : ∀ U, Nst U → va_Nw (.methodLinkNest own idx y host) U) (hR : RmOk R rm nL1) (hk : k < vN v) (hE : vE v k (σ.1 k) (σ.2 k) = .inr (ci, fs)) (hc : vwCl[ci]? = some (C0, T, N0)) (d : decode cc pc = .ok (.invokevirtual idx, 3)) (hn : As.length = n) (hst : st0 = As.reverse ++ .ref (vq v k) :: rest) (hr : (rest.map fun v => v.category).sum ≤ 8) (h : ∀ r s1, GK v cc nL own rt l R fin (kk r s1) K s1 (pc + 3) lv (.int r :: rest)) : GK v cc nL own rt l R fin (f.bind (un kk)) K σ pc lv st0 :=
  g_core (fun r => some (.int r.1)) (fun r => r.2) (fun r hf p e s m args below meth c H locs ls C hP hv => g_runVN (hM r hf) cw hlk hR hk hE hc d hn hst hr C hP hv) (fun r => h r.1 r.2)
theorem gV_v {f : Option St} {kk : St → Option X} (As : List Value) (rest : List Value) (hM : ∀ r, f = some r → MetX v l y cc1 nL1 rt1 rm (.ref (vq v k) :: As) σ (none, r)) (cw : CalV y C0 cc1 nL1 rt1 n) (hlk : Cond.methodLink own idx y ∈ WSl) (hR : RmOk R rm nL1) (hk : k < vN v) (hE : vE v k (σ.1 k) (σ.2 k) = .inr (ci, fs)) (hc : vwCl[ci]? = some (C0, T, N0)) (d : decode cc pc = .ok (.invokevirtual idx, 3)) (hn : As.length = n) (hst : st0 = As.reverse ++ .ref (vq v k) :: rest) (hr : (rest.map fun v => v.category).sum ≤ 8) (h : ∀ s1, GK v cc nL own rt l R fin (kk s1) K s1 (pc + 3) lv rest) : GK v cc nL own rt l R fin (f.bind kk) K σ pc lv st0 :=
  g_core (fun _ => none) (fun r => r) (fun r hf p e s m args below meth c H locs ls C hP hv => g_runV (hM r hf) cw hlk hR hk hE hc d hn hst hr C hP hv) (fun r => h r)
theorem gS_v {f : Option St} {kk : St → Option X} (As : List Value) (rest : List Value) (hM : ∀ r, f = some r → MetX v l y cc1 nL1 rt1 rm As σ (none, r)) (cw : CalS y cc1 nL1 rt1 n) (hlk : Cond.methodLink own idx y ∈ WSl) (hR : RmOk R rm nL1) (d : decode cc pc = .ok (.invokestatic idx, 3)) (hn : As.length = n) (hst : st0 = As.reverse ++ rest) (hr : (rest.map fun v => v.category).sum ≤ 8) (h : ∀ s1, GK v cc nL own rt l R fin (kk s1) K s1 (pc + 3) lv rest) : GK v cc nL own rt l R fin (f.bind kk) K σ pc lv st0 :=
  g_core (fun _ => none) (fun r => r) (fun r hf p e s m args below meth c H locs ls C hP hv => g_runS (hM r hf) cw hlk hR d hn hst hr C hP hv) (fun r => h r)
theorem gSN_v {host : String} {f : Option St} {kk : St → Option X} (As : List Value) (rest : List Value) (hM : ∀ r, f = some r → MetX v l y cc1 nL1 rt1 rm As σ (none, r)) (cw : CalS y cc1 nL1 rt1 n) (hlk : ∀ U, Nst U → va_Nw (.methodLinkNest own idx y host) U) (hR : RmOk R rm nL1) (d : decode cc pc = .ok (.invokestatic idx, 3)) (hn : As.length = n) (hst : st0 = As.reverse ++ rest) (hr : (rest.map fun v => v.category).sum ≤ 8) (h : ∀ s1, GK v cc nL own rt l R fin (kk s1) K s1 (pc + 3) lv rest) : GK v cc nL own rt l R fin (f.bind kk) K σ pc lv st0 :=
  g_core (fun _ => none) (fun r => r) (fun r hf p e s m args below meth c H locs ls C hP hv => g_runSN (hM r hf) cw hlk hR d hn hst hr C hP hv) (fun r => h r)
theorem gVN_v {host : String} {f : Option St} {kk : St → Option X} (As : List Value) (rest : List Value) (hM : ∀ r, f = some r → MetX v l y cc1 nL1 rt1 rm (.ref (vq v k) :: As) σ (none, r)) (cw : CalV y C0 cc1 nL1 rt1 n) (hlk : ∀ U, Nst U → va_Nw (.methodLinkNest own idx y host) U) (hR : RmOk R rm nL1) (hk : k < vN v) (hE : vE v k (σ.1 k) (σ.2 k) = .inr (ci, fs)) (hc : vwCl[ci]? = some (C0, T, N0)) (d : decode cc pc = .ok (.invokevirtual idx, 3)) (hn : As.length = n) (hst : st0 = As.reverse ++ .ref (vq v k) :: rest) (hr : (rest.map fun v => v.category).sum ≤ 8) (h : ∀ s1, GK v cc nL own rt l R fin (kk s1) K s1 (pc + 3) lv rest) : GK v cc nL own rt l R fin (f.bind kk) K σ pc lv st0 :=
  g_core (fun _ => none) (fun r => r) (fun r hf p e s m args below meth c H locs ls C hP hv => g_runVN (hM r hf) cw hlk hR hk hE hc d hn hst hr C hP hv) (fun r => h r)
end CW
end
