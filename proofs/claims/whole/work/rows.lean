section
-- ===== PART A: goes FIRST, ahead of the names: the tables' words, and 'selects' of the private methods out of them =====
/-- a private method of a class that the tables say can be made, by its rows of tables_1 -/
def lw_okq (q : MethodName × Nat) : Prop := (q.1.cls ≠ "java/lang/invoke/MethodHandle" ∧ q.1.cls ≠ "java/lang/invoke/VarHandle") ∧ Cond.instantiable q.1.cls q.2 ∈ tables_1 ∧ Cond.privateMethod q.1 ∈ tables_1 ∧ Cond.instanceMethod q.1 ∈ tables_1
theorem lw_p0 : lw_okq (⟨"RateWires$Text", "errorOfCommand", "(I)I"⟩, 2) := ⟨⟨by decide +kernel, by decide +kernel⟩, List.mem_of_getElem? (i := 28) (by decide +kernel), List.mem_of_getElem? (i := 238) (by decide +kernel), List.mem_of_getElem? (i := 239) (by decide +kernel)⟩
theorem lw_p1 : lw_okq (⟨"RateWires$Rates", "findsPart", "(LRateWires$Plan;I)Z"⟩, 2) := ⟨⟨by decide +kernel, by decide +kernel⟩, List.mem_of_getElem? (i := 129) (by decide +kernel), List.mem_of_getElem? (i := 270) (by decide +kernel), List.mem_of_getElem? (i := 271) (by decide +kernel)⟩
theorem lw_p2 : lw_okq (⟨"RateWires$Rates", "joins", "(IIII)Z"⟩, 2) := ⟨⟨by decide +kernel, by decide +kernel⟩, List.mem_of_getElem? (i := 129) (by decide +kernel), List.mem_of_getElem? (i := 274) (by decide +kernel), List.mem_of_getElem? (i := 275) (by decide +kernel)⟩
theorem lw_p3 : lw_okq (⟨"RateWires$Plan", "marksBehind", "(II)I"⟩, 10) := ⟨⟨by decide +kernel, by decide +kernel⟩, List.mem_of_getElem? (i := 42) (by decide +kernel), List.mem_of_getElem? (i := 286) (by decide +kernel), List.mem_of_getElem? (i := 287) (by decide +kernel)⟩
theorem lw_p4 : lw_okq (⟨"RateWires$Course", "choose", "(I)I"⟩, 9) := ⟨⟨by decide +kernel, by decide +kernel⟩, List.mem_of_getElem? (i := 123) (by decide +kernel), List.mem_of_getElem? (i := 290) (by decide +kernel), List.mem_of_getElem? (i := 291) (by decide +kernel)⟩
theorem lw_p5 : lw_okq (⟨"RateWires$Course", "take", "(I)V"⟩, 9) := ⟨⟨by decide +kernel, by decide +kernel⟩, List.mem_of_getElem? (i := 123) (by decide +kernel), List.mem_of_getElem? (i := 302) (by decide +kernel), List.mem_of_getElem? (i := 303) (by decide +kernel)⟩
theorem lw_p6 : lw_okq (⟨"java/lang/Throwable", "fillInStackTrace", "(I)Ljava/lang/Throwable;"⟩, 6) := ⟨⟨by decide +kernel, by decide +kernel⟩, List.mem_of_getElem? (i := 380) (by decide +kernel), List.mem_of_getElem? (i := 378) (by decide +kernel), List.mem_of_getElem? (i := 379) (by decide +kernel)⟩
theorem lw_p7 : lw_okq (⟨"RateWires", "obeysText", "(I)Z"⟩, 9) := ⟨⟨by decide +kernel, by decide +kernel⟩, List.mem_of_getElem? (i := 20) (by decide +kernel), List.mem_of_getElem? (i := 471) (by decide +kernel), List.mem_of_getElem? (i := 472) (by decide +kernel)⟩
theorem lw_p8 : lw_okq (⟨"RateWires$Plan", "closesDeadLoop", "(II)Z"⟩, 10) := ⟨⟨by decide +kernel, by decide +kernel⟩, List.mem_of_getElem? (i := 42) (by decide +kernel), List.mem_of_getElem? (i := 508) (by decide +kernel), List.mem_of_getElem? (i := 509) (by decide +kernel)⟩
theorem lw_p9 : lw_okq (⟨"RateWires$Plan", "reached", "(II)I"⟩, 10) := ⟨⟨by decide +kernel, by decide +kernel⟩, List.mem_of_getElem? (i := 42) (by decide +kernel), List.mem_of_getElem? (i := 512) (by decide +kernel), List.mem_of_getElem? (i := 513) (by decide +kernel)⟩
theorem lw_p10 : lw_okq (⟨"RateWires$Plan", "partOf", "(I)I"⟩, 10) := ⟨⟨by decide +kernel, by decide +kernel⟩, List.mem_of_getElem? (i := 42) (by decide +kernel), List.mem_of_getElem? (i := 563) (by decide +kernel), List.mem_of_getElem? (i := 564) (by decide +kernel)⟩
theorem lw_p11 : lw_okq (⟨"RateWires$Ways", "shorten", "(II)V"⟩, 1) := ⟨⟨by decide +kernel, by decide +kernel⟩, List.mem_of_getElem? (i := 180) (by decide +kernel), List.mem_of_getElem? (i := 613) (by decide +kernel), List.mem_of_getElem? (i := 614) (by decide +kernel)⟩
theorem lw_p12 : lw_okq (⟨"RateWires", "isCompleteWith", "(II)Z"⟩, 9) := ⟨⟨by decide +kernel, by decide +kernel⟩, List.mem_of_getElem? (i := 20) (by decide +kernel), List.mem_of_getElem? (i := 731) (by decide +kernel), List.mem_of_getElem? (i := 732) (by decide +kernel)⟩
theorem lw_p13 : lw_okq (⟨"RateWires", "obeysGroup", "(I)Z"⟩, 9) := ⟨⟨by decide +kernel, by decide +kernel⟩, List.mem_of_getElem? (i := 20) (by decide +kernel), List.mem_of_getElem? (i := 753) (by decide +kernel), List.mem_of_getElem? (i := 754) (by decide +kernel)⟩
theorem lw_p14 : lw_okq (⟨"RateWires", "takeTurn", "(I)I"⟩, 9) := ⟨⟨by decide +kernel, by decide +kernel⟩, List.mem_of_getElem? (i := 20) (by decide +kernel), List.mem_of_getElem? (i := 790) (by decide +kernel), List.mem_of_getElem? (i := 791) (by decide +kernel)⟩
theorem lw_p15 : lw_okq (⟨"RateWiresModel", "refused", "(I)Z"⟩, 25) := ⟨⟨by decide +kernel, by decide +kernel⟩, List.mem_of_getElem? (i := 814) (by decide +kernel), List.mem_of_getElem? (i := 909) (by decide +kernel), List.mem_of_getElem? (i := 910) (by decide +kernel)⟩
def lw_privs_1 : List (MethodName × Nat) := [(⟨"RateWires$Text", "errorOfCommand", "(I)I"⟩, 2), (⟨"RateWires$Rates", "findsPart", "(LRateWires$Plan;I)Z"⟩, 2), (⟨"RateWires$Rates", "joins", "(IIII)Z"⟩, 2), (⟨"RateWires$Plan", "marksBehind", "(II)I"⟩, 10), (⟨"RateWires$Course", "choose", "(I)I"⟩, 9), (⟨"RateWires$Course", "take", "(I)V"⟩, 9), (⟨"java/lang/Throwable", "fillInStackTrace", "(I)Ljava/lang/Throwable;"⟩, 6), (⟨"RateWires", "obeysText", "(I)Z"⟩, 9), (⟨"RateWires$Plan", "closesDeadLoop", "(II)Z"⟩, 10), (⟨"RateWires$Plan", "reached", "(II)I"⟩, 10), (⟨"RateWires$Plan", "partOf", "(I)I"⟩, 10), (⟨"RateWires$Ways", "shorten", "(II)V"⟩, 1), (⟨"RateWires", "isCompleteWith", "(II)Z"⟩, 9), (⟨"RateWires", "obeysGroup", "(I)Z"⟩, 9), (⟨"RateWires", "takeTurn", "(I)I"⟩, 9), (⟨"RateWiresModel", "refused", "(I)Z"⟩, 25)]
theorem lw_r1 : ∀ q ∈ lw_privs_1, lw_okq q := List.forall_mem_cons.mpr ⟨lw_p0, List.forall_mem_cons.mpr ⟨lw_p1, List.forall_mem_cons.mpr ⟨lw_p2, List.forall_mem_cons.mpr ⟨lw_p3, List.forall_mem_cons.mpr ⟨lw_p4, List.forall_mem_cons.mpr ⟨lw_p5, List.forall_mem_cons.mpr ⟨lw_p6, List.forall_mem_cons.mpr ⟨lw_p7, List.forall_mem_cons.mpr ⟨lw_p8, List.forall_mem_cons.mpr ⟨lw_p9, List.forall_mem_cons.mpr ⟨lw_p10, List.forall_mem_cons.mpr ⟨lw_p11, List.forall_mem_cons.mpr ⟨lw_p12, List.forall_mem_cons.mpr ⟨lw_p13, List.forall_mem_cons.mpr ⟨lw_p14, List.forall_mem_cons.mpr ⟨lw_p15, fun _ h => absurd h List.not_mem_nil⟩⟩⟩⟩⟩⟩⟩⟩⟩⟩⟩⟩⟩⟩⟩⟩
theorem lw_p16 : lw_okq (⟨"RateWiresModel", "readText", "()I"⟩, 25) := ⟨⟨by decide +kernel, by decide +kernel⟩, List.mem_of_getElem? (i := 814) (by decide +kernel), List.mem_of_getElem? (i := 921) (by decide +kernel), List.mem_of_getElem? (i := 922) (by decide +kernel)⟩
theorem lw_p17 : lw_okq (⟨"RateWiresModel", "isNext", "(I)Z"⟩, 25) := ⟨⟨by decide +kernel, by decide +kernel⟩, List.mem_of_getElem? (i := 814) (by decide +kernel), List.mem_of_getElem? (i := 925) (by decide +kernel), List.mem_of_getElem? (i := 926) (by decide +kernel)⟩
theorem lw_p18 : lw_okq (⟨"RateWiresModel", "accept", "(Z)V"⟩, 25) := ⟨⟨by decide +kernel, by decide +kernel⟩, List.mem_of_getElem? (i := 814) (by decide +kernel), List.mem_of_getElem? (i := 929) (by decide +kernel), List.mem_of_getElem? (i := 930) (by decide +kernel)⟩
theorem lw_p19 : lw_okq (⟨"RateWiresModel", "readCommand", "()V"⟩, 25) := ⟨⟨by decide +kernel, by decide +kernel⟩, List.mem_of_getElem? (i := 814) (by decide +kernel), List.mem_of_getElem? (i := 933) (by decide +kernel), List.mem_of_getElem? (i := 934) (by decide +kernel)⟩
theorem lw_p20 : lw_okq (⟨"RateWiresModel", "readModule", "()V"⟩, 25) := ⟨⟨by decide +kernel, by decide +kernel⟩, List.mem_of_getElem? (i := 814) (by decide +kernel), List.mem_of_getElem? (i := 937) (by decide +kernel), List.mem_of_getElem? (i := 938) (by decide +kernel)⟩
theorem lw_p21 : lw_okq (⟨"RateWiresModel", "digit", "(II)I"⟩, 25) := ⟨⟨by decide +kernel, by decide +kernel⟩, List.mem_of_getElem? (i := 814) (by decide +kernel), List.mem_of_getElem? (i := 941) (by decide +kernel), List.mem_of_getElem? (i := 942) (by decide +kernel)⟩
theorem lw_p22 : lw_okq (⟨"RateWiresModel", "goes", "(Z)Z"⟩, 25) := ⟨⟨by decide +kernel, by decide +kernel⟩, List.mem_of_getElem? (i := 814) (by decide +kernel), List.mem_of_getElem? (i := 946) (by decide +kernel), List.mem_of_getElem? (i := 947) (by decide +kernel)⟩
theorem lw_p23 : lw_okq (⟨"RateWiresModel", "readWire", "()V"⟩, 25) := ⟨⟨by decide +kernel, by decide +kernel⟩, List.mem_of_getElem? (i := 814) (by decide +kernel), List.mem_of_getElem? (i := 956) (by decide +kernel), List.mem_of_getElem? (i := 957) (by decide +kernel)⟩
theorem lw_p24 : lw_okq (⟨"RateWiresModel", "canLay", "([IIII)Z"⟩, 25) := ⟨⟨by decide +kernel, by decide +kernel⟩, List.mem_of_getElem? (i := 814) (by decide +kernel), List.mem_of_getElem? (i := 960) (by decide +kernel), List.mem_of_getElem? (i := 961) (by decide +kernel)⟩
theorem lw_p25 : lw_okq (⟨"RateWiresModel", "isDead", "([III)Z"⟩, 25) := ⟨⟨by decide +kernel, by decide +kernel⟩, List.mem_of_getElem? (i := 814) (by decide +kernel), List.mem_of_getElem? (i := 964) (by decide +kernel), List.mem_of_getElem? (i := 965) (by decide +kernel)⟩
theorem lw_p26 : lw_okq (⟨"RateWiresModel", "layWays", "([II)V"⟩, 25) := ⟨⟨by decide +kernel, by decide +kernel⟩, List.mem_of_getElem? (i := 814) (by decide +kernel), List.mem_of_getElem? (i := 968) (by decide +kernel), List.mem_of_getElem? (i := 969) (by decide +kernel)⟩
theorem lw_p27 : lw_okq (⟨"RateWiresModel", "readCut", "()V"⟩, 25) := ⟨⟨by decide +kernel, by decide +kernel⟩, List.mem_of_getElem? (i := 814) (by decide +kernel), List.mem_of_getElem? (i := 979) (by decide +kernel), List.mem_of_getElem? (i := 980) (by decide +kernel)⟩
theorem lw_p28 : lw_okq (⟨"RateWiresModel", "readWork", "()V"⟩, 25) := ⟨⟨by decide +kernel, by decide +kernel⟩, List.mem_of_getElem? (i := 814) (by decide +kernel), List.mem_of_getElem? (i := 989) (by decide +kernel), List.mem_of_getElem? (i := 990) (by decide +kernel)⟩
theorem lw_p29 : lw_okq (⟨"RateWiresModel", "layWorks", "([I)Z"⟩, 25) := ⟨⟨by decide +kernel, by decide +kernel⟩, List.mem_of_getElem? (i := 814) (by decide +kernel), List.mem_of_getElem? (i := 1008) (by decide +kernel), List.mem_of_getElem? (i := 1009) (by decide +kernel)⟩
theorem lw_p30 : lw_okq (⟨"RateWiresModel", "layParts", "([I)V"⟩, 25) := ⟨⟨by decide +kernel, by decide +kernel⟩, List.mem_of_getElem? (i := 814) (by decide +kernel), List.mem_of_getElem? (i := 1012) (by decide +kernel), List.mem_of_getElem? (i := 1013) (by decide +kernel)⟩
theorem lw_p31 : lw_okq (⟨"RateWiresModel", "spread", "([III)Z"⟩, 25) := ⟨⟨by decide +kernel, by decide +kernel⟩, List.mem_of_getElem? (i := 814) (by decide +kernel), List.mem_of_getElem? (i := 1016) (by decide +kernel), List.mem_of_getElem? (i := 1017) (by decide +kernel)⟩
def lw_privs_2 : List (MethodName × Nat) := [(⟨"RateWiresModel", "readText", "()I"⟩, 25), (⟨"RateWiresModel", "isNext", "(I)Z"⟩, 25), (⟨"RateWiresModel", "accept", "(Z)V"⟩, 25), (⟨"RateWiresModel", "readCommand", "()V"⟩, 25), (⟨"RateWiresModel", "readModule", "()V"⟩, 25), (⟨"RateWiresModel", "digit", "(II)I"⟩, 25), (⟨"RateWiresModel", "goes", "(Z)Z"⟩, 25), (⟨"RateWiresModel", "readWire", "()V"⟩, 25), (⟨"RateWiresModel", "canLay", "([IIII)Z"⟩, 25), (⟨"RateWiresModel", "isDead", "([III)Z"⟩, 25), (⟨"RateWiresModel", "layWays", "([II)V"⟩, 25), (⟨"RateWiresModel", "readCut", "()V"⟩, 25), (⟨"RateWiresModel", "readWork", "()V"⟩, 25), (⟨"RateWiresModel", "layWorks", "([I)Z"⟩, 25), (⟨"RateWiresModel", "layParts", "([I)V"⟩, 25), (⟨"RateWiresModel", "spread", "([III)Z"⟩, 25)]
theorem lw_r2 : ∀ q ∈ lw_privs_2, lw_okq q := List.forall_mem_cons.mpr ⟨lw_p16, List.forall_mem_cons.mpr ⟨lw_p17, List.forall_mem_cons.mpr ⟨lw_p18, List.forall_mem_cons.mpr ⟨lw_p19, List.forall_mem_cons.mpr ⟨lw_p20, List.forall_mem_cons.mpr ⟨lw_p21, List.forall_mem_cons.mpr ⟨lw_p22, List.forall_mem_cons.mpr ⟨lw_p23, List.forall_mem_cons.mpr ⟨lw_p24, List.forall_mem_cons.mpr ⟨lw_p25, List.forall_mem_cons.mpr ⟨lw_p26, List.forall_mem_cons.mpr ⟨lw_p27, List.forall_mem_cons.mpr ⟨lw_p28, List.forall_mem_cons.mpr ⟨lw_p29, List.forall_mem_cons.mpr ⟨lw_p30, List.forall_mem_cons.mpr ⟨lw_p31, fun _ h => absurd h List.not_mem_nil⟩⟩⟩⟩⟩⟩⟩⟩⟩⟩⟩⟩⟩⟩⟩⟩
theorem lw_p32 : lw_okq (⟨"RateWiresModel", "setWorks", "(IJJ)V"⟩, 25) := ⟨⟨by decide +kernel, by decide +kernel⟩, List.mem_of_getElem? (i := 814) (by decide +kernel), List.mem_of_getElem? (i := 1020) (by decide +kernel), List.mem_of_getElem? (i := 1021) (by decide +kernel)⟩
theorem lw_p33 : lw_okq (⟨"RateWiresModel", "dueTogether", "()I"⟩, 25) := ⟨⟨by decide +kernel, by decide +kernel⟩, List.mem_of_getElem? (i := 814) (by decide +kernel), List.mem_of_getElem? (i := 1034) (by decide +kernel), List.mem_of_getElem? (i := 1035) (by decide +kernel)⟩
theorem lw_p34 : lw_okq (⟨"RateWiresModel", "workers", "()I"⟩, 25) := ⟨⟨by decide +kernel, by decide +kernel⟩, List.mem_of_getElem? (i := 814) (by decide +kernel), List.mem_of_getElem? (i := 1038) (by decide +kernel), List.mem_of_getElem? (i := 1039) (by decide +kernel)⟩
theorem lw_p35 : lw_okq (⟨"RateWiresModel", "loopers", "()I"⟩, 25) := ⟨⟨by decide +kernel, by decide +kernel⟩, List.mem_of_getElem? (i := 814) (by decide +kernel), List.mem_of_getElem? (i := 1042) (by decide +kernel), List.mem_of_getElem? (i := 1043) (by decide +kernel)⟩
theorem lw_p36 : lw_okq (⟨"RateWiresModel", "isModule", "(I)Z"⟩, 25) := ⟨⟨by decide +kernel, by decide +kernel⟩, List.mem_of_getElem? (i := 814) (by decide +kernel), List.mem_of_getElem? (i := 1050) (by decide +kernel), List.mem_of_getElem? (i := 1051) (by decide +kernel)⟩
theorem lw_p37 : lw_okq (⟨"RateWiresModel", "wiresOf", "(II)I"⟩, 25) := ⟨⟨by decide +kernel, by decide +kernel⟩, List.mem_of_getElem? (i := 814) (by decide +kernel), List.mem_of_getElem? (i := 1055) (by decide +kernel), List.mem_of_getElem? (i := 1056) (by decide +kernel)⟩
theorem lw_p38 : lw_okq (⟨"RateWiresModel", "isWire", "(I)Z"⟩, 25) := ⟨⟨by decide +kernel, by decide +kernel⟩, List.mem_of_getElem? (i := 814) (by decide +kernel), List.mem_of_getElem? (i := 1063) (by decide +kernel), List.mem_of_getElem? (i := 1064) (by decide +kernel)⟩
theorem lw_p39 : lw_okq (⟨"RateWiresModel", "remember", "()V"⟩, 25) := ⟨⟨by decide +kernel, by decide +kernel⟩, List.mem_of_getElem? (i := 814) (by decide +kernel), List.mem_of_getElem? (i := 1080) (by decide +kernel), List.mem_of_getElem? (i := 1081) (by decide +kernel)⟩
theorem lw_p40 : lw_okq (⟨"RateWiresModel", "canPut", "([III)Z"⟩, 25) := ⟨⟨by decide +kernel, by decide +kernel⟩, List.mem_of_getElem? (i := 814) (by decide +kernel), List.mem_of_getElem? (i := 1104) (by decide +kernel), List.mem_of_getElem? (i := 1105) (by decide +kernel)⟩
theorem lw_p41 : lw_okq (⟨"RateWiresModel", "tryRound", "(I)Z"⟩, 25) := ⟨⟨by decide +kernel, by decide +kernel⟩, List.mem_of_getElem? (i := 814) (by decide +kernel), List.mem_of_getElem? (i := 1120) (by decide +kernel), List.mem_of_getElem? (i := 1121) (by decide +kernel)⟩
theorem lw_p42 : lw_okq (⟨"RateWiresModel", "tryIt", "()V"⟩, 25) := ⟨⟨by decide +kernel, by decide +kernel⟩, List.mem_of_getElem? (i := 814) (by decide +kernel), List.mem_of_getElem? (i := 1124) (by decide +kernel), List.mem_of_getElem? (i := 1125) (by decide +kernel)⟩
theorem lw_p43 : lw_okq (⟨"RateWiresModel", "play", "([II)V"⟩, 25) := ⟨⟨by decide +kernel, by decide +kernel⟩, List.mem_of_getElem? (i := 814) (by decide +kernel), List.mem_of_getElem? (i := 1128) (by decide +kernel), List.mem_of_getElem? (i := 1129) (by decide +kernel)⟩
theorem lw_p44 : lw_okq (⟨"RateWiresModel", "note", "([I)V"⟩, 25) := ⟨⟨by decide +kernel, by decide +kernel⟩, List.mem_of_getElem? (i := 814) (by decide +kernel), List.mem_of_getElem? (i := 1132) (by decide +kernel), List.mem_of_getElem? (i := 1133) (by decide +kernel)⟩
theorem lw_p45 : lw_okq (⟨"RateWiresModel", "choice", "([III)I"⟩, 25) := ⟨⟨by decide +kernel, by decide +kernel⟩, List.mem_of_getElem? (i := 814) (by decide +kernel), List.mem_of_getElem? (i := 1136) (by decide +kernel), List.mem_of_getElem? (i := 1137) (by decide +kernel)⟩
theorem lw_p46 : lw_okq (⟨"RateWiresModel", "does", "(I)Z"⟩, 25) := ⟨⟨by decide +kernel, by decide +kernel⟩, List.mem_of_getElem? (i := 814) (by decide +kernel), List.mem_of_getElem? (i := 1180) (by decide +kernel), List.mem_of_getElem? (i := 1181) (by decide +kernel)⟩
theorem lw_p47 : lw_okq (⟨"RateWiresModel", "lays", "(IIIII)Z"⟩, 25) := ⟨⟨by decide +kernel, by decide +kernel⟩, List.mem_of_getElem? (i := 814) (by decide +kernel), List.mem_of_getElem? (i := 1185) (by decide +kernel), List.mem_of_getElem? (i := 1186) (by decide +kernel)⟩
def lw_privs_3 : List (MethodName × Nat) := [(⟨"RateWiresModel", "setWorks", "(IJJ)V"⟩, 25), (⟨"RateWiresModel", "dueTogether", "()I"⟩, 25), (⟨"RateWiresModel", "workers", "()I"⟩, 25), (⟨"RateWiresModel", "loopers", "()I"⟩, 25), (⟨"RateWiresModel", "isModule", "(I)Z"⟩, 25), (⟨"RateWiresModel", "wiresOf", "(II)I"⟩, 25), (⟨"RateWiresModel", "isWire", "(I)Z"⟩, 25), (⟨"RateWiresModel", "remember", "()V"⟩, 25), (⟨"RateWiresModel", "canPut", "([III)Z"⟩, 25), (⟨"RateWiresModel", "tryRound", "(I)Z"⟩, 25), (⟨"RateWiresModel", "tryIt", "()V"⟩, 25), (⟨"RateWiresModel", "play", "([II)V"⟩, 25), (⟨"RateWiresModel", "note", "([I)V"⟩, 25), (⟨"RateWiresModel", "choice", "([III)I"⟩, 25), (⟨"RateWiresModel", "does", "(I)Z"⟩, 25), (⟨"RateWiresModel", "lays", "(IIIII)Z"⟩, 25)]
theorem lw_r3 : ∀ q ∈ lw_privs_3, lw_okq q := List.forall_mem_cons.mpr ⟨lw_p32, List.forall_mem_cons.mpr ⟨lw_p33, List.forall_mem_cons.mpr ⟨lw_p34, List.forall_mem_cons.mpr ⟨lw_p35, List.forall_mem_cons.mpr ⟨lw_p36, List.forall_mem_cons.mpr ⟨lw_p37, List.forall_mem_cons.mpr ⟨lw_p38, List.forall_mem_cons.mpr ⟨lw_p39, List.forall_mem_cons.mpr ⟨lw_p40, List.forall_mem_cons.mpr ⟨lw_p41, List.forall_mem_cons.mpr ⟨lw_p42, List.forall_mem_cons.mpr ⟨lw_p43, List.forall_mem_cons.mpr ⟨lw_p44, List.forall_mem_cons.mpr ⟨lw_p45, List.forall_mem_cons.mpr ⟨lw_p46, List.forall_mem_cons.mpr ⟨lw_p47, fun _ h => absurd h List.not_mem_nil⟩⟩⟩⟩⟩⟩⟩⟩⟩⟩⟩⟩⟩⟩⟩⟩
theorem lw_p48 : lw_okq (⟨"RateWiresModel", "cuts", "(I)Z"⟩, 25) := ⟨⟨by decide +kernel, by decide +kernel⟩, List.mem_of_getElem? (i := 814) (by decide +kernel), List.mem_of_getElem? (i := 1189) (by decide +kernel), List.mem_of_getElem? (i := 1190) (by decide +kernel)⟩
theorem lw_p49 : lw_okq (⟨"RateWiresModel", "puts", "(II)Z"⟩, 25) := ⟨⟨by decide +kernel, by decide +kernel⟩, List.mem_of_getElem? (i := 814) (by decide +kernel), List.mem_of_getElem? (i := 1193) (by decide +kernel), List.mem_of_getElem? (i := 1194) (by decide +kernel)⟩
theorem lw_p50 : lw_okq (⟨"RateWiresModel", "worksOne", "(I)Z"⟩, 25) := ⟨⟨by decide +kernel, by decide +kernel⟩, List.mem_of_getElem? (i := 814) (by decide +kernel), List.mem_of_getElem? (i := 1197) (by decide +kernel), List.mem_of_getElem? (i := 1198) (by decide +kernel)⟩
theorem lw_p51 : lw_okq (⟨"RateWiresModel", "rounds", "(I)Z"⟩, 25) := ⟨⟨by decide +kernel, by decide +kernel⟩, List.mem_of_getElem? (i := 814) (by decide +kernel), List.mem_of_getElem? (i := 1201) (by decide +kernel), List.mem_of_getElem? (i := 1202) (by decide +kernel)⟩
theorem lw_p52 : lw_okq (⟨"RateWiresModel", "stir", "(I)V"⟩, 25) := ⟨⟨by decide +kernel, by decide +kernel⟩, List.mem_of_getElem? (i := 814) (by decide +kernel), List.mem_of_getElem? (i := 1211) (by decide +kernel), List.mem_of_getElem? (i := 1212) (by decide +kernel)⟩
def lw_privs_4 : List (MethodName × Nat) := [(⟨"RateWiresModel", "cuts", "(I)Z"⟩, 25), (⟨"RateWiresModel", "puts", "(II)Z"⟩, 25), (⟨"RateWiresModel", "worksOne", "(I)Z"⟩, 25), (⟨"RateWiresModel", "rounds", "(I)Z"⟩, 25), (⟨"RateWiresModel", "stir", "(I)V"⟩, 25)]
theorem lw_r4 : ∀ q ∈ lw_privs_4, lw_okq q := List.forall_mem_cons.mpr ⟨lw_p48, List.forall_mem_cons.mpr ⟨lw_p49, List.forall_mem_cons.mpr ⟨lw_p50, List.forall_mem_cons.mpr ⟨lw_p51, List.forall_mem_cons.mpr ⟨lw_p52, fun _ h => absurd h List.not_mem_nil⟩⟩⟩⟩⟩
def lw_privs : List (MethodName × Nat) := lw_privs_1 ++ (lw_privs_2 ++ (lw_privs_3 ++ (lw_privs_4)))
def lw_tbl : List Cond := k2_sels lw_privs ++ tables_1
theorem lw_privs_ok : ∀ q ∈ lw_privs, lw_okq q := by
  show ∀ q ∈ lw_privs_1 ++ (lw_privs_2 ++ (lw_privs_3 ++ (lw_privs_4))), lw_okq q
  exact List.forall_mem_append.mpr ⟨lw_r1, List.forall_mem_append.mpr ⟨lw_r2, List.forall_mem_append.mpr ⟨lw_r3, lw_r4⟩⟩⟩
-- ===== end of PART A; then your names; then what follows =====
end
section
/-! ===== BEGIN words of one list among another's, by their places ===== -/
theorem goodIn_r {big : List Cond} (ws : List Cond) (ps : List Nat) (hp : ws = ps.filterMap (fun i => big[i]?)) (h : ws.all goodWord = true) : GoodIn big ws := by
  intro w hw
  have h1 := List.all_eq_true.mp h w hw
  rw [hp] at hw
  obtain ⟨i, -, hi⟩ := List.mem_filterMap.mp hw
  have hm : w ∈ big := by first | exact List.mem_of_getElem? hi | exact List.getElem?_mem hi
  exact ⟨hm, good_of_word h1⟩
theorem goodIn_app {big a b : List Cond} (ha : GoodIn big a) (hb : GoodIn big b) : GoodIn big (a ++ b) := fun w h => (List.mem_append.mp h).elim (ha w) (hb w)
theorem goodIn_ca {big a b : List Cond} {c : Cond} (ha : GoodIn big (c :: a)) (hb : GoodIn big b) : GoodIn big (c :: (a ++ b)) := fun w h => (List.mem_cons.mp h).elim (fun e => ha w (List.mem_cons.mpr (Or.inl e))) (fun h => (List.mem_append.mp h).elim (fun h => ha w (List.mem_cons.mpr (Or.inr h))) (hb w))
theorem goodIn_sub {big ws : List Cond} (hm : ∀ w ∈ ws, w ∈ big) (h : ws.all goodWord = true) : GoodIn big ws := fun w hw => ⟨hm w hw, good_of_word (List.all_eq_true.mp h w hw)⟩
/-! ===== END ===== -/

/-! ===== BEGIN exceptions that leave a method, and their catching by the caller (launches without stack traces) ===== -/
section VXA
/-! The laws vx_back, vx_callV, vx_callS, vx_callSW, vx_throw0, vx_throwS follow proofs of the library, with one case more: JvmDerived/Free/Laws.lean (Back.of_free), Shelf42/LK1.lean (callV, callS), Shelf/KitTraced.lean (throwNew0V, throwNewS). -/
/-- where a method has thrown q: the class by its name, the cell, what was written, the world -/
def vx_T (XC : String → State → State → Prop) (st : State) (q : Addr) (t : State) (mc ms : Nat) (free : Addr → Prop) : Prop :=
  ∃ (E : String) (ce : Cell) (L : List Loc), XC E st t ∧ t.heap[q]? = some ce ∧ ce.vm = .none ∧ st.vm.findClass E = some ce.cls ∧ st.WarmedH t.vm ∧ st.sameButNew ({ t with vm := st.vm } : State) L mc ms ∧ ∀ z ∈ L, free z.base
def vx_Q (Qc : Array Value → State → Outcome → State → Prop) (XC : String → State → State → Prop) (mc ms : Nat) (free : Addr → Prop) : Array Value → State → Outcome → State → Prop := fun a st o t =>
  (Qc a st o t ∧ ∃ L, FrameEnd st o t L mc ms ∧ ∀ q ∈ L, free q.base) ∨ ∃ q, o = .threw q ∧ vx_T XC st q t mc ms free
/-- a callee that returns or throws -/
def vx_Met (l : Launch) (y : MethodName) (ws : List Cond) (rm : Room) (Pc : Array Value → State → Prop) (Qc : Array Value → State → Outcome → State → Prop) (XC : String → State → State → Prop) (mc ms : Nat) (free : Addr → Prop) : Prop :=
  MetFree l y (headSpec ws rm) Pc (fun _ _ _ _ _ => True) (vx_Q Qc XC mc ms free)
def vx_Post (XC : String → State → State → Prop) (mc ms : Nat) (free : Addr → Prop) : Pt → Array Value → Addr → Pt → Prop := fun A a q B =>
  ∃ (g : JFrame) (mk : MethodId) (t : State) (L : List Loc) (E : String) (ce : Cell), B.U.heap = t.heap ∧ B.U.vm = t.vm ∧ XC E (A.U.calling g mk a) t ∧ t.heap[q]? = some ce ∧ ce.vm = .none ∧ A.U.vm.findClass E = some ce.cls ∧ B.locs = A.locs ++ L ∧ (∀ z ∈ L, free z.base) ∧ B.cells = A.cells + mc ∧ B.slots = A.slots + ms
def vx_Back (l : Launch) (R : Room) (p : Program) (e : Env) (below : List Frame) (s : State) (sargs : Array Value) (y : MethodName) (len W9 : Nat)
    (Pre : Pt → Array Value → Prop) (Post : Pt → Array Value → Option Value → Pt → Prop) (PostX : Pt → Array Value → Addr → Pt → Prop) : Prop :=
  ∀ (m : MethodId) (meth : Method) (c : Code) (A : Pt) (g : JFrame) (ig : Instr) (mk : MethodId) (a : Array Value),
    Stand p l e R s m sargs below meth c A.U A.locs A.cells A.slots → g.method = m → g.locals.size = c.maxLocals → decode c.code g.pc = .ok (ig, len) →
    2 * g.monitorRoom + (g.stack.map fun v => v.category).sum ≤ W9 → A.U.methodNamed? y = some mk → Pre A a →
    (∃ (v : Option Value) (B : Pt), Stand p l e R s m sargs below meth c B.U B.locs B.cells B.slots ∧ Post A a v B ∧
      Steps p.tables e below (doInvoke e (A.U.setTop g) [] mk a).1 (B.U.setTop { g with pc := g.pc + len, stack := v.toList ++ g.stack })) ∨
    (∃ (q : Addr) (B : Pt), Stand p l e R s m sargs below meth c B.U B.locs B.cells B.slots ∧ PostX A a q B ∧
      Steps p.tables e below (doInvoke e (A.U.setTop g) [] mk a).1 ((B.U.setTop g).pushFrame (.throwing q)))
section Payer
variable {l : Launch} {R : Room} {p : Program} {e : Env} {below : List Frame} {s : State} {sargs : Array Value} {y : MethodName} {len W9 : Nat}
theorem vx_back {ws : List Cond} {rm : Room} {Pc : Array Value → State → Prop} {Qc : Array Value → State → Outcome → State → Prop} {XC : String → State → State → Prop} {mc ms : Nat} {free : Addr → Prop} {bytes : ByteArray} {maxL : Nat} {ret : Option FieldType}
    (hM : vx_Met l y ws rm Pc Qc XC mc ms free) (hblind : FrameBlind Pc) (hrc : rm.cells = mc) (hrs : rm.slots = ms)
    (hframes : rm.frames + 1 ≤ R.frames) (hlocals : W9 + (maxL + 11) + rm.locals ≤ R.locals)
    (hws : ∀ w ∈ ws, ∀ a' U, s.WarmedH U.vm → w.before a' U = true) (hcode : Cond.code y bytes maxL ret ∈ ws) (hinit : ∀ a' U, s.WarmedH U.vm → (Cond.initialized y.cls).before a' U = true) :
    vx_Back l R p e below s sargs y len W9 (PreOf R mc ms Pc) (PostOf Qc mc ms free) (vx_Post XC mc ms free) := by
  intro m meth c A g ig mk a X hg hsize hdg hW hn hp
  have h1 : (headSpec ws rm).pre.before a A.U = true := atoms_intro fun w hw => hws w hw _ _ X.warmed
  have h2 : (Cond.code y bytes maxL ret).before a A.U = true := hws _ hcode _ _ X.warmed
  have h3 : (Cond.initialized y.cls).before a A.U = true := hinit _ _ X.warmed
  have h4 : A.cells + (headSpec ws rm).room.cells ≤ R.cells := by rw [show (headSpec ws rm).room.cells = mc from hrc]; exact hp.1
  have h5 : A.slots + (headSpec ws rm).room.slots ≤ R.slots := by rw [show (headSpec ws rm).room.slots = ms from hrs]; exact hp.2.1
  have hPc : Pc a (A.U.calling g mk a) := hblind _ _ _ _ hp.2.2
  obtain ⟨U, Ls, c0, s0⟩ := A
  dsimp only [Pt.U, Pt.locs, Pt.cells, Pt.slots] at h1 h2 h3 h4 h5 X hn hPc ⊢
  obtain ⟨methY, cY, hmY, hcY, -, hlY, -, -, -, -⟩ := Cond.code_spec hn h2
  obtain ⟨kY, hkY, -⟩ := className_of_methodNamed hn
  have hinitY : kY.init = .initialized := Cond.initialized_spec (findClass_of_methodNamed hn) hkY h3
  have h : At U g.method c below := by rw [hg]; exact X.here
  have hlocals9 : W9 + (maxL + 11) + (headSpec ws rm).room.locals ≤ R.locals := hlocals
  have happ : (headSpec ws rm).appliesLoose y e.platform (U.calling g mk a) = true :=
    Spec.appliesLoose_calling (g := g) h hdg hn hkY hinitY
      (X.room_calling (g := g) (R' := (headSpec ws rm).room) hsize hmY hcY hframes (by rw [hlY]; omega) h4 h5) h1
  obtain ⟨mid, hmid⟩ := h.above
  have hfr : (U.setTop g).frames = (.java g :: mid) ++ below := by rw [State.frames_setTop' g h.top, hmid]; rfl
  obtain ⟨o, s₂, hsteps, -, hend, hq⟩ := Steps.callFree hM p X.admits X.cas X.clock (acts := []) hfr happ hPc trivial
  have hq' : vx_Q Qc XC mc ms free a (U.calling g mk a) o s₂ := hq
  rw [State.frames_setTop' g h.top] at hend
  obtain ⟨g₀, hg0⟩ := Option.isSome_iff_exists.mp h.top
  obtain ⟨r, hr⟩ := State.topJava?_eq_some.mp hg0
  have hr' : (({ U with heap := s₂.heap, slotsUsed := s₂.slotsUsed } : State).setVm s₂.vm).frames = .java g₀ :: r := hr
  rcases hq' with ⟨hqc, L, hfe, hL⟩ | ⟨q, rfl, E, ce, L, hx, hce, hcv, hcl, hW₂, hsm, hL⟩
  · obtain ⟨⟨v, rfl⟩, hW₂, e2, q2, q3, q4, q5, q6⟩ := id hfe
    have e3 : s₂ = ({ (U.calling g mk a).setFrames s₂.frames with heap := s₂.heap, slotsUsed := s₂.slotsUsed } : State).setVm s₂.vm := by
      have : s₂ = ({ s₂ with vm := (U.calling g mk a).vm } : State).setVm s₂.vm := rfl
      rw [e2] at this
      exact this
    obtain ⟨c₂, i₂, len₂, hc₂, hd₂, hf₂⟩ := hend
    have hW' : U.WarmedH s₂.vm := hW₂
    have hcc : c₂ = c := by
      have h1 : s₂.code? g.method = U.code? g.method := by
        rw [State.code?_eq, State.code?_eq, hW'.alike.method?]
      exact Option.some.inj (hc₂.symm.trans (h1.trans h.code))
    subst hcc
    have hlen : len₂ = len := by rw [hdg] at hd₂; cases hd₂; rfl
    subst hlen
    have hs₂ : s₂ = (({ U with heap := s₂.heap, slotsUsed := s₂.slotsUsed } : State).setVm s₂.vm).setTop { g with pc := g.pc + len₂, stack := v.toList ++ g.stack } := by
      refine e3.trans ?_
      rw [hf₂, State.calling_eq h.top, State.setFrames_setFrames, State.setTop_of_frames _ hr', hr]
      rfl
    have hsame : U.sameButNew ({ U with heap := s₂.heap, slotsUsed := s₂.slotsUsed } : State) L mc ms := by
      refine ⟨?_, q2, q3, q4, q5, q6⟩
      obtain ⟨t, ht, -⟩ := State.frames_cons hr
      show ({ U with heap := s₂.heap, slotsUsed := s₂.slotsUsed } : State) = { U.setFrames U.frames with heap := s₂.heap, slotsUsed := s₂.slotsUsed }
      rw [State.setFrames_self ht]
    subst hg
    refine Or.inl ⟨v, ⟨(({ U with heap := s₂.heap, slotsUsed := s₂.slotsUsed } : State).setVm s₂.vm), Ls ++ L, c0 + mc, s0 + ms⟩,
      ⟨X.admits, X.cas, X.clock, X.frames, X.room, X.hears, X.method, X.code, (X.here.setHeapUsed s₂.heap s₂.slotsUsed).setVm hW'.alike, X.tail, State.WarmedH.trans X.warmed hW', X.limits, X.bytes, X.same.trans (hsame.setVm s.vm)⟩,
      ⟨g, mk, s₂, L, rfl, rfl, hqc, rfl, hL, rfl, rfl⟩, ?_⟩
    show Steps p.tables e below _ ((({ U with heap := s₂.heap, slotsUsed := s₂.slotsUsed } : State).setVm s₂.vm).setTop { g with pc := g.pc + len₂, stack := v.toList ++ g.stack })
    rw [← hs₂]
    exact hsteps
  · obtain ⟨e2, q2, q3, q4, q5, q6⟩ := id hsm
    have e3 : s₂ = ({ (U.calling g mk a).setFrames s₂.frames with heap := s₂.heap, slotsUsed := s₂.slotsUsed } : State).setVm s₂.vm := by
      have : s₂ = ({ s₂ with vm := (U.calling g mk a).vm } : State).setVm s₂.vm := rfl
      rw [e2] at this
      exact this
    have hf₂ : s₂.frames = .throwing q :: .java g :: U.frames.tail := hend
    have hW' : U.WarmedH s₂.vm := hW₂
    have hs₂ : s₂ = ((({ U with heap := s₂.heap, slotsUsed := s₂.slotsUsed } : State).setVm s₂.vm).setTop g).pushFrame (.throwing q) := by
      refine e3.trans ?_
      rw [hf₂, State.calling_eq h.top, State.setFrames_setFrames, State.pushFrame, State.frames_setTop _ hr', State.setTop_of_frames _ hr', State.setFrames_setFrames, hr]
      rfl
    have hsame : U.sameButNew ({ U with heap := s₂.heap, slotsUsed := s₂.slotsUsed } : State) L mc ms := by
      refine ⟨?_, q2, q3, q4, q5, q6⟩
      obtain ⟨t, ht, -⟩ := State.frames_cons hr
      show ({ U with heap := s₂.heap, slotsUsed := s₂.slotsUsed } : State) = { U.setFrames U.frames with heap := s₂.heap, slotsUsed := s₂.slotsUsed }
      rw [State.setFrames_self ht]
    subst hg
    refine Or.inr ⟨q, ⟨(({ U with heap := s₂.heap, slotsUsed := s₂.slotsUsed } : State).setVm s₂.vm), Ls ++ L, c0 + mc, s0 + ms⟩,
      ⟨X.admits, X.cas, X.clock, X.frames, X.room, X.hears, X.method, X.code, (X.here.setHeapUsed s₂.heap s₂.slotsUsed).setVm hW'.alike, X.tail, State.WarmedH.trans X.warmed hW', X.limits, X.bytes, X.same.trans (hsame.setVm s.vm)⟩,
      ⟨g, mk, s₂, L, E, ce, rfl, rfl, hx, hce, hcv, hcl, rfl, hL, rfl, rfl⟩, ?_⟩
    show Steps p.tables e below _ (((({ U with heap := s₂.heap, slotsUsed := s₂.slotsUsed } : State).setVm s₂.vm).setTop g).pushFrame (.throwing q))
    rw [← hs₂]
    exact hsteps
end Payer
section Calls
variable {p : Program} {l : Launch} {e : Env} {R : Room} {s : State} {m : MethodId} {args : Array Value} {below : List Frame} {meth : Method} {c : Code} {T : State} {locs : List Loc} {cells slots : Nat}
theorem vx_callV (X : Stand p l e R s m args below meth c T locs cells slots) (hexec : p.tables.exec = Jvm.exec) {own C : String} {index : Nat} {y : MethodName} {bytes : ByteArray} {maxL : Nat} {ret : Option FieldType}
    (hown : s.vm.findClass own = some m.cls) (hlink : (Cond.methodLink own index y).before args s = true) (hinst : (Cond.instanceMethod y).before args s = true) (hsel : (Cond.selects C y y).before args s = true)
    (hcode : (Cond.code y bytes maxL ret).before args s = true) (hy : y.cls ≠ "java/lang/invoke/MethodHandle" ∧ y.cls ≠ "java/lang/invoke/VarHandle")
    {W9 : Nat} {Pre : Pt → Array Value → Prop} {Post : Pt → Array Value → Option Value → Pt → Prop} {PostX : Pt → Array Value → Addr → Pt → Prop} (hK : vx_Back l R p e below s args y 3 W9 Pre Post PostX)
    {b : Addr} {cellB : Cell} (hcell : T.heap[b]? = some cellB) (hobj : cellB.vm.isStatics = false) (hcls : s.vm.findClass C = some cellB.cls)
    {g : JFrame} (hg : g.method = m) (hsize : g.locals.size = c.maxLocals) {argsL rest : List Value} (hlen : ∀ sig, parseMethodDescriptor y.desc = some sig → argsL.length = sig.parameters.length)
    (hstack : g.stack = argsL.reverse ++ .ref b :: rest) (hW : 2 * g.monitorRoom + (rest.map fun v => v.category).sum ≤ W9) (hdg : decode c.code g.pc = .ok (.invokevirtual index, 3))
    (hpre : ∀ vm₁, s.WarmedH vm₁ → Pre ⟨T.setVm vm₁, locs, cells, slots⟩ (Value.ref b :: argsL).toArray) :
    (∃ (v : Option Value) (vm₁ : Vm) (B : Pt), s.WarmedH vm₁ ∧ Stand p l e R s m args below meth c B.U B.locs B.cells B.slots ∧ Post ⟨T.setVm vm₁, locs, cells, slots⟩ (Value.ref b :: argsL).toArray v B ∧
      ∀ target, Steps p.tables e below (B.U.setTop { g with pc := g.pc + 3, stack := v.toList ++ rest }) target → Steps p.tables e below (T.setTop g) target) ∨
    (∃ (q : Addr) (vm₁ : Vm) (B : Pt), s.WarmedH vm₁ ∧ Stand p l e R s m args below meth c B.U B.locs B.cells B.slots ∧ PostX ⟨T.setVm vm₁, locs, cells, slots⟩ (Value.ref b :: argsL).toArray q B ∧
      Steps p.tables e below (T.setTop g) ((B.U.setTop { g with stack := rest }).pushFrame (.throwing q))) := by
  obtain ⟨mk, methM, hnamed, hmethM, hstM, habM⟩ := Cond.instanceMethod_spec hinst
  obtain ⟨methM', cM, hmethM', -, -, -, -, -, -, hsigM⟩ := Cond.code_spec hnamed hcode
  cases hmethM.symm.trans hmethM'
  obtain ⟨c2, r2, m2, q1, q2, q3, q4, kP, hkP, hkPi⟩ := Cond.selects_spec hsel
  cases hcls.symm.trans q1
  cases (State.methodFound?_of_named hnamed hy).symm.trans q2
  cases hnamed.symm.trans q3
  have hselP : selectMethod e.platform s.vm cellB.cls mk = .method mk := by rw [Launch.admits_selectMethod X.admits]; exact q4
  obtain ⟨vm₁, X₁, hstep₁⟩ := X.invokevirtual hexec hown hlink hnamed hmethM hstM hkP hkPi hy (a := b) (cell := cellB) hcell
    (fun z h => by rw [h] at hobj; cases hobj) hselP hmethM habM hkP hkPi (g := g) hg (argsL := argsL) (rest := rest) (hlen _ hsigM) hstack hdg
  rcases hK m meth c ⟨T.setVm vm₁, locs, cells, slots⟩ { g with stack := rest } (.invokevirtual index) mk (Value.ref b :: argsL).toArray X₁ hg hsize hdg hW (X₁.named hnamed) (hpre vm₁ X₁.warmed) with ⟨v, B, X', hpost, hsteps⟩ | ⟨q, B, X', hpost, hsteps⟩
  · exact Or.inl ⟨v, vm₁, B, X₁.warmed, X', hpost, fun target h => hstep₁ _ fun acts => by rw [doInvoke_state]; exact hsteps.trans h⟩
  · exact Or.inr ⟨q, vm₁, B, X₁.warmed, X', hpost, hstep₁ _ fun acts => by rw [doInvoke_state]; exact hsteps⟩
theorem vx_callS (X : Stand p l e R s m args below meth c T locs cells slots) (hexec : p.tables.exec = Jvm.exec) {own : String} {index : Nat} {y : MethodName} {bytes : ByteArray} {maxL : Nat} {ret : Option FieldType}
    (hown : s.vm.findClass own = some m.cls) (hlink : (Cond.methodLink own index y).before args s = true) (hstat : (Cond.static y).before args s = true) (hinit : (Cond.initialized y.cls).before args s = true)
    (hcode : (Cond.code y bytes maxL ret).before args s = true) (hy : y.cls ≠ "java/lang/invoke/MethodHandle" ∧ y.cls ≠ "java/lang/invoke/VarHandle")
    {W9 : Nat} {Pre : Pt → Array Value → Prop} {Post : Pt → Array Value → Option Value → Pt → Prop} {PostX : Pt → Array Value → Addr → Pt → Prop} (hK : vx_Back l R p e below s args y 3 W9 Pre Post PostX)
    {g : JFrame} (hg : g.method = m) (hsize : g.locals.size = c.maxLocals) {argsL rest : List Value} (hlen : ∀ sig, parseMethodDescriptor y.desc = some sig → argsL.length = sig.parameters.length)
    (hstack : g.stack = argsL.reverse ++ rest) (hW : 2 * g.monitorRoom + (rest.map fun v => v.category).sum ≤ W9) (hdg : decode c.code g.pc = .ok (.invokestatic index, 3))
    (hpre : ∀ vm₁, s.WarmedH vm₁ → Pre ⟨T.setVm vm₁, locs, cells, slots⟩ argsL.toArray) :
    (∃ (v : Option Value) (vm₁ : Vm) (B : Pt), s.WarmedH vm₁ ∧ Stand p l e R s m args below meth c B.U B.locs B.cells B.slots ∧ Post ⟨T.setVm vm₁, locs, cells, slots⟩ argsL.toArray v B ∧
      ∀ target, Steps p.tables e below (B.U.setTop { g with pc := g.pc + 3, stack := v.toList ++ rest }) target → Steps p.tables e below (T.setTop g) target) ∨
    (∃ (q : Addr) (vm₁ : Vm) (B : Pt), s.WarmedH vm₁ ∧ Stand p l e R s m args below meth c B.U B.locs B.cells B.slots ∧ PostX ⟨T.setVm vm₁, locs, cells, slots⟩ argsL.toArray q B ∧
      Steps p.tables e below (T.setTop g) ((B.U.setTop { g with stack := rest }).pushFrame (.throwing q))) := by
  obtain ⟨mk, hnamed⟩ := Cond.code_named hcode
  obtain ⟨methM, cM, hmethM, -, -, -, -, -, -, hsigM⟩ := Cond.code_spec hnamed hcode
  have hstatic : methM.isStatic = true := Cond.static_spec hnamed hmethM hstat
  obtain ⟨kP, hkP, -⟩ := className_of_methodNamed hnamed
  have hinitP : kP.init = .initialized := Cond.initialized_spec (findClass_of_methodNamed hnamed) hkP hinit
  obtain ⟨vm₁, X₁, hstep₁⟩ := X.invokestatic hexec hown hlink hnamed hmethM hstatic hkP hinitP hy (g := g) hg (argsL := argsL) (rest := rest) (hlen _ hsigM) hstack hdg
  rcases hK m meth c ⟨T.setVm vm₁, locs, cells, slots⟩ { g with stack := rest } (.invokestatic index) mk argsL.toArray X₁ hg hsize hdg hW (X₁.named hnamed) (hpre vm₁ X₁.warmed) with ⟨v, B, X', hpost, hsteps⟩ | ⟨q, B, X', hpost, hsteps⟩
  · exact Or.inl ⟨v, vm₁, B, X₁.warmed, X', hpost, fun target h => hstep₁ _ fun acts => by rw [doInvoke_state]; exact hsteps.trans h⟩
  · exact Or.inr ⟨q, vm₁, B, X₁.warmed, X', hpost, hstep₁ _ fun acts => by rw [doInvoke_state]; exact hsteps⟩
end Calls
theorem vx_cls {s : State} {T : State} {vm₁ : Vm} {E : String} {k : ClassId} (hW : s.WarmedH vm₁) (h : (T.setVm vm₁).vm.findClass E = some k) : s.vm.findClass E = some k := by
  have h1 : vm₁.findClass E = some k := h
  rw [hW.alike.findClass] at h1
  exact h1
/-- the method's frame g, with q thrown over it -/
def vx_W (p : Program) (l : Launch) (e : Env) (R : Room) (s : State) (m : MethodId) (args : Array Value) (below : List Frame) (meth : Method) (c : Code) (H : Heap) (locs : List Loc) (cells slots : Nat) (Q : State → Prop) (g : JFrame) (q : Addr) : Prop :=
  ∀ T : State, T.heap = H → Stand p l e R s m args below meth c T locs cells slots → ∃ t, Steps p.tables e below ((T.setTop g).pushFrame (.throwing q)) t ∧ Q t
def vx_Run (p : Program) (l : Launch) (e : Env) (R : Room) (s : State) (m : MethodId) (args : Array Value) (below : List Frame) (meth : Method) (c : Code) (H : Heap) (locs : List Loc) (cells slots mc ms : Nat) (g : JFrame) (rest : List Value) (Qa : State → Outcome → State → Prop) (XC : String → State → State → Prop) (free : Addr → Prop) : Prop :=
  ∀ T : State, T.heap = H → Stand p l e R s m args below meth c T locs cells slots →
    (∃ (v : Option Value) (st₀ t T' : State) (L : List Loc), st₀.heap = H ∧ Stand p l e R s m args below meth c T' (locs ++ L) (cells + mc) (slots + ms) ∧ (∀ q ∈ L, free q.base) ∧ T'.heap = t.heap ∧ T'.vm = t.vm ∧ Qa st₀ (.returned v) t ∧
      Goes p e below T g T' { g with pc := g.pc + 3, stack := v.toList ++ rest }) ∨
    (∃ (q : Addr) (st₀ t T' : State) (L : List Loc) (E : String) (ce : Cell), st₀.heap = H ∧ Stand p l e R s m args below meth c T' (locs ++ L) (cells + mc) (slots + ms) ∧ (∀ z ∈ L, free z.base) ∧ T'.heap = t.heap ∧ T'.vm = t.vm ∧ XC E st₀ t ∧ t.heap[q]? = some ce ∧ ce.vm = .none ∧ s.vm.findClass E = some ce.cls ∧
      Steps p.tables e below (T.setTop g) ((T'.setTop { g with stack := rest }).pushFrame (.throwing q)))
def vx_X {S : Type} (px : S → Prop) (B : String → S → State → Prop) (A : Nat → Prop) : String → State → State → Prop := fun E st t => ∃ u : S, px u ∧ B E u t ∧ va_F A st t
section Runs
variable {p : Program} {l : Launch} {e : Env} {R : Room} {s : State} {m : MethodId} {args : Array Value} {below : List Frame} {meth : Method} {c : Code} {H : Heap} {locs : List Loc} {cells slots : Nat}
variable {y : MethodName} {bytes cc : ByteArray} {maxL nL mc ms n index : Nat} {ret : Option FieldType} {ws : List Cond} {rm : Room} {Pc : Array Value → State → Prop} {Qc : Array Value → State → Outcome → State → Prop} {XC : String → State → State → Prop} {free : Addr → Prop} {Ts : List Cond} {own C : String} {b : Addr} {As rest : List Value} {g : JFrame}
theorem vx_callBack (cb : CallB R s args own index y bytes maxL ret ws rm mc ms n) (hM : vx_Met l y ws rm Pc Qc XC mc ms free) (hbl : FrameBlind Pc) : vx_Back l R p e below s args y 3 8 (PreOf R mc ms Pc) (PostOf Qc mc ms free) (vx_Post XC mc ms free) := by
  obtain ⟨hrc, hrs, hfr, hlo, hws, hcw, -, hini, -⟩ := cb
  exact vx_back (bytes := bytes) (maxL := maxL) (ret := ret) hM hbl hrc hrs hfr hlo hws hcw (fun a' U hW => word_at hW (Or.inl (by first | rfl | simp [Cond.onTables, Cond.keeps, Cond.steady])) hini)
theorem vx_runV (S : CallFix p m c cc nL s args Ts own) (hM : vx_Met l y ws rm Pc Qc XC mc ms free) (cw : CallW R s args own C index y bytes maxL ret ws rm mc ms n) (hp : PreV s H C b Pc As)
    (hg : g.method = m) (hn : As.length = n) (hsize : g.locals.size = nL) (hstack : g.stack = As.reverse ++ .ref b :: rest) (hW : 2 * g.monitorRoom + (rest.map fun v => v.category).sum ≤ 8) (hdg : decode cc g.pc = .ok (.invokevirtual index, 3)) (hf : cells + mc ≤ R.cells ∧ slots + ms ≤ R.slots) :
    vx_Run p l e R s m args below meth c H locs cells slots mc ms g rest (Qc (Value.ref b :: As).toArray) XC free := by
  have hK : vx_Back l R p e below s args y 3 8 (PreOf R mc ms Pc) (PostOf Qc mc ms free) (vx_Post XC mc ms free) := vx_callBack cw.1 hM hp.1
  obtain ⟨⟨-, -, -, -, -, -, hcode, -, hy, hlen, hl⟩, hin, hse⟩ := cw
  obtain ⟨hx, hb, hml, ho, -⟩ := S
  obtain ⟨-, ⟨cellB, hcB, hoB, hclB⟩, hPc⟩ := hp
  intro T hT X
  rcases vx_callV X hx (C := C) (bytes := bytes) (maxL := maxL) (ret := ret) ho hl hin hse hcode hy hK (by rw [hT]; exact hcB) hoB hclB hg (hsize.trans hml.symm) (argsL := As) (rest := rest) (fun sig h => hn.trans (hlen sig h)) hstack hW (by rw [hb]; exact hdg)
    (fun vm₁ hW₁ => ⟨hf.1, hf.2, hPc (T.setVm vm₁) hT hW₁⟩) with ⟨v, vm₁, ⟨U', l2, c2, s2⟩, hW₁, X', ⟨g', mk, t, L, e1, e2, hq, h1, hL, h2, h3⟩, st⟩ | ⟨q, vm₁, ⟨U', l2, c2, s2⟩, hW₁, X', ⟨g', mk, t, L, E, ce, e1, e2, hq, hce, hcv, hcl, h1, hL, h2, h3⟩, st⟩
  · dsimp only [Pt.U, Pt.locs, Pt.cells, Pt.slots] at X' e1 e2 h1 h2 h3 st
    subst h1; subst h2; subst h3
    exact Or.inl ⟨v, (T.setVm vm₁).calling g' mk (Value.ref b :: As).toArray, t, U', L, hT, X', hL, e1, e2, hq, st⟩
  · dsimp only [Pt.U, Pt.locs, Pt.cells, Pt.slots] at X' e1 e2 h1 h2 h3 st hcl
    subst h1; subst h2; subst h3
    exact Or.inr ⟨q, (T.setVm vm₁).calling g' mk (Value.ref b :: As).toArray, t, U', L, E, ce, hT, X', hL, e1, e2, hq, hce, hcv, vx_cls hW₁ hcl, st⟩
theorem vx_runS (S : CallFix p m c cc nL s args Ts own) (hM : vx_Met l y ws rm Pc Qc XC mc ms free) (cw : CallB R s args own index y bytes maxL ret ws rm mc ms n ∧ (Cond.static y).before args s = true) (hp : PreS s H Pc As)
    (hg : g.method = m) (hn : As.length = n) (hsize : g.locals.size = nL) (hstack : g.stack = As.reverse ++ rest) (hW : 2 * g.monitorRoom + (rest.map fun v => v.category).sum ≤ 8) (hdg : decode cc g.pc = .ok (.invokestatic index, 3)) (hf : cells + mc ≤ R.cells ∧ slots + ms ≤ R.slots) :
    vx_Run p l e R s m args below meth c H locs cells slots mc ms g rest (Qc As.toArray) XC free := by
  have hK : vx_Back l R p e below s args y 3 8 (PreOf R mc ms Pc) (PostOf Qc mc ms free) (vx_Post XC mc ms free) := vx_callBack cw.1 hM hp.1
  obtain ⟨⟨-, -, -, -, -, -, hcode, hini, hy, hlen, hl⟩, hstt⟩ := cw
  obtain ⟨hx, hb, hml, ho, -⟩ := S
  intro T hT X
  rcases vx_callS X hx (bytes := bytes) (maxL := maxL) (ret := ret) ho hl hstt hini hcode hy hK hg (hsize.trans hml.symm) (argsL := As) (rest := rest) (fun sig h => hn.trans (hlen sig h)) hstack hW (by rw [hb]; exact hdg)
    (fun vm₁ hW₁ => ⟨hf.1, hf.2, hp.2 (T.setVm vm₁) hT hW₁⟩) with ⟨v, vm₁, ⟨U', l2, c2, s2⟩, hW₁, X', ⟨g', mk, t, L, e1, e2, hq, h1, hL, h2, h3⟩, st⟩ | ⟨q, vm₁, ⟨U', l2, c2, s2⟩, hW₁, X', ⟨g', mk, t, L, E, ce, e1, e2, hq, hce, hcv, hcl, h1, hL, h2, h3⟩, st⟩
  · dsimp only [Pt.U, Pt.locs, Pt.cells, Pt.slots] at X' e1 e2 h1 h2 h3 st
    subst h1; subst h2; subst h3
    exact Or.inl ⟨v, (T.setVm vm₁).calling g' mk As.toArray, t, U', L, hT, X', hL, e1, e2, hq, st⟩
  · dsimp only [Pt.U, Pt.locs, Pt.cells, Pt.slots] at X' e1 e2 h1 h2 h3 st hcl
    subst h1; subst h2; subst h3
    exact Or.inr ⟨q, (T.setVm vm₁).calling g' mk As.toArray, t, U', L, E, ce, hT, X', hL, e1, e2, hq, hce, hcv, vx_cls hW₁ hcl, st⟩
end Runs
section Rows
variable {p : Program} {l : Launch} {e : Env} {R : Room} {s : State} {m : MethodId} {args : Array Value} {below : List Frame} {meth : Method} {c : Code} {H : Heap} {locs : List Loc} {cells slots : Nat} {Q : State → Prop}
variable {mc ms : Nat} {free : Addr → Prop} {A0 A1 : Nat → Prop} {H0 : Heap} {a : Array Value} {pc : Nat} {ls : Array Slot} {st0 rest : List Value}
theorem vx_keep {st₀ t T' : State} {L : List Loc} (h0 : st₀.heap = H) (e1 : T'.heap = t.heap) (hS : va_S A0 H0 H locs) (hA : ∀ q, q < H.size → A1 q → A0 q) (hf : ∀ q, free q → A0 q) (hL : ∀ q ∈ L, free q.base) (hF : va_F A1 st₀ t) :
    H.size ≤ T'.heap.size ∧ (∀ q : Nat, q < H.size → ¬ A1 q → T'.heap[q]? = H[q]?) ∧ va_S A0 H0 T'.heap (locs ++ L) := by
  obtain ⟨hz, hk⟩ := hF
  rw [h0] at hz hk
  exact ⟨by rw [e1]; exact hz, fun q h1 h2 => by rw [e1]; exact hk q h1 h2,
    ⟨Nat.le_trans hS.1 (by rw [e1]; exact hz), fun q h1 h2 => by rw [e1, hk q (Nat.lt_of_lt_of_le h1 hS.1) (fun z => h2 (hA q (Nat.lt_of_lt_of_le h1 hS.1) z))]; exact hS.2.1 q h1 h2, fun q hq => by
      rcases List.mem_append.mp hq with h | h
      · exact hS.2.2 q h
      · exact hf _ (hL q h)⟩⟩
theorem vx_calli {S SX : Type} {post : Int32 → S → Prop} {px : SX → Prop} {B : S → State → Prop} {BX : String → SX → State → Prop} {AX : Nat → Prop} (hr : vx_Run p l e R s m args below meth c H locs cells slots mc ms (F0 m pc ls st0) rest (va_Qi post B A1 a) (vx_X px BX AX) free) (hS : va_S A0 H0 H locs) (hA : ∀ q, q < H.size → A1 q → A0 q) (hf : ∀ q, free q → A0 q) (hAX : ∀ q, q < H.size → AX q → A0 q)
    (kx : ∀ (E : String) (ce : Cell) (q9 : Addr) (u : SX) (t : State) (H1 : Heap) (locs1 : List Loc), t.heap = H1 → s.vm.Alike t.vm → px u → BX E u t → H.size ≤ H1.size → (∀ q : Nat, q < H.size → ¬ AX q → H1[q]? = H[q]?) → va_S A0 H0 H1 locs1 → H1[q9]? = some ce → ce.vm = .none → s.vm.findClass E = some ce.cls → vx_W p l e R s m args below meth c H1 locs1 (cells + mc) (slots + ms) Q (F0 m pc ls rest) q9)
    (kk : ∀ (r : Int32) (u : S) (t : State) (H1 : Heap) (locs1 : List Loc), t.heap = H1 → s.vm.Alike t.vm → post r u → B u t → H.size ≤ H1.size → (∀ q : Nat, q < H.size → ¬ A1 q → H1[q]? = H[q]?) → va_S A0 H0 H1 locs1 → W p l e R s m args below meth c H1 locs1 (cells + mc) (slots + ms) Q (F0 m (pc + 3) ls (.int r :: rest))) : W p l e R s m args below meth c H locs cells slots Q (F0 m pc ls st0) := by
  intro T hT X
  rcases hr T hT X with ⟨v, st₀, t, T', L, h0, X', hL, e1, e2, ⟨⟨r, u, hv, hp, hb⟩, hF⟩, st⟩ | ⟨q, st₀, t, T', L, E, ce, h0, X', hL, e1, e2, ⟨u, hp, hb, hF⟩, hce, hcv, hcl, st⟩
  · cases hv
    obtain ⟨k1, k2, k3⟩ := vx_keep h0 e1 hS hA hf hL hF
    obtain ⟨t2, a1, b1⟩ := kk r u t T'.heap (locs ++ L) e1.symm (by rw [← e2]; exact X'.warmed.alike) hp hb k1 k2 k3 T' rfl X'
    exact ⟨t2, st t2 a1, b1⟩
  · obtain ⟨k1, k2, k3⟩ := vx_keep h0 e1 hS hAX hf hL hF
    obtain ⟨t2, a1, b1⟩ := kx E ce q u t T'.heap (locs ++ L) e1.symm (by rw [← e2]; exact X'.warmed.alike) hp hb k1 k2 k3 (by rw [e1]; exact hce) hcv hcl T' rfl X'
    exact ⟨t2, st.trans a1, b1⟩
theorem vx_calll {S SX : Type} {post : Int64 → S → Prop} {px : SX → Prop} {B : S → State → Prop} {BX : String → SX → State → Prop} {AX : Nat → Prop} (hr : vx_Run p l e R s m args below meth c H locs cells slots mc ms (F0 m pc ls st0) rest (va_Ql post B A1 a) (vx_X px BX AX) free) (hS : va_S A0 H0 H locs) (hA : ∀ q, q < H.size → A1 q → A0 q) (hf : ∀ q, free q → A0 q) (hAX : ∀ q, q < H.size → AX q → A0 q)
    (kx : ∀ (E : String) (ce : Cell) (q9 : Addr) (u : SX) (t : State) (H1 : Heap) (locs1 : List Loc), t.heap = H1 → s.vm.Alike t.vm → px u → BX E u t → H.size ≤ H1.size → (∀ q : Nat, q < H.size → ¬ AX q → H1[q]? = H[q]?) → va_S A0 H0 H1 locs1 → H1[q9]? = some ce → ce.vm = .none → s.vm.findClass E = some ce.cls → vx_W p l e R s m args below meth c H1 locs1 (cells + mc) (slots + ms) Q (F0 m pc ls rest) q9)
    (kk : ∀ (r : Int64) (u : S) (t : State) (H1 : Heap) (locs1 : List Loc), t.heap = H1 → s.vm.Alike t.vm → post r u → B u t → H.size ≤ H1.size → (∀ q : Nat, q < H.size → ¬ A1 q → H1[q]? = H[q]?) → va_S A0 H0 H1 locs1 → W p l e R s m args below meth c H1 locs1 (cells + mc) (slots + ms) Q (F0 m (pc + 3) ls (.long r :: rest))) : W p l e R s m args below meth c H locs cells slots Q (F0 m pc ls st0) := by
  intro T hT X
  rcases hr T hT X with ⟨v, st₀, t, T', L, h0, X', hL, e1, e2, ⟨⟨r, u, hv, hp, hb⟩, hF⟩, st⟩ | ⟨q, st₀, t, T', L, E, ce, h0, X', hL, e1, e2, ⟨u, hp, hb, hF⟩, hce, hcv, hcl, st⟩
  · cases hv
    obtain ⟨k1, k2, k3⟩ := vx_keep h0 e1 hS hA hf hL hF
    obtain ⟨t2, a1, b1⟩ := kk r u t T'.heap (locs ++ L) e1.symm (by rw [← e2]; exact X'.warmed.alike) hp hb k1 k2 k3 T' rfl X'
    exact ⟨t2, st t2 a1, b1⟩
  · obtain ⟨k1, k2, k3⟩ := vx_keep h0 e1 hS hAX hf hL hF
    obtain ⟨t2, a1, b1⟩ := kx E ce q u t T'.heap (locs ++ L) e1.symm (by rw [← e2]; exact X'.warmed.alike) hp hb k1 k2 k3 (by rw [e1]; exact hce) hcv hcl T' rfl X'
    exact ⟨t2, st.trans a1, b1⟩
theorem vx_callf {S SX : Type} {post : UInt32 → S → Prop} {px : SX → Prop} {B : S → State → Prop} {BX : String → SX → State → Prop} {AX : Nat → Prop} (hr : vx_Run p l e R s m args below meth c H locs cells slots mc ms (F0 m pc ls st0) rest (va_Qf post B A1 a) (vx_X px BX AX) free) (hS : va_S A0 H0 H locs) (hA : ∀ q, q < H.size → A1 q → A0 q) (hf : ∀ q, free q → A0 q) (hAX : ∀ q, q < H.size → AX q → A0 q)
    (kx : ∀ (E : String) (ce : Cell) (q9 : Addr) (u : SX) (t : State) (H1 : Heap) (locs1 : List Loc), t.heap = H1 → s.vm.Alike t.vm → px u → BX E u t → H.size ≤ H1.size → (∀ q : Nat, q < H.size → ¬ AX q → H1[q]? = H[q]?) → va_S A0 H0 H1 locs1 → H1[q9]? = some ce → ce.vm = .none → s.vm.findClass E = some ce.cls → vx_W p l e R s m args below meth c H1 locs1 (cells + mc) (slots + ms) Q (F0 m pc ls rest) q9)
    (kk : ∀ (r : UInt32) (u : S) (t : State) (H1 : Heap) (locs1 : List Loc), t.heap = H1 → s.vm.Alike t.vm → post r u → B u t → H.size ≤ H1.size → (∀ q : Nat, q < H.size → ¬ A1 q → H1[q]? = H[q]?) → va_S A0 H0 H1 locs1 → W p l e R s m args below meth c H1 locs1 (cells + mc) (slots + ms) Q (F0 m (pc + 3) ls (.float r :: rest))) : W p l e R s m args below meth c H locs cells slots Q (F0 m pc ls st0) := by
  intro T hT X
  rcases hr T hT X with ⟨v, st₀, t, T', L, h0, X', hL, e1, e2, ⟨⟨r, u, hv, hp, hb⟩, hF⟩, st⟩ | ⟨q, st₀, t, T', L, E, ce, h0, X', hL, e1, e2, ⟨u, hp, hb, hF⟩, hce, hcv, hcl, st⟩
  · cases hv
    obtain ⟨k1, k2, k3⟩ := vx_keep h0 e1 hS hA hf hL hF
    obtain ⟨t2, a1, b1⟩ := kk r u t T'.heap (locs ++ L) e1.symm (by rw [← e2]; exact X'.warmed.alike) hp hb k1 k2 k3 T' rfl X'
    exact ⟨t2, st t2 a1, b1⟩
  · obtain ⟨k1, k2, k3⟩ := vx_keep h0 e1 hS hAX hf hL hF
    obtain ⟨t2, a1, b1⟩ := kx E ce q u t T'.heap (locs ++ L) e1.symm (by rw [← e2]; exact X'.warmed.alike) hp hb k1 k2 k3 (by rw [e1]; exact hce) hcv hcl T' rfl X'
    exact ⟨t2, st.trans a1, b1⟩
theorem vx_calld {S SX : Type} {post : UInt64 → S → Prop} {px : SX → Prop} {B : S → State → Prop} {BX : String → SX → State → Prop} {AX : Nat → Prop} (hr : vx_Run p l e R s m args below meth c H locs cells slots mc ms (F0 m pc ls st0) rest (va_Qd post B A1 a) (vx_X px BX AX) free) (hS : va_S A0 H0 H locs) (hA : ∀ q, q < H.size → A1 q → A0 q) (hf : ∀ q, free q → A0 q) (hAX : ∀ q, q < H.size → AX q → A0 q)
    (kx : ∀ (E : String) (ce : Cell) (q9 : Addr) (u : SX) (t : State) (H1 : Heap) (locs1 : List Loc), t.heap = H1 → s.vm.Alike t.vm → px u → BX E u t → H.size ≤ H1.size → (∀ q : Nat, q < H.size → ¬ AX q → H1[q]? = H[q]?) → va_S A0 H0 H1 locs1 → H1[q9]? = some ce → ce.vm = .none → s.vm.findClass E = some ce.cls → vx_W p l e R s m args below meth c H1 locs1 (cells + mc) (slots + ms) Q (F0 m pc ls rest) q9)
    (kk : ∀ (r : UInt64) (u : S) (t : State) (H1 : Heap) (locs1 : List Loc), t.heap = H1 → s.vm.Alike t.vm → post r u → B u t → H.size ≤ H1.size → (∀ q : Nat, q < H.size → ¬ A1 q → H1[q]? = H[q]?) → va_S A0 H0 H1 locs1 → W p l e R s m args below meth c H1 locs1 (cells + mc) (slots + ms) Q (F0 m (pc + 3) ls (.double r :: rest))) : W p l e R s m args below meth c H locs cells slots Q (F0 m pc ls st0) := by
  intro T hT X
  rcases hr T hT X with ⟨v, st₀, t, T', L, h0, X', hL, e1, e2, ⟨⟨r, u, hv, hp, hb⟩, hF⟩, st⟩ | ⟨q, st₀, t, T', L, E, ce, h0, X', hL, e1, e2, ⟨u, hp, hb, hF⟩, hce, hcv, hcl, st⟩
  · cases hv
    obtain ⟨k1, k2, k3⟩ := vx_keep h0 e1 hS hA hf hL hF
    obtain ⟨t2, a1, b1⟩ := kk r u t T'.heap (locs ++ L) e1.symm (by rw [← e2]; exact X'.warmed.alike) hp hb k1 k2 k3 T' rfl X'
    exact ⟨t2, st t2 a1, b1⟩
  · obtain ⟨k1, k2, k3⟩ := vx_keep h0 e1 hS hAX hf hL hF
    obtain ⟨t2, a1, b1⟩ := kx E ce q u t T'.heap (locs ++ L) e1.symm (by rw [← e2]; exact X'.warmed.alike) hp hb k1 k2 k3 (by rw [e1]; exact hce) hcv hcl T' rfl X'
    exact ⟨t2, st.trans a1, b1⟩
theorem vx_callv {S SX : Type} {post : S → Prop} {px : SX → Prop} {B : S → State → Prop} {BX : String → SX → State → Prop} {AX : Nat → Prop} (hr : vx_Run p l e R s m args below meth c H locs cells slots mc ms (F0 m pc ls st0) rest (va_Qv post B A1 a) (vx_X px BX AX) free) (hS : va_S A0 H0 H locs) (hA : ∀ q, q < H.size → A1 q → A0 q) (hf : ∀ q, free q → A0 q) (hAX : ∀ q, q < H.size → AX q → A0 q)
    (kx : ∀ (E : String) (ce : Cell) (q9 : Addr) (u : SX) (t : State) (H1 : Heap) (locs1 : List Loc), t.heap = H1 → s.vm.Alike t.vm → px u → BX E u t → H.size ≤ H1.size → (∀ q : Nat, q < H.size → ¬ AX q → H1[q]? = H[q]?) → va_S A0 H0 H1 locs1 → H1[q9]? = some ce → ce.vm = .none → s.vm.findClass E = some ce.cls → vx_W p l e R s m args below meth c H1 locs1 (cells + mc) (slots + ms) Q (F0 m pc ls rest) q9)
    (kk : ∀ (u : S) (t : State) (H1 : Heap) (locs1 : List Loc), t.heap = H1 → s.vm.Alike t.vm → post u → B u t → H.size ≤ H1.size → (∀ q : Nat, q < H.size → ¬ A1 q → H1[q]? = H[q]?) → va_S A0 H0 H1 locs1 → W p l e R s m args below meth c H1 locs1 (cells + mc) (slots + ms) Q (F0 m (pc + 3) ls (rest))) : W p l e R s m args below meth c H locs cells slots Q (F0 m pc ls st0) := by
  intro T hT X
  rcases hr T hT X with ⟨v, st₀, t, T', L, h0, X', hL, e1, e2, ⟨⟨u, hv, hp, hb⟩, hF⟩, st⟩ | ⟨q, st₀, t, T', L, E, ce, h0, X', hL, e1, e2, ⟨u, hp, hb, hF⟩, hce, hcv, hcl, st⟩
  · cases hv
    obtain ⟨k1, k2, k3⟩ := vx_keep h0 e1 hS hA hf hL hF
    obtain ⟨t2, a1, b1⟩ := kk u t T'.heap (locs ++ L) e1.symm (by rw [← e2]; exact X'.warmed.alike) hp hb k1 k2 k3 T' rfl X'
    exact ⟨t2, st t2 a1, b1⟩
  · obtain ⟨k1, k2, k3⟩ := vx_keep h0 e1 hS hAX hf hL hF
    obtain ⟨t2, a1, b1⟩ := kx E ce q u t T'.heap (locs ++ L) e1.symm (by rw [← e2]; exact X'.warmed.alike) hp hb k1 k2 k3 (by rw [e1]; exact hce) hcv hcl T' rfl X'
    exact ⟨t2, st.trans a1, b1⟩
/-- caught by the row x of this method's table; the rows ahead don't take it -/
theorem vx_catch {own name : String} {E : String} {ce : Cell} {q : Addr} (hown : s.vm.findClass own = some m.cls) (pre : List ExceptionTableEntry) (x : ExceptionTableEntry) (suf : List ExceptionTableEntry) (hsplit : c.exceptionTable.toList = pre ++ x :: suf)
    (hpass : ∀ z ∈ pre, covers z pc = false ∨ (z.catchType ≠ 0 ∧ ∃ nm : String, (Cond.classLink own z.catchType nm).before args s = true ∧ va_Nc E nm s)) (hx : covers x pc = true) (h0 : x.catchType ≠ 0)
    (hlink : (Cond.classLink own x.catchType name).before args s = true) (hcast : (Cond.castable E name).before args s = true) (hcell : H[q]? = some ce) (hv : ce.vm = .none) (hcl : s.vm.findClass E = some ce.cls)
    (kk : W p l e R s m args below meth c H locs cells slots Q (F0 m x.handlerPc ls [.ref q])) : vx_W p l e R s m args below meth c H locs cells slots Q (F0 m pc ls rest) q := by
  intro T hT X
  have hpl : e.platform.magicAccessors = ({} : Platform).magicAccessors := by rw [X.admits.platform]
  obtain ⟨c3, c4, hc3, hc4, hasg⟩ := Cond.castable_spec hcast
  cases Option.some.inj (hc3.symm.trans hcl)
  obtain ⟨c5, hc5, hcl5⟩ := Cond.classLink_spec hown hlink e.platform hpl
  cases Option.some.inj (hc4.symm.trans hc5)
  obtain ⟨vm', X', st⟩ := X.thenCaughtThrough q (g := F0 m pc ls rest) rfl (Steps.refl _) (by rw [hT]; exact hcell) (by rw [hv]; rfl) (by obtain ⟨k9, h9, -⟩ := Vm.findClass_spec hcl; exact ⟨k9, h9⟩) pre x suf hsplit
    (fun z hz => by
      rcases hpass z hz with h | ⟨hz0, nm, hl1, hn1⟩
      · exact Or.inl h
      · obtain ⟨c6, hc6, hcl6⟩ := Cond.classLink_spec hown hl1 e.platform hpl
        obtain ⟨a8, b8, h1, h2, h3⟩ := hn1
        cases Option.some.inj (h1.symm.trans hcl)
        cases Option.some.inj (h2.symm.trans hc6)
        exact Or.inr ⟨hz0, _, hcl6, h3⟩) hx (Or.inr ⟨h0, c4, hcl5, hasg⟩)
  obtain ⟨t, a1, b1⟩ := kk (T.setVm vm') hT X'
  exact ⟨t, st.trans a1, b1⟩
end Rows
section Ends
variable {p : Program} {l : Launch} {e : Env} {R : Room} {s : State} {m : MethodId} {args : Array Value} {below : List Frame} {meth : Method} {c : Code} {H : Heap} {locs : List Loc} {cells slots : Nat} {Q : State → Prop}
variable {mc ms : Nat} {free : Addr → Prop} {A0 A1 : Nat → Prop} {H0 : Heap} {a : Array Value} {ls : Array Slot} {st0 rest : List Value}
variable {Qc : Array Value → State → Outcome → State → Prop} {XC : String → State → State → Prop}
/-- what a body that may throw owes at its end -/
def vx_MQ (below : List Frame) (Qc : Array Value → State → Outcome → State → Prop) (XC : String → State → State → Prop) (a : Array Value) (s : State) (mc ms : Nat) (free : Addr → Prop) : State → Prop := fun t =>
  ∃ o, t.status = .running ∧ Ended t below o ∧ vx_Q Qc XC mc ms free a s o t
theorem vx_ret {g : JFrame} {mc ms : Nat} (k : W p l e R s m args below meth c H locs cells slots (MQ below Qc args s mc ms free) g) : W p l e R s m args below meth c H locs cells slots (vx_MQ below Qc XC args s mc ms free) g := by
  intro T hT X
  obtain ⟨t, a1, o, b1, b2, b3, b4⟩ := k T hT X
  exact ⟨t, a1, o, b1, b2, Or.inl ⟨b3, b4⟩⟩
/-- not caught here: it goes on to the caller -/
theorem vx_widen {g : JFrame} {q : Addr} {k n : Nat} (h1 : cells ≤ k) (h2 : slots ≤ n) (kk : vx_W p l e R s m args below meth c H locs k n Q g q) : vx_W p l e R s m args below meth c H locs cells slots Q g q := fun T hT X => kk T hT (stand_widen X h1 h2)
theorem vx_out {pc : Nat} {E : String} {ce : Cell} {q : Addr} {mc ms : Nat} (hout : ∀ x ∈ c.exceptionTable.toList, covers x pc = false) (hlocks : meth.locks = false) (hcell : H[q]? = some ce) (hv : ce.vm = .none) (hcl : s.vm.findClass E = some ce.cls)
    (hx : ∀ t : State, t.heap = H → s.vm.Alike t.vm → XC E s t) (hf : ∀ z ∈ locs, free z.base) (hc : cells ≤ mc) (hs : slots ≤ ms) :
    vx_W p l e R s m args below meth c H locs cells slots (vx_MQ below Qc XC args s mc ms free) (F0 m pc ls rest) q := by
  intro T hT X
  obtain ⟨st1, hrun, hend, hW, hsm⟩ := X.leaveThrown q (g := F0 m pc ls rest) rfl rfl rfl hout hlocks
  have hcell9 : (T.setFrames (.throwing q :: below)).heap[q]? = some ce := by
    show T.heap[q]? = some ce
    rw [hT]; exact hcell
  exact ⟨_, st1, .threw q, hrun, hend, Or.inr ⟨q, rfl, E, ce, locs, hx _ hT hW.alike, hcell9, hv, hcl, hW, hsm.mono hc hs, hf⟩⟩
theorem vx_frame {U : State} {k n : Nat} (h : s.sameButNew ({ U with vm := s.vm } : State) locs k n) : s.heap.size ≤ U.heap.size ∧ ∀ q : Nat, q < s.heap.size → (∀ z ∈ locs, z.base ≠ q) → U.heap[q]? = s.heap[q]? := by
  obtain ⟨-, h2, -, -, -, h6⟩ := h
  refine ⟨h2, fun q hq hz => ?_⟩
  obtain ⟨c9, e1, e2, e3, e4⟩ := h6 q _ (Array.getElem?_eq_getElem hq)
  have hs : c9.slots = (s.heap[q]).slots := Array.ext_getElem? fun i => e4 i fun hm => hz _ hm rfl
  have h9 : c9 = s.heap[q] := by
    rw [hs] at e2
    exact e2
  have e5 : U.heap[q]? = some c9 := e1
  rw [e5, h9, Array.getElem?_eq_getElem hq]
/-- the words of a throw but the four that speak of the heap -/
def vx_no (w : Cond) : Bool := decide (w ≠ .isRef (.static Bundle.tN "UNASSIGNED_STACK" Bundle.steD)) && decide (w ≠ .isRef (.static Bundle.tN "SUPPRESSED_SENTINEL" Bundle.listD)) && decide (w ≠ .laysStatic Bundle.tN "UNASSIGNED_STACK" Bundle.steD) && decide (w ≠ .laysStatic Bundle.tN "SUPPRESSED_SENTINEL" Bundle.listD)
def vx_at0 (own : String) (ic : Nat) (X : String) (names : List String) : List Cond := (Bundle.ownAtoms0 own ic X names).filter vx_no
def vx_atS (own : String) (ic : Nat) (X : String) (names : List String) : List Cond := (Bundle.ownAtoms own ic X names).filter vx_no
/-- a word that the tables alone decide, or a good one -/
def vx_ot (w : Cond) : Bool := w.onTables || goodWord w
theorem vx_ot_at {args a' : Array Value} {s U : State} {w : Cond} (hW : s.WarmedH U.vm) (hvm : s.vm = U.vm) (hg : vx_ot w = true) (h : w.before args s = true) : w.before a' U = true := by
  simp only [vx_ot, Bool.or_eq_true] at hg
  rcases hg with hg | hg
  · exact va_tabs hg hvm h
  · exact word_at hW (good_of_word hg) h
/-- a list's words: the good ones out of the method's own list, the others by premises of their own -/
theorem vx_hat {args : Array Value} {s : State} {L B : List Cond} (h1 : ∀ w ∈ L.filter goodWord, w.before args s = true) (h2 : ∀ w ∈ L.filter (fun w => !goodWord w), w ∈ B) (h3 : ∀ w ∈ B, w.before args s = true) : ∀ w ∈ L, w.before args s = true := by
  intro w hw
  by_cases g : goodWord w = true
  · exact h1 w (List.mem_filter.mpr ⟨hw, g⟩)
  · refine h3 w (h2 w (List.mem_filter.mpr ⟨hw, ?_⟩))
    show (!goodWord w) = true
    cases hgw : goodWord w
    · rfl
    · exact absurd hgw g
theorem vx_c {args : Array Value} {s : State} {w : Cond} {B : List Cond} (h : w.before args s = true) (t : ∀ w ∈ B, w.before args s = true) : ∀ w' ∈ w :: B, w'.before args s = true := fun w' h' => (List.mem_cons.mp h').elim (fun e => by rw [e]; exact h) (t w')
theorem vx_n {args : Array Value} {s : State} : ∀ w ∈ ([] : List Cond), w.before args s = true := fun _ h => nomatch h
theorem vx_own {args : Array Value} {s : State} {L : List Cond} (h1 : ∀ w ∈ L.filter vx_no, w.before args s = true)
    (hU : (Cond.isRef (.static Bundle.tN "UNASSIGNED_STACK" Bundle.steD)).before args s = true) (hN : (Cond.isRef (.static Bundle.tN "SUPPRESSED_SENTINEL" Bundle.listD)).before args s = true)
    (lU : (Cond.laysStatic Bundle.tN "UNASSIGNED_STACK" Bundle.steD).before args s = true) (lN : (Cond.laysStatic Bundle.tN "SUPPRESSED_SENTINEL" Bundle.listD).before args s = true) : ∀ w ∈ L, w.before args s = true := by
  intro w hw
  by_cases e1 : w = .isRef (.static Bundle.tN "UNASSIGNED_STACK" Bundle.steD)
  · rw [e1]; exact hU
  · by_cases e2 : w = .isRef (.static Bundle.tN "SUPPRESSED_SENTINEL" Bundle.listD)
    · rw [e2]; exact hN
    · by_cases e3 : w = .laysStatic Bundle.tN "UNASSIGNED_STACK" Bundle.steD
      · rw [e3]; exact lU
      · by_cases e4 : w = .laysStatic Bundle.tN "SUPPRESSED_SENTINEL" Bundle.listD
        · rw [e4]; exact lN
        · exact h1 w (List.mem_filter.mpr ⟨hw, by unfold vx_no; rw [decide_eq_true e1, decide_eq_true e2, decide_eq_true e3, decide_eq_true e4]; rfl⟩)
/-- where a static field lies, its class's statics cell in H -/
def vx_L (C n d : String) (A : Nat → Prop) (U : State) (H : Heap) : Prop := ∃ (c : ClassId) (k : Class) (i : Nat) (f : Field) (a : Nat) (cell : Cell), U.vm.findClass C = some c ∧ U.fieldFound? C n d = some (c, k, i, f) ∧ f.isStatic = true ∧ k.statics = some a ∧ H[a]? = some cell ∧ cell.vm.isStatics = true ∧ cell.cls = c ∧ f.slot < cell.slots.size ∧ k.staticTypes[f.slot]? = some f.type ∧ ¬ A a
theorem vx_L.moved {C n d : String} {A : Nat → Prop} {u U : State} {H : Heap} (hvm : u.vm.Alike U.vm) (h : vx_L C n d A u H) : vx_L C n d A U H := by
  obtain ⟨c, k, i, f, a, cell, h1, h2, h3, h4, h5, h6, h7, h8, h9, h10⟩ := h
  obtain ⟨k', hi', he⟩ := State.fieldFound?_setVm hvm h2
  exact ⟨c, k', i, f, a, cell, by rw [hvm.findClass]; exact h1, hi', h3, by rw [he]; exact h4, h5, h6, h7, h8, by rw [he]; exact h9, h10⟩
theorem vx_L.kept {C n d : String} {A : Nat → Prop} {U : State} {H H1 : Heap} (h : vx_L C n d A U H) (hq : ∀ a : Nat, a < H.size → ¬ A a → H1[a]? = H[a]?) : vx_L C n d A U H1 := by
  obtain ⟨c, k, i, f, a, cell, h1, h2, h3, h4, h5, h6, h7, h8, h9, h10⟩ := h
  exact ⟨c, k, i, f, a, cell, h1, h2, h3, h4, by rw [hq a (Array.getElem?_eq_some_iff.mp h5).1 h10]; exact h5, h6, h7, h8, h9, h10⟩
theorem vx_L.narrow {C n d : String} {A B : Nat → Prop} {U : State} {H : Heap} (h : vx_L C n d A U H) (hAB : ∀ q, B q → A q) : vx_L C n d B U H := by
  obtain ⟨c, k, i, f, a, cell, h1, h2, h3, h4, h5, h6, h7, h8, h9, h10⟩ := h
  exact ⟨c, k, i, f, a, cell, h1, h2, h3, h4, h5, h6, h7, h8, h9, fun z => h10 (hAB _ z)⟩
theorem vx_L.word {C n d : String} {A : Nat → Prop} {s : State} {args : Array Value} (h : vx_L C n d A s s.heap) : (Cond.laysStatic C n d).before args s = true := by
  obtain ⟨c, k, i, f, a, cell, h1, h2, h3, h4, h5, h6, h7, h8, h9, -⟩ := h
  show (Cond.laysStatic C n d).holds args s none s [] = true
  exact Cond.laysStatic_of h1 h2 h3 h4 h5 h6 h7 h8 h9
/-- .. and what it holds: null or some reference -/
def vx_Zq (C n d : String) (A : Nat → Prop) (U : State) (H : Heap) : Prop := va_Zq C n d A U H ∧ vx_L C n d A U H
theorem vx_Zq.moved {C n d : String} {A : Nat → Prop} {u U : State} {H : Heap} (hvm : u.vm.Alike U.vm) (h : vx_Zq C n d A u H) : vx_Zq C n d A U H := ⟨va_Zq.moved hvm h.1, vx_L.moved hvm h.2⟩
theorem vx_Zq.kept {C n d : String} {A : Nat → Prop} {U : State} {H H1 : Heap} (h : vx_Zq C n d A U H) (hq : ∀ a : Nat, a < H.size → ¬ A a → H1[a]? = H[a]?) : vx_Zq C n d A U H1 := ⟨va_Zq.kept h.1 hq, vx_L.kept h.2 hq⟩
theorem vx_Zq.narrow {C n d : String} {A B : Nat → Prop} {U : State} {H : Heap} (h : vx_Zq C n d A U H) (hAB : ∀ q, B q → A q) : vx_Zq C n d B U H := ⟨va_Zq.narrow h.1 hAB, vx_L.narrow h.2 hAB⟩
theorem vx_Zqof {args : Array Value} {s : State} {C n d : String} {A : Nat → Prop} (hl : (Cond.laysStatic C n d).before args s = true) (hini : (Cond.initialized C).before args s = true) (h : (Cond.isRef (.static C n d)).before args s = true) (hA : ∀ a : Nat, a < s.heap.size → ¬ A a) : vx_Zq C n d A s s.heap := by
  refine ⟨va_Zqof hl hini h hA, ?_⟩
  obtain ⟨c, k, i, f, a, cell, h1, h2, h3, h4, h5, h6, h7, h8, h9⟩ := Cond.laysStatic_spec hl
  exact ⟨c, k, i, f, a, cell, h1, h2, h3, h4, h5, h6, h7, h8, h9, hA a (Array.getElem?_eq_some_iff.mp h5).1⟩
theorem vx_isRef {C n d : String} {v : Value} {A : Nat → Prop} {s : State} {args : Array Value} (h : va_Z C n d v A s s.heap) (hv : v.isRef = true) : (Cond.isRef (.static C n d)).before args s = true := by
  obtain ⟨cf, kf, fi, f, a, cell, h1, h2, h3, h4, h5, h6, h7, -⟩ := h
  have he : (Term.static C n d).eval args s none [] s = some v := by
    simp [Term.eval, State.fieldNamed?, h1, h2, h4, h5, h6, h7]
  simp only [Cond.before, Cond.holds, Cond.value, he]
  cases v <;> simp_all [Value.isRef]
theorem vx_isRefq {C n d : String} {A : Nat → Prop} {s : State} {args : Array Value} (h : va_Zq C n d A s s.heap) : (Cond.isRef (.static C n d)).before args s = true := by
  rcases h with h | ⟨t, h⟩
  · exact vx_isRef h rfl
  · exact vx_isRef h rfl
/-- the same frame, seen from here: as if the method were called anew in this heap -/
theorem vx_rebase {T : State} (X : Stand p l e R s m args below meth c T locs cells slots) {R' : Room} (hf : R'.frames ≤ R.frames) (hl : R'.locals ≤ R.locals) (hc : cells + R'.cells ≤ R.cells) (hs : slots + R'.slots ≤ R.slots) :
    Stand p l e R' ((T.setVm s.vm).setFrames (.invoking m args :: below)) m args below meth c T [] 0 0 := by
  have htop : (T.setVm s.vm).topJava?.isSome := X.here.top
  have hF : ((T.setVm s.vm).setFrames (.invoking m args :: below)).frames = .invoking m args :: below := State.frames_setFrames _ (State.cur_lt_of_top htop)
  obtain ⟨g₀, hg0⟩ := Option.isSome_iff_exists.mp htop
  obtain ⟨r, hr⟩ := State.topJava?_eq_some.mp hg0
  have hl9 : e.platform.stackLimits (T.setVm s.vm).me = e.platform.stackLimits s.me := X.limits
  have hb9 : (T.setVm s.vm).me.stackBytes = s.me.stackBytes := X.bytes
  refine ⟨X.admits, X.cas, X.clock, hF, ?_, X.hears, X.method, X.code, X.here, X.tail, X.warmed, ?_, ?_, ?_⟩
  · have h := X.room
    have hU : ((T.setVm s.vm).setFrames (.invoking m args :: below)).localsInUse = s.localsInUse := by
      rw [State.localsInUse_invoking hF (meth := meth) (c := c) X.method X.code, State.localsInUse_invoking X.frames X.method X.code]
    simp only [State.hasRoom, Bool.and_eq_true, decide_eq_true_eq] at h ⊢
    obtain ⟨⟨⟨⟨h1, h2, h3, h4, h5, h6⟩, h7⟩, h8⟩, h9⟩ := h
    rw [X.frames, List.length_cons] at h2 h3
    have q1 := X.heapSize
    have q2 := X.used
    simp only [hF, hU, List.length_cons, State.stackLimits_setFrames, State.stackBytes_setFrames, hl9, hb9]
    refine ⟨⟨⟨⟨by omega, by omega, by omega, by omega, by omega, h6⟩, ?_⟩, ?_⟩, X.book⟩
    · show T.heap.size + R'.cells ≤ e.platform.maxCells
      omega
    · show T.slotsUsed + R'.slots ≤ e.platform.maxSlots
      omega
  · rw [State.stackLimits_setFrames]; rfl
  · rw [State.stackBytes_setFrames]; rfl
  · refine ⟨?_, Nat.le_refl _, Nat.le_refl _, ?_, ?_, fun a c9 h9 => ⟨c9, h9, rfl, rfl, fun _ _ => rfl⟩⟩
    · obtain ⟨t, ht, -⟩ := State.frames_cons hr
      show T.setVm s.vm = { ((T.setVm s.vm).setFrames (.invoking m args :: below)).setFrames (T.setVm s.vm).frames with heap := T.heap, slotsUsed := T.slotsUsed }
      rw [State.setFrames_setFrames, State.setFrames_self ht]
      rfl
    · show T.slotsUsed = T.slotsUsed + ((T.heap.toList.drop T.heap.size).map (·.slots.size)).sum
      rw [List.drop_eq_nil_of_le (Nat.le_of_eq Array.length_toList)]
      rfl
    · show ((T.heap.toList.drop T.heap.size).map (·.slots.size)).sum ≤ 0
      rw [List.drop_eq_nil_of_le (Nat.le_of_eq Array.length_toList)]
      exact Nat.le_refl _
/-- 'throw new E()': new; dup; invokespecial; athrow -/
theorem vx_throw0 {cc : ByteArray} {pc : Nat} (hexec : p.tables.exec = Jvm.exec) (hb : c.code = cc) (hl : l.stackTraces = false) {own cls : String} {names : List String} {ik ic mc ms : Nat} {A : Nat → Prop}
    (hown : s.vm.findClass own = some m.cls) (hcls : Bundle.fit cls = true) (hnames : ∀ n ∈ names, Bundle.fit n = true)
    (hk : (Cond.classLink own ik cls).before args s = true) (hini : (Cond.initialized cls).before args s = true) (hat : ∀ w ∈ vx_at0 own ic cls names, w.before args s = true)
    (hgood : ∀ w ∈ Cond.classLink own ik cls :: Cond.initialized cls :: vx_at0 own ic cls names, vx_ot w = true)
    (hU : vx_Zq Bundle.tN "UNASSIGNED_STACK" Bundle.steD A s s.heap) (hN : vx_Zq Bundle.tN "SUPPRESSED_SENTINEL" Bundle.listD A s s.heap) (hS : va_S A s.heap H locs) (hsize : ls.size = c.maxLocals)
    (d0 : decode cc pc = .ok (.new ik, 3)) (d3 : decode cc (pc + 3) = .ok (.dup, 1)) (d4 : decode cc (pc + 4) = .ok (.invokespecial ic, 3)) (d7 : decode cc (pc + 7) = .ok (.athrow, 1))
    (hout : ∀ x ∈ c.exceptionTable.toList, covers x (pc + 7) = false)
    (hRframes : names.length + 3 < R.frames) (hRlocals : (rest.map fun v => v.category).sum + (13 * (names.length + 1) + 42) ≤ R.locals) (hRcells : cells + 1 ≤ R.cells) (hRslots : slots + 6 ≤ R.slots) (hlocks : meth.locks = false)
    (hx : ∀ t : State, s.vm.Alike t.vm → H.size ≤ t.heap.size → (∀ q : Nat, q < H.size → t.heap[q]? = H[q]?) → XC cls s t)
    (hf : ∀ z ∈ locs, free z.base) (hc : cells + 1 ≤ mc) (hs : slots + 6 ≤ ms) :
    W p l e R s m args below meth c H locs cells slots (vx_MQ below Qc XC args s mc ms free) (F0 m pc ls rest) := by
  intro T hT X
  have htr : e.platform.stackTraces = false := (show e.platform.stackTraces = l.stackTraces by rw [X.admits.platform]).trans hl
  have Y := vx_rebase X (R' := { frames := R.frames, locals := R.locals, cells := 1, slots := 6 }) (Nat.le_refl _) (Nat.le_refl _) hRcells hRslots
  obtain ⟨s', hA⟩ : ∃ z, z = (T.setVm s.vm).setFrames (.invoking m args :: below) := ⟨_, rfl⟩
  rw [← hA] at Y
  have hvm : s'.vm = s.vm := by rw [hA]; rfl
  have hhp : s'.heap = H := by rw [hA]; exact hT
  have hW0 : s.WarmedH s'.vm := by rw [hvm]; exact State.WarmedH.refl s
  have hat' : ∀ w ∈ vx_at0 own ic cls names, w.before args s' = true := fun w hw => vx_ot_at hW0 hvm.symm (hgood w (List.mem_cons_of_mem _ (List.mem_cons_of_mem _ hw))) (hat w hw)
  have hk' : (Cond.classLink own ik cls).before args s' = true := vx_ot_at hW0 hvm.symm (hgood _ List.mem_cons_self) hk
  have hini' : (Cond.initialized cls).before args s' = true := vx_ot_at hW0 hvm.symm (hgood _ (List.mem_cons_of_mem _ List.mem_cons_self)) hini
  have hU' : vx_Zq Bundle.tN "UNASSIGNED_STACK" Bundle.steD A s' s'.heap := by rw [hhp]; exact vx_Zq.moved hW0.alike (hU.kept hS.2.1)
  have hN' : vx_Zq Bundle.tN "SUPPRESSED_SENTINEL" Bundle.listD A s' s'.heap := by rw [hhp]; exact vx_Zq.moved hW0.alike (hN.kept hS.2.1)
  have h : ∀ w ∈ Bundle.ownAtoms0 own ic cls names, w.before args s' = true := vx_own hat' (vx_isRefq hU'.1) (vx_isRefq hN'.1) hU'.2.word hN'.2.word
  have hown' : s'.vm.findClass own = some m.cls := by rw [hvm]; exact hown
  have hins : (Cond.instantiable cls 6).before args s' = true := h _ (by simp [Bundle.ownAtoms0])
  obtain ⟨vm₁, cX, kX, hfX, hkX, -, -, X₁, st1⟩ := Y.newCold hexec (own := own) (C := cls) (index := ik) (n := 6) hown' hk' hins hini'
    (g := F0 m pc ls rest) rfl (by rw [hb]; exact d0) (Nat.le_refl _) (Nat.le_refl _)
  generalize hT1 : (T.setVm vm₁).pushCell { cls := cX, slots := kX.instanceTypes.map defaultValue, vm := .none } = T1 at X₁ st1
  have hcat : (Value.ref T.heap.size).category = 1 := rfl
  have hcellA : T1.heap[T.heap.size]? = some (freshCell cX kX) := by rw [← hT1]; exact State.heap_pushCell_size _ _
  have d3' : decode c.code (pc + 3) = .ok (.dup, 1) := by rw [hb]; exact d3
  obtain ⟨U, hsteps, hrun, hend, hW, hsame, ce, hce, hO⟩ := X₁.ctorThrow0 hexec htr (own := own) (cls := cls) (names := names) (ic := ic) hown' hcls hnames h (fun x hx => nomatch hx) hfX hkX hcellA (by rw [hhp, hT]; exact Nat.le_refl _)
    (g := { method := m, pc := pc + 4, locals := ls, stack := .ref T.heap.size :: .ref T.heap.size :: rest, locked := none }) rfl hsize rfl rfl (rest := rest) rfl
    (by rw [hb]; exact d4) (by rw [hb]; exact d7) hout hRframes (by simp only [List.map_cons, List.sum_cons, hcat]; omega) hlocks
  obtain ⟨f1, f2⟩ := vx_frame hsame
  rw [hhp] at f1 f2
  have hWs : s.WarmedH U.vm := State.WarmedH.trans hW0 hW
  have hcl : s.vm.findClass cls = some ce.cls := by
    have h9 := hO.cls
    rw [hvm] at h9
    exact h9
  have hall : s.sameButNew ({ U with vm := s.vm } : State) locs mc ms := by
    subst hA
    obtain ⟨e1, e2⟩ := hsame
    rw [State.setFrames_setFrames] at e1
    have h2 : (T.setVm s.vm).sameButNew ({ U with vm := s.vm } : State) [] (0 + 1) (0 + 6) := ⟨e1, e2⟩
    have h3 := X.same.trans h2
    rw [List.append_nil] at h3
    exact h3.mono hc hs
  refine ⟨U, ?_, .threw T.heap.size, hrun, hend, Or.inr ⟨T.heap.size, rfl, cls, ce, locs, hx U hWs.alike f1 (fun q hq => f2 q hq (fun z hz => nomatch hz)), hce, hO.vm, hcl, hWs, hall, hf⟩⟩
  refine st1 _ ?_
  show Steps p.tables e below (T1.setTop { method := m, pc := pc + 3, locals := ls, stack := .ref T.heap.size :: rest, locked := none }) _
  jvm_step X₁.here [X₁.here.top, hexec, d3', Value.category]
  exact hsteps
/-- 'throw new E("text")': new; dup; ldc; invokespecial; athrow -/
theorem vx_throwS {cc : ByteArray} {pc : Nat} (hexec : p.tables.exec = Jvm.exec) (hb : c.code = cc) (hl : l.stackTraces = false) {own cls text : String} {names : List String} {ik is ic mc ms sa : Nat} {A : Nat → Prop}
    (hown : s.vm.findClass own = some m.cls) (hcls : Bundle.fit cls = true) (hnames : ∀ n ∈ names, Bundle.fit n = true)
    (hk : (Cond.classLink own ik cls).before args s = true) (hini : (Cond.initialized cls).before args s = true) (hstr : vk_R own is text sa s) (hat : ∀ w ∈ vx_atS own ic cls names, w.before args s = true)
    (hgood : ∀ w ∈ Cond.classLink own ik cls :: Cond.initialized cls :: vx_atS own ic cls names, vx_ot w = true)
    (hU : vx_Zq Bundle.tN "UNASSIGNED_STACK" Bundle.steD A s s.heap) (hN : vx_Zq Bundle.tN "SUPPRESSED_SENTINEL" Bundle.listD A s s.heap) (hS : va_S A s.heap H locs) (hsize : ls.size = c.maxLocals)
    (d0 : decode cc pc = .ok (.new ik, 3)) (d3 : decode cc (pc + 3) = .ok (.dup, 1)) (d4 : decode cc (pc + 4) = .ok (.ldc is, 2)) (d6 : decode cc (pc + 6) = .ok (.invokespecial ic, 3)) (d9 : decode cc (pc + 9) = .ok (.athrow, 1))
    (hout : ∀ x ∈ c.exceptionTable.toList, covers x (pc + 9) = false)
    (hRframes : names.length + 3 < R.frames) (hRlocals : (rest.map fun v => v.category).sum + (13 * (names.length + 1) + 43) ≤ R.locals) (hRcells : cells + 1 ≤ R.cells) (hRslots : slots + 6 ≤ R.slots) (hlocks : meth.locks = false)
    (hx : ∀ t : State, s.vm.Alike t.vm → H.size ≤ t.heap.size → (∀ q : Nat, q < H.size → t.heap[q]? = H[q]?) → XC cls s t)
    (hf : ∀ z ∈ locs, free z.base) (hc : cells + 1 ≤ mc) (hs : slots + 6 ≤ ms) :
    W p l e R s m args below meth c H locs cells slots (vx_MQ below Qc XC args s mc ms free) (F0 m pc ls rest) := by
  intro T hT X
  have htr : e.platform.stackTraces = false := (show e.platform.stackTraces = l.stackTraces by rw [X.admits.platform]).trans hl
  have Y := vx_rebase X (R' := { frames := R.frames, locals := R.locals, cells := 1, slots := 6 }) (Nat.le_refl _) (Nat.le_refl _) hRcells hRslots
  obtain ⟨s', hA⟩ : ∃ z, z = (T.setVm s.vm).setFrames (.invoking m args :: below) := ⟨_, rfl⟩
  rw [← hA] at Y
  have hvm : s'.vm = s.vm := by rw [hA]; rfl
  have hhp : s'.heap = H := by rw [hA]; exact hT
  have hW0 : s.WarmedH s'.vm := by rw [hvm]; exact State.WarmedH.refl s
  have hat' : ∀ w ∈ vx_atS own ic cls names, w.before args s' = true := fun w hw => vx_ot_at hW0 hvm.symm (hgood w (List.mem_cons_of_mem _ (List.mem_cons_of_mem _ hw))) (hat w hw)
  have hk' : (Cond.classLink own ik cls).before args s' = true := vx_ot_at hW0 hvm.symm (hgood _ List.mem_cons_self) hk
  have hini' : (Cond.initialized cls).before args s' = true := vx_ot_at hW0 hvm.symm (hgood _ (List.mem_cons_of_mem _ List.mem_cons_self)) hini
  have hU' : vx_Zq Bundle.tN "UNASSIGNED_STACK" Bundle.steD A s' s'.heap := by rw [hhp]; exact vx_Zq.moved hW0.alike (hU.kept hS.2.1)
  have hN' : vx_Zq Bundle.tN "SUPPRESSED_SENTINEL" Bundle.listD A s' s'.heap := by rw [hhp]; exact vx_Zq.moved hW0.alike (hN.kept hS.2.1)
  have h : ∀ w ∈ Bundle.ownAtoms own ic cls names, w.before args s' = true := vx_own hat' (vx_isRefq hU'.1) (vx_isRefq hN'.1) hU'.2.word hN'.2.word
  have hown' : s'.vm.findClass own = some m.cls := by rw [hvm]; exact hown
  have hins : (Cond.instantiable cls 6).before args s' = true := h _ (by simp [Bundle.ownAtoms])
  obtain ⟨vm₁, cX, kX, hfX, hkX, -, -, X₁, st1⟩ := Y.newCold hexec (own := own) (C := cls) (index := ik) (n := 6) hown' hk' hins hini'
    (g := F0 m pc ls rest) rfl (by rw [hb]; exact d0) (Nat.le_refl _) (Nat.le_refl _)
  generalize hT1 : (T.setVm vm₁).pushCell { cls := cX, slots := kX.instanceTypes.map defaultValue, vm := .none } = T1 at X₁ st1
  have hcat : (Value.ref T.heap.size).category = 1 := rfl
  have hcellA : T1.heap[T.heap.size]? = some (freshCell cX kX) := by rw [← hT1]; exact State.heap_pushCell_size _ _
  have d3' : decode c.code (pc + 3) = .ok (.dup, 1) := by rw [hb]; exact d3
  have d4' : decode c.code (pc + 4) = .ok (.ldc is, 2) := by rw [hb]; exact d4
  have hstr' : vk_R own is text sa s' := vk_R.warm hW0 hstr
  obtain ⟨U, hsteps, hrun, hend, hW, hsame, ce, hce, hO⟩ := X₁.ctorThrowS hexec htr (own := own) (cls := cls) (names := names) (ic := ic) hown' hcls hnames h (fun x hx => nomatch hx) hfX hkX hcellA (by rw [hhp, hT]; exact Nat.le_refl _) (msg := .ref sa) rfl
    (g := { method := m, pc := pc + 6, locals := ls, stack := .ref sa :: .ref T.heap.size :: .ref T.heap.size :: rest, locked := none }) rfl hsize rfl rfl (rest := rest) rfl
    (by rw [hb]; exact d6) (by rw [hb]; exact d9) hout hRframes (by simp only [List.map_cons, List.sum_cons, hcat]; omega) hlocks
  obtain ⟨f1, f2⟩ := vx_frame hsame
  rw [hhp] at f1 f2
  have hWs : s.WarmedH U.vm := State.WarmedH.trans hW0 hW
  have hcl : s.vm.findClass cls = some ce.cls := by
    have h9 := hO.cls
    rw [hvm] at h9
    exact h9
  have hall : s.sameButNew ({ U with vm := s.vm } : State) locs mc ms := by
    subst hA
    obtain ⟨e1, e2⟩ := hsame
    rw [State.setFrames_setFrames] at e1
    have h2 : (T.setVm s.vm).sameButNew ({ U with vm := s.vm } : State) [] (0 + 1) (0 + 6) := ⟨e1, e2⟩
    have h3 := X.same.trans h2
    rw [List.append_nil] at h3
    exact h3.mono hc hs
  refine ⟨U, ?_, .threw T.heap.size, hrun, hend, Or.inr ⟨T.heap.size, rfl, cls, ce, locs, hx U hWs.alike f1 (fun q hq => f2 q hq (fun z hz => nomatch hz)), hce, hO.vm, hcl, hWs, hall, hf⟩⟩
  refine st1 _ ?_
  show Steps p.tables e below (T1.setTop { method := m, pc := pc + 3, locals := ls, stack := .ref T.heap.size :: rest, locked := none }) _
  jvm_step X₁.here [X₁.here.top, hexec, d3', Value.category]
  exact X₁.ldcString hexec (own := own) (text := text) (index := is) (a := sa) hown' hstr'.1 hstr'.2
    (g := { method := m, pc := pc + 4, locals := ls, stack := .ref T.heap.size :: .ref T.heap.size :: rest, locked := none }) rfl d4' _ hsteps
/-- 'throw new E("text")', the text by a wide index -/
theorem vx_throwSW {cc : ByteArray} {pc : Nat} (hexec : p.tables.exec = Jvm.exec) (hb : c.code = cc) (hl : l.stackTraces = false) {own cls text : String} {names : List String} {ik is ic mc ms sa : Nat} {A : Nat → Prop}
    (hown : s.vm.findClass own = some m.cls) (hcls : Bundle.fit cls = true) (hnames : ∀ n ∈ names, Bundle.fit n = true)
    (hk : (Cond.classLink own ik cls).before args s = true) (hini : (Cond.initialized cls).before args s = true) (hstr : vk_R own is text sa s) (hat : ∀ w ∈ vx_atS own ic cls names, w.before args s = true)
    (hgood : ∀ w ∈ Cond.classLink own ik cls :: Cond.initialized cls :: vx_atS own ic cls names, vx_ot w = true)
    (hU : vx_Zq Bundle.tN "UNASSIGNED_STACK" Bundle.steD A s s.heap) (hN : vx_Zq Bundle.tN "SUPPRESSED_SENTINEL" Bundle.listD A s s.heap) (hS : va_S A s.heap H locs) (hsize : ls.size = c.maxLocals)
    (d0 : decode cc pc = .ok (.new ik, 3)) (d3 : decode cc (pc + 3) = .ok (.dup, 1)) (d4 : decode cc (pc + 4) = .ok (.ldc_w is, 3)) (d7 : decode cc (pc + 7) = .ok (.invokespecial ic, 3)) (d10 : decode cc (pc + 10) = .ok (.athrow, 1))
    (hout : ∀ x ∈ c.exceptionTable.toList, covers x (pc + 10) = false)
    (hRframes : names.length + 3 < R.frames) (hRlocals : (rest.map fun v => v.category).sum + (13 * (names.length + 1) + 43) ≤ R.locals) (hRcells : cells + 1 ≤ R.cells) (hRslots : slots + 6 ≤ R.slots) (hlocks : meth.locks = false)
    (hx : ∀ t : State, s.vm.Alike t.vm → H.size ≤ t.heap.size → (∀ q : Nat, q < H.size → t.heap[q]? = H[q]?) → XC cls s t)
    (hf : ∀ z ∈ locs, free z.base) (hc : cells + 1 ≤ mc) (hs : slots + 6 ≤ ms) :
    W p l e R s m args below meth c H locs cells slots (vx_MQ below Qc XC args s mc ms free) (F0 m pc ls rest) := by
  intro T hT X
  have htr : e.platform.stackTraces = false := (show e.platform.stackTraces = l.stackTraces by rw [X.admits.platform]).trans hl
  have Y := vx_rebase X (R' := { frames := R.frames, locals := R.locals, cells := 1, slots := 6 }) (Nat.le_refl _) (Nat.le_refl _) hRcells hRslots
  obtain ⟨s', hA⟩ : ∃ z, z = (T.setVm s.vm).setFrames (.invoking m args :: below) := ⟨_, rfl⟩
  rw [← hA] at Y
  have hvm : s'.vm = s.vm := by rw [hA]; rfl
  have hhp : s'.heap = H := by rw [hA]; exact hT
  have hW0 : s.WarmedH s'.vm := by rw [hvm]; exact State.WarmedH.refl s
  have hat' : ∀ w ∈ vx_atS own ic cls names, w.before args s' = true := fun w hw => vx_ot_at hW0 hvm.symm (hgood w (List.mem_cons_of_mem _ (List.mem_cons_of_mem _ hw))) (hat w hw)
  have hk' : (Cond.classLink own ik cls).before args s' = true := vx_ot_at hW0 hvm.symm (hgood _ List.mem_cons_self) hk
  have hini' : (Cond.initialized cls).before args s' = true := vx_ot_at hW0 hvm.symm (hgood _ (List.mem_cons_of_mem _ List.mem_cons_self)) hini
  have hU' : vx_Zq Bundle.tN "UNASSIGNED_STACK" Bundle.steD A s' s'.heap := by rw [hhp]; exact vx_Zq.moved hW0.alike (hU.kept hS.2.1)
  have hN' : vx_Zq Bundle.tN "SUPPRESSED_SENTINEL" Bundle.listD A s' s'.heap := by rw [hhp]; exact vx_Zq.moved hW0.alike (hN.kept hS.2.1)
  have h : ∀ w ∈ Bundle.ownAtoms own ic cls names, w.before args s' = true := vx_own hat' (vx_isRefq hU'.1) (vx_isRefq hN'.1) hU'.2.word hN'.2.word
  have hown' : s'.vm.findClass own = some m.cls := by rw [hvm]; exact hown
  have hins : (Cond.instantiable cls 6).before args s' = true := h _ (by simp [Bundle.ownAtoms])
  obtain ⟨vm₁, cX, kX, hfX, hkX, -, -, X₁, st1⟩ := Y.newCold hexec (own := own) (C := cls) (index := ik) (n := 6) hown' hk' hins hini'
    (g := F0 m pc ls rest) rfl (by rw [hb]; exact d0) (Nat.le_refl _) (Nat.le_refl _)
  generalize hT1 : (T.setVm vm₁).pushCell { cls := cX, slots := kX.instanceTypes.map defaultValue, vm := .none } = T1 at X₁ st1
  have hcat : (Value.ref T.heap.size).category = 1 := rfl
  have hcellA : T1.heap[T.heap.size]? = some (freshCell cX kX) := by rw [← hT1]; exact State.heap_pushCell_size _ _
  have d3' : decode c.code (pc + 3) = .ok (.dup, 1) := by rw [hb]; exact d3
  have d4' : decode c.code (pc + 4) = .ok (.ldc_w is, 3) := by rw [hb]; exact d4
  have hstr' : vk_R own is text sa s' := vk_R.warm hW0 hstr
  obtain ⟨U, hsteps, hrun, hend, hW, hsame, ce, hce, hO⟩ := X₁.ctorThrowS hexec htr (own := own) (cls := cls) (names := names) (ic := ic) hown' hcls hnames h (fun x hx => nomatch hx) hfX hkX hcellA (by rw [hhp, hT]; exact Nat.le_refl _) (msg := .ref sa) rfl
    (g := { method := m, pc := pc + 7, locals := ls, stack := .ref sa :: .ref T.heap.size :: .ref T.heap.size :: rest, locked := none }) rfl hsize rfl rfl (rest := rest) rfl
    (by rw [hb]; exact d7) (by rw [hb]; exact d10) hout hRframes (by simp only [List.map_cons, List.sum_cons, hcat]; omega) hlocks
  obtain ⟨f1, f2⟩ := vx_frame hsame
  rw [hhp] at f1 f2
  have hWs : s.WarmedH U.vm := State.WarmedH.trans hW0 hW
  have hcl : s.vm.findClass cls = some ce.cls := by
    have h9 := hO.cls
    rw [hvm] at h9
    exact h9
  have hall : s.sameButNew ({ U with vm := s.vm } : State) locs mc ms := by
    subst hA
    obtain ⟨e1, e2⟩ := hsame
    rw [State.setFrames_setFrames] at e1
    have h2 : (T.setVm s.vm).sameButNew ({ U with vm := s.vm } : State) [] (0 + 1) (0 + 6) := ⟨e1, e2⟩
    have h3 := X.same.trans h2
    rw [List.append_nil] at h3
    exact h3.mono hc hs
  refine ⟨U, ?_, .threw T.heap.size, hrun, hend, Or.inr ⟨T.heap.size, rfl, cls, ce, locs, hx U hWs.alike f1 (fun q hq => f2 q hq (fun z hz => nomatch hz)), hce, hO.vm, hcl, hWs, hall, hf⟩⟩
  refine st1 _ ?_
  show Steps p.tables e below (T1.setTop { method := m, pc := pc + 3, locals := ls, stack := .ref T.heap.size :: rest, locked := none }) _
  jvm_step X₁.here [X₁.here.top, hexec, d3', Value.category]
  exact X₁.ldcStringW hexec (own := own) (text := text) (index := is) (a := sa) hown' hstr'.1 hstr'.2
    (g := { method := m, pc := pc + 4, locals := ls, stack := .ref T.heap.size :: .ref T.heap.size :: rest, locked := none }) rfl d4' _ hsteps
end Ends
section Bodies
variable {l : Launch}
theorem vx_ofW {y : MethodName} {ws ws' : List Cond} {rm : Room} {Pc : Array Value → State → Prop} {Qc : Array Value → State → Outcome → State → Prop} {XC : String → State → State → Prop} {mc ms : Nat} {free : Addr → Prop} {cc : ByteArray} {maxL : Nat} {ret : Option FieldType}
    (hy : plainName y.cls = true) (hw : ws = Cond.code y cc maxL ret :: ws')
    (body : ∀ p e s m args below meth c s₁, BodyLoose p l y (headSpec ws rm) cc maxL ret e s m args below meth c s₁ → c.maxLocals = maxL → (∀ x ∈ c.exceptionTable.toList, False) → Pc args s →
      W p l e (headSpec ws rm).room s m args below meth c s.heap [] 0 0 (vx_MQ below Qc XC args s mc ms free) (entryFrame m args maxL)) : vx_Met l y ws rm Pc Qc XC mc ms free := by
  refine MetFree.of_bodyS (code := cc) (maxLocals := maxL) (ret := ret) hy ?_ ?_
  · intro args s m h hn
    obtain ⟨meth, c, h1, h2, h3, h4, h5, h6, -, -⟩ := Cond.code_spec hn (atoms_spec (ws := ws) h _ (by rw [hw]; exact List.mem_cons_self))
    exact ⟨meth, c, h1, h2, h3, h4, h5, h6⟩
  · intro p e s m args below meth c s₁ B hml hP _
    have hh0 : s₁.heap = s.heap := by rw [B.state]; rfl
    have ht : ∀ x ∈ c.exceptionTable.toList, False := by
      obtain ⟨meth9, c9, h1, h2, -, -, -, -, h7, -⟩ := Cond.code_spec B.named (atoms_spec (ws := ws) B.pre _ (by rw [hw]; exact List.mem_cons_self))
      cases Option.some.inj (h1.symm.trans B.method)
      cases Option.some.inj (h2.symm.trans (Stand.of_body B).code)
      intro x hx
      rw [Array.isEmpty_iff.mp h7] at hx
      cases hx
    obtain ⟨t, a1, o, b1, b2, b3⟩ := body p e s m args below meth c s₁ B hml ht hP s₁ hh0 (Stand.of_body B)
    exact ⟨t, o, a1, b1, b2, b3⟩
/-- the table of a body with handlers -/
theorem vx_table {p : Program} {x y : MethodName} {S : Spec} {cc bytes : ByteArray} {maxL maxL' : Nat} {ret ret' : Option FieldType} {e : Env} {s s₁ : State} {m : MethodId} {args : Array Value} {below : List Frame} {meth : Method} {c : Code} {hh : List (Nat × Nat × Nat × Nat)}
    (B : BodyLoose p l y S cc maxL ret e s m args below meth c s₁) (h : (Cond.codeWith y bytes maxL' ret' hh).before args s = true) : c.exceptionTable.toList = tableOf hh := by
  obtain ⟨m9, meth9, c9, hn9, h1, h2, -, -, h6, -⟩ := Cond.codeWith_spec h
  cases Option.some.inj (hn9.symm.trans B.named)
  cases Option.some.inj (h1.symm.trans B.method)
  cases Option.some.inj (h2.symm.trans (Stand.of_body B).code)
  rw [← h6, table_eq]
end Bodies
end VXA
/-! ===== END ===== -/
/-! ===== BEGIN a static call of a method with an exception table ===== -/
section VXS
variable {p : Program} {l : Launch} {e : Env} {R : Room} {s : State} {m : MethodId} {args : Array Value} {below : List Frame} {meth : Method} {c : Code} {T : State} {H : Heap} {locs : List Loc} {cells slots : Nat}
abbrev vx_CSW (R : Room) (s : State) (args : Array Value) (own : String) (index : Nat) (y : MethodName) (bytes : ByteArray) (maxL : Nat) (ret : Option FieldType) (hh : List (Nat × Nat × Nat × Nat)) (ws : List Cond) (rm : Room) (mc ms n : Nat) : Prop :=
  (rm.cells = mc ∧ rm.slots = ms ∧ rm.frames + 1 ≤ R.frames ∧ 8 + (maxL + 11) + rm.locals ≤ R.locals ∧ (∀ w ∈ ws, ∀ (a' : Array Value) (U : State), s.WarmedH U.vm → w.before a' U = true) ∧ Cond.codeWith y bytes maxL ret hh ∈ ws) ∧
  (Cond.codeWith y bytes maxL ret hh).before args s = true ∧ (Cond.initialized y.cls).before args s = true ∧ (y.cls ≠ "java/lang/invoke/MethodHandle" ∧ y.cls ≠ "java/lang/invoke/VarHandle") ∧
  (∀ sig, parseMethodDescriptor y.desc = some sig → n = sig.parameters.length) ∧ (Cond.methodLink own index y).before args s = true ∧ (Cond.static y).before args s = true
theorem vx_cwSW {own : String} {index maxL mc ms : Nat} {y : MethodName} {bytes : ByteArray} {ret : Option FieldType} {hh : List (Nat × Nat × Nat × Nat)} {Ts ws ws' : List Cond} {rm : Room} (n : Nat) (ht : ∀ w ∈ Ts, w.before args s = true) (hT : GoodIn Ts (va_wsS own index y ws)) (hw : ws = Cond.codeWith y bytes maxL ret hh :: ws') (hrc : rm.cells = mc) (hrs : rm.slots = ms)
    (hd : y.cls ≠ "java/lang/invoke/MethodHandle" ∧ y.cls ≠ "java/lang/invoke/VarHandle" ∧ (parseMethodDescriptor y.desc).map (fun d => d.parameters.length) = some n) (hR : rm.frames + 1 ≤ R.frames ∧ 8 + (maxL + 11) + rm.locals ≤ R.locals) :
    vx_CSW R s args own index y bytes maxL ret hh ws rm mc ms n := by
  have ok : ∀ w ∈ va_wsS own index y ws, w.before args s = true := fun w h => ht w (hT w h).1
  have hG : GoodIn Ts ws := fun w h => hT w (by unfold va_wsS; exact List.mem_append_right _ h)
  have hc : Cond.codeWith y bytes maxL ret hh ∈ ws := by rw [hw]; exact List.mem_cons_self
  refine ⟨⟨hrc, hrs, hR.1, hR.2, pay_in ht hG, hc⟩, ht _ (hG _ hc).1, ok _ (by simp [va_wsS]), ⟨hd.1, hd.2.1⟩, fun sig h => ?_, ok _ (by simp [va_wsS]), ok _ (by simp [va_wsS])⟩
  have h2 := hd.2.2
  rw [h] at h2
  exact (Option.some.inj h2).symm
theorem vx_callSW (X : Stand p l e R s m args below meth c T locs cells slots) (hexec : p.tables.exec = Jvm.exec) {own : String} {index : Nat} {y : MethodName} {bytes : ByteArray} {maxL : Nat} {ret : Option FieldType} {hh : List (Nat × Nat × Nat × Nat)}
    (hown : s.vm.findClass own = some m.cls) (hlink : (Cond.methodLink own index y).before args s = true) (hstat : (Cond.static y).before args s = true) (hinit : (Cond.initialized y.cls).before args s = true)
    (hcode : (Cond.codeWith y bytes maxL ret hh).before args s = true) (hy : y.cls ≠ "java/lang/invoke/MethodHandle" ∧ y.cls ≠ "java/lang/invoke/VarHandle")
    {W9 : Nat} {Pre : Pt → Array Value → Prop} {Post : Pt → Array Value → Option Value → Pt → Prop} (hK : Back l R p e below s args y 3 W9 Pre Post)
    {g : JFrame} (hg : g.method = m) (hsize : g.locals.size = c.maxLocals) {argsL rest : List Value} (hlen : ∀ sig, parseMethodDescriptor y.desc = some sig → argsL.length = sig.parameters.length)
    (hstack : g.stack = argsL.reverse ++ rest) (hW : 2 * g.monitorRoom + (rest.map fun v => v.category).sum ≤ W9) (hdg : decode c.code g.pc = .ok (.invokestatic index, 3))
    (hpre : ∀ vm₁, s.WarmedH vm₁ → Pre ⟨T.setVm vm₁, locs, cells, slots⟩ argsL.toArray) :
    ∃ (v : Option Value) (vm₁ : Vm) (B : Pt), s.WarmedH vm₁ ∧ Stand p l e R s m args below meth c B.U B.locs B.cells B.slots ∧ Post ⟨T.setVm vm₁, locs, cells, slots⟩ argsL.toArray v B ∧
      ∀ target, Steps p.tables e below (B.U.setTop { g with pc := g.pc + 3, stack := v.toList ++ rest }) target → Steps p.tables e below (T.setTop g) target := by
  obtain ⟨mk, methM, cM, hnamed, hmethM, -, -, -, -, -, -, hsigM⟩ := Cond.codeWith_spec hcode
  have hstatic : methM.isStatic = true := Cond.static_spec hnamed hmethM hstat
  obtain ⟨kP, hkP, -⟩ := className_of_methodNamed hnamed
  have hinitP : kP.init = .initialized := Cond.initialized_spec (findClass_of_methodNamed hnamed) hkP hinit
  obtain ⟨vm₁, X₁, hstep₁⟩ := X.invokestatic hexec hown hlink hnamed hmethM hstatic hkP hinitP hy (g := g) hg (argsL := argsL) (rest := rest) (hlen _ hsigM) hstack hdg
  obtain ⟨v, B, X', hpost, hsteps⟩ := hK m meth c ⟨T.setVm vm₁, locs, cells, slots⟩ { g with stack := rest } (.invokestatic index) mk argsL.toArray X₁ hg hsize hdg hW (X₁.named hnamed) (hpre vm₁ X₁.warmed)
  exact ⟨v, vm₁, B, X₁.warmed, X', hpost, fun target h => hstep₁ _ fun acts => by rw [doInvoke_state]; exact hsteps.trans h⟩
theorem vx_runSW {y : MethodName} {bytes cc : ByteArray} {maxL nL mc ms n index : Nat} {ret : Option FieldType} {hh : List (Nat × Nat × Nat × Nat)} {ws : List Cond} {rm : Room} {Pc : Array Value → State → Prop} {Qc : Array Value → State → Outcome → State → Prop} {free : Addr → Prop} {Ts : List Cond} {own : String} {As rest : List Value} {g : JFrame}
    (S : CallFix p m c cc nL s args Ts own) (hM : Met l y ws rm Pc Qc mc ms free) (cw : vx_CSW R s args own index y bytes maxL ret hh ws rm mc ms n) (hp : PreS s H Pc As)
    (hg : g.method = m) (hn : As.length = n) (hsize : g.locals.size = nL) (hstack : g.stack = As.reverse ++ rest) (hW : 2 * g.monitorRoom + (rest.map fun v => v.category).sum ≤ 8) (hdg : decode cc g.pc = .ok (.invokestatic index, 3)) (hf : cells + mc ≤ R.cells ∧ slots + ms ≤ R.slots) :
    va_Run p l e R s m args below meth c H locs cells slots mc ms g rest (Qc As.toArray) (free) := by
  obtain ⟨⟨hrc, hrs, hfr, hlo, hws, hcw⟩, hcode, hini, hy, hlen, hl, hstt⟩ := cw
  have hK : Back l R p e below s args y 3 8 (PreOf R mc ms Pc) (PostOf Qc mc ms free) := va_backW (hh := hh) (bytes := bytes) (maxL := maxL) (ret := ret) hM hp.1 hrc hrs hfr hlo hws hcw (fun a' U hW => word_at hW (Or.inl (by first | rfl | simp [Cond.onTables, Cond.keeps, Cond.steady])) hini)
  obtain ⟨hx, hb, hml, ho, -⟩ := S
  intro T hT X
  obtain ⟨v, vm₁, ⟨U', l2, c2, s2⟩, hW₁, X', ⟨g', mk, t, L, e1, e2, hq, h1, hL, h2, h3⟩, st⟩ := vx_callSW X hx (hh := hh) (bytes := bytes) (maxL := maxL) (ret := ret) ho hl hstt hini hcode hy hK hg (hsize.trans hml.symm) (argsL := As) (rest := rest) (fun sig h => hn.trans (hlen sig h)) hstack hW (by rw [hb]; exact hdg)
    (fun vm₁ hW₁ => ⟨hf.1, hf.2, hp.2 (T.setVm vm₁) hT hW₁⟩)
  dsimp only [Pt.U, Pt.locs, Pt.cells, Pt.slots] at X' e1 e2 h1 h2 h3 st
  subst h1; subst h2; subst h3
  exact ⟨v, (T.setVm vm₁).calling g' mk As.toArray, t, U', L, hT, X', hL, e1, e2, hq, st⟩
/-- not caught here, past rows that name other classes: it goes on to the caller -/
theorem vx_outP {p : Program} {l : Launch} {e : Env} {R : Room} {s : State} {m : MethodId} {args : Array Value} {below : List Frame} {meth : Method} {c : Code} {H : Heap} {locs : List Loc} {cells slots : Nat} {free : Addr → Prop} {ls : Array Slot} {rest : List Value} {Qc : Array Value → State → Outcome → State → Prop} {XC : String → State → State → Prop}
    {pc : Nat} {own E : String} {ce : Cell} {q : Addr} {mc ms : Nat} (hown : s.vm.findClass own = some m.cls) (hlocks : meth.locks = false)
    (hpass : ∀ z ∈ c.exceptionTable.toList, covers z pc = false ∨ (z.catchType ≠ 0 ∧ ∃ nm : String, (Cond.classLink own z.catchType nm).before args s = true ∧ va_Nc E nm s)) (hcell : H[q]? = some ce) (hv : ce.vm = .none) (hcl : s.vm.findClass E = some ce.cls)
    (hx : ∀ t : State, t.heap = H → s.vm.Alike t.vm → XC E s t) (hf : ∀ z ∈ locs, free z.base) (hc : cells ≤ mc) (hs : slots ≤ ms) :
    vx_W p l e R s m args below meth c H locs cells slots (vx_MQ below Qc XC args s mc ms free) (F0 m pc ls rest) q := by
  intro T hT X
  have hpl : e.platform.magicAccessors = ({} : Platform).magicAccessors := by rw [X.admits.platform]
  obtain ⟨vm', hW', X', st⟩ := X.outThrough hlocks q (g := F0 m pc ls rest) rfl rfl rfl (cell := ce) (by rw [hT]; exact hcell) (by rw [hv]; rfl)
    (by obtain ⟨k9, h9, -⟩ := Vm.findClass_spec hcl; exact ⟨k9, h9⟩) (fun z hz => by
      rcases hpass z hz with h | ⟨hz0, nm, hl1, hn1⟩
      · exact Or.inl h
      · obtain ⟨c6, hc6, hcl6⟩ := Cond.classLink_spec hown hl1 e.platform hpl
        obtain ⟨a8, b8, h1, h2, h3⟩ := hn1
        cases Option.some.inj (h1.symm.trans hcl)
        cases Option.some.inj (h2.symm.trans hc6)
        exact Or.inr ⟨hz0, _, hcl6, h3⟩)
  obtain ⟨g₀, hfr⟩ := X'.frames_eq
  have hcell9 : ((T.setVm vm').setFrames (.throwing q :: below)).heap[q]? = some ce := by
    show T.heap[q]? = some ce
    rw [hT]; exact hcell
  have hend : Ended ((T.setVm vm').setFrames (.throwing q :: below)) below (.threw q) := State.frames_setFrames _ (State.cur_lt_of_frames hfr)
  refine ⟨(T.setVm vm').setFrames (.throwing q :: below), ?_, .threw q, X'.here.running, hend, Or.inr ⟨q, rfl, E, ce, locs, hx _ hT (X'.ends _).1.alike, hcell9, hv, hcl, (X'.ends _).1, (X'.ends _).2.mono hc hs, hf⟩⟩
  rw [X.pushThrowing_eq]
  exact st
/-- a thing of a world lies in the heap -/
theorem vx_lt {D : va_G} {cl : List vw_C} {ws : va_W} {H1 : Heap} (h : va_P D cl ws H1) {k : Nat} {q : Nat × va_E} (hk : ws[k]? = some q) : q.1 < H1.size := (h k q hk).lt
end VXS
/-! ===== END ===== -/
/-! ===== BEGIN methods with a table of their own: called by a name, returning or throwing ===== -/
section VXH
/-! vx_backW, vx_callVX, vx_callSX, vx_callVW, vx_runVW, vx_runVX, vx_runSX, vx_ofWH follow the same proofs as their sisters above (Free/Laws.lean, Shelf42/LK1.lean); vx_outP calls Shelf42/NT130.lean (outThrough). -/
section
variable {l : Launch} {R : Room} {p : Program} {e : Env} {below : List Frame} {s : State} {sargs : Array Value} {y : MethodName} {len W9 : Nat}
theorem vx_backW {ws : List Cond} {rm : Room} {Pc : Array Value → State → Prop} {Qc : Array Value → State → Outcome → State → Prop} {XC : String → State → State → Prop} {mc ms : Nat} {free : Addr → Prop} {bytes : ByteArray} {maxL : Nat} {ret : Option FieldType} {hh : List (Nat × Nat × Nat × Nat)}
    (hM : vx_Met l y ws rm Pc Qc XC mc ms free) (hblind : FrameBlind Pc) (hrc : rm.cells = mc) (hrs : rm.slots = ms)
    (hframes : rm.frames + 1 ≤ R.frames) (hlocals : W9 + (maxL + 11) + rm.locals ≤ R.locals)
    (hws : ∀ w ∈ ws, ∀ a' U, s.WarmedH U.vm → w.before a' U = true) (hcode : Cond.codeWith y bytes maxL ret hh ∈ ws) (hinit : ∀ a' U, s.WarmedH U.vm → (Cond.initialized y.cls).before a' U = true) :
    vx_Back l R p e below s sargs y len W9 (PreOf R mc ms Pc) (PostOf Qc mc ms free) (vx_Post XC mc ms free) := by
  intro m meth c A g ig mk a X hg hsize hdg hW hn hp
  have h1 : (headSpec ws rm).pre.before a A.U = true := atoms_intro fun w hw => hws w hw _ _ X.warmed
  have h2 : (Cond.codeWith y bytes maxL ret hh).before a A.U = true := hws _ hcode _ _ X.warmed
  have h3 : (Cond.initialized y.cls).before a A.U = true := hinit _ _ X.warmed
  have h4 : A.cells + (headSpec ws rm).room.cells ≤ R.cells := by rw [show (headSpec ws rm).room.cells = mc from hrc]; exact hp.1
  have h5 : A.slots + (headSpec ws rm).room.slots ≤ R.slots := by rw [show (headSpec ws rm).room.slots = ms from hrs]; exact hp.2.1
  have hPc : Pc a (A.U.calling g mk a) := hblind _ _ _ _ hp.2.2
  obtain ⟨U, Ls, c0, s0⟩ := A
  dsimp only [Pt.U, Pt.locs, Pt.cells, Pt.slots] at h1 h2 h3 h4 h5 X hn hPc ⊢
  obtain ⟨m9, methY, cY, hn9, hmY, hcY, -, hlY, -⟩ := Cond.codeWith_spec h2
  cases Option.some.inj (hn9.symm.trans hn)
  obtain ⟨kY, hkY, -⟩ := className_of_methodNamed hn
  have hinitY : kY.init = .initialized := Cond.initialized_spec (findClass_of_methodNamed hn) hkY h3
  have h : At U g.method c below := by rw [hg]; exact X.here
  have hlocals9 : W9 + (maxL + 11) + (headSpec ws rm).room.locals ≤ R.locals := hlocals
  have happ : (headSpec ws rm).appliesLoose y e.platform (U.calling g mk a) = true :=
    Spec.appliesLoose_calling (g := g) h hdg hn hkY hinitY
      (X.room_calling (g := g) (R' := (headSpec ws rm).room) hsize hmY hcY hframes (by rw [hlY]; omega) h4 h5) h1
  obtain ⟨mid, hmid⟩ := h.above
  have hfr : (U.setTop g).frames = (.java g :: mid) ++ below := by rw [State.frames_setTop' g h.top, hmid]; rfl
  obtain ⟨o, s₂, hsteps, -, hend, hq⟩ := Steps.callFree hM p X.admits X.cas X.clock (acts := []) hfr happ hPc trivial
  have hq' : vx_Q Qc XC mc ms free a (U.calling g mk a) o s₂ := hq
  rw [State.frames_setTop' g h.top] at hend
  obtain ⟨g₀, hg0⟩ := Option.isSome_iff_exists.mp h.top
  obtain ⟨r, hr⟩ := State.topJava?_eq_some.mp hg0
  have hr' : (({ U with heap := s₂.heap, slotsUsed := s₂.slotsUsed } : State).setVm s₂.vm).frames = .java g₀ :: r := hr
  rcases hq' with ⟨hqc, L, hfe, hL⟩ | ⟨q, rfl, E, ce, L, hx, hce, hcv, hcl, hW₂, hsm, hL⟩
  · obtain ⟨⟨v, rfl⟩, hW₂, e2, q2, q3, q4, q5, q6⟩ := id hfe
    have e3 : s₂ = ({ (U.calling g mk a).setFrames s₂.frames with heap := s₂.heap, slotsUsed := s₂.slotsUsed } : State).setVm s₂.vm := by
      have : s₂ = ({ s₂ with vm := (U.calling g mk a).vm } : State).setVm s₂.vm := rfl
      rw [e2] at this
      exact this
    obtain ⟨c₂, i₂, len₂, hc₂, hd₂, hf₂⟩ := hend
    have hW' : U.WarmedH s₂.vm := hW₂
    have hcc : c₂ = c := by
      have h1 : s₂.code? g.method = U.code? g.method := by
        rw [State.code?_eq, State.code?_eq, hW'.alike.method?]
      exact Option.some.inj (hc₂.symm.trans (h1.trans h.code))
    subst hcc
    have hlen : len₂ = len := by rw [hdg] at hd₂; cases hd₂; rfl
    subst hlen
    have hs₂ : s₂ = (({ U with heap := s₂.heap, slotsUsed := s₂.slotsUsed } : State).setVm s₂.vm).setTop { g with pc := g.pc + len₂, stack := v.toList ++ g.stack } := by
      refine e3.trans ?_
      rw [hf₂, State.calling_eq h.top, State.setFrames_setFrames, State.setTop_of_frames _ hr', hr]
      rfl
    have hsame : U.sameButNew ({ U with heap := s₂.heap, slotsUsed := s₂.slotsUsed } : State) L mc ms := by
      refine ⟨?_, q2, q3, q4, q5, q6⟩
      obtain ⟨t, ht, -⟩ := State.frames_cons hr
      show ({ U with heap := s₂.heap, slotsUsed := s₂.slotsUsed } : State) = { U.setFrames U.frames with heap := s₂.heap, slotsUsed := s₂.slotsUsed }
      rw [State.setFrames_self ht]
    subst hg
    refine Or.inl ⟨v, ⟨(({ U with heap := s₂.heap, slotsUsed := s₂.slotsUsed } : State).setVm s₂.vm), Ls ++ L, c0 + mc, s0 + ms⟩,
      ⟨X.admits, X.cas, X.clock, X.frames, X.room, X.hears, X.method, X.code, (X.here.setHeapUsed s₂.heap s₂.slotsUsed).setVm hW'.alike, X.tail, State.WarmedH.trans X.warmed hW', X.limits, X.bytes, X.same.trans (hsame.setVm s.vm)⟩,
      ⟨g, mk, s₂, L, rfl, rfl, hqc, rfl, hL, rfl, rfl⟩, ?_⟩
    show Steps p.tables e below _ ((({ U with heap := s₂.heap, slotsUsed := s₂.slotsUsed } : State).setVm s₂.vm).setTop { g with pc := g.pc + len₂, stack := v.toList ++ g.stack })
    rw [← hs₂]
    exact hsteps
  · obtain ⟨e2, q2, q3, q4, q5, q6⟩ := id hsm
    have e3 : s₂ = ({ (U.calling g mk a).setFrames s₂.frames with heap := s₂.heap, slotsUsed := s₂.slotsUsed } : State).setVm s₂.vm := by
      have : s₂ = ({ s₂ with vm := (U.calling g mk a).vm } : State).setVm s₂.vm := rfl
      rw [e2] at this
      exact this
    have hf₂ : s₂.frames = .throwing q :: .java g :: U.frames.tail := hend
    have hW' : U.WarmedH s₂.vm := hW₂
    have hs₂ : s₂ = ((({ U with heap := s₂.heap, slotsUsed := s₂.slotsUsed } : State).setVm s₂.vm).setTop g).pushFrame (.throwing q) := by
      refine e3.trans ?_
      rw [hf₂, State.calling_eq h.top, State.setFrames_setFrames, State.pushFrame, State.frames_setTop _ hr', State.setTop_of_frames _ hr', State.setFrames_setFrames, hr]
      rfl
    have hsame : U.sameButNew ({ U with heap := s₂.heap, slotsUsed := s₂.slotsUsed } : State) L mc ms := by
      refine ⟨?_, q2, q3, q4, q5, q6⟩
      obtain ⟨t, ht, -⟩ := State.frames_cons hr
      show ({ U with heap := s₂.heap, slotsUsed := s₂.slotsUsed } : State) = { U.setFrames U.frames with heap := s₂.heap, slotsUsed := s₂.slotsUsed }
      rw [State.setFrames_self ht]
    subst hg
    refine Or.inr ⟨q, ⟨(({ U with heap := s₂.heap, slotsUsed := s₂.slotsUsed } : State).setVm s₂.vm), Ls ++ L, c0 + mc, s0 + ms⟩,
      ⟨X.admits, X.cas, X.clock, X.frames, X.room, X.hears, X.method, X.code, (X.here.setHeapUsed s₂.heap s₂.slotsUsed).setVm hW'.alike, X.tail, State.WarmedH.trans X.warmed hW', X.limits, X.bytes, X.same.trans (hsame.setVm s.vm)⟩,
      ⟨g, mk, s₂, L, E, ce, rfl, rfl, hx, hce, hcv, hcl, rfl, hL, rfl, rfl⟩, ?_⟩
    show Steps p.tables e below _ (((({ U with heap := s₂.heap, slotsUsed := s₂.slotsUsed } : State).setVm s₂.vm).setTop g).pushFrame (.throwing q))
    rw [← hs₂]
    exact hsteps
end
variable {p : Program} {l : Launch} {e : Env} {R : Room} {s : State} {m : MethodId} {args : Array Value} {below : List Frame} {meth : Method} {c : Code} {T : State} {H : Heap} {locs : List Loc} {cells slots : Nat}
theorem vx_callVX (X : Stand p l e R s m args below meth c T locs cells slots) (hexec : p.tables.exec = Jvm.exec) {own C : String} {index : Nat} {y : MethodName} {bytes : ByteArray} {maxL : Nat} {ret : Option FieldType} {hh : List (Nat × Nat × Nat × Nat)}
    (hown : s.vm.findClass own = some m.cls) (hlink : (Cond.methodLink own index y).before args s = true) (hinst : (Cond.instanceMethod y).before args s = true) (hsel : (Cond.selects C y y).before args s = true)
    (hcode : (Cond.codeWith y bytes maxL ret hh).before args s = true) (hy : y.cls ≠ "java/lang/invoke/MethodHandle" ∧ y.cls ≠ "java/lang/invoke/VarHandle")
    {W9 : Nat} {Pre : Pt → Array Value → Prop} {Post : Pt → Array Value → Option Value → Pt → Prop} {PostX : Pt → Array Value → Addr → Pt → Prop} (hK : vx_Back l R p e below s args y 3 W9 Pre Post PostX)
    {b : Addr} {cellB : Cell} (hcell : T.heap[b]? = some cellB) (hobj : cellB.vm.isStatics = false) (hcls : s.vm.findClass C = some cellB.cls)
    {g : JFrame} (hg : g.method = m) (hsize : g.locals.size = c.maxLocals) {argsL rest : List Value} (hlen : ∀ sig, parseMethodDescriptor y.desc = some sig → argsL.length = sig.parameters.length)
    (hstack : g.stack = argsL.reverse ++ .ref b :: rest) (hW : 2 * g.monitorRoom + (rest.map fun v => v.category).sum ≤ W9) (hdg : decode c.code g.pc = .ok (.invokevirtual index, 3))
    (hpre : ∀ vm₁, s.WarmedH vm₁ → Pre ⟨T.setVm vm₁, locs, cells, slots⟩ (Value.ref b :: argsL).toArray) :
    (∃ (v : Option Value) (vm₁ : Vm) (B : Pt), s.WarmedH vm₁ ∧ Stand p l e R s m args below meth c B.U B.locs B.cells B.slots ∧ Post ⟨T.setVm vm₁, locs, cells, slots⟩ (Value.ref b :: argsL).toArray v B ∧
      ∀ target, Steps p.tables e below (B.U.setTop { g with pc := g.pc + 3, stack := v.toList ++ rest }) target → Steps p.tables e below (T.setTop g) target) ∨
    (∃ (q : Addr) (vm₁ : Vm) (B : Pt), s.WarmedH vm₁ ∧ Stand p l e R s m args below meth c B.U B.locs B.cells B.slots ∧ PostX ⟨T.setVm vm₁, locs, cells, slots⟩ (Value.ref b :: argsL).toArray q B ∧
      Steps p.tables e below (T.setTop g) ((B.U.setTop { g with stack := rest }).pushFrame (.throwing q))) := by
  obtain ⟨mk, methM, hnamed, hmethM, hstM, habM⟩ := Cond.instanceMethod_spec hinst
  obtain ⟨m8, methM', cM, hn8, hmethM', -, -, -, -, -, -, hsigM⟩ := Cond.codeWith_spec hcode
  cases Option.some.inj (hn8.symm.trans hnamed)
  cases hmethM.symm.trans hmethM'
  obtain ⟨c2, r2, m2, q1, q2, q3, q4, kP, hkP, hkPi⟩ := Cond.selects_spec hsel
  cases hcls.symm.trans q1
  cases (State.methodFound?_of_named hnamed hy).symm.trans q2
  cases hnamed.symm.trans q3
  have hselP : selectMethod e.platform s.vm cellB.cls mk = .method mk := by rw [Launch.admits_selectMethod X.admits]; exact q4
  obtain ⟨vm₁, X₁, hstep₁⟩ := X.invokevirtual hexec hown hlink hnamed hmethM hstM hkP hkPi hy (a := b) (cell := cellB) hcell
    (fun z h => by rw [h] at hobj; cases hobj) hselP hmethM habM hkP hkPi (g := g) hg (argsL := argsL) (rest := rest) (hlen _ hsigM) hstack hdg
  rcases hK m meth c ⟨T.setVm vm₁, locs, cells, slots⟩ { g with stack := rest } (.invokevirtual index) mk (Value.ref b :: argsL).toArray X₁ hg hsize hdg hW (X₁.named hnamed) (hpre vm₁ X₁.warmed) with ⟨v, B, X', hpost, hsteps⟩ | ⟨q, B, X', hpost, hsteps⟩
  · exact Or.inl ⟨v, vm₁, B, X₁.warmed, X', hpost, fun target h => hstep₁ _ fun acts => by rw [doInvoke_state]; exact hsteps.trans h⟩
  · exact Or.inr ⟨q, vm₁, B, X₁.warmed, X', hpost, hstep₁ _ fun acts => by rw [doInvoke_state]; exact hsteps⟩
theorem vx_callSX (X : Stand p l e R s m args below meth c T locs cells slots) (hexec : p.tables.exec = Jvm.exec) {own : String} {index : Nat} {y : MethodName} {bytes : ByteArray} {maxL : Nat} {ret : Option FieldType} {hh : List (Nat × Nat × Nat × Nat)}
    (hown : s.vm.findClass own = some m.cls) (hlink : (Cond.methodLink own index y).before args s = true) (hstat : (Cond.static y).before args s = true) (hinit : (Cond.initialized y.cls).before args s = true)
    (hcode : (Cond.codeWith y bytes maxL ret hh).before args s = true) (hy : y.cls ≠ "java/lang/invoke/MethodHandle" ∧ y.cls ≠ "java/lang/invoke/VarHandle")
    {W9 : Nat} {Pre : Pt → Array Value → Prop} {Post : Pt → Array Value → Option Value → Pt → Prop} {PostX : Pt → Array Value → Addr → Pt → Prop} (hK : vx_Back l R p e below s args y 3 W9 Pre Post PostX)
    {g : JFrame} (hg : g.method = m) (hsize : g.locals.size = c.maxLocals) {argsL rest : List Value} (hlen : ∀ sig, parseMethodDescriptor y.desc = some sig → argsL.length = sig.parameters.length)
    (hstack : g.stack = argsL.reverse ++ rest) (hW : 2 * g.monitorRoom + (rest.map fun v => v.category).sum ≤ W9) (hdg : decode c.code g.pc = .ok (.invokestatic index, 3))
    (hpre : ∀ vm₁, s.WarmedH vm₁ → Pre ⟨T.setVm vm₁, locs, cells, slots⟩ argsL.toArray) :
    (∃ (v : Option Value) (vm₁ : Vm) (B : Pt), s.WarmedH vm₁ ∧ Stand p l e R s m args below meth c B.U B.locs B.cells B.slots ∧ Post ⟨T.setVm vm₁, locs, cells, slots⟩ argsL.toArray v B ∧
      ∀ target, Steps p.tables e below (B.U.setTop { g with pc := g.pc + 3, stack := v.toList ++ rest }) target → Steps p.tables e below (T.setTop g) target) ∨
    (∃ (q : Addr) (vm₁ : Vm) (B : Pt), s.WarmedH vm₁ ∧ Stand p l e R s m args below meth c B.U B.locs B.cells B.slots ∧ PostX ⟨T.setVm vm₁, locs, cells, slots⟩ argsL.toArray q B ∧
      Steps p.tables e below (T.setTop g) ((B.U.setTop { g with stack := rest }).pushFrame (.throwing q))) := by
  obtain ⟨mk, methM, cM, hnamed, hmethM, -, -, -, -, -, -, hsigM⟩ := Cond.codeWith_spec hcode
  have hstatic : methM.isStatic = true := Cond.static_spec hnamed hmethM hstat
  obtain ⟨kP, hkP, -⟩ := className_of_methodNamed hnamed
  have hinitP : kP.init = .initialized := Cond.initialized_spec (findClass_of_methodNamed hnamed) hkP hinit
  obtain ⟨vm₁, X₁, hstep₁⟩ := X.invokestatic hexec hown hlink hnamed hmethM hstatic hkP hinitP hy (g := g) hg (argsL := argsL) (rest := rest) (hlen _ hsigM) hstack hdg
  rcases hK m meth c ⟨T.setVm vm₁, locs, cells, slots⟩ { g with stack := rest } (.invokestatic index) mk argsL.toArray X₁ hg hsize hdg hW (X₁.named hnamed) (hpre vm₁ X₁.warmed) with ⟨v, B, X', hpost, hsteps⟩ | ⟨q, B, X', hpost, hsteps⟩
  · exact Or.inl ⟨v, vm₁, B, X₁.warmed, X', hpost, fun target h => hstep₁ _ fun acts => by rw [doInvoke_state]; exact hsteps.trans h⟩
  · exact Or.inr ⟨q, vm₁, B, X₁.warmed, X', hpost, hstep₁ _ fun acts => by rw [doInvoke_state]; exact hsteps⟩
theorem vx_callVW (X : Stand p l e R s m args below meth c T locs cells slots) (hexec : p.tables.exec = Jvm.exec) {own C : String} {index : Nat} {y : MethodName} {bytes : ByteArray} {maxL : Nat} {ret : Option FieldType} {hh : List (Nat × Nat × Nat × Nat)}
    (hown : s.vm.findClass own = some m.cls) (hlink : (Cond.methodLink own index y).before args s = true) (hinst : (Cond.instanceMethod y).before args s = true) (hsel : (Cond.selects C y y).before args s = true)
    (hcode : (Cond.codeWith y bytes maxL ret hh).before args s = true) (hy : y.cls ≠ "java/lang/invoke/MethodHandle" ∧ y.cls ≠ "java/lang/invoke/VarHandle")
    {W9 : Nat} {Pre : Pt → Array Value → Prop} {Post : Pt → Array Value → Option Value → Pt → Prop} (hK : Back l R p e below s args y 3 W9 Pre Post)
    {b : Addr} {cellB : Cell} (hcell : T.heap[b]? = some cellB) (hobj : cellB.vm.isStatics = false) (hcls : s.vm.findClass C = some cellB.cls)
    {g : JFrame} (hg : g.method = m) (hsize : g.locals.size = c.maxLocals) {argsL rest : List Value} (hlen : ∀ sig, parseMethodDescriptor y.desc = some sig → argsL.length = sig.parameters.length)
    (hstack : g.stack = argsL.reverse ++ .ref b :: rest) (hW : 2 * g.monitorRoom + (rest.map fun v => v.category).sum ≤ W9) (hdg : decode c.code g.pc = .ok (.invokevirtual index, 3))
    (hpre : ∀ vm₁, s.WarmedH vm₁ → Pre ⟨T.setVm vm₁, locs, cells, slots⟩ (Value.ref b :: argsL).toArray) :
    ∃ (v : Option Value) (vm₁ : Vm) (B : Pt), s.WarmedH vm₁ ∧ Stand p l e R s m args below meth c B.U B.locs B.cells B.slots ∧ Post ⟨T.setVm vm₁, locs, cells, slots⟩ (Value.ref b :: argsL).toArray v B ∧
      ∀ target, Steps p.tables e below (B.U.setTop { g with pc := g.pc + 3, stack := v.toList ++ rest }) target → Steps p.tables e below (T.setTop g) target := by
  obtain ⟨mk, methM, hnamed, hmethM, hstM, habM⟩ := Cond.instanceMethod_spec hinst
  obtain ⟨m8, methM', cM, hn8, hmethM', -, -, -, -, -, -, hsigM⟩ := Cond.codeWith_spec hcode
  cases Option.some.inj (hn8.symm.trans hnamed)
  cases hmethM.symm.trans hmethM'
  obtain ⟨c2, r2, m2, q1, q2, q3, q4, kP, hkP, hkPi⟩ := Cond.selects_spec hsel
  cases hcls.symm.trans q1
  cases (State.methodFound?_of_named hnamed hy).symm.trans q2
  cases hnamed.symm.trans q3
  have hselP : selectMethod e.platform s.vm cellB.cls mk = .method mk := by rw [Launch.admits_selectMethod X.admits]; exact q4
  obtain ⟨vm₁, X₁, hstep₁⟩ := X.invokevirtual hexec hown hlink hnamed hmethM hstM hkP hkPi hy (a := b) (cell := cellB) hcell
    (fun z h => by rw [h] at hobj; cases hobj) hselP hmethM habM hkP hkPi (g := g) hg (argsL := argsL) (rest := rest) (hlen _ hsigM) hstack hdg
  obtain ⟨v, B, X', hpost, hsteps⟩ := hK m meth c ⟨T.setVm vm₁, locs, cells, slots⟩ { g with stack := rest } (.invokevirtual index) mk (Value.ref b :: argsL).toArray X₁ hg hsize hdg hW (X₁.named hnamed) (hpre vm₁ X₁.warmed)
  exact ⟨v, vm₁, B, X₁.warmed, X', hpost, fun target h => hstep₁ _ fun acts => by rw [doInvoke_state]; exact hsteps.trans h⟩
abbrev vx_CVW (R : Room) (s : State) (args : Array Value) (own C : String) (index : Nat) (y : MethodName) (bytes : ByteArray) (maxL : Nat) (ret : Option FieldType) (hh : List (Nat × Nat × Nat × Nat)) (ws : List Cond) (rm : Room) (mc ms n : Nat) : Prop :=
  (rm.cells = mc ∧ rm.slots = ms ∧ rm.frames + 1 ≤ R.frames ∧ 8 + (maxL + 11) + rm.locals ≤ R.locals ∧ (∀ w ∈ ws, ∀ (a' : Array Value) (U : State), s.WarmedH U.vm → w.before a' U = true) ∧ Cond.codeWith y bytes maxL ret hh ∈ ws) ∧
  (Cond.codeWith y bytes maxL ret hh).before args s = true ∧ (Cond.initialized y.cls).before args s = true ∧ (y.cls ≠ "java/lang/invoke/MethodHandle" ∧ y.cls ≠ "java/lang/invoke/VarHandle") ∧
  (∀ sig, parseMethodDescriptor y.desc = some sig → n = sig.parameters.length) ∧ (Cond.methodLink own index y).before args s = true ∧ (Cond.instanceMethod y).before args s = true ∧ (Cond.selects C y y).before args s = true
theorem vx_cwVW {own C : String} {index maxL mc ms : Nat} {y : MethodName} {bytes : ByteArray} {ret : Option FieldType} {hh : List (Nat × Nat × Nat × Nat)} {Ts ws ws' : List Cond} {rm : Room} (n : Nat) (ht : ∀ w ∈ Ts, w.before args s = true) (hT : GoodIn Ts (wsV own index C y ws)) (hw : ws = Cond.codeWith y bytes maxL ret hh :: ws') (hrc : rm.cells = mc) (hrs : rm.slots = ms)
    (hd : y.cls = C ∧ y.cls ≠ "java/lang/invoke/MethodHandle" ∧ y.cls ≠ "java/lang/invoke/VarHandle" ∧ (parseMethodDescriptor y.desc).map (fun d => d.parameters.length) = some n) (hR : rm.frames + 1 ≤ R.frames ∧ 8 + (maxL + 11) + rm.locals ≤ R.locals) :
    vx_CVW R s args own C index y bytes maxL ret hh ws rm mc ms n := by
  obtain ⟨hC, hd⟩ := hd
  subst hC
  have ok : ∀ w ∈ wsV own index y.cls y ws, w.before args s = true := fun w h => ht w (hT w h).1
  have hG : GoodIn Ts ws := fun w h => hT w (by unfold wsV; exact List.mem_append_right _ h)
  have hc : Cond.codeWith y bytes maxL ret hh ∈ ws := by rw [hw]; exact List.mem_cons_self
  refine ⟨⟨hrc, hrs, hR.1, hR.2, pay_in ht hG, hc⟩, ht _ (hG _ hc).1, ok _ (by simp [wsV]), ⟨hd.1, hd.2.1⟩, fun sig h => ?_, ok _ (by simp [wsV]), ok _ (by simp [wsV]), ok _ (by simp [wsV])⟩
  have h2 := hd.2.2
  rw [h] at h2
  exact (Option.some.inj h2).symm
theorem vx_runVW {y : MethodName} {bytes cc : ByteArray} {maxL nL mc ms n index : Nat} {ret : Option FieldType} {hh : List (Nat × Nat × Nat × Nat)} {ws : List Cond} {rm : Room} {Pc : Array Value → State → Prop} {Qc : Array Value → State → Outcome → State → Prop} {free : Addr → Prop} {Ts : List Cond} {own C : String} {b : Addr} {As rest : List Value} {g : JFrame}
    (S : CallFix p m c cc nL s args Ts own) (hM : Met l y ws rm Pc Qc mc ms free) (cw : vx_CVW R s args own C index y bytes maxL ret hh ws rm mc ms n) (hp : PreV s H C b Pc As)
    (hg : g.method = m) (hn : As.length = n) (hsize : g.locals.size = nL) (hstack : g.stack = As.reverse ++ .ref b :: rest) (hW : 2 * g.monitorRoom + (rest.map fun v => v.category).sum ≤ 8) (hdg : decode cc g.pc = .ok (.invokevirtual index, 3)) (hf : cells + mc ≤ R.cells ∧ slots + ms ≤ R.slots) :
    va_Run p l e R s m args below meth c H locs cells slots mc ms g rest (Qc (Value.ref b :: As).toArray) free := by
  obtain ⟨⟨hrc, hrs, hfr, hlo, hws, hcw⟩, hcode, hini, hy, hlen, hl, hin, hse⟩ := cw
  have hK : Back l R p e below s args y 3 8 (PreOf R mc ms Pc) (PostOf Qc mc ms free) := va_backW (hh := hh) (bytes := bytes) (maxL := maxL) (ret := ret) hM hp.1 hrc hrs hfr hlo hws hcw (fun a' U hW => word_at hW (Or.inl (by first | rfl | simp [Cond.onTables, Cond.keeps, Cond.steady])) hini)
  obtain ⟨hx, hb, hml, ho, -⟩ := S
  obtain ⟨-, ⟨cellB, hcB, hoB, hclB⟩, hPc⟩ := hp
  intro T hT X
  obtain ⟨v, vm₁, ⟨U', l2, c2, s2⟩, hW₁, X', ⟨g', mk, t, L, e1, e2, hq, h1, hL, h2, h3⟩, st⟩ := vx_callVW X hx (C := C) (hh := hh) (bytes := bytes) (maxL := maxL) (ret := ret) ho hl hin hse hcode hy hK (by rw [hT]; exact hcB) hoB hclB hg (hsize.trans hml.symm) (argsL := As) (rest := rest) (fun sig h => hn.trans (hlen sig h)) hstack hW (by rw [hb]; exact hdg)
    (fun vm₁ hW₁ => ⟨hf.1, hf.2, hPc (T.setVm vm₁) hT hW₁⟩)
  dsimp only [Pt.U, Pt.locs, Pt.cells, Pt.slots] at X' e1 e2 h1 h2 h3 st
  subst h1; subst h2; subst h3
  exact ⟨v, (T.setVm vm₁).calling g' mk (Value.ref b :: As).toArray, t, U', L, hT, X', hL, e1, e2, hq, st⟩
section
variable {y : MethodName} {bytes cc : ByteArray} {maxL nL mc ms n index : Nat} {ret : Option FieldType} {ws : List Cond} {rm : Room} {Pc : Array Value → State → Prop} {Qc : Array Value → State → Outcome → State → Prop} {XC : String → State → State → Prop} {free : Addr → Prop} {Ts : List Cond} {own C : String} {b : Addr} {As rest : List Value} {g : JFrame}
theorem vx_runVX {hh : List (Nat × Nat × Nat × Nat)} (S : CallFix p m c cc nL s args Ts own) (hM : vx_Met l y ws rm Pc Qc XC mc ms free) (cw : vx_CVW R s args own C index y bytes maxL ret hh ws rm mc ms n) (hp : PreV s H C b Pc As)
    (hg : g.method = m) (hn : As.length = n) (hsize : g.locals.size = nL) (hstack : g.stack = As.reverse ++ .ref b :: rest) (hW : 2 * g.monitorRoom + (rest.map fun v => v.category).sum ≤ 8) (hdg : decode cc g.pc = .ok (.invokevirtual index, 3)) (hf : cells + mc ≤ R.cells ∧ slots + ms ≤ R.slots) :
    vx_Run p l e R s m args below meth c H locs cells slots mc ms g rest (Qc (Value.ref b :: As).toArray) XC free := by
  obtain ⟨⟨hrc, hrs, hfr, hlo, hws, hcw⟩, hcode, hini, hy, hlen, hl, hin, hse⟩ := cw
  have hK : vx_Back l R p e below s args y 3 8 (PreOf R mc ms Pc) (PostOf Qc mc ms free) (vx_Post XC mc ms free) := vx_backW (hh := hh) (bytes := bytes) (maxL := maxL) (ret := ret) hM hp.1 hrc hrs hfr hlo hws hcw (fun a' U hW => word_at hW (Or.inl (by first | rfl | simp [Cond.onTables, Cond.keeps, Cond.steady])) hini)
  obtain ⟨hx, hb, hml, ho, -⟩ := S
  obtain ⟨-, ⟨cellB, hcB, hoB, hclB⟩, hPc⟩ := hp
  intro T hT X
  rcases vx_callVX X hx (C := C) (hh := hh) (bytes := bytes) (maxL := maxL) (ret := ret) ho hl hin hse hcode hy hK (by rw [hT]; exact hcB) hoB hclB hg (hsize.trans hml.symm) (argsL := As) (rest := rest) (fun sig h => hn.trans (hlen sig h)) hstack hW (by rw [hb]; exact hdg)
    (fun vm₁ hW₁ => ⟨hf.1, hf.2, hPc (T.setVm vm₁) hT hW₁⟩) with ⟨v, vm₁, ⟨U', l2, c2, s2⟩, hW₁, X', ⟨g', mk, t, L, e1, e2, hq, h1, hL, h2, h3⟩, st⟩ | ⟨q, vm₁, ⟨U', l2, c2, s2⟩, hW₁, X', ⟨g', mk, t, L, E, ce, e1, e2, hq, hce, hcv, hcl, h1, hL, h2, h3⟩, st⟩
  · dsimp only [Pt.U, Pt.locs, Pt.cells, Pt.slots] at X' e1 e2 h1 h2 h3 st
    subst h1; subst h2; subst h3
    exact Or.inl ⟨v, (T.setVm vm₁).calling g' mk (Value.ref b :: As).toArray, t, U', L, hT, X', hL, e1, e2, hq, st⟩
  · dsimp only [Pt.U, Pt.locs, Pt.cells, Pt.slots] at X' e1 e2 h1 h2 h3 st hcl
    subst h1; subst h2; subst h3
    exact Or.inr ⟨q, (T.setVm vm₁).calling g' mk (Value.ref b :: As).toArray, t, U', L, E, ce, hT, X', hL, e1, e2, hq, hce, hcv, vx_cls hW₁ hcl, st⟩
theorem vx_runSX {hh : List (Nat × Nat × Nat × Nat)} (S : CallFix p m c cc nL s args Ts own) (hM : vx_Met l y ws rm Pc Qc XC mc ms free) (cw : vx_CSW R s args own index y bytes maxL ret hh ws rm mc ms n) (hp : PreS s H Pc As)
    (hg : g.method = m) (hn : As.length = n) (hsize : g.locals.size = nL) (hstack : g.stack = As.reverse ++ rest) (hW : 2 * g.monitorRoom + (rest.map fun v => v.category).sum ≤ 8) (hdg : decode cc g.pc = .ok (.invokestatic index, 3)) (hf : cells + mc ≤ R.cells ∧ slots + ms ≤ R.slots) :
    vx_Run p l e R s m args below meth c H locs cells slots mc ms g rest (Qc As.toArray) XC free := by
  obtain ⟨⟨hrc, hrs, hfr, hlo, hws, hcw⟩, hcode, hini, hy, hlen, hl, hstt⟩ := cw
  have hK : vx_Back l R p e below s args y 3 8 (PreOf R mc ms Pc) (PostOf Qc mc ms free) (vx_Post XC mc ms free) := vx_backW (hh := hh) (bytes := bytes) (maxL := maxL) (ret := ret) hM hp.1 hrc hrs hfr hlo hws hcw (fun a' U hW => word_at hW (Or.inl (by first | rfl | simp [Cond.onTables, Cond.keeps, Cond.steady])) hini)
  obtain ⟨hx, hb, hml, ho, -⟩ := S
  intro T hT X
  rcases vx_callSX X hx (hh := hh) (bytes := bytes) (maxL := maxL) (ret := ret) ho hl hstt hini hcode hy hK hg (hsize.trans hml.symm) (argsL := As) (rest := rest) (fun sig h => hn.trans (hlen sig h)) hstack hW (by rw [hb]; exact hdg)
    (fun vm₁ hW₁ => ⟨hf.1, hf.2, hp.2 (T.setVm vm₁) hT hW₁⟩) with ⟨v, vm₁, ⟨U', l2, c2, s2⟩, hW₁, X', ⟨g', mk, t, L, e1, e2, hq, h1, hL, h2, h3⟩, st⟩ | ⟨q, vm₁, ⟨U', l2, c2, s2⟩, hW₁, X', ⟨g', mk, t, L, E, ce, e1, e2, hq, hce, hcv, hcl, h1, hL, h2, h3⟩, st⟩
  · dsimp only [Pt.U, Pt.locs, Pt.cells, Pt.slots] at X' e1 e2 h1 h2 h3 st
    subst h1; subst h2; subst h3
    exact Or.inl ⟨v, (T.setVm vm₁).calling g' mk As.toArray, t, U', L, hT, X', hL, e1, e2, hq, st⟩
  · dsimp only [Pt.U, Pt.locs, Pt.cells, Pt.slots] at X' e1 e2 h1 h2 h3 st hcl
    subst h1; subst h2; subst h3
    exact Or.inr ⟨q, (T.setVm vm₁).calling g' mk As.toArray, t, U', L, E, ce, hT, X', hL, e1, e2, hq, hce, hcv, vx_cls hW₁ hcl, st⟩
end
end VXH
theorem vx_ofWH {l : Launch} {y : MethodName} {ws ws' : List Cond} {rm : Room} {Pc : Array Value → State → Prop} {Qc : Array Value → State → Outcome → State → Prop} {XC : String → State → State → Prop} {mc ms : Nat} {free : Addr → Prop} {cc : ByteArray} {maxL : Nat} {ret : Option FieldType} {hh : List (Nat × Nat × Nat × Nat)}
    (hy : plainName y.cls = true) (hw : ws = Cond.codeWith y cc maxL ret hh :: ws')
    (body : ∀ p e s m args below meth c s₁, BodyLoose p l y (headSpec ws rm) cc maxL ret e s m args below meth c s₁ → c.maxLocals = maxL → Pc args s →
      W p l e (headSpec ws rm).room s m args below meth c s.heap [] 0 0 (vx_MQ below Qc XC args s mc ms free) (entryFrame m args maxL)) : vx_Met l y ws rm Pc Qc XC mc ms free := by
  refine MetFree.of_bodyS (code := cc) (maxLocals := maxL) (ret := ret) hy ?_ ?_
  · intro args s m h hn
    obtain ⟨m9, meth, c, hn9, h1, h2, h3, h4, -, h5, h6, -⟩ := Cond.codeWith_spec (atoms_spec (ws := ws) h _ (by rw [hw]; exact List.mem_cons_self))
    cases hn.symm.trans hn9
    exact ⟨meth, c, h1, h2, h3, h4, h5, h6⟩
  · intro p e s m args below meth c s₁ B hml hP _
    have hh0 : s₁.heap = s.heap := by rw [B.state]; rfl
    obtain ⟨t, a1, o, b1, b2, b3⟩ := body p e s m args below meth c s₁ B hml hP s₁ hh0 (Stand.of_body B)
    exact ⟨t, o, a1, b1, b2, b3⟩
/-! ===== END ===== -/
end
section
/-! ===== BEGIN printed: names, fields, word lists, decode rows ===== -/
def RX0 : String := "RateWires$Course"
def TX0 : u_T := fun k => match k with
  | 0 => ("RateWires$Course", "rates", "LRateWires$Rates;", true)
  | 1 => ("RateWires$Course", "plan", "LRateWires$Plan;", true)
  | 2 => ("RateWires$Course", "left", "[I", true)
  | 3 => ("RateWires$Course", "gains", "[I", true)
  | 4 => ("RateWires$Course", "steps", "[I", true)
  | 5 => ("RateWires$Course", "most", "[I", true)
  | 6 => ("RateWires$Course", "agree", "Z", false)
  | 7 => ("RateWires$Course", "total", "I", false)
  | _ => ("RateWires$Course", "length", "I", false)
def tyX0 : Nat → FieldType := fun k => match k with
  | 0 => .object "RateWires$Rates"
  | 1 => .object "RateWires$Plan"
  | 2 => .array .int
  | 3 => .array .int
  | 4 => .array .int
  | 5 => .array .int
  | 6 => .boolean
  | 7 => .int
  | _ => .int
abbrev wsX00 : List Cond := u_ws RX0 TX0 9
theorem nmX0 : ∀ a, a < 9 → ∀ b, b < 9 → a ≠ b → (TX0 a).2.1 ≠ (TX0 b).2.1 := by decide +kernel
theorem tyX0_ok : ∀ k, k < 9 → parseFieldDescriptor (TX0 k).2.2.1 = some (tyX0 k) := by decide +kernel
abbrev cX0_init : ByteArray := prog_2_method_1_code
def yX0_init : MethodName := ⟨RX0, "<init>", "()V"⟩
abbrev cX0_follow : ByteArray := prog_2_method_2_code
def yX0_follow : MethodName := ⟨RX0, "follow", "(LRateWires$Plan;I)V"⟩
abbrev cX0_isComplete : ByteArray := prog_2_method_3_code
def yX0_isComplete : MethodName := ⟨RX0, "isComplete", "()Z"⟩
abbrev cX0_step : ByteArray := prog_2_method_4_code
def yX0_step : MethodName := ⟨RX0, "step", "(I)I"⟩
abbrev cX0_allMost : ByteArray := prog_2_method_5_code
def yX0_allMost : MethodName := ⟨RX0, "allMost", "()I"⟩
abbrev cX0_takeOver : ByteArray := prog_2_method_6_code
def yX0_takeOver : MethodName := ⟨RX0, "takeOver", "(LRateWires$Plan;)I"⟩
abbrev cX0_tries : ByteArray := prog_2_method_7_code
def yX0_tries : MethodName := ⟨RX0, "tries", "(LRateWires$Plan;I)Z"⟩
abbrev cX0_take : ByteArray := prog_2_method_8_code
def yX0_take : MethodName := ⟨RX0, "take", "(I)V"⟩
abbrev cX0_choose : ByteArray := prog_2_method_9_code
def yX0_choose : MethodName := ⟨RX0, "choose", "(I)I"⟩
def RX1 : String := "RateWires$Fault"
def TX1 : u_T := fun k => match k with
  | _ => ("", "", "", false)
def tyX1 : Nat → FieldType := fun k => match k with
  | _ => .int
abbrev wsX10 : List Cond := u_ws RX1 TX1 0
theorem nmX1 : ∀ a, a < 0 → ∀ b, b < 0 → a ≠ b → (TX1 a).2.1 ≠ (TX1 b).2.1 := by decide +kernel
theorem tyX1_ok : ∀ k, k < 0 → parseFieldDescriptor (TX1 k).2.2.1 = some (tyX1 k) := by decide +kernel
def RX2 : String := "RateWires$History"
def TX2 : u_T := fun k => match k with
  | 0 => ("RateWires$History", "states", "[LRateWires$Plan;", true)
  | 1 => ("RateWires$History", "oldest", "I", false)
  | _ => ("RateWires$History", "size", "I", false)
def tyX2 : Nat → FieldType := fun k => match k with
  | 0 => .array (.object "RateWires$Plan")
  | 1 => .int
  | _ => .int
abbrev wsX20 : List Cond := u_ws RX2 TX2 3
theorem nmX2 : ∀ a, a < 3 → ∀ b, b < 3 → a ≠ b → (TX2 a).2.1 ≠ (TX2 b).2.1 := by decide +kernel
theorem tyX2_ok : ∀ k, k < 3 → parseFieldDescriptor (TX2 k).2.2.1 = some (tyX2 k) := by decide +kernel
abbrev cX2_init : ByteArray := prog_4_method_1_code
def yX2_init : MethodName := ⟨RX2, "<init>", "()V"⟩
abbrev cX2_isEmpty : ByteArray := prog_4_method_2_code
def yX2_isEmpty : MethodName := ⟨RX2, "isEmpty", "()Z"⟩
abbrev cX2_remember : ByteArray := prog_4_method_3_code
def yX2_remember : MethodName := ⟨RX2, "remember", "(LRateWires$Plan;)V"⟩
abbrev cX2_takeBack : ByteArray := prog_4_method_4_code
def yX2_takeBack : MethodName := ⟨RX2, "takeBack", "(LRateWires$Plan;)I"⟩
abbrev cX2_forget : ByteArray := prog_4_method_5_code
def yX2_forget : MethodName := ⟨RX2, "forget", "()V"⟩
def RX3 : String := "RateWires$Plan"
def TX3 : u_T := fun k => match k with
  | 0 => ("RateWires$Plan", "modules", "I", false)
  | 1 => ("RateWires$Plan", "uses", "[I", true)
  | 2 => ("RateWires$Plan", "makes", "[I", true)
  | 3 => ("RateWires$Plan", "worked", "[I", true)
  | 4 => ("RateWires$Plan", "wires", "I", false)
  | 5 => ("RateWires$Plan", "from", "[I", true)
  | 6 => ("RateWires$Plan", "to", "[I", true)
  | 7 => ("RateWires$Plan", "comes", "[I", true)
  | 8 => ("RateWires$Plan", "used", "[I", true)
  | _ => ("RateWires$Plan", "marks", "[I", true)
def tyX3 : Nat → FieldType := fun k => match k with
  | 0 => .int
  | 1 => .array .int
  | 2 => .array .int
  | 3 => .array .int
  | 4 => .int
  | 5 => .array .int
  | 6 => .array .int
  | 7 => .array .int
  | 8 => .array .int
  | _ => .array .int
abbrev wsX30 : List Cond := u_ws RX3 TX3 10
theorem nmX3 : ∀ a, a < 10 → ∀ b, b < 10 → a ≠ b → (TX3 a).2.1 ≠ (TX3 b).2.1 := by decide +kernel
theorem tyX3_ok : ∀ k, k < 10 → parseFieldDescriptor (TX3 k).2.2.1 = some (tyX3 k) := by decide +kernel
abbrev cX3_init : ByteArray := prog_5_method_1_code
def yX3_init : MethodName := ⟨RX3, "<init>", "()V"⟩
abbrev cX3_empty : ByteArray := prog_5_method_2_code
def yX3_empty : MethodName := ⟨RX3, "empty", "()V"⟩
abbrev cX3_become : ByteArray := prog_5_method_3_code
def yX3_become : MethodName := ⟨RX3, "become", "(LRateWires$Plan;)V"⟩
abbrev cX3_hasModule : ByteArray := prog_5_method_4_code
def yX3_hasModule : MethodName := ⟨RX3, "hasModule", "(I)Z"⟩
abbrev cX3_hasWire : ByteArray := prog_5_method_5_code
def yX3_hasWire : MethodName := ⟨RX3, "hasWire", "(I)Z"⟩
abbrev cX3_moduleFault : ByteArray := prog_5_method_6_code
def yX3_moduleFault : MethodName := ⟨RX3, "moduleFault", "(I)LRateWires$Fault;"⟩
abbrev cX3_wireFault : ByteArray := prog_5_method_7_code
def yX3_wireFault : MethodName := ⟨RX3, "wireFault", "(I)LRateWires$Fault;"⟩
abbrev cX3_newModuleFault : ByteArray := prog_5_method_8_code
def yX3_newModuleFault : MethodName := ⟨RX3, "newModuleFault", "(II)LRateWires$Fault;"⟩
abbrev cX3_newWireFault : ByteArray := prog_5_method_9_code
def yX3_newWireFault : MethodName := ⟨RX3, "newWireFault", "(IIIII)LRateWires$Fault;"⟩
abbrev cX3_newMarksFault : ByteArray := prog_5_method_10_code
def yX3_newMarksFault : MethodName := ⟨RX3, "newMarksFault", "(II)LRateWires$Fault;"⟩
abbrev cX3_workFault : ByteArray := prog_5_method_11_code
def yX3_workFault : MethodName := ⟨RX3, "workFault", "(I)LRateWires$Fault;"⟩
abbrev cX3_newModule : ByteArray := prog_5_method_12_code
def yX3_newModule : MethodName := ⟨RX3, "newModule", "(II)I"⟩
abbrev cX3_newWire : ByteArray := prog_5_method_13_code
def yX3_newWire : MethodName := ⟨RX3, "newWire", "(IIIII)I"⟩
abbrev cX3_dropWire : ByteArray := prog_5_method_14_code
def yX3_dropWire : MethodName := ⟨RX3, "dropWire", "(I)I"⟩
abbrev cX3_newMarks : ByteArray := prog_5_method_15_code
def yX3_newMarks : MethodName := ⟨RX3, "newMarks", "(II)I"⟩
abbrev cX3_doWork : ByteArray := prog_5_method_16_code
def yX3_doWork : MethodName := ⟨RX3, "doWork", "(I)V"⟩
abbrev cX3_triesModule : ByteArray := prog_5_method_17_code
def yX3_triesModule : MethodName := ⟨RX3, "triesModule", "(II)Z"⟩
abbrev cX3_triesWire : ByteArray := prog_5_method_18_code
def yX3_triesWire : MethodName := ⟨RX3, "triesWire", "(IIIII)Z"⟩
abbrev cX3_triesCut : ByteArray := prog_5_method_19_code
def yX3_triesCut : MethodName := ⟨RX3, "triesCut", "(I)Z"⟩
abbrev cX3_triesMarks : ByteArray := prog_5_method_20_code
def yX3_triesMarks : MethodName := ⟨RX3, "triesMarks", "(II)Z"⟩
abbrev cX3_triesWork : ByteArray := prog_5_method_21_code
def yX3_triesWork : MethodName := ⟨RX3, "triesWork", "(I)Z"⟩
abbrev cX3_hasMarks : ByteArray := prog_5_method_22_code
def yX3_hasMarks : MethodName := ⟨RX3, "hasMarks", "(II)Z"⟩
abbrev cX3_hasWorked : ByteArray := prog_5_method_23_code
def yX3_hasWorked : MethodName := ⟨RX3, "hasWorked", "(II)Z"⟩
abbrev cX3_canWork : ByteArray := prog_5_method_24_code
def yX3_canWork : MethodName := ⟨RX3, "canWork", "(I)Z"⟩
abbrev cX3_marksBehind : ByteArray := prog_5_method_25_code
def yX3_marksBehind : MethodName := ⟨RX3, "marksBehind", "(II)I"⟩
abbrev cX3_gain : ByteArray := prog_5_method_26_code
def yX3_gain : MethodName := ⟨RX3, "gain", "(I)I"⟩
abbrev cX3_allMarks : ByteArray := prog_5_method_27_code
def yX3_allMarks : MethodName := ⟨RX3, "allMarks", "()I"⟩
abbrev cX3_allWorks : ByteArray := prog_5_method_28_code
def yX3_allWorks : MethodName := ⟨RX3, "allWorks", "()I"⟩
abbrev cX3_count : ByteArray := prog_5_method_29_code
def yX3_count : MethodName := ⟨RX3, "count", "([III)I"⟩
abbrev cX3_ready : ByteArray := prog_5_method_30_code
def yX3_ready : MethodName := ⟨RX3, "ready", "()I"⟩
abbrev cX3_onLoops : ByteArray := prog_5_method_31_code
def yX3_onLoops : MethodName := ⟨RX3, "onLoops", "()I"⟩
abbrev cX3_parts : ByteArray := prog_5_method_32_code
def yX3_parts : MethodName := ⟨RX3, "parts", "()I"⟩
abbrev cX3_partOf : ByteArray := prog_5_method_33_code
def yX3_partOf : MethodName := ⟨RX3, "partOf", "(I)I"⟩
abbrev cX3_closesDeadLoop : ByteArray := prog_5_method_34_code
def yX3_closesDeadLoop : MethodName := ⟨RX3, "closesDeadLoop", "(II)Z"⟩
abbrev cX3_reached : ByteArray := prog_5_method_35_code
def yX3_reached : MethodName := ⟨RX3, "reached", "(II)I"⟩
def RX4 : String := "RateWires$Rates"
def TX4 : u_T := fun k => match k with
  | 0 => ("RateWires$Rates", "due", "[I", true)
  | _ => ("RateWires$Rates", "modules", "I", false)
def tyX4 : Nat → FieldType := fun k => match k with
  | 0 => .array .int
  | _ => .int
abbrev wsX40 : List Cond := u_ws RX4 TX4 2
theorem nmX4 : ∀ a, a < 2 → ∀ b, b < 2 → a ≠ b → (TX4 a).2.1 ≠ (TX4 b).2.1 := by decide +kernel
theorem tyX4_ok : ∀ k, k < 2 → parseFieldDescriptor (TX4 k).2.2.1 = some (tyX4 k) := by decide +kernel
abbrev cX4_init : ByteArray := prog_6_method_1_code
def yX4_init : MethodName := ⟨RX4, "<init>", "()V"⟩
abbrev cX4_agreeIn : ByteArray := prog_6_method_2_code
def yX4_agreeIn : MethodName := ⟨RX4, "agreeIn", "(LRateWires$Plan;)Z"⟩
abbrev cX4_total : ByteArray := prog_6_method_3_code
def yX4_total : MethodName := ⟨RX4, "total", "()I"⟩
abbrev cX4_findsPart : ByteArray := prog_6_method_4_code
def yX4_findsPart : MethodName := ⟨RX4, "findsPart", "(LRateWires$Plan;I)Z"⟩
abbrev cX4_joins : ByteArray := prog_6_method_5_code
def yX4_joins : MethodName := ⟨RX4, "joins", "(IIII)Z"⟩
def RX5 : String := "RateWires$Text"
def TX5 : u_T := fun k => match k with
  | 0 => ("RateWires$Text", "signs", "[C", true)
  | _ => ("RateWires$Text", "size", "I", false)
def tyX5 : Nat → FieldType := fun k => match k with
  | 0 => .array .char
  | _ => .int
abbrev wsX50 : List Cond := u_ws RX5 TX5 2
theorem nmX5 : ∀ a, a < 2 → ∀ b, b < 2 → a ≠ b → (TX5 a).2.1 ≠ (TX5 b).2.1 := by decide +kernel
theorem tyX5_ok : ∀ k, k < 2 → parseFieldDescriptor (TX5 k).2.2.1 = some (tyX5 k) := by decide +kernel
abbrev cX5_init : ByteArray := prog_7_method_1_code
def yX5_init : MethodName := ⟨RX5, "<init>", "()V"⟩
abbrev cX5_isFull : ByteArray := prog_7_method_2_code
def yX5_isFull : MethodName := ⟨RX5, "isFull", "()Z"⟩
abbrev cX5_size : ByteArray := prog_7_method_3_code
def yX5_size : MethodName := ⟨RX5, "size", "()I"⟩
abbrev cX5_add : ByteArray := prog_7_method_4_code
def yX5_add : MethodName := ⟨RX5, "add", "(C)I"⟩
abbrev cX5_empty : ByteArray := prog_7_method_5_code
def yX5_empty : MethodName := ⟨RX5, "empty", "()I"⟩
abbrev cX5_at : ByteArray := prog_7_method_6_code
def yX5_at : MethodName := ⟨RX5, "at", "(I)C"⟩
abbrev cX5_digit : ByteArray := prog_7_method_7_code
def yX5_digit : MethodName := ⟨RX5, "digit", "(I)I"⟩
abbrev cX5_firstError : ByteArray := prog_7_method_8_code
def yX5_firstError : MethodName := ⟨RX5, "firstError", "()I"⟩
abbrev cX5_errorOfCommand : ByteArray := prog_7_method_9_code
def yX5_errorOfCommand : MethodName := ⟨RX5, "errorOfCommand", "(I)I"⟩
abbrev cX5_digitsOf : ByteArray := prog_7_method_10_code
def yX5_digitsOf : MethodName := ⟨RX5, "digitsOf", "(C)I"⟩
abbrev cX5_lowest : ByteArray := prog_7_method_11_code
def yX5_lowest : MethodName := ⟨RX5, "lowest", "(CI)C"⟩
abbrev cX5_highest : ByteArray := prog_7_method_12_code
def yX5_highest : MethodName := ⟨RX5, "highest", "(CIC)C"⟩
def RX6 : String := "RateWires$Ways"
def TX6 : u_T := fun k => match k with
  | _ => ("RateWires$Ways", "near", "[I", true)
def tyX6 : Nat → FieldType := fun k => match k with
  | _ => .array .int
abbrev wsX60 : List Cond := u_ws RX6 TX6 1
theorem nmX6 : ∀ a, a < 1 → ∀ b, b < 1 → a ≠ b → (TX6 a).2.1 ≠ (TX6 b).2.1 := by decide +kernel
theorem tyX6_ok : ∀ k, k < 1 → parseFieldDescriptor (TX6 k).2.2.1 = some (tyX6 k) := by decide +kernel
abbrev cX6_init : ByteArray := prog_8_method_1_code
def yX6_init : MethodName := ⟨RX6, "<init>", "()V"⟩
abbrev cX6_fewestMarks : ByteArray := prog_8_method_2_code
def yX6_fewestMarks : MethodName := ⟨RX6, "fewestMarks", "(LRateWires$Plan;II)I"⟩
abbrev cX6_shorten : ByteArray := prog_8_method_3_code
def yX6_shorten : MethodName := ⟨RX6, "shorten", "(II)V"⟩
def RX7 : String := "RateWires"
def TX7 : u_T := fun k => match k with
  | 0 => ("RateWires", "text", "LRateWires$Text;", true)
  | 1 => ("RateWires", "plan", "LRateWires$Plan;", true)
  | 2 => ("RateWires", "history", "LRateWires$History;", true)
  | 3 => ("RateWires", "slots", "[LRateWires$Plan;", true)
  | 4 => ("RateWires", "saved", "[Z", true)
  | 5 => ("RateWires", "copy", "LRateWires$Plan;", true)
  | 6 => ("RateWires", "course", "LRateWires$Course;", true)
  | 7 => ("RateWires", "rates", "LRateWires$Rates;", true)
  | _ => ("RateWires", "ways", "LRateWires$Ways;", true)
def tyX7 : Nat → FieldType := fun k => match k with
  | 0 => .object "RateWires$Text"
  | 1 => .object "RateWires$Plan"
  | 2 => .object "RateWires$History"
  | 3 => .array (.object "RateWires$Plan")
  | 4 => .array .boolean
  | 5 => .object "RateWires$Plan"
  | 6 => .object "RateWires$Course"
  | 7 => .object "RateWires$Rates"
  | _ => .object "RateWires$Ways"
abbrev wsX70 : List Cond := u_ws RX7 TX7 9
theorem nmX7 : ∀ a, a < 9 → ∀ b, b < 9 → a ≠ b → (TX7 a).2.1 ≠ (TX7 b).2.1 := by decide +kernel
theorem tyX7_ok : ∀ k, k < 9 → parseFieldDescriptor (TX7 k).2.2.1 = some (tyX7 k) := by decide +kernel
abbrev cX7_init : ByteArray := prog_1_method_1_code
def yX7_init : MethodName := ⟨RX7, "<init>", "()V"⟩
abbrev cX7_append : ByteArray := prog_1_method_2_code
def yX7_append : MethodName := ⟨RX7, "append", "(I)I"⟩
abbrev cX7_clearText : ByteArray := prog_1_method_3_code
def yX7_clearText : MethodName := ⟨RX7, "clearText", "()I"⟩
abbrev cX7_errorPosition : ByteArray := prog_1_method_4_code
def yX7_errorPosition : MethodName := ⟨RX7, "errorPosition", "()I"⟩
abbrev cX7_load : ByteArray := prog_1_method_5_code
def yX7_load : MethodName := ⟨RX7, "load", "()I"⟩
abbrev cX7_about : ByteArray := prog_1_method_6_code
def yX7_about : MethodName := ⟨RX7, "about", "(I)I"⟩
abbrev cX7_module : ByteArray := prog_1_method_7_code
def yX7_module : MethodName := ⟨RX7, "module", "(II)I"⟩
abbrev cX7_wire : ByteArray := prog_1_method_8_code
def yX7_wire : MethodName := ⟨RX7, "wire", "(II)I"⟩
abbrev cX7_between : ByteArray := prog_1_method_9_code
def yX7_between : MethodName := ⟨RX7, "between", "(II)I"⟩
abbrev cX7_addModule : ByteArray := prog_1_method_10_code
def yX7_addModule : MethodName := ⟨RX7, "addModule", "(II)I"⟩
abbrev cX7_lay : ByteArray := prog_1_method_11_code
def yX7_lay : MethodName := ⟨RX7, "lay", "(IIIII)I"⟩
abbrev cX7_cut : ByteArray := prog_1_method_12_code
def yX7_cut : MethodName := ⟨RX7, "cut", "(I)I"⟩
abbrev cX7_put : ByteArray := prog_1_method_13_code
def yX7_put : MethodName := ⟨RX7, "put", "(II)I"⟩
abbrev cX7_work : ByteArray := prog_1_method_14_code
def yX7_work : MethodName := ⟨RX7, "work", "(I)I"⟩
abbrev cX7_round : ByteArray := prog_1_method_15_code
def yX7_round : MethodName := ⟨RX7, "round", "(I)I"⟩
abbrev cX7_undo : ByteArray := prog_1_method_16_code
def yX7_undo : MethodName := ⟨RX7, "undo", "()I"⟩
abbrev cX7_order : ByteArray := prog_1_method_17_code
def yX7_order : MethodName := ⟨RX7, "order", "(II)I"⟩
abbrev cX7_sticks : ByteArray := prog_1_method_18_code
def yX7_sticks : MethodName := ⟨RX7, "sticks", "(I)I"⟩
abbrev cX7_holds : ByteArray := prog_1_method_19_code
def yX7_holds : MethodName := ⟨RX7, "holds", "(II)I"⟩
abbrev cX7_bestRule : ByteArray := prog_1_method_20_code
def yX7_bestRule : MethodName := ⟨RX7, "bestRule", "()I"⟩
abbrev cX7_fewest : ByteArray := prog_1_method_21_code
def yX7_fewest : MethodName := ⟨RX7, "fewest", "(I)I"⟩
abbrev cX7_agrees : ByteArray := prog_1_method_22_code
def yX7_agrees : MethodName := ⟨RX7, "agrees", "(II)I"⟩
abbrev cX7_runScript : ByteArray := prog_1_method_23_code
def yX7_runScript : MethodName := ⟨RX7, "runScript", "(IJ)I"⟩
abbrev cX7_simulate : ByteArray := prog_1_method_24_code
def yX7_simulate : MethodName := ⟨RX7, "simulate", "(JI)I"⟩
abbrev cX7_save : ByteArray := prog_1_method_25_code
def yX7_save : MethodName := ⟨RX7, "save", "(I)I"⟩
abbrev cX7_restore : ByteArray := prog_1_method_26_code
def yX7_restore : MethodName := ⟨RX7, "restore", "(I)I"⟩
abbrev cX7_refuse : ByteArray := prog_1_method_27_code
def yX7_refuse : MethodName := ⟨RX7, "refuse", "(LRateWires$Fault;)V"⟩
abbrev cX7_range : ByteArray := prog_1_method_28_code
def yX7_range : MethodName := ⟨RX7, "range", "(III)LRateWires$Fault;"⟩
abbrev cX7_ruleFault : ByteArray := prog_1_method_29_code
def yX7_ruleFault : MethodName := ⟨RX7, "ruleFault", "(I)LRateWires$Fault;"⟩
abbrev cX7_slotFault : ByteArray := prog_1_method_30_code
def yX7_slotFault : MethodName := ⟨RX7, "slotFault", "(I)LRateWires$Fault;"⟩
abbrev cX7_isCompleteWith : ByteArray := prog_1_method_31_code
def yX7_isCompleteWith : MethodName := ⟨RX7, "isCompleteWith", "(II)Z"⟩
abbrev cX7_obeysText : ByteArray := prog_1_method_32_code
def yX7_obeysText : MethodName := ⟨RX7, "obeysText", "(I)Z"⟩
abbrev cX7_withoutGroups : ByteArray := prog_1_method_33_code
def yX7_withoutGroups : MethodName := ⟨RX7, "withoutGroups", "(JI)J"⟩
abbrev cX7_obeysGroup : ByteArray := prog_1_method_34_code
def yX7_obeysGroup : MethodName := ⟨RX7, "obeysGroup", "(I)Z"⟩
abbrev cX7_takeTurn : ByteArray := prog_1_method_35_code
def yX7_takeTurn : MethodName := ⟨RX7, "takeTurn", "(I)I"⟩
def RX8 : String := "RateWiresModel"
def TX8 : u_T := fun k => match k with
  | 0 => ("RateWiresModel", "refusal", "I", false)
  | 1 => ("RateWiresModel", "script", "[I", true)
  | 2 => ("RateWiresModel", "scriptSize", "I", false)
  | 3 => ("RateWiresModel", "spot", "I", false)
  | 4 => ("RateWiresModel", "isGood", "Z", false)
  | 5 => ("RateWiresModel", "leftOut", "I", false)
  | 6 => ("RateWiresModel", "read", "[I", true)
  | 7 => ("RateWiresModel", "now", "[I", true)
  | 8 => ("RateWiresModel", "trial", "[I", true)
  | 9 => ("RateWiresModel", "diary", "[I", true)
  | 10 => ("RateWiresModel", "acts", "I", false)
  | 11 => ("RateWiresModel", "kept", "[I", true)
  | 12 => ("RateWiresModel", "isKept", "[Z", true)
  | 13 => ("RateWiresModel", "due", "[I", true)
  | 14 => ("RateWiresModel", "part", "[I", true)
  | 15 => ("RateWiresModel", "partMany", "I", false)
  | 16 => ("RateWiresModel", "over", "[J", true)
  | 17 => ("RateWiresModel", "under", "[J", true)
  | 18 => ("RateWiresModel", "done", "[I", true)
  | 19 => ("RateWiresModel", "order", "[I", true)
  | 20 => ("RateWiresModel", "orderMany", "I", false)
  | 21 => ("RateWiresModel", "most", "[I", true)
  | 22 => ("RateWiresModel", "isComplete", "Z", false)
  | 23 => ("RateWiresModel", "reach", "[I", true)
  | _ => ("RateWiresModel", "beforeRound", "[I", true)
def tyX8 : Nat → FieldType := fun k => match k with
  | 0 => .int
  | 1 => .array .int
  | 2 => .int
  | 3 => .int
  | 4 => .boolean
  | 5 => .int
  | 6 => .array .int
  | 7 => .array .int
  | 8 => .array .int
  | 9 => .array .int
  | 10 => .int
  | 11 => .array .int
  | 12 => .array .boolean
  | 13 => .array .int
  | 14 => .array .int
  | 15 => .int
  | 16 => .array .long
  | 17 => .array .long
  | 18 => .array .int
  | 19 => .array .int
  | 20 => .int
  | 21 => .array .int
  | 22 => .boolean
  | 23 => .array .int
  | _ => .array .int
abbrev wsX80 : List Cond := u_ws RX8 TX8 25
theorem nmX8 : ∀ a, a < 25 → ∀ b, b < 25 → a ≠ b → (TX8 a).2.1 ≠ (TX8 b).2.1 := by decide +kernel
theorem tyX8_ok : ∀ k, k < 25 → parseFieldDescriptor (TX8 k).2.2.1 = some (tyX8 k) := by decide +kernel
abbrev cX8_init : ByteArray := prog_10_method_1_code
def yX8_init : MethodName := ⟨RX8, "<init>", "()V"⟩
abbrev cX8_thrown : ByteArray := prog_10_method_2_code
def yX8_thrown : MethodName := ⟨RX8, "thrown", "()I"⟩
abbrev cX8_refused : ByteArray := prog_10_method_3_code
def yX8_refused : MethodName := ⟨RX8, "refused", "(I)Z"⟩
abbrev cX8_in : ByteArray := prog_10_method_4_code
def yX8_in : MethodName := ⟨RX8, "in", "(JJJ)Z"⟩
abbrev cX8_copy : ByteArray := prog_10_method_5_code
def yX8_copy : MethodName := ⟨RX8, "copy", "([II[III)V"⟩
abbrev cX8_tenTo : ByteArray := prog_10_method_6_code
def yX8_tenTo : MethodName := ⟨RX8, "tenTo", "(I)J"⟩
abbrev cX8_remember : ByteArray := prog_10_method_7_code
def yX8_remember : MethodName := ⟨RX8, "remember", "()V"⟩
abbrev cX8_tryIt : ByteArray := prog_10_method_8_code
def yX8_tryIt : MethodName := ⟨RX8, "tryIt", "()V"⟩
abbrev cX8_moduleAt : ByteArray := prog_10_method_9_code
def yX8_moduleAt : MethodName := ⟨RX8, "moduleAt", "(II)I"⟩
abbrev cX8_wireAt : ByteArray := prog_10_method_10_code
def yX8_wireAt : MethodName := ⟨RX8, "wireAt", "(II)I"⟩
abbrev cX8_marks : ByteArray := prog_10_method_11_code
def yX8_marks : MethodName := ⟨RX8, "marks", "([I)I"⟩
abbrev cX8_works : ByteArray := prog_10_method_12_code
def yX8_works : MethodName := ⟨RX8, "works", "([I)I"⟩
abbrev cX8_layWays : ByteArray := prog_10_method_13_code
def yX8_layWays : MethodName := ⟨RX8, "layWays", "([II)V"⟩
abbrev cX8_isDead : ByteArray := prog_10_method_14_code
def yX8_isDead : MethodName := ⟨RX8, "isDead", "([III)Z"⟩
abbrev cX8_divisor : ByteArray := prog_10_method_15_code
def yX8_divisor : MethodName := ⟨RX8, "divisor", "(JJ)J"⟩
abbrev cX8_setWorks : ByteArray := prog_10_method_16_code
def yX8_setWorks : MethodName := ⟨RX8, "setWorks", "(IJJ)V"⟩
abbrev cX8_spread : ByteArray := prog_10_method_17_code
def yX8_spread : MethodName := ⟨RX8, "spread", "([III)Z"⟩
abbrev cX8_layParts : ByteArray := prog_10_method_18_code
def yX8_layParts : MethodName := ⟨RX8, "layParts", "([I)V"⟩
abbrev cX8_layWorks : ByteArray := prog_10_method_19_code
def yX8_layWorks : MethodName := ⟨RX8, "layWorks", "([I)Z"⟩
abbrev cX8_dueTogether : ByteArray := prog_10_method_20_code
def yX8_dueTogether : MethodName := ⟨RX8, "dueTogether", "()I"⟩
abbrev cX8_canWork : ByteArray := prog_10_method_21_code
def yX8_canWork : MethodName := ⟨RX8, "canWork", "([II)Z"⟩
abbrev cX8_workIn : ByteArray := prog_10_method_22_code
def yX8_workIn : MethodName := ⟨RX8, "workIn", "([II)V"⟩
abbrev cX8_gain : ByteArray := prog_10_method_23_code
def yX8_gain : MethodName := ⟨RX8, "gain", "([II)I"⟩
abbrev cX8_choice : ByteArray := prog_10_method_24_code
def yX8_choice : MethodName := ⟨RX8, "choice", "([III)I"⟩
abbrev cX8_note : ByteArray := prog_10_method_25_code
def yX8_note : MethodName := ⟨RX8, "note", "([I)V"⟩
abbrev cX8_play : ByteArray := prog_10_method_26_code
def yX8_play : MethodName := ⟨RX8, "play", "([II)V"⟩
abbrev cX8_tryRound : ByteArray := prog_10_method_27_code
def yX8_tryRound : MethodName := ⟨RX8, "tryRound", "(I)Z"⟩
abbrev cX8_cutIn : ByteArray := prog_10_method_28_code
def yX8_cutIn : MethodName := ⟨RX8, "cutIn", "([II)V"⟩
abbrev cX8_add : ByteArray := prog_10_method_29_code
def yX8_add : MethodName := ⟨RX8, "add", "([III)V"⟩
abbrev cX8_canLay : ByteArray := prog_10_method_30_code
def yX8_canLay : MethodName := ⟨RX8, "canLay", "([IIII)Z"⟩
abbrev cX8_layIn : ByteArray := prog_10_method_31_code
def yX8_layIn : MethodName := ⟨RX8, "layIn", "([IIIIII)V"⟩
abbrev cX8_canPut : ByteArray := prog_10_method_32_code
def yX8_canPut : MethodName := ⟨RX8, "canPut", "([III)Z"⟩
abbrev cX8_append : ByteArray := prog_10_method_33_code
def yX8_append : MethodName := ⟨RX8, "append", "(I)I"⟩
abbrev cX8_clearText : ByteArray := prog_10_method_34_code
def yX8_clearText : MethodName := ⟨RX8, "clearText", "()I"⟩
abbrev cX8_isNext : ByteArray := prog_10_method_35_code
def yX8_isNext : MethodName := ⟨RX8, "isNext", "(I)Z"⟩
abbrev cX8_accept : ByteArray := prog_10_method_36_code
def yX8_accept : MethodName := ⟨RX8, "accept", "(Z)V"⟩
abbrev cX8_digit : ByteArray := prog_10_method_37_code
def yX8_digit : MethodName := ⟨RX8, "digit", "(II)I"⟩
abbrev cX8_goes : ByteArray := prog_10_method_38_code
def yX8_goes : MethodName := ⟨RX8, "goes", "(Z)Z"⟩
abbrev cX8_readModule : ByteArray := prog_10_method_39_code
def yX8_readModule : MethodName := ⟨RX8, "readModule", "()V"⟩
abbrev cX8_readWire : ByteArray := prog_10_method_40_code
def yX8_readWire : MethodName := ⟨RX8, "readWire", "()V"⟩
abbrev cX8_readCut : ByteArray := prog_10_method_41_code
def yX8_readCut : MethodName := ⟨RX8, "readCut", "()V"⟩
abbrev cX8_readWork : ByteArray := prog_10_method_42_code
def yX8_readWork : MethodName := ⟨RX8, "readWork", "()V"⟩
abbrev cX8_readCommand : ByteArray := prog_10_method_43_code
def yX8_readCommand : MethodName := ⟨RX8, "readCommand", "()V"⟩
abbrev cX8_readText : ByteArray := prog_10_method_44_code
def yX8_readText : MethodName := ⟨RX8, "readText", "()I"⟩
abbrev cX8_errorPosition : ByteArray := prog_10_method_45_code
def yX8_errorPosition : MethodName := ⟨RX8, "errorPosition", "()I"⟩
abbrev cX8_load : ByteArray := prog_10_method_46_code
def yX8_load : MethodName := ⟨RX8, "load", "()I"⟩
abbrev cX8_workers : ByteArray := prog_10_method_47_code
def yX8_workers : MethodName := ⟨RX8, "workers", "()I"⟩
abbrev cX8_loopers : ByteArray := prog_10_method_48_code
def yX8_loopers : MethodName := ⟨RX8, "loopers", "()I"⟩
abbrev cX8_about : ByteArray := prog_10_method_49_code
def yX8_about : MethodName := ⟨RX8, "about", "(I)I"⟩
abbrev cX8_isModule : ByteArray := prog_10_method_50_code
def yX8_isModule : MethodName := ⟨RX8, "isModule", "(I)Z"⟩
abbrev cX8_wiresOf : ByteArray := prog_10_method_51_code
def yX8_wiresOf : MethodName := ⟨RX8, "wiresOf", "(II)I"⟩
abbrev cX8_module : ByteArray := prog_10_method_52_code
def yX8_module : MethodName := ⟨RX8, "module", "(II)I"⟩
abbrev cX8_isWire : ByteArray := prog_10_method_53_code
def yX8_isWire : MethodName := ⟨RX8, "isWire", "(I)Z"⟩
abbrev cX8_wire : ByteArray := prog_10_method_54_code
def yX8_wire : MethodName := ⟨RX8, "wire", "(II)I"⟩
abbrev cX8_between : ByteArray := prog_10_method_55_code
def yX8_between : MethodName := ⟨RX8, "between", "(II)I"⟩
abbrev cX8_isKind : ByteArray := prog_10_method_56_code
def yX8_isKind : MethodName := ⟨RX8, "isKind", "(I)Z"⟩
abbrev cX8_addModule : ByteArray := prog_10_method_57_code
def yX8_addModule : MethodName := ⟨RX8, "addModule", "(II)I"⟩
abbrev cX8_isRate : ByteArray := prog_10_method_58_code
def yX8_isRate : MethodName := ⟨RX8, "isRate", "(I)Z"⟩
abbrev cX8_isMarks : ByteArray := prog_10_method_59_code
def yX8_isMarks : MethodName := ⟨RX8, "isMarks", "(I)Z"⟩
abbrev cX8_lay : ByteArray := prog_10_method_60_code
def yX8_lay : MethodName := ⟨RX8, "lay", "(IIIII)I"⟩
abbrev cX8_cut : ByteArray := prog_10_method_61_code
def yX8_cut : MethodName := ⟨RX8, "cut", "(I)I"⟩
abbrev cX8_put : ByteArray := prog_10_method_62_code
def yX8_put : MethodName := ⟨RX8, "put", "(II)I"⟩
abbrev cX8_work : ByteArray := prog_10_method_63_code
def yX8_work : MethodName := ⟨RX8, "work", "(I)I"⟩
abbrev cX8_isRule : ByteArray := prog_10_method_64_code
def yX8_isRule : MethodName := ⟨RX8, "isRule", "(I)Z"⟩
abbrev cX8_round : ByteArray := prog_10_method_65_code
def yX8_round : MethodName := ⟨RX8, "round", "(I)I"⟩
abbrev cX8_undo : ByteArray := prog_10_method_66_code
def yX8_undo : MethodName := ⟨RX8, "undo", "()I"⟩
abbrev cX8_order : ByteArray := prog_10_method_67_code
def yX8_order : MethodName := ⟨RX8, "order", "(II)I"⟩
abbrev cX8_sticks : ByteArray := prog_10_method_68_code
def yX8_sticks : MethodName := ⟨RX8, "sticks", "(I)I"⟩
abbrev cX8_holds : ByteArray := prog_10_method_69_code
def yX8_holds : MethodName := ⟨RX8, "holds", "(II)I"⟩
abbrev cX8_bestRule : ByteArray := prog_10_method_70_code
def yX8_bestRule : MethodName := ⟨RX8, "bestRule", "()I"⟩
abbrev cX8_fewest : ByteArray := prog_10_method_71_code
def yX8_fewest : MethodName := ⟨RX8, "fewest", "(I)I"⟩
abbrev cX8_agrees : ByteArray := prog_10_method_72_code
def yX8_agrees : MethodName := ⟨RX8, "agrees", "(II)I"⟩
abbrev cX8_lays : ByteArray := prog_10_method_73_code
def yX8_lays : MethodName := ⟨RX8, "lays", "(IIIII)Z"⟩
abbrev cX8_cuts : ByteArray := prog_10_method_74_code
def yX8_cuts : MethodName := ⟨RX8, "cuts", "(I)Z"⟩
abbrev cX8_puts : ByteArray := prog_10_method_75_code
def yX8_puts : MethodName := ⟨RX8, "puts", "(II)Z"⟩
abbrev cX8_worksOne : ByteArray := prog_10_method_76_code
def yX8_worksOne : MethodName := ⟨RX8, "worksOne", "(I)Z"⟩
abbrev cX8_rounds : ByteArray := prog_10_method_77_code
def yX8_rounds : MethodName := ⟨RX8, "rounds", "(I)Z"⟩
abbrev cX8_does : ByteArray := prog_10_method_78_code
def yX8_does : MethodName := ⟨RX8, "does", "(I)Z"⟩
abbrev cX8_runScript : ByteArray := prog_10_method_79_code
def yX8_runScript : MethodName := ⟨RX8, "runScript", "(IJ)I"⟩
abbrev cX8_stir : ByteArray := prog_10_method_80_code
def yX8_stir : MethodName := ⟨RX8, "stir", "(I)V"⟩
abbrev cX8_simulate : ByteArray := prog_10_method_81_code
def yX8_simulate : MethodName := ⟨RX8, "simulate", "(JI)I"⟩
abbrev cX8_save : ByteArray := prog_10_method_82_code
def yX8_save : MethodName := ⟨RX8, "save", "(I)I"⟩
abbrev cX8_restore : ByteArray := prog_10_method_83_code
def yX8_restore : MethodName := ⟨RX8, "restore", "(I)I"⟩
def RJx29ce0 : String := "java/lang/Enum"
def TJx29ce0 : u_T := fun k => match k with
  | _ => ("", "", "", false)
def tyJx29ce0 : Nat → FieldType := fun k => match k with
  | _ => .int
abbrev wsJx29ce00 : List Cond := u_ws RJx29ce0 TJx29ce0 0
theorem nmJx29ce0 : ∀ a, a < 0 → ∀ b, b < 0 → a ≠ b → (TJx29ce0 a).2.1 ≠ (TJx29ce0 b).2.1 := by decide +kernel
theorem tyJx29ce0_ok : ∀ k, k < 0 → parseFieldDescriptor (TJx29ce0 k).2.2.1 = some (tyJx29ce0 k) := by decide +kernel
def RJ9 : String := "java/lang/Math"
def TJ9 : u_T := fun k => match k with
  | _ => ("", "", "", false)
def tyJ9 : Nat → FieldType := fun k => match k with
  | _ => .int
abbrev wsJ90 : List Cond := u_ws RJ9 TJ9 0
theorem nmJ9 : ∀ a, a < 0 → ∀ b, b < 0 → a ≠ b → (TJ9 a).2.1 ≠ (TJ9 b).2.1 := by decide +kernel
theorem tyJ9_ok : ∀ k, k < 0 → parseFieldDescriptor (TJ9 k).2.2.1 = some (tyJ9 k) := by decide +kernel
abbrev cJ9_max_7cf53 : ByteArray := prog_16_method_65_code
def yJ9_max_7cf53 : MethodName := ⟨RJ9, "max", "(II)I"⟩
abbrev cJ9_min_7cf53 : ByteArray := prog_16_method_69_code
def yJ9_min_7cf53 : MethodName := ⟨RJ9, "min", "(II)I"⟩
def RJ0 : String := "java/lang/String"
def TJ0 : u_T := fun k => match k with
  | _ => ("", "", "", false)
def tyJ0 : Nat → FieldType := fun k => match k with
  | _ => .int
abbrev wsJ00 : List Cond := u_ws RJ0 TJ0 0
theorem nmJ0 : ∀ a, a < 0 → ∀ b, b < 0 → a ≠ b → (TJ0 a).2.1 ≠ (TJ0 b).2.1 := by decide +kernel
theorem tyJ0_ok : ∀ k, k < 0 → parseFieldDescriptor (TJ0 k).2.2.1 = some (tyJ0 k) := by decide +kernel
def RJ10 : String := "java/lang/System"
def TJ10 : u_T := fun k => match k with
  | _ => ("", "", "", false)
def tyJ10 : Nat → FieldType := fun k => match k with
  | _ => .int
abbrev wsJ100 : List Cond := u_ws RJ10 TJ10 0
theorem nmJ10 : ∀ a, a < 0 → ∀ b, b < 0 → a ≠ b → (TJ10 a).2.1 ≠ (TJ10 b).2.1 := by decide +kernel
theorem tyJ10_ok : ∀ k, k < 0 → parseFieldDescriptor (TJ10 k).2.2.1 = some (tyJ10 k) := by decide +kernel
def RL : String := "RateWiresLaw"
abbrev cL_append : ByteArray := method_3_code
def yL_append : MethodName := ⟨RL, "append", "(LRateWires;I[J)I"⟩
abbrev cL_load : ByteArray := method_4_code
def yL_load : MethodName := ⟨RL, "load", "(LRateWires;[J)I"⟩
abbrev cL_about : ByteArray := method_5_code
def yL_about : MethodName := ⟨RL, "about", "(LRateWires;I[J)I"⟩
abbrev cL_module : ByteArray := method_6_code
def yL_module : MethodName := ⟨RL, "module", "(LRateWires;II[J)I"⟩
abbrev cL_wire : ByteArray := method_7_code
def yL_wire : MethodName := ⟨RL, "wire", "(LRateWires;II[J)I"⟩
abbrev cL_between : ByteArray := method_8_code
def yL_between : MethodName := ⟨RL, "between", "(LRateWires;II[J)I"⟩
abbrev cL_addModule : ByteArray := method_9_code
def yL_addModule : MethodName := ⟨RL, "addModule", "(LRateWires;II[J)I"⟩
abbrev cL_lay : ByteArray := method_10_code
def yL_lay : MethodName := ⟨RL, "lay", "(LRateWires;IIIII[J)I"⟩
abbrev cL_cut : ByteArray := method_11_code
def yL_cut : MethodName := ⟨RL, "cut", "(LRateWires;I[J)I"⟩
abbrev cL_put : ByteArray := method_12_code
def yL_put : MethodName := ⟨RL, "put", "(LRateWires;II[J)I"⟩
abbrev cL_work : ByteArray := method_13_code
def yL_work : MethodName := ⟨RL, "work", "(LRateWires;I[J)I"⟩
abbrev cL_round : ByteArray := method_14_code
def yL_round : MethodName := ⟨RL, "round", "(LRateWires;I[J)I"⟩
abbrev cL_undo : ByteArray := method_15_code
def yL_undo : MethodName := ⟨RL, "undo", "(LRateWires;[J)I"⟩
abbrev cL_order : ByteArray := method_16_code
def yL_order : MethodName := ⟨RL, "order", "(LRateWires;II[J)I"⟩
abbrev cL_sticks : ByteArray := method_17_code
def yL_sticks : MethodName := ⟨RL, "sticks", "(LRateWires;I[J)I"⟩
abbrev cL_holds : ByteArray := method_18_code
def yL_holds : MethodName := ⟨RL, "holds", "(LRateWires;II[J)I"⟩
abbrev cL_fewest : ByteArray := method_19_code
def yL_fewest : MethodName := ⟨RL, "fewest", "(LRateWires;I[J)I"⟩
abbrev cL_agrees : ByteArray := method_20_code
def yL_agrees : MethodName := ⟨RL, "agrees", "(LRateWires;II[J)I"⟩
abbrev cL_runScript : ByteArray := method_21_code
def yL_runScript : MethodName := ⟨RL, "runScript", "(LRateWires;IJ[J)I"⟩
abbrev cL_simulate : ByteArray := method_22_code
def yL_simulate : MethodName := ⟨RL, "simulate", "(LRateWires;JI[J)I"⟩
abbrev cL_save : ByteArray := method_23_code
def yL_save : MethodName := ⟨RL, "save", "(LRateWires;I[J)I"⟩
abbrev cL_restore : ByteArray := method_24_code
def yL_restore : MethodName := ⟨RL, "restore", "(LRateWires;I[J)I"⟩
abbrev cL_law : ByteArray := code
def yL_law : MethodName := ⟨RL, "law", "([I)Z"⟩
abbrev vwCl : List vw_C := [(RX0, TX0, 9), (RX2, TX2, 3), (RX3, TX3, 10), (RX4, TX4, 2), (RX5, TX5, 2), (RX6, TX6, 1), (RX7, TX7, 9), (RX8, TX8, 25)]
end
section
theorem dX0_init_0 : decode cX0_init 0 = .ok (.aload_n 0, 1) := by decide +kernel
theorem dX0_init_1 : decode cX0_init 1 = .ok (.invokespecial 3, 3) := by decide +kernel
theorem dX0_init_4 : decode cX0_init 4 = .ok (.aload_n 0, 1) := by decide +kernel
theorem dX0_init_5 : decode cX0_init 5 = .ok (.new 9, 3) := by decide +kernel
theorem dX0_init_8 : decode cX0_init 8 = .ok (.dup, 1) := by decide +kernel
theorem dX0_init_9 : decode cX0_init 9 = .ok (.invokespecial 11, 3) := by decide +kernel
theorem dX0_init_12 : decode cX0_init 12 = .ok (.putfield 12, 3) := by decide +kernel
theorem dX0_init_15 : decode cX0_init 15 = .ok (.aload_n 0, 1) := by decide +kernel
theorem dX0_init_16 : decode cX0_init 16 = .ok (.new 18, 3) := by decide +kernel
theorem dX0_init_19 : decode cX0_init 19 = .ok (.dup, 1) := by decide +kernel
theorem dX0_init_20 : decode cX0_init 20 = .ok (.invokespecial 20, 3) := by decide +kernel
theorem dX0_init_23 : decode cX0_init 23 = .ok (.putfield 21, 3) := by decide +kernel
theorem dX0_init_26 : decode cX0_init 26 = .ok (.aload_n 0, 1) := by decide +kernel
theorem dX0_init_27 : decode cX0_init 27 = .ok (.bipush 8, 2) := by decide +kernel
theorem dX0_init_29 : decode cX0_init 29 = .ok (.newarray .int, 2) := by decide +kernel
theorem dX0_init_31 : decode cX0_init 31 = .ok (.putfield 25, 3) := by decide +kernel
theorem dX0_init_34 : decode cX0_init 34 = .ok (.aload_n 0, 1) := by decide +kernel
theorem dX0_init_35 : decode cX0_init 35 = .ok (.bipush 8, 2) := by decide +kernel
theorem dX0_init_37 : decode cX0_init 37 = .ok (.newarray .int, 2) := by decide +kernel
theorem dX0_init_39 : decode cX0_init 39 = .ok (.putfield 29, 3) := by decide +kernel
theorem dX0_init_42 : decode cX0_init 42 = .ok (.aload_n 0, 1) := by decide +kernel
theorem dX0_init_43 : decode cX0_init 43 = .ok (.sipush 480, 3) := by decide +kernel
theorem dX0_init_46 : decode cX0_init 46 = .ok (.newarray .int, 2) := by decide +kernel
theorem dX0_init_48 : decode cX0_init 48 = .ok (.putfield 32, 3) := by decide +kernel
theorem dX0_init_51 : decode cX0_init 51 = .ok (.aload_n 0, 1) := by decide +kernel
theorem dX0_init_52 : decode cX0_init 52 = .ok (.bipush 14, 2) := by decide +kernel
theorem dX0_init_54 : decode cX0_init 54 = .ok (.newarray .int, 2) := by decide +kernel
theorem dX0_init_56 : decode cX0_init 56 = .ok (.putfield 35, 3) := by decide +kernel
theorem dX0_init_59 : decode cX0_init 59 = .ok (.return_, 1) := by decide +kernel
theorem dX0_follow_0 : decode cX0_follow 0 = .ok (.aload_n 0, 1) := by decide +kernel
theorem dX0_follow_1 : decode cX0_follow 1 = .ok (.getfield 21, 3) := by decide +kernel
theorem dX0_follow_4 : decode cX0_follow 4 = .ok (.aload_n 1, 1) := by decide +kernel
theorem dX0_follow_5 : decode cX0_follow 5 = .ok (.invokevirtual 38, 3) := by decide +kernel
theorem dX0_follow_8 : decode cX0_follow 8 = .ok (.aload_n 0, 1) := by decide +kernel
theorem dX0_follow_9 : decode cX0_follow 9 = .ok (.aload_n 0, 1) := by decide +kernel
theorem dX0_follow_10 : decode cX0_follow 10 = .ok (.getfield 12, 3) := by decide +kernel
theorem dX0_follow_13 : decode cX0_follow 13 = .ok (.aload_n 0, 1) := by decide +kernel
theorem dX0_follow_14 : decode cX0_follow 14 = .ok (.getfield 21, 3) := by decide +kernel
theorem dX0_follow_17 : decode cX0_follow 17 = .ok (.invokevirtual 42, 3) := by decide +kernel
theorem dX0_follow_20 : decode cX0_follow 20 = .ok (.putfield 46, 3) := by decide +kernel
theorem dX0_follow_23 : decode cX0_follow 23 = .ok (.aload_n 0, 1) := by decide +kernel
theorem dX0_follow_24 : decode cX0_follow 24 = .ok (.aload_n 0, 1) := by decide +kernel
theorem dX0_follow_25 : decode cX0_follow 25 = .ok (.getfield 46, 3) := by decide +kernel
theorem dX0_follow_28 : decode cX0_follow 28 = .ok (.ifCond .eq 13, 3) := by decide +kernel
theorem dX0_follow_31 : decode cX0_follow 31 = .ok (.aload_n 0, 1) := by decide +kernel
theorem dX0_follow_32 : decode cX0_follow 32 = .ok (.getfield 12, 3) := by decide +kernel
theorem dX0_follow_35 : decode cX0_follow 35 = .ok (.invokevirtual 50, 3) := by decide +kernel
theorem dX0_follow_38 : decode cX0_follow 38 = .ok (.goto 4, 3) := by decide +kernel
theorem dX0_follow_41 : decode cX0_follow 41 = .ok (.iconst 0, 1) := by decide +kernel
theorem dX0_follow_42 : decode cX0_follow 42 = .ok (.putfield 54, 3) := by decide +kernel
theorem dX0_follow_45 : decode cX0_follow 45 = .ok (.aload_n 0, 1) := by decide +kernel
theorem dX0_follow_46 : decode cX0_follow 46 = .ok (.iconst 0, 1) := by decide +kernel
theorem dX0_follow_47 : decode cX0_follow 47 = .ok (.putfield 57, 3) := by decide +kernel
theorem dX0_follow_50 : decode cX0_follow 50 = .ok (.aload_n 0, 1) := by decide +kernel
theorem dX0_follow_51 : decode cX0_follow 51 = .ok (.getfield 46, 3) := by decide +kernel
theorem dX0_follow_54 : decode cX0_follow 54 = .ok (.ifCond .ne 4, 3) := by decide +kernel
theorem dX0_follow_57 : decode cX0_follow 57 = .ok (.return_, 1) := by decide +kernel
theorem dX0_follow_58 : decode cX0_follow 58 = .ok (.iconst 0, 1) := by decide +kernel
theorem dX0_follow_59 : decode cX0_follow 59 = .ok (.istore_n 3, 1) := by decide +kernel
theorem dX0_follow_60 : decode cX0_follow 60 = .ok (.iload_n 3, 1) := by decide +kernel
theorem dX0_follow_61 : decode cX0_follow 61 = .ok (.aload_n 0, 1) := by decide +kernel
theorem dX0_follow_62 : decode cX0_follow 62 = .ok (.getfield 21, 3) := by decide +kernel
theorem dX0_follow_65 : decode cX0_follow 65 = .ok (.getfield 60, 3) := by decide +kernel
theorem dX0_follow_68 : decode cX0_follow 68 = .ok (.if_icmp .ge 38, 3) := by decide +kernel
theorem dX0_follow_71 : decode cX0_follow 71 = .ok (.aload_n 0, 1) := by decide +kernel
theorem dX0_follow_72 : decode cX0_follow 72 = .ok (.getfield 25, 3) := by decide +kernel
theorem dX0_follow_75 : decode cX0_follow 75 = .ok (.iload_n 3, 1) := by decide +kernel
theorem dX0_follow_76 : decode cX0_follow 76 = .ok (.aload_n 0, 1) := by decide +kernel
theorem dX0_follow_77 : decode cX0_follow 77 = .ok (.getfield 12, 3) := by decide +kernel
theorem dX0_follow_80 : decode cX0_follow 80 = .ok (.getfield 63, 3) := by decide +kernel
theorem dX0_follow_83 : decode cX0_follow 83 = .ok (.iload_n 3, 1) := by decide +kernel
theorem dX0_follow_84 : decode cX0_follow 84 = .ok (.iaload, 1) := by decide +kernel
theorem dX0_follow_85 : decode cX0_follow 85 = .ok (.iastore, 1) := by decide +kernel
theorem dX0_follow_86 : decode cX0_follow 86 = .ok (.aload_n 0, 1) := by decide +kernel
theorem dX0_follow_87 : decode cX0_follow 87 = .ok (.getfield 29, 3) := by decide +kernel
theorem dX0_follow_90 : decode cX0_follow 90 = .ok (.iload_n 3, 1) := by decide +kernel
theorem dX0_follow_91 : decode cX0_follow 91 = .ok (.aload_n 0, 1) := by decide +kernel
theorem dX0_follow_92 : decode cX0_follow 92 = .ok (.getfield 21, 3) := by decide +kernel
theorem dX0_follow_95 : decode cX0_follow 95 = .ok (.iload_n 3, 1) := by decide +kernel
theorem dX0_follow_96 : decode cX0_follow 96 = .ok (.invokevirtual 66, 3) := by decide +kernel
theorem dX0_follow_99 : decode cX0_follow 99 = .ok (.iastore, 1) := by decide +kernel
theorem dX0_follow_100 : decode cX0_follow 100 = .ok (.iinc 3 1, 3) := by decide +kernel
theorem dX0_follow_103 : decode cX0_follow 103 = .ok (.goto (-43), 3) := by decide +kernel
theorem dX0_follow_106 : decode cX0_follow 106 = .ok (.iconst 0, 1) := by decide +kernel
theorem dX0_follow_107 : decode cX0_follow 107 = .ok (.istore_n 3, 1) := by decide +kernel
theorem dX0_follow_108 : decode cX0_follow 108 = .ok (.iload_n 3, 1) := by decide +kernel
theorem dX0_follow_109 : decode cX0_follow 109 = .ok (.aload_n 0, 1) := by decide +kernel
theorem dX0_follow_110 : decode cX0_follow 110 = .ok (.getfield 21, 3) := by decide +kernel
theorem dX0_follow_113 : decode cX0_follow 113 = .ok (.getfield 70, 3) := by decide +kernel
theorem dX0_follow_116 : decode cX0_follow 116 = .ok (.if_icmp .ge 24, 3) := by decide +kernel
theorem dX0_follow_119 : decode cX0_follow 119 = .ok (.aload_n 0, 1) := by decide +kernel
theorem dX0_follow_120 : decode cX0_follow 120 = .ok (.getfield 35, 3) := by decide +kernel
theorem dX0_follow_123 : decode cX0_follow 123 = .ok (.iload_n 3, 1) := by decide +kernel
theorem dX0_follow_124 : decode cX0_follow 124 = .ok (.aload_n 0, 1) := by decide +kernel
theorem dX0_follow_125 : decode cX0_follow 125 = .ok (.getfield 21, 3) := by decide +kernel
theorem dX0_follow_128 : decode cX0_follow 128 = .ok (.getfield 73, 3) := by decide +kernel
theorem dX0_follow_131 : decode cX0_follow 131 = .ok (.iload_n 3, 1) := by decide +kernel
theorem dX0_follow_132 : decode cX0_follow 132 = .ok (.iaload, 1) := by decide +kernel
theorem dX0_follow_133 : decode cX0_follow 133 = .ok (.iastore, 1) := by decide +kernel
theorem dX0_follow_134 : decode cX0_follow 134 = .ok (.iinc 3 1, 3) := by decide +kernel
theorem dX0_follow_137 : decode cX0_follow 137 = .ok (.goto (-29), 3) := by decide +kernel
theorem dX0_follow_140 : decode cX0_follow 140 = .ok (.aload_n 0, 1) := by decide +kernel
theorem dX0_follow_141 : decode cX0_follow 141 = .ok (.iload_n 2, 1) := by decide +kernel
theorem dX0_follow_142 : decode cX0_follow 142 = .ok (.invokevirtual 76, 3) := by decide +kernel
theorem dX0_follow_145 : decode cX0_follow 145 = .ok (.istore_n 3, 1) := by decide +kernel
theorem dX0_follow_146 : decode cX0_follow 146 = .ok (.iload_n 3, 1) := by decide +kernel
theorem dX0_follow_147 : decode cX0_follow 147 = .ok (.iconst (-1), 1) := by decide +kernel
theorem dX0_follow_148 : decode cX0_follow 148 = .ok (.if_icmp .eq 40, 3) := by decide +kernel
theorem dX0_follow_151 : decode cX0_follow 151 = .ok (.aload_n 0, 1) := by decide +kernel
theorem dX0_follow_152 : decode cX0_follow 152 = .ok (.getfield 57, 3) := by decide +kernel
theorem dX0_follow_155 : decode cX0_follow 155 = .ok (.aload_n 0, 1) := by decide +kernel
theorem dX0_follow_156 : decode cX0_follow 156 = .ok (.getfield 54, 3) := by decide +kernel
theorem dX0_follow_159 : decode cX0_follow 159 = .ok (.if_icmp .ge 29, 3) := by decide +kernel
theorem dX0_follow_162 : decode cX0_follow 162 = .ok (.aload_n 0, 1) := by decide +kernel
theorem dX0_follow_163 : decode cX0_follow 163 = .ok (.getfield 57, 3) := by decide +kernel
theorem dX0_follow_166 : decode cX0_follow 166 = .ok (.aload_n 0, 1) := by decide +kernel
theorem dX0_follow_167 : decode cX0_follow 167 = .ok (.getfield 32, 3) := by decide +kernel
theorem dX0_follow_170 : decode cX0_follow 170 = .ok (.arraylength, 1) := by decide +kernel
theorem dX0_follow_171 : decode cX0_follow 171 = .ok (.if_icmp .ge 17, 3) := by decide +kernel
theorem dX0_follow_174 : decode cX0_follow 174 = .ok (.aload_n 0, 1) := by decide +kernel
theorem dX0_follow_175 : decode cX0_follow 175 = .ok (.iload_n 3, 1) := by decide +kernel
theorem dX0_follow_176 : decode cX0_follow 176 = .ok (.invokevirtual 79, 3) := by decide +kernel
theorem dX0_follow_179 : decode cX0_follow 179 = .ok (.aload_n 0, 1) := by decide +kernel
theorem dX0_follow_180 : decode cX0_follow 180 = .ok (.iload_n 2, 1) := by decide +kernel
theorem dX0_follow_181 : decode cX0_follow 181 = .ok (.invokevirtual 76, 3) := by decide +kernel
theorem dX0_follow_184 : decode cX0_follow 184 = .ok (.istore_n 3, 1) := by decide +kernel
theorem dX0_follow_185 : decode cX0_follow 185 = .ok (.goto (-39), 3) := by decide +kernel
theorem dX0_follow_188 : decode cX0_follow 188 = .ok (.return_, 1) := by decide +kernel
theorem dX0_isComplete_0 : decode cX0_isComplete 0 = .ok (.aload_n 0, 1) := by decide +kernel
theorem dX0_isComplete_1 : decode cX0_isComplete 1 = .ok (.getfield 46, 3) := by decide +kernel
theorem dX0_isComplete_4 : decode cX0_isComplete 4 = .ok (.ifCond .eq 18, 3) := by decide +kernel
theorem dX0_isComplete_7 : decode cX0_isComplete 7 = .ok (.aload_n 0, 1) := by decide +kernel
theorem dX0_isComplete_8 : decode cX0_isComplete 8 = .ok (.getfield 57, 3) := by decide +kernel
theorem dX0_isComplete_11 : decode cX0_isComplete 11 = .ok (.aload_n 0, 1) := by decide +kernel
theorem dX0_isComplete_12 : decode cX0_isComplete 12 = .ok (.getfield 54, 3) := by decide +kernel
theorem dX0_isComplete_15 : decode cX0_isComplete 15 = .ok (.if_icmp .ne 7, 3) := by decide +kernel
theorem dX0_isComplete_18 : decode cX0_isComplete 18 = .ok (.iconst 1, 1) := by decide +kernel
theorem dX0_isComplete_19 : decode cX0_isComplete 19 = .ok (.goto 4, 3) := by decide +kernel
theorem dX0_isComplete_22 : decode cX0_isComplete 22 = .ok (.iconst 0, 1) := by decide +kernel
theorem dX0_isComplete_23 : decode cX0_isComplete 23 = .ok (.ireturn, 1) := by decide +kernel
theorem dX0_step_0 : decode cX0_step 0 = .ok (.iload_n 1, 1) := by decide +kernel
theorem dX0_step_1 : decode cX0_step 1 = .ok (.ifCond .lt 20, 3) := by decide +kernel
theorem dX0_step_4 : decode cX0_step 4 = .ok (.iload_n 1, 1) := by decide +kernel
theorem dX0_step_5 : decode cX0_step 5 = .ok (.aload_n 0, 1) := by decide +kernel
theorem dX0_step_6 : decode cX0_step 6 = .ok (.getfield 57, 3) := by decide +kernel
theorem dX0_step_9 : decode cX0_step 9 = .ok (.if_icmp .ge 12, 3) := by decide +kernel
theorem dX0_step_12 : decode cX0_step 12 = .ok (.iload_n 1, 1) := by decide +kernel
theorem dX0_step_13 : decode cX0_step 13 = .ok (.aload_n 0, 1) := by decide +kernel
theorem dX0_step_14 : decode cX0_step 14 = .ok (.getfield 32, 3) := by decide +kernel
theorem dX0_step_17 : decode cX0_step 17 = .ok (.arraylength, 1) := by decide +kernel
theorem dX0_step_18 : decode cX0_step 18 = .ok (.if_icmp .lt 7, 3) := by decide +kernel
theorem dX0_step_21 : decode cX0_step 21 = .ok (.iconst (-1), 1) := by decide +kernel
theorem dX0_step_22 : decode cX0_step 22 = .ok (.goto 9, 3) := by decide +kernel
theorem dX0_step_25 : decode cX0_step 25 = .ok (.aload_n 0, 1) := by decide +kernel
theorem dX0_step_26 : decode cX0_step 26 = .ok (.getfield 32, 3) := by decide +kernel
theorem dX0_step_29 : decode cX0_step 29 = .ok (.iload_n 1, 1) := by decide +kernel
theorem dX0_step_30 : decode cX0_step 30 = .ok (.iaload, 1) := by decide +kernel
theorem dX0_step_31 : decode cX0_step 31 = .ok (.ireturn, 1) := by decide +kernel
theorem dX0_allMost_0 : decode cX0_allMost 0 = .ok (.iconst 0, 1) := by decide +kernel
theorem dX0_allMost_1 : decode cX0_allMost 1 = .ok (.istore_n 1, 1) := by decide +kernel
theorem dX0_allMost_2 : decode cX0_allMost 2 = .ok (.iconst 0, 1) := by decide +kernel
theorem dX0_allMost_3 : decode cX0_allMost 3 = .ok (.istore_n 2, 1) := by decide +kernel
theorem dX0_allMost_4 : decode cX0_allMost 4 = .ok (.iload_n 2, 1) := by decide +kernel
theorem dX0_allMost_5 : decode cX0_allMost 5 = .ok (.aload_n 0, 1) := by decide +kernel
theorem dX0_allMost_6 : decode cX0_allMost 6 = .ok (.getfield 21, 3) := by decide +kernel
theorem dX0_allMost_9 : decode cX0_allMost 9 = .ok (.getfield 70, 3) := by decide +kernel
theorem dX0_allMost_12 : decode cX0_allMost 12 = .ok (.if_icmp .ge 18, 3) := by decide +kernel
theorem dX0_allMost_15 : decode cX0_allMost 15 = .ok (.iload_n 1, 1) := by decide +kernel
theorem dX0_allMost_16 : decode cX0_allMost 16 = .ok (.aload_n 0, 1) := by decide +kernel
theorem dX0_allMost_17 : decode cX0_allMost 17 = .ok (.getfield 35, 3) := by decide +kernel
theorem dX0_allMost_20 : decode cX0_allMost 20 = .ok (.iload_n 2, 1) := by decide +kernel
theorem dX0_allMost_21 : decode cX0_allMost 21 = .ok (.iaload, 1) := by decide +kernel
theorem dX0_allMost_22 : decode cX0_allMost 22 = .ok (.iadd, 1) := by decide +kernel
theorem dX0_allMost_23 : decode cX0_allMost 23 = .ok (.istore_n 1, 1) := by decide +kernel
theorem dX0_allMost_24 : decode cX0_allMost 24 = .ok (.iinc 2 1, 3) := by decide +kernel
theorem dX0_allMost_27 : decode cX0_allMost 27 = .ok (.goto (-23), 3) := by decide +kernel
theorem dX0_allMost_30 : decode cX0_allMost 30 = .ok (.iload_n 1, 1) := by decide +kernel
theorem dX0_allMost_31 : decode cX0_allMost 31 = .ok (.ireturn, 1) := by decide +kernel
theorem dX0_takeOver_0 : decode cX0_takeOver 0 = .ok (.aload_n 1, 1) := by decide +kernel
theorem dX0_takeOver_1 : decode cX0_takeOver 1 = .ok (.aload_n 0, 1) := by decide +kernel
theorem dX0_takeOver_2 : decode cX0_takeOver 2 = .ok (.getfield 21, 3) := by decide +kernel
theorem dX0_takeOver_5 : decode cX0_takeOver 5 = .ok (.invokevirtual 38, 3) := by decide +kernel
theorem dX0_takeOver_8 : decode cX0_takeOver 8 = .ok (.aload_n 0, 1) := by decide +kernel
theorem dX0_takeOver_9 : decode cX0_takeOver 9 = .ok (.getfield 57, 3) := by decide +kernel
theorem dX0_takeOver_12 : decode cX0_takeOver 12 = .ok (.ireturn, 1) := by decide +kernel
theorem dX0_tries_0 : decode cX0_tries 0 = .ok (.iload_n 2, 1) := by decide +kernel
theorem dX0_tries_1 : decode cX0_tries 1 = .ok (.invokestatic 83, 3) := by decide +kernel
theorem dX0_tries_4 : decode cX0_tries 4 = .ok (.getstatic 87, 3) := by decide +kernel
theorem dX0_tries_7 : decode cX0_tries 7 = .ok (.if_acmp .eq 5, 3) := by decide +kernel
theorem dX0_tries_10 : decode cX0_tries 10 = .ok (.iconst 0, 1) := by decide +kernel
theorem dX0_tries_11 : decode cX0_tries 11 = .ok (.ireturn, 1) := by decide +kernel
theorem dX0_tries_12 : decode cX0_tries 12 = .ok (.aload_n 0, 1) := by decide +kernel
theorem dX0_tries_13 : decode cX0_tries 13 = .ok (.aload_n 1, 1) := by decide +kernel
theorem dX0_tries_14 : decode cX0_tries 14 = .ok (.iload_n 2, 1) := by decide +kernel
theorem dX0_tries_15 : decode cX0_tries 15 = .ok (.invokevirtual 93, 3) := by decide +kernel
theorem dX0_tries_18 : decode cX0_tries 18 = .ok (.aload_n 0, 1) := by decide +kernel
theorem dX0_tries_19 : decode cX0_tries 19 = .ok (.invokevirtual 97, 3) := by decide +kernel
theorem dX0_tries_22 : decode cX0_tries 22 = .ok (.ifCond .eq 9, 3) := by decide +kernel
theorem dX0_tries_25 : decode cX0_tries 25 = .ok (.aload_n 0, 1) := by decide +kernel
theorem dX0_tries_26 : decode cX0_tries 26 = .ok (.aload_n 1, 1) := by decide +kernel
theorem dX0_tries_27 : decode cX0_tries 27 = .ok (.invokevirtual 101, 3) := by decide +kernel
theorem dX0_tries_30 : decode cX0_tries 30 = .ok (.pop, 1) := by decide +kernel
theorem dX0_tries_31 : decode cX0_tries 31 = .ok (.aload_n 0, 1) := by decide +kernel
theorem dX0_tries_32 : decode cX0_tries 32 = .ok (.invokevirtual 97, 3) := by decide +kernel
theorem dX0_tries_35 : decode cX0_tries 35 = .ok (.ireturn, 1) := by decide +kernel
theorem dX0_take_0 : decode cX0_take 0 = .ok (.aload_n 0, 1) := by decide +kernel
theorem dX0_take_1 : decode cX0_take 1 = .ok (.getfield 32, 3) := by decide +kernel
theorem dX0_take_4 : decode cX0_take 4 = .ok (.aload_n 0, 1) := by decide +kernel
theorem dX0_take_5 : decode cX0_take 5 = .ok (.getfield 57, 3) := by decide +kernel
theorem dX0_take_8 : decode cX0_take 8 = .ok (.iload_n 1, 1) := by decide +kernel
theorem dX0_take_9 : decode cX0_take 9 = .ok (.iastore, 1) := by decide +kernel
theorem dX0_take_10 : decode cX0_take 10 = .ok (.aload_n 0, 1) := by decide +kernel
theorem dX0_take_11 : decode cX0_take 11 = .ok (.dup, 1) := by decide +kernel
theorem dX0_take_12 : decode cX0_take 12 = .ok (.getfield 57, 3) := by decide +kernel
theorem dX0_take_15 : decode cX0_take 15 = .ok (.iconst 1, 1) := by decide +kernel
theorem dX0_take_16 : decode cX0_take 16 = .ok (.iadd, 1) := by decide +kernel
theorem dX0_take_17 : decode cX0_take 17 = .ok (.putfield 57, 3) := by decide +kernel
theorem dX0_take_20 : decode cX0_take 20 = .ok (.aload_n 0, 1) := by decide +kernel
theorem dX0_take_21 : decode cX0_take 21 = .ok (.getfield 25, 3) := by decide +kernel
theorem dX0_take_24 : decode cX0_take 24 = .ok (.iload_n 1, 1) := by decide +kernel
theorem dX0_take_25 : decode cX0_take 25 = .ok (.dup2, 1) := by decide +kernel
theorem dX0_take_26 : decode cX0_take 26 = .ok (.iaload, 1) := by decide +kernel
theorem dX0_take_27 : decode cX0_take 27 = .ok (.iconst 1, 1) := by decide +kernel
theorem dX0_take_28 : decode cX0_take 28 = .ok (.isub, 1) := by decide +kernel
theorem dX0_take_29 : decode cX0_take 29 = .ok (.iastore, 1) := by decide +kernel
theorem dX0_take_30 : decode cX0_take 30 = .ok (.aload_n 0, 1) := by decide +kernel
theorem dX0_take_31 : decode cX0_take 31 = .ok (.getfield 21, 3) := by decide +kernel
theorem dX0_take_34 : decode cX0_take 34 = .ok (.iload_n 1, 1) := by decide +kernel
theorem dX0_take_35 : decode cX0_take 35 = .ok (.invokevirtual 105, 3) := by decide +kernel
theorem dX0_take_38 : decode cX0_take 38 = .ok (.iconst 0, 1) := by decide +kernel
theorem dX0_take_39 : decode cX0_take 39 = .ok (.istore_n 2, 1) := by decide +kernel
theorem dX0_take_40 : decode cX0_take 40 = .ok (.iload_n 2, 1) := by decide +kernel
theorem dX0_take_41 : decode cX0_take 41 = .ok (.aload_n 0, 1) := by decide +kernel
theorem dX0_take_42 : decode cX0_take 42 = .ok (.getfield 21, 3) := by decide +kernel
theorem dX0_take_45 : decode cX0_take 45 = .ok (.getfield 70, 3) := by decide +kernel
theorem dX0_take_48 : decode cX0_take 48 = .ok (.if_icmp .ge 33, 3) := by decide +kernel
theorem dX0_take_51 : decode cX0_take 51 = .ok (.aload_n 0, 1) := by decide +kernel
theorem dX0_take_52 : decode cX0_take 52 = .ok (.getfield 35, 3) := by decide +kernel
theorem dX0_take_55 : decode cX0_take 55 = .ok (.iload_n 2, 1) := by decide +kernel
theorem dX0_take_56 : decode cX0_take 56 = .ok (.aload_n 0, 1) := by decide +kernel
theorem dX0_take_57 : decode cX0_take 57 = .ok (.getfield 35, 3) := by decide +kernel
theorem dX0_take_60 : decode cX0_take 60 = .ok (.iload_n 2, 1) := by decide +kernel
theorem dX0_take_61 : decode cX0_take 61 = .ok (.iaload, 1) := by decide +kernel
theorem dX0_take_62 : decode cX0_take 62 = .ok (.aload_n 0, 1) := by decide +kernel
theorem dX0_take_63 : decode cX0_take 63 = .ok (.getfield 21, 3) := by decide +kernel
theorem dX0_take_66 : decode cX0_take 66 = .ok (.getfield 73, 3) := by decide +kernel
theorem dX0_take_69 : decode cX0_take 69 = .ok (.iload_n 2, 1) := by decide +kernel
theorem dX0_take_70 : decode cX0_take 70 = .ok (.iaload, 1) := by decide +kernel
theorem dX0_take_71 : decode cX0_take 71 = .ok (.invokestatic 108, 3) := by decide +kernel
theorem dX0_take_74 : decode cX0_take 74 = .ok (.iastore, 1) := by decide +kernel
theorem dX0_take_75 : decode cX0_take 75 = .ok (.iinc 2 1, 3) := by decide +kernel
theorem dX0_take_78 : decode cX0_take 78 = .ok (.goto (-38), 3) := by decide +kernel
theorem dX0_take_81 : decode cX0_take 81 = .ok (.return_, 1) := by decide +kernel
theorem dX0_choose_0 : decode cX0_choose 0 = .ok (.iload_n 1, 1) := by decide +kernel
theorem dX0_choose_1 : decode cX0_choose 1 = .ok (.iconst 2, 1) := by decide +kernel
theorem dX0_choose_2 : decode cX0_choose 2 = .ok (.if_icmp .ne 25, 3) := by decide +kernel
theorem dX0_choose_5 : decode cX0_choose 5 = .ok (.aload_n 0, 1) := by decide +kernel
theorem dX0_choose_6 : decode cX0_choose 6 = .ok (.getfield 57, 3) := by decide +kernel
theorem dX0_choose_9 : decode cX0_choose 9 = .ok (.ifCond .le 18, 3) := by decide +kernel
theorem dX0_choose_12 : decode cX0_choose 12 = .ok (.aload_n 0, 1) := by decide +kernel
theorem dX0_choose_13 : decode cX0_choose 13 = .ok (.aload_n 0, 1) := by decide +kernel
theorem dX0_choose_14 : decode cX0_choose 14 = .ok (.getfield 57, 3) := by decide +kernel
theorem dX0_choose_17 : decode cX0_choose 17 = .ok (.iconst 1, 1) := by decide +kernel
theorem dX0_choose_18 : decode cX0_choose 18 = .ok (.isub, 1) := by decide +kernel
theorem dX0_choose_19 : decode cX0_choose 19 = .ok (.invokevirtual 114, 3) := by decide +kernel
theorem dX0_choose_22 : decode cX0_choose 22 = .ok (.iconst 1, 1) := by decide +kernel
theorem dX0_choose_23 : decode cX0_choose 23 = .ok (.iadd, 1) := by decide +kernel
theorem dX0_choose_24 : decode cX0_choose 24 = .ok (.goto 4, 3) := by decide +kernel
theorem dX0_choose_27 : decode cX0_choose 27 = .ok (.iconst 0, 1) := by decide +kernel
theorem dX0_choose_28 : decode cX0_choose 28 = .ok (.istore_n 2, 1) := by decide +kernel
theorem dX0_choose_29 : decode cX0_choose 29 = .ok (.iconst (-1), 1) := by decide +kernel
theorem dX0_choose_30 : decode cX0_choose 30 = .ok (.istore_n 3, 1) := by decide +kernel
theorem dX0_choose_31 : decode cX0_choose 31 = .ok (.iconst 0, 1) := by decide +kernel
theorem dX0_choose_32 : decode cX0_choose 32 = .ok (.istore 4, 2) := by decide +kernel
theorem dX0_choose_34 : decode cX0_choose 34 = .ok (.iload 4, 2) := by decide +kernel
theorem dX0_choose_36 : decode cX0_choose 36 = .ok (.aload_n 0, 1) := by decide +kernel
theorem dX0_choose_37 : decode cX0_choose 37 = .ok (.getfield 21, 3) := by decide +kernel
theorem dX0_choose_40 : decode cX0_choose 40 = .ok (.getfield 60, 3) := by decide +kernel
theorem dX0_choose_43 : decode cX0_choose 43 = .ok (.if_icmp .ge 98, 3) := by decide +kernel
theorem dX0_choose_46 : decode cX0_choose 46 = .ok (.iload_n 2, 1) := by decide +kernel
theorem dX0_choose_47 : decode cX0_choose 47 = .ok (.iload 4, 2) := by decide +kernel
theorem dX0_choose_49 : decode cX0_choose 49 = .ok (.iadd, 1) := by decide +kernel
theorem dX0_choose_50 : decode cX0_choose 50 = .ok (.aload_n 0, 1) := by decide +kernel
theorem dX0_choose_51 : decode cX0_choose 51 = .ok (.getfield 21, 3) := by decide +kernel
theorem dX0_choose_54 : decode cX0_choose 54 = .ok (.getfield 60, 3) := by decide +kernel
theorem dX0_choose_57 : decode cX0_choose 57 = .ok (.if_icmp .ge 10, 3) := by decide +kernel
theorem dX0_choose_60 : decode cX0_choose 60 = .ok (.iload_n 2, 1) := by decide +kernel
theorem dX0_choose_61 : decode cX0_choose 61 = .ok (.iload 4, 2) := by decide +kernel
theorem dX0_choose_63 : decode cX0_choose 63 = .ok (.iadd, 1) := by decide +kernel
theorem dX0_choose_64 : decode cX0_choose 64 = .ok (.goto 15, 3) := by decide +kernel
theorem dX0_choose_67 : decode cX0_choose 67 = .ok (.iload_n 2, 1) := by decide +kernel
theorem dX0_choose_68 : decode cX0_choose 68 = .ok (.iload 4, 2) := by decide +kernel
theorem dX0_choose_70 : decode cX0_choose 70 = .ok (.iadd, 1) := by decide +kernel
theorem dX0_choose_71 : decode cX0_choose 71 = .ok (.aload_n 0, 1) := by decide +kernel
theorem dX0_choose_72 : decode cX0_choose 72 = .ok (.getfield 21, 3) := by decide +kernel
theorem dX0_choose_75 : decode cX0_choose 75 = .ok (.getfield 60, 3) := by decide +kernel
theorem dX0_choose_78 : decode cX0_choose 78 = .ok (.isub, 1) := by decide +kernel
theorem dX0_choose_79 : decode cX0_choose 79 = .ok (.istore 5, 2) := by decide +kernel
theorem dX0_choose_81 : decode cX0_choose 81 = .ok (.aload_n 0, 1) := by decide +kernel
theorem dX0_choose_82 : decode cX0_choose 82 = .ok (.getfield 25, 3) := by decide +kernel
theorem dX0_choose_85 : decode cX0_choose 85 = .ok (.iload 5, 2) := by decide +kernel
theorem dX0_choose_87 : decode cX0_choose 87 = .ok (.iaload, 1) := by decide +kernel
theorem dX0_choose_88 : decode cX0_choose 88 = .ok (.ifCond .le 47, 3) := by decide +kernel
theorem dX0_choose_91 : decode cX0_choose 91 = .ok (.aload_n 0, 1) := by decide +kernel
theorem dX0_choose_92 : decode cX0_choose 92 = .ok (.getfield 21, 3) := by decide +kernel
theorem dX0_choose_95 : decode cX0_choose 95 = .ok (.iload 5, 2) := by decide +kernel
theorem dX0_choose_97 : decode cX0_choose 97 = .ok (.invokevirtual 117, 3) := by decide +kernel
theorem dX0_choose_100 : decode cX0_choose 100 = .ok (.ifCond .eq 35, 3) := by decide +kernel
theorem dX0_choose_103 : decode cX0_choose 103 = .ok (.iload_n 1, 1) := by decide +kernel
theorem dX0_choose_104 : decode cX0_choose 104 = .ok (.iconst 1, 1) := by decide +kernel
theorem dX0_choose_105 : decode cX0_choose 105 = .ok (.if_icmp .eq 6, 3) := by decide +kernel
theorem dX0_choose_108 : decode cX0_choose 108 = .ok (.iload 5, 2) := by decide +kernel
theorem dX0_choose_110 : decode cX0_choose 110 = .ok (.ireturn, 1) := by decide +kernel
theorem dX0_choose_111 : decode cX0_choose 111 = .ok (.iload_n 3, 1) := by decide +kernel
theorem dX0_choose_112 : decode cX0_choose 112 = .ok (.iconst (-1), 1) := by decide +kernel
theorem dX0_choose_113 : decode cX0_choose 113 = .ok (.if_icmp .eq 19, 3) := by decide +kernel
theorem dX0_choose_116 : decode cX0_choose 116 = .ok (.aload_n 0, 1) := by decide +kernel
theorem dX0_choose_117 : decode cX0_choose 117 = .ok (.getfield 29, 3) := by decide +kernel
theorem dX0_choose_120 : decode cX0_choose 120 = .ok (.iload 5, 2) := by decide +kernel
theorem dX0_choose_122 : decode cX0_choose 122 = .ok (.iaload, 1) := by decide +kernel
theorem dX0_choose_123 : decode cX0_choose 123 = .ok (.aload_n 0, 1) := by decide +kernel
theorem dX0_choose_124 : decode cX0_choose 124 = .ok (.getfield 29, 3) := by decide +kernel
theorem dX0_choose_127 : decode cX0_choose 127 = .ok (.iload_n 3, 1) := by decide +kernel
theorem dX0_choose_128 : decode cX0_choose 128 = .ok (.iaload, 1) := by decide +kernel
theorem dX0_choose_129 : decode cX0_choose 129 = .ok (.if_icmp .ge 6, 3) := by decide +kernel
theorem dX0_choose_132 : decode cX0_choose 132 = .ok (.iload 5, 2) := by decide +kernel
theorem dX0_choose_134 : decode cX0_choose 134 = .ok (.istore_n 3, 1) := by decide +kernel
theorem dX0_choose_135 : decode cX0_choose 135 = .ok (.iinc 4 1, 3) := by decide +kernel
theorem dX0_choose_138 : decode cX0_choose 138 = .ok (.goto (-104), 3) := by decide +kernel
theorem dX0_choose_141 : decode cX0_choose 141 = .ok (.iload_n 3, 1) := by decide +kernel
theorem dX0_choose_142 : decode cX0_choose 142 = .ok (.ireturn, 1) := by decide +kernel
theorem dX2_init_0 : decode cX2_init 0 = .ok (.aload_n 0, 1) := by decide +kernel
theorem dX2_init_1 : decode cX2_init 1 = .ok (.invokespecial 3, 3) := by decide +kernel
theorem dX2_init_4 : decode cX2_init 4 = .ok (.aload_n 0, 1) := by decide +kernel
theorem dX2_init_5 : decode cX2_init 5 = .ok (.bipush 14, 2) := by decide +kernel
theorem dX2_init_7 : decode cX2_init 7 = .ok (.anewarray 9, 3) := by decide +kernel
theorem dX2_init_10 : decode cX2_init 10 = .ok (.putfield 11, 3) := by decide +kernel
theorem dX2_init_13 : decode cX2_init 13 = .ok (.iconst 0, 1) := by decide +kernel
theorem dX2_init_14 : decode cX2_init 14 = .ok (.istore_n 1, 1) := by decide +kernel
theorem dX2_init_15 : decode cX2_init 15 = .ok (.iload_n 1, 1) := by decide +kernel
theorem dX2_init_16 : decode cX2_init 16 = .ok (.bipush 14, 2) := by decide +kernel
theorem dX2_init_18 : decode cX2_init 18 = .ok (.if_icmp .ge 22, 3) := by decide +kernel
theorem dX2_init_21 : decode cX2_init 21 = .ok (.aload_n 0, 1) := by decide +kernel
theorem dX2_init_22 : decode cX2_init 22 = .ok (.getfield 11, 3) := by decide +kernel
theorem dX2_init_25 : decode cX2_init 25 = .ok (.iload_n 1, 1) := by decide +kernel
theorem dX2_init_26 : decode cX2_init 26 = .ok (.new 9, 3) := by decide +kernel
theorem dX2_init_29 : decode cX2_init 29 = .ok (.dup, 1) := by decide +kernel
theorem dX2_init_30 : decode cX2_init 30 = .ok (.invokespecial 17, 3) := by decide +kernel
theorem dX2_init_33 : decode cX2_init 33 = .ok (.aastore, 1) := by decide +kernel
theorem dX2_init_34 : decode cX2_init 34 = .ok (.iinc 1 1, 3) := by decide +kernel
theorem dX2_init_37 : decode cX2_init 37 = .ok (.goto (-22), 3) := by decide +kernel
theorem dX2_init_40 : decode cX2_init 40 = .ok (.return_, 1) := by decide +kernel
theorem dX2_isEmpty_0 : decode cX2_isEmpty 0 = .ok (.aload_n 0, 1) := by decide +kernel
theorem dX2_isEmpty_1 : decode cX2_isEmpty 1 = .ok (.getfield 18, 3) := by decide +kernel
theorem dX2_isEmpty_4 : decode cX2_isEmpty 4 = .ok (.ifCond .ne 7, 3) := by decide +kernel
theorem dX2_isEmpty_7 : decode cX2_isEmpty 7 = .ok (.iconst 1, 1) := by decide +kernel
theorem dX2_isEmpty_8 : decode cX2_isEmpty 8 = .ok (.goto 4, 3) := by decide +kernel
theorem dX2_isEmpty_11 : decode cX2_isEmpty 11 = .ok (.iconst 0, 1) := by decide +kernel
theorem dX2_isEmpty_12 : decode cX2_isEmpty 12 = .ok (.ireturn, 1) := by decide +kernel
theorem dX2_remember_0 : decode cX2_remember 0 = .ok (.aload_n 0, 1) := by decide +kernel
theorem dX2_remember_1 : decode cX2_remember 1 = .ok (.getfield 11, 3) := by decide +kernel
theorem dX2_remember_4 : decode cX2_remember 4 = .ok (.aload_n 0, 1) := by decide +kernel
theorem dX2_remember_5 : decode cX2_remember 5 = .ok (.getfield 22, 3) := by decide +kernel
theorem dX2_remember_8 : decode cX2_remember 8 = .ok (.aload_n 0, 1) := by decide +kernel
theorem dX2_remember_9 : decode cX2_remember 9 = .ok (.getfield 18, 3) := by decide +kernel
theorem dX2_remember_12 : decode cX2_remember 12 = .ok (.iadd, 1) := by decide +kernel
theorem dX2_remember_13 : decode cX2_remember 13 = .ok (.bipush 14, 2) := by decide +kernel
theorem dX2_remember_15 : decode cX2_remember 15 = .ok (.irem, 1) := by decide +kernel
theorem dX2_remember_16 : decode cX2_remember 16 = .ok (.aaload, 1) := by decide +kernel
theorem dX2_remember_17 : decode cX2_remember 17 = .ok (.aload_n 1, 1) := by decide +kernel
theorem dX2_remember_18 : decode cX2_remember 18 = .ok (.invokevirtual 25, 3) := by decide +kernel
theorem dX2_remember_21 : decode cX2_remember 21 = .ok (.aload_n 0, 1) := by decide +kernel
theorem dX2_remember_22 : decode cX2_remember 22 = .ok (.getfield 18, 3) := by decide +kernel
theorem dX2_remember_25 : decode cX2_remember 25 = .ok (.bipush 14, 2) := by decide +kernel
theorem dX2_remember_27 : decode cX2_remember 27 = .ok (.if_icmp .ge 16, 3) := by decide +kernel
theorem dX2_remember_30 : decode cX2_remember 30 = .ok (.aload_n 0, 1) := by decide +kernel
theorem dX2_remember_31 : decode cX2_remember 31 = .ok (.dup, 1) := by decide +kernel
theorem dX2_remember_32 : decode cX2_remember 32 = .ok (.getfield 18, 3) := by decide +kernel
theorem dX2_remember_35 : decode cX2_remember 35 = .ok (.iconst 1, 1) := by decide +kernel
theorem dX2_remember_36 : decode cX2_remember 36 = .ok (.iadd, 1) := by decide +kernel
theorem dX2_remember_37 : decode cX2_remember 37 = .ok (.putfield 18, 3) := by decide +kernel
theorem dX2_remember_40 : decode cX2_remember 40 = .ok (.goto 16, 3) := by decide +kernel
theorem dX2_remember_43 : decode cX2_remember 43 = .ok (.aload_n 0, 1) := by decide +kernel
theorem dX2_remember_44 : decode cX2_remember 44 = .ok (.aload_n 0, 1) := by decide +kernel
theorem dX2_remember_45 : decode cX2_remember 45 = .ok (.getfield 22, 3) := by decide +kernel
theorem dX2_remember_48 : decode cX2_remember 48 = .ok (.iconst 1, 1) := by decide +kernel
theorem dX2_remember_49 : decode cX2_remember 49 = .ok (.iadd, 1) := by decide +kernel
theorem dX2_remember_50 : decode cX2_remember 50 = .ok (.bipush 14, 2) := by decide +kernel
theorem dX2_remember_52 : decode cX2_remember 52 = .ok (.irem, 1) := by decide +kernel
theorem dX2_remember_53 : decode cX2_remember 53 = .ok (.putfield 22, 3) := by decide +kernel
theorem dX2_remember_56 : decode cX2_remember 56 = .ok (.return_, 1) := by decide +kernel
theorem dX2_takeBack_0 : decode cX2_takeBack 0 = .ok (.aload_n 0, 1) := by decide +kernel
theorem dX2_takeBack_1 : decode cX2_takeBack 1 = .ok (.dup, 1) := by decide +kernel
theorem dX2_takeBack_2 : decode cX2_takeBack 2 = .ok (.getfield 18, 3) := by decide +kernel
theorem dX2_takeBack_5 : decode cX2_takeBack 5 = .ok (.iconst 1, 1) := by decide +kernel
theorem dX2_takeBack_6 : decode cX2_takeBack 6 = .ok (.isub, 1) := by decide +kernel
theorem dX2_takeBack_7 : decode cX2_takeBack 7 = .ok (.putfield 18, 3) := by decide +kernel
theorem dX2_takeBack_10 : decode cX2_takeBack 10 = .ok (.aload_n 1, 1) := by decide +kernel
theorem dX2_takeBack_11 : decode cX2_takeBack 11 = .ok (.aload_n 0, 1) := by decide +kernel
theorem dX2_takeBack_12 : decode cX2_takeBack 12 = .ok (.getfield 11, 3) := by decide +kernel
theorem dX2_takeBack_15 : decode cX2_takeBack 15 = .ok (.aload_n 0, 1) := by decide +kernel
theorem dX2_takeBack_16 : decode cX2_takeBack 16 = .ok (.getfield 22, 3) := by decide +kernel
theorem dX2_takeBack_19 : decode cX2_takeBack 19 = .ok (.aload_n 0, 1) := by decide +kernel
theorem dX2_takeBack_20 : decode cX2_takeBack 20 = .ok (.getfield 18, 3) := by decide +kernel
theorem dX2_takeBack_23 : decode cX2_takeBack 23 = .ok (.iadd, 1) := by decide +kernel
theorem dX2_takeBack_24 : decode cX2_takeBack 24 = .ok (.bipush 14, 2) := by decide +kernel
theorem dX2_takeBack_26 : decode cX2_takeBack 26 = .ok (.irem, 1) := by decide +kernel
theorem dX2_takeBack_27 : decode cX2_takeBack 27 = .ok (.aaload, 1) := by decide +kernel
theorem dX2_takeBack_28 : decode cX2_takeBack 28 = .ok (.invokevirtual 25, 3) := by decide +kernel
theorem dX2_takeBack_31 : decode cX2_takeBack 31 = .ok (.aload_n 0, 1) := by decide +kernel
theorem dX2_takeBack_32 : decode cX2_takeBack 32 = .ok (.getfield 18, 3) := by decide +kernel
theorem dX2_takeBack_35 : decode cX2_takeBack 35 = .ok (.ireturn, 1) := by decide +kernel
theorem dX2_forget_0 : decode cX2_forget 0 = .ok (.aload_n 0, 1) := by decide +kernel
theorem dX2_forget_1 : decode cX2_forget 1 = .ok (.iconst 0, 1) := by decide +kernel
theorem dX2_forget_2 : decode cX2_forget 2 = .ok (.putfield 18, 3) := by decide +kernel
theorem dX2_forget_5 : decode cX2_forget 5 = .ok (.return_, 1) := by decide +kernel
theorem dX3_init_0 : decode cX3_init 0 = .ok (.aload_n 0, 1) := by decide +kernel
theorem dX3_init_1 : decode cX3_init 1 = .ok (.invokespecial 3, 3) := by decide +kernel
theorem dX3_init_4 : decode cX3_init 4 = .ok (.aload_n 0, 1) := by decide +kernel
theorem dX3_init_5 : decode cX3_init 5 = .ok (.bipush 8, 2) := by decide +kernel
theorem dX3_init_7 : decode cX3_init 7 = .ok (.newarray .int, 2) := by decide +kernel
theorem dX3_init_9 : decode cX3_init 9 = .ok (.putfield 9, 3) := by decide +kernel
theorem dX3_init_12 : decode cX3_init 12 = .ok (.aload_n 0, 1) := by decide +kernel
theorem dX3_init_13 : decode cX3_init 13 = .ok (.bipush 8, 2) := by decide +kernel
theorem dX3_init_15 : decode cX3_init 15 = .ok (.newarray .int, 2) := by decide +kernel
theorem dX3_init_17 : decode cX3_init 17 = .ok (.putfield 15, 3) := by decide +kernel
theorem dX3_init_20 : decode cX3_init 20 = .ok (.aload_n 0, 1) := by decide +kernel
theorem dX3_init_21 : decode cX3_init 21 = .ok (.bipush 8, 2) := by decide +kernel
theorem dX3_init_23 : decode cX3_init 23 = .ok (.newarray .int, 2) := by decide +kernel
theorem dX3_init_25 : decode cX3_init 25 = .ok (.putfield 18, 3) := by decide +kernel
theorem dX3_init_28 : decode cX3_init 28 = .ok (.aload_n 0, 1) := by decide +kernel
theorem dX3_init_29 : decode cX3_init 29 = .ok (.bipush 14, 2) := by decide +kernel
theorem dX3_init_31 : decode cX3_init 31 = .ok (.newarray .int, 2) := by decide +kernel
theorem dX3_init_33 : decode cX3_init 33 = .ok (.putfield 21, 3) := by decide +kernel
theorem dX3_init_36 : decode cX3_init 36 = .ok (.aload_n 0, 1) := by decide +kernel
theorem dX3_init_37 : decode cX3_init 37 = .ok (.bipush 14, 2) := by decide +kernel
theorem dX3_init_39 : decode cX3_init 39 = .ok (.newarray .int, 2) := by decide +kernel
theorem dX3_init_41 : decode cX3_init 41 = .ok (.putfield 24, 3) := by decide +kernel
theorem dX3_init_44 : decode cX3_init 44 = .ok (.aload_n 0, 1) := by decide +kernel
theorem dX3_init_45 : decode cX3_init 45 = .ok (.bipush 14, 2) := by decide +kernel
theorem dX3_init_47 : decode cX3_init 47 = .ok (.newarray .int, 2) := by decide +kernel
theorem dX3_init_49 : decode cX3_init 49 = .ok (.putfield 27, 3) := by decide +kernel
theorem dX3_init_52 : decode cX3_init 52 = .ok (.aload_n 0, 1) := by decide +kernel
theorem dX3_init_53 : decode cX3_init 53 = .ok (.bipush 14, 2) := by decide +kernel
theorem dX3_init_55 : decode cX3_init 55 = .ok (.newarray .int, 2) := by decide +kernel
theorem dX3_init_57 : decode cX3_init 57 = .ok (.putfield 30, 3) := by decide +kernel
theorem dX3_init_60 : decode cX3_init 60 = .ok (.aload_n 0, 1) := by decide +kernel
theorem dX3_init_61 : decode cX3_init 61 = .ok (.bipush 14, 2) := by decide +kernel
theorem dX3_init_63 : decode cX3_init 63 = .ok (.newarray .int, 2) := by decide +kernel
theorem dX3_init_65 : decode cX3_init 65 = .ok (.putfield 33, 3) := by decide +kernel
theorem dX3_init_68 : decode cX3_init 68 = .ok (.return_, 1) := by decide +kernel
theorem dX3_empty_0 : decode cX3_empty 0 = .ok (.aload_n 0, 1) := by decide +kernel
theorem dX3_empty_1 : decode cX3_empty 1 = .ok (.iconst 0, 1) := by decide +kernel
theorem dX3_empty_2 : decode cX3_empty 2 = .ok (.putfield 36, 3) := by decide +kernel
theorem dX3_empty_5 : decode cX3_empty 5 = .ok (.aload_n 0, 1) := by decide +kernel
theorem dX3_empty_6 : decode cX3_empty 6 = .ok (.iconst 0, 1) := by decide +kernel
theorem dX3_empty_7 : decode cX3_empty 7 = .ok (.putfield 40, 3) := by decide +kernel
theorem dX3_empty_10 : decode cX3_empty 10 = .ok (.return_, 1) := by decide +kernel
theorem dX3_become_0 : decode cX3_become 0 = .ok (.aload_n 1, 1) := by decide +kernel
theorem dX3_become_1 : decode cX3_become 1 = .ok (.ifnonnull 4, 3) := by decide +kernel
theorem dX3_become_4 : decode cX3_become 4 = .ok (.return_, 1) := by decide +kernel
theorem dX3_become_5 : decode cX3_become 5 = .ok (.aload_n 0, 1) := by decide +kernel
theorem dX3_become_6 : decode cX3_become 6 = .ok (.aload_n 1, 1) := by decide +kernel
theorem dX3_become_7 : decode cX3_become 7 = .ok (.getfield 36, 3) := by decide +kernel
theorem dX3_become_10 : decode cX3_become 10 = .ok (.putfield 36, 3) := by decide +kernel
theorem dX3_become_13 : decode cX3_become 13 = .ok (.aload_n 1, 1) := by decide +kernel
theorem dX3_become_14 : decode cX3_become 14 = .ok (.getfield 9, 3) := by decide +kernel
theorem dX3_become_17 : decode cX3_become 17 = .ok (.iconst 0, 1) := by decide +kernel
theorem dX3_become_18 : decode cX3_become 18 = .ok (.aload_n 0, 1) := by decide +kernel
theorem dX3_become_19 : decode cX3_become 19 = .ok (.getfield 9, 3) := by decide +kernel
theorem dX3_become_22 : decode cX3_become 22 = .ok (.iconst 0, 1) := by decide +kernel
theorem dX3_become_23 : decode cX3_become 23 = .ok (.bipush 8, 2) := by decide +kernel
theorem dX3_become_25 : decode cX3_become 25 = .ok (.invokestatic 43, 3) := by decide +kernel
theorem dX3_become_28 : decode cX3_become 28 = .ok (.aload_n 1, 1) := by decide +kernel
theorem dX3_become_29 : decode cX3_become 29 = .ok (.getfield 15, 3) := by decide +kernel
theorem dX3_become_32 : decode cX3_become 32 = .ok (.iconst 0, 1) := by decide +kernel
theorem dX3_become_33 : decode cX3_become 33 = .ok (.aload_n 0, 1) := by decide +kernel
theorem dX3_become_34 : decode cX3_become 34 = .ok (.getfield 15, 3) := by decide +kernel
theorem dX3_become_37 : decode cX3_become 37 = .ok (.iconst 0, 1) := by decide +kernel
theorem dX3_become_38 : decode cX3_become 38 = .ok (.bipush 8, 2) := by decide +kernel
theorem dX3_become_40 : decode cX3_become 40 = .ok (.invokestatic 43, 3) := by decide +kernel
theorem dX3_become_43 : decode cX3_become 43 = .ok (.aload_n 1, 1) := by decide +kernel
theorem dX3_become_44 : decode cX3_become 44 = .ok (.getfield 18, 3) := by decide +kernel
theorem dX3_become_47 : decode cX3_become 47 = .ok (.iconst 0, 1) := by decide +kernel
theorem dX3_become_48 : decode cX3_become 48 = .ok (.aload_n 0, 1) := by decide +kernel
theorem dX3_become_49 : decode cX3_become 49 = .ok (.getfield 18, 3) := by decide +kernel
theorem dX3_become_52 : decode cX3_become 52 = .ok (.iconst 0, 1) := by decide +kernel
theorem dX3_become_53 : decode cX3_become 53 = .ok (.bipush 8, 2) := by decide +kernel
theorem dX3_become_55 : decode cX3_become 55 = .ok (.invokestatic 43, 3) := by decide +kernel
theorem dX3_become_58 : decode cX3_become 58 = .ok (.aload_n 0, 1) := by decide +kernel
theorem dX3_become_59 : decode cX3_become 59 = .ok (.aload_n 1, 1) := by decide +kernel
theorem dX3_become_60 : decode cX3_become 60 = .ok (.getfield 40, 3) := by decide +kernel
theorem dX3_become_63 : decode cX3_become 63 = .ok (.putfield 40, 3) := by decide +kernel
theorem dX3_become_66 : decode cX3_become 66 = .ok (.aload_n 1, 1) := by decide +kernel
theorem dX3_become_67 : decode cX3_become 67 = .ok (.getfield 21, 3) := by decide +kernel
theorem dX3_become_70 : decode cX3_become 70 = .ok (.iconst 0, 1) := by decide +kernel
theorem dX3_become_71 : decode cX3_become 71 = .ok (.aload_n 0, 1) := by decide +kernel
theorem dX3_become_72 : decode cX3_become 72 = .ok (.getfield 21, 3) := by decide +kernel
theorem dX3_become_75 : decode cX3_become 75 = .ok (.iconst 0, 1) := by decide +kernel
theorem dX3_become_76 : decode cX3_become 76 = .ok (.bipush 14, 2) := by decide +kernel
theorem dX3_become_78 : decode cX3_become 78 = .ok (.invokestatic 43, 3) := by decide +kernel
theorem dX3_become_81 : decode cX3_become 81 = .ok (.aload_n 1, 1) := by decide +kernel
theorem dX3_become_82 : decode cX3_become 82 = .ok (.getfield 24, 3) := by decide +kernel
theorem dX3_become_85 : decode cX3_become 85 = .ok (.iconst 0, 1) := by decide +kernel
theorem dX3_become_86 : decode cX3_become 86 = .ok (.aload_n 0, 1) := by decide +kernel
theorem dX3_become_87 : decode cX3_become 87 = .ok (.getfield 24, 3) := by decide +kernel
theorem dX3_become_90 : decode cX3_become 90 = .ok (.iconst 0, 1) := by decide +kernel
theorem dX3_become_91 : decode cX3_become 91 = .ok (.bipush 14, 2) := by decide +kernel
theorem dX3_become_93 : decode cX3_become 93 = .ok (.invokestatic 43, 3) := by decide +kernel
theorem dX3_become_96 : decode cX3_become 96 = .ok (.aload_n 1, 1) := by decide +kernel
theorem dX3_become_97 : decode cX3_become 97 = .ok (.getfield 27, 3) := by decide +kernel
theorem dX3_become_100 : decode cX3_become 100 = .ok (.iconst 0, 1) := by decide +kernel
theorem dX3_become_101 : decode cX3_become 101 = .ok (.aload_n 0, 1) := by decide +kernel
theorem dX3_become_102 : decode cX3_become 102 = .ok (.getfield 27, 3) := by decide +kernel
theorem dX3_become_105 : decode cX3_become 105 = .ok (.iconst 0, 1) := by decide +kernel
theorem dX3_become_106 : decode cX3_become 106 = .ok (.bipush 14, 2) := by decide +kernel
theorem dX3_become_108 : decode cX3_become 108 = .ok (.invokestatic 43, 3) := by decide +kernel
theorem dX3_become_111 : decode cX3_become 111 = .ok (.aload_n 1, 1) := by decide +kernel
theorem dX3_become_112 : decode cX3_become 112 = .ok (.getfield 30, 3) := by decide +kernel
theorem dX3_become_115 : decode cX3_become 115 = .ok (.iconst 0, 1) := by decide +kernel
theorem dX3_become_116 : decode cX3_become 116 = .ok (.aload_n 0, 1) := by decide +kernel
theorem dX3_become_117 : decode cX3_become 117 = .ok (.getfield 30, 3) := by decide +kernel
theorem dX3_become_120 : decode cX3_become 120 = .ok (.iconst 0, 1) := by decide +kernel
theorem dX3_become_121 : decode cX3_become 121 = .ok (.bipush 14, 2) := by decide +kernel
theorem dX3_become_123 : decode cX3_become 123 = .ok (.invokestatic 43, 3) := by decide +kernel
theorem dX3_become_126 : decode cX3_become 126 = .ok (.aload_n 1, 1) := by decide +kernel
theorem dX3_become_127 : decode cX3_become 127 = .ok (.getfield 33, 3) := by decide +kernel
theorem dX3_become_130 : decode cX3_become 130 = .ok (.iconst 0, 1) := by decide +kernel
theorem dX3_become_131 : decode cX3_become 131 = .ok (.aload_n 0, 1) := by decide +kernel
theorem dX3_become_132 : decode cX3_become 132 = .ok (.getfield 33, 3) := by decide +kernel
theorem dX3_become_135 : decode cX3_become 135 = .ok (.iconst 0, 1) := by decide +kernel
theorem dX3_become_136 : decode cX3_become 136 = .ok (.bipush 14, 2) := by decide +kernel
theorem dX3_become_138 : decode cX3_become 138 = .ok (.invokestatic 43, 3) := by decide +kernel
theorem dX3_become_141 : decode cX3_become 141 = .ok (.return_, 1) := by decide +kernel
theorem dX3_hasModule_0 : decode cX3_hasModule 0 = .ok (.iload_n 1, 1) := by decide +kernel
theorem dX3_hasModule_1 : decode cX3_hasModule 1 = .ok (.ifCond .lt 15, 3) := by decide +kernel
theorem dX3_hasModule_4 : decode cX3_hasModule 4 = .ok (.iload_n 1, 1) := by decide +kernel
theorem dX3_hasModule_5 : decode cX3_hasModule 5 = .ok (.aload_n 0, 1) := by decide +kernel
theorem dX3_hasModule_6 : decode cX3_hasModule 6 = .ok (.getfield 36, 3) := by decide +kernel
theorem dX3_hasModule_9 : decode cX3_hasModule 9 = .ok (.if_icmp .ge 7, 3) := by decide +kernel
theorem dX3_hasModule_12 : decode cX3_hasModule 12 = .ok (.iconst 1, 1) := by decide +kernel
theorem dX3_hasModule_13 : decode cX3_hasModule 13 = .ok (.goto 4, 3) := by decide +kernel
theorem dX3_hasModule_16 : decode cX3_hasModule 16 = .ok (.iconst 0, 1) := by decide +kernel
theorem dX3_hasModule_17 : decode cX3_hasModule 17 = .ok (.ireturn, 1) := by decide +kernel
theorem dX3_hasWire_0 : decode cX3_hasWire 0 = .ok (.iload_n 1, 1) := by decide +kernel
theorem dX3_hasWire_1 : decode cX3_hasWire 1 = .ok (.ifCond .lt 15, 3) := by decide +kernel
theorem dX3_hasWire_4 : decode cX3_hasWire 4 = .ok (.iload_n 1, 1) := by decide +kernel
theorem dX3_hasWire_5 : decode cX3_hasWire 5 = .ok (.aload_n 0, 1) := by decide +kernel
theorem dX3_hasWire_6 : decode cX3_hasWire 6 = .ok (.getfield 40, 3) := by decide +kernel
theorem dX3_hasWire_9 : decode cX3_hasWire 9 = .ok (.if_icmp .ge 7, 3) := by decide +kernel
theorem dX3_hasWire_12 : decode cX3_hasWire 12 = .ok (.iconst 1, 1) := by decide +kernel
theorem dX3_hasWire_13 : decode cX3_hasWire 13 = .ok (.goto 4, 3) := by decide +kernel
theorem dX3_hasWire_16 : decode cX3_hasWire 16 = .ok (.iconst 0, 1) := by decide +kernel
theorem dX3_hasWire_17 : decode cX3_hasWire 17 = .ok (.ireturn, 1) := by decide +kernel
theorem dX3_moduleFault_0 : decode cX3_moduleFault 0 = .ok (.aload_n 0, 1) := by decide +kernel
theorem dX3_moduleFault_1 : decode cX3_moduleFault 1 = .ok (.iload_n 1, 1) := by decide +kernel
theorem dX3_moduleFault_2 : decode cX3_moduleFault 2 = .ok (.invokevirtual 49, 3) := by decide +kernel
theorem dX3_moduleFault_5 : decode cX3_moduleFault 5 = .ok (.ifCond .eq 9, 3) := by decide +kernel
theorem dX3_moduleFault_8 : decode cX3_moduleFault 8 = .ok (.getstatic 53, 3) := by decide +kernel
theorem dX3_moduleFault_11 : decode cX3_moduleFault 11 = .ok (.goto 6, 3) := by decide +kernel
theorem dX3_moduleFault_14 : decode cX3_moduleFault 14 = .ok (.getstatic 59, 3) := by decide +kernel
theorem dX3_moduleFault_17 : decode cX3_moduleFault 17 = .ok (.areturn, 1) := by decide +kernel
theorem dX3_wireFault_0 : decode cX3_wireFault 0 = .ok (.aload_n 0, 1) := by decide +kernel
theorem dX3_wireFault_1 : decode cX3_wireFault 1 = .ok (.iload_n 1, 1) := by decide +kernel
theorem dX3_wireFault_2 : decode cX3_wireFault 2 = .ok (.invokevirtual 62, 3) := by decide +kernel
theorem dX3_wireFault_5 : decode cX3_wireFault 5 = .ok (.ifCond .eq 9, 3) := by decide +kernel
theorem dX3_wireFault_8 : decode cX3_wireFault 8 = .ok (.getstatic 53, 3) := by decide +kernel
theorem dX3_wireFault_11 : decode cX3_wireFault 11 = .ok (.goto 6, 3) := by decide +kernel
theorem dX3_wireFault_14 : decode cX3_wireFault 14 = .ok (.getstatic 59, 3) := by decide +kernel
theorem dX3_wireFault_17 : decode cX3_wireFault 17 = .ok (.areturn, 1) := by decide +kernel
theorem dX3_newModuleFault_0 : decode cX3_newModuleFault 0 = .ok (.iload_n 1, 1) := by decide +kernel
theorem dX3_newModuleFault_1 : decode cX3_newModuleFault 1 = .ok (.ifCond .lt 17, 3) := by decide +kernel
theorem dX3_newModuleFault_4 : decode cX3_newModuleFault 4 = .ok (.iload_n 1, 1) := by decide +kernel
theorem dX3_newModuleFault_5 : decode cX3_newModuleFault 5 = .ok (.iconst 3, 1) := by decide +kernel
theorem dX3_newModuleFault_6 : decode cX3_newModuleFault 6 = .ok (.if_icmp .gt 12, 3) := by decide +kernel
theorem dX3_newModuleFault_9 : decode cX3_newModuleFault 9 = .ok (.iload_n 2, 1) := by decide +kernel
theorem dX3_newModuleFault_10 : decode cX3_newModuleFault 10 = .ok (.ifCond .lt 8, 3) := by decide +kernel
theorem dX3_newModuleFault_13 : decode cX3_newModuleFault 13 = .ok (.iload_n 2, 1) := by decide +kernel
theorem dX3_newModuleFault_14 : decode cX3_newModuleFault 14 = .ok (.iconst 3, 1) := by decide +kernel
theorem dX3_newModuleFault_15 : decode cX3_newModuleFault 15 = .ok (.if_icmp .le 7, 3) := by decide +kernel
theorem dX3_newModuleFault_18 : decode cX3_newModuleFault 18 = .ok (.getstatic 65, 3) := by decide +kernel
theorem dX3_newModuleFault_21 : decode cX3_newModuleFault 21 = .ok (.areturn, 1) := by decide +kernel
theorem dX3_newModuleFault_22 : decode cX3_newModuleFault 22 = .ok (.aload_n 0, 1) := by decide +kernel
theorem dX3_newModuleFault_23 : decode cX3_newModuleFault 23 = .ok (.getfield 36, 3) := by decide +kernel
theorem dX3_newModuleFault_26 : decode cX3_newModuleFault 26 = .ok (.bipush 8, 2) := by decide +kernel
theorem dX3_newModuleFault_28 : decode cX3_newModuleFault 28 = .ok (.if_icmp .lt 9, 3) := by decide +kernel
theorem dX3_newModuleFault_31 : decode cX3_newModuleFault 31 = .ok (.getstatic 68, 3) := by decide +kernel
theorem dX3_newModuleFault_34 : decode cX3_newModuleFault 34 = .ok (.goto 6, 3) := by decide +kernel
theorem dX3_newModuleFault_37 : decode cX3_newModuleFault 37 = .ok (.getstatic 53, 3) := by decide +kernel
theorem dX3_newModuleFault_40 : decode cX3_newModuleFault 40 = .ok (.areturn, 1) := by decide +kernel
theorem dX3_newWireFault_0 : decode cX3_newWireFault 0 = .ok (.aload_n 0, 1) := by decide +kernel
theorem dX3_newWireFault_1 : decode cX3_newWireFault 1 = .ok (.iload_n 1, 1) := by decide +kernel
theorem dX3_newWireFault_2 : decode cX3_newWireFault 2 = .ok (.invokevirtual 49, 3) := by decide +kernel
theorem dX3_newWireFault_5 : decode cX3_newWireFault 5 = .ok (.ifCond .eq 11, 3) := by decide +kernel
theorem dX3_newWireFault_8 : decode cX3_newWireFault 8 = .ok (.aload_n 0, 1) := by decide +kernel
theorem dX3_newWireFault_9 : decode cX3_newWireFault 9 = .ok (.iload_n 2, 1) := by decide +kernel
theorem dX3_newWireFault_10 : decode cX3_newWireFault 10 = .ok (.invokevirtual 49, 3) := by decide +kernel
theorem dX3_newWireFault_13 : decode cX3_newWireFault 13 = .ok (.ifCond .ne 7, 3) := by decide +kernel
theorem dX3_newWireFault_16 : decode cX3_newWireFault 16 = .ok (.getstatic 59, 3) := by decide +kernel
theorem dX3_newWireFault_19 : decode cX3_newWireFault 19 = .ok (.areturn, 1) := by decide +kernel
theorem dX3_newWireFault_20 : decode cX3_newWireFault 20 = .ok (.iload_n 3, 1) := by decide +kernel
theorem dX3_newWireFault_21 : decode cX3_newWireFault 21 = .ok (.iconst 1, 1) := by decide +kernel
theorem dX3_newWireFault_22 : decode cX3_newWireFault 22 = .ok (.if_icmp .lt 34, 3) := by decide +kernel
theorem dX3_newWireFault_25 : decode cX3_newWireFault 25 = .ok (.iload_n 3, 1) := by decide +kernel
theorem dX3_newWireFault_26 : decode cX3_newWireFault 26 = .ok (.bipush 6, 2) := by decide +kernel
theorem dX3_newWireFault_28 : decode cX3_newWireFault 28 = .ok (.if_icmp .gt 28, 3) := by decide +kernel
theorem dX3_newWireFault_31 : decode cX3_newWireFault 31 = .ok (.iload 4, 2) := by decide +kernel
theorem dX3_newWireFault_33 : decode cX3_newWireFault 33 = .ok (.iconst 1, 1) := by decide +kernel
theorem dX3_newWireFault_34 : decode cX3_newWireFault 34 = .ok (.if_icmp .lt 22, 3) := by decide +kernel
theorem dX3_newWireFault_37 : decode cX3_newWireFault 37 = .ok (.iload 4, 2) := by decide +kernel
theorem dX3_newWireFault_39 : decode cX3_newWireFault 39 = .ok (.bipush 6, 2) := by decide +kernel
theorem dX3_newWireFault_41 : decode cX3_newWireFault 41 = .ok (.if_icmp .gt 15, 3) := by decide +kernel
theorem dX3_newWireFault_44 : decode cX3_newWireFault 44 = .ok (.iload 5, 2) := by decide +kernel
theorem dX3_newWireFault_46 : decode cX3_newWireFault 46 = .ok (.ifCond .lt 10, 3) := by decide +kernel
theorem dX3_newWireFault_49 : decode cX3_newWireFault 49 = .ok (.iload 5, 2) := by decide +kernel
theorem dX3_newWireFault_51 : decode cX3_newWireFault 51 = .ok (.bipush 99, 2) := by decide +kernel
theorem dX3_newWireFault_53 : decode cX3_newWireFault 53 = .ok (.if_icmp .le 7, 3) := by decide +kernel
theorem dX3_newWireFault_56 : decode cX3_newWireFault 56 = .ok (.getstatic 65, 3) := by decide +kernel
theorem dX3_newWireFault_59 : decode cX3_newWireFault 59 = .ok (.areturn, 1) := by decide +kernel
theorem dX3_newWireFault_60 : decode cX3_newWireFault 60 = .ok (.aload_n 0, 1) := by decide +kernel
theorem dX3_newWireFault_61 : decode cX3_newWireFault 61 = .ok (.getfield 15, 3) := by decide +kernel
theorem dX3_newWireFault_64 : decode cX3_newWireFault 64 = .ok (.iload_n 1, 1) := by decide +kernel
theorem dX3_newWireFault_65 : decode cX3_newWireFault 65 = .ok (.iaload, 1) := by decide +kernel
theorem dX3_newWireFault_66 : decode cX3_newWireFault 66 = .ok (.aload_n 0, 1) := by decide +kernel
theorem dX3_newWireFault_67 : decode cX3_newWireFault 67 = .ok (.getfield 9, 3) := by decide +kernel
theorem dX3_newWireFault_70 : decode cX3_newWireFault 70 = .ok (.iload_n 2, 1) := by decide +kernel
theorem dX3_newWireFault_71 : decode cX3_newWireFault 71 = .ok (.iaload, 1) := by decide +kernel
theorem dX3_newWireFault_72 : decode cX3_newWireFault 72 = .ok (.if_icmp .ne 12, 3) := by decide +kernel
theorem dX3_newWireFault_75 : decode cX3_newWireFault 75 = .ok (.aload_n 0, 1) := by decide +kernel
theorem dX3_newWireFault_76 : decode cX3_newWireFault 76 = .ok (.getfield 40, 3) := by decide +kernel
theorem dX3_newWireFault_79 : decode cX3_newWireFault 79 = .ok (.bipush 14, 2) := by decide +kernel
theorem dX3_newWireFault_81 : decode cX3_newWireFault 81 = .ok (.if_icmp .lt 7, 3) := by decide +kernel
theorem dX3_newWireFault_84 : decode cX3_newWireFault 84 = .ok (.getstatic 68, 3) := by decide +kernel
theorem dX3_newWireFault_87 : decode cX3_newWireFault 87 = .ok (.areturn, 1) := by decide +kernel
theorem dX3_newWireFault_88 : decode cX3_newWireFault 88 = .ok (.iload 5, 2) := by decide +kernel
theorem dX3_newWireFault_90 : decode cX3_newWireFault 90 = .ok (.ifCond .ne 18, 3) := by decide +kernel
theorem dX3_newWireFault_93 : decode cX3_newWireFault 93 = .ok (.aload_n 0, 1) := by decide +kernel
theorem dX3_newWireFault_94 : decode cX3_newWireFault 94 = .ok (.iload_n 1, 1) := by decide +kernel
theorem dX3_newWireFault_95 : decode cX3_newWireFault 95 = .ok (.iload_n 2, 1) := by decide +kernel
theorem dX3_newWireFault_96 : decode cX3_newWireFault 96 = .ok (.invokevirtual 71, 3) := by decide +kernel
theorem dX3_newWireFault_99 : decode cX3_newWireFault 99 = .ok (.ifCond .eq 9, 3) := by decide +kernel
theorem dX3_newWireFault_102 : decode cX3_newWireFault 102 = .ok (.getstatic 68, 3) := by decide +kernel
theorem dX3_newWireFault_105 : decode cX3_newWireFault 105 = .ok (.goto 6, 3) := by decide +kernel
theorem dX3_newWireFault_108 : decode cX3_newWireFault 108 = .ok (.getstatic 53, 3) := by decide +kernel
theorem dX3_newWireFault_111 : decode cX3_newWireFault 111 = .ok (.areturn, 1) := by decide +kernel
theorem dX3_newMarksFault_0 : decode cX3_newMarksFault 0 = .ok (.aload_n 0, 1) := by decide +kernel
theorem dX3_newMarksFault_1 : decode cX3_newMarksFault 1 = .ok (.iload_n 1, 1) := by decide +kernel
theorem dX3_newMarksFault_2 : decode cX3_newMarksFault 2 = .ok (.invokevirtual 62, 3) := by decide +kernel
theorem dX3_newMarksFault_5 : decode cX3_newMarksFault 5 = .ok (.ifCond .ne 7, 3) := by decide +kernel
theorem dX3_newMarksFault_8 : decode cX3_newMarksFault 8 = .ok (.getstatic 59, 3) := by decide +kernel
theorem dX3_newMarksFault_11 : decode cX3_newMarksFault 11 = .ok (.areturn, 1) := by decide +kernel
theorem dX3_newMarksFault_12 : decode cX3_newMarksFault 12 = .ok (.iload_n 2, 1) := by decide +kernel
theorem dX3_newMarksFault_13 : decode cX3_newMarksFault 13 = .ok (.ifCond .lt 9, 3) := by decide +kernel
theorem dX3_newMarksFault_16 : decode cX3_newMarksFault 16 = .ok (.iload_n 2, 1) := by decide +kernel
theorem dX3_newMarksFault_17 : decode cX3_newMarksFault 17 = .ok (.bipush 99, 2) := by decide +kernel
theorem dX3_newMarksFault_19 : decode cX3_newMarksFault 19 = .ok (.if_icmp .le 7, 3) := by decide +kernel
theorem dX3_newMarksFault_22 : decode cX3_newMarksFault 22 = .ok (.getstatic 65, 3) := by decide +kernel
theorem dX3_newMarksFault_25 : decode cX3_newMarksFault 25 = .ok (.areturn, 1) := by decide +kernel
theorem dX3_newMarksFault_26 : decode cX3_newMarksFault 26 = .ok (.iload_n 2, 1) := by decide +kernel
theorem dX3_newMarksFault_27 : decode cX3_newMarksFault 27 = .ok (.ifCond .ne 28, 3) := by decide +kernel
theorem dX3_newMarksFault_30 : decode cX3_newMarksFault 30 = .ok (.aload_n 0, 1) := by decide +kernel
theorem dX3_newMarksFault_31 : decode cX3_newMarksFault 31 = .ok (.aload_n 0, 1) := by decide +kernel
theorem dX3_newMarksFault_32 : decode cX3_newMarksFault 32 = .ok (.getfield 21, 3) := by decide +kernel
theorem dX3_newMarksFault_35 : decode cX3_newMarksFault 35 = .ok (.iload_n 1, 1) := by decide +kernel
theorem dX3_newMarksFault_36 : decode cX3_newMarksFault 36 = .ok (.iaload, 1) := by decide +kernel
theorem dX3_newMarksFault_37 : decode cX3_newMarksFault 37 = .ok (.aload_n 0, 1) := by decide +kernel
theorem dX3_newMarksFault_38 : decode cX3_newMarksFault 38 = .ok (.getfield 24, 3) := by decide +kernel
theorem dX3_newMarksFault_41 : decode cX3_newMarksFault 41 = .ok (.iload_n 1, 1) := by decide +kernel
theorem dX3_newMarksFault_42 : decode cX3_newMarksFault 42 = .ok (.iaload, 1) := by decide +kernel
theorem dX3_newMarksFault_43 : decode cX3_newMarksFault 43 = .ok (.invokevirtual 71, 3) := by decide +kernel
theorem dX3_newMarksFault_46 : decode cX3_newMarksFault 46 = .ok (.ifCond .eq 9, 3) := by decide +kernel
theorem dX3_newMarksFault_49 : decode cX3_newMarksFault 49 = .ok (.getstatic 68, 3) := by decide +kernel
theorem dX3_newMarksFault_52 : decode cX3_newMarksFault 52 = .ok (.goto 6, 3) := by decide +kernel
theorem dX3_newMarksFault_55 : decode cX3_newMarksFault 55 = .ok (.getstatic 53, 3) := by decide +kernel
theorem dX3_newMarksFault_58 : decode cX3_newMarksFault 58 = .ok (.areturn, 1) := by decide +kernel
theorem dX3_workFault_0 : decode cX3_workFault 0 = .ok (.aload_n 0, 1) := by decide +kernel
theorem dX3_workFault_1 : decode cX3_workFault 1 = .ok (.iload_n 1, 1) := by decide +kernel
theorem dX3_workFault_2 : decode cX3_workFault 2 = .ok (.invokevirtual 49, 3) := by decide +kernel
theorem dX3_workFault_5 : decode cX3_workFault 5 = .ok (.ifCond .ne 7, 3) := by decide +kernel
theorem dX3_workFault_8 : decode cX3_workFault 8 = .ok (.getstatic 59, 3) := by decide +kernel
theorem dX3_workFault_11 : decode cX3_workFault 11 = .ok (.areturn, 1) := by decide +kernel
theorem dX3_workFault_12 : decode cX3_workFault 12 = .ok (.aload_n 0, 1) := by decide +kernel
theorem dX3_workFault_13 : decode cX3_workFault 13 = .ok (.iload_n 1, 1) := by decide +kernel
theorem dX3_workFault_14 : decode cX3_workFault 14 = .ok (.invokevirtual 75, 3) := by decide +kernel
theorem dX3_workFault_17 : decode cX3_workFault 17 = .ok (.ifCond .eq 9, 3) := by decide +kernel
theorem dX3_workFault_20 : decode cX3_workFault 20 = .ok (.getstatic 53, 3) := by decide +kernel
theorem dX3_workFault_23 : decode cX3_workFault 23 = .ok (.goto 6, 3) := by decide +kernel
theorem dX3_workFault_26 : decode cX3_workFault 26 = .ok (.getstatic 68, 3) := by decide +kernel
theorem dX3_workFault_29 : decode cX3_workFault 29 = .ok (.areturn, 1) := by decide +kernel
theorem dX3_newModule_0 : decode cX3_newModule 0 = .ok (.aload_n 0, 1) := by decide +kernel
theorem dX3_newModule_1 : decode cX3_newModule 1 = .ok (.getfield 9, 3) := by decide +kernel
theorem dX3_newModule_4 : decode cX3_newModule 4 = .ok (.aload_n 0, 1) := by decide +kernel
theorem dX3_newModule_5 : decode cX3_newModule 5 = .ok (.getfield 36, 3) := by decide +kernel
theorem dX3_newModule_8 : decode cX3_newModule 8 = .ok (.iload_n 1, 1) := by decide +kernel
theorem dX3_newModule_9 : decode cX3_newModule 9 = .ok (.iastore, 1) := by decide +kernel
theorem dX3_newModule_10 : decode cX3_newModule 10 = .ok (.aload_n 0, 1) := by decide +kernel
theorem dX3_newModule_11 : decode cX3_newModule 11 = .ok (.getfield 15, 3) := by decide +kernel
theorem dX3_newModule_14 : decode cX3_newModule 14 = .ok (.aload_n 0, 1) := by decide +kernel
theorem dX3_newModule_15 : decode cX3_newModule 15 = .ok (.getfield 36, 3) := by decide +kernel
theorem dX3_newModule_18 : decode cX3_newModule 18 = .ok (.iload_n 2, 1) := by decide +kernel
theorem dX3_newModule_19 : decode cX3_newModule 19 = .ok (.iastore, 1) := by decide +kernel
theorem dX3_newModule_20 : decode cX3_newModule 20 = .ok (.aload_n 0, 1) := by decide +kernel
theorem dX3_newModule_21 : decode cX3_newModule 21 = .ok (.getfield 18, 3) := by decide +kernel
theorem dX3_newModule_24 : decode cX3_newModule 24 = .ok (.aload_n 0, 1) := by decide +kernel
theorem dX3_newModule_25 : decode cX3_newModule 25 = .ok (.getfield 36, 3) := by decide +kernel
theorem dX3_newModule_28 : decode cX3_newModule 28 = .ok (.iconst 0, 1) := by decide +kernel
theorem dX3_newModule_29 : decode cX3_newModule 29 = .ok (.iastore, 1) := by decide +kernel
theorem dX3_newModule_30 : decode cX3_newModule 30 = .ok (.aload_n 0, 1) := by decide +kernel
theorem dX3_newModule_31 : decode cX3_newModule 31 = .ok (.dup, 1) := by decide +kernel
theorem dX3_newModule_32 : decode cX3_newModule 32 = .ok (.getfield 36, 3) := by decide +kernel
theorem dX3_newModule_35 : decode cX3_newModule 35 = .ok (.iconst 1, 1) := by decide +kernel
theorem dX3_newModule_36 : decode cX3_newModule 36 = .ok (.iadd, 1) := by decide +kernel
theorem dX3_newModule_37 : decode cX3_newModule 37 = .ok (.putfield 36, 3) := by decide +kernel
theorem dX3_newModule_40 : decode cX3_newModule 40 = .ok (.aload_n 0, 1) := by decide +kernel
theorem dX3_newModule_41 : decode cX3_newModule 41 = .ok (.getfield 36, 3) := by decide +kernel
theorem dX3_newModule_44 : decode cX3_newModule 44 = .ok (.iconst 1, 1) := by decide +kernel
theorem dX3_newModule_45 : decode cX3_newModule 45 = .ok (.isub, 1) := by decide +kernel
theorem dX3_newModule_46 : decode cX3_newModule 46 = .ok (.ireturn, 1) := by decide +kernel
theorem dX3_newWire_0 : decode cX3_newWire 0 = .ok (.aload_n 0, 1) := by decide +kernel
theorem dX3_newWire_1 : decode cX3_newWire 1 = .ok (.getfield 21, 3) := by decide +kernel
theorem dX3_newWire_4 : decode cX3_newWire 4 = .ok (.aload_n 0, 1) := by decide +kernel
theorem dX3_newWire_5 : decode cX3_newWire 5 = .ok (.getfield 40, 3) := by decide +kernel
theorem dX3_newWire_8 : decode cX3_newWire 8 = .ok (.iload_n 1, 1) := by decide +kernel
theorem dX3_newWire_9 : decode cX3_newWire 9 = .ok (.iastore, 1) := by decide +kernel
theorem dX3_newWire_10 : decode cX3_newWire 10 = .ok (.aload_n 0, 1) := by decide +kernel
theorem dX3_newWire_11 : decode cX3_newWire 11 = .ok (.getfield 24, 3) := by decide +kernel
theorem dX3_newWire_14 : decode cX3_newWire 14 = .ok (.aload_n 0, 1) := by decide +kernel
theorem dX3_newWire_15 : decode cX3_newWire 15 = .ok (.getfield 40, 3) := by decide +kernel
theorem dX3_newWire_18 : decode cX3_newWire 18 = .ok (.iload_n 2, 1) := by decide +kernel
theorem dX3_newWire_19 : decode cX3_newWire 19 = .ok (.iastore, 1) := by decide +kernel
theorem dX3_newWire_20 : decode cX3_newWire 20 = .ok (.aload_n 0, 1) := by decide +kernel
theorem dX3_newWire_21 : decode cX3_newWire 21 = .ok (.getfield 27, 3) := by decide +kernel
theorem dX3_newWire_24 : decode cX3_newWire 24 = .ok (.aload_n 0, 1) := by decide +kernel
theorem dX3_newWire_25 : decode cX3_newWire 25 = .ok (.getfield 40, 3) := by decide +kernel
theorem dX3_newWire_28 : decode cX3_newWire 28 = .ok (.iload_n 3, 1) := by decide +kernel
theorem dX3_newWire_29 : decode cX3_newWire 29 = .ok (.iastore, 1) := by decide +kernel
theorem dX3_newWire_30 : decode cX3_newWire 30 = .ok (.aload_n 0, 1) := by decide +kernel
theorem dX3_newWire_31 : decode cX3_newWire 31 = .ok (.getfield 30, 3) := by decide +kernel
theorem dX3_newWire_34 : decode cX3_newWire 34 = .ok (.aload_n 0, 1) := by decide +kernel
theorem dX3_newWire_35 : decode cX3_newWire 35 = .ok (.getfield 40, 3) := by decide +kernel
theorem dX3_newWire_38 : decode cX3_newWire 38 = .ok (.iload 4, 2) := by decide +kernel
theorem dX3_newWire_40 : decode cX3_newWire 40 = .ok (.iastore, 1) := by decide +kernel
theorem dX3_newWire_41 : decode cX3_newWire 41 = .ok (.aload_n 0, 1) := by decide +kernel
theorem dX3_newWire_42 : decode cX3_newWire 42 = .ok (.getfield 33, 3) := by decide +kernel
theorem dX3_newWire_45 : decode cX3_newWire 45 = .ok (.aload_n 0, 1) := by decide +kernel
theorem dX3_newWire_46 : decode cX3_newWire 46 = .ok (.getfield 40, 3) := by decide +kernel
theorem dX3_newWire_49 : decode cX3_newWire 49 = .ok (.iload 5, 2) := by decide +kernel
theorem dX3_newWire_51 : decode cX3_newWire 51 = .ok (.iastore, 1) := by decide +kernel
theorem dX3_newWire_52 : decode cX3_newWire 52 = .ok (.aload_n 0, 1) := by decide +kernel
theorem dX3_newWire_53 : decode cX3_newWire 53 = .ok (.dup, 1) := by decide +kernel
theorem dX3_newWire_54 : decode cX3_newWire 54 = .ok (.getfield 40, 3) := by decide +kernel
theorem dX3_newWire_57 : decode cX3_newWire 57 = .ok (.iconst 1, 1) := by decide +kernel
theorem dX3_newWire_58 : decode cX3_newWire 58 = .ok (.iadd, 1) := by decide +kernel
theorem dX3_newWire_59 : decode cX3_newWire 59 = .ok (.putfield 40, 3) := by decide +kernel
theorem dX3_newWire_62 : decode cX3_newWire 62 = .ok (.aload_n 0, 1) := by decide +kernel
theorem dX3_newWire_63 : decode cX3_newWire 63 = .ok (.getfield 40, 3) := by decide +kernel
theorem dX3_newWire_66 : decode cX3_newWire 66 = .ok (.iconst 1, 1) := by decide +kernel
theorem dX3_newWire_67 : decode cX3_newWire 67 = .ok (.isub, 1) := by decide +kernel
theorem dX3_newWire_68 : decode cX3_newWire 68 = .ok (.ireturn, 1) := by decide +kernel
theorem dX3_dropWire_0 : decode cX3_dropWire 0 = .ok (.aload_n 0, 1) := by decide +kernel
theorem dX3_dropWire_1 : decode cX3_dropWire 1 = .ok (.getfield 33, 3) := by decide +kernel
theorem dX3_dropWire_4 : decode cX3_dropWire 4 = .ok (.iload_n 1, 1) := by decide +kernel
theorem dX3_dropWire_5 : decode cX3_dropWire 5 = .ok (.iaload, 1) := by decide +kernel
theorem dX3_dropWire_6 : decode cX3_dropWire 6 = .ok (.istore_n 2, 1) := by decide +kernel
theorem dX3_dropWire_7 : decode cX3_dropWire 7 = .ok (.aload_n 0, 1) := by decide +kernel
theorem dX3_dropWire_8 : decode cX3_dropWire 8 = .ok (.dup, 1) := by decide +kernel
theorem dX3_dropWire_9 : decode cX3_dropWire 9 = .ok (.getfield 40, 3) := by decide +kernel
theorem dX3_dropWire_12 : decode cX3_dropWire 12 = .ok (.iconst 1, 1) := by decide +kernel
theorem dX3_dropWire_13 : decode cX3_dropWire 13 = .ok (.isub, 1) := by decide +kernel
theorem dX3_dropWire_14 : decode cX3_dropWire 14 = .ok (.putfield 40, 3) := by decide +kernel
theorem dX3_dropWire_17 : decode cX3_dropWire 17 = .ok (.iload_n 1, 1) := by decide +kernel
theorem dX3_dropWire_18 : decode cX3_dropWire 18 = .ok (.istore_n 3, 1) := by decide +kernel
theorem dX3_dropWire_19 : decode cX3_dropWire 19 = .ok (.iload_n 3, 1) := by decide +kernel
theorem dX3_dropWire_20 : decode cX3_dropWire 20 = .ok (.aload_n 0, 1) := by decide +kernel
theorem dX3_dropWire_21 : decode cX3_dropWire 21 = .ok (.getfield 40, 3) := by decide +kernel
theorem dX3_dropWire_24 : decode cX3_dropWire 24 = .ok (.if_icmp .ge 79, 3) := by decide +kernel
theorem dX3_dropWire_27 : decode cX3_dropWire 27 = .ok (.aload_n 0, 1) := by decide +kernel
theorem dX3_dropWire_28 : decode cX3_dropWire 28 = .ok (.getfield 21, 3) := by decide +kernel
theorem dX3_dropWire_31 : decode cX3_dropWire 31 = .ok (.iload_n 3, 1) := by decide +kernel
theorem dX3_dropWire_32 : decode cX3_dropWire 32 = .ok (.aload_n 0, 1) := by decide +kernel
theorem dX3_dropWire_33 : decode cX3_dropWire 33 = .ok (.getfield 21, 3) := by decide +kernel
theorem dX3_dropWire_36 : decode cX3_dropWire 36 = .ok (.iload_n 3, 1) := by decide +kernel
theorem dX3_dropWire_37 : decode cX3_dropWire 37 = .ok (.iconst 1, 1) := by decide +kernel
theorem dX3_dropWire_38 : decode cX3_dropWire 38 = .ok (.iadd, 1) := by decide +kernel
theorem dX3_dropWire_39 : decode cX3_dropWire 39 = .ok (.iaload, 1) := by decide +kernel
theorem dX3_dropWire_40 : decode cX3_dropWire 40 = .ok (.iastore, 1) := by decide +kernel
theorem dX3_dropWire_41 : decode cX3_dropWire 41 = .ok (.aload_n 0, 1) := by decide +kernel
theorem dX3_dropWire_42 : decode cX3_dropWire 42 = .ok (.getfield 24, 3) := by decide +kernel
theorem dX3_dropWire_45 : decode cX3_dropWire 45 = .ok (.iload_n 3, 1) := by decide +kernel
theorem dX3_dropWire_46 : decode cX3_dropWire 46 = .ok (.aload_n 0, 1) := by decide +kernel
theorem dX3_dropWire_47 : decode cX3_dropWire 47 = .ok (.getfield 24, 3) := by decide +kernel
theorem dX3_dropWire_50 : decode cX3_dropWire 50 = .ok (.iload_n 3, 1) := by decide +kernel
theorem dX3_dropWire_51 : decode cX3_dropWire 51 = .ok (.iconst 1, 1) := by decide +kernel
theorem dX3_dropWire_52 : decode cX3_dropWire 52 = .ok (.iadd, 1) := by decide +kernel
theorem dX3_dropWire_53 : decode cX3_dropWire 53 = .ok (.iaload, 1) := by decide +kernel
theorem dX3_dropWire_54 : decode cX3_dropWire 54 = .ok (.iastore, 1) := by decide +kernel
theorem dX3_dropWire_55 : decode cX3_dropWire 55 = .ok (.aload_n 0, 1) := by decide +kernel
theorem dX3_dropWire_56 : decode cX3_dropWire 56 = .ok (.getfield 27, 3) := by decide +kernel
theorem dX3_dropWire_59 : decode cX3_dropWire 59 = .ok (.iload_n 3, 1) := by decide +kernel
theorem dX3_dropWire_60 : decode cX3_dropWire 60 = .ok (.aload_n 0, 1) := by decide +kernel
theorem dX3_dropWire_61 : decode cX3_dropWire 61 = .ok (.getfield 27, 3) := by decide +kernel
theorem dX3_dropWire_64 : decode cX3_dropWire 64 = .ok (.iload_n 3, 1) := by decide +kernel
theorem dX3_dropWire_65 : decode cX3_dropWire 65 = .ok (.iconst 1, 1) := by decide +kernel
theorem dX3_dropWire_66 : decode cX3_dropWire 66 = .ok (.iadd, 1) := by decide +kernel
theorem dX3_dropWire_67 : decode cX3_dropWire 67 = .ok (.iaload, 1) := by decide +kernel
theorem dX3_dropWire_68 : decode cX3_dropWire 68 = .ok (.iastore, 1) := by decide +kernel
theorem dX3_dropWire_69 : decode cX3_dropWire 69 = .ok (.aload_n 0, 1) := by decide +kernel
theorem dX3_dropWire_70 : decode cX3_dropWire 70 = .ok (.getfield 30, 3) := by decide +kernel
theorem dX3_dropWire_73 : decode cX3_dropWire 73 = .ok (.iload_n 3, 1) := by decide +kernel
theorem dX3_dropWire_74 : decode cX3_dropWire 74 = .ok (.aload_n 0, 1) := by decide +kernel
theorem dX3_dropWire_75 : decode cX3_dropWire 75 = .ok (.getfield 30, 3) := by decide +kernel
theorem dX3_dropWire_78 : decode cX3_dropWire 78 = .ok (.iload_n 3, 1) := by decide +kernel
theorem dX3_dropWire_79 : decode cX3_dropWire 79 = .ok (.iconst 1, 1) := by decide +kernel
theorem dX3_dropWire_80 : decode cX3_dropWire 80 = .ok (.iadd, 1) := by decide +kernel
theorem dX3_dropWire_81 : decode cX3_dropWire 81 = .ok (.iaload, 1) := by decide +kernel
theorem dX3_dropWire_82 : decode cX3_dropWire 82 = .ok (.iastore, 1) := by decide +kernel
theorem dX3_dropWire_83 : decode cX3_dropWire 83 = .ok (.aload_n 0, 1) := by decide +kernel
theorem dX3_dropWire_84 : decode cX3_dropWire 84 = .ok (.getfield 33, 3) := by decide +kernel
theorem dX3_dropWire_87 : decode cX3_dropWire 87 = .ok (.iload_n 3, 1) := by decide +kernel
theorem dX3_dropWire_88 : decode cX3_dropWire 88 = .ok (.aload_n 0, 1) := by decide +kernel
theorem dX3_dropWire_89 : decode cX3_dropWire 89 = .ok (.getfield 33, 3) := by decide +kernel
theorem dX3_dropWire_92 : decode cX3_dropWire 92 = .ok (.iload_n 3, 1) := by decide +kernel
theorem dX3_dropWire_93 : decode cX3_dropWire 93 = .ok (.iconst 1, 1) := by decide +kernel
theorem dX3_dropWire_94 : decode cX3_dropWire 94 = .ok (.iadd, 1) := by decide +kernel
theorem dX3_dropWire_95 : decode cX3_dropWire 95 = .ok (.iaload, 1) := by decide +kernel
theorem dX3_dropWire_96 : decode cX3_dropWire 96 = .ok (.iastore, 1) := by decide +kernel
theorem dX3_dropWire_97 : decode cX3_dropWire 97 = .ok (.iinc 3 1, 3) := by decide +kernel
theorem dX3_dropWire_100 : decode cX3_dropWire 100 = .ok (.goto (-81), 3) := by decide +kernel
theorem dX3_dropWire_103 : decode cX3_dropWire 103 = .ok (.iload_n 2, 1) := by decide +kernel
theorem dX3_dropWire_104 : decode cX3_dropWire 104 = .ok (.ireturn, 1) := by decide +kernel
theorem dX3_newMarks_0 : decode cX3_newMarks 0 = .ok (.aload_n 0, 1) := by decide +kernel
theorem dX3_newMarks_1 : decode cX3_newMarks 1 = .ok (.getfield 33, 3) := by decide +kernel
theorem dX3_newMarks_4 : decode cX3_newMarks 4 = .ok (.iload_n 1, 1) := by decide +kernel
theorem dX3_newMarks_5 : decode cX3_newMarks 5 = .ok (.iaload, 1) := by decide +kernel
theorem dX3_newMarks_6 : decode cX3_newMarks 6 = .ok (.istore_n 3, 1) := by decide +kernel
theorem dX3_newMarks_7 : decode cX3_newMarks 7 = .ok (.aload_n 0, 1) := by decide +kernel
theorem dX3_newMarks_8 : decode cX3_newMarks 8 = .ok (.getfield 33, 3) := by decide +kernel
theorem dX3_newMarks_11 : decode cX3_newMarks 11 = .ok (.iload_n 1, 1) := by decide +kernel
theorem dX3_newMarks_12 : decode cX3_newMarks 12 = .ok (.iload_n 2, 1) := by decide +kernel
theorem dX3_newMarks_13 : decode cX3_newMarks 13 = .ok (.iastore, 1) := by decide +kernel
theorem dX3_newMarks_14 : decode cX3_newMarks 14 = .ok (.iload_n 3, 1) := by decide +kernel
theorem dX3_newMarks_15 : decode cX3_newMarks 15 = .ok (.ireturn, 1) := by decide +kernel
theorem dX3_doWork_0 : decode cX3_doWork 0 = .ok (.iconst 0, 1) := by decide +kernel
theorem dX3_doWork_1 : decode cX3_doWork 1 = .ok (.istore_n 2, 1) := by decide +kernel
theorem dX3_doWork_2 : decode cX3_doWork 2 = .ok (.iload_n 2, 1) := by decide +kernel
theorem dX3_doWork_3 : decode cX3_doWork 3 = .ok (.aload_n 0, 1) := by decide +kernel
theorem dX3_doWork_4 : decode cX3_doWork 4 = .ok (.getfield 40, 3) := by decide +kernel
theorem dX3_doWork_7 : decode cX3_doWork 7 = .ok (.if_icmp .ge 21, 3) := by decide +kernel
theorem dX3_doWork_10 : decode cX3_doWork 10 = .ok (.aload_n 0, 1) := by decide +kernel
theorem dX3_doWork_11 : decode cX3_doWork 11 = .ok (.getfield 33, 3) := by decide +kernel
theorem dX3_doWork_14 : decode cX3_doWork 14 = .ok (.iload_n 2, 1) := by decide +kernel
theorem dX3_doWork_15 : decode cX3_doWork 15 = .ok (.aload_n 0, 1) := by decide +kernel
theorem dX3_doWork_16 : decode cX3_doWork 16 = .ok (.iload_n 1, 1) := by decide +kernel
theorem dX3_doWork_17 : decode cX3_doWork 17 = .ok (.iload_n 2, 1) := by decide +kernel
theorem dX3_doWork_18 : decode cX3_doWork 18 = .ok (.invokevirtual 78, 3) := by decide +kernel
theorem dX3_doWork_21 : decode cX3_doWork 21 = .ok (.iastore, 1) := by decide +kernel
theorem dX3_doWork_22 : decode cX3_doWork 22 = .ok (.iinc 2 1, 3) := by decide +kernel
theorem dX3_doWork_25 : decode cX3_doWork 25 = .ok (.goto (-23), 3) := by decide +kernel
theorem dX3_doWork_28 : decode cX3_doWork 28 = .ok (.aload_n 0, 1) := by decide +kernel
theorem dX3_doWork_29 : decode cX3_doWork 29 = .ok (.getfield 18, 3) := by decide +kernel
theorem dX3_doWork_32 : decode cX3_doWork 32 = .ok (.iload_n 1, 1) := by decide +kernel
theorem dX3_doWork_33 : decode cX3_doWork 33 = .ok (.dup2, 1) := by decide +kernel
theorem dX3_doWork_34 : decode cX3_doWork 34 = .ok (.iaload, 1) := by decide +kernel
theorem dX3_doWork_35 : decode cX3_doWork 35 = .ok (.iconst 1, 1) := by decide +kernel
theorem dX3_doWork_36 : decode cX3_doWork 36 = .ok (.iadd, 1) := by decide +kernel
theorem dX3_doWork_37 : decode cX3_doWork 37 = .ok (.iastore, 1) := by decide +kernel
theorem dX3_doWork_38 : decode cX3_doWork 38 = .ok (.return_, 1) := by decide +kernel
theorem dX3_triesModule_0 : decode cX3_triesModule 0 = .ok (.aload_n 0, 1) := by decide +kernel
theorem dX3_triesModule_1 : decode cX3_triesModule 1 = .ok (.iload_n 1, 1) := by decide +kernel
theorem dX3_triesModule_2 : decode cX3_triesModule 2 = .ok (.iload_n 2, 1) := by decide +kernel
theorem dX3_triesModule_3 : decode cX3_triesModule 3 = .ok (.invokevirtual 82, 3) := by decide +kernel
theorem dX3_triesModule_6 : decode cX3_triesModule 6 = .ok (.getstatic 53, 3) := by decide +kernel
theorem dX3_triesModule_9 : decode cX3_triesModule 9 = .ok (.if_acmp .ne 7, 3) := by decide +kernel
theorem dX3_triesModule_12 : decode cX3_triesModule 12 = .ok (.iconst 1, 1) := by decide +kernel
theorem dX3_triesModule_13 : decode cX3_triesModule 13 = .ok (.goto 4, 3) := by decide +kernel
theorem dX3_triesModule_16 : decode cX3_triesModule 16 = .ok (.iconst 0, 1) := by decide +kernel
theorem dX3_triesModule_17 : decode cX3_triesModule 17 = .ok (.istore_n 3, 1) := by decide +kernel
theorem dX3_triesModule_18 : decode cX3_triesModule 18 = .ok (.iload_n 3, 1) := by decide +kernel
theorem dX3_triesModule_19 : decode cX3_triesModule 19 = .ok (.ifCond .eq 10, 3) := by decide +kernel
theorem dX3_triesModule_22 : decode cX3_triesModule 22 = .ok (.aload_n 0, 1) := by decide +kernel
theorem dX3_triesModule_23 : decode cX3_triesModule 23 = .ok (.iload_n 1, 1) := by decide +kernel
theorem dX3_triesModule_24 : decode cX3_triesModule 24 = .ok (.iload_n 2, 1) := by decide +kernel
theorem dX3_triesModule_25 : decode cX3_triesModule 25 = .ok (.invokevirtual 86, 3) := by decide +kernel
theorem dX3_triesModule_28 : decode cX3_triesModule 28 = .ok (.pop, 1) := by decide +kernel
theorem dX3_triesModule_29 : decode cX3_triesModule 29 = .ok (.iload_n 3, 1) := by decide +kernel
theorem dX3_triesModule_30 : decode cX3_triesModule 30 = .ok (.ireturn, 1) := by decide +kernel
theorem dX3_triesWire_0 : decode cX3_triesWire 0 = .ok (.aload_n 0, 1) := by decide +kernel
theorem dX3_triesWire_1 : decode cX3_triesWire 1 = .ok (.iload_n 1, 1) := by decide +kernel
theorem dX3_triesWire_2 : decode cX3_triesWire 2 = .ok (.iload_n 2, 1) := by decide +kernel
theorem dX3_triesWire_3 : decode cX3_triesWire 3 = .ok (.iload_n 3, 1) := by decide +kernel
theorem dX3_triesWire_4 : decode cX3_triesWire 4 = .ok (.iload 4, 2) := by decide +kernel
theorem dX3_triesWire_6 : decode cX3_triesWire 6 = .ok (.iload 5, 2) := by decide +kernel
theorem dX3_triesWire_8 : decode cX3_triesWire 8 = .ok (.invokevirtual 89, 3) := by decide +kernel
theorem dX3_triesWire_11 : decode cX3_triesWire 11 = .ok (.getstatic 53, 3) := by decide +kernel
theorem dX3_triesWire_14 : decode cX3_triesWire 14 = .ok (.if_acmp .ne 7, 3) := by decide +kernel
theorem dX3_triesWire_17 : decode cX3_triesWire 17 = .ok (.iconst 1, 1) := by decide +kernel
theorem dX3_triesWire_18 : decode cX3_triesWire 18 = .ok (.goto 4, 3) := by decide +kernel
theorem dX3_triesWire_21 : decode cX3_triesWire 21 = .ok (.iconst 0, 1) := by decide +kernel
theorem dX3_triesWire_22 : decode cX3_triesWire 22 = .ok (.istore 6, 2) := by decide +kernel
theorem dX3_triesWire_24 : decode cX3_triesWire 24 = .ok (.iload 6, 2) := by decide +kernel
theorem dX3_triesWire_26 : decode cX3_triesWire 26 = .ok (.ifCond .eq 15, 3) := by decide +kernel
theorem dX3_triesWire_29 : decode cX3_triesWire 29 = .ok (.aload_n 0, 1) := by decide +kernel
theorem dX3_triesWire_30 : decode cX3_triesWire 30 = .ok (.iload_n 1, 1) := by decide +kernel
theorem dX3_triesWire_31 : decode cX3_triesWire 31 = .ok (.iload_n 2, 1) := by decide +kernel
theorem dX3_triesWire_32 : decode cX3_triesWire 32 = .ok (.iload_n 3, 1) := by decide +kernel
theorem dX3_triesWire_33 : decode cX3_triesWire 33 = .ok (.iload 4, 2) := by decide +kernel
theorem dX3_triesWire_35 : decode cX3_triesWire 35 = .ok (.iload 5, 2) := by decide +kernel
theorem dX3_triesWire_37 : decode cX3_triesWire 37 = .ok (.invokevirtual 93, 3) := by decide +kernel
theorem dX3_triesWire_40 : decode cX3_triesWire 40 = .ok (.pop, 1) := by decide +kernel
theorem dX3_triesWire_41 : decode cX3_triesWire 41 = .ok (.iload 6, 2) := by decide +kernel
theorem dX3_triesWire_43 : decode cX3_triesWire 43 = .ok (.ireturn, 1) := by decide +kernel
theorem dX3_triesCut_0 : decode cX3_triesCut 0 = .ok (.aload_n 0, 1) := by decide +kernel
theorem dX3_triesCut_1 : decode cX3_triesCut 1 = .ok (.iload_n 1, 1) := by decide +kernel
theorem dX3_triesCut_2 : decode cX3_triesCut 2 = .ok (.invokevirtual 62, 3) := by decide +kernel
theorem dX3_triesCut_5 : decode cX3_triesCut 5 = .ok (.istore_n 2, 1) := by decide +kernel
theorem dX3_triesCut_6 : decode cX3_triesCut 6 = .ok (.iload_n 2, 1) := by decide +kernel
theorem dX3_triesCut_7 : decode cX3_triesCut 7 = .ok (.ifCond .eq 9, 3) := by decide +kernel
theorem dX3_triesCut_10 : decode cX3_triesCut 10 = .ok (.aload_n 0, 1) := by decide +kernel
theorem dX3_triesCut_11 : decode cX3_triesCut 11 = .ok (.iload_n 1, 1) := by decide +kernel
theorem dX3_triesCut_12 : decode cX3_triesCut 12 = .ok (.invokevirtual 97, 3) := by decide +kernel
theorem dX3_triesCut_15 : decode cX3_triesCut 15 = .ok (.pop, 1) := by decide +kernel
theorem dX3_triesCut_16 : decode cX3_triesCut 16 = .ok (.iload_n 2, 1) := by decide +kernel
theorem dX3_triesCut_17 : decode cX3_triesCut 17 = .ok (.ireturn, 1) := by decide +kernel
theorem dX3_triesMarks_0 : decode cX3_triesMarks 0 = .ok (.aload_n 0, 1) := by decide +kernel
theorem dX3_triesMarks_1 : decode cX3_triesMarks 1 = .ok (.iload_n 1, 1) := by decide +kernel
theorem dX3_triesMarks_2 : decode cX3_triesMarks 2 = .ok (.iload_n 2, 1) := by decide +kernel
theorem dX3_triesMarks_3 : decode cX3_triesMarks 3 = .ok (.invokevirtual 101, 3) := by decide +kernel
theorem dX3_triesMarks_6 : decode cX3_triesMarks 6 = .ok (.getstatic 53, 3) := by decide +kernel
theorem dX3_triesMarks_9 : decode cX3_triesMarks 9 = .ok (.if_acmp .ne 7, 3) := by decide +kernel
theorem dX3_triesMarks_12 : decode cX3_triesMarks 12 = .ok (.iconst 1, 1) := by decide +kernel
theorem dX3_triesMarks_13 : decode cX3_triesMarks 13 = .ok (.goto 4, 3) := by decide +kernel
theorem dX3_triesMarks_16 : decode cX3_triesMarks 16 = .ok (.iconst 0, 1) := by decide +kernel
theorem dX3_triesMarks_17 : decode cX3_triesMarks 17 = .ok (.istore_n 3, 1) := by decide +kernel
theorem dX3_triesMarks_18 : decode cX3_triesMarks 18 = .ok (.iload_n 3, 1) := by decide +kernel
theorem dX3_triesMarks_19 : decode cX3_triesMarks 19 = .ok (.ifCond .eq 10, 3) := by decide +kernel
theorem dX3_triesMarks_22 : decode cX3_triesMarks 22 = .ok (.aload_n 0, 1) := by decide +kernel
theorem dX3_triesMarks_23 : decode cX3_triesMarks 23 = .ok (.iload_n 1, 1) := by decide +kernel
theorem dX3_triesMarks_24 : decode cX3_triesMarks 24 = .ok (.iload_n 2, 1) := by decide +kernel
theorem dX3_triesMarks_25 : decode cX3_triesMarks 25 = .ok (.invokevirtual 104, 3) := by decide +kernel
theorem dX3_triesMarks_28 : decode cX3_triesMarks 28 = .ok (.pop, 1) := by decide +kernel
theorem dX3_triesMarks_29 : decode cX3_triesMarks 29 = .ok (.iload_n 3, 1) := by decide +kernel
theorem dX3_triesMarks_30 : decode cX3_triesMarks 30 = .ok (.ireturn, 1) := by decide +kernel
theorem dX3_triesWork_0 : decode cX3_triesWork 0 = .ok (.aload_n 0, 1) := by decide +kernel
theorem dX3_triesWork_1 : decode cX3_triesWork 1 = .ok (.iload_n 1, 1) := by decide +kernel
theorem dX3_triesWork_2 : decode cX3_triesWork 2 = .ok (.invokevirtual 107, 3) := by decide +kernel
theorem dX3_triesWork_5 : decode cX3_triesWork 5 = .ok (.getstatic 53, 3) := by decide +kernel
theorem dX3_triesWork_8 : decode cX3_triesWork 8 = .ok (.if_acmp .ne 7, 3) := by decide +kernel
theorem dX3_triesWork_11 : decode cX3_triesWork 11 = .ok (.iconst 1, 1) := by decide +kernel
theorem dX3_triesWork_12 : decode cX3_triesWork 12 = .ok (.goto 4, 3) := by decide +kernel
theorem dX3_triesWork_15 : decode cX3_triesWork 15 = .ok (.iconst 0, 1) := by decide +kernel
theorem dX3_triesWork_16 : decode cX3_triesWork 16 = .ok (.istore_n 2, 1) := by decide +kernel
theorem dX3_triesWork_17 : decode cX3_triesWork 17 = .ok (.iload_n 2, 1) := by decide +kernel
theorem dX3_triesWork_18 : decode cX3_triesWork 18 = .ok (.ifCond .eq 8, 3) := by decide +kernel
theorem dX3_triesWork_21 : decode cX3_triesWork 21 = .ok (.aload_n 0, 1) := by decide +kernel
theorem dX3_triesWork_22 : decode cX3_triesWork 22 = .ok (.iload_n 1, 1) := by decide +kernel
theorem dX3_triesWork_23 : decode cX3_triesWork 23 = .ok (.invokevirtual 111, 3) := by decide +kernel
theorem dX3_triesWork_26 : decode cX3_triesWork 26 = .ok (.iload_n 2, 1) := by decide +kernel
theorem dX3_triesWork_27 : decode cX3_triesWork 27 = .ok (.ireturn, 1) := by decide +kernel
theorem dX3_hasMarks_0 : decode cX3_hasMarks 0 = .ok (.aload_n 0, 1) := by decide +kernel
theorem dX3_hasMarks_1 : decode cX3_hasMarks 1 = .ok (.iload_n 1, 1) := by decide +kernel
theorem dX3_hasMarks_2 : decode cX3_hasMarks 2 = .ok (.invokevirtual 62, 3) := by decide +kernel
theorem dX3_hasMarks_5 : decode cX3_hasMarks 5 = .ok (.ifCond .eq 17, 3) := by decide +kernel
theorem dX3_hasMarks_8 : decode cX3_hasMarks 8 = .ok (.aload_n 0, 1) := by decide +kernel
theorem dX3_hasMarks_9 : decode cX3_hasMarks 9 = .ok (.getfield 33, 3) := by decide +kernel
theorem dX3_hasMarks_12 : decode cX3_hasMarks 12 = .ok (.iload_n 1, 1) := by decide +kernel
theorem dX3_hasMarks_13 : decode cX3_hasMarks 13 = .ok (.iaload, 1) := by decide +kernel
theorem dX3_hasMarks_14 : decode cX3_hasMarks 14 = .ok (.iload_n 2, 1) := by decide +kernel
theorem dX3_hasMarks_15 : decode cX3_hasMarks 15 = .ok (.if_icmp .lt 7, 3) := by decide +kernel
theorem dX3_hasMarks_18 : decode cX3_hasMarks 18 = .ok (.iconst 1, 1) := by decide +kernel
theorem dX3_hasMarks_19 : decode cX3_hasMarks 19 = .ok (.goto 4, 3) := by decide +kernel
theorem dX3_hasMarks_22 : decode cX3_hasMarks 22 = .ok (.iconst 0, 1) := by decide +kernel
theorem dX3_hasMarks_23 : decode cX3_hasMarks 23 = .ok (.ireturn, 1) := by decide +kernel
theorem dX3_hasWorked_0 : decode cX3_hasWorked 0 = .ok (.aload_n 0, 1) := by decide +kernel
theorem dX3_hasWorked_1 : decode cX3_hasWorked 1 = .ok (.iload_n 1, 1) := by decide +kernel
theorem dX3_hasWorked_2 : decode cX3_hasWorked 2 = .ok (.invokevirtual 49, 3) := by decide +kernel
theorem dX3_hasWorked_5 : decode cX3_hasWorked 5 = .ok (.ifCond .eq 17, 3) := by decide +kernel
theorem dX3_hasWorked_8 : decode cX3_hasWorked 8 = .ok (.aload_n 0, 1) := by decide +kernel
theorem dX3_hasWorked_9 : decode cX3_hasWorked 9 = .ok (.getfield 18, 3) := by decide +kernel
theorem dX3_hasWorked_12 : decode cX3_hasWorked 12 = .ok (.iload_n 1, 1) := by decide +kernel
theorem dX3_hasWorked_13 : decode cX3_hasWorked 13 = .ok (.iaload, 1) := by decide +kernel
theorem dX3_hasWorked_14 : decode cX3_hasWorked 14 = .ok (.iload_n 2, 1) := by decide +kernel
theorem dX3_hasWorked_15 : decode cX3_hasWorked 15 = .ok (.if_icmp .lt 7, 3) := by decide +kernel
theorem dX3_hasWorked_18 : decode cX3_hasWorked 18 = .ok (.iconst 1, 1) := by decide +kernel
theorem dX3_hasWorked_19 : decode cX3_hasWorked 19 = .ok (.goto 4, 3) := by decide +kernel
theorem dX3_hasWorked_22 : decode cX3_hasWorked 22 = .ok (.iconst 0, 1) := by decide +kernel
theorem dX3_hasWorked_23 : decode cX3_hasWorked 23 = .ok (.ireturn, 1) := by decide +kernel
theorem dX3_canWork_0 : decode cX3_canWork 0 = .ok (.iconst 0, 1) := by decide +kernel
theorem dX3_canWork_1 : decode cX3_canWork 1 = .ok (.istore_n 2, 1) := by decide +kernel
theorem dX3_canWork_2 : decode cX3_canWork 2 = .ok (.iload_n 2, 1) := by decide +kernel
theorem dX3_canWork_3 : decode cX3_canWork 3 = .ok (.aload_n 0, 1) := by decide +kernel
theorem dX3_canWork_4 : decode cX3_canWork 4 = .ok (.getfield 40, 3) := by decide +kernel
theorem dX3_canWork_7 : decode cX3_canWork 7 = .ok (.if_icmp .ge 48, 3) := by decide +kernel
theorem dX3_canWork_10 : decode cX3_canWork 10 = .ok (.aload_n 0, 1) := by decide +kernel
theorem dX3_canWork_11 : decode cX3_canWork 11 = .ok (.getfield 24, 3) := by decide +kernel
theorem dX3_canWork_14 : decode cX3_canWork 14 = .ok (.iload_n 2, 1) := by decide +kernel
theorem dX3_canWork_15 : decode cX3_canWork 15 = .ok (.iaload, 1) := by decide +kernel
theorem dX3_canWork_16 : decode cX3_canWork 16 = .ok (.iload_n 1, 1) := by decide +kernel
theorem dX3_canWork_17 : decode cX3_canWork 17 = .ok (.if_icmp .ne 18, 3) := by decide +kernel
theorem dX3_canWork_20 : decode cX3_canWork 20 = .ok (.aload_n 0, 1) := by decide +kernel
theorem dX3_canWork_21 : decode cX3_canWork 21 = .ok (.getfield 33, 3) := by decide +kernel
theorem dX3_canWork_24 : decode cX3_canWork 24 = .ok (.iload_n 2, 1) := by decide +kernel
theorem dX3_canWork_25 : decode cX3_canWork 25 = .ok (.iaload, 1) := by decide +kernel
theorem dX3_canWork_26 : decode cX3_canWork 26 = .ok (.aload_n 0, 1) := by decide +kernel
theorem dX3_canWork_27 : decode cX3_canWork 27 = .ok (.getfield 30, 3) := by decide +kernel
theorem dX3_canWork_30 : decode cX3_canWork 30 = .ok (.iload_n 2, 1) := by decide +kernel
theorem dX3_canWork_31 : decode cX3_canWork 31 = .ok (.iaload, 1) := by decide +kernel
theorem dX3_canWork_32 : decode cX3_canWork 32 = .ok (.if_icmp .lt 15, 3) := by decide +kernel
theorem dX3_canWork_35 : decode cX3_canWork 35 = .ok (.aload_n 0, 1) := by decide +kernel
theorem dX3_canWork_36 : decode cX3_canWork 36 = .ok (.iload_n 1, 1) := by decide +kernel
theorem dX3_canWork_37 : decode cX3_canWork 37 = .ok (.iload_n 2, 1) := by decide +kernel
theorem dX3_canWork_38 : decode cX3_canWork 38 = .ok (.invokevirtual 78, 3) := by decide +kernel
theorem dX3_canWork_41 : decode cX3_canWork 41 = .ok (.sipush 999, 3) := by decide +kernel
theorem dX3_canWork_44 : decode cX3_canWork 44 = .ok (.if_icmp .le 5, 3) := by decide +kernel
theorem dX3_canWork_47 : decode cX3_canWork 47 = .ok (.iconst 0, 1) := by decide +kernel
theorem dX3_canWork_48 : decode cX3_canWork 48 = .ok (.ireturn, 1) := by decide +kernel
theorem dX3_canWork_49 : decode cX3_canWork 49 = .ok (.iinc 2 1, 3) := by decide +kernel
theorem dX3_canWork_52 : decode cX3_canWork 52 = .ok (.goto (-50), 3) := by decide +kernel
theorem dX3_canWork_55 : decode cX3_canWork 55 = .ok (.iconst 1, 1) := by decide +kernel
theorem dX3_canWork_56 : decode cX3_canWork 56 = .ok (.ireturn, 1) := by decide +kernel
theorem dX3_marksBehind_0 : decode cX3_marksBehind 0 = .ok (.aload_n 0, 1) := by decide +kernel
theorem dX3_marksBehind_1 : decode cX3_marksBehind 1 = .ok (.getfield 33, 3) := by decide +kernel
theorem dX3_marksBehind_4 : decode cX3_marksBehind 4 = .ok (.iload_n 2, 1) := by decide +kernel
theorem dX3_marksBehind_5 : decode cX3_marksBehind 5 = .ok (.iaload, 1) := by decide +kernel
theorem dX3_marksBehind_6 : decode cX3_marksBehind 6 = .ok (.aload_n 0, 1) := by decide +kernel
theorem dX3_marksBehind_7 : decode cX3_marksBehind 7 = .ok (.getfield 24, 3) := by decide +kernel
theorem dX3_marksBehind_10 : decode cX3_marksBehind 10 = .ok (.iload_n 2, 1) := by decide +kernel
theorem dX3_marksBehind_11 : decode cX3_marksBehind 11 = .ok (.iaload, 1) := by decide +kernel
theorem dX3_marksBehind_12 : decode cX3_marksBehind 12 = .ok (.iload_n 1, 1) := by decide +kernel
theorem dX3_marksBehind_13 : decode cX3_marksBehind 13 = .ok (.if_icmp .ne 12, 3) := by decide +kernel
theorem dX3_marksBehind_16 : decode cX3_marksBehind 16 = .ok (.aload_n 0, 1) := by decide +kernel
theorem dX3_marksBehind_17 : decode cX3_marksBehind 17 = .ok (.getfield 30, 3) := by decide +kernel
theorem dX3_marksBehind_20 : decode cX3_marksBehind 20 = .ok (.iload_n 2, 1) := by decide +kernel
theorem dX3_marksBehind_21 : decode cX3_marksBehind 21 = .ok (.iaload, 1) := by decide +kernel
theorem dX3_marksBehind_22 : decode cX3_marksBehind 22 = .ok (.goto 4, 3) := by decide +kernel
theorem dX3_marksBehind_25 : decode cX3_marksBehind 25 = .ok (.iconst 0, 1) := by decide +kernel
theorem dX3_marksBehind_26 : decode cX3_marksBehind 26 = .ok (.isub, 1) := by decide +kernel
theorem dX3_marksBehind_27 : decode cX3_marksBehind 27 = .ok (.aload_n 0, 1) := by decide +kernel
theorem dX3_marksBehind_28 : decode cX3_marksBehind 28 = .ok (.getfield 21, 3) := by decide +kernel
theorem dX3_marksBehind_31 : decode cX3_marksBehind 31 = .ok (.iload_n 2, 1) := by decide +kernel
theorem dX3_marksBehind_32 : decode cX3_marksBehind 32 = .ok (.iaload, 1) := by decide +kernel
theorem dX3_marksBehind_33 : decode cX3_marksBehind 33 = .ok (.iload_n 1, 1) := by decide +kernel
theorem dX3_marksBehind_34 : decode cX3_marksBehind 34 = .ok (.if_icmp .ne 12, 3) := by decide +kernel
theorem dX3_marksBehind_37 : decode cX3_marksBehind 37 = .ok (.aload_n 0, 1) := by decide +kernel
theorem dX3_marksBehind_38 : decode cX3_marksBehind 38 = .ok (.getfield 27, 3) := by decide +kernel
theorem dX3_marksBehind_41 : decode cX3_marksBehind 41 = .ok (.iload_n 2, 1) := by decide +kernel
theorem dX3_marksBehind_42 : decode cX3_marksBehind 42 = .ok (.iaload, 1) := by decide +kernel
theorem dX3_marksBehind_43 : decode cX3_marksBehind 43 = .ok (.goto 4, 3) := by decide +kernel
theorem dX3_marksBehind_46 : decode cX3_marksBehind 46 = .ok (.iconst 0, 1) := by decide +kernel
theorem dX3_marksBehind_47 : decode cX3_marksBehind 47 = .ok (.iadd, 1) := by decide +kernel
theorem dX3_marksBehind_48 : decode cX3_marksBehind 48 = .ok (.ireturn, 1) := by decide +kernel
theorem dX3_gain_0 : decode cX3_gain 0 = .ok (.iconst 0, 1) := by decide +kernel
theorem dX3_gain_1 : decode cX3_gain 1 = .ok (.istore_n 2, 1) := by decide +kernel
theorem dX3_gain_2 : decode cX3_gain 2 = .ok (.iconst 0, 1) := by decide +kernel
theorem dX3_gain_3 : decode cX3_gain 3 = .ok (.istore_n 3, 1) := by decide +kernel
theorem dX3_gain_4 : decode cX3_gain 4 = .ok (.iload_n 3, 1) := by decide +kernel
theorem dX3_gain_5 : decode cX3_gain 5 = .ok (.aload_n 0, 1) := by decide +kernel
theorem dX3_gain_6 : decode cX3_gain 6 = .ok (.getfield 40, 3) := by decide +kernel
theorem dX3_gain_9 : decode cX3_gain 9 = .ok (.if_icmp .ge 25, 3) := by decide +kernel
theorem dX3_gain_12 : decode cX3_gain 12 = .ok (.iload_n 2, 1) := by decide +kernel
theorem dX3_gain_13 : decode cX3_gain 13 = .ok (.aload_n 0, 1) := by decide +kernel
theorem dX3_gain_14 : decode cX3_gain 14 = .ok (.iload_n 1, 1) := by decide +kernel
theorem dX3_gain_15 : decode cX3_gain 15 = .ok (.iload_n 3, 1) := by decide +kernel
theorem dX3_gain_16 : decode cX3_gain 16 = .ok (.invokevirtual 78, 3) := by decide +kernel
theorem dX3_gain_19 : decode cX3_gain 19 = .ok (.aload_n 0, 1) := by decide +kernel
theorem dX3_gain_20 : decode cX3_gain 20 = .ok (.getfield 33, 3) := by decide +kernel
theorem dX3_gain_23 : decode cX3_gain 23 = .ok (.iload_n 3, 1) := by decide +kernel
theorem dX3_gain_24 : decode cX3_gain 24 = .ok (.iaload, 1) := by decide +kernel
theorem dX3_gain_25 : decode cX3_gain 25 = .ok (.isub, 1) := by decide +kernel
theorem dX3_gain_26 : decode cX3_gain 26 = .ok (.iadd, 1) := by decide +kernel
theorem dX3_gain_27 : decode cX3_gain 27 = .ok (.istore_n 2, 1) := by decide +kernel
theorem dX3_gain_28 : decode cX3_gain 28 = .ok (.iinc 3 1, 3) := by decide +kernel
theorem dX3_gain_31 : decode cX3_gain 31 = .ok (.goto (-27), 3) := by decide +kernel
theorem dX3_gain_34 : decode cX3_gain 34 = .ok (.iload_n 2, 1) := by decide +kernel
theorem dX3_gain_35 : decode cX3_gain 35 = .ok (.ireturn, 1) := by decide +kernel
theorem dX3_allMarks_0 : decode cX3_allMarks 0 = .ok (.iconst 0, 1) := by decide +kernel
theorem dX3_allMarks_1 : decode cX3_allMarks 1 = .ok (.istore_n 1, 1) := by decide +kernel
theorem dX3_allMarks_2 : decode cX3_allMarks 2 = .ok (.iconst 0, 1) := by decide +kernel
theorem dX3_allMarks_3 : decode cX3_allMarks 3 = .ok (.istore_n 2, 1) := by decide +kernel
theorem dX3_allMarks_4 : decode cX3_allMarks 4 = .ok (.iload_n 2, 1) := by decide +kernel
theorem dX3_allMarks_5 : decode cX3_allMarks 5 = .ok (.aload_n 0, 1) := by decide +kernel
theorem dX3_allMarks_6 : decode cX3_allMarks 6 = .ok (.getfield 40, 3) := by decide +kernel
theorem dX3_allMarks_9 : decode cX3_allMarks 9 = .ok (.if_icmp .ge 18, 3) := by decide +kernel
theorem dX3_allMarks_12 : decode cX3_allMarks 12 = .ok (.iload_n 1, 1) := by decide +kernel
theorem dX3_allMarks_13 : decode cX3_allMarks 13 = .ok (.aload_n 0, 1) := by decide +kernel
theorem dX3_allMarks_14 : decode cX3_allMarks 14 = .ok (.getfield 33, 3) := by decide +kernel
theorem dX3_allMarks_17 : decode cX3_allMarks 17 = .ok (.iload_n 2, 1) := by decide +kernel
theorem dX3_allMarks_18 : decode cX3_allMarks 18 = .ok (.iaload, 1) := by decide +kernel
theorem dX3_allMarks_19 : decode cX3_allMarks 19 = .ok (.iadd, 1) := by decide +kernel
theorem dX3_allMarks_20 : decode cX3_allMarks 20 = .ok (.istore_n 1, 1) := by decide +kernel
theorem dX3_allMarks_21 : decode cX3_allMarks 21 = .ok (.iinc 2 1, 3) := by decide +kernel
theorem dX3_allMarks_24 : decode cX3_allMarks 24 = .ok (.goto (-20), 3) := by decide +kernel
theorem dX3_allMarks_27 : decode cX3_allMarks 27 = .ok (.iload_n 1, 1) := by decide +kernel
theorem dX3_allMarks_28 : decode cX3_allMarks 28 = .ok (.ireturn, 1) := by decide +kernel
theorem dX3_allWorks_0 : decode cX3_allWorks 0 = .ok (.iconst 0, 1) := by decide +kernel
theorem dX3_allWorks_1 : decode cX3_allWorks 1 = .ok (.istore_n 1, 1) := by decide +kernel
theorem dX3_allWorks_2 : decode cX3_allWorks 2 = .ok (.iconst 0, 1) := by decide +kernel
theorem dX3_allWorks_3 : decode cX3_allWorks 3 = .ok (.istore_n 2, 1) := by decide +kernel
theorem dX3_allWorks_4 : decode cX3_allWorks 4 = .ok (.iload_n 2, 1) := by decide +kernel
theorem dX3_allWorks_5 : decode cX3_allWorks 5 = .ok (.aload_n 0, 1) := by decide +kernel
theorem dX3_allWorks_6 : decode cX3_allWorks 6 = .ok (.getfield 36, 3) := by decide +kernel
theorem dX3_allWorks_9 : decode cX3_allWorks 9 = .ok (.if_icmp .ge 18, 3) := by decide +kernel
theorem dX3_allWorks_12 : decode cX3_allWorks 12 = .ok (.iload_n 1, 1) := by decide +kernel
theorem dX3_allWorks_13 : decode cX3_allWorks 13 = .ok (.aload_n 0, 1) := by decide +kernel
theorem dX3_allWorks_14 : decode cX3_allWorks 14 = .ok (.getfield 18, 3) := by decide +kernel
theorem dX3_allWorks_17 : decode cX3_allWorks 17 = .ok (.iload_n 2, 1) := by decide +kernel
theorem dX3_allWorks_18 : decode cX3_allWorks 18 = .ok (.iaload, 1) := by decide +kernel
theorem dX3_allWorks_19 : decode cX3_allWorks 19 = .ok (.iadd, 1) := by decide +kernel
theorem dX3_allWorks_20 : decode cX3_allWorks 20 = .ok (.istore_n 1, 1) := by decide +kernel
theorem dX3_allWorks_21 : decode cX3_allWorks 21 = .ok (.iinc 2 1, 3) := by decide +kernel
theorem dX3_allWorks_24 : decode cX3_allWorks 24 = .ok (.goto (-20), 3) := by decide +kernel
theorem dX3_allWorks_27 : decode cX3_allWorks 27 = .ok (.iload_n 1, 1) := by decide +kernel
theorem dX3_allWorks_28 : decode cX3_allWorks 28 = .ok (.ireturn, 1) := by decide +kernel
theorem dX3_count_0 : decode cX3_count 0 = .ok (.iconst 0, 1) := by decide +kernel
theorem dX3_count_1 : decode cX3_count 1 = .ok (.istore_n 3, 1) := by decide +kernel
theorem dX3_count_2 : decode cX3_count 2 = .ok (.iconst 0, 1) := by decide +kernel
theorem dX3_count_3 : decode cX3_count 3 = .ok (.istore 4, 2) := by decide +kernel
theorem dX3_count_5 : decode cX3_count 5 = .ok (.iload 4, 2) := by decide +kernel
theorem dX3_count_7 : decode cX3_count 7 = .ok (.iload_n 1, 1) := by decide +kernel
theorem dX3_count_8 : decode cX3_count 8 = .ok (.if_icmp .ge 27, 3) := by decide +kernel
theorem dX3_count_11 : decode cX3_count 11 = .ok (.iload 4, 2) := by decide +kernel
theorem dX3_count_13 : decode cX3_count 13 = .ok (.aload_n 0, 1) := by decide +kernel
theorem dX3_count_14 : decode cX3_count 14 = .ok (.arraylength, 1) := by decide +kernel
theorem dX3_count_15 : decode cX3_count 15 = .ok (.if_icmp .ge 20, 3) := by decide +kernel
theorem dX3_count_18 : decode cX3_count 18 = .ok (.aload_n 0, 1) := by decide +kernel
theorem dX3_count_19 : decode cX3_count 19 = .ok (.iload 4, 2) := by decide +kernel
theorem dX3_count_21 : decode cX3_count 21 = .ok (.iaload, 1) := by decide +kernel
theorem dX3_count_22 : decode cX3_count 22 = .ok (.iload_n 2, 1) := by decide +kernel
theorem dX3_count_23 : decode cX3_count 23 = .ok (.if_icmp .ne 6, 3) := by decide +kernel
theorem dX3_count_26 : decode cX3_count 26 = .ok (.iinc 3 1, 3) := by decide +kernel
theorem dX3_count_29 : decode cX3_count 29 = .ok (.iinc 4 1, 3) := by decide +kernel
theorem dX3_count_32 : decode cX3_count 32 = .ok (.goto (-27), 3) := by decide +kernel
theorem dX3_count_35 : decode cX3_count 35 = .ok (.iload_n 3, 1) := by decide +kernel
theorem dX3_count_36 : decode cX3_count 36 = .ok (.ireturn, 1) := by decide +kernel
theorem dX3_ready_0 : decode cX3_ready 0 = .ok (.iconst 0, 1) := by decide +kernel
theorem dX3_ready_1 : decode cX3_ready 1 = .ok (.istore_n 1, 1) := by decide +kernel
theorem dX3_ready_2 : decode cX3_ready 2 = .ok (.iconst 0, 1) := by decide +kernel
theorem dX3_ready_3 : decode cX3_ready 3 = .ok (.istore_n 2, 1) := by decide +kernel
theorem dX3_ready_4 : decode cX3_ready 4 = .ok (.iload_n 2, 1) := by decide +kernel
theorem dX3_ready_5 : decode cX3_ready 5 = .ok (.aload_n 0, 1) := by decide +kernel
theorem dX3_ready_6 : decode cX3_ready 6 = .ok (.getfield 36, 3) := by decide +kernel
theorem dX3_ready_9 : decode cX3_ready 9 = .ok (.if_icmp .ge 23, 3) := by decide +kernel
theorem dX3_ready_12 : decode cX3_ready 12 = .ok (.aload_n 0, 1) := by decide +kernel
theorem dX3_ready_13 : decode cX3_ready 13 = .ok (.iload_n 2, 1) := by decide +kernel
theorem dX3_ready_14 : decode cX3_ready 14 = .ok (.invokevirtual 75, 3) := by decide +kernel
theorem dX3_ready_17 : decode cX3_ready 17 = .ok (.ifCond .eq 9, 3) := by decide +kernel
theorem dX3_ready_20 : decode cX3_ready 20 = .ok (.iload_n 1, 1) := by decide +kernel
theorem dX3_ready_21 : decode cX3_ready 21 = .ok (.iconst 1, 1) := by decide +kernel
theorem dX3_ready_22 : decode cX3_ready 22 = .ok (.iload_n 2, 1) := by decide +kernel
theorem dX3_ready_23 : decode cX3_ready 23 = .ok (.ishl, 1) := by decide +kernel
theorem dX3_ready_24 : decode cX3_ready 24 = .ok (.ior, 1) := by decide +kernel
theorem dX3_ready_25 : decode cX3_ready 25 = .ok (.istore_n 1, 1) := by decide +kernel
theorem dX3_ready_26 : decode cX3_ready 26 = .ok (.iinc 2 1, 3) := by decide +kernel
theorem dX3_ready_29 : decode cX3_ready 29 = .ok (.goto (-25), 3) := by decide +kernel
theorem dX3_ready_32 : decode cX3_ready 32 = .ok (.iload_n 1, 1) := by decide +kernel
theorem dX3_ready_33 : decode cX3_ready 33 = .ok (.ireturn, 1) := by decide +kernel
theorem dX3_onLoops_0 : decode cX3_onLoops 0 = .ok (.iconst 0, 1) := by decide +kernel
theorem dX3_onLoops_1 : decode cX3_onLoops 1 = .ok (.istore_n 1, 1) := by decide +kernel
theorem dX3_onLoops_2 : decode cX3_onLoops 2 = .ok (.iconst 0, 1) := by decide +kernel
theorem dX3_onLoops_3 : decode cX3_onLoops 3 = .ok (.istore_n 2, 1) := by decide +kernel
theorem dX3_onLoops_4 : decode cX3_onLoops 4 = .ok (.iload_n 2, 1) := by decide +kernel
theorem dX3_onLoops_5 : decode cX3_onLoops 5 = .ok (.aload_n 0, 1) := by decide +kernel
theorem dX3_onLoops_6 : decode cX3_onLoops 6 = .ok (.getfield 36, 3) := by decide +kernel
theorem dX3_onLoops_9 : decode cX3_onLoops 9 = .ok (.if_icmp .ge 71, 3) := by decide +kernel
theorem dX3_onLoops_12 : decode cX3_onLoops 12 = .ok (.iconst 0, 1) := by decide +kernel
theorem dX3_onLoops_13 : decode cX3_onLoops 13 = .ok (.istore_n 3, 1) := by decide +kernel
theorem dX3_onLoops_14 : decode cX3_onLoops 14 = .ok (.iconst 0, 1) := by decide +kernel
theorem dX3_onLoops_15 : decode cX3_onLoops 15 = .ok (.istore 4, 2) := by decide +kernel
theorem dX3_onLoops_17 : decode cX3_onLoops 17 = .ok (.iload 4, 2) := by decide +kernel
theorem dX3_onLoops_19 : decode cX3_onLoops 19 = .ok (.aload_n 0, 1) := by decide +kernel
theorem dX3_onLoops_20 : decode cX3_onLoops 20 = .ok (.getfield 40, 3) := by decide +kernel
theorem dX3_onLoops_23 : decode cX3_onLoops 23 = .ok (.if_icmp .ge 36, 3) := by decide +kernel
theorem dX3_onLoops_26 : decode cX3_onLoops 26 = .ok (.iload_n 3, 1) := by decide +kernel
theorem dX3_onLoops_27 : decode cX3_onLoops 27 = .ok (.aload_n 0, 1) := by decide +kernel
theorem dX3_onLoops_28 : decode cX3_onLoops 28 = .ok (.getfield 21, 3) := by decide +kernel
theorem dX3_onLoops_31 : decode cX3_onLoops 31 = .ok (.iload 4, 2) := by decide +kernel
theorem dX3_onLoops_33 : decode cX3_onLoops 33 = .ok (.iaload, 1) := by decide +kernel
theorem dX3_onLoops_34 : decode cX3_onLoops 34 = .ok (.iload_n 2, 1) := by decide +kernel
theorem dX3_onLoops_35 : decode cX3_onLoops 35 = .ok (.if_icmp .ne 15, 3) := by decide +kernel
theorem dX3_onLoops_38 : decode cX3_onLoops 38 = .ok (.iconst 1, 1) := by decide +kernel
theorem dX3_onLoops_39 : decode cX3_onLoops 39 = .ok (.aload_n 0, 1) := by decide +kernel
theorem dX3_onLoops_40 : decode cX3_onLoops 40 = .ok (.getfield 24, 3) := by decide +kernel
theorem dX3_onLoops_43 : decode cX3_onLoops 43 = .ok (.iload 4, 2) := by decide +kernel
theorem dX3_onLoops_45 : decode cX3_onLoops 45 = .ok (.iaload, 1) := by decide +kernel
theorem dX3_onLoops_46 : decode cX3_onLoops 46 = .ok (.ishl, 1) := by decide +kernel
theorem dX3_onLoops_47 : decode cX3_onLoops 47 = .ok (.goto 4, 3) := by decide +kernel
theorem dX3_onLoops_50 : decode cX3_onLoops 50 = .ok (.iconst 0, 1) := by decide +kernel
theorem dX3_onLoops_51 : decode cX3_onLoops 51 = .ok (.ior, 1) := by decide +kernel
theorem dX3_onLoops_52 : decode cX3_onLoops 52 = .ok (.istore_n 3, 1) := by decide +kernel
theorem dX3_onLoops_53 : decode cX3_onLoops 53 = .ok (.iinc 4 1, 3) := by decide +kernel
theorem dX3_onLoops_56 : decode cX3_onLoops 56 = .ok (.goto (-39), 3) := by decide +kernel
theorem dX3_onLoops_59 : decode cX3_onLoops 59 = .ok (.iload_n 1, 1) := by decide +kernel
theorem dX3_onLoops_60 : decode cX3_onLoops 60 = .ok (.aload_n 0, 1) := by decide +kernel
theorem dX3_onLoops_61 : decode cX3_onLoops 61 = .ok (.iload_n 3, 1) := by decide +kernel
theorem dX3_onLoops_62 : decode cX3_onLoops 62 = .ok (.sipush 999, 3) := by decide +kernel
theorem dX3_onLoops_65 : decode cX3_onLoops 65 = .ok (.invokevirtual 115, 3) := by decide +kernel
theorem dX3_onLoops_68 : decode cX3_onLoops 68 = .ok (.iconst 1, 1) := by decide +kernel
theorem dX3_onLoops_69 : decode cX3_onLoops 69 = .ok (.iload_n 2, 1) := by decide +kernel
theorem dX3_onLoops_70 : decode cX3_onLoops 70 = .ok (.ishl, 1) := by decide +kernel
theorem dX3_onLoops_71 : decode cX3_onLoops 71 = .ok (.iand, 1) := by decide +kernel
theorem dX3_onLoops_72 : decode cX3_onLoops 72 = .ok (.ior, 1) := by decide +kernel
theorem dX3_onLoops_73 : decode cX3_onLoops 73 = .ok (.istore_n 1, 1) := by decide +kernel
theorem dX3_onLoops_74 : decode cX3_onLoops 74 = .ok (.iinc 2 1, 3) := by decide +kernel
theorem dX3_onLoops_77 : decode cX3_onLoops 77 = .ok (.goto (-73), 3) := by decide +kernel
theorem dX3_onLoops_80 : decode cX3_onLoops 80 = .ok (.iload_n 1, 1) := by decide +kernel
theorem dX3_onLoops_81 : decode cX3_onLoops 81 = .ok (.ireturn, 1) := by decide +kernel
theorem dX3_parts_0 : decode cX3_parts 0 = .ok (.iconst 0, 1) := by decide +kernel
theorem dX3_parts_1 : decode cX3_parts 1 = .ok (.istore_n 1, 1) := by decide +kernel
theorem dX3_parts_2 : decode cX3_parts 2 = .ok (.iconst 0, 1) := by decide +kernel
theorem dX3_parts_3 : decode cX3_parts 3 = .ok (.istore_n 2, 1) := by decide +kernel
theorem dX3_parts_4 : decode cX3_parts 4 = .ok (.iconst 0, 1) := by decide +kernel
theorem dX3_parts_5 : decode cX3_parts 5 = .ok (.istore_n 3, 1) := by decide +kernel
theorem dX3_parts_6 : decode cX3_parts 6 = .ok (.iload_n 3, 1) := by decide +kernel
theorem dX3_parts_7 : decode cX3_parts 7 = .ok (.aload_n 0, 1) := by decide +kernel
theorem dX3_parts_8 : decode cX3_parts 8 = .ok (.getfield 36, 3) := by decide +kernel
theorem dX3_parts_11 : decode cX3_parts 11 = .ok (.if_icmp .ge 28, 3) := by decide +kernel
theorem dX3_parts_14 : decode cX3_parts 14 = .ok (.iload_n 1, 1) := by decide +kernel
theorem dX3_parts_15 : decode cX3_parts 15 = .ok (.iload_n 3, 1) := by decide +kernel
theorem dX3_parts_16 : decode cX3_parts 16 = .ok (.ishr, 1) := by decide +kernel
theorem dX3_parts_17 : decode cX3_parts 17 = .ok (.iconst 1, 1) := by decide +kernel
theorem dX3_parts_18 : decode cX3_parts 18 = .ok (.iand, 1) := by decide +kernel
theorem dX3_parts_19 : decode cX3_parts 19 = .ok (.ifCond .ne 14, 3) := by decide +kernel
theorem dX3_parts_22 : decode cX3_parts 22 = .ok (.iinc 2 1, 3) := by decide +kernel
theorem dX3_parts_25 : decode cX3_parts 25 = .ok (.iload_n 1, 1) := by decide +kernel
theorem dX3_parts_26 : decode cX3_parts 26 = .ok (.aload_n 0, 1) := by decide +kernel
theorem dX3_parts_27 : decode cX3_parts 27 = .ok (.iload_n 3, 1) := by decide +kernel
theorem dX3_parts_28 : decode cX3_parts 28 = .ok (.invokevirtual 118, 3) := by decide +kernel
theorem dX3_parts_31 : decode cX3_parts 31 = .ok (.ior, 1) := by decide +kernel
theorem dX3_parts_32 : decode cX3_parts 32 = .ok (.istore_n 1, 1) := by decide +kernel
theorem dX3_parts_33 : decode cX3_parts 33 = .ok (.iinc 3 1, 3) := by decide +kernel
theorem dX3_parts_36 : decode cX3_parts 36 = .ok (.goto (-30), 3) := by decide +kernel
theorem dX3_parts_39 : decode cX3_parts 39 = .ok (.iload_n 2, 1) := by decide +kernel
theorem dX3_parts_40 : decode cX3_parts 40 = .ok (.ireturn, 1) := by decide +kernel
theorem dX3_partOf_0 : decode cX3_partOf 0 = .ok (.iconst 1, 1) := by decide +kernel
theorem dX3_partOf_1 : decode cX3_partOf 1 = .ok (.iload_n 1, 1) := by decide +kernel
theorem dX3_partOf_2 : decode cX3_partOf 2 = .ok (.ishl, 1) := by decide +kernel
theorem dX3_partOf_3 : decode cX3_partOf 3 = .ok (.istore_n 2, 1) := by decide +kernel
theorem dX3_partOf_4 : decode cX3_partOf 4 = .ok (.iconst 1, 1) := by decide +kernel
theorem dX3_partOf_5 : decode cX3_partOf 5 = .ok (.istore_n 3, 1) := by decide +kernel
theorem dX3_partOf_6 : decode cX3_partOf 6 = .ok (.iload_n 3, 1) := by decide +kernel
theorem dX3_partOf_7 : decode cX3_partOf 7 = .ok (.aload_n 0, 1) := by decide +kernel
theorem dX3_partOf_8 : decode cX3_partOf 8 = .ok (.getfield 36, 3) := by decide +kernel
theorem dX3_partOf_11 : decode cX3_partOf 11 = .ok (.if_icmp .ge 64, 3) := by decide +kernel
theorem dX3_partOf_14 : decode cX3_partOf 14 = .ok (.iconst 0, 1) := by decide +kernel
theorem dX3_partOf_15 : decode cX3_partOf 15 = .ok (.istore 4, 2) := by decide +kernel
theorem dX3_partOf_17 : decode cX3_partOf 17 = .ok (.iload 4, 2) := by decide +kernel
theorem dX3_partOf_19 : decode cX3_partOf 19 = .ok (.aload_n 0, 1) := by decide +kernel
theorem dX3_partOf_20 : decode cX3_partOf 20 = .ok (.getfield 40, 3) := by decide +kernel
theorem dX3_partOf_23 : decode cX3_partOf 23 = .ok (.if_icmp .ge 46, 3) := by decide +kernel
theorem dX3_partOf_26 : decode cX3_partOf 26 = .ok (.iconst 1, 1) := by decide +kernel
theorem dX3_partOf_27 : decode cX3_partOf 27 = .ok (.aload_n 0, 1) := by decide +kernel
theorem dX3_partOf_28 : decode cX3_partOf 28 = .ok (.getfield 21, 3) := by decide +kernel
theorem dX3_partOf_31 : decode cX3_partOf 31 = .ok (.iload 4, 2) := by decide +kernel
theorem dX3_partOf_33 : decode cX3_partOf 33 = .ok (.iaload, 1) := by decide +kernel
theorem dX3_partOf_34 : decode cX3_partOf 34 = .ok (.ishl, 1) := by decide +kernel
theorem dX3_partOf_35 : decode cX3_partOf 35 = .ok (.iconst 1, 1) := by decide +kernel
theorem dX3_partOf_36 : decode cX3_partOf 36 = .ok (.aload_n 0, 1) := by decide +kernel
theorem dX3_partOf_37 : decode cX3_partOf 37 = .ok (.getfield 24, 3) := by decide +kernel
theorem dX3_partOf_40 : decode cX3_partOf 40 = .ok (.iload 4, 2) := by decide +kernel
theorem dX3_partOf_42 : decode cX3_partOf 42 = .ok (.iaload, 1) := by decide +kernel
theorem dX3_partOf_43 : decode cX3_partOf 43 = .ok (.ishl, 1) := by decide +kernel
theorem dX3_partOf_44 : decode cX3_partOf 44 = .ok (.ior, 1) := by decide +kernel
theorem dX3_partOf_45 : decode cX3_partOf 45 = .ok (.istore 5, 2) := by decide +kernel
theorem dX3_partOf_47 : decode cX3_partOf 47 = .ok (.iload_n 2, 1) := by decide +kernel
theorem dX3_partOf_48 : decode cX3_partOf 48 = .ok (.iload_n 2, 1) := by decide +kernel
theorem dX3_partOf_49 : decode cX3_partOf 49 = .ok (.iload 5, 2) := by decide +kernel
theorem dX3_partOf_51 : decode cX3_partOf 51 = .ok (.iand, 1) := by decide +kernel
theorem dX3_partOf_52 : decode cX3_partOf 52 = .ok (.ifCond .eq 8, 3) := by decide +kernel
theorem dX3_partOf_55 : decode cX3_partOf 55 = .ok (.iload 5, 2) := by decide +kernel
theorem dX3_partOf_57 : decode cX3_partOf 57 = .ok (.goto 4, 3) := by decide +kernel
theorem dX3_partOf_60 : decode cX3_partOf 60 = .ok (.iconst 0, 1) := by decide +kernel
theorem dX3_partOf_61 : decode cX3_partOf 61 = .ok (.ior, 1) := by decide +kernel
theorem dX3_partOf_62 : decode cX3_partOf 62 = .ok (.istore_n 2, 1) := by decide +kernel
theorem dX3_partOf_63 : decode cX3_partOf 63 = .ok (.iinc 4 1, 3) := by decide +kernel
theorem dX3_partOf_66 : decode cX3_partOf 66 = .ok (.goto (-49), 3) := by decide +kernel
theorem dX3_partOf_69 : decode cX3_partOf 69 = .ok (.iinc 3 1, 3) := by decide +kernel
theorem dX3_partOf_72 : decode cX3_partOf 72 = .ok (.goto (-66), 3) := by decide +kernel
theorem dX3_partOf_75 : decode cX3_partOf 75 = .ok (.iload_n 2, 1) := by decide +kernel
theorem dX3_partOf_76 : decode cX3_partOf 76 = .ok (.ireturn, 1) := by decide +kernel
theorem dX3_closesDeadLoop_0 : decode cX3_closesDeadLoop 0 = .ok (.aload_n 0, 1) := by decide +kernel
theorem dX3_closesDeadLoop_1 : decode cX3_closesDeadLoop 1 = .ok (.iconst 1, 1) := by decide +kernel
theorem dX3_closesDeadLoop_2 : decode cX3_closesDeadLoop 2 = .ok (.iload_n 2, 1) := by decide +kernel
theorem dX3_closesDeadLoop_3 : decode cX3_closesDeadLoop 3 = .ok (.ishl, 1) := by decide +kernel
theorem dX3_closesDeadLoop_4 : decode cX3_closesDeadLoop 4 = .ok (.iconst 0, 1) := by decide +kernel
theorem dX3_closesDeadLoop_5 : decode cX3_closesDeadLoop 5 = .ok (.invokevirtual 115, 3) := by decide +kernel
theorem dX3_closesDeadLoop_8 : decode cX3_closesDeadLoop 8 = .ok (.iload_n 1, 1) := by decide +kernel
theorem dX3_closesDeadLoop_9 : decode cX3_closesDeadLoop 9 = .ok (.ishr, 1) := by decide +kernel
theorem dX3_closesDeadLoop_10 : decode cX3_closesDeadLoop 10 = .ok (.iconst 1, 1) := by decide +kernel
theorem dX3_closesDeadLoop_11 : decode cX3_closesDeadLoop 11 = .ok (.iand, 1) := by decide +kernel
theorem dX3_closesDeadLoop_12 : decode cX3_closesDeadLoop 12 = .ok (.ifCond .eq 7, 3) := by decide +kernel
theorem dX3_closesDeadLoop_15 : decode cX3_closesDeadLoop 15 = .ok (.iconst 1, 1) := by decide +kernel
theorem dX3_closesDeadLoop_16 : decode cX3_closesDeadLoop 16 = .ok (.goto 4, 3) := by decide +kernel
theorem dX3_closesDeadLoop_19 : decode cX3_closesDeadLoop 19 = .ok (.iconst 0, 1) := by decide +kernel
theorem dX3_closesDeadLoop_20 : decode cX3_closesDeadLoop 20 = .ok (.ireturn, 1) := by decide +kernel
theorem dX3_reached_0 : decode cX3_reached 0 = .ok (.iload_n 1, 1) := by decide +kernel
theorem dX3_reached_1 : decode cX3_reached 1 = .ok (.istore_n 3, 1) := by decide +kernel
theorem dX3_reached_2 : decode cX3_reached 2 = .ok (.iconst 1, 1) := by decide +kernel
theorem dX3_reached_3 : decode cX3_reached 3 = .ok (.istore 4, 2) := by decide +kernel
theorem dX3_reached_5 : decode cX3_reached 5 = .ok (.iload 4, 2) := by decide +kernel
theorem dX3_reached_7 : decode cX3_reached 7 = .ok (.aload_n 0, 1) := by decide +kernel
theorem dX3_reached_8 : decode cX3_reached 8 = .ok (.getfield 36, 3) := by decide +kernel
theorem dX3_reached_11 : decode cX3_reached 11 = .ok (.if_icmp .ge 64, 3) := by decide +kernel
theorem dX3_reached_14 : decode cX3_reached 14 = .ok (.iconst 0, 1) := by decide +kernel
theorem dX3_reached_15 : decode cX3_reached 15 = .ok (.istore 5, 2) := by decide +kernel
theorem dX3_reached_17 : decode cX3_reached 17 = .ok (.iload 5, 2) := by decide +kernel
theorem dX3_reached_19 : decode cX3_reached 19 = .ok (.aload_n 0, 1) := by decide +kernel
theorem dX3_reached_20 : decode cX3_reached 20 = .ok (.getfield 40, 3) := by decide +kernel
theorem dX3_reached_23 : decode cX3_reached 23 = .ok (.if_icmp .ge 46, 3) := by decide +kernel
theorem dX3_reached_26 : decode cX3_reached 26 = .ok (.aload_n 0, 1) := by decide +kernel
theorem dX3_reached_27 : decode cX3_reached 27 = .ok (.getfield 33, 3) := by decide +kernel
theorem dX3_reached_30 : decode cX3_reached 30 = .ok (.iload 5, 2) := by decide +kernel
theorem dX3_reached_32 : decode cX3_reached 32 = .ok (.iaload, 1) := by decide +kernel
theorem dX3_reached_33 : decode cX3_reached 33 = .ok (.iload_n 2, 1) := by decide +kernel
theorem dX3_reached_34 : decode cX3_reached 34 = .ok (.if_icmp .gt 29, 3) := by decide +kernel
theorem dX3_reached_37 : decode cX3_reached 37 = .ok (.iload_n 3, 1) := by decide +kernel
theorem dX3_reached_38 : decode cX3_reached 38 = .ok (.aload_n 0, 1) := by decide +kernel
theorem dX3_reached_39 : decode cX3_reached 39 = .ok (.getfield 21, 3) := by decide +kernel
theorem dX3_reached_42 : decode cX3_reached 42 = .ok (.iload 5, 2) := by decide +kernel
theorem dX3_reached_44 : decode cX3_reached 44 = .ok (.iaload, 1) := by decide +kernel
theorem dX3_reached_45 : decode cX3_reached 45 = .ok (.ishr, 1) := by decide +kernel
theorem dX3_reached_46 : decode cX3_reached 46 = .ok (.iconst 1, 1) := by decide +kernel
theorem dX3_reached_47 : decode cX3_reached 47 = .ok (.iand, 1) := by decide +kernel
theorem dX3_reached_48 : decode cX3_reached 48 = .ok (.ifCond .eq 15, 3) := by decide +kernel
theorem dX3_reached_51 : decode cX3_reached 51 = .ok (.iload_n 3, 1) := by decide +kernel
theorem dX3_reached_52 : decode cX3_reached 52 = .ok (.iconst 1, 1) := by decide +kernel
theorem dX3_reached_53 : decode cX3_reached 53 = .ok (.aload_n 0, 1) := by decide +kernel
theorem dX3_reached_54 : decode cX3_reached 54 = .ok (.getfield 24, 3) := by decide +kernel
theorem dX3_reached_57 : decode cX3_reached 57 = .ok (.iload 5, 2) := by decide +kernel
theorem dX3_reached_59 : decode cX3_reached 59 = .ok (.iaload, 1) := by decide +kernel
theorem dX3_reached_60 : decode cX3_reached 60 = .ok (.ishl, 1) := by decide +kernel
theorem dX3_reached_61 : decode cX3_reached 61 = .ok (.ior, 1) := by decide +kernel
theorem dX3_reached_62 : decode cX3_reached 62 = .ok (.istore_n 3, 1) := by decide +kernel
theorem dX3_reached_63 : decode cX3_reached 63 = .ok (.iinc 5 1, 3) := by decide +kernel
theorem dX3_reached_66 : decode cX3_reached 66 = .ok (.goto (-49), 3) := by decide +kernel
theorem dX3_reached_69 : decode cX3_reached 69 = .ok (.iinc 4 1, 3) := by decide +kernel
theorem dX3_reached_72 : decode cX3_reached 72 = .ok (.goto (-67), 3) := by decide +kernel
theorem dX3_reached_75 : decode cX3_reached 75 = .ok (.iload_n 3, 1) := by decide +kernel
theorem dX3_reached_76 : decode cX3_reached 76 = .ok (.ireturn, 1) := by decide +kernel
theorem dX4_init_0 : decode cX4_init 0 = .ok (.aload_n 0, 1) := by decide +kernel
theorem dX4_init_1 : decode cX4_init 1 = .ok (.invokespecial 3, 3) := by decide +kernel
theorem dX4_init_4 : decode cX4_init 4 = .ok (.aload_n 0, 1) := by decide +kernel
theorem dX4_init_5 : decode cX4_init 5 = .ok (.bipush 8, 2) := by decide +kernel
theorem dX4_init_7 : decode cX4_init 7 = .ok (.newarray .int, 2) := by decide +kernel
theorem dX4_init_9 : decode cX4_init 9 = .ok (.putfield 9, 3) := by decide +kernel
theorem dX4_init_12 : decode cX4_init 12 = .ok (.return_, 1) := by decide +kernel
theorem dX4_agreeIn_0 : decode cX4_agreeIn 0 = .ok (.aload_n 0, 1) := by decide +kernel
theorem dX4_agreeIn_1 : decode cX4_agreeIn 1 = .ok (.aload_n 1, 1) := by decide +kernel
theorem dX4_agreeIn_2 : decode cX4_agreeIn 2 = .ok (.getfield 15, 3) := by decide +kernel
theorem dX4_agreeIn_5 : decode cX4_agreeIn 5 = .ok (.putfield 21, 3) := by decide +kernel
theorem dX4_agreeIn_8 : decode cX4_agreeIn 8 = .ok (.iconst 0, 1) := by decide +kernel
theorem dX4_agreeIn_9 : decode cX4_agreeIn 9 = .ok (.istore_n 2, 1) := by decide +kernel
theorem dX4_agreeIn_10 : decode cX4_agreeIn 10 = .ok (.iload_n 2, 1) := by decide +kernel
theorem dX4_agreeIn_11 : decode cX4_agreeIn 11 = .ok (.aload_n 0, 1) := by decide +kernel
theorem dX4_agreeIn_12 : decode cX4_agreeIn 12 = .ok (.getfield 21, 3) := by decide +kernel
theorem dX4_agreeIn_15 : decode cX4_agreeIn 15 = .ok (.if_icmp .ge 16, 3) := by decide +kernel
theorem dX4_agreeIn_18 : decode cX4_agreeIn 18 = .ok (.aload_n 0, 1) := by decide +kernel
theorem dX4_agreeIn_19 : decode cX4_agreeIn 19 = .ok (.getfield 9, 3) := by decide +kernel
theorem dX4_agreeIn_22 : decode cX4_agreeIn 22 = .ok (.iload_n 2, 1) := by decide +kernel
theorem dX4_agreeIn_23 : decode cX4_agreeIn 23 = .ok (.iconst 0, 1) := by decide +kernel
theorem dX4_agreeIn_24 : decode cX4_agreeIn 24 = .ok (.iastore, 1) := by decide +kernel
theorem dX4_agreeIn_25 : decode cX4_agreeIn 25 = .ok (.iinc 2 1, 3) := by decide +kernel
theorem dX4_agreeIn_28 : decode cX4_agreeIn 28 = .ok (.goto (-18), 3) := by decide +kernel
theorem dX4_agreeIn_31 : decode cX4_agreeIn 31 = .ok (.iconst 0, 1) := by decide +kernel
theorem dX4_agreeIn_32 : decode cX4_agreeIn 32 = .ok (.istore_n 2, 1) := by decide +kernel
theorem dX4_agreeIn_33 : decode cX4_agreeIn 33 = .ok (.iload_n 2, 1) := by decide +kernel
theorem dX4_agreeIn_34 : decode cX4_agreeIn 34 = .ok (.aload_n 0, 1) := by decide +kernel
theorem dX4_agreeIn_35 : decode cX4_agreeIn 35 = .ok (.getfield 21, 3) := by decide +kernel
theorem dX4_agreeIn_38 : decode cX4_agreeIn 38 = .ok (.if_icmp .ge 29, 3) := by decide +kernel
theorem dX4_agreeIn_41 : decode cX4_agreeIn 41 = .ok (.aload_n 0, 1) := by decide +kernel
theorem dX4_agreeIn_42 : decode cX4_agreeIn 42 = .ok (.getfield 9, 3) := by decide +kernel
theorem dX4_agreeIn_45 : decode cX4_agreeIn 45 = .ok (.iload_n 2, 1) := by decide +kernel
theorem dX4_agreeIn_46 : decode cX4_agreeIn 46 = .ok (.iaload, 1) := by decide +kernel
theorem dX4_agreeIn_47 : decode cX4_agreeIn 47 = .ok (.ifCond .ne 14, 3) := by decide +kernel
theorem dX4_agreeIn_50 : decode cX4_agreeIn 50 = .ok (.aload_n 0, 1) := by decide +kernel
theorem dX4_agreeIn_51 : decode cX4_agreeIn 51 = .ok (.aload_n 1, 1) := by decide +kernel
theorem dX4_agreeIn_52 : decode cX4_agreeIn 52 = .ok (.iload_n 2, 1) := by decide +kernel
theorem dX4_agreeIn_53 : decode cX4_agreeIn 53 = .ok (.invokevirtual 22, 3) := by decide +kernel
theorem dX4_agreeIn_56 : decode cX4_agreeIn 56 = .ok (.ifCond .ne 5, 3) := by decide +kernel
theorem dX4_agreeIn_59 : decode cX4_agreeIn 59 = .ok (.iconst 0, 1) := by decide +kernel
theorem dX4_agreeIn_60 : decode cX4_agreeIn 60 = .ok (.ireturn, 1) := by decide +kernel
theorem dX4_agreeIn_61 : decode cX4_agreeIn 61 = .ok (.iinc 2 1, 3) := by decide +kernel
theorem dX4_agreeIn_64 : decode cX4_agreeIn 64 = .ok (.goto (-31), 3) := by decide +kernel
theorem dX4_agreeIn_67 : decode cX4_agreeIn 67 = .ok (.iconst 0, 1) := by decide +kernel
theorem dX4_agreeIn_68 : decode cX4_agreeIn 68 = .ok (.istore_n 2, 1) := by decide +kernel
theorem dX4_agreeIn_69 : decode cX4_agreeIn 69 = .ok (.iload_n 2, 1) := by decide +kernel
theorem dX4_agreeIn_70 : decode cX4_agreeIn 70 = .ok (.aload_n 1, 1) := by decide +kernel
theorem dX4_agreeIn_71 : decode cX4_agreeIn 71 = .ok (.getfield 26, 3) := by decide +kernel
theorem dX4_agreeIn_74 : decode cX4_agreeIn 74 = .ok (.if_icmp .ge 50, 3) := by decide +kernel
theorem dX4_agreeIn_77 : decode cX4_agreeIn 77 = .ok (.aload_n 0, 1) := by decide +kernel
theorem dX4_agreeIn_78 : decode cX4_agreeIn 78 = .ok (.getfield 9, 3) := by decide +kernel
theorem dX4_agreeIn_81 : decode cX4_agreeIn 81 = .ok (.aload_n 1, 1) := by decide +kernel
theorem dX4_agreeIn_82 : decode cX4_agreeIn 82 = .ok (.getfield 29, 3) := by decide +kernel
theorem dX4_agreeIn_85 : decode cX4_agreeIn 85 = .ok (.iload_n 2, 1) := by decide +kernel
theorem dX4_agreeIn_86 : decode cX4_agreeIn 86 = .ok (.iaload, 1) := by decide +kernel
theorem dX4_agreeIn_87 : decode cX4_agreeIn 87 = .ok (.iaload, 1) := by decide +kernel
theorem dX4_agreeIn_88 : decode cX4_agreeIn 88 = .ok (.aload_n 1, 1) := by decide +kernel
theorem dX4_agreeIn_89 : decode cX4_agreeIn 89 = .ok (.getfield 32, 3) := by decide +kernel
theorem dX4_agreeIn_92 : decode cX4_agreeIn 92 = .ok (.iload_n 2, 1) := by decide +kernel
theorem dX4_agreeIn_93 : decode cX4_agreeIn 93 = .ok (.iaload, 1) := by decide +kernel
theorem dX4_agreeIn_94 : decode cX4_agreeIn 94 = .ok (.imul, 1) := by decide +kernel
theorem dX4_agreeIn_95 : decode cX4_agreeIn 95 = .ok (.aload_n 0, 1) := by decide +kernel
theorem dX4_agreeIn_96 : decode cX4_agreeIn 96 = .ok (.getfield 9, 3) := by decide +kernel
theorem dX4_agreeIn_99 : decode cX4_agreeIn 99 = .ok (.aload_n 1, 1) := by decide +kernel
theorem dX4_agreeIn_100 : decode cX4_agreeIn 100 = .ok (.getfield 35, 3) := by decide +kernel
theorem dX4_agreeIn_103 : decode cX4_agreeIn 103 = .ok (.iload_n 2, 1) := by decide +kernel
theorem dX4_agreeIn_104 : decode cX4_agreeIn 104 = .ok (.iaload, 1) := by decide +kernel
theorem dX4_agreeIn_105 : decode cX4_agreeIn 105 = .ok (.iaload, 1) := by decide +kernel
theorem dX4_agreeIn_106 : decode cX4_agreeIn 106 = .ok (.aload_n 1, 1) := by decide +kernel
theorem dX4_agreeIn_107 : decode cX4_agreeIn 107 = .ok (.getfield 38, 3) := by decide +kernel
theorem dX4_agreeIn_110 : decode cX4_agreeIn 110 = .ok (.iload_n 2, 1) := by decide +kernel
theorem dX4_agreeIn_111 : decode cX4_agreeIn 111 = .ok (.iaload, 1) := by decide +kernel
theorem dX4_agreeIn_112 : decode cX4_agreeIn 112 = .ok (.imul, 1) := by decide +kernel
theorem dX4_agreeIn_113 : decode cX4_agreeIn 113 = .ok (.if_icmp .eq 5, 3) := by decide +kernel
theorem dX4_agreeIn_116 : decode cX4_agreeIn 116 = .ok (.iconst 0, 1) := by decide +kernel
theorem dX4_agreeIn_117 : decode cX4_agreeIn 117 = .ok (.ireturn, 1) := by decide +kernel
theorem dX4_agreeIn_118 : decode cX4_agreeIn 118 = .ok (.iinc 2 1, 3) := by decide +kernel
theorem dX4_agreeIn_121 : decode cX4_agreeIn 121 = .ok (.goto (-52), 3) := by decide +kernel
theorem dX4_agreeIn_124 : decode cX4_agreeIn 124 = .ok (.iconst 1, 1) := by decide +kernel
theorem dX4_agreeIn_125 : decode cX4_agreeIn 125 = .ok (.ireturn, 1) := by decide +kernel
theorem dX4_total_0 : decode cX4_total 0 = .ok (.iconst 0, 1) := by decide +kernel
theorem dX4_total_1 : decode cX4_total 1 = .ok (.istore_n 1, 1) := by decide +kernel
theorem dX4_total_2 : decode cX4_total 2 = .ok (.iconst 0, 1) := by decide +kernel
theorem dX4_total_3 : decode cX4_total 3 = .ok (.istore_n 2, 1) := by decide +kernel
theorem dX4_total_4 : decode cX4_total 4 = .ok (.iload_n 2, 1) := by decide +kernel
theorem dX4_total_5 : decode cX4_total 5 = .ok (.aload_n 0, 1) := by decide +kernel
theorem dX4_total_6 : decode cX4_total 6 = .ok (.getfield 21, 3) := by decide +kernel
theorem dX4_total_9 : decode cX4_total 9 = .ok (.if_icmp .ge 18, 3) := by decide +kernel
theorem dX4_total_12 : decode cX4_total 12 = .ok (.iload_n 1, 1) := by decide +kernel
theorem dX4_total_13 : decode cX4_total 13 = .ok (.aload_n 0, 1) := by decide +kernel
theorem dX4_total_14 : decode cX4_total 14 = .ok (.getfield 9, 3) := by decide +kernel
theorem dX4_total_17 : decode cX4_total 17 = .ok (.iload_n 2, 1) := by decide +kernel
theorem dX4_total_18 : decode cX4_total 18 = .ok (.iaload, 1) := by decide +kernel
theorem dX4_total_19 : decode cX4_total 19 = .ok (.iadd, 1) := by decide +kernel
theorem dX4_total_20 : decode cX4_total 20 = .ok (.istore_n 1, 1) := by decide +kernel
theorem dX4_total_21 : decode cX4_total 21 = .ok (.iinc 2 1, 3) := by decide +kernel
theorem dX4_total_24 : decode cX4_total 24 = .ok (.goto (-20), 3) := by decide +kernel
theorem dX4_total_27 : decode cX4_total 27 = .ok (.iload_n 1, 1) := by decide +kernel
theorem dX4_total_28 : decode cX4_total 28 = .ok (.ireturn, 1) := by decide +kernel
theorem dX4_findsPart_0 : decode cX4_findsPart 0 = .ok (.aload_n 0, 1) := by decide +kernel
theorem dX4_findsPart_1 : decode cX4_findsPart 1 = .ok (.getfield 9, 3) := by decide +kernel
theorem dX4_findsPart_4 : decode cX4_findsPart 4 = .ok (.iload_n 2, 1) := by decide +kernel
theorem dX4_findsPart_5 : decode cX4_findsPart 5 = .ok (.iconst 1, 1) := by decide +kernel
theorem dX4_findsPart_6 : decode cX4_findsPart 6 = .ok (.iastore, 1) := by decide +kernel
theorem dX4_findsPart_7 : decode cX4_findsPart 7 = .ok (.iconst 1, 1) := by decide +kernel
theorem dX4_findsPart_8 : decode cX4_findsPart 8 = .ok (.iload_n 2, 1) := by decide +kernel
theorem dX4_findsPart_9 : decode cX4_findsPart 9 = .ok (.ishl, 1) := by decide +kernel
theorem dX4_findsPart_10 : decode cX4_findsPart 10 = .ok (.istore_n 3, 1) := by decide +kernel
theorem dX4_findsPart_11 : decode cX4_findsPart 11 = .ok (.iconst 1, 1) := by decide +kernel
theorem dX4_findsPart_12 : decode cX4_findsPart 12 = .ok (.istore 4, 2) := by decide +kernel
theorem dX4_findsPart_14 : decode cX4_findsPart 14 = .ok (.iload 4, 2) := by decide +kernel
theorem dX4_findsPart_16 : decode cX4_findsPart 16 = .ok (.aload_n 0, 1) := by decide +kernel
theorem dX4_findsPart_17 : decode cX4_findsPart 17 = .ok (.getfield 21, 3) := by decide +kernel
theorem dX4_findsPart_20 : decode cX4_findsPart 20 = .ok (.if_icmp .ge 191, 3) := by decide +kernel
theorem dX4_findsPart_23 : decode cX4_findsPart 23 = .ok (.iconst 0, 1) := by decide +kernel
theorem dX4_findsPart_24 : decode cX4_findsPart 24 = .ok (.istore 5, 2) := by decide +kernel
theorem dX4_findsPart_26 : decode cX4_findsPart 26 = .ok (.iload 5, 2) := by decide +kernel
theorem dX4_findsPart_28 : decode cX4_findsPart 28 = .ok (.aload_n 1, 1) := by decide +kernel
theorem dX4_findsPart_29 : decode cX4_findsPart 29 = .ok (.getfield 26, 3) := by decide +kernel
theorem dX4_findsPart_32 : decode cX4_findsPart 32 = .ok (.if_icmp .ge 173, 3) := by decide +kernel
theorem dX4_findsPart_35 : decode cX4_findsPart 35 = .ok (.aload_n 1, 1) := by decide +kernel
theorem dX4_findsPart_36 : decode cX4_findsPart 36 = .ok (.getfield 29, 3) := by decide +kernel
theorem dX4_findsPart_39 : decode cX4_findsPart 39 = .ok (.iload 5, 2) := by decide +kernel
theorem dX4_findsPart_41 : decode cX4_findsPart 41 = .ok (.iaload, 1) := by decide +kernel
theorem dX4_findsPart_42 : decode cX4_findsPart 42 = .ok (.istore 6, 2) := by decide +kernel
theorem dX4_findsPart_44 : decode cX4_findsPart 44 = .ok (.aload_n 1, 1) := by decide +kernel
theorem dX4_findsPart_45 : decode cX4_findsPart 45 = .ok (.getfield 35, 3) := by decide +kernel
theorem dX4_findsPart_48 : decode cX4_findsPart 48 = .ok (.iload 5, 2) := by decide +kernel
theorem dX4_findsPart_50 : decode cX4_findsPart 50 = .ok (.iaload, 1) := by decide +kernel
theorem dX4_findsPart_51 : decode cX4_findsPart 51 = .ok (.istore 7, 2) := by decide +kernel
theorem dX4_findsPart_53 : decode cX4_findsPart 53 = .ok (.iload_n 3, 1) := by decide +kernel
theorem dX4_findsPart_54 : decode cX4_findsPart 54 = .ok (.iload 6, 2) := by decide +kernel
theorem dX4_findsPart_56 : decode cX4_findsPart 56 = .ok (.ishr, 1) := by decide +kernel
theorem dX4_findsPart_57 : decode cX4_findsPart 57 = .ok (.iconst 1, 1) := by decide +kernel
theorem dX4_findsPart_58 : decode cX4_findsPart 58 = .ok (.iand, 1) := by decide +kernel
theorem dX4_findsPart_59 : decode cX4_findsPart 59 = .ok (.ifCond .eq 7, 3) := by decide +kernel
theorem dX4_findsPart_62 : decode cX4_findsPart 62 = .ok (.iconst 1, 1) := by decide +kernel
theorem dX4_findsPart_63 : decode cX4_findsPart 63 = .ok (.goto 4, 3) := by decide +kernel
theorem dX4_findsPart_66 : decode cX4_findsPart 66 = .ok (.iconst 0, 1) := by decide +kernel
theorem dX4_findsPart_67 : decode cX4_findsPart 67 = .ok (.istore 8, 2) := by decide +kernel
theorem dX4_findsPart_69 : decode cX4_findsPart 69 = .ok (.iload_n 3, 1) := by decide +kernel
theorem dX4_findsPart_70 : decode cX4_findsPart 70 = .ok (.iload 7, 2) := by decide +kernel
theorem dX4_findsPart_72 : decode cX4_findsPart 72 = .ok (.ishr, 1) := by decide +kernel
theorem dX4_findsPart_73 : decode cX4_findsPart 73 = .ok (.iconst 1, 1) := by decide +kernel
theorem dX4_findsPart_74 : decode cX4_findsPart 74 = .ok (.iand, 1) := by decide +kernel
theorem dX4_findsPart_75 : decode cX4_findsPart 75 = .ok (.ifCond .eq 7, 3) := by decide +kernel
theorem dX4_findsPart_78 : decode cX4_findsPart 78 = .ok (.iconst 1, 1) := by decide +kernel
theorem dX4_findsPart_79 : decode cX4_findsPart 79 = .ok (.goto 4, 3) := by decide +kernel
theorem dX4_findsPart_82 : decode cX4_findsPart 82 = .ok (.iconst 0, 1) := by decide +kernel
theorem dX4_findsPart_83 : decode cX4_findsPart 83 = .ok (.istore 9, 2) := by decide +kernel
theorem dX4_findsPart_85 : decode cX4_findsPart 85 = .ok (.iload 8, 2) := by decide +kernel
theorem dX4_findsPart_87 : decode cX4_findsPart 87 = .ok (.ifCond .eq 42, 3) := by decide +kernel
theorem dX4_findsPart_90 : decode cX4_findsPart 90 = .ok (.iload 9, 2) := by decide +kernel
theorem dX4_findsPart_92 : decode cX4_findsPart 92 = .ok (.ifCond .ne 37, 3) := by decide +kernel
theorem dX4_findsPart_95 : decode cX4_findsPart 95 = .ok (.aload_n 0, 1) := by decide +kernel
theorem dX4_findsPart_96 : decode cX4_findsPart 96 = .ok (.iload_n 3, 1) := by decide +kernel
theorem dX4_findsPart_97 : decode cX4_findsPart 97 = .ok (.iload 7, 2) := by decide +kernel
theorem dX4_findsPart_99 : decode cX4_findsPart 99 = .ok (.aload_n 0, 1) := by decide +kernel
theorem dX4_findsPart_100 : decode cX4_findsPart 100 = .ok (.getfield 9, 3) := by decide +kernel
theorem dX4_findsPart_103 : decode cX4_findsPart 103 = .ok (.iload 6, 2) := by decide +kernel
theorem dX4_findsPart_105 : decode cX4_findsPart 105 = .ok (.iaload, 1) := by decide +kernel
theorem dX4_findsPart_106 : decode cX4_findsPart 106 = .ok (.aload_n 1, 1) := by decide +kernel
theorem dX4_findsPart_107 : decode cX4_findsPart 107 = .ok (.getfield 32, 3) := by decide +kernel
theorem dX4_findsPart_110 : decode cX4_findsPart 110 = .ok (.iload 5, 2) := by decide +kernel
theorem dX4_findsPart_112 : decode cX4_findsPart 112 = .ok (.iaload, 1) := by decide +kernel
theorem dX4_findsPart_113 : decode cX4_findsPart 113 = .ok (.imul, 1) := by decide +kernel
theorem dX4_findsPart_114 : decode cX4_findsPart 114 = .ok (.aload_n 1, 1) := by decide +kernel
theorem dX4_findsPart_115 : decode cX4_findsPart 115 = .ok (.getfield 38, 3) := by decide +kernel
theorem dX4_findsPart_118 : decode cX4_findsPart 118 = .ok (.iload 5, 2) := by decide +kernel
theorem dX4_findsPart_120 : decode cX4_findsPart 120 = .ok (.iaload, 1) := by decide +kernel
theorem dX4_findsPart_121 : decode cX4_findsPart 121 = .ok (.invokevirtual 41, 3) := by decide +kernel
theorem dX4_findsPart_124 : decode cX4_findsPart 124 = .ok (.ifCond .ne 5, 3) := by decide +kernel
theorem dX4_findsPart_127 : decode cX4_findsPart 127 = .ok (.iconst 0, 1) := by decide +kernel
theorem dX4_findsPart_128 : decode cX4_findsPart 128 = .ok (.ireturn, 1) := by decide +kernel
theorem dX4_findsPart_129 : decode cX4_findsPart 129 = .ok (.iload 9, 2) := by decide +kernel
theorem dX4_findsPart_131 : decode cX4_findsPart 131 = .ok (.ifCond .eq 42, 3) := by decide +kernel
theorem dX4_findsPart_134 : decode cX4_findsPart 134 = .ok (.iload 8, 2) := by decide +kernel
theorem dX4_findsPart_136 : decode cX4_findsPart 136 = .ok (.ifCond .ne 37, 3) := by decide +kernel
theorem dX4_findsPart_139 : decode cX4_findsPart 139 = .ok (.aload_n 0, 1) := by decide +kernel
theorem dX4_findsPart_140 : decode cX4_findsPart 140 = .ok (.iload_n 3, 1) := by decide +kernel
theorem dX4_findsPart_141 : decode cX4_findsPart 141 = .ok (.iload 6, 2) := by decide +kernel
theorem dX4_findsPart_143 : decode cX4_findsPart 143 = .ok (.aload_n 0, 1) := by decide +kernel
theorem dX4_findsPart_144 : decode cX4_findsPart 144 = .ok (.getfield 9, 3) := by decide +kernel
theorem dX4_findsPart_147 : decode cX4_findsPart 147 = .ok (.iload 7, 2) := by decide +kernel
theorem dX4_findsPart_149 : decode cX4_findsPart 149 = .ok (.iaload, 1) := by decide +kernel
theorem dX4_findsPart_150 : decode cX4_findsPart 150 = .ok (.aload_n 1, 1) := by decide +kernel
theorem dX4_findsPart_151 : decode cX4_findsPart 151 = .ok (.getfield 38, 3) := by decide +kernel
theorem dX4_findsPart_154 : decode cX4_findsPart 154 = .ok (.iload 5, 2) := by decide +kernel
theorem dX4_findsPart_156 : decode cX4_findsPart 156 = .ok (.iaload, 1) := by decide +kernel
theorem dX4_findsPart_157 : decode cX4_findsPart 157 = .ok (.imul, 1) := by decide +kernel
theorem dX4_findsPart_158 : decode cX4_findsPart 158 = .ok (.aload_n 1, 1) := by decide +kernel
theorem dX4_findsPart_159 : decode cX4_findsPart 159 = .ok (.getfield 32, 3) := by decide +kernel
theorem dX4_findsPart_162 : decode cX4_findsPart 162 = .ok (.iload 5, 2) := by decide +kernel
theorem dX4_findsPart_164 : decode cX4_findsPart 164 = .ok (.iaload, 1) := by decide +kernel
theorem dX4_findsPart_165 : decode cX4_findsPart 165 = .ok (.invokevirtual 41, 3) := by decide +kernel
theorem dX4_findsPart_168 : decode cX4_findsPart 168 = .ok (.ifCond .ne 5, 3) := by decide +kernel
theorem dX4_findsPart_171 : decode cX4_findsPart 171 = .ok (.iconst 0, 1) := by decide +kernel
theorem dX4_findsPart_172 : decode cX4_findsPart 172 = .ok (.ireturn, 1) := by decide +kernel
theorem dX4_findsPart_173 : decode cX4_findsPart 173 = .ok (.iload_n 3, 1) := by decide +kernel
theorem dX4_findsPart_174 : decode cX4_findsPart 174 = .ok (.iload 8, 2) := by decide +kernel
theorem dX4_findsPart_176 : decode cX4_findsPart 176 = .ok (.ifCond .ne 8, 3) := by decide +kernel
theorem dX4_findsPart_179 : decode cX4_findsPart 179 = .ok (.iload 9, 2) := by decide +kernel
theorem dX4_findsPart_181 : decode cX4_findsPart 181 = .ok (.ifCond .eq 15, 3) := by decide +kernel
theorem dX4_findsPart_184 : decode cX4_findsPart 184 = .ok (.iconst 1, 1) := by decide +kernel
theorem dX4_findsPart_185 : decode cX4_findsPart 185 = .ok (.iload 6, 2) := by decide +kernel
theorem dX4_findsPart_187 : decode cX4_findsPart 187 = .ok (.ishl, 1) := by decide +kernel
theorem dX4_findsPart_188 : decode cX4_findsPart 188 = .ok (.iconst 1, 1) := by decide +kernel
theorem dX4_findsPart_189 : decode cX4_findsPart 189 = .ok (.iload 7, 2) := by decide +kernel
theorem dX4_findsPart_191 : decode cX4_findsPart 191 = .ok (.ishl, 1) := by decide +kernel
theorem dX4_findsPart_192 : decode cX4_findsPart 192 = .ok (.ior, 1) := by decide +kernel
theorem dX4_findsPart_193 : decode cX4_findsPart 193 = .ok (.goto 4, 3) := by decide +kernel
theorem dX4_findsPart_196 : decode cX4_findsPart 196 = .ok (.iconst 0, 1) := by decide +kernel
theorem dX4_findsPart_197 : decode cX4_findsPart 197 = .ok (.ior, 1) := by decide +kernel
theorem dX4_findsPart_198 : decode cX4_findsPart 198 = .ok (.istore_n 3, 1) := by decide +kernel
theorem dX4_findsPart_199 : decode cX4_findsPart 199 = .ok (.iinc 5 1, 3) := by decide +kernel
theorem dX4_findsPart_202 : decode cX4_findsPart 202 = .ok (.goto (-176), 3) := by decide +kernel
theorem dX4_findsPart_205 : decode cX4_findsPart 205 = .ok (.iinc 4 1, 3) := by decide +kernel
theorem dX4_findsPart_208 : decode cX4_findsPart 208 = .ok (.goto (-194), 3) := by decide +kernel
theorem dX4_findsPart_211 : decode cX4_findsPart 211 = .ok (.iconst 1, 1) := by decide +kernel
theorem dX4_findsPart_212 : decode cX4_findsPart 212 = .ok (.ireturn, 1) := by decide +kernel
theorem dX4_joins_0 : decode cX4_joins 0 = .ok (.iload 4, 2) := by decide +kernel
theorem dX4_joins_2 : decode cX4_joins 2 = .ok (.iconst 1, 1) := by decide +kernel
theorem dX4_joins_3 : decode cX4_joins 3 = .ok (.if_icmp .ge 5, 3) := by decide +kernel
theorem dX4_joins_6 : decode cX4_joins 6 = .ok (.iconst 0, 1) := by decide +kernel
theorem dX4_joins_7 : decode cX4_joins 7 = .ok (.ireturn, 1) := by decide +kernel
theorem dX4_joins_8 : decode cX4_joins 8 = .ok (.iconst 1, 1) := by decide +kernel
theorem dX4_joins_9 : decode cX4_joins 9 = .ok (.istore 5, 2) := by decide +kernel
theorem dX4_joins_11 : decode cX4_joins 11 = .ok (.iload 5, 2) := by decide +kernel
theorem dX4_joins_13 : decode cX4_joins 13 = .ok (.iload 4, 2) := by decide +kernel
theorem dX4_joins_15 : decode cX4_joins 15 = .ok (.if_icmp .ge 19, 3) := by decide +kernel
theorem dX4_joins_18 : decode cX4_joins 18 = .ok (.iload_n 3, 1) := by decide +kernel
theorem dX4_joins_19 : decode cX4_joins 19 = .ok (.iload 5, 2) := by decide +kernel
theorem dX4_joins_21 : decode cX4_joins 21 = .ok (.imul, 1) := by decide +kernel
theorem dX4_joins_22 : decode cX4_joins 22 = .ok (.iload 4, 2) := by decide +kernel
theorem dX4_joins_24 : decode cX4_joins 24 = .ok (.irem, 1) := by decide +kernel
theorem dX4_joins_25 : decode cX4_joins 25 = .ok (.ifCond .eq 9, 3) := by decide +kernel
theorem dX4_joins_28 : decode cX4_joins 28 = .ok (.iinc 5 1, 3) := by decide +kernel
theorem dX4_joins_31 : decode cX4_joins 31 = .ok (.goto (-20), 3) := by decide +kernel
theorem dX4_joins_34 : decode cX4_joins 34 = .ok (.iconst 0, 1) := by decide +kernel
theorem dX4_joins_35 : decode cX4_joins 35 = .ok (.istore 6, 2) := by decide +kernel
theorem dX4_joins_37 : decode cX4_joins 37 = .ok (.iload 6, 2) := by decide +kernel
theorem dX4_joins_39 : decode cX4_joins 39 = .ok (.aload_n 0, 1) := by decide +kernel
theorem dX4_joins_40 : decode cX4_joins 40 = .ok (.getfield 21, 3) := by decide +kernel
theorem dX4_joins_43 : decode cX4_joins 43 = .ok (.if_icmp .ge 48, 3) := by decide +kernel
theorem dX4_joins_46 : decode cX4_joins 46 = .ok (.aload_n 0, 1) := by decide +kernel
theorem dX4_joins_47 : decode cX4_joins 47 = .ok (.getfield 9, 3) := by decide +kernel
theorem dX4_joins_50 : decode cX4_joins 50 = .ok (.iload 6, 2) := by decide +kernel
theorem dX4_joins_52 : decode cX4_joins 52 = .ok (.dup2, 1) := by decide +kernel
theorem dX4_joins_53 : decode cX4_joins 53 = .ok (.iaload, 1) := by decide +kernel
theorem dX4_joins_54 : decode cX4_joins 54 = .ok (.iload_n 1, 1) := by decide +kernel
theorem dX4_joins_55 : decode cX4_joins 55 = .ok (.iload 6, 2) := by decide +kernel
theorem dX4_joins_57 : decode cX4_joins 57 = .ok (.ishr, 1) := by decide +kernel
theorem dX4_joins_58 : decode cX4_joins 58 = .ok (.iconst 1, 1) := by decide +kernel
theorem dX4_joins_59 : decode cX4_joins 59 = .ok (.iand, 1) := by decide +kernel
theorem dX4_joins_60 : decode cX4_joins 60 = .ok (.ifCond .eq 8, 3) := by decide +kernel
theorem dX4_joins_63 : decode cX4_joins 63 = .ok (.iload 5, 2) := by decide +kernel
theorem dX4_joins_65 : decode cX4_joins 65 = .ok (.goto 4, 3) := by decide +kernel
theorem dX4_joins_68 : decode cX4_joins 68 = .ok (.iconst 1, 1) := by decide +kernel
theorem dX4_joins_69 : decode cX4_joins 69 = .ok (.imul, 1) := by decide +kernel
theorem dX4_joins_70 : decode cX4_joins 70 = .ok (.iastore, 1) := by decide +kernel
theorem dX4_joins_71 : decode cX4_joins 71 = .ok (.aload_n 0, 1) := by decide +kernel
theorem dX4_joins_72 : decode cX4_joins 72 = .ok (.getfield 9, 3) := by decide +kernel
theorem dX4_joins_75 : decode cX4_joins 75 = .ok (.iload 6, 2) := by decide +kernel
theorem dX4_joins_77 : decode cX4_joins 77 = .ok (.iaload, 1) := by decide +kernel
theorem dX4_joins_78 : decode cX4_joins 78 = .ok (.bipush 60, 2) := by decide +kernel
theorem dX4_joins_80 : decode cX4_joins 80 = .ok (.if_icmp .le 5, 3) := by decide +kernel
theorem dX4_joins_83 : decode cX4_joins 83 = .ok (.iconst 0, 1) := by decide +kernel
theorem dX4_joins_84 : decode cX4_joins 84 = .ok (.ireturn, 1) := by decide +kernel
theorem dX4_joins_85 : decode cX4_joins 85 = .ok (.iinc 6 1, 3) := by decide +kernel
theorem dX4_joins_88 : decode cX4_joins 88 = .ok (.goto (-51), 3) := by decide +kernel
theorem dX4_joins_91 : decode cX4_joins 91 = .ok (.aload_n 0, 1) := by decide +kernel
theorem dX4_joins_92 : decode cX4_joins 92 = .ok (.getfield 9, 3) := by decide +kernel
theorem dX4_joins_95 : decode cX4_joins 95 = .ok (.iload_n 2, 1) := by decide +kernel
theorem dX4_joins_96 : decode cX4_joins 96 = .ok (.iload_n 3, 1) := by decide +kernel
theorem dX4_joins_97 : decode cX4_joins 97 = .ok (.iload 5, 2) := by decide +kernel
theorem dX4_joins_99 : decode cX4_joins 99 = .ok (.imul, 1) := by decide +kernel
theorem dX4_joins_100 : decode cX4_joins 100 = .ok (.iload 4, 2) := by decide +kernel
theorem dX4_joins_102 : decode cX4_joins 102 = .ok (.idiv, 1) := by decide +kernel
theorem dX4_joins_103 : decode cX4_joins 103 = .ok (.iastore, 1) := by decide +kernel
theorem dX4_joins_104 : decode cX4_joins 104 = .ok (.aload_n 0, 1) := by decide +kernel
theorem dX4_joins_105 : decode cX4_joins 105 = .ok (.getfield 9, 3) := by decide +kernel
theorem dX4_joins_108 : decode cX4_joins 108 = .ok (.iload_n 2, 1) := by decide +kernel
theorem dX4_joins_109 : decode cX4_joins 109 = .ok (.iaload, 1) := by decide +kernel
theorem dX4_joins_110 : decode cX4_joins 110 = .ok (.bipush 60, 2) := by decide +kernel
theorem dX4_joins_112 : decode cX4_joins 112 = .ok (.if_icmp .gt 7, 3) := by decide +kernel
theorem dX4_joins_115 : decode cX4_joins 115 = .ok (.iconst 1, 1) := by decide +kernel
theorem dX4_joins_116 : decode cX4_joins 116 = .ok (.goto 4, 3) := by decide +kernel
theorem dX4_joins_119 : decode cX4_joins 119 = .ok (.iconst 0, 1) := by decide +kernel
theorem dX4_joins_120 : decode cX4_joins 120 = .ok (.ireturn, 1) := by decide +kernel
theorem dX5_init_0 : decode cX5_init 0 = .ok (.aload_n 0, 1) := by decide +kernel
theorem dX5_init_1 : decode cX5_init 1 = .ok (.invokespecial 3, 3) := by decide +kernel
theorem dX5_init_4 : decode cX5_init 4 = .ok (.aload_n 0, 1) := by decide +kernel
theorem dX5_init_5 : decode cX5_init 5 = .ok (.bipush 120, 2) := by decide +kernel
theorem dX5_init_7 : decode cX5_init 7 = .ok (.newarray .char, 2) := by decide +kernel
theorem dX5_init_9 : decode cX5_init 9 = .ok (.putfield 9, 3) := by decide +kernel
theorem dX5_init_12 : decode cX5_init 12 = .ok (.return_, 1) := by decide +kernel
theorem dX5_isFull_0 : decode cX5_isFull 0 = .ok (.aload_n 0, 1) := by decide +kernel
theorem dX5_isFull_1 : decode cX5_isFull 1 = .ok (.getfield 15, 3) := by decide +kernel
theorem dX5_isFull_4 : decode cX5_isFull 4 = .ok (.bipush 120, 2) := by decide +kernel
theorem dX5_isFull_6 : decode cX5_isFull 6 = .ok (.if_icmp .lt 7, 3) := by decide +kernel
theorem dX5_isFull_9 : decode cX5_isFull 9 = .ok (.iconst 1, 1) := by decide +kernel
theorem dX5_isFull_10 : decode cX5_isFull 10 = .ok (.goto 4, 3) := by decide +kernel
theorem dX5_isFull_13 : decode cX5_isFull 13 = .ok (.iconst 0, 1) := by decide +kernel
theorem dX5_isFull_14 : decode cX5_isFull 14 = .ok (.ireturn, 1) := by decide +kernel
theorem dX5_size_0 : decode cX5_size 0 = .ok (.aload_n 0, 1) := by decide +kernel
theorem dX5_size_1 : decode cX5_size 1 = .ok (.getfield 15, 3) := by decide +kernel
theorem dX5_size_4 : decode cX5_size 4 = .ok (.ireturn, 1) := by decide +kernel
theorem dX5_add_0 : decode cX5_add 0 = .ok (.aload_n 0, 1) := by decide +kernel
theorem dX5_add_1 : decode cX5_add 1 = .ok (.getfield 15, 3) := by decide +kernel
theorem dX5_add_4 : decode cX5_add 4 = .ok (.bipush 120, 2) := by decide +kernel
theorem dX5_add_6 : decode cX5_add 6 = .ok (.if_icmp .ge 23, 3) := by decide +kernel
theorem dX5_add_9 : decode cX5_add 9 = .ok (.aload_n 0, 1) := by decide +kernel
theorem dX5_add_10 : decode cX5_add 10 = .ok (.getfield 9, 3) := by decide +kernel
theorem dX5_add_13 : decode cX5_add 13 = .ok (.aload_n 0, 1) := by decide +kernel
theorem dX5_add_14 : decode cX5_add 14 = .ok (.getfield 15, 3) := by decide +kernel
theorem dX5_add_17 : decode cX5_add 17 = .ok (.iload_n 1, 1) := by decide +kernel
theorem dX5_add_18 : decode cX5_add 18 = .ok (.castore, 1) := by decide +kernel
theorem dX5_add_19 : decode cX5_add 19 = .ok (.aload_n 0, 1) := by decide +kernel
theorem dX5_add_20 : decode cX5_add 20 = .ok (.dup, 1) := by decide +kernel
theorem dX5_add_21 : decode cX5_add 21 = .ok (.getfield 15, 3) := by decide +kernel
theorem dX5_add_24 : decode cX5_add 24 = .ok (.iconst 1, 1) := by decide +kernel
theorem dX5_add_25 : decode cX5_add 25 = .ok (.iadd, 1) := by decide +kernel
theorem dX5_add_26 : decode cX5_add 26 = .ok (.putfield 15, 3) := by decide +kernel
theorem dX5_add_29 : decode cX5_add 29 = .ok (.aload_n 0, 1) := by decide +kernel
theorem dX5_add_30 : decode cX5_add 30 = .ok (.getfield 15, 3) := by decide +kernel
theorem dX5_add_33 : decode cX5_add 33 = .ok (.ireturn, 1) := by decide +kernel
theorem dX5_empty_0 : decode cX5_empty 0 = .ok (.aload_n 0, 1) := by decide +kernel
theorem dX5_empty_1 : decode cX5_empty 1 = .ok (.getfield 15, 3) := by decide +kernel
theorem dX5_empty_4 : decode cX5_empty 4 = .ok (.istore_n 1, 1) := by decide +kernel
theorem dX5_empty_5 : decode cX5_empty 5 = .ok (.aload_n 0, 1) := by decide +kernel
theorem dX5_empty_6 : decode cX5_empty 6 = .ok (.iconst 0, 1) := by decide +kernel
theorem dX5_empty_7 : decode cX5_empty 7 = .ok (.putfield 15, 3) := by decide +kernel
theorem dX5_empty_10 : decode cX5_empty 10 = .ok (.iload_n 1, 1) := by decide +kernel
theorem dX5_empty_11 : decode cX5_empty 11 = .ok (.ireturn, 1) := by decide +kernel
theorem dX5_at_0 : decode cX5_at 0 = .ok (.iload_n 1, 1) := by decide +kernel
theorem dX5_at_1 : decode cX5_at 1 = .ok (.ifCond .lt 11, 3) := by decide +kernel
theorem dX5_at_4 : decode cX5_at 4 = .ok (.iload_n 1, 1) := by decide +kernel
theorem dX5_at_5 : decode cX5_at 5 = .ok (.aload_n 0, 1) := by decide +kernel
theorem dX5_at_6 : decode cX5_at 6 = .ok (.getfield 15, 3) := by decide +kernel
theorem dX5_at_9 : decode cX5_at 9 = .ok (.if_icmp .lt 7, 3) := by decide +kernel
theorem dX5_at_12 : decode cX5_at 12 = .ok (.iconst 0, 1) := by decide +kernel
theorem dX5_at_13 : decode cX5_at 13 = .ok (.goto 9, 3) := by decide +kernel
theorem dX5_at_16 : decode cX5_at 16 = .ok (.aload_n 0, 1) := by decide +kernel
theorem dX5_at_17 : decode cX5_at 17 = .ok (.getfield 9, 3) := by decide +kernel
theorem dX5_at_20 : decode cX5_at 20 = .ok (.iload_n 1, 1) := by decide +kernel
theorem dX5_at_21 : decode cX5_at 21 = .ok (.caload, 1) := by decide +kernel
theorem dX5_at_22 : decode cX5_at 22 = .ok (.ireturn, 1) := by decide +kernel
theorem dX5_digit_0 : decode cX5_digit 0 = .ok (.aload_n 0, 1) := by decide +kernel
theorem dX5_digit_1 : decode cX5_digit 1 = .ok (.iload_n 1, 1) := by decide +kernel
theorem dX5_digit_2 : decode cX5_digit 2 = .ok (.invokevirtual 19, 3) := by decide +kernel
theorem dX5_digit_5 : decode cX5_digit 5 = .ok (.bipush 48, 2) := by decide +kernel
theorem dX5_digit_7 : decode cX5_digit 7 = .ok (.isub, 1) := by decide +kernel
theorem dX5_digit_8 : decode cX5_digit 8 = .ok (.ireturn, 1) := by decide +kernel
theorem dX5_firstError_0 : decode cX5_firstError 0 = .ok (.aload_n 0, 1) := by decide +kernel
theorem dX5_firstError_1 : decode cX5_firstError 1 = .ok (.iconst 0, 1) := by decide +kernel
theorem dX5_firstError_2 : decode cX5_firstError 2 = .ok (.invokevirtual 19, 3) := by decide +kernel
theorem dX5_firstError_5 : decode cX5_firstError 5 = .ok (.bipush 77, 2) := by decide +kernel
theorem dX5_firstError_7 : decode cX5_firstError 7 = .ok (.if_icmp .eq 5, 3) := by decide +kernel
theorem dX5_firstError_10 : decode cX5_firstError 10 = .ok (.iconst 0, 1) := by decide +kernel
theorem dX5_firstError_11 : decode cX5_firstError 11 = .ok (.ireturn, 1) := by decide +kernel
theorem dX5_firstError_12 : decode cX5_firstError 12 = .ok (.iconst 1, 1) := by decide +kernel
theorem dX5_firstError_13 : decode cX5_firstError 13 = .ok (.istore_n 1, 1) := by decide +kernel
theorem dX5_firstError_14 : decode cX5_firstError 14 = .ok (.iload_n 1, 1) := by decide +kernel
theorem dX5_firstError_15 : decode cX5_firstError 15 = .ok (.aload_n 0, 1) := by decide +kernel
theorem dX5_firstError_16 : decode cX5_firstError 16 = .ok (.getfield 15, 3) := by decide +kernel
theorem dX5_firstError_19 : decode cX5_firstError 19 = .ok (.if_icmp .ge 32, 3) := by decide +kernel
theorem dX5_firstError_22 : decode cX5_firstError 22 = .ok (.aload_n 0, 1) := by decide +kernel
theorem dX5_firstError_23 : decode cX5_firstError 23 = .ok (.iload_n 1, 1) := by decide +kernel
theorem dX5_firstError_24 : decode cX5_firstError 24 = .ok (.invokevirtual 23, 3) := by decide +kernel
theorem dX5_firstError_27 : decode cX5_firstError 27 = .ok (.istore_n 2, 1) := by decide +kernel
theorem dX5_firstError_28 : decode cX5_firstError 28 = .ok (.iload_n 2, 1) := by decide +kernel
theorem dX5_firstError_29 : decode cX5_firstError 29 = .ok (.iconst (-1), 1) := by decide +kernel
theorem dX5_firstError_30 : decode cX5_firstError 30 = .ok (.if_icmp .eq 5, 3) := by decide +kernel
theorem dX5_firstError_33 : decode cX5_firstError 33 = .ok (.iload_n 2, 1) := by decide +kernel
theorem dX5_firstError_34 : decode cX5_firstError 34 = .ok (.ireturn, 1) := by decide +kernel
theorem dX5_firstError_35 : decode cX5_firstError 35 = .ok (.iload_n 1, 1) := by decide +kernel
theorem dX5_firstError_36 : decode cX5_firstError 36 = .ok (.iconst 1, 1) := by decide +kernel
theorem dX5_firstError_37 : decode cX5_firstError 37 = .ok (.aload_n 0, 1) := by decide +kernel
theorem dX5_firstError_38 : decode cX5_firstError 38 = .ok (.iload_n 1, 1) := by decide +kernel
theorem dX5_firstError_39 : decode cX5_firstError 39 = .ok (.invokevirtual 19, 3) := by decide +kernel
theorem dX5_firstError_42 : decode cX5_firstError 42 = .ok (.invokestatic 27, 3) := by decide +kernel
theorem dX5_firstError_45 : decode cX5_firstError 45 = .ok (.iadd, 1) := by decide +kernel
theorem dX5_firstError_46 : decode cX5_firstError 46 = .ok (.iadd, 1) := by decide +kernel
theorem dX5_firstError_47 : decode cX5_firstError 47 = .ok (.istore_n 1, 1) := by decide +kernel
theorem dX5_firstError_48 : decode cX5_firstError 48 = .ok (.goto (-34), 3) := by decide +kernel
theorem dX5_firstError_51 : decode cX5_firstError 51 = .ok (.iconst (-1), 1) := by decide +kernel
theorem dX5_firstError_52 : decode cX5_firstError 52 = .ok (.ireturn, 1) := by decide +kernel
theorem dX5_errorOfCommand_0 : decode cX5_errorOfCommand 0 = .ok (.aload_n 0, 1) := by decide +kernel
theorem dX5_errorOfCommand_1 : decode cX5_errorOfCommand 1 = .ok (.iload_n 1, 1) := by decide +kernel
theorem dX5_errorOfCommand_2 : decode cX5_errorOfCommand 2 = .ok (.invokevirtual 19, 3) := by decide +kernel
theorem dX5_errorOfCommand_5 : decode cX5_errorOfCommand 5 = .ok (.invokestatic 27, 3) := by decide +kernel
theorem dX5_errorOfCommand_8 : decode cX5_errorOfCommand 8 = .ok (.istore_n 2, 1) := by decide +kernel
theorem dX5_errorOfCommand_9 : decode cX5_errorOfCommand 9 = .ok (.iload_n 2, 1) := by decide +kernel
theorem dX5_errorOfCommand_10 : decode cX5_errorOfCommand 10 = .ok (.ifCond .ne 5, 3) := by decide +kernel
theorem dX5_errorOfCommand_13 : decode cX5_errorOfCommand 13 = .ok (.iload_n 1, 1) := by decide +kernel
theorem dX5_errorOfCommand_14 : decode cX5_errorOfCommand 14 = .ok (.ireturn, 1) := by decide +kernel
theorem dX5_errorOfCommand_15 : decode cX5_errorOfCommand 15 = .ok (.iconst 1, 1) := by decide +kernel
theorem dX5_errorOfCommand_16 : decode cX5_errorOfCommand 16 = .ok (.istore_n 3, 1) := by decide +kernel
theorem dX5_errorOfCommand_17 : decode cX5_errorOfCommand 17 = .ok (.iload_n 3, 1) := by decide +kernel
theorem dX5_errorOfCommand_18 : decode cX5_errorOfCommand 18 = .ok (.iload_n 2, 1) := by decide +kernel
theorem dX5_errorOfCommand_19 : decode cX5_errorOfCommand 19 = .ok (.if_icmp .gt 75, 3) := by decide +kernel
theorem dX5_errorOfCommand_22 : decode cX5_errorOfCommand 22 = .ok (.iload_n 1, 1) := by decide +kernel
theorem dX5_errorOfCommand_23 : decode cX5_errorOfCommand 23 = .ok (.iload_n 3, 1) := by decide +kernel
theorem dX5_errorOfCommand_24 : decode cX5_errorOfCommand 24 = .ok (.iadd, 1) := by decide +kernel
theorem dX5_errorOfCommand_25 : decode cX5_errorOfCommand 25 = .ok (.aload_n 0, 1) := by decide +kernel
theorem dX5_errorOfCommand_26 : decode cX5_errorOfCommand 26 = .ok (.getfield 15, 3) := by decide +kernel
theorem dX5_errorOfCommand_29 : decode cX5_errorOfCommand 29 = .ok (.if_icmp .lt 8, 3) := by decide +kernel
theorem dX5_errorOfCommand_32 : decode cX5_errorOfCommand 32 = .ok (.aload_n 0, 1) := by decide +kernel
theorem dX5_errorOfCommand_33 : decode cX5_errorOfCommand 33 = .ok (.getfield 15, 3) := by decide +kernel
theorem dX5_errorOfCommand_36 : decode cX5_errorOfCommand 36 = .ok (.ireturn, 1) := by decide +kernel
theorem dX5_errorOfCommand_37 : decode cX5_errorOfCommand 37 = .ok (.aload_n 0, 1) := by decide +kernel
theorem dX5_errorOfCommand_38 : decode cX5_errorOfCommand 38 = .ok (.iload_n 1, 1) := by decide +kernel
theorem dX5_errorOfCommand_39 : decode cX5_errorOfCommand 39 = .ok (.iload_n 3, 1) := by decide +kernel
theorem dX5_errorOfCommand_40 : decode cX5_errorOfCommand 40 = .ok (.iadd, 1) := by decide +kernel
theorem dX5_errorOfCommand_41 : decode cX5_errorOfCommand 41 = .ok (.invokevirtual 19, 3) := by decide +kernel
theorem dX5_errorOfCommand_44 : decode cX5_errorOfCommand 44 = .ok (.aload_n 0, 1) := by decide +kernel
theorem dX5_errorOfCommand_45 : decode cX5_errorOfCommand 45 = .ok (.iload_n 1, 1) := by decide +kernel
theorem dX5_errorOfCommand_46 : decode cX5_errorOfCommand 46 = .ok (.invokevirtual 19, 3) := by decide +kernel
theorem dX5_errorOfCommand_49 : decode cX5_errorOfCommand 49 = .ok (.iload_n 3, 1) := by decide +kernel
theorem dX5_errorOfCommand_50 : decode cX5_errorOfCommand 50 = .ok (.invokestatic 31, 3) := by decide +kernel
theorem dX5_errorOfCommand_53 : decode cX5_errorOfCommand 53 = .ok (.if_icmp .lt 31, 3) := by decide +kernel
theorem dX5_errorOfCommand_56 : decode cX5_errorOfCommand 56 = .ok (.aload_n 0, 1) := by decide +kernel
theorem dX5_errorOfCommand_57 : decode cX5_errorOfCommand 57 = .ok (.iload_n 1, 1) := by decide +kernel
theorem dX5_errorOfCommand_58 : decode cX5_errorOfCommand 58 = .ok (.iload_n 3, 1) := by decide +kernel
theorem dX5_errorOfCommand_59 : decode cX5_errorOfCommand 59 = .ok (.iadd, 1) := by decide +kernel
theorem dX5_errorOfCommand_60 : decode cX5_errorOfCommand 60 = .ok (.invokevirtual 19, 3) := by decide +kernel
theorem dX5_errorOfCommand_63 : decode cX5_errorOfCommand 63 = .ok (.aload_n 0, 1) := by decide +kernel
theorem dX5_errorOfCommand_64 : decode cX5_errorOfCommand 64 = .ok (.iload_n 1, 1) := by decide +kernel
theorem dX5_errorOfCommand_65 : decode cX5_errorOfCommand 65 = .ok (.invokevirtual 19, 3) := by decide +kernel
theorem dX5_errorOfCommand_68 : decode cX5_errorOfCommand 68 = .ok (.iload_n 3, 1) := by decide +kernel
theorem dX5_errorOfCommand_69 : decode cX5_errorOfCommand 69 = .ok (.aload_n 0, 1) := by decide +kernel
theorem dX5_errorOfCommand_70 : decode cX5_errorOfCommand 70 = .ok (.iload_n 1, 1) := by decide +kernel
theorem dX5_errorOfCommand_71 : decode cX5_errorOfCommand 71 = .ok (.iload_n 3, 1) := by decide +kernel
theorem dX5_errorOfCommand_72 : decode cX5_errorOfCommand 72 = .ok (.iadd, 1) := by decide +kernel
theorem dX5_errorOfCommand_73 : decode cX5_errorOfCommand 73 = .ok (.iconst 1, 1) := by decide +kernel
theorem dX5_errorOfCommand_74 : decode cX5_errorOfCommand 74 = .ok (.isub, 1) := by decide +kernel
theorem dX5_errorOfCommand_75 : decode cX5_errorOfCommand 75 = .ok (.invokevirtual 19, 3) := by decide +kernel
theorem dX5_errorOfCommand_78 : decode cX5_errorOfCommand 78 = .ok (.invokestatic 35, 3) := by decide +kernel
theorem dX5_errorOfCommand_81 : decode cX5_errorOfCommand 81 = .ok (.if_icmp .le 7, 3) := by decide +kernel
theorem dX5_errorOfCommand_84 : decode cX5_errorOfCommand 84 = .ok (.iload_n 1, 1) := by decide +kernel
theorem dX5_errorOfCommand_85 : decode cX5_errorOfCommand 85 = .ok (.iload_n 3, 1) := by decide +kernel
theorem dX5_errorOfCommand_86 : decode cX5_errorOfCommand 86 = .ok (.iadd, 1) := by decide +kernel
theorem dX5_errorOfCommand_87 : decode cX5_errorOfCommand 87 = .ok (.ireturn, 1) := by decide +kernel
theorem dX5_errorOfCommand_88 : decode cX5_errorOfCommand 88 = .ok (.iinc 3 1, 3) := by decide +kernel
theorem dX5_errorOfCommand_91 : decode cX5_errorOfCommand 91 = .ok (.goto (-74), 3) := by decide +kernel
theorem dX5_errorOfCommand_94 : decode cX5_errorOfCommand 94 = .ok (.iconst (-1), 1) := by decide +kernel
theorem dX5_errorOfCommand_95 : decode cX5_errorOfCommand 95 = .ok (.ireturn, 1) := by decide +kernel
theorem dX5_digitsOf_0 : decode cX5_digitsOf 0 = .ok (.iload_n 0, 1) := by decide +kernel
theorem dX5_digitsOf_1 : decode cX5_digitsOf 1 = .ok (.lookupswitch 52 #[(99, 48), (102, 50), (109, 43), (119, 45)], 43) := by decide +kernel
theorem dX5_digitsOf_44 : decode cX5_digitsOf 44 = .ok (.iconst 2, 1) := by decide +kernel
theorem dX5_digitsOf_45 : decode cX5_digitsOf 45 = .ok (.ireturn, 1) := by decide +kernel
theorem dX5_digitsOf_46 : decode cX5_digitsOf 46 = .ok (.bipush 6, 2) := by decide +kernel
theorem dX5_digitsOf_48 : decode cX5_digitsOf 48 = .ok (.ireturn, 1) := by decide +kernel
theorem dX5_digitsOf_49 : decode cX5_digitsOf 49 = .ok (.iconst 2, 1) := by decide +kernel
theorem dX5_digitsOf_50 : decode cX5_digitsOf 50 = .ok (.ireturn, 1) := by decide +kernel
theorem dX5_digitsOf_51 : decode cX5_digitsOf 51 = .ok (.iconst 1, 1) := by decide +kernel
theorem dX5_digitsOf_52 : decode cX5_digitsOf 52 = .ok (.ireturn, 1) := by decide +kernel
theorem dX5_digitsOf_53 : decode cX5_digitsOf 53 = .ok (.iconst 0, 1) := by decide +kernel
theorem dX5_digitsOf_54 : decode cX5_digitsOf 54 = .ok (.ireturn, 1) := by decide +kernel
theorem dX5_lowest_0 : decode cX5_lowest 0 = .ok (.iload_n 0, 1) := by decide +kernel
theorem dX5_lowest_1 : decode cX5_lowest 1 = .ok (.bipush 119, 2) := by decide +kernel
theorem dX5_lowest_3 : decode cX5_lowest 3 = .ok (.if_icmp .ne 18, 3) := by decide +kernel
theorem dX5_lowest_6 : decode cX5_lowest 6 = .ok (.iload_n 1, 1) := by decide +kernel
theorem dX5_lowest_7 : decode cX5_lowest 7 = .ok (.iconst 3, 1) := by decide +kernel
theorem dX5_lowest_8 : decode cX5_lowest 8 = .ok (.if_icmp .eq 8, 3) := by decide +kernel
theorem dX5_lowest_11 : decode cX5_lowest 11 = .ok (.iload_n 1, 1) := by decide +kernel
theorem dX5_lowest_12 : decode cX5_lowest 12 = .ok (.iconst 4, 1) := by decide +kernel
theorem dX5_lowest_13 : decode cX5_lowest 13 = .ok (.if_icmp .ne 8, 3) := by decide +kernel
theorem dX5_lowest_16 : decode cX5_lowest 16 = .ok (.bipush 49, 2) := by decide +kernel
theorem dX5_lowest_18 : decode cX5_lowest 18 = .ok (.goto 5, 3) := by decide +kernel
theorem dX5_lowest_21 : decode cX5_lowest 21 = .ok (.bipush 48, 2) := by decide +kernel
theorem dX5_lowest_23 : decode cX5_lowest 23 = .ok (.ireturn, 1) := by decide +kernel
theorem dX5_highest_0 : decode cX5_highest 0 = .ok (.iload_n 0, 1) := by decide +kernel
theorem dX5_highest_1 : decode cX5_highest 1 = .ok (.lookupswitch 85 #[(99, 61), (109, 35), (119, 38)], 35) := by decide +kernel
theorem dX5_highest_36 : decode cX5_highest 36 = .ok (.bipush 51, 2) := by decide +kernel
theorem dX5_highest_38 : decode cX5_highest 38 = .ok (.ireturn, 1) := by decide +kernel
theorem dX5_highest_39 : decode cX5_highest 39 = .ok (.iload_n 1, 1) := by decide +kernel
theorem dX5_highest_40 : decode cX5_highest 40 = .ok (.iconst 2, 1) := by decide +kernel
theorem dX5_highest_41 : decode cX5_highest 41 = .ok (.if_icmp .gt 8, 3) := by decide +kernel
theorem dX5_highest_44 : decode cX5_highest 44 = .ok (.bipush 55, 2) := by decide +kernel
theorem dX5_highest_46 : decode cX5_highest 46 = .ok (.goto 15, 3) := by decide +kernel
theorem dX5_highest_49 : decode cX5_highest 49 = .ok (.iload_n 1, 1) := by decide +kernel
theorem dX5_highest_50 : decode cX5_highest 50 = .ok (.iconst 4, 1) := by decide +kernel
theorem dX5_highest_51 : decode cX5_highest 51 = .ok (.if_icmp .gt 8, 3) := by decide +kernel
theorem dX5_highest_54 : decode cX5_highest 54 = .ok (.bipush 54, 2) := by decide +kernel
theorem dX5_highest_56 : decode cX5_highest 56 = .ok (.goto 5, 3) := by decide +kernel
theorem dX5_highest_59 : decode cX5_highest 59 = .ok (.bipush 57, 2) := by decide +kernel
theorem dX5_highest_61 : decode cX5_highest 61 = .ok (.ireturn, 1) := by decide +kernel
theorem dX5_highest_62 : decode cX5_highest 62 = .ok (.iload_n 1, 1) := by decide +kernel
theorem dX5_highest_63 : decode cX5_highest 63 = .ok (.iconst 1, 1) := by decide +kernel
theorem dX5_highest_64 : decode cX5_highest 64 = .ok (.if_icmp .ne 8, 3) := by decide +kernel
theorem dX5_highest_67 : decode cX5_highest 67 = .ok (.bipush 49, 2) := by decide +kernel
theorem dX5_highest_69 : decode cX5_highest 69 = .ok (.goto 16, 3) := by decide +kernel
theorem dX5_highest_72 : decode cX5_highest 72 = .ok (.iload_n 2, 1) := by decide +kernel
theorem dX5_highest_73 : decode cX5_highest 73 = .ok (.bipush 48, 2) := by decide +kernel
theorem dX5_highest_75 : decode cX5_highest 75 = .ok (.if_icmp .ne 8, 3) := by decide +kernel
theorem dX5_highest_78 : decode cX5_highest 78 = .ok (.bipush 57, 2) := by decide +kernel
theorem dX5_highest_80 : decode cX5_highest 80 = .ok (.goto 5, 3) := by decide +kernel
theorem dX5_highest_83 : decode cX5_highest 83 = .ok (.bipush 51, 2) := by decide +kernel
theorem dX5_highest_85 : decode cX5_highest 85 = .ok (.ireturn, 1) := by decide +kernel
theorem dX5_highest_86 : decode cX5_highest 86 = .ok (.bipush 55, 2) := by decide +kernel
theorem dX5_highest_88 : decode cX5_highest 88 = .ok (.ireturn, 1) := by decide +kernel
theorem dX6_init_0 : decode cX6_init 0 = .ok (.aload_n 0, 1) := by decide +kernel
theorem dX6_init_1 : decode cX6_init 1 = .ok (.invokespecial 3, 3) := by decide +kernel
theorem dX6_init_4 : decode cX6_init 4 = .ok (.aload_n 0, 1) := by decide +kernel
theorem dX6_init_5 : decode cX6_init 5 = .ok (.bipush 8, 2) := by decide +kernel
theorem dX6_init_7 : decode cX6_init 7 = .ok (.newarray .int, 2) := by decide +kernel
theorem dX6_init_9 : decode cX6_init 9 = .ok (.putfield 9, 3) := by decide +kernel
theorem dX6_init_12 : decode cX6_init 12 = .ok (.return_, 1) := by decide +kernel
theorem dX6_fewestMarks_0 : decode cX6_fewestMarks 0 = .ok (.iconst 0, 1) := by decide +kernel
theorem dX6_fewestMarks_1 : decode cX6_fewestMarks 1 = .ok (.istore 4, 2) := by decide +kernel
theorem dX6_fewestMarks_3 : decode cX6_fewestMarks 3 = .ok (.iload 4, 2) := by decide +kernel
theorem dX6_fewestMarks_5 : decode cX6_fewestMarks 5 = .ok (.bipush 8, 2) := by decide +kernel
theorem dX6_fewestMarks_7 : decode cX6_fewestMarks 7 = .ok (.if_icmp .ge 17, 3) := by decide +kernel
theorem dX6_fewestMarks_10 : decode cX6_fewestMarks 10 = .ok (.aload_n 0, 1) := by decide +kernel
theorem dX6_fewestMarks_11 : decode cX6_fewestMarks 11 = .ok (.getfield 9, 3) := by decide +kernel
theorem dX6_fewestMarks_14 : decode cX6_fewestMarks 14 = .ok (.iload 4, 2) := by decide +kernel
theorem dX6_fewestMarks_16 : decode cX6_fewestMarks 16 = .ok (.iconst (-1), 1) := by decide +kernel
theorem dX6_fewestMarks_17 : decode cX6_fewestMarks 17 = .ok (.iastore, 1) := by decide +kernel
theorem dX6_fewestMarks_18 : decode cX6_fewestMarks 18 = .ok (.iinc 4 1, 3) := by decide +kernel
theorem dX6_fewestMarks_21 : decode cX6_fewestMarks 21 = .ok (.goto (-18), 3) := by decide +kernel
theorem dX6_fewestMarks_24 : decode cX6_fewestMarks 24 = .ok (.iconst 0, 1) := by decide +kernel
theorem dX6_fewestMarks_25 : decode cX6_fewestMarks 25 = .ok (.istore 4, 2) := by decide +kernel
theorem dX6_fewestMarks_27 : decode cX6_fewestMarks 27 = .ok (.iload 4, 2) := by decide +kernel
theorem dX6_fewestMarks_29 : decode cX6_fewestMarks 29 = .ok (.aload_n 1, 1) := by decide +kernel
theorem dX6_fewestMarks_30 : decode cX6_fewestMarks 30 = .ok (.getfield 15, 3) := by decide +kernel
theorem dX6_fewestMarks_33 : decode cX6_fewestMarks 33 = .ok (.if_icmp .ge 38, 3) := by decide +kernel
theorem dX6_fewestMarks_36 : decode cX6_fewestMarks 36 = .ok (.aload_n 1, 1) := by decide +kernel
theorem dX6_fewestMarks_37 : decode cX6_fewestMarks 37 = .ok (.getfield 21, 3) := by decide +kernel
theorem dX6_fewestMarks_40 : decode cX6_fewestMarks 40 = .ok (.iload 4, 2) := by decide +kernel
theorem dX6_fewestMarks_42 : decode cX6_fewestMarks 42 = .ok (.iaload, 1) := by decide +kernel
theorem dX6_fewestMarks_43 : decode cX6_fewestMarks 43 = .ok (.iload_n 2, 1) := by decide +kernel
theorem dX6_fewestMarks_44 : decode cX6_fewestMarks 44 = .ok (.if_icmp .ne 21, 3) := by decide +kernel
theorem dX6_fewestMarks_47 : decode cX6_fewestMarks 47 = .ok (.aload_n 0, 1) := by decide +kernel
theorem dX6_fewestMarks_48 : decode cX6_fewestMarks 48 = .ok (.aload_n 1, 1) := by decide +kernel
theorem dX6_fewestMarks_49 : decode cX6_fewestMarks 49 = .ok (.getfield 24, 3) := by decide +kernel
theorem dX6_fewestMarks_52 : decode cX6_fewestMarks 52 = .ok (.iload 4, 2) := by decide +kernel
theorem dX6_fewestMarks_54 : decode cX6_fewestMarks 54 = .ok (.iaload, 1) := by decide +kernel
theorem dX6_fewestMarks_55 : decode cX6_fewestMarks 55 = .ok (.aload_n 1, 1) := by decide +kernel
theorem dX6_fewestMarks_56 : decode cX6_fewestMarks 56 = .ok (.getfield 27, 3) := by decide +kernel
theorem dX6_fewestMarks_59 : decode cX6_fewestMarks 59 = .ok (.iload 4, 2) := by decide +kernel
theorem dX6_fewestMarks_61 : decode cX6_fewestMarks 61 = .ok (.iaload, 1) := by decide +kernel
theorem dX6_fewestMarks_62 : decode cX6_fewestMarks 62 = .ok (.invokevirtual 30, 3) := by decide +kernel
theorem dX6_fewestMarks_65 : decode cX6_fewestMarks 65 = .ok (.iinc 4 1, 3) := by decide +kernel
theorem dX6_fewestMarks_68 : decode cX6_fewestMarks 68 = .ok (.goto (-41), 3) := by decide +kernel
theorem dX6_fewestMarks_71 : decode cX6_fewestMarks 71 = .ok (.iconst 1, 1) := by decide +kernel
theorem dX6_fewestMarks_72 : decode cX6_fewestMarks 72 = .ok (.istore 4, 2) := by decide +kernel
theorem dX6_fewestMarks_74 : decode cX6_fewestMarks 74 = .ok (.iload 4, 2) := by decide +kernel
theorem dX6_fewestMarks_76 : decode cX6_fewestMarks 76 = .ok (.aload_n 1, 1) := by decide +kernel
theorem dX6_fewestMarks_77 : decode cX6_fewestMarks 77 = .ok (.getfield 34, 3) := by decide +kernel
theorem dX6_fewestMarks_80 : decode cX6_fewestMarks 80 = .ok (.if_icmp .ge 74, 3) := by decide +kernel
theorem dX6_fewestMarks_83 : decode cX6_fewestMarks 83 = .ok (.iconst 0, 1) := by decide +kernel
theorem dX6_fewestMarks_84 : decode cX6_fewestMarks 84 = .ok (.istore 5, 2) := by decide +kernel
theorem dX6_fewestMarks_86 : decode cX6_fewestMarks 86 = .ok (.iload 5, 2) := by decide +kernel
theorem dX6_fewestMarks_88 : decode cX6_fewestMarks 88 = .ok (.aload_n 1, 1) := by decide +kernel
theorem dX6_fewestMarks_89 : decode cX6_fewestMarks 89 = .ok (.getfield 15, 3) := by decide +kernel
theorem dX6_fewestMarks_92 : decode cX6_fewestMarks 92 = .ok (.if_icmp .ge 56, 3) := by decide +kernel
theorem dX6_fewestMarks_95 : decode cX6_fewestMarks 95 = .ok (.aload_n 0, 1) := by decide +kernel
theorem dX6_fewestMarks_96 : decode cX6_fewestMarks 96 = .ok (.getfield 9, 3) := by decide +kernel
theorem dX6_fewestMarks_99 : decode cX6_fewestMarks 99 = .ok (.aload_n 1, 1) := by decide +kernel
theorem dX6_fewestMarks_100 : decode cX6_fewestMarks 100 = .ok (.getfield 21, 3) := by decide +kernel
theorem dX6_fewestMarks_103 : decode cX6_fewestMarks 103 = .ok (.iload 5, 2) := by decide +kernel
theorem dX6_fewestMarks_105 : decode cX6_fewestMarks 105 = .ok (.iaload, 1) := by decide +kernel
theorem dX6_fewestMarks_106 : decode cX6_fewestMarks 106 = .ok (.iaload, 1) := by decide +kernel
theorem dX6_fewestMarks_107 : decode cX6_fewestMarks 107 = .ok (.iconst (-1), 1) := by decide +kernel
theorem dX6_fewestMarks_108 : decode cX6_fewestMarks 108 = .ok (.if_icmp .eq 34, 3) := by decide +kernel
theorem dX6_fewestMarks_111 : decode cX6_fewestMarks 111 = .ok (.aload_n 0, 1) := by decide +kernel
theorem dX6_fewestMarks_112 : decode cX6_fewestMarks 112 = .ok (.aload_n 1, 1) := by decide +kernel
theorem dX6_fewestMarks_113 : decode cX6_fewestMarks 113 = .ok (.getfield 24, 3) := by decide +kernel
theorem dX6_fewestMarks_116 : decode cX6_fewestMarks 116 = .ok (.iload 5, 2) := by decide +kernel
theorem dX6_fewestMarks_118 : decode cX6_fewestMarks 118 = .ok (.iaload, 1) := by decide +kernel
theorem dX6_fewestMarks_119 : decode cX6_fewestMarks 119 = .ok (.aload_n 0, 1) := by decide +kernel
theorem dX6_fewestMarks_120 : decode cX6_fewestMarks 120 = .ok (.getfield 9, 3) := by decide +kernel
theorem dX6_fewestMarks_123 : decode cX6_fewestMarks 123 = .ok (.aload_n 1, 1) := by decide +kernel
theorem dX6_fewestMarks_124 : decode cX6_fewestMarks 124 = .ok (.getfield 21, 3) := by decide +kernel
theorem dX6_fewestMarks_127 : decode cX6_fewestMarks 127 = .ok (.iload 5, 2) := by decide +kernel
theorem dX6_fewestMarks_129 : decode cX6_fewestMarks 129 = .ok (.iaload, 1) := by decide +kernel
theorem dX6_fewestMarks_130 : decode cX6_fewestMarks 130 = .ok (.iaload, 1) := by decide +kernel
theorem dX6_fewestMarks_131 : decode cX6_fewestMarks 131 = .ok (.aload_n 1, 1) := by decide +kernel
theorem dX6_fewestMarks_132 : decode cX6_fewestMarks 132 = .ok (.getfield 27, 3) := by decide +kernel
theorem dX6_fewestMarks_135 : decode cX6_fewestMarks 135 = .ok (.iload 5, 2) := by decide +kernel
theorem dX6_fewestMarks_137 : decode cX6_fewestMarks 137 = .ok (.iaload, 1) := by decide +kernel
theorem dX6_fewestMarks_138 : decode cX6_fewestMarks 138 = .ok (.iadd, 1) := by decide +kernel
theorem dX6_fewestMarks_139 : decode cX6_fewestMarks 139 = .ok (.invokevirtual 30, 3) := by decide +kernel
theorem dX6_fewestMarks_142 : decode cX6_fewestMarks 142 = .ok (.iinc 5 1, 3) := by decide +kernel
theorem dX6_fewestMarks_145 : decode cX6_fewestMarks 145 = .ok (.goto (-59), 3) := by decide +kernel
theorem dX6_fewestMarks_148 : decode cX6_fewestMarks 148 = .ok (.iinc 4 1, 3) := by decide +kernel
theorem dX6_fewestMarks_151 : decode cX6_fewestMarks 151 = .ok (.goto (-77), 3) := by decide +kernel
theorem dX6_fewestMarks_154 : decode cX6_fewestMarks 154 = .ok (.aload_n 0, 1) := by decide +kernel
theorem dX6_fewestMarks_155 : decode cX6_fewestMarks 155 = .ok (.getfield 9, 3) := by decide +kernel
theorem dX6_fewestMarks_158 : decode cX6_fewestMarks 158 = .ok (.iload_n 3, 1) := by decide +kernel
theorem dX6_fewestMarks_159 : decode cX6_fewestMarks 159 = .ok (.iaload, 1) := by decide +kernel
theorem dX6_fewestMarks_160 : decode cX6_fewestMarks 160 = .ok (.ireturn, 1) := by decide +kernel
theorem dX6_shorten_0 : decode cX6_shorten 0 = .ok (.aload_n 0, 1) := by decide +kernel
theorem dX6_shorten_1 : decode cX6_shorten 1 = .ok (.getfield 9, 3) := by decide +kernel
theorem dX6_shorten_4 : decode cX6_shorten 4 = .ok (.iload_n 1, 1) := by decide +kernel
theorem dX6_shorten_5 : decode cX6_shorten 5 = .ok (.iaload, 1) := by decide +kernel
theorem dX6_shorten_6 : decode cX6_shorten 6 = .ok (.iconst (-1), 1) := by decide +kernel
theorem dX6_shorten_7 : decode cX6_shorten 7 = .ok (.if_icmp .eq 13, 3) := by decide +kernel
theorem dX6_shorten_10 : decode cX6_shorten 10 = .ok (.aload_n 0, 1) := by decide +kernel
theorem dX6_shorten_11 : decode cX6_shorten 11 = .ok (.getfield 9, 3) := by decide +kernel
theorem dX6_shorten_14 : decode cX6_shorten 14 = .ok (.iload_n 1, 1) := by decide +kernel
theorem dX6_shorten_15 : decode cX6_shorten 15 = .ok (.iaload, 1) := by decide +kernel
theorem dX6_shorten_16 : decode cX6_shorten 16 = .ok (.iload_n 2, 1) := by decide +kernel
theorem dX6_shorten_17 : decode cX6_shorten 17 = .ok (.if_icmp .le 10, 3) := by decide +kernel
theorem dX6_shorten_20 : decode cX6_shorten 20 = .ok (.aload_n 0, 1) := by decide +kernel
theorem dX6_shorten_21 : decode cX6_shorten 21 = .ok (.getfield 9, 3) := by decide +kernel
theorem dX6_shorten_24 : decode cX6_shorten 24 = .ok (.iload_n 1, 1) := by decide +kernel
theorem dX6_shorten_25 : decode cX6_shorten 25 = .ok (.iload_n 2, 1) := by decide +kernel
theorem dX6_shorten_26 : decode cX6_shorten 26 = .ok (.iastore, 1) := by decide +kernel
theorem dX6_shorten_27 : decode cX6_shorten 27 = .ok (.return_, 1) := by decide +kernel
theorem dX7_init_0 : decode cX7_init 0 = .ok (.aload_n 0, 1) := by decide +kernel
theorem dX7_init_1 : decode cX7_init 1 = .ok (.invokespecial 1, 3) := by decide +kernel
theorem dX7_init_4 : decode cX7_init 4 = .ok (.aload_n 0, 1) := by decide +kernel
theorem dX7_init_5 : decode cX7_init 5 = .ok (.new 7, 3) := by decide +kernel
theorem dX7_init_8 : decode cX7_init 8 = .ok (.dup, 1) := by decide +kernel
theorem dX7_init_9 : decode cX7_init 9 = .ok (.invokespecial 9, 3) := by decide +kernel
theorem dX7_init_12 : decode cX7_init 12 = .ok (.putfield 10, 3) := by decide +kernel
theorem dX7_init_15 : decode cX7_init 15 = .ok (.aload_n 0, 1) := by decide +kernel
theorem dX7_init_16 : decode cX7_init 16 = .ok (.new 16, 3) := by decide +kernel
theorem dX7_init_19 : decode cX7_init 19 = .ok (.dup, 1) := by decide +kernel
theorem dX7_init_20 : decode cX7_init 20 = .ok (.invokespecial 18, 3) := by decide +kernel
theorem dX7_init_23 : decode cX7_init 23 = .ok (.putfield 19, 3) := by decide +kernel
theorem dX7_init_26 : decode cX7_init 26 = .ok (.aload_n 0, 1) := by decide +kernel
theorem dX7_init_27 : decode cX7_init 27 = .ok (.new 23, 3) := by decide +kernel
theorem dX7_init_30 : decode cX7_init 30 = .ok (.dup, 1) := by decide +kernel
theorem dX7_init_31 : decode cX7_init 31 = .ok (.invokespecial 25, 3) := by decide +kernel
theorem dX7_init_34 : decode cX7_init 34 = .ok (.putfield 26, 3) := by decide +kernel
theorem dX7_init_37 : decode cX7_init 37 = .ok (.aload_n 0, 1) := by decide +kernel
theorem dX7_init_38 : decode cX7_init 38 = .ok (.iconst 2, 1) := by decide +kernel
theorem dX7_init_39 : decode cX7_init 39 = .ok (.anewarray 16, 3) := by decide +kernel
theorem dX7_init_42 : decode cX7_init 42 = .ok (.putfield 30, 3) := by decide +kernel
theorem dX7_init_45 : decode cX7_init 45 = .ok (.aload_n 0, 1) := by decide +kernel
theorem dX7_init_46 : decode cX7_init 46 = .ok (.iconst 2, 1) := by decide +kernel
theorem dX7_init_47 : decode cX7_init 47 = .ok (.newarray .boolean, 2) := by decide +kernel
theorem dX7_init_49 : decode cX7_init 49 = .ok (.putfield 34, 3) := by decide +kernel
theorem dX7_init_52 : decode cX7_init 52 = .ok (.aload_n 0, 1) := by decide +kernel
theorem dX7_init_53 : decode cX7_init 53 = .ok (.new 16, 3) := by decide +kernel
theorem dX7_init_56 : decode cX7_init 56 = .ok (.dup, 1) := by decide +kernel
theorem dX7_init_57 : decode cX7_init 57 = .ok (.invokespecial 18, 3) := by decide +kernel
theorem dX7_init_60 : decode cX7_init 60 = .ok (.putfield 38, 3) := by decide +kernel
theorem dX7_init_63 : decode cX7_init 63 = .ok (.aload_n 0, 1) := by decide +kernel
theorem dX7_init_64 : decode cX7_init 64 = .ok (.new 41, 3) := by decide +kernel
theorem dX7_init_67 : decode cX7_init 67 = .ok (.dup, 1) := by decide +kernel
theorem dX7_init_68 : decode cX7_init 68 = .ok (.invokespecial 43, 3) := by decide +kernel
theorem dX7_init_71 : decode cX7_init 71 = .ok (.putfield 44, 3) := by decide +kernel
theorem dX7_init_74 : decode cX7_init 74 = .ok (.aload_n 0, 1) := by decide +kernel
theorem dX7_init_75 : decode cX7_init 75 = .ok (.new 48, 3) := by decide +kernel
theorem dX7_init_78 : decode cX7_init 78 = .ok (.dup, 1) := by decide +kernel
theorem dX7_init_79 : decode cX7_init 79 = .ok (.invokespecial 50, 3) := by decide +kernel
theorem dX7_init_82 : decode cX7_init 82 = .ok (.putfield 51, 3) := by decide +kernel
theorem dX7_init_85 : decode cX7_init 85 = .ok (.aload_n 0, 1) := by decide +kernel
theorem dX7_init_86 : decode cX7_init 86 = .ok (.new 55, 3) := by decide +kernel
theorem dX7_init_89 : decode cX7_init 89 = .ok (.dup, 1) := by decide +kernel
theorem dX7_init_90 : decode cX7_init 90 = .ok (.invokespecial 57, 3) := by decide +kernel
theorem dX7_init_93 : decode cX7_init 93 = .ok (.putfield 58, 3) := by decide +kernel
theorem dX7_init_96 : decode cX7_init 96 = .ok (.iconst 0, 1) := by decide +kernel
theorem dX7_init_97 : decode cX7_init 97 = .ok (.istore_n 1, 1) := by decide +kernel
theorem dX7_init_98 : decode cX7_init 98 = .ok (.iload_n 1, 1) := by decide +kernel
theorem dX7_init_99 : decode cX7_init 99 = .ok (.iconst 2, 1) := by decide +kernel
theorem dX7_init_100 : decode cX7_init 100 = .ok (.if_icmp .ge 22, 3) := by decide +kernel
theorem dX7_init_103 : decode cX7_init 103 = .ok (.aload_n 0, 1) := by decide +kernel
theorem dX7_init_104 : decode cX7_init 104 = .ok (.getfield 30, 3) := by decide +kernel
theorem dX7_init_107 : decode cX7_init 107 = .ok (.iload_n 1, 1) := by decide +kernel
theorem dX7_init_108 : decode cX7_init 108 = .ok (.new 16, 3) := by decide +kernel
theorem dX7_init_111 : decode cX7_init 111 = .ok (.dup, 1) := by decide +kernel
theorem dX7_init_112 : decode cX7_init 112 = .ok (.invokespecial 18, 3) := by decide +kernel
theorem dX7_init_115 : decode cX7_init 115 = .ok (.aastore, 1) := by decide +kernel
theorem dX7_init_116 : decode cX7_init 116 = .ok (.iinc 1 1, 3) := by decide +kernel
theorem dX7_init_119 : decode cX7_init 119 = .ok (.goto (-21), 3) := by decide +kernel
theorem dX7_init_122 : decode cX7_init 122 = .ok (.return_, 1) := by decide +kernel
theorem dX7_append_0 : decode cX7_append 0 = .ok (.iload_n 1, 1) := by decide +kernel
theorem dX7_append_1 : decode cX7_append 1 = .ok (.iconst 0, 1) := by decide +kernel
theorem dX7_append_2 : decode cX7_append 2 = .ok (.sipush 255, 3) := by decide +kernel
theorem dX7_append_5 : decode cX7_append 5 = .ok (.invokestatic 62, 3) := by decide +kernel
theorem dX7_append_8 : decode cX7_append 8 = .ok (.invokestatic 66, 3) := by decide +kernel
theorem dX7_append_11 : decode cX7_append 11 = .ok (.aload_n 0, 1) := by decide +kernel
theorem dX7_append_12 : decode cX7_append 12 = .ok (.getfield 10, 3) := by decide +kernel
theorem dX7_append_15 : decode cX7_append 15 = .ok (.invokevirtual 70, 3) := by decide +kernel
theorem dX7_append_18 : decode cX7_append 18 = .ok (.ifCond .eq 9, 3) := by decide +kernel
theorem dX7_append_21 : decode cX7_append 21 = .ok (.getstatic 74, 3) := by decide +kernel
theorem dX7_append_24 : decode cX7_append 24 = .ok (.goto 6, 3) := by decide +kernel
theorem dX7_append_27 : decode cX7_append 27 = .ok (.getstatic 80, 3) := by decide +kernel
theorem dX7_append_30 : decode cX7_append 30 = .ok (.invokestatic 66, 3) := by decide +kernel
theorem dX7_append_33 : decode cX7_append 33 = .ok (.aload_n 0, 1) := by decide +kernel
theorem dX7_append_34 : decode cX7_append 34 = .ok (.getfield 10, 3) := by decide +kernel
theorem dX7_append_37 : decode cX7_append 37 = .ok (.iload_n 1, 1) := by decide +kernel
theorem dX7_append_38 : decode cX7_append 38 = .ok (.i2c, 1) := by decide +kernel
theorem dX7_append_39 : decode cX7_append 39 = .ok (.invokevirtual 83, 3) := by decide +kernel
theorem dX7_append_42 : decode cX7_append 42 = .ok (.ireturn, 1) := by decide +kernel
theorem dX7_clearText_0 : decode cX7_clearText 0 = .ok (.aload_n 0, 1) := by decide +kernel
theorem dX7_clearText_1 : decode cX7_clearText 1 = .ok (.getfield 10, 3) := by decide +kernel
theorem dX7_clearText_4 : decode cX7_clearText 4 = .ok (.invokevirtual 87, 3) := by decide +kernel
theorem dX7_clearText_7 : decode cX7_clearText 7 = .ok (.ireturn, 1) := by decide +kernel
theorem dX7_errorPosition_0 : decode cX7_errorPosition 0 = .ok (.aload_n 0, 1) := by decide +kernel
theorem dX7_errorPosition_1 : decode cX7_errorPosition 1 = .ok (.getfield 10, 3) := by decide +kernel
theorem dX7_errorPosition_4 : decode cX7_errorPosition 4 = .ok (.invokevirtual 91, 3) := by decide +kernel
theorem dX7_errorPosition_7 : decode cX7_errorPosition 7 = .ok (.ireturn, 1) := by decide +kernel
theorem dX7_load_0 : decode cX7_load 0 = .ok (.aload_n 0, 1) := by decide +kernel
theorem dX7_load_1 : decode cX7_load 1 = .ok (.getfield 10, 3) := by decide +kernel
theorem dX7_load_4 : decode cX7_load 4 = .ok (.invokevirtual 91, 3) := by decide +kernel
theorem dX7_load_7 : decode cX7_load 7 = .ok (.iconst (-1), 1) := by decide +kernel
theorem dX7_load_8 : decode cX7_load 8 = .ok (.if_icmp .ne 9, 3) := by decide +kernel
theorem dX7_load_11 : decode cX7_load 11 = .ok (.getstatic 80, 3) := by decide +kernel
theorem dX7_load_14 : decode cX7_load 14 = .ok (.goto 6, 3) := by decide +kernel
theorem dX7_load_17 : decode cX7_load 17 = .ok (.getstatic 74, 3) := by decide +kernel
theorem dX7_load_20 : decode cX7_load 20 = .ok (.invokestatic 66, 3) := by decide +kernel
theorem dX7_load_23 : decode cX7_load 23 = .ok (.aload_n 0, 1) := by decide +kernel
theorem dX7_load_24 : decode cX7_load 24 = .ok (.getfield 19, 3) := by decide +kernel
theorem dX7_load_27 : decode cX7_load 27 = .ok (.invokevirtual 94, 3) := by decide +kernel
theorem dX7_load_30 : decode cX7_load 30 = .ok (.aload_n 0, 1) := by decide +kernel
theorem dX7_load_31 : decode cX7_load 31 = .ok (.getfield 26, 3) := by decide +kernel
theorem dX7_load_34 : decode cX7_load 34 = .ok (.invokevirtual 96, 3) := by decide +kernel
theorem dX7_load_37 : decode cX7_load 37 = .ok (.iconst 0, 1) := by decide +kernel
theorem dX7_load_38 : decode cX7_load 38 = .ok (.istore_n 1, 1) := by decide +kernel
theorem dX7_load_39 : decode cX7_load 39 = .ok (.iload_n 1, 1) := by decide +kernel
theorem dX7_load_40 : decode cX7_load 40 = .ok (.iconst 2, 1) := by decide +kernel
theorem dX7_load_41 : decode cX7_load 41 = .ok (.if_icmp .ge 16, 3) := by decide +kernel
theorem dX7_load_44 : decode cX7_load 44 = .ok (.aload_n 0, 1) := by decide +kernel
theorem dX7_load_45 : decode cX7_load 45 = .ok (.getfield 34, 3) := by decide +kernel
theorem dX7_load_48 : decode cX7_load 48 = .ok (.iload_n 1, 1) := by decide +kernel
theorem dX7_load_49 : decode cX7_load 49 = .ok (.iconst 0, 1) := by decide +kernel
theorem dX7_load_50 : decode cX7_load 50 = .ok (.bastore, 1) := by decide +kernel
theorem dX7_load_51 : decode cX7_load 51 = .ok (.iinc 1 1, 3) := by decide +kernel
theorem dX7_load_54 : decode cX7_load 54 = .ok (.goto (-15), 3) := by decide +kernel
theorem dX7_load_57 : decode cX7_load 57 = .ok (.iconst 0, 1) := by decide +kernel
theorem dX7_load_58 : decode cX7_load 58 = .ok (.istore_n 1, 1) := by decide +kernel
theorem dX7_load_59 : decode cX7_load 59 = .ok (.iconst 1, 1) := by decide +kernel
theorem dX7_load_60 : decode cX7_load 60 = .ok (.istore_n 2, 1) := by decide +kernel
theorem dX7_load_61 : decode cX7_load 61 = .ok (.iload_n 2, 1) := by decide +kernel
theorem dX7_load_62 : decode cX7_load 62 = .ok (.aload_n 0, 1) := by decide +kernel
theorem dX7_load_63 : decode cX7_load 63 = .ok (.getfield 10, 3) := by decide +kernel
theorem dX7_load_66 : decode cX7_load 66 = .ok (.invokevirtual 99, 3) := by decide +kernel
theorem dX7_load_69 : decode cX7_load 69 = .ok (.if_icmp .ge 33, 3) := by decide +kernel
theorem dX7_load_72 : decode cX7_load 72 = .ok (.aload_n 0, 1) := by decide +kernel
theorem dX7_load_73 : decode cX7_load 73 = .ok (.iload_n 2, 1) := by decide +kernel
theorem dX7_load_74 : decode cX7_load 74 = .ok (.invokevirtual 102, 3) := by decide +kernel
theorem dX7_load_77 : decode cX7_load 77 = .ok (.ifCond .ne 6, 3) := by decide +kernel
theorem dX7_load_80 : decode cX7_load 80 = .ok (.iinc 1 1, 3) := by decide +kernel
theorem dX7_load_83 : decode cX7_load 83 = .ok (.iload_n 2, 1) := by decide +kernel
theorem dX7_load_84 : decode cX7_load 84 = .ok (.iconst 1, 1) := by decide +kernel
theorem dX7_load_85 : decode cX7_load 85 = .ok (.aload_n 0, 1) := by decide +kernel
theorem dX7_load_86 : decode cX7_load 86 = .ok (.getfield 10, 3) := by decide +kernel
theorem dX7_load_89 : decode cX7_load 89 = .ok (.iload_n 2, 1) := by decide +kernel
theorem dX7_load_90 : decode cX7_load 90 = .ok (.invokevirtual 106, 3) := by decide +kernel
theorem dX7_load_93 : decode cX7_load 93 = .ok (.invokestatic 110, 3) := by decide +kernel
theorem dX7_load_96 : decode cX7_load 96 = .ok (.iadd, 1) := by decide +kernel
theorem dX7_load_97 : decode cX7_load 97 = .ok (.iadd, 1) := by decide +kernel
theorem dX7_load_98 : decode cX7_load 98 = .ok (.istore_n 2, 1) := by decide +kernel
theorem dX7_load_99 : decode cX7_load 99 = .ok (.goto (-38), 3) := by decide +kernel
theorem dX7_load_102 : decode cX7_load 102 = .ok (.iload_n 1, 1) := by decide +kernel
theorem dX7_load_103 : decode cX7_load 103 = .ok (.ireturn, 1) := by decide +kernel
theorem dX7_about_0 : decode cX7_about 0 = .ok (.iload_n 1, 1) := by decide +kernel
theorem dX7_about_1 : decode cX7_about 1 = .ok (.iconst 0, 1) := by decide +kernel
theorem dX7_about_2 : decode cX7_about 2 = .ok (.bipush 8, 2) := by decide +kernel
theorem dX7_about_4 : decode cX7_about 4 = .ok (.invokestatic 62, 3) := by decide +kernel
theorem dX7_about_7 : decode cX7_about 7 = .ok (.invokestatic 66, 3) := by decide +kernel
theorem dX7_about_10 : decode cX7_about 10 = .ok (.iload_n 1, 1) := by decide +kernel
theorem dX7_about_11 : decode cX7_about 11 = .ok (.tableswitch 139 0 7 #[45, 53, 61, 69, 77, 97, 105, 131], 45) := by decide +kernel
theorem dX7_about_56 : decode cX7_about 56 = .ok (.aload_n 0, 1) := by decide +kernel
theorem dX7_about_57 : decode cX7_about 57 = .ok (.getfield 19, 3) := by decide +kernel
theorem dX7_about_60 : decode cX7_about 60 = .ok (.getfield 113, 3) := by decide +kernel
theorem dX7_about_63 : decode cX7_about 63 = .ok (.ireturn, 1) := by decide +kernel
theorem dX7_about_64 : decode cX7_about 64 = .ok (.aload_n 0, 1) := by decide +kernel
theorem dX7_about_65 : decode cX7_about 65 = .ok (.getfield 19, 3) := by decide +kernel
theorem dX7_about_68 : decode cX7_about 68 = .ok (.getfield 117, 3) := by decide +kernel
theorem dX7_about_71 : decode cX7_about 71 = .ok (.ireturn, 1) := by decide +kernel
theorem dX7_about_72 : decode cX7_about 72 = .ok (.aload_n 0, 1) := by decide +kernel
theorem dX7_about_73 : decode cX7_about 73 = .ok (.getfield 19, 3) := by decide +kernel
theorem dX7_about_76 : decode cX7_about 76 = .ok (.invokevirtual 120, 3) := by decide +kernel
theorem dX7_about_79 : decode cX7_about 79 = .ok (.ireturn, 1) := by decide +kernel
theorem dX7_about_80 : decode cX7_about 80 = .ok (.aload_n 0, 1) := by decide +kernel
theorem dX7_about_81 : decode cX7_about 81 = .ok (.getfield 19, 3) := by decide +kernel
theorem dX7_about_84 : decode cX7_about 84 = .ok (.invokevirtual 123, 3) := by decide +kernel
theorem dX7_about_87 : decode cX7_about 87 = .ok (.ireturn, 1) := by decide +kernel
theorem dX7_about_88 : decode cX7_about 88 = .ok (.aload_n 0, 1) := by decide +kernel
theorem dX7_about_89 : decode cX7_about 89 = .ok (.getfield 51, 3) := by decide +kernel
theorem dX7_about_92 : decode cX7_about 92 = .ok (.aload_n 0, 1) := by decide +kernel
theorem dX7_about_93 : decode cX7_about 93 = .ok (.getfield 19, 3) := by decide +kernel
theorem dX7_about_96 : decode cX7_about 96 = .ok (.invokevirtual 126, 3) := by decide +kernel
theorem dX7_about_99 : decode cX7_about 99 = .ok (.ifCond .eq 7, 3) := by decide +kernel
theorem dX7_about_102 : decode cX7_about 102 = .ok (.iconst 1, 1) := by decide +kernel
theorem dX7_about_103 : decode cX7_about 103 = .ok (.goto 4, 3) := by decide +kernel
theorem dX7_about_106 : decode cX7_about 106 = .ok (.iconst 0, 1) := by decide +kernel
theorem dX7_about_107 : decode cX7_about 107 = .ok (.ireturn, 1) := by decide +kernel
theorem dX7_about_108 : decode cX7_about 108 = .ok (.aload_n 0, 1) := by decide +kernel
theorem dX7_about_109 : decode cX7_about 109 = .ok (.getfield 19, 3) := by decide +kernel
theorem dX7_about_112 : decode cX7_about 112 = .ok (.invokevirtual 130, 3) := by decide +kernel
theorem dX7_about_115 : decode cX7_about 115 = .ok (.ireturn, 1) := by decide +kernel
theorem dX7_about_116 : decode cX7_about 116 = .ok (.aload_n 0, 1) := by decide +kernel
theorem dX7_about_117 : decode cX7_about 117 = .ok (.getfield 51, 3) := by decide +kernel
theorem dX7_about_120 : decode cX7_about 120 = .ok (.aload_n 0, 1) := by decide +kernel
theorem dX7_about_121 : decode cX7_about 121 = .ok (.getfield 19, 3) := by decide +kernel
theorem dX7_about_124 : decode cX7_about 124 = .ok (.invokevirtual 126, 3) := by decide +kernel
theorem dX7_about_127 : decode cX7_about 127 = .ok (.ifCond .eq 13, 3) := by decide +kernel
theorem dX7_about_130 : decode cX7_about 130 = .ok (.aload_n 0, 1) := by decide +kernel
theorem dX7_about_131 : decode cX7_about 131 = .ok (.getfield 51, 3) := by decide +kernel
theorem dX7_about_134 : decode cX7_about 134 = .ok (.invokevirtual 133, 3) := by decide +kernel
theorem dX7_about_137 : decode cX7_about 137 = .ok (.goto 4, 3) := by decide +kernel
theorem dX7_about_140 : decode cX7_about 140 = .ok (.iconst (-1), 1) := by decide +kernel
theorem dX7_about_141 : decode cX7_about 141 = .ok (.ireturn, 1) := by decide +kernel
theorem dX7_about_142 : decode cX7_about 142 = .ok (.aload_n 0, 1) := by decide +kernel
theorem dX7_about_143 : decode cX7_about 143 = .ok (.getfield 19, 3) := by decide +kernel
theorem dX7_about_146 : decode cX7_about 146 = .ok (.invokevirtual 136, 3) := by decide +kernel
theorem dX7_about_149 : decode cX7_about 149 = .ok (.ireturn, 1) := by decide +kernel
theorem dX7_about_150 : decode cX7_about 150 = .ok (.aload_n 0, 1) := by decide +kernel
theorem dX7_about_151 : decode cX7_about 151 = .ok (.getfield 19, 3) := by decide +kernel
theorem dX7_about_154 : decode cX7_about 154 = .ok (.invokevirtual 139, 3) := by decide +kernel
theorem dX7_about_157 : decode cX7_about 157 = .ok (.ireturn, 1) := by decide +kernel
theorem dX7_module_0 : decode cX7_module 0 = .ok (.aload_n 0, 1) := by decide +kernel
theorem dX7_module_1 : decode cX7_module 1 = .ok (.getfield 19, 3) := by decide +kernel
theorem dX7_module_4 : decode cX7_module 4 = .ok (.iload_n 1, 1) := by decide +kernel
theorem dX7_module_5 : decode cX7_module 5 = .ok (.invokevirtual 142, 3) := by decide +kernel
theorem dX7_module_8 : decode cX7_module 8 = .ok (.invokestatic 66, 3) := by decide +kernel
theorem dX7_module_11 : decode cX7_module 11 = .ok (.iload_n 2, 1) := by decide +kernel
theorem dX7_module_12 : decode cX7_module 12 = .ok (.iconst 0, 1) := by decide +kernel
theorem dX7_module_13 : decode cX7_module 13 = .ok (.iconst 5, 1) := by decide +kernel
theorem dX7_module_14 : decode cX7_module 14 = .ok (.invokestatic 62, 3) := by decide +kernel
theorem dX7_module_17 : decode cX7_module 17 = .ok (.invokestatic 66, 3) := by decide +kernel
theorem dX7_module_20 : decode cX7_module 20 = .ok (.iload_n 2, 1) := by decide +kernel
theorem dX7_module_21 : decode cX7_module 21 = .ok (.tableswitch 112 0 4 #[35, 45, 55, 65, 93], 35) := by decide +kernel
theorem dX7_module_56 : decode cX7_module 56 = .ok (.aload_n 0, 1) := by decide +kernel
theorem dX7_module_57 : decode cX7_module 57 = .ok (.getfield 19, 3) := by decide +kernel
theorem dX7_module_60 : decode cX7_module 60 = .ok (.getfield 146, 3) := by decide +kernel
theorem dX7_module_63 : decode cX7_module 63 = .ok (.iload_n 1, 1) := by decide +kernel
theorem dX7_module_64 : decode cX7_module 64 = .ok (.iaload, 1) := by decide +kernel
theorem dX7_module_65 : decode cX7_module 65 = .ok (.ireturn, 1) := by decide +kernel
theorem dX7_module_66 : decode cX7_module 66 = .ok (.aload_n 0, 1) := by decide +kernel
theorem dX7_module_67 : decode cX7_module 67 = .ok (.getfield 19, 3) := by decide +kernel
theorem dX7_module_70 : decode cX7_module 70 = .ok (.getfield 150, 3) := by decide +kernel
theorem dX7_module_73 : decode cX7_module 73 = .ok (.iload_n 1, 1) := by decide +kernel
theorem dX7_module_74 : decode cX7_module 74 = .ok (.iaload, 1) := by decide +kernel
theorem dX7_module_75 : decode cX7_module 75 = .ok (.ireturn, 1) := by decide +kernel
theorem dX7_module_76 : decode cX7_module 76 = .ok (.aload_n 0, 1) := by decide +kernel
theorem dX7_module_77 : decode cX7_module 77 = .ok (.getfield 19, 3) := by decide +kernel
theorem dX7_module_80 : decode cX7_module 80 = .ok (.getfield 153, 3) := by decide +kernel
theorem dX7_module_83 : decode cX7_module 83 = .ok (.iload_n 1, 1) := by decide +kernel
theorem dX7_module_84 : decode cX7_module 84 = .ok (.iaload, 1) := by decide +kernel
theorem dX7_module_85 : decode cX7_module 85 = .ok (.ireturn, 1) := by decide +kernel
theorem dX7_module_86 : decode cX7_module 86 = .ok (.aload_n 0, 1) := by decide +kernel
theorem dX7_module_87 : decode cX7_module 87 = .ok (.getfield 51, 3) := by decide +kernel
theorem dX7_module_90 : decode cX7_module 90 = .ok (.aload_n 0, 1) := by decide +kernel
theorem dX7_module_91 : decode cX7_module 91 = .ok (.getfield 19, 3) := by decide +kernel
theorem dX7_module_94 : decode cX7_module 94 = .ok (.invokevirtual 126, 3) := by decide +kernel
theorem dX7_module_97 : decode cX7_module 97 = .ok (.ifCond .eq 15, 3) := by decide +kernel
theorem dX7_module_100 : decode cX7_module 100 = .ok (.aload_n 0, 1) := by decide +kernel
theorem dX7_module_101 : decode cX7_module 101 = .ok (.getfield 51, 3) := by decide +kernel
theorem dX7_module_104 : decode cX7_module 104 = .ok (.getfield 156, 3) := by decide +kernel
theorem dX7_module_107 : decode cX7_module 107 = .ok (.iload_n 1, 1) := by decide +kernel
theorem dX7_module_108 : decode cX7_module 108 = .ok (.iaload, 1) := by decide +kernel
theorem dX7_module_109 : decode cX7_module 109 = .ok (.goto 4, 3) := by decide +kernel
theorem dX7_module_112 : decode cX7_module 112 = .ok (.iconst (-1), 1) := by decide +kernel
theorem dX7_module_113 : decode cX7_module 113 = .ok (.ireturn, 1) := by decide +kernel
theorem dX7_module_114 : decode cX7_module 114 = .ok (.aload_n 0, 1) := by decide +kernel
theorem dX7_module_115 : decode cX7_module 115 = .ok (.getfield 19, 3) := by decide +kernel
theorem dX7_module_118 : decode cX7_module 118 = .ok (.getfield 159, 3) := by decide +kernel
theorem dX7_module_121 : decode cX7_module 121 = .ok (.aload_n 0, 1) := by decide +kernel
theorem dX7_module_122 : decode cX7_module 122 = .ok (.getfield 19, 3) := by decide +kernel
theorem dX7_module_125 : decode cX7_module 125 = .ok (.getfield 117, 3) := by decide +kernel
theorem dX7_module_128 : decode cX7_module 128 = .ok (.iload_n 1, 1) := by decide +kernel
theorem dX7_module_129 : decode cX7_module 129 = .ok (.invokestatic 162, 3) := by decide +kernel
theorem dX7_module_132 : decode cX7_module 132 = .ok (.ireturn, 1) := by decide +kernel
theorem dX7_module_133 : decode cX7_module 133 = .ok (.aload_n 0, 1) := by decide +kernel
theorem dX7_module_134 : decode cX7_module 134 = .ok (.getfield 19, 3) := by decide +kernel
theorem dX7_module_137 : decode cX7_module 137 = .ok (.getfield 166, 3) := by decide +kernel
theorem dX7_module_140 : decode cX7_module 140 = .ok (.aload_n 0, 1) := by decide +kernel
theorem dX7_module_141 : decode cX7_module 141 = .ok (.getfield 19, 3) := by decide +kernel
theorem dX7_module_144 : decode cX7_module 144 = .ok (.getfield 117, 3) := by decide +kernel
theorem dX7_module_147 : decode cX7_module 147 = .ok (.iload_n 1, 1) := by decide +kernel
theorem dX7_module_148 : decode cX7_module 148 = .ok (.invokestatic 162, 3) := by decide +kernel
theorem dX7_module_151 : decode cX7_module 151 = .ok (.ireturn, 1) := by decide +kernel
theorem dX7_wire_0 : decode cX7_wire 0 = .ok (.aload_n 0, 1) := by decide +kernel
theorem dX7_wire_1 : decode cX7_wire 1 = .ok (.getfield 19, 3) := by decide +kernel
theorem dX7_wire_4 : decode cX7_wire 4 = .ok (.iload_n 1, 1) := by decide +kernel
theorem dX7_wire_5 : decode cX7_wire 5 = .ok (.invokevirtual 169, 3) := by decide +kernel
theorem dX7_wire_8 : decode cX7_wire 8 = .ok (.invokestatic 66, 3) := by decide +kernel
theorem dX7_wire_11 : decode cX7_wire 11 = .ok (.iload_n 2, 1) := by decide +kernel
theorem dX7_wire_12 : decode cX7_wire 12 = .ok (.iconst 0, 1) := by decide +kernel
theorem dX7_wire_13 : decode cX7_wire 13 = .ok (.iconst 4, 1) := by decide +kernel
theorem dX7_wire_14 : decode cX7_wire 14 = .ok (.invokestatic 62, 3) := by decide +kernel
theorem dX7_wire_17 : decode cX7_wire 17 = .ok (.invokestatic 66, 3) := by decide +kernel
theorem dX7_wire_20 : decode cX7_wire 20 = .ok (.iload_n 2, 1) := by decide +kernel
theorem dX7_wire_21 : decode cX7_wire 21 = .ok (.tableswitch 71 0 3 #[31, 41, 51, 61], 31) := by decide +kernel
theorem dX7_wire_52 : decode cX7_wire 52 = .ok (.aload_n 0, 1) := by decide +kernel
theorem dX7_wire_53 : decode cX7_wire 53 = .ok (.getfield 19, 3) := by decide +kernel
theorem dX7_wire_56 : decode cX7_wire 56 = .ok (.getfield 166, 3) := by decide +kernel
theorem dX7_wire_59 : decode cX7_wire 59 = .ok (.iload_n 1, 1) := by decide +kernel
theorem dX7_wire_60 : decode cX7_wire 60 = .ok (.iaload, 1) := by decide +kernel
theorem dX7_wire_61 : decode cX7_wire 61 = .ok (.ireturn, 1) := by decide +kernel
theorem dX7_wire_62 : decode cX7_wire 62 = .ok (.aload_n 0, 1) := by decide +kernel
theorem dX7_wire_63 : decode cX7_wire 63 = .ok (.getfield 19, 3) := by decide +kernel
theorem dX7_wire_66 : decode cX7_wire 66 = .ok (.getfield 159, 3) := by decide +kernel
theorem dX7_wire_69 : decode cX7_wire 69 = .ok (.iload_n 1, 1) := by decide +kernel
theorem dX7_wire_70 : decode cX7_wire 70 = .ok (.iaload, 1) := by decide +kernel
theorem dX7_wire_71 : decode cX7_wire 71 = .ok (.ireturn, 1) := by decide +kernel
theorem dX7_wire_72 : decode cX7_wire 72 = .ok (.aload_n 0, 1) := by decide +kernel
theorem dX7_wire_73 : decode cX7_wire 73 = .ok (.getfield 19, 3) := by decide +kernel
theorem dX7_wire_76 : decode cX7_wire 76 = .ok (.getfield 172, 3) := by decide +kernel
theorem dX7_wire_79 : decode cX7_wire 79 = .ok (.iload_n 1, 1) := by decide +kernel
theorem dX7_wire_80 : decode cX7_wire 80 = .ok (.iaload, 1) := by decide +kernel
theorem dX7_wire_81 : decode cX7_wire 81 = .ok (.ireturn, 1) := by decide +kernel
theorem dX7_wire_82 : decode cX7_wire 82 = .ok (.aload_n 0, 1) := by decide +kernel
theorem dX7_wire_83 : decode cX7_wire 83 = .ok (.getfield 19, 3) := by decide +kernel
theorem dX7_wire_86 : decode cX7_wire 86 = .ok (.getfield 175, 3) := by decide +kernel
theorem dX7_wire_89 : decode cX7_wire 89 = .ok (.iload_n 1, 1) := by decide +kernel
theorem dX7_wire_90 : decode cX7_wire 90 = .ok (.iaload, 1) := by decide +kernel
theorem dX7_wire_91 : decode cX7_wire 91 = .ok (.ireturn, 1) := by decide +kernel
theorem dX7_wire_92 : decode cX7_wire 92 = .ok (.aload_n 0, 1) := by decide +kernel
theorem dX7_wire_93 : decode cX7_wire 93 = .ok (.getfield 19, 3) := by decide +kernel
theorem dX7_wire_96 : decode cX7_wire 96 = .ok (.getfield 178, 3) := by decide +kernel
theorem dX7_wire_99 : decode cX7_wire 99 = .ok (.iload_n 1, 1) := by decide +kernel
theorem dX7_wire_100 : decode cX7_wire 100 = .ok (.iaload, 1) := by decide +kernel
theorem dX7_wire_101 : decode cX7_wire 101 = .ok (.ireturn, 1) := by decide +kernel
theorem dX7_between_0 : decode cX7_between 0 = .ok (.aload_n 0, 1) := by decide +kernel
theorem dX7_between_1 : decode cX7_between 1 = .ok (.getfield 19, 3) := by decide +kernel
theorem dX7_between_4 : decode cX7_between 4 = .ok (.iload_n 1, 1) := by decide +kernel
theorem dX7_between_5 : decode cX7_between 5 = .ok (.invokevirtual 142, 3) := by decide +kernel
theorem dX7_between_8 : decode cX7_between 8 = .ok (.invokestatic 66, 3) := by decide +kernel
theorem dX7_between_11 : decode cX7_between 11 = .ok (.aload_n 0, 1) := by decide +kernel
theorem dX7_between_12 : decode cX7_between 12 = .ok (.getfield 19, 3) := by decide +kernel
theorem dX7_between_15 : decode cX7_between 15 = .ok (.iload_n 2, 1) := by decide +kernel
theorem dX7_between_16 : decode cX7_between 16 = .ok (.invokevirtual 142, 3) := by decide +kernel
theorem dX7_between_19 : decode cX7_between 19 = .ok (.invokestatic 66, 3) := by decide +kernel
theorem dX7_between_22 : decode cX7_between 22 = .ok (.aload_n 0, 1) := by decide +kernel
theorem dX7_between_23 : decode cX7_between 23 = .ok (.getfield 58, 3) := by decide +kernel
theorem dX7_between_26 : decode cX7_between 26 = .ok (.aload_n 0, 1) := by decide +kernel
theorem dX7_between_27 : decode cX7_between 27 = .ok (.getfield 19, 3) := by decide +kernel
theorem dX7_between_30 : decode cX7_between 30 = .ok (.iload_n 1, 1) := by decide +kernel
theorem dX7_between_31 : decode cX7_between 31 = .ok (.iload_n 2, 1) := by decide +kernel
theorem dX7_between_32 : decode cX7_between 32 = .ok (.invokevirtual 181, 3) := by decide +kernel
theorem dX7_between_35 : decode cX7_between 35 = .ok (.ireturn, 1) := by decide +kernel
theorem dX7_addModule_0 : decode cX7_addModule 0 = .ok (.aload_n 0, 1) := by decide +kernel
theorem dX7_addModule_1 : decode cX7_addModule 1 = .ok (.getfield 19, 3) := by decide +kernel
theorem dX7_addModule_4 : decode cX7_addModule 4 = .ok (.iload_n 1, 1) := by decide +kernel
theorem dX7_addModule_5 : decode cX7_addModule 5 = .ok (.iload_n 2, 1) := by decide +kernel
theorem dX7_addModule_6 : decode cX7_addModule 6 = .ok (.invokevirtual 185, 3) := by decide +kernel
theorem dX7_addModule_9 : decode cX7_addModule 9 = .ok (.invokestatic 66, 3) := by decide +kernel
theorem dX7_addModule_12 : decode cX7_addModule 12 = .ok (.aload_n 0, 1) := by decide +kernel
theorem dX7_addModule_13 : decode cX7_addModule 13 = .ok (.getfield 26, 3) := by decide +kernel
theorem dX7_addModule_16 : decode cX7_addModule 16 = .ok (.aload_n 0, 1) := by decide +kernel
theorem dX7_addModule_17 : decode cX7_addModule 17 = .ok (.getfield 19, 3) := by decide +kernel
theorem dX7_addModule_20 : decode cX7_addModule 20 = .ok (.invokevirtual 189, 3) := by decide +kernel
theorem dX7_addModule_23 : decode cX7_addModule 23 = .ok (.aload_n 0, 1) := by decide +kernel
theorem dX7_addModule_24 : decode cX7_addModule 24 = .ok (.getfield 19, 3) := by decide +kernel
theorem dX7_addModule_27 : decode cX7_addModule 27 = .ok (.iload_n 1, 1) := by decide +kernel
theorem dX7_addModule_28 : decode cX7_addModule 28 = .ok (.iload_n 2, 1) := by decide +kernel
theorem dX7_addModule_29 : decode cX7_addModule 29 = .ok (.invokevirtual 193, 3) := by decide +kernel
theorem dX7_addModule_32 : decode cX7_addModule 32 = .ok (.ireturn, 1) := by decide +kernel
theorem dX7_lay_0 : decode cX7_lay 0 = .ok (.aload_n 0, 1) := by decide +kernel
theorem dX7_lay_1 : decode cX7_lay 1 = .ok (.getfield 19, 3) := by decide +kernel
theorem dX7_lay_4 : decode cX7_lay 4 = .ok (.iload_n 1, 1) := by decide +kernel
theorem dX7_lay_5 : decode cX7_lay 5 = .ok (.iload_n 2, 1) := by decide +kernel
theorem dX7_lay_6 : decode cX7_lay 6 = .ok (.iload_n 3, 1) := by decide +kernel
theorem dX7_lay_7 : decode cX7_lay 7 = .ok (.iload 4, 2) := by decide +kernel
theorem dX7_lay_9 : decode cX7_lay 9 = .ok (.iload 5, 2) := by decide +kernel
theorem dX7_lay_11 : decode cX7_lay 11 = .ok (.invokevirtual 197, 3) := by decide +kernel
theorem dX7_lay_14 : decode cX7_lay 14 = .ok (.invokestatic 66, 3) := by decide +kernel
theorem dX7_lay_17 : decode cX7_lay 17 = .ok (.aload_n 0, 1) := by decide +kernel
theorem dX7_lay_18 : decode cX7_lay 18 = .ok (.getfield 26, 3) := by decide +kernel
theorem dX7_lay_21 : decode cX7_lay 21 = .ok (.aload_n 0, 1) := by decide +kernel
theorem dX7_lay_22 : decode cX7_lay 22 = .ok (.getfield 19, 3) := by decide +kernel
theorem dX7_lay_25 : decode cX7_lay 25 = .ok (.invokevirtual 189, 3) := by decide +kernel
theorem dX7_lay_28 : decode cX7_lay 28 = .ok (.aload_n 0, 1) := by decide +kernel
theorem dX7_lay_29 : decode cX7_lay 29 = .ok (.getfield 19, 3) := by decide +kernel
theorem dX7_lay_32 : decode cX7_lay 32 = .ok (.iload_n 1, 1) := by decide +kernel
theorem dX7_lay_33 : decode cX7_lay 33 = .ok (.iload_n 2, 1) := by decide +kernel
theorem dX7_lay_34 : decode cX7_lay 34 = .ok (.iload_n 3, 1) := by decide +kernel
theorem dX7_lay_35 : decode cX7_lay 35 = .ok (.iload 4, 2) := by decide +kernel
theorem dX7_lay_37 : decode cX7_lay 37 = .ok (.iload 5, 2) := by decide +kernel
theorem dX7_lay_39 : decode cX7_lay 39 = .ok (.invokevirtual 201, 3) := by decide +kernel
theorem dX7_lay_42 : decode cX7_lay 42 = .ok (.ireturn, 1) := by decide +kernel
theorem dX7_cut_0 : decode cX7_cut 0 = .ok (.aload_n 0, 1) := by decide +kernel
theorem dX7_cut_1 : decode cX7_cut 1 = .ok (.getfield 19, 3) := by decide +kernel
theorem dX7_cut_4 : decode cX7_cut 4 = .ok (.iload_n 1, 1) := by decide +kernel
theorem dX7_cut_5 : decode cX7_cut 5 = .ok (.invokevirtual 169, 3) := by decide +kernel
theorem dX7_cut_8 : decode cX7_cut 8 = .ok (.invokestatic 66, 3) := by decide +kernel
theorem dX7_cut_11 : decode cX7_cut 11 = .ok (.aload_n 0, 1) := by decide +kernel
theorem dX7_cut_12 : decode cX7_cut 12 = .ok (.getfield 26, 3) := by decide +kernel
theorem dX7_cut_15 : decode cX7_cut 15 = .ok (.aload_n 0, 1) := by decide +kernel
theorem dX7_cut_16 : decode cX7_cut 16 = .ok (.getfield 19, 3) := by decide +kernel
theorem dX7_cut_19 : decode cX7_cut 19 = .ok (.invokevirtual 189, 3) := by decide +kernel
theorem dX7_cut_22 : decode cX7_cut 22 = .ok (.aload_n 0, 1) := by decide +kernel
theorem dX7_cut_23 : decode cX7_cut 23 = .ok (.getfield 19, 3) := by decide +kernel
theorem dX7_cut_26 : decode cX7_cut 26 = .ok (.iload_n 1, 1) := by decide +kernel
theorem dX7_cut_27 : decode cX7_cut 27 = .ok (.invokevirtual 205, 3) := by decide +kernel
theorem dX7_cut_30 : decode cX7_cut 30 = .ok (.ireturn, 1) := by decide +kernel
theorem dX7_put_0 : decode cX7_put 0 = .ok (.aload_n 0, 1) := by decide +kernel
theorem dX7_put_1 : decode cX7_put 1 = .ok (.getfield 19, 3) := by decide +kernel
theorem dX7_put_4 : decode cX7_put 4 = .ok (.iload_n 1, 1) := by decide +kernel
theorem dX7_put_5 : decode cX7_put 5 = .ok (.iload_n 2, 1) := by decide +kernel
theorem dX7_put_6 : decode cX7_put 6 = .ok (.invokevirtual 209, 3) := by decide +kernel
theorem dX7_put_9 : decode cX7_put 9 = .ok (.invokestatic 66, 3) := by decide +kernel
theorem dX7_put_12 : decode cX7_put 12 = .ok (.aload_n 0, 1) := by decide +kernel
theorem dX7_put_13 : decode cX7_put 13 = .ok (.getfield 26, 3) := by decide +kernel
theorem dX7_put_16 : decode cX7_put 16 = .ok (.aload_n 0, 1) := by decide +kernel
theorem dX7_put_17 : decode cX7_put 17 = .ok (.getfield 19, 3) := by decide +kernel
theorem dX7_put_20 : decode cX7_put 20 = .ok (.invokevirtual 189, 3) := by decide +kernel
theorem dX7_put_23 : decode cX7_put 23 = .ok (.aload_n 0, 1) := by decide +kernel
theorem dX7_put_24 : decode cX7_put 24 = .ok (.getfield 19, 3) := by decide +kernel
theorem dX7_put_27 : decode cX7_put 27 = .ok (.iload_n 1, 1) := by decide +kernel
theorem dX7_put_28 : decode cX7_put 28 = .ok (.iload_n 2, 1) := by decide +kernel
theorem dX7_put_29 : decode cX7_put 29 = .ok (.invokevirtual 212, 3) := by decide +kernel
theorem dX7_put_32 : decode cX7_put 32 = .ok (.ireturn, 1) := by decide +kernel
theorem dX7_work_0 : decode cX7_work 0 = .ok (.aload_n 0, 1) := by decide +kernel
theorem dX7_work_1 : decode cX7_work 1 = .ok (.getfield 19, 3) := by decide +kernel
theorem dX7_work_4 : decode cX7_work 4 = .ok (.iload_n 1, 1) := by decide +kernel
theorem dX7_work_5 : decode cX7_work 5 = .ok (.invokevirtual 215, 3) := by decide +kernel
theorem dX7_work_8 : decode cX7_work 8 = .ok (.invokestatic 66, 3) := by decide +kernel
theorem dX7_work_11 : decode cX7_work 11 = .ok (.aload_n 0, 1) := by decide +kernel
theorem dX7_work_12 : decode cX7_work 12 = .ok (.getfield 26, 3) := by decide +kernel
theorem dX7_work_15 : decode cX7_work 15 = .ok (.aload_n 0, 1) := by decide +kernel
theorem dX7_work_16 : decode cX7_work 16 = .ok (.getfield 19, 3) := by decide +kernel
theorem dX7_work_19 : decode cX7_work 19 = .ok (.invokevirtual 189, 3) := by decide +kernel
theorem dX7_work_22 : decode cX7_work 22 = .ok (.aload_n 0, 1) := by decide +kernel
theorem dX7_work_23 : decode cX7_work 23 = .ok (.getfield 19, 3) := by decide +kernel
theorem dX7_work_26 : decode cX7_work 26 = .ok (.iload_n 1, 1) := by decide +kernel
theorem dX7_work_27 : decode cX7_work 27 = .ok (.invokevirtual 218, 3) := by decide +kernel
theorem dX7_work_30 : decode cX7_work 30 = .ok (.aload_n 0, 1) := by decide +kernel
theorem dX7_work_31 : decode cX7_work 31 = .ok (.getfield 19, 3) := by decide +kernel
theorem dX7_work_34 : decode cX7_work 34 = .ok (.invokevirtual 120, 3) := by decide +kernel
theorem dX7_work_37 : decode cX7_work 37 = .ok (.ireturn, 1) := by decide +kernel
theorem dX7_round_0 : decode cX7_round 0 = .ok (.iload_n 1, 1) := by decide +kernel
theorem dX7_round_1 : decode cX7_round 1 = .ok (.invokestatic 222, 3) := by decide +kernel
theorem dX7_round_4 : decode cX7_round 4 = .ok (.invokestatic 66, 3) := by decide +kernel
theorem dX7_round_7 : decode cX7_round 7 = .ok (.aload_n 0, 1) := by decide +kernel
theorem dX7_round_8 : decode cX7_round 8 = .ok (.getfield 44, 3) := by decide +kernel
theorem dX7_round_11 : decode cX7_round 11 = .ok (.aload_n 0, 1) := by decide +kernel
theorem dX7_round_12 : decode cX7_round 12 = .ok (.getfield 19, 3) := by decide +kernel
theorem dX7_round_15 : decode cX7_round 15 = .ok (.iload_n 1, 1) := by decide +kernel
theorem dX7_round_16 : decode cX7_round 16 = .ok (.invokevirtual 225, 3) := by decide +kernel
theorem dX7_round_19 : decode cX7_round 19 = .ok (.aload_n 0, 1) := by decide +kernel
theorem dX7_round_20 : decode cX7_round 20 = .ok (.getfield 44, 3) := by decide +kernel
theorem dX7_round_23 : decode cX7_round 23 = .ok (.invokevirtual 229, 3) := by decide +kernel
theorem dX7_round_26 : decode cX7_round 26 = .ok (.ifCond .eq 9, 3) := by decide +kernel
theorem dX7_round_29 : decode cX7_round 29 = .ok (.getstatic 80, 3) := by decide +kernel
theorem dX7_round_32 : decode cX7_round 32 = .ok (.goto 6, 3) := by decide +kernel
theorem dX7_round_35 : decode cX7_round 35 = .ok (.getstatic 74, 3) := by decide +kernel
theorem dX7_round_38 : decode cX7_round 38 = .ok (.invokestatic 66, 3) := by decide +kernel
theorem dX7_round_41 : decode cX7_round 41 = .ok (.aload_n 0, 1) := by decide +kernel
theorem dX7_round_42 : decode cX7_round 42 = .ok (.getfield 26, 3) := by decide +kernel
theorem dX7_round_45 : decode cX7_round 45 = .ok (.aload_n 0, 1) := by decide +kernel
theorem dX7_round_46 : decode cX7_round 46 = .ok (.getfield 19, 3) := by decide +kernel
theorem dX7_round_49 : decode cX7_round 49 = .ok (.invokevirtual 189, 3) := by decide +kernel
theorem dX7_round_52 : decode cX7_round 52 = .ok (.aload_n 0, 1) := by decide +kernel
theorem dX7_round_53 : decode cX7_round 53 = .ok (.getfield 44, 3) := by decide +kernel
theorem dX7_round_56 : decode cX7_round 56 = .ok (.aload_n 0, 1) := by decide +kernel
theorem dX7_round_57 : decode cX7_round 57 = .ok (.getfield 19, 3) := by decide +kernel
theorem dX7_round_60 : decode cX7_round 60 = .ok (.invokevirtual 232, 3) := by decide +kernel
theorem dX7_round_63 : decode cX7_round 63 = .ok (.ireturn, 1) := by decide +kernel
theorem dX7_undo_0 : decode cX7_undo 0 = .ok (.aload_n 0, 1) := by decide +kernel
theorem dX7_undo_1 : decode cX7_undo 1 = .ok (.getfield 26, 3) := by decide +kernel
theorem dX7_undo_4 : decode cX7_undo 4 = .ok (.invokevirtual 236, 3) := by decide +kernel
theorem dX7_undo_7 : decode cX7_undo 7 = .ok (.ifCond .eq 9, 3) := by decide +kernel
theorem dX7_undo_10 : decode cX7_undo 10 = .ok (.getstatic 74, 3) := by decide +kernel
theorem dX7_undo_13 : decode cX7_undo 13 = .ok (.goto 6, 3) := by decide +kernel
theorem dX7_undo_16 : decode cX7_undo 16 = .ok (.getstatic 80, 3) := by decide +kernel
theorem dX7_undo_19 : decode cX7_undo 19 = .ok (.invokestatic 66, 3) := by decide +kernel
theorem dX7_undo_22 : decode cX7_undo 22 = .ok (.aload_n 0, 1) := by decide +kernel
theorem dX7_undo_23 : decode cX7_undo 23 = .ok (.getfield 26, 3) := by decide +kernel
theorem dX7_undo_26 : decode cX7_undo 26 = .ok (.aload_n 0, 1) := by decide +kernel
theorem dX7_undo_27 : decode cX7_undo 27 = .ok (.getfield 19, 3) := by decide +kernel
theorem dX7_undo_30 : decode cX7_undo 30 = .ok (.invokevirtual 239, 3) := by decide +kernel
theorem dX7_undo_33 : decode cX7_undo 33 = .ok (.ireturn, 1) := by decide +kernel
theorem dX7_order_0 : decode cX7_order 0 = .ok (.iload_n 1, 1) := by decide +kernel
theorem dX7_order_1 : decode cX7_order 1 = .ok (.invokestatic 222, 3) := by decide +kernel
theorem dX7_order_4 : decode cX7_order 4 = .ok (.invokestatic 66, 3) := by decide +kernel
theorem dX7_order_7 : decode cX7_order 7 = .ok (.iload_n 2, 1) := by decide +kernel
theorem dX7_order_8 : decode cX7_order 8 = .ok (.ifCond .ge 9, 3) := by decide +kernel
theorem dX7_order_11 : decode cX7_order 11 = .ok (.getstatic 242, 3) := by decide +kernel
theorem dX7_order_14 : decode cX7_order 14 = .ok (.goto 6, 3) := by decide +kernel
theorem dX7_order_17 : decode cX7_order 17 = .ok (.getstatic 80, 3) := by decide +kernel
theorem dX7_order_20 : decode cX7_order 20 = .ok (.invokestatic 66, 3) := by decide +kernel
theorem dX7_order_23 : decode cX7_order 23 = .ok (.aload_n 0, 1) := by decide +kernel
theorem dX7_order_24 : decode cX7_order 24 = .ok (.getfield 44, 3) := by decide +kernel
theorem dX7_order_27 : decode cX7_order 27 = .ok (.aload_n 0, 1) := by decide +kernel
theorem dX7_order_28 : decode cX7_order 28 = .ok (.getfield 19, 3) := by decide +kernel
theorem dX7_order_31 : decode cX7_order 31 = .ok (.iload_n 1, 1) := by decide +kernel
theorem dX7_order_32 : decode cX7_order 32 = .ok (.invokevirtual 225, 3) := by decide +kernel
theorem dX7_order_35 : decode cX7_order 35 = .ok (.aload_n 0, 1) := by decide +kernel
theorem dX7_order_36 : decode cX7_order 36 = .ok (.getfield 44, 3) := by decide +kernel
theorem dX7_order_39 : decode cX7_order 39 = .ok (.iload_n 2, 1) := by decide +kernel
theorem dX7_order_40 : decode cX7_order 40 = .ok (.invokevirtual 245, 3) := by decide +kernel
theorem dX7_order_43 : decode cX7_order 43 = .ok (.ireturn, 1) := by decide +kernel
theorem dX7_sticks_0 : decode cX7_sticks 0 = .ok (.iload_n 1, 1) := by decide +kernel
theorem dX7_sticks_1 : decode cX7_sticks 1 = .ok (.invokestatic 222, 3) := by decide +kernel
theorem dX7_sticks_4 : decode cX7_sticks 4 = .ok (.invokestatic 66, 3) := by decide +kernel
theorem dX7_sticks_7 : decode cX7_sticks 7 = .ok (.aload_n 0, 1) := by decide +kernel
theorem dX7_sticks_8 : decode cX7_sticks 8 = .ok (.getfield 44, 3) := by decide +kernel
theorem dX7_sticks_11 : decode cX7_sticks 11 = .ok (.aload_n 0, 1) := by decide +kernel
theorem dX7_sticks_12 : decode cX7_sticks 12 = .ok (.getfield 19, 3) := by decide +kernel
theorem dX7_sticks_15 : decode cX7_sticks 15 = .ok (.iload_n 1, 1) := by decide +kernel
theorem dX7_sticks_16 : decode cX7_sticks 16 = .ok (.invokevirtual 225, 3) := by decide +kernel
theorem dX7_sticks_19 : decode cX7_sticks 19 = .ok (.aload_n 0, 1) := by decide +kernel
theorem dX7_sticks_20 : decode cX7_sticks 20 = .ok (.getfield 44, 3) := by decide +kernel
theorem dX7_sticks_23 : decode cX7_sticks 23 = .ok (.getfield 248, 3) := by decide +kernel
theorem dX7_sticks_26 : decode cX7_sticks 26 = .ok (.ifCond .eq 23, 3) := by decide +kernel
theorem dX7_sticks_29 : decode cX7_sticks 29 = .ok (.aload_n 0, 1) := by decide +kernel
theorem dX7_sticks_30 : decode cX7_sticks 30 = .ok (.getfield 44, 3) := by decide +kernel
theorem dX7_sticks_33 : decode cX7_sticks 33 = .ok (.invokevirtual 229, 3) := by decide +kernel
theorem dX7_sticks_36 : decode cX7_sticks 36 = .ok (.ifCond .ne 13, 3) := by decide +kernel
theorem dX7_sticks_39 : decode cX7_sticks 39 = .ok (.aload_n 0, 1) := by decide +kernel
theorem dX7_sticks_40 : decode cX7_sticks 40 = .ok (.getfield 44, 3) := by decide +kernel
theorem dX7_sticks_43 : decode cX7_sticks 43 = .ok (.getfield 252, 3) := by decide +kernel
theorem dX7_sticks_46 : decode cX7_sticks 46 = .ok (.goto 4, 3) := by decide +kernel
theorem dX7_sticks_49 : decode cX7_sticks 49 = .ok (.iconst (-1), 1) := by decide +kernel
theorem dX7_sticks_50 : decode cX7_sticks 50 = .ok (.ireturn, 1) := by decide +kernel
theorem dX7_holds_0 : decode cX7_holds 0 = .ok (.aload_n 0, 1) := by decide +kernel
theorem dX7_holds_1 : decode cX7_holds 1 = .ok (.getfield 19, 3) := by decide +kernel
theorem dX7_holds_4 : decode cX7_holds 4 = .ok (.iload_n 1, 1) := by decide +kernel
theorem dX7_holds_5 : decode cX7_holds 5 = .ok (.invokevirtual 169, 3) := by decide +kernel
theorem dX7_holds_8 : decode cX7_holds 8 = .ok (.invokestatic 66, 3) := by decide +kernel
theorem dX7_holds_11 : decode cX7_holds 11 = .ok (.iload_n 2, 1) := by decide +kernel
theorem dX7_holds_12 : decode cX7_holds 12 = .ok (.invokestatic 222, 3) := by decide +kernel
theorem dX7_holds_15 : decode cX7_holds 15 = .ok (.invokestatic 66, 3) := by decide +kernel
theorem dX7_holds_18 : decode cX7_holds 18 = .ok (.aload_n 0, 1) := by decide +kernel
theorem dX7_holds_19 : decode cX7_holds 19 = .ok (.getfield 44, 3) := by decide +kernel
theorem dX7_holds_22 : decode cX7_holds 22 = .ok (.aload_n 0, 1) := by decide +kernel
theorem dX7_holds_23 : decode cX7_holds 23 = .ok (.getfield 19, 3) := by decide +kernel
theorem dX7_holds_26 : decode cX7_holds 26 = .ok (.iload_n 2, 1) := by decide +kernel
theorem dX7_holds_27 : decode cX7_holds 27 = .ok (.invokevirtual 225, 3) := by decide +kernel
theorem dX7_holds_30 : decode cX7_holds 30 = .ok (.aload_n 0, 1) := by decide +kernel
theorem dX7_holds_31 : decode cX7_holds 31 = .ok (.getfield 44, 3) := by decide +kernel
theorem dX7_holds_34 : decode cX7_holds 34 = .ok (.getfield 248, 3) := by decide +kernel
theorem dX7_holds_37 : decode cX7_holds 37 = .ok (.ifCond .eq 15, 3) := by decide +kernel
theorem dX7_holds_40 : decode cX7_holds 40 = .ok (.aload_n 0, 1) := by decide +kernel
theorem dX7_holds_41 : decode cX7_holds 41 = .ok (.getfield 44, 3) := by decide +kernel
theorem dX7_holds_44 : decode cX7_holds 44 = .ok (.getfield 255, 3) := by decide +kernel
theorem dX7_holds_47 : decode cX7_holds 47 = .ok (.iload_n 1, 1) := by decide +kernel
theorem dX7_holds_48 : decode cX7_holds 48 = .ok (.iaload, 1) := by decide +kernel
theorem dX7_holds_49 : decode cX7_holds 49 = .ok (.goto 4, 3) := by decide +kernel
theorem dX7_holds_52 : decode cX7_holds 52 = .ok (.iconst (-1), 1) := by decide +kernel
theorem dX7_holds_53 : decode cX7_holds 53 = .ok (.ireturn, 1) := by decide +kernel
theorem dX7_bestRule_0 : decode cX7_bestRule 0 = .ok (.iconst (-1), 1) := by decide +kernel
theorem dX7_bestRule_1 : decode cX7_bestRule 1 = .ok (.istore_n 1, 1) := by decide +kernel
theorem dX7_bestRule_2 : decode cX7_bestRule 2 = .ok (.iconst 0, 1) := by decide +kernel
theorem dX7_bestRule_3 : decode cX7_bestRule 3 = .ok (.istore_n 2, 1) := by decide +kernel
theorem dX7_bestRule_4 : decode cX7_bestRule 4 = .ok (.iconst 0, 1) := by decide +kernel
theorem dX7_bestRule_5 : decode cX7_bestRule 5 = .ok (.istore_n 3, 1) := by decide +kernel
theorem dX7_bestRule_6 : decode cX7_bestRule 6 = .ok (.iload_n 3, 1) := by decide +kernel
theorem dX7_bestRule_7 : decode cX7_bestRule 7 = .ok (.iconst 3, 1) := by decide +kernel
theorem dX7_bestRule_8 : decode cX7_bestRule 8 = .ok (.if_icmp .ge 57, 3) := by decide +kernel
theorem dX7_bestRule_11 : decode cX7_bestRule 11 = .ok (.aload_n 0, 1) := by decide +kernel
theorem dX7_bestRule_12 : decode cX7_bestRule 12 = .ok (.getfield 44, 3) := by decide +kernel
theorem dX7_bestRule_15 : decode cX7_bestRule 15 = .ok (.aload_n 0, 1) := by decide +kernel
theorem dX7_bestRule_16 : decode cX7_bestRule 16 = .ok (.getfield 19, 3) := by decide +kernel
theorem dX7_bestRule_19 : decode cX7_bestRule 19 = .ok (.iload_n 3, 1) := by decide +kernel
theorem dX7_bestRule_20 : decode cX7_bestRule 20 = .ok (.invokevirtual 225, 3) := by decide +kernel
theorem dX7_bestRule_23 : decode cX7_bestRule 23 = .ok (.aload_n 0, 1) := by decide +kernel
theorem dX7_bestRule_24 : decode cX7_bestRule 24 = .ok (.getfield 44, 3) := by decide +kernel
theorem dX7_bestRule_27 : decode cX7_bestRule 27 = .ok (.invokevirtual 229, 3) := by decide +kernel
theorem dX7_bestRule_30 : decode cX7_bestRule 30 = .ok (.ifCond .eq 29, 3) := by decide +kernel
theorem dX7_bestRule_33 : decode cX7_bestRule 33 = .ok (.iload_n 1, 1) := by decide +kernel
theorem dX7_bestRule_34 : decode cX7_bestRule 34 = .ok (.iconst (-1), 1) := by decide +kernel
theorem dX7_bestRule_35 : decode cX7_bestRule 35 = .ok (.if_icmp .eq 14, 3) := by decide +kernel
theorem dX7_bestRule_38 : decode cX7_bestRule 38 = .ok (.aload_n 0, 1) := by decide +kernel
theorem dX7_bestRule_39 : decode cX7_bestRule 39 = .ok (.getfield 44, 3) := by decide +kernel
theorem dX7_bestRule_42 : decode cX7_bestRule 42 = .ok (.invokevirtual 258, 3) := by decide +kernel
theorem dX7_bestRule_45 : decode cX7_bestRule 45 = .ok (.iload_n 2, 1) := by decide +kernel
theorem dX7_bestRule_46 : decode cX7_bestRule 46 = .ok (.if_icmp .ge 13, 3) := by decide +kernel
theorem dX7_bestRule_49 : decode cX7_bestRule 49 = .ok (.iload_n 3, 1) := by decide +kernel
theorem dX7_bestRule_50 : decode cX7_bestRule 50 = .ok (.istore_n 1, 1) := by decide +kernel
theorem dX7_bestRule_51 : decode cX7_bestRule 51 = .ok (.aload_n 0, 1) := by decide +kernel
theorem dX7_bestRule_52 : decode cX7_bestRule 52 = .ok (.getfield 44, 3) := by decide +kernel
theorem dX7_bestRule_55 : decode cX7_bestRule 55 = .ok (.invokevirtual 258, 3) := by decide +kernel
theorem dX7_bestRule_58 : decode cX7_bestRule 58 = .ok (.istore_n 2, 1) := by decide +kernel
theorem dX7_bestRule_59 : decode cX7_bestRule 59 = .ok (.iinc 3 1, 3) := by decide +kernel
theorem dX7_bestRule_62 : decode cX7_bestRule 62 = .ok (.goto (-56), 3) := by decide +kernel
theorem dX7_bestRule_65 : decode cX7_bestRule 65 = .ok (.iload_n 1, 1) := by decide +kernel
theorem dX7_bestRule_66 : decode cX7_bestRule 66 = .ok (.ireturn, 1) := by decide +kernel
theorem dX7_fewest_0 : decode cX7_fewest 0 = .ok (.aload_n 0, 1) := by decide +kernel
theorem dX7_fewest_1 : decode cX7_fewest 1 = .ok (.getfield 19, 3) := by decide +kernel
theorem dX7_fewest_4 : decode cX7_fewest 4 = .ok (.iload_n 1, 1) := by decide +kernel
theorem dX7_fewest_5 : decode cX7_fewest 5 = .ok (.invokevirtual 169, 3) := by decide +kernel
theorem dX7_fewest_8 : decode cX7_fewest 8 = .ok (.invokestatic 66, 3) := by decide +kernel
theorem dX7_fewest_11 : decode cX7_fewest 11 = .ok (.aload_n 0, 1) := by decide +kernel
theorem dX7_fewest_12 : decode cX7_fewest 12 = .ok (.getfield 38, 3) := by decide +kernel
theorem dX7_fewest_15 : decode cX7_fewest 15 = .ok (.aload_n 0, 1) := by decide +kernel
theorem dX7_fewest_16 : decode cX7_fewest 16 = .ok (.getfield 19, 3) := by decide +kernel
theorem dX7_fewest_19 : decode cX7_fewest 19 = .ok (.invokevirtual 261, 3) := by decide +kernel
theorem dX7_fewest_22 : decode cX7_fewest 22 = .ok (.aload_n 0, 1) := by decide +kernel
theorem dX7_fewest_23 : decode cX7_fewest 23 = .ok (.iload_n 1, 1) := by decide +kernel
theorem dX7_fewest_24 : decode cX7_fewest 24 = .ok (.bipush 99, 2) := by decide +kernel
theorem dX7_fewest_26 : decode cX7_fewest 26 = .ok (.invokevirtual 264, 3) := by decide +kernel
theorem dX7_fewest_29 : decode cX7_fewest 29 = .ok (.ifCond .ne 5, 3) := by decide +kernel
theorem dX7_fewest_32 : decode cX7_fewest 32 = .ok (.iconst (-1), 1) := by decide +kernel
theorem dX7_fewest_33 : decode cX7_fewest 33 = .ok (.ireturn, 1) := by decide +kernel
theorem dX7_fewest_34 : decode cX7_fewest 34 = .ok (.iconst 0, 1) := by decide +kernel
theorem dX7_fewest_35 : decode cX7_fewest 35 = .ok (.istore_n 2, 1) := by decide +kernel
theorem dX7_fewest_36 : decode cX7_fewest 36 = .ok (.bipush 99, 2) := by decide +kernel
theorem dX7_fewest_38 : decode cX7_fewest 38 = .ok (.istore_n 3, 1) := by decide +kernel
theorem dX7_fewest_39 : decode cX7_fewest 39 = .ok (.iconst 0, 1) := by decide +kernel
theorem dX7_fewest_40 : decode cX7_fewest 40 = .ok (.istore 4, 2) := by decide +kernel
theorem dX7_fewest_42 : decode cX7_fewest 42 = .ok (.iload 4, 2) := by decide +kernel
theorem dX7_fewest_44 : decode cX7_fewest 44 = .ok (.bipush 99, 2) := by decide +kernel
theorem dX7_fewest_46 : decode cX7_fewest 46 = .ok (.if_icmp .ge 42, 3) := by decide +kernel
theorem dX7_fewest_49 : decode cX7_fewest 49 = .ok (.iload_n 2, 1) := by decide +kernel
theorem dX7_fewest_50 : decode cX7_fewest 50 = .ok (.iload_n 3, 1) := by decide +kernel
theorem dX7_fewest_51 : decode cX7_fewest 51 = .ok (.if_icmp .ge 37, 3) := by decide +kernel
theorem dX7_fewest_54 : decode cX7_fewest 54 = .ok (.iload_n 2, 1) := by decide +kernel
theorem dX7_fewest_55 : decode cX7_fewest 55 = .ok (.iload_n 3, 1) := by decide +kernel
theorem dX7_fewest_56 : decode cX7_fewest 56 = .ok (.iadd, 1) := by decide +kernel
theorem dX7_fewest_57 : decode cX7_fewest 57 = .ok (.iconst 2, 1) := by decide +kernel
theorem dX7_fewest_58 : decode cX7_fewest 58 = .ok (.idiv, 1) := by decide +kernel
theorem dX7_fewest_59 : decode cX7_fewest 59 = .ok (.istore 5, 2) := by decide +kernel
theorem dX7_fewest_61 : decode cX7_fewest 61 = .ok (.aload_n 0, 1) := by decide +kernel
theorem dX7_fewest_62 : decode cX7_fewest 62 = .ok (.iload_n 1, 1) := by decide +kernel
theorem dX7_fewest_63 : decode cX7_fewest 63 = .ok (.iload 5, 2) := by decide +kernel
theorem dX7_fewest_65 : decode cX7_fewest 65 = .ok (.invokevirtual 264, 3) := by decide +kernel
theorem dX7_fewest_68 : decode cX7_fewest 68 = .ok (.ifCond .eq 9, 3) := by decide +kernel
theorem dX7_fewest_71 : decode cX7_fewest 71 = .ok (.iload 5, 2) := by decide +kernel
theorem dX7_fewest_73 : decode cX7_fewest 73 = .ok (.istore_n 3, 1) := by decide +kernel
theorem dX7_fewest_74 : decode cX7_fewest 74 = .ok (.goto 8, 3) := by decide +kernel
theorem dX7_fewest_77 : decode cX7_fewest 77 = .ok (.iload 5, 2) := by decide +kernel
theorem dX7_fewest_79 : decode cX7_fewest 79 = .ok (.iconst 1, 1) := by decide +kernel
theorem dX7_fewest_80 : decode cX7_fewest 80 = .ok (.iadd, 1) := by decide +kernel
theorem dX7_fewest_81 : decode cX7_fewest 81 = .ok (.istore_n 2, 1) := by decide +kernel
theorem dX7_fewest_82 : decode cX7_fewest 82 = .ok (.iinc 4 1, 3) := by decide +kernel
theorem dX7_fewest_85 : decode cX7_fewest 85 = .ok (.goto (-43), 3) := by decide +kernel
theorem dX7_fewest_88 : decode cX7_fewest 88 = .ok (.iload_n 2, 1) := by decide +kernel
theorem dX7_fewest_89 : decode cX7_fewest 89 = .ok (.ireturn, 1) := by decide +kernel
theorem dX7_agrees_0 : decode cX7_agrees 0 = .ok (.aload_n 0, 1) := by decide +kernel
theorem dX7_agrees_1 : decode cX7_agrees 1 = .ok (.getfield 19, 3) := by decide +kernel
theorem dX7_agrees_4 : decode cX7_agrees 4 = .ok (.iload_n 1, 1) := by decide +kernel
theorem dX7_agrees_5 : decode cX7_agrees 5 = .ok (.invokevirtual 169, 3) := by decide +kernel
theorem dX7_agrees_8 : decode cX7_agrees 8 = .ok (.invokestatic 66, 3) := by decide +kernel
theorem dX7_agrees_11 : decode cX7_agrees 11 = .ok (.iload_n 2, 1) := by decide +kernel
theorem dX7_agrees_12 : decode cX7_agrees 12 = .ok (.iconst 1, 1) := by decide +kernel
theorem dX7_agrees_13 : decode cX7_agrees 13 = .ok (.bipush 6, 2) := by decide +kernel
theorem dX7_agrees_15 : decode cX7_agrees 15 = .ok (.invokestatic 62, 3) := by decide +kernel
theorem dX7_agrees_18 : decode cX7_agrees 18 = .ok (.invokestatic 66, 3) := by decide +kernel
theorem dX7_agrees_21 : decode cX7_agrees 21 = .ok (.aload_n 0, 1) := by decide +kernel
theorem dX7_agrees_22 : decode cX7_agrees 22 = .ok (.getfield 38, 3) := by decide +kernel
theorem dX7_agrees_25 : decode cX7_agrees 25 = .ok (.aload_n 0, 1) := by decide +kernel
theorem dX7_agrees_26 : decode cX7_agrees 26 = .ok (.getfield 19, 3) := by decide +kernel
theorem dX7_agrees_29 : decode cX7_agrees 29 = .ok (.invokevirtual 261, 3) := by decide +kernel
theorem dX7_agrees_32 : decode cX7_agrees 32 = .ok (.iconst 1, 1) := by decide +kernel
theorem dX7_agrees_33 : decode cX7_agrees 33 = .ok (.istore_n 3, 1) := by decide +kernel
theorem dX7_agrees_34 : decode cX7_agrees 34 = .ok (.iload_n 3, 1) := by decide +kernel
theorem dX7_agrees_35 : decode cX7_agrees 35 = .ok (.bipush 6, 2) := by decide +kernel
theorem dX7_agrees_37 : decode cX7_agrees 37 = .ok (.if_icmp .gt 45, 3) := by decide +kernel
theorem dX7_agrees_40 : decode cX7_agrees 40 = .ok (.aload_n 0, 1) := by decide +kernel
theorem dX7_agrees_41 : decode cX7_agrees 41 = .ok (.getfield 38, 3) := by decide +kernel
theorem dX7_agrees_44 : decode cX7_agrees 44 = .ok (.getfield 172, 3) := by decide +kernel
theorem dX7_agrees_47 : decode cX7_agrees 47 = .ok (.iload_n 1, 1) := by decide +kernel
theorem dX7_agrees_48 : decode cX7_agrees 48 = .ok (.iload_n 2, 1) := by decide +kernel
theorem dX7_agrees_49 : decode cX7_agrees 49 = .ok (.iastore, 1) := by decide +kernel
theorem dX7_agrees_50 : decode cX7_agrees 50 = .ok (.aload_n 0, 1) := by decide +kernel
theorem dX7_agrees_51 : decode cX7_agrees 51 = .ok (.getfield 38, 3) := by decide +kernel
theorem dX7_agrees_54 : decode cX7_agrees 54 = .ok (.getfield 175, 3) := by decide +kernel
theorem dX7_agrees_57 : decode cX7_agrees 57 = .ok (.iload_n 1, 1) := by decide +kernel
theorem dX7_agrees_58 : decode cX7_agrees 58 = .ok (.iload_n 3, 1) := by decide +kernel
theorem dX7_agrees_59 : decode cX7_agrees 59 = .ok (.iastore, 1) := by decide +kernel
theorem dX7_agrees_60 : decode cX7_agrees 60 = .ok (.aload_n 0, 1) := by decide +kernel
theorem dX7_agrees_61 : decode cX7_agrees 61 = .ok (.getfield 51, 3) := by decide +kernel
theorem dX7_agrees_64 : decode cX7_agrees 64 = .ok (.aload_n 0, 1) := by decide +kernel
theorem dX7_agrees_65 : decode cX7_agrees 65 = .ok (.getfield 38, 3) := by decide +kernel
theorem dX7_agrees_68 : decode cX7_agrees 68 = .ok (.invokevirtual 126, 3) := by decide +kernel
theorem dX7_agrees_71 : decode cX7_agrees 71 = .ok (.ifCond .eq 5, 3) := by decide +kernel
theorem dX7_agrees_74 : decode cX7_agrees 74 = .ok (.iload_n 3, 1) := by decide +kernel
theorem dX7_agrees_75 : decode cX7_agrees 75 = .ok (.ireturn, 1) := by decide +kernel
theorem dX7_agrees_76 : decode cX7_agrees 76 = .ok (.iinc 3 1, 3) := by decide +kernel
theorem dX7_agrees_79 : decode cX7_agrees 79 = .ok (.goto (-45), 3) := by decide +kernel
theorem dX7_agrees_82 : decode cX7_agrees 82 = .ok (.iconst (-1), 1) := by decide +kernel
theorem dX7_agrees_83 : decode cX7_agrees 83 = .ok (.ireturn, 1) := by decide +kernel
theorem dX7_runScript_0 : decode cX7_runScript 0 = .ok (.iload_n 1, 1) := by decide +kernel
theorem dX7_runScript_1 : decode cX7_runScript 1 = .ok (.iconst 1, 1) := by decide +kernel
theorem dX7_runScript_2 : decode cX7_runScript 2 = .ok (.iconst 3, 1) := by decide +kernel
theorem dX7_runScript_3 : decode cX7_runScript 3 = .ok (.invokestatic 62, 3) := by decide +kernel
theorem dX7_runScript_6 : decode cX7_runScript 6 = .ok (.invokestatic 66, 3) := by decide +kernel
theorem dX7_runScript_9 : decode cX7_runScript 9 = .ok (.lload_n 2, 1) := by decide +kernel
theorem dX7_runScript_10 : decode cX7_runScript 10 = .ok (.lconst 0, 1) := by decide +kernel
theorem dX7_runScript_11 : decode cX7_runScript 11 = .ok (.lcmp, 1) := by decide +kernel
theorem dX7_runScript_12 : decode cX7_runScript 12 = .ok (.ifCond .lt 13, 3) := by decide +kernel
theorem dX7_runScript_15 : decode cX7_runScript 15 = .ok (.lload_n 2, 1) := by decide +kernel
theorem dX7_runScript_16 : decode cX7_runScript 16 = .ok (.iload_n 1, 1) := by decide +kernel
theorem dX7_runScript_17 : decode cX7_runScript 17 = .ok (.invokestatic 268, 3) := by decide +kernel
theorem dX7_runScript_20 : decode cX7_runScript 20 = .ok (.lconst 0, 1) := by decide +kernel
theorem dX7_runScript_21 : decode cX7_runScript 21 = .ok (.lcmp, 1) := by decide +kernel
theorem dX7_runScript_22 : decode cX7_runScript 22 = .ok (.ifCond .le 9, 3) := by decide +kernel
theorem dX7_runScript_25 : decode cX7_runScript 25 = .ok (.getstatic 242, 3) := by decide +kernel
theorem dX7_runScript_28 : decode cX7_runScript 28 = .ok (.goto 6, 3) := by decide +kernel
theorem dX7_runScript_31 : decode cX7_runScript 31 = .ok (.getstatic 80, 3) := by decide +kernel
theorem dX7_runScript_34 : decode cX7_runScript 34 = .ok (.invokestatic 66, 3) := by decide +kernel
theorem dX7_runScript_37 : decode cX7_runScript 37 = .ok (.aload_n 0, 1) := by decide +kernel
theorem dX7_runScript_38 : decode cX7_runScript 38 = .ok (.getfield 38, 3) := by decide +kernel
theorem dX7_runScript_41 : decode cX7_runScript 41 = .ok (.aload_n 0, 1) := by decide +kernel
theorem dX7_runScript_42 : decode cX7_runScript 42 = .ok (.getfield 19, 3) := by decide +kernel
theorem dX7_runScript_45 : decode cX7_runScript 45 = .ok (.invokevirtual 261, 3) := by decide +kernel
theorem dX7_runScript_48 : decode cX7_runScript 48 = .ok (.iconst 0, 1) := by decide +kernel
theorem dX7_runScript_49 : decode cX7_runScript 49 = .ok (.istore 4, 2) := by decide +kernel
theorem dX7_runScript_51 : decode cX7_runScript 51 = .ok (.iload 4, 2) := by decide +kernel
theorem dX7_runScript_53 : decode cX7_runScript 53 = .ok (.iload_n 1, 1) := by decide +kernel
theorem dX7_runScript_54 : decode cX7_runScript 54 = .ok (.if_icmp .ge 34, 3) := by decide +kernel
theorem dX7_runScript_57 : decode cX7_runScript 57 = .ok (.aload_n 0, 1) := by decide +kernel
theorem dX7_runScript_58 : decode cX7_runScript 58 = .ok (.lload_n 2, 1) := by decide +kernel
theorem dX7_runScript_59 : decode cX7_runScript 59 = .ok (.iload_n 1, 1) := by decide +kernel
theorem dX7_runScript_60 : decode cX7_runScript 60 = .ok (.iconst 1, 1) := by decide +kernel
theorem dX7_runScript_61 : decode cX7_runScript 61 = .ok (.isub, 1) := by decide +kernel
theorem dX7_runScript_62 : decode cX7_runScript 62 = .ok (.iload 4, 2) := by decide +kernel
theorem dX7_runScript_64 : decode cX7_runScript 64 = .ok (.isub, 1) := by decide +kernel
theorem dX7_runScript_65 : decode cX7_runScript 65 = .ok (.invokestatic 268, 3) := by decide +kernel
theorem dX7_runScript_68 : decode cX7_runScript 68 = .ok (.ldc2_w 272, 3) := by decide +kernel
theorem dX7_runScript_71 : decode cX7_runScript 71 = .ok (.lrem, 1) := by decide +kernel
theorem dX7_runScript_72 : decode cX7_runScript 72 = .ok (.l2i, 1) := by decide +kernel
theorem dX7_runScript_73 : decode cX7_runScript 73 = .ok (.invokevirtual 274, 3) := by decide +kernel
theorem dX7_runScript_76 : decode cX7_runScript 76 = .ok (.ifCond .ne 6, 3) := by decide +kernel
theorem dX7_runScript_79 : decode cX7_runScript 79 = .ok (.iload 4, 2) := by decide +kernel
theorem dX7_runScript_81 : decode cX7_runScript 81 = .ok (.ireturn, 1) := by decide +kernel
theorem dX7_runScript_82 : decode cX7_runScript 82 = .ok (.iinc 4 1, 3) := by decide +kernel
theorem dX7_runScript_85 : decode cX7_runScript 85 = .ok (.goto (-34), 3) := by decide +kernel
theorem dX7_runScript_88 : decode cX7_runScript 88 = .ok (.iconst (-1), 1) := by decide +kernel
theorem dX7_runScript_89 : decode cX7_runScript 89 = .ok (.ireturn, 1) := by decide +kernel
theorem dX7_simulate_0 : decode cX7_simulate 0 = .ok (.iload_n 3, 1) := by decide +kernel
theorem dX7_simulate_1 : decode cX7_simulate 1 = .ok (.iconst 1, 1) := by decide +kernel
theorem dX7_simulate_2 : decode cX7_simulate 2 = .ok (.bipush 99, 2) := by decide +kernel
theorem dX7_simulate_4 : decode cX7_simulate 4 = .ok (.invokestatic 62, 3) := by decide +kernel
theorem dX7_simulate_7 : decode cX7_simulate 7 = .ok (.invokestatic 66, 3) := by decide +kernel
theorem dX7_simulate_10 : decode cX7_simulate 10 = .ok (.aload_n 0, 1) := by decide +kernel
theorem dX7_simulate_11 : decode cX7_simulate 11 = .ok (.getfield 38, 3) := by decide +kernel
theorem dX7_simulate_14 : decode cX7_simulate 14 = .ok (.aload_n 0, 1) := by decide +kernel
theorem dX7_simulate_15 : decode cX7_simulate 15 = .ok (.getfield 19, 3) := by decide +kernel
theorem dX7_simulate_18 : decode cX7_simulate 18 = .ok (.invokevirtual 261, 3) := by decide +kernel
theorem dX7_simulate_21 : decode cX7_simulate 21 = .ok (.lload_n 1, 1) := by decide +kernel
theorem dX7_simulate_22 : decode cX7_simulate 22 = .ok (.lstore 4, 2) := by decide +kernel
theorem dX7_simulate_24 : decode cX7_simulate 24 = .ok (.iconst 0, 1) := by decide +kernel
theorem dX7_simulate_25 : decode cX7_simulate 25 = .ok (.istore 6, 2) := by decide +kernel
theorem dX7_simulate_27 : decode cX7_simulate 27 = .ok (.iconst 0, 1) := by decide +kernel
theorem dX7_simulate_28 : decode cX7_simulate 28 = .ok (.istore 7, 2) := by decide +kernel
theorem dX7_simulate_30 : decode cX7_simulate 30 = .ok (.iload 7, 2) := by decide +kernel
theorem dX7_simulate_32 : decode cX7_simulate 32 = .ok (.iload_n 3, 1) := by decide +kernel
theorem dX7_simulate_33 : decode cX7_simulate 33 = .ok (.if_icmp .ge 36, 3) := by decide +kernel
theorem dX7_simulate_36 : decode cX7_simulate 36 = .ok (.lload 4, 2) := by decide +kernel
theorem dX7_simulate_38 : decode cX7_simulate 38 = .ok (.ldc2_w 277, 3) := by decide +kernel
theorem dX7_simulate_41 : decode cX7_simulate 41 = .ok (.lmul, 1) := by decide +kernel
theorem dX7_simulate_42 : decode cX7_simulate 42 = .ok (.ldc2_w 279, 3) := by decide +kernel
theorem dX7_simulate_45 : decode cX7_simulate 45 = .ok (.ladd, 1) := by decide +kernel
theorem dX7_simulate_46 : decode cX7_simulate 46 = .ok (.lstore 4, 2) := by decide +kernel
theorem dX7_simulate_48 : decode cX7_simulate 48 = .ok (.iload 6, 2) := by decide +kernel
theorem dX7_simulate_50 : decode cX7_simulate 50 = .ok (.aload_n 0, 1) := by decide +kernel
theorem dX7_simulate_51 : decode cX7_simulate 51 = .ok (.lload 4, 2) := by decide +kernel
theorem dX7_simulate_53 : decode cX7_simulate 53 = .ok (.bipush 33, 2) := by decide +kernel
theorem dX7_simulate_55 : decode cX7_simulate 55 = .ok (.lushr, 1) := by decide +kernel
theorem dX7_simulate_56 : decode cX7_simulate 56 = .ok (.l2i, 1) := by decide +kernel
theorem dX7_simulate_57 : decode cX7_simulate 57 = .ok (.invokevirtual 281, 3) := by decide +kernel
theorem dX7_simulate_60 : decode cX7_simulate 60 = .ok (.iadd, 1) := by decide +kernel
theorem dX7_simulate_61 : decode cX7_simulate 61 = .ok (.istore 6, 2) := by decide +kernel
theorem dX7_simulate_63 : decode cX7_simulate 63 = .ok (.iinc 7 1, 3) := by decide +kernel
theorem dX7_simulate_66 : decode cX7_simulate 66 = .ok (.goto (-36), 3) := by decide +kernel
theorem dX7_simulate_69 : decode cX7_simulate 69 = .ok (.sipush 1000, 3) := by decide +kernel
theorem dX7_simulate_72 : decode cX7_simulate 72 = .ok (.iload 6, 2) := by decide +kernel
theorem dX7_simulate_74 : decode cX7_simulate 74 = .ok (.sipush 999, 3) := by decide +kernel
theorem dX7_simulate_77 : decode cX7_simulate 77 = .ok (.invokestatic 284, 3) := by decide +kernel
theorem dX7_simulate_80 : decode cX7_simulate 80 = .ok (.imul, 1) := by decide +kernel
theorem dX7_simulate_81 : decode cX7_simulate 81 = .ok (.aload_n 0, 1) := by decide +kernel
theorem dX7_simulate_82 : decode cX7_simulate 82 = .ok (.getfield 38, 3) := by decide +kernel
theorem dX7_simulate_85 : decode cX7_simulate 85 = .ok (.invokevirtual 120, 3) := by decide +kernel
theorem dX7_simulate_88 : decode cX7_simulate 88 = .ok (.sipush 999, 3) := by decide +kernel
theorem dX7_simulate_91 : decode cX7_simulate 91 = .ok (.invokestatic 284, 3) := by decide +kernel
theorem dX7_simulate_94 : decode cX7_simulate 94 = .ok (.iadd, 1) := by decide +kernel
theorem dX7_simulate_95 : decode cX7_simulate 95 = .ok (.ireturn, 1) := by decide +kernel
theorem dX7_save_0 : decode cX7_save 0 = .ok (.iload_n 1, 1) := by decide +kernel
theorem dX7_save_1 : decode cX7_save 1 = .ok (.invokestatic 289, 3) := by decide +kernel
theorem dX7_save_4 : decode cX7_save 4 = .ok (.invokestatic 66, 3) := by decide +kernel
theorem dX7_save_7 : decode cX7_save 7 = .ok (.aload_n 0, 1) := by decide +kernel
theorem dX7_save_8 : decode cX7_save 8 = .ok (.getfield 30, 3) := by decide +kernel
theorem dX7_save_11 : decode cX7_save 11 = .ok (.iload_n 1, 1) := by decide +kernel
theorem dX7_save_12 : decode cX7_save 12 = .ok (.aaload, 1) := by decide +kernel
theorem dX7_save_13 : decode cX7_save 13 = .ok (.aload_n 0, 1) := by decide +kernel
theorem dX7_save_14 : decode cX7_save 14 = .ok (.getfield 19, 3) := by decide +kernel
theorem dX7_save_17 : decode cX7_save 17 = .ok (.invokevirtual 261, 3) := by decide +kernel
theorem dX7_save_20 : decode cX7_save 20 = .ok (.aload_n 0, 1) := by decide +kernel
theorem dX7_save_21 : decode cX7_save 21 = .ok (.getfield 34, 3) := by decide +kernel
theorem dX7_save_24 : decode cX7_save 24 = .ok (.iload_n 1, 1) := by decide +kernel
theorem dX7_save_25 : decode cX7_save 25 = .ok (.iconst 1, 1) := by decide +kernel
theorem dX7_save_26 : decode cX7_save 26 = .ok (.bastore, 1) := by decide +kernel
theorem dX7_save_27 : decode cX7_save 27 = .ok (.aload_n 0, 1) := by decide +kernel
theorem dX7_save_28 : decode cX7_save 28 = .ok (.getfield 19, 3) := by decide +kernel
theorem dX7_save_31 : decode cX7_save 31 = .ok (.getfield 117, 3) := by decide +kernel
theorem dX7_save_34 : decode cX7_save 34 = .ok (.ireturn, 1) := by decide +kernel
theorem dX7_restore_0 : decode cX7_restore 0 = .ok (.iload_n 1, 1) := by decide +kernel
theorem dX7_restore_1 : decode cX7_restore 1 = .ok (.invokestatic 289, 3) := by decide +kernel
theorem dX7_restore_4 : decode cX7_restore 4 = .ok (.invokestatic 66, 3) := by decide +kernel
theorem dX7_restore_7 : decode cX7_restore 7 = .ok (.aload_n 0, 1) := by decide +kernel
theorem dX7_restore_8 : decode cX7_restore 8 = .ok (.getfield 34, 3) := by decide +kernel
theorem dX7_restore_11 : decode cX7_restore 11 = .ok (.iload_n 1, 1) := by decide +kernel
theorem dX7_restore_12 : decode cX7_restore 12 = .ok (.baload, 1) := by decide +kernel
theorem dX7_restore_13 : decode cX7_restore 13 = .ok (.ifCond .eq 9, 3) := by decide +kernel
theorem dX7_restore_16 : decode cX7_restore 16 = .ok (.getstatic 80, 3) := by decide +kernel
theorem dX7_restore_19 : decode cX7_restore 19 = .ok (.goto 6, 3) := by decide +kernel
theorem dX7_restore_22 : decode cX7_restore 22 = .ok (.getstatic 74, 3) := by decide +kernel
theorem dX7_restore_25 : decode cX7_restore 25 = .ok (.invokestatic 66, 3) := by decide +kernel
theorem dX7_restore_28 : decode cX7_restore 28 = .ok (.aload_n 0, 1) := by decide +kernel
theorem dX7_restore_29 : decode cX7_restore 29 = .ok (.getfield 19, 3) := by decide +kernel
theorem dX7_restore_32 : decode cX7_restore 32 = .ok (.aload_n 0, 1) := by decide +kernel
theorem dX7_restore_33 : decode cX7_restore 33 = .ok (.getfield 30, 3) := by decide +kernel
theorem dX7_restore_36 : decode cX7_restore 36 = .ok (.iload_n 1, 1) := by decide +kernel
theorem dX7_restore_37 : decode cX7_restore 37 = .ok (.aaload, 1) := by decide +kernel
theorem dX7_restore_38 : decode cX7_restore 38 = .ok (.invokevirtual 261, 3) := by decide +kernel
theorem dX7_restore_41 : decode cX7_restore 41 = .ok (.aload_n 0, 1) := by decide +kernel
theorem dX7_restore_42 : decode cX7_restore 42 = .ok (.getfield 26, 3) := by decide +kernel
theorem dX7_restore_45 : decode cX7_restore 45 = .ok (.invokevirtual 96, 3) := by decide +kernel
theorem dX7_restore_48 : decode cX7_restore 48 = .ok (.aload_n 0, 1) := by decide +kernel
theorem dX7_restore_49 : decode cX7_restore 49 = .ok (.getfield 19, 3) := by decide +kernel
theorem dX7_restore_52 : decode cX7_restore 52 = .ok (.getfield 117, 3) := by decide +kernel
theorem dX7_restore_55 : decode cX7_restore 55 = .ok (.ireturn, 1) := by decide +kernel
theorem dX7_refuse_0 : decode cX7_refuse 0 = .ok (.aload_n 0, 1) := by decide +kernel
theorem dX7_refuse_1 : decode cX7_refuse 1 = .ok (.getstatic 292, 3) := by decide +kernel
theorem dX7_refuse_4 : decode cX7_refuse 4 = .ok (.if_acmp .ne 14, 3) := by decide +kernel
theorem dX7_refuse_7 : decode cX7_refuse 7 = .ok (.new 295, 3) := by decide +kernel
theorem dX7_refuse_10 : decode cX7_refuse 10 = .ok (.dup, 1) := by decide +kernel
theorem dX7_refuse_11 : decode cX7_refuse 11 = .ok (.ldc_w 297, 3) := by decide +kernel
theorem dX7_refuse_14 : decode cX7_refuse 14 = .ok (.invokespecial 299, 3) := by decide +kernel
theorem dX7_refuse_17 : decode cX7_refuse 17 = .ok (.athrow, 1) := by decide +kernel
theorem dX7_refuse_18 : decode cX7_refuse 18 = .ok (.aload_n 0, 1) := by decide +kernel
theorem dX7_refuse_19 : decode cX7_refuse 19 = .ok (.getstatic 242, 3) := by decide +kernel
theorem dX7_refuse_22 : decode cX7_refuse 22 = .ok (.if_acmp .ne 14, 3) := by decide +kernel
theorem dX7_refuse_25 : decode cX7_refuse 25 = .ok (.new 302, 3) := by decide +kernel
theorem dX7_refuse_28 : decode cX7_refuse 28 = .ok (.dup, 1) := by decide +kernel
theorem dX7_refuse_29 : decode cX7_refuse 29 = .ok (.ldc_w 304, 3) := by decide +kernel
theorem dX7_refuse_32 : decode cX7_refuse 32 = .ok (.invokespecial 306, 3) := by decide +kernel
theorem dX7_refuse_35 : decode cX7_refuse 35 = .ok (.athrow, 1) := by decide +kernel
theorem dX7_refuse_36 : decode cX7_refuse 36 = .ok (.aload_n 0, 1) := by decide +kernel
theorem dX7_refuse_37 : decode cX7_refuse 37 = .ok (.getstatic 74, 3) := by decide +kernel
theorem dX7_refuse_40 : decode cX7_refuse 40 = .ok (.if_acmp .ne 14, 3) := by decide +kernel
theorem dX7_refuse_43 : decode cX7_refuse 43 = .ok (.new 307, 3) := by decide +kernel
theorem dX7_refuse_46 : decode cX7_refuse 46 = .ok (.dup, 1) := by decide +kernel
theorem dX7_refuse_47 : decode cX7_refuse 47 = .ok (.ldc_w 309, 3) := by decide +kernel
theorem dX7_refuse_50 : decode cX7_refuse 50 = .ok (.invokespecial 311, 3) := by decide +kernel
theorem dX7_refuse_53 : decode cX7_refuse 53 = .ok (.athrow, 1) := by decide +kernel
theorem dX7_refuse_54 : decode cX7_refuse 54 = .ok (.return_, 1) := by decide +kernel
theorem dX7_range_0 : decode cX7_range 0 = .ok (.iload_n 0, 1) := by decide +kernel
theorem dX7_range_1 : decode cX7_range 1 = .ok (.iload_n 1, 1) := by decide +kernel
theorem dX7_range_2 : decode cX7_range 2 = .ok (.if_icmp .lt 8, 3) := by decide +kernel
theorem dX7_range_5 : decode cX7_range 5 = .ok (.iload_n 0, 1) := by decide +kernel
theorem dX7_range_6 : decode cX7_range 6 = .ok (.iload_n 2, 1) := by decide +kernel
theorem dX7_range_7 : decode cX7_range 7 = .ok (.if_icmp .le 9, 3) := by decide +kernel
theorem dX7_range_10 : decode cX7_range 10 = .ok (.getstatic 242, 3) := by decide +kernel
theorem dX7_range_13 : decode cX7_range 13 = .ok (.goto 6, 3) := by decide +kernel
theorem dX7_range_16 : decode cX7_range 16 = .ok (.getstatic 80, 3) := by decide +kernel
theorem dX7_range_19 : decode cX7_range 19 = .ok (.areturn, 1) := by decide +kernel
theorem dX7_ruleFault_0 : decode cX7_ruleFault 0 = .ok (.iload_n 0, 1) := by decide +kernel
theorem dX7_ruleFault_1 : decode cX7_ruleFault 1 = .ok (.iconst 0, 1) := by decide +kernel
theorem dX7_ruleFault_2 : decode cX7_ruleFault 2 = .ok (.iconst 2, 1) := by decide +kernel
theorem dX7_ruleFault_3 : decode cX7_ruleFault 3 = .ok (.invokestatic 62, 3) := by decide +kernel
theorem dX7_ruleFault_6 : decode cX7_ruleFault 6 = .ok (.areturn, 1) := by decide +kernel
theorem dX7_slotFault_0 : decode cX7_slotFault 0 = .ok (.iload_n 0, 1) := by decide +kernel
theorem dX7_slotFault_1 : decode cX7_slotFault 1 = .ok (.ifCond .lt 8, 3) := by decide +kernel
theorem dX7_slotFault_4 : decode cX7_slotFault 4 = .ok (.iload_n 0, 1) := by decide +kernel
theorem dX7_slotFault_5 : decode cX7_slotFault 5 = .ok (.iconst 2, 1) := by decide +kernel
theorem dX7_slotFault_6 : decode cX7_slotFault 6 = .ok (.if_icmp .lt 9, 3) := by decide +kernel
theorem dX7_slotFault_9 : decode cX7_slotFault 9 = .ok (.getstatic 292, 3) := by decide +kernel
theorem dX7_slotFault_12 : decode cX7_slotFault 12 = .ok (.goto 6, 3) := by decide +kernel
theorem dX7_slotFault_15 : decode cX7_slotFault 15 = .ok (.getstatic 80, 3) := by decide +kernel
theorem dX7_slotFault_18 : decode cX7_slotFault 18 = .ok (.areturn, 1) := by decide +kernel
theorem dX7_isCompleteWith_0 : decode cX7_isCompleteWith 0 = .ok (.aload_n 0, 1) := by decide +kernel
theorem dX7_isCompleteWith_1 : decode cX7_isCompleteWith 1 = .ok (.getfield 38, 3) := by decide +kernel
theorem dX7_isCompleteWith_4 : decode cX7_isCompleteWith 4 = .ok (.getfield 178, 3) := by decide +kernel
theorem dX7_isCompleteWith_7 : decode cX7_isCompleteWith 7 = .ok (.iload_n 1, 1) := by decide +kernel
theorem dX7_isCompleteWith_8 : decode cX7_isCompleteWith 8 = .ok (.iload_n 2, 1) := by decide +kernel
theorem dX7_isCompleteWith_9 : decode cX7_isCompleteWith 9 = .ok (.iastore, 1) := by decide +kernel
theorem dX7_isCompleteWith_10 : decode cX7_isCompleteWith 10 = .ok (.aload_n 0, 1) := by decide +kernel
theorem dX7_isCompleteWith_11 : decode cX7_isCompleteWith 11 = .ok (.getfield 44, 3) := by decide +kernel
theorem dX7_isCompleteWith_14 : decode cX7_isCompleteWith 14 = .ok (.aload_n 0, 1) := by decide +kernel
theorem dX7_isCompleteWith_15 : decode cX7_isCompleteWith 15 = .ok (.getfield 38, 3) := by decide +kernel
theorem dX7_isCompleteWith_18 : decode cX7_isCompleteWith 18 = .ok (.iconst 0, 1) := by decide +kernel
theorem dX7_isCompleteWith_19 : decode cX7_isCompleteWith 19 = .ok (.invokevirtual 225, 3) := by decide +kernel
theorem dX7_isCompleteWith_22 : decode cX7_isCompleteWith 22 = .ok (.aload_n 0, 1) := by decide +kernel
theorem dX7_isCompleteWith_23 : decode cX7_isCompleteWith 23 = .ok (.getfield 44, 3) := by decide +kernel
theorem dX7_isCompleteWith_26 : decode cX7_isCompleteWith 26 = .ok (.invokevirtual 229, 3) := by decide +kernel
theorem dX7_isCompleteWith_29 : decode cX7_isCompleteWith 29 = .ok (.ireturn, 1) := by decide +kernel
theorem dX7_obeysText_0 : decode cX7_obeysText 0 = .ok (.aload_n 0, 1) := by decide +kernel
theorem dX7_obeysText_1 : decode cX7_obeysText 1 = .ok (.getfield 10, 3) := by decide +kernel
theorem dX7_obeysText_4 : decode cX7_obeysText 4 = .ok (.iload_n 1, 1) := by decide +kernel
theorem dX7_obeysText_5 : decode cX7_obeysText 5 = .ok (.invokevirtual 106, 3) := by decide +kernel
theorem dX7_obeysText_8 : decode cX7_obeysText 8 = .ok (.lookupswitch 169 #[(99, 137), (109, 36), (119, 64)], 36) := by decide +kernel
theorem dX7_obeysText_44 : decode cX7_obeysText 44 = .ok (.aload_n 0, 1) := by decide +kernel
theorem dX7_obeysText_45 : decode cX7_obeysText 45 = .ok (.getfield 19, 3) := by decide +kernel
theorem dX7_obeysText_48 : decode cX7_obeysText 48 = .ok (.aload_n 0, 1) := by decide +kernel
theorem dX7_obeysText_49 : decode cX7_obeysText 49 = .ok (.getfield 10, 3) := by decide +kernel
theorem dX7_obeysText_52 : decode cX7_obeysText 52 = .ok (.iload_n 1, 1) := by decide +kernel
theorem dX7_obeysText_53 : decode cX7_obeysText 53 = .ok (.iconst 1, 1) := by decide +kernel
theorem dX7_obeysText_54 : decode cX7_obeysText 54 = .ok (.iadd, 1) := by decide +kernel
theorem dX7_obeysText_55 : decode cX7_obeysText 55 = .ok (.invokevirtual 312, 3) := by decide +kernel
theorem dX7_obeysText_58 : decode cX7_obeysText 58 = .ok (.aload_n 0, 1) := by decide +kernel
theorem dX7_obeysText_59 : decode cX7_obeysText 59 = .ok (.getfield 10, 3) := by decide +kernel
theorem dX7_obeysText_62 : decode cX7_obeysText 62 = .ok (.iload_n 1, 1) := by decide +kernel
theorem dX7_obeysText_63 : decode cX7_obeysText 63 = .ok (.iconst 2, 1) := by decide +kernel
theorem dX7_obeysText_64 : decode cX7_obeysText 64 = .ok (.iadd, 1) := by decide +kernel
theorem dX7_obeysText_65 : decode cX7_obeysText 65 = .ok (.invokevirtual 312, 3) := by decide +kernel
theorem dX7_obeysText_68 : decode cX7_obeysText 68 = .ok (.invokevirtual 315, 3) := by decide +kernel
theorem dX7_obeysText_71 : decode cX7_obeysText 71 = .ok (.ireturn, 1) := by decide +kernel
theorem dX7_obeysText_72 : decode cX7_obeysText 72 = .ok (.aload_n 0, 1) := by decide +kernel
theorem dX7_obeysText_73 : decode cX7_obeysText 73 = .ok (.getfield 19, 3) := by decide +kernel
theorem dX7_obeysText_76 : decode cX7_obeysText 76 = .ok (.aload_n 0, 1) := by decide +kernel
theorem dX7_obeysText_77 : decode cX7_obeysText 77 = .ok (.getfield 10, 3) := by decide +kernel
theorem dX7_obeysText_80 : decode cX7_obeysText 80 = .ok (.iload_n 1, 1) := by decide +kernel
theorem dX7_obeysText_81 : decode cX7_obeysText 81 = .ok (.iconst 1, 1) := by decide +kernel
theorem dX7_obeysText_82 : decode cX7_obeysText 82 = .ok (.iadd, 1) := by decide +kernel
theorem dX7_obeysText_83 : decode cX7_obeysText 83 = .ok (.invokevirtual 312, 3) := by decide +kernel
theorem dX7_obeysText_86 : decode cX7_obeysText 86 = .ok (.aload_n 0, 1) := by decide +kernel
theorem dX7_obeysText_87 : decode cX7_obeysText 87 = .ok (.getfield 10, 3) := by decide +kernel
theorem dX7_obeysText_90 : decode cX7_obeysText 90 = .ok (.iload_n 1, 1) := by decide +kernel
theorem dX7_obeysText_91 : decode cX7_obeysText 91 = .ok (.iconst 2, 1) := by decide +kernel
theorem dX7_obeysText_92 : decode cX7_obeysText 92 = .ok (.iadd, 1) := by decide +kernel
theorem dX7_obeysText_93 : decode cX7_obeysText 93 = .ok (.invokevirtual 312, 3) := by decide +kernel
theorem dX7_obeysText_96 : decode cX7_obeysText 96 = .ok (.aload_n 0, 1) := by decide +kernel
theorem dX7_obeysText_97 : decode cX7_obeysText 97 = .ok (.getfield 10, 3) := by decide +kernel
theorem dX7_obeysText_100 : decode cX7_obeysText 100 = .ok (.iload_n 1, 1) := by decide +kernel
theorem dX7_obeysText_101 : decode cX7_obeysText 101 = .ok (.iconst 3, 1) := by decide +kernel
theorem dX7_obeysText_102 : decode cX7_obeysText 102 = .ok (.iadd, 1) := by decide +kernel
theorem dX7_obeysText_103 : decode cX7_obeysText 103 = .ok (.invokevirtual 312, 3) := by decide +kernel
theorem dX7_obeysText_106 : decode cX7_obeysText 106 = .ok (.aload_n 0, 1) := by decide +kernel
theorem dX7_obeysText_107 : decode cX7_obeysText 107 = .ok (.getfield 10, 3) := by decide +kernel
theorem dX7_obeysText_110 : decode cX7_obeysText 110 = .ok (.iload_n 1, 1) := by decide +kernel
theorem dX7_obeysText_111 : decode cX7_obeysText 111 = .ok (.iconst 4, 1) := by decide +kernel
theorem dX7_obeysText_112 : decode cX7_obeysText 112 = .ok (.iadd, 1) := by decide +kernel
theorem dX7_obeysText_113 : decode cX7_obeysText 113 = .ok (.invokevirtual 312, 3) := by decide +kernel
theorem dX7_obeysText_116 : decode cX7_obeysText 116 = .ok (.aload_n 0, 1) := by decide +kernel
theorem dX7_obeysText_117 : decode cX7_obeysText 117 = .ok (.getfield 10, 3) := by decide +kernel
theorem dX7_obeysText_120 : decode cX7_obeysText 120 = .ok (.iload_n 1, 1) := by decide +kernel
theorem dX7_obeysText_121 : decode cX7_obeysText 121 = .ok (.iconst 5, 1) := by decide +kernel
theorem dX7_obeysText_122 : decode cX7_obeysText 122 = .ok (.iadd, 1) := by decide +kernel
theorem dX7_obeysText_123 : decode cX7_obeysText 123 = .ok (.invokevirtual 312, 3) := by decide +kernel
theorem dX7_obeysText_126 : decode cX7_obeysText 126 = .ok (.bipush 10, 2) := by decide +kernel
theorem dX7_obeysText_128 : decode cX7_obeysText 128 = .ok (.imul, 1) := by decide +kernel
theorem dX7_obeysText_129 : decode cX7_obeysText 129 = .ok (.aload_n 0, 1) := by decide +kernel
theorem dX7_obeysText_130 : decode cX7_obeysText 130 = .ok (.getfield 10, 3) := by decide +kernel
theorem dX7_obeysText_133 : decode cX7_obeysText 133 = .ok (.iload_n 1, 1) := by decide +kernel
theorem dX7_obeysText_134 : decode cX7_obeysText 134 = .ok (.bipush 6, 2) := by decide +kernel
theorem dX7_obeysText_136 : decode cX7_obeysText 136 = .ok (.iadd, 1) := by decide +kernel
theorem dX7_obeysText_137 : decode cX7_obeysText 137 = .ok (.invokevirtual 312, 3) := by decide +kernel
theorem dX7_obeysText_140 : decode cX7_obeysText 140 = .ok (.iadd, 1) := by decide +kernel
theorem dX7_obeysText_141 : decode cX7_obeysText 141 = .ok (.invokevirtual 318, 3) := by decide +kernel
theorem dX7_obeysText_144 : decode cX7_obeysText 144 = .ok (.ireturn, 1) := by decide +kernel
theorem dX7_obeysText_145 : decode cX7_obeysText 145 = .ok (.aload_n 0, 1) := by decide +kernel
theorem dX7_obeysText_146 : decode cX7_obeysText 146 = .ok (.getfield 19, 3) := by decide +kernel
theorem dX7_obeysText_149 : decode cX7_obeysText 149 = .ok (.aload_n 0, 1) := by decide +kernel
theorem dX7_obeysText_150 : decode cX7_obeysText 150 = .ok (.getfield 10, 3) := by decide +kernel
theorem dX7_obeysText_153 : decode cX7_obeysText 153 = .ok (.iload_n 1, 1) := by decide +kernel
theorem dX7_obeysText_154 : decode cX7_obeysText 154 = .ok (.iconst 1, 1) := by decide +kernel
theorem dX7_obeysText_155 : decode cX7_obeysText 155 = .ok (.iadd, 1) := by decide +kernel
theorem dX7_obeysText_156 : decode cX7_obeysText 156 = .ok (.invokevirtual 312, 3) := by decide +kernel
theorem dX7_obeysText_159 : decode cX7_obeysText 159 = .ok (.bipush 10, 2) := by decide +kernel
theorem dX7_obeysText_161 : decode cX7_obeysText 161 = .ok (.imul, 1) := by decide +kernel
theorem dX7_obeysText_162 : decode cX7_obeysText 162 = .ok (.aload_n 0, 1) := by decide +kernel
theorem dX7_obeysText_163 : decode cX7_obeysText 163 = .ok (.getfield 10, 3) := by decide +kernel
theorem dX7_obeysText_166 : decode cX7_obeysText 166 = .ok (.iload_n 1, 1) := by decide +kernel
theorem dX7_obeysText_167 : decode cX7_obeysText 167 = .ok (.iconst 2, 1) := by decide +kernel
theorem dX7_obeysText_168 : decode cX7_obeysText 168 = .ok (.iadd, 1) := by decide +kernel
theorem dX7_obeysText_169 : decode cX7_obeysText 169 = .ok (.invokevirtual 312, 3) := by decide +kernel
theorem dX7_obeysText_172 : decode cX7_obeysText 172 = .ok (.iadd, 1) := by decide +kernel
theorem dX7_obeysText_173 : decode cX7_obeysText 173 = .ok (.invokevirtual 322, 3) := by decide +kernel
theorem dX7_obeysText_176 : decode cX7_obeysText 176 = .ok (.ireturn, 1) := by decide +kernel
theorem dX7_obeysText_177 : decode cX7_obeysText 177 = .ok (.aload_n 0, 1) := by decide +kernel
theorem dX7_obeysText_178 : decode cX7_obeysText 178 = .ok (.getfield 19, 3) := by decide +kernel
theorem dX7_obeysText_181 : decode cX7_obeysText 181 = .ok (.aload_n 0, 1) := by decide +kernel
theorem dX7_obeysText_182 : decode cX7_obeysText 182 = .ok (.getfield 10, 3) := by decide +kernel
theorem dX7_obeysText_185 : decode cX7_obeysText 185 = .ok (.iload_n 1, 1) := by decide +kernel
theorem dX7_obeysText_186 : decode cX7_obeysText 186 = .ok (.iconst 1, 1) := by decide +kernel
theorem dX7_obeysText_187 : decode cX7_obeysText 187 = .ok (.iadd, 1) := by decide +kernel
theorem dX7_obeysText_188 : decode cX7_obeysText 188 = .ok (.invokevirtual 312, 3) := by decide +kernel
theorem dX7_obeysText_191 : decode cX7_obeysText 191 = .ok (.invokevirtual 325, 3) := by decide +kernel
theorem dX7_obeysText_194 : decode cX7_obeysText 194 = .ok (.ireturn, 1) := by decide +kernel
theorem dX7_withoutGroups_0 : decode cX7_withoutGroups 0 = .ok (.lload_n 0, 1) := by decide +kernel
theorem dX7_withoutGroups_1 : decode cX7_withoutGroups 1 = .ok (.lstore_n 3, 1) := by decide +kernel
theorem dX7_withoutGroups_2 : decode cX7_withoutGroups 2 = .ok (.iconst 0, 1) := by decide +kernel
theorem dX7_withoutGroups_3 : decode cX7_withoutGroups 3 = .ok (.istore 5, 2) := by decide +kernel
theorem dX7_withoutGroups_5 : decode cX7_withoutGroups 5 = .ok (.iload 5, 2) := by decide +kernel
theorem dX7_withoutGroups_7 : decode cX7_withoutGroups 7 = .ok (.iload_n 2, 1) := by decide +kernel
theorem dX7_withoutGroups_8 : decode cX7_withoutGroups 8 = .ok (.if_icmp .ge 15, 3) := by decide +kernel
theorem dX7_withoutGroups_11 : decode cX7_withoutGroups 11 = .ok (.lload_n 3, 1) := by decide +kernel
theorem dX7_withoutGroups_12 : decode cX7_withoutGroups 12 = .ok (.ldc2_w 272, 3) := by decide +kernel
theorem dX7_withoutGroups_15 : decode cX7_withoutGroups 15 = .ok (.ldiv, 1) := by decide +kernel
theorem dX7_withoutGroups_16 : decode cX7_withoutGroups 16 = .ok (.lstore_n 3, 1) := by decide +kernel
theorem dX7_withoutGroups_17 : decode cX7_withoutGroups 17 = .ok (.iinc 5 1, 3) := by decide +kernel
theorem dX7_withoutGroups_20 : decode cX7_withoutGroups 20 = .ok (.goto (-15), 3) := by decide +kernel
theorem dX7_withoutGroups_23 : decode cX7_withoutGroups 23 = .ok (.lload_n 3, 1) := by decide +kernel
theorem dX7_withoutGroups_24 : decode cX7_withoutGroups 24 = .ok (.lreturn, 1) := by decide +kernel
theorem dX7_obeysGroup_0 : decode cX7_obeysGroup 0 = .ok (.iload_n 1, 1) := by decide +kernel
theorem dX7_obeysGroup_1 : decode cX7_obeysGroup 1 = .ok (.ldc_w 328, 3) := by decide +kernel
theorem dX7_obeysGroup_4 : decode cX7_obeysGroup 4 = .ok (.irem, 1) := by decide +kernel
theorem dX7_obeysGroup_5 : decode cX7_obeysGroup 5 = .ok (.istore_n 2, 1) := by decide +kernel
theorem dX7_obeysGroup_6 : decode cX7_obeysGroup 6 = .ok (.iload_n 1, 1) := by decide +kernel
theorem dX7_obeysGroup_7 : decode cX7_obeysGroup 7 = .ok (.ldc_w 328, 3) := by decide +kernel
theorem dX7_obeysGroup_10 : decode cX7_obeysGroup 10 = .ok (.idiv, 1) := by decide +kernel
theorem dX7_obeysGroup_11 : decode cX7_obeysGroup 11 = .ok (.tableswitch 302 1 9 #[49, 88, 111, 142, 165, 192, 216, 247, 271], 49) := by decide +kernel
theorem dX7_obeysGroup_60 : decode cX7_obeysGroup 60 = .ok (.aload_n 0, 1) := by decide +kernel
theorem dX7_obeysGroup_61 : decode cX7_obeysGroup 61 = .ok (.getfield 38, 3) := by decide +kernel
theorem dX7_obeysGroup_64 : decode cX7_obeysGroup 64 = .ok (.iload_n 2, 1) := by decide +kernel
theorem dX7_obeysGroup_65 : decode cX7_obeysGroup 65 = .ok (.sipush 10000, 3) := by decide +kernel
theorem dX7_obeysGroup_68 : decode cX7_obeysGroup 68 = .ok (.idiv, 1) := by decide +kernel
theorem dX7_obeysGroup_69 : decode cX7_obeysGroup 69 = .ok (.iload_n 2, 1) := by decide +kernel
theorem dX7_obeysGroup_70 : decode cX7_obeysGroup 70 = .ok (.sipush 1000, 3) := by decide +kernel
theorem dX7_obeysGroup_73 : decode cX7_obeysGroup 73 = .ok (.idiv, 1) := by decide +kernel
theorem dX7_obeysGroup_74 : decode cX7_obeysGroup 74 = .ok (.bipush 10, 2) := by decide +kernel
theorem dX7_obeysGroup_76 : decode cX7_obeysGroup 76 = .ok (.irem, 1) := by decide +kernel
theorem dX7_obeysGroup_77 : decode cX7_obeysGroup 77 = .ok (.iload_n 2, 1) := by decide +kernel
theorem dX7_obeysGroup_78 : decode cX7_obeysGroup 78 = .ok (.bipush 100, 2) := by decide +kernel
theorem dX7_obeysGroup_80 : decode cX7_obeysGroup 80 = .ok (.idiv, 1) := by decide +kernel
theorem dX7_obeysGroup_81 : decode cX7_obeysGroup 81 = .ok (.bipush 10, 2) := by decide +kernel
theorem dX7_obeysGroup_83 : decode cX7_obeysGroup 83 = .ok (.irem, 1) := by decide +kernel
theorem dX7_obeysGroup_84 : decode cX7_obeysGroup 84 = .ok (.iload_n 2, 1) := by decide +kernel
theorem dX7_obeysGroup_85 : decode cX7_obeysGroup 85 = .ok (.bipush 10, 2) := by decide +kernel
theorem dX7_obeysGroup_87 : decode cX7_obeysGroup 87 = .ok (.idiv, 1) := by decide +kernel
theorem dX7_obeysGroup_88 : decode cX7_obeysGroup 88 = .ok (.bipush 10, 2) := by decide +kernel
theorem dX7_obeysGroup_90 : decode cX7_obeysGroup 90 = .ok (.irem, 1) := by decide +kernel
theorem dX7_obeysGroup_91 : decode cX7_obeysGroup 91 = .ok (.iload_n 2, 1) := by decide +kernel
theorem dX7_obeysGroup_92 : decode cX7_obeysGroup 92 = .ok (.bipush 10, 2) := by decide +kernel
theorem dX7_obeysGroup_94 : decode cX7_obeysGroup 94 = .ok (.irem, 1) := by decide +kernel
theorem dX7_obeysGroup_95 : decode cX7_obeysGroup 95 = .ok (.invokevirtual 318, 3) := by decide +kernel
theorem dX7_obeysGroup_98 : decode cX7_obeysGroup 98 = .ok (.ireturn, 1) := by decide +kernel
theorem dX7_obeysGroup_99 : decode cX7_obeysGroup 99 = .ok (.iload_n 2, 1) := by decide +kernel
theorem dX7_obeysGroup_100 : decode cX7_obeysGroup 100 = .ok (.bipush 100, 2) := by decide +kernel
theorem dX7_obeysGroup_102 : decode cX7_obeysGroup 102 = .ok (.if_icmp .ge 18, 3) := by decide +kernel
theorem dX7_obeysGroup_105 : decode cX7_obeysGroup 105 = .ok (.aload_n 0, 1) := by decide +kernel
theorem dX7_obeysGroup_106 : decode cX7_obeysGroup 106 = .ok (.getfield 38, 3) := by decide +kernel
theorem dX7_obeysGroup_109 : decode cX7_obeysGroup 109 = .ok (.iload_n 2, 1) := by decide +kernel
theorem dX7_obeysGroup_110 : decode cX7_obeysGroup 110 = .ok (.invokevirtual 322, 3) := by decide +kernel
theorem dX7_obeysGroup_113 : decode cX7_obeysGroup 113 = .ok (.ifCond .eq 7, 3) := by decide +kernel
theorem dX7_obeysGroup_116 : decode cX7_obeysGroup 116 = .ok (.iconst 1, 1) := by decide +kernel
theorem dX7_obeysGroup_117 : decode cX7_obeysGroup 117 = .ok (.goto 4, 3) := by decide +kernel
theorem dX7_obeysGroup_120 : decode cX7_obeysGroup 120 = .ok (.iconst 0, 1) := by decide +kernel
theorem dX7_obeysGroup_121 : decode cX7_obeysGroup 121 = .ok (.ireturn, 1) := by decide +kernel
theorem dX7_obeysGroup_122 : decode cX7_obeysGroup 122 = .ok (.iload_n 2, 1) := by decide +kernel
theorem dX7_obeysGroup_123 : decode cX7_obeysGroup 123 = .ok (.sipush 10000, 3) := by decide +kernel
theorem dX7_obeysGroup_126 : decode cX7_obeysGroup 126 = .ok (.if_icmp .ge 25, 3) := by decide +kernel
theorem dX7_obeysGroup_129 : decode cX7_obeysGroup 129 = .ok (.aload_n 0, 1) := by decide +kernel
theorem dX7_obeysGroup_130 : decode cX7_obeysGroup 130 = .ok (.getfield 38, 3) := by decide +kernel
theorem dX7_obeysGroup_133 : decode cX7_obeysGroup 133 = .ok (.iload_n 2, 1) := by decide +kernel
theorem dX7_obeysGroup_134 : decode cX7_obeysGroup 134 = .ok (.bipush 100, 2) := by decide +kernel
theorem dX7_obeysGroup_136 : decode cX7_obeysGroup 136 = .ok (.idiv, 1) := by decide +kernel
theorem dX7_obeysGroup_137 : decode cX7_obeysGroup 137 = .ok (.iload_n 2, 1) := by decide +kernel
theorem dX7_obeysGroup_138 : decode cX7_obeysGroup 138 = .ok (.bipush 100, 2) := by decide +kernel
theorem dX7_obeysGroup_140 : decode cX7_obeysGroup 140 = .ok (.irem, 1) := by decide +kernel
theorem dX7_obeysGroup_141 : decode cX7_obeysGroup 141 = .ok (.invokevirtual 329, 3) := by decide +kernel
theorem dX7_obeysGroup_144 : decode cX7_obeysGroup 144 = .ok (.ifCond .eq 7, 3) := by decide +kernel
theorem dX7_obeysGroup_147 : decode cX7_obeysGroup 147 = .ok (.iconst 1, 1) := by decide +kernel
theorem dX7_obeysGroup_148 : decode cX7_obeysGroup 148 = .ok (.goto 4, 3) := by decide +kernel
theorem dX7_obeysGroup_151 : decode cX7_obeysGroup 151 = .ok (.iconst 0, 1) := by decide +kernel
theorem dX7_obeysGroup_152 : decode cX7_obeysGroup 152 = .ok (.ireturn, 1) := by decide +kernel
theorem dX7_obeysGroup_153 : decode cX7_obeysGroup 153 = .ok (.iload_n 2, 1) := by decide +kernel
theorem dX7_obeysGroup_154 : decode cX7_obeysGroup 154 = .ok (.bipush 10, 2) := by decide +kernel
theorem dX7_obeysGroup_156 : decode cX7_obeysGroup 156 = .ok (.if_icmp .ge 18, 3) := by decide +kernel
theorem dX7_obeysGroup_159 : decode cX7_obeysGroup 159 = .ok (.aload_n 0, 1) := by decide +kernel
theorem dX7_obeysGroup_160 : decode cX7_obeysGroup 160 = .ok (.getfield 38, 3) := by decide +kernel
theorem dX7_obeysGroup_163 : decode cX7_obeysGroup 163 = .ok (.iload_n 2, 1) := by decide +kernel
theorem dX7_obeysGroup_164 : decode cX7_obeysGroup 164 = .ok (.invokevirtual 325, 3) := by decide +kernel
theorem dX7_obeysGroup_167 : decode cX7_obeysGroup 167 = .ok (.ifCond .eq 7, 3) := by decide +kernel
theorem dX7_obeysGroup_170 : decode cX7_obeysGroup 170 = .ok (.iconst 1, 1) := by decide +kernel
theorem dX7_obeysGroup_171 : decode cX7_obeysGroup 171 = .ok (.goto 4, 3) := by decide +kernel
theorem dX7_obeysGroup_174 : decode cX7_obeysGroup 174 = .ok (.iconst 0, 1) := by decide +kernel
theorem dX7_obeysGroup_175 : decode cX7_obeysGroup 175 = .ok (.ireturn, 1) := by decide +kernel
theorem dX7_obeysGroup_176 : decode cX7_obeysGroup 176 = .ok (.iload_n 2, 1) := by decide +kernel
theorem dX7_obeysGroup_177 : decode cX7_obeysGroup 177 = .ok (.bipush 10, 2) := by decide +kernel
theorem dX7_obeysGroup_179 : decode cX7_obeysGroup 179 = .ok (.if_icmp .ge 22, 3) := by decide +kernel
theorem dX7_obeysGroup_182 : decode cX7_obeysGroup 182 = .ok (.aload_n 0, 1) := by decide +kernel
theorem dX7_obeysGroup_183 : decode cX7_obeysGroup 183 = .ok (.getfield 44, 3) := by decide +kernel
theorem dX7_obeysGroup_186 : decode cX7_obeysGroup 186 = .ok (.aload_n 0, 1) := by decide +kernel
theorem dX7_obeysGroup_187 : decode cX7_obeysGroup 187 = .ok (.getfield 38, 3) := by decide +kernel
theorem dX7_obeysGroup_190 : decode cX7_obeysGroup 190 = .ok (.iload_n 2, 1) := by decide +kernel
theorem dX7_obeysGroup_191 : decode cX7_obeysGroup 191 = .ok (.invokevirtual 332, 3) := by decide +kernel
theorem dX7_obeysGroup_194 : decode cX7_obeysGroup 194 = .ok (.ifCond .eq 7, 3) := by decide +kernel
theorem dX7_obeysGroup_197 : decode cX7_obeysGroup 197 = .ok (.iconst 1, 1) := by decide +kernel
theorem dX7_obeysGroup_198 : decode cX7_obeysGroup 198 = .ok (.goto 4, 3) := by decide +kernel
theorem dX7_obeysGroup_201 : decode cX7_obeysGroup 201 = .ok (.iconst 0, 1) := by decide +kernel
theorem dX7_obeysGroup_202 : decode cX7_obeysGroup 202 = .ok (.ireturn, 1) := by decide +kernel
theorem dX7_obeysGroup_203 : decode cX7_obeysGroup 203 = .ok (.iload_n 2, 1) := by decide +kernel
theorem dX7_obeysGroup_204 : decode cX7_obeysGroup 204 = .ok (.ifCond .ne 21, 3) := by decide +kernel
theorem dX7_obeysGroup_207 : decode cX7_obeysGroup 207 = .ok (.aload_n 0, 1) := by decide +kernel
theorem dX7_obeysGroup_208 : decode cX7_obeysGroup 208 = .ok (.getfield 51, 3) := by decide +kernel
theorem dX7_obeysGroup_211 : decode cX7_obeysGroup 211 = .ok (.aload_n 0, 1) := by decide +kernel
theorem dX7_obeysGroup_212 : decode cX7_obeysGroup 212 = .ok (.getfield 38, 3) := by decide +kernel
theorem dX7_obeysGroup_215 : decode cX7_obeysGroup 215 = .ok (.invokevirtual 126, 3) := by decide +kernel
theorem dX7_obeysGroup_218 : decode cX7_obeysGroup 218 = .ok (.ifCond .eq 7, 3) := by decide +kernel
theorem dX7_obeysGroup_221 : decode cX7_obeysGroup 221 = .ok (.iconst 1, 1) := by decide +kernel
theorem dX7_obeysGroup_222 : decode cX7_obeysGroup 222 = .ok (.goto 4, 3) := by decide +kernel
theorem dX7_obeysGroup_225 : decode cX7_obeysGroup 225 = .ok (.iconst 0, 1) := by decide +kernel
theorem dX7_obeysGroup_226 : decode cX7_obeysGroup 226 = .ok (.ireturn, 1) := by decide +kernel
theorem dX7_obeysGroup_227 : decode cX7_obeysGroup 227 = .ok (.iload_n 2, 1) := by decide +kernel
theorem dX7_obeysGroup_228 : decode cX7_obeysGroup 228 = .ok (.sipush 10000, 3) := by decide +kernel
theorem dX7_obeysGroup_231 : decode cX7_obeysGroup 231 = .ok (.if_icmp .ge 25, 3) := by decide +kernel
theorem dX7_obeysGroup_234 : decode cX7_obeysGroup 234 = .ok (.aload_n 0, 1) := by decide +kernel
theorem dX7_obeysGroup_235 : decode cX7_obeysGroup 235 = .ok (.getfield 38, 3) := by decide +kernel
theorem dX7_obeysGroup_238 : decode cX7_obeysGroup 238 = .ok (.iload_n 2, 1) := by decide +kernel
theorem dX7_obeysGroup_239 : decode cX7_obeysGroup 239 = .ok (.bipush 100, 2) := by decide +kernel
theorem dX7_obeysGroup_241 : decode cX7_obeysGroup 241 = .ok (.idiv, 1) := by decide +kernel
theorem dX7_obeysGroup_242 : decode cX7_obeysGroup 242 = .ok (.iload_n 2, 1) := by decide +kernel
theorem dX7_obeysGroup_243 : decode cX7_obeysGroup 243 = .ok (.bipush 100, 2) := by decide +kernel
theorem dX7_obeysGroup_245 : decode cX7_obeysGroup 245 = .ok (.irem, 1) := by decide +kernel
theorem dX7_obeysGroup_246 : decode cX7_obeysGroup 246 = .ok (.invokevirtual 336, 3) := by decide +kernel
theorem dX7_obeysGroup_249 : decode cX7_obeysGroup 249 = .ok (.ifCond .eq 7, 3) := by decide +kernel
theorem dX7_obeysGroup_252 : decode cX7_obeysGroup 252 = .ok (.iconst 1, 1) := by decide +kernel
theorem dX7_obeysGroup_253 : decode cX7_obeysGroup 253 = .ok (.goto 4, 3) := by decide +kernel
theorem dX7_obeysGroup_256 : decode cX7_obeysGroup 256 = .ok (.iconst 0, 1) := by decide +kernel
theorem dX7_obeysGroup_257 : decode cX7_obeysGroup 257 = .ok (.ireturn, 1) := by decide +kernel
theorem dX7_obeysGroup_258 : decode cX7_obeysGroup 258 = .ok (.iload_n 2, 1) := by decide +kernel
theorem dX7_obeysGroup_259 : decode cX7_obeysGroup 259 = .ok (.sipush 1000, 3) := by decide +kernel
theorem dX7_obeysGroup_262 : decode cX7_obeysGroup 262 = .ok (.if_icmp .ge 18, 3) := by decide +kernel
theorem dX7_obeysGroup_265 : decode cX7_obeysGroup 265 = .ok (.aload_n 0, 1) := by decide +kernel
theorem dX7_obeysGroup_266 : decode cX7_obeysGroup 266 = .ok (.getfield 38, 3) := by decide +kernel
theorem dX7_obeysGroup_269 : decode cX7_obeysGroup 269 = .ok (.invokevirtual 120, 3) := by decide +kernel
theorem dX7_obeysGroup_272 : decode cX7_obeysGroup 272 = .ok (.iload_n 2, 1) := by decide +kernel
theorem dX7_obeysGroup_273 : decode cX7_obeysGroup 273 = .ok (.if_icmp .gt 7, 3) := by decide +kernel
theorem dX7_obeysGroup_276 : decode cX7_obeysGroup 276 = .ok (.iconst 1, 1) := by decide +kernel
theorem dX7_obeysGroup_277 : decode cX7_obeysGroup 277 = .ok (.goto 4, 3) := by decide +kernel
theorem dX7_obeysGroup_280 : decode cX7_obeysGroup 280 = .ok (.iconst 0, 1) := by decide +kernel
theorem dX7_obeysGroup_281 : decode cX7_obeysGroup 281 = .ok (.ireturn, 1) := by decide +kernel
theorem dX7_obeysGroup_282 : decode cX7_obeysGroup 282 = .ok (.iload_n 2, 1) := by decide +kernel
theorem dX7_obeysGroup_283 : decode cX7_obeysGroup 283 = .ok (.sipush 1000, 3) := by decide +kernel
theorem dX7_obeysGroup_286 : decode cX7_obeysGroup 286 = .ok (.if_icmp .ge 25, 3) := by decide +kernel
theorem dX7_obeysGroup_289 : decode cX7_obeysGroup 289 = .ok (.aload_n 0, 1) := by decide +kernel
theorem dX7_obeysGroup_290 : decode cX7_obeysGroup 290 = .ok (.getfield 38, 3) := by decide +kernel
theorem dX7_obeysGroup_293 : decode cX7_obeysGroup 293 = .ok (.iload_n 2, 1) := by decide +kernel
theorem dX7_obeysGroup_294 : decode cX7_obeysGroup 294 = .ok (.bipush 100, 2) := by decide +kernel
theorem dX7_obeysGroup_296 : decode cX7_obeysGroup 296 = .ok (.idiv, 1) := by decide +kernel
theorem dX7_obeysGroup_297 : decode cX7_obeysGroup 297 = .ok (.iload_n 2, 1) := by decide +kernel
theorem dX7_obeysGroup_298 : decode cX7_obeysGroup 298 = .ok (.bipush 100, 2) := by decide +kernel
theorem dX7_obeysGroup_300 : decode cX7_obeysGroup 300 = .ok (.irem, 1) := by decide +kernel
theorem dX7_obeysGroup_301 : decode cX7_obeysGroup 301 = .ok (.invokevirtual 339, 3) := by decide +kernel
theorem dX7_obeysGroup_304 : decode cX7_obeysGroup 304 = .ok (.ifCond .eq 7, 3) := by decide +kernel
theorem dX7_obeysGroup_307 : decode cX7_obeysGroup 307 = .ok (.iconst 1, 1) := by decide +kernel
theorem dX7_obeysGroup_308 : decode cX7_obeysGroup 308 = .ok (.goto 4, 3) := by decide +kernel
theorem dX7_obeysGroup_311 : decode cX7_obeysGroup 311 = .ok (.iconst 0, 1) := by decide +kernel
theorem dX7_obeysGroup_312 : decode cX7_obeysGroup 312 = .ok (.ireturn, 1) := by decide +kernel
theorem dX7_obeysGroup_313 : decode cX7_obeysGroup 313 = .ok (.iconst 0, 1) := by decide +kernel
theorem dX7_obeysGroup_314 : decode cX7_obeysGroup 314 = .ok (.ireturn, 1) := by decide +kernel
theorem dX7_takeTurn_0 : decode cX7_takeTurn 0 = .ok (.iload_n 1, 1) := by decide +kernel
theorem dX7_takeTurn_1 : decode cX7_takeTurn 1 = .ok (.bipush 8, 2) := by decide +kernel
theorem dX7_takeTurn_3 : decode cX7_takeTurn 3 = .ok (.idiv, 1) := by decide +kernel
theorem dX7_takeTurn_4 : decode cX7_takeTurn 4 = .ok (.bipush 8, 2) := by decide +kernel
theorem dX7_takeTurn_6 : decode cX7_takeTurn 6 = .ok (.irem, 1) := by decide +kernel
theorem dX7_takeTurn_7 : decode cX7_takeTurn 7 = .ok (.istore_n 2, 1) := by decide +kernel
theorem dX7_takeTurn_8 : decode cX7_takeTurn 8 = .ok (.iload_n 1, 1) := by decide +kernel
theorem dX7_takeTurn_9 : decode cX7_takeTurn 9 = .ok (.bipush 8, 2) := by decide +kernel
theorem dX7_takeTurn_11 : decode cX7_takeTurn 11 = .ok (.irem, 1) := by decide +kernel
theorem dX7_takeTurn_12 : decode cX7_takeTurn 12 = .ok (.tableswitch 123 0 2 #[28, 72, 90], 28) := by decide +kernel
theorem dX7_takeTurn_40 : decode cX7_takeTurn 40 = .ok (.aload_n 0, 1) := by decide +kernel
theorem dX7_takeTurn_41 : decode cX7_takeTurn 41 = .ok (.getfield 38, 3) := by decide +kernel
theorem dX7_takeTurn_44 : decode cX7_takeTurn 44 = .ok (.iload_n 2, 1) := by decide +kernel
theorem dX7_takeTurn_45 : decode cX7_takeTurn 45 = .ok (.iload_n 1, 1) := by decide +kernel
theorem dX7_takeTurn_46 : decode cX7_takeTurn 46 = .ok (.bipush 64, 2) := by decide +kernel
theorem dX7_takeTurn_48 : decode cX7_takeTurn 48 = .ok (.idiv, 1) := by decide +kernel
theorem dX7_takeTurn_49 : decode cX7_takeTurn 49 = .ok (.bipush 8, 2) := by decide +kernel
theorem dX7_takeTurn_51 : decode cX7_takeTurn 51 = .ok (.irem, 1) := by decide +kernel
theorem dX7_takeTurn_52 : decode cX7_takeTurn 52 = .ok (.iconst 1, 1) := by decide +kernel
theorem dX7_takeTurn_53 : decode cX7_takeTurn 53 = .ok (.iload_n 1, 1) := by decide +kernel
theorem dX7_takeTurn_54 : decode cX7_takeTurn 54 = .ok (.sipush 512, 3) := by decide +kernel
theorem dX7_takeTurn_57 : decode cX7_takeTurn 57 = .ok (.idiv, 1) := by decide +kernel
theorem dX7_takeTurn_58 : decode cX7_takeTurn 58 = .ok (.iconst 3, 1) := by decide +kernel
theorem dX7_takeTurn_59 : decode cX7_takeTurn 59 = .ok (.irem, 1) := by decide +kernel
theorem dX7_takeTurn_60 : decode cX7_takeTurn 60 = .ok (.iadd, 1) := by decide +kernel
theorem dX7_takeTurn_61 : decode cX7_takeTurn 61 = .ok (.iconst 1, 1) := by decide +kernel
theorem dX7_takeTurn_62 : decode cX7_takeTurn 62 = .ok (.iload_n 1, 1) := by decide +kernel
theorem dX7_takeTurn_63 : decode cX7_takeTurn 63 = .ok (.sipush 2048, 3) := by decide +kernel
theorem dX7_takeTurn_66 : decode cX7_takeTurn 66 = .ok (.idiv, 1) := by decide +kernel
theorem dX7_takeTurn_67 : decode cX7_takeTurn 67 = .ok (.iconst 3, 1) := by decide +kernel
theorem dX7_takeTurn_68 : decode cX7_takeTurn 68 = .ok (.irem, 1) := by decide +kernel
theorem dX7_takeTurn_69 : decode cX7_takeTurn 69 = .ok (.iadd, 1) := by decide +kernel
theorem dX7_takeTurn_70 : decode cX7_takeTurn 70 = .ok (.iload_n 1, 1) := by decide +kernel
theorem dX7_takeTurn_71 : decode cX7_takeTurn 71 = .ok (.sipush 8192, 3) := by decide +kernel
theorem dX7_takeTurn_74 : decode cX7_takeTurn 74 = .ok (.idiv, 1) := by decide +kernel
theorem dX7_takeTurn_75 : decode cX7_takeTurn 75 = .ok (.bipush 8, 2) := by decide +kernel
theorem dX7_takeTurn_77 : decode cX7_takeTurn 77 = .ok (.irem, 1) := by decide +kernel
theorem dX7_takeTurn_78 : decode cX7_takeTurn 78 = .ok (.invokevirtual 318, 3) := by decide +kernel
theorem dX7_takeTurn_81 : decode cX7_takeTurn 81 = .ok (.pop, 1) := by decide +kernel
theorem dX7_takeTurn_82 : decode cX7_takeTurn 82 = .ok (.iconst 0, 1) := by decide +kernel
theorem dX7_takeTurn_83 : decode cX7_takeTurn 83 = .ok (.ireturn, 1) := by decide +kernel
theorem dX7_takeTurn_84 : decode cX7_takeTurn 84 = .ok (.aload_n 0, 1) := by decide +kernel
theorem dX7_takeTurn_85 : decode cX7_takeTurn 85 = .ok (.getfield 38, 3) := by decide +kernel
theorem dX7_takeTurn_88 : decode cX7_takeTurn 88 = .ok (.iload_n 1, 1) := by decide +kernel
theorem dX7_takeTurn_89 : decode cX7_takeTurn 89 = .ok (.sipush 512, 3) := by decide +kernel
theorem dX7_takeTurn_92 : decode cX7_takeTurn 92 = .ok (.idiv, 1) := by decide +kernel
theorem dX7_takeTurn_93 : decode cX7_takeTurn 93 = .ok (.bipush 14, 2) := by decide +kernel
theorem dX7_takeTurn_95 : decode cX7_takeTurn 95 = .ok (.irem, 1) := by decide +kernel
theorem dX7_takeTurn_96 : decode cX7_takeTurn 96 = .ok (.invokevirtual 322, 3) := by decide +kernel
theorem dX7_takeTurn_99 : decode cX7_takeTurn 99 = .ok (.pop, 1) := by decide +kernel
theorem dX7_takeTurn_100 : decode cX7_takeTurn 100 = .ok (.iconst 0, 1) := by decide +kernel
theorem dX7_takeTurn_101 : decode cX7_takeTurn 101 = .ok (.ireturn, 1) := by decide +kernel
theorem dX7_takeTurn_102 : decode cX7_takeTurn 102 = .ok (.aload_n 0, 1) := by decide +kernel
theorem dX7_takeTurn_103 : decode cX7_takeTurn 103 = .ok (.getfield 44, 3) := by decide +kernel
theorem dX7_takeTurn_106 : decode cX7_takeTurn 106 = .ok (.aload_n 0, 1) := by decide +kernel
theorem dX7_takeTurn_107 : decode cX7_takeTurn 107 = .ok (.getfield 38, 3) := by decide +kernel
theorem dX7_takeTurn_110 : decode cX7_takeTurn 110 = .ok (.iload_n 1, 1) := by decide +kernel
theorem dX7_takeTurn_111 : decode cX7_takeTurn 111 = .ok (.sipush 512, 3) := by decide +kernel
theorem dX7_takeTurn_114 : decode cX7_takeTurn 114 = .ok (.idiv, 1) := by decide +kernel
theorem dX7_takeTurn_115 : decode cX7_takeTurn 115 = .ok (.iconst 3, 1) := by decide +kernel
theorem dX7_takeTurn_116 : decode cX7_takeTurn 116 = .ok (.irem, 1) := by decide +kernel
theorem dX7_takeTurn_117 : decode cX7_takeTurn 117 = .ok (.invokevirtual 332, 3) := by decide +kernel
theorem dX7_takeTurn_120 : decode cX7_takeTurn 120 = .ok (.ifCond .eq 13, 3) := by decide +kernel
theorem dX7_takeTurn_123 : decode cX7_takeTurn 123 = .ok (.aload_n 0, 1) := by decide +kernel
theorem dX7_takeTurn_124 : decode cX7_takeTurn 124 = .ok (.getfield 44, 3) := by decide +kernel
theorem dX7_takeTurn_127 : decode cX7_takeTurn 127 = .ok (.getfield 252, 3) := by decide +kernel
theorem dX7_takeTurn_130 : decode cX7_takeTurn 130 = .ok (.goto 4, 3) := by decide +kernel
theorem dX7_takeTurn_133 : decode cX7_takeTurn 133 = .ok (.iconst 0, 1) := by decide +kernel
theorem dX7_takeTurn_134 : decode cX7_takeTurn 134 = .ok (.ireturn, 1) := by decide +kernel
theorem dX7_takeTurn_135 : decode cX7_takeTurn 135 = .ok (.aload_n 0, 1) := by decide +kernel
theorem dX7_takeTurn_136 : decode cX7_takeTurn 136 = .ok (.getfield 38, 3) := by decide +kernel
theorem dX7_takeTurn_139 : decode cX7_takeTurn 139 = .ok (.iload_n 2, 1) := by decide +kernel
theorem dX7_takeTurn_140 : decode cX7_takeTurn 140 = .ok (.invokevirtual 325, 3) := by decide +kernel
theorem dX7_takeTurn_143 : decode cX7_takeTurn 143 = .ok (.ifCond .eq 7, 3) := by decide +kernel
theorem dX7_takeTurn_146 : decode cX7_takeTurn 146 = .ok (.iconst 1, 1) := by decide +kernel
theorem dX7_takeTurn_147 : decode cX7_takeTurn 147 = .ok (.goto 4, 3) := by decide +kernel
theorem dX7_takeTurn_150 : decode cX7_takeTurn 150 = .ok (.iconst 0, 1) := by decide +kernel
theorem dX7_takeTurn_151 : decode cX7_takeTurn 151 = .ok (.ireturn, 1) := by decide +kernel
theorem dJ9_max_7cf53_0 : decode cJ9_max_7cf53 0 = .ok (.iload_n 0, 1) := by decide +kernel
theorem dJ9_max_7cf53_1 : decode cJ9_max_7cf53 1 = .ok (.iload_n 1, 1) := by decide +kernel
theorem dJ9_max_7cf53_2 : decode cJ9_max_7cf53 2 = .ok (.if_icmp .lt 7, 3) := by decide +kernel
theorem dJ9_max_7cf53_5 : decode cJ9_max_7cf53 5 = .ok (.iload_n 0, 1) := by decide +kernel
theorem dJ9_max_7cf53_6 : decode cJ9_max_7cf53 6 = .ok (.goto 4, 3) := by decide +kernel
theorem dJ9_max_7cf53_9 : decode cJ9_max_7cf53 9 = .ok (.iload_n 1, 1) := by decide +kernel
theorem dJ9_max_7cf53_10 : decode cJ9_max_7cf53 10 = .ok (.ireturn, 1) := by decide +kernel
theorem dJ9_min_7cf53_0 : decode cJ9_min_7cf53 0 = .ok (.iload_n 0, 1) := by decide +kernel
theorem dJ9_min_7cf53_1 : decode cJ9_min_7cf53 1 = .ok (.iload_n 1, 1) := by decide +kernel
theorem dJ9_min_7cf53_2 : decode cJ9_min_7cf53 2 = .ok (.if_icmp .gt 7, 3) := by decide +kernel
theorem dJ9_min_7cf53_5 : decode cJ9_min_7cf53 5 = .ok (.iload_n 0, 1) := by decide +kernel
theorem dJ9_min_7cf53_6 : decode cJ9_min_7cf53 6 = .ok (.goto 4, 3) := by decide +kernel
theorem dJ9_min_7cf53_9 : decode cJ9_min_7cf53 9 = .ok (.iload_n 1, 1) := by decide +kernel
theorem dJ9_min_7cf53_10 : decode cJ9_min_7cf53 10 = .ok (.ireturn, 1) := by decide +kernel
end
section
theorem dX8_init_0 : decode cX8_init 0 = .ok (.aload_n 0, 1) := by decide +kernel
theorem dX8_init_1 : decode cX8_init 1 = .ok (.invokespecial 1, 3) := by decide +kernel
theorem dX8_init_4 : decode cX8_init 4 = .ok (.aload_n 0, 1) := by decide +kernel
theorem dX8_init_5 : decode cX8_init 5 = .ok (.bipush 120, 2) := by decide +kernel
theorem dX8_init_7 : decode cX8_init 7 = .ok (.newarray .int, 2) := by decide +kernel
theorem dX8_init_9 : decode cX8_init 9 = .ok (.putfield 7, 3) := by decide +kernel
theorem dX8_init_12 : decode cX8_init 12 = .ok (.aload_n 0, 1) := by decide +kernel
theorem dX8_init_13 : decode cX8_init 13 = .ok (.bipush 96, 2) := by decide +kernel
theorem dX8_init_15 : decode cX8_init 15 = .ok (.newarray .int, 2) := by decide +kernel
theorem dX8_init_17 : decode cX8_init 17 = .ok (.putfield 13, 3) := by decide +kernel
theorem dX8_init_20 : decode cX8_init 20 = .ok (.aload_n 0, 1) := by decide +kernel
theorem dX8_init_21 : decode cX8_init 21 = .ok (.bipush 96, 2) := by decide +kernel
theorem dX8_init_23 : decode cX8_init 23 = .ok (.newarray .int, 2) := by decide +kernel
theorem dX8_init_25 : decode cX8_init 25 = .ok (.putfield 16, 3) := by decide +kernel
theorem dX8_init_28 : decode cX8_init 28 = .ok (.aload_n 0, 1) := by decide +kernel
theorem dX8_init_29 : decode cX8_init 29 = .ok (.bipush 96, 2) := by decide +kernel
theorem dX8_init_31 : decode cX8_init 31 = .ok (.newarray .int, 2) := by decide +kernel
theorem dX8_init_33 : decode cX8_init 33 = .ok (.putfield 19, 3) := by decide +kernel
theorem dX8_init_36 : decode cX8_init 36 = .ok (.aload_n 0, 1) := by decide +kernel
theorem dX8_init_37 : decode cX8_init 37 = .ok (.sipush 1344, 3) := by decide +kernel
theorem dX8_init_40 : decode cX8_init 40 = .ok (.newarray .int, 2) := by decide +kernel
theorem dX8_init_42 : decode cX8_init 42 = .ok (.putfield 22, 3) := by decide +kernel
theorem dX8_init_45 : decode cX8_init 45 = .ok (.aload_n 0, 1) := by decide +kernel
theorem dX8_init_46 : decode cX8_init 46 = .ok (.sipush 192, 3) := by decide +kernel
theorem dX8_init_49 : decode cX8_init 49 = .ok (.newarray .int, 2) := by decide +kernel
theorem dX8_init_51 : decode cX8_init 51 = .ok (.putfield 25, 3) := by decide +kernel
theorem dX8_init_54 : decode cX8_init 54 = .ok (.aload_n 0, 1) := by decide +kernel
theorem dX8_init_55 : decode cX8_init 55 = .ok (.iconst 2, 1) := by decide +kernel
theorem dX8_init_56 : decode cX8_init 56 = .ok (.newarray .boolean, 2) := by decide +kernel
theorem dX8_init_58 : decode cX8_init 58 = .ok (.putfield 28, 3) := by decide +kernel
theorem dX8_init_61 : decode cX8_init 61 = .ok (.aload_n 0, 1) := by decide +kernel
theorem dX8_init_62 : decode cX8_init 62 = .ok (.bipush 8, 2) := by decide +kernel
theorem dX8_init_64 : decode cX8_init 64 = .ok (.newarray .int, 2) := by decide +kernel
theorem dX8_init_66 : decode cX8_init 66 = .ok (.putfield 32, 3) := by decide +kernel
theorem dX8_init_69 : decode cX8_init 69 = .ok (.aload_n 0, 1) := by decide +kernel
theorem dX8_init_70 : decode cX8_init 70 = .ok (.bipush 8, 2) := by decide +kernel
theorem dX8_init_72 : decode cX8_init 72 = .ok (.newarray .int, 2) := by decide +kernel
theorem dX8_init_74 : decode cX8_init 74 = .ok (.putfield 35, 3) := by decide +kernel
theorem dX8_init_77 : decode cX8_init 77 = .ok (.aload_n 0, 1) := by decide +kernel
theorem dX8_init_78 : decode cX8_init 78 = .ok (.bipush 8, 2) := by decide +kernel
theorem dX8_init_80 : decode cX8_init 80 = .ok (.newarray .long, 2) := by decide +kernel
theorem dX8_init_82 : decode cX8_init 82 = .ok (.putfield 38, 3) := by decide +kernel
theorem dX8_init_85 : decode cX8_init 85 = .ok (.aload_n 0, 1) := by decide +kernel
theorem dX8_init_86 : decode cX8_init 86 = .ok (.bipush 8, 2) := by decide +kernel
theorem dX8_init_88 : decode cX8_init 88 = .ok (.newarray .long, 2) := by decide +kernel
theorem dX8_init_90 : decode cX8_init 90 = .ok (.putfield 42, 3) := by decide +kernel
theorem dX8_init_93 : decode cX8_init 93 = .ok (.aload_n 0, 1) := by decide +kernel
theorem dX8_init_94 : decode cX8_init 94 = .ok (.bipush 8, 2) := by decide +kernel
theorem dX8_init_96 : decode cX8_init 96 = .ok (.newarray .int, 2) := by decide +kernel
theorem dX8_init_98 : decode cX8_init 98 = .ok (.putfield 45, 3) := by decide +kernel
theorem dX8_init_101 : decode cX8_init 101 = .ok (.aload_n 0, 1) := by decide +kernel
theorem dX8_init_102 : decode cX8_init 102 = .ok (.sipush 480, 3) := by decide +kernel
theorem dX8_init_105 : decode cX8_init 105 = .ok (.newarray .int, 2) := by decide +kernel
theorem dX8_init_107 : decode cX8_init 107 = .ok (.putfield 48, 3) := by decide +kernel
theorem dX8_init_110 : decode cX8_init 110 = .ok (.aload_n 0, 1) := by decide +kernel
theorem dX8_init_111 : decode cX8_init 111 = .ok (.bipush 14, 2) := by decide +kernel
theorem dX8_init_113 : decode cX8_init 113 = .ok (.newarray .int, 2) := by decide +kernel
theorem dX8_init_115 : decode cX8_init 115 = .ok (.putfield 51, 3) := by decide +kernel
theorem dX8_init_118 : decode cX8_init 118 = .ok (.aload_n 0, 1) := by decide +kernel
theorem dX8_init_119 : decode cX8_init 119 = .ok (.bipush 64, 2) := by decide +kernel
theorem dX8_init_121 : decode cX8_init 121 = .ok (.newarray .int, 2) := by decide +kernel
theorem dX8_init_123 : decode cX8_init 123 = .ok (.putfield 54, 3) := by decide +kernel
theorem dX8_init_126 : decode cX8_init 126 = .ok (.aload_n 0, 1) := by decide +kernel
theorem dX8_init_127 : decode cX8_init 127 = .ok (.bipush 96, 2) := by decide +kernel
theorem dX8_init_129 : decode cX8_init 129 = .ok (.newarray .int, 2) := by decide +kernel
theorem dX8_init_131 : decode cX8_init 131 = .ok (.putfield 57, 3) := by decide +kernel
theorem dX8_init_134 : decode cX8_init 134 = .ok (.return_, 1) := by decide +kernel
theorem dX8_thrown_0 : decode cX8_thrown 0 = .ok (.aload_n 0, 1) := by decide +kernel
theorem dX8_thrown_1 : decode cX8_thrown 1 = .ok (.getfield 60, 3) := by decide +kernel
theorem dX8_thrown_4 : decode cX8_thrown 4 = .ok (.ireturn, 1) := by decide +kernel
theorem dX8_refused_0 : decode cX8_refused 0 = .ok (.aload_n 0, 1) := by decide +kernel
theorem dX8_refused_1 : decode cX8_refused 1 = .ok (.iload_n 1, 1) := by decide +kernel
theorem dX8_refused_2 : decode cX8_refused 2 = .ok (.putfield 60, 3) := by decide +kernel
theorem dX8_refused_5 : decode cX8_refused 5 = .ok (.iload_n 1, 1) := by decide +kernel
theorem dX8_refused_6 : decode cX8_refused 6 = .ok (.ifCond .le 7, 3) := by decide +kernel
theorem dX8_refused_9 : decode cX8_refused 9 = .ok (.iconst 1, 1) := by decide +kernel
theorem dX8_refused_10 : decode cX8_refused 10 = .ok (.goto 4, 3) := by decide +kernel
theorem dX8_refused_13 : decode cX8_refused 13 = .ok (.iconst 0, 1) := by decide +kernel
theorem dX8_refused_14 : decode cX8_refused 14 = .ok (.ireturn, 1) := by decide +kernel
theorem dX8_in_0 : decode cX8_in 0 = .ok (.lload_n 0, 1) := by decide +kernel
theorem dX8_in_1 : decode cX8_in 1 = .ok (.lload_n 2, 1) := by decide +kernel
theorem dX8_in_2 : decode cX8_in 2 = .ok (.lcmp, 1) := by decide +kernel
theorem dX8_in_3 : decode cX8_in 3 = .ok (.ifCond .lt 14, 3) := by decide +kernel
theorem dX8_in_6 : decode cX8_in 6 = .ok (.lload_n 0, 1) := by decide +kernel
theorem dX8_in_7 : decode cX8_in 7 = .ok (.lload 4, 2) := by decide +kernel
theorem dX8_in_9 : decode cX8_in 9 = .ok (.lcmp, 1) := by decide +kernel
theorem dX8_in_10 : decode cX8_in 10 = .ok (.ifCond .gt 7, 3) := by decide +kernel
theorem dX8_in_13 : decode cX8_in 13 = .ok (.iconst 1, 1) := by decide +kernel
theorem dX8_in_14 : decode cX8_in 14 = .ok (.goto 4, 3) := by decide +kernel
theorem dX8_in_17 : decode cX8_in 17 = .ok (.iconst 0, 1) := by decide +kernel
theorem dX8_in_18 : decode cX8_in 18 = .ok (.ireturn, 1) := by decide +kernel
theorem dX8_copy_0 : decode cX8_copy 0 = .ok (.iconst 0, 1) := by decide +kernel
theorem dX8_copy_1 : decode cX8_copy 1 = .ok (.istore 5, 2) := by decide +kernel
theorem dX8_copy_3 : decode cX8_copy 3 = .ok (.iload 5, 2) := by decide +kernel
theorem dX8_copy_5 : decode cX8_copy 5 = .ok (.iload 4, 2) := by decide +kernel
theorem dX8_copy_7 : decode cX8_copy 7 = .ok (.if_icmp .ge 21, 3) := by decide +kernel
theorem dX8_copy_10 : decode cX8_copy 10 = .ok (.aload_n 2, 1) := by decide +kernel
theorem dX8_copy_11 : decode cX8_copy 11 = .ok (.iload_n 3, 1) := by decide +kernel
theorem dX8_copy_12 : decode cX8_copy 12 = .ok (.iload 5, 2) := by decide +kernel
theorem dX8_copy_14 : decode cX8_copy 14 = .ok (.iadd, 1) := by decide +kernel
theorem dX8_copy_15 : decode cX8_copy 15 = .ok (.aload_n 0, 1) := by decide +kernel
theorem dX8_copy_16 : decode cX8_copy 16 = .ok (.iload_n 1, 1) := by decide +kernel
theorem dX8_copy_17 : decode cX8_copy 17 = .ok (.iload 5, 2) := by decide +kernel
theorem dX8_copy_19 : decode cX8_copy 19 = .ok (.iadd, 1) := by decide +kernel
theorem dX8_copy_20 : decode cX8_copy 20 = .ok (.iaload, 1) := by decide +kernel
theorem dX8_copy_21 : decode cX8_copy 21 = .ok (.iastore, 1) := by decide +kernel
theorem dX8_copy_22 : decode cX8_copy 22 = .ok (.iinc 5 1, 3) := by decide +kernel
theorem dX8_copy_25 : decode cX8_copy 25 = .ok (.goto (-22), 3) := by decide +kernel
theorem dX8_copy_28 : decode cX8_copy 28 = .ok (.return_, 1) := by decide +kernel
theorem dX8_tenTo_0 : decode cX8_tenTo 0 = .ok (.lconst 1, 1) := by decide +kernel
theorem dX8_tenTo_1 : decode cX8_tenTo 1 = .ok (.lstore_n 1, 1) := by decide +kernel
theorem dX8_tenTo_2 : decode cX8_tenTo 2 = .ok (.iconst 0, 1) := by decide +kernel
theorem dX8_tenTo_3 : decode cX8_tenTo 3 = .ok (.istore_n 3, 1) := by decide +kernel
theorem dX8_tenTo_4 : decode cX8_tenTo 4 = .ok (.iload_n 3, 1) := by decide +kernel
theorem dX8_tenTo_5 : decode cX8_tenTo 5 = .ok (.iload_n 0, 1) := by decide +kernel
theorem dX8_tenTo_6 : decode cX8_tenTo 6 = .ok (.if_icmp .ge 15, 3) := by decide +kernel
theorem dX8_tenTo_9 : decode cX8_tenTo 9 = .ok (.lload_n 1, 1) := by decide +kernel
theorem dX8_tenTo_10 : decode cX8_tenTo 10 = .ok (.ldc2_w 64, 3) := by decide +kernel
theorem dX8_tenTo_13 : decode cX8_tenTo 13 = .ok (.lmul, 1) := by decide +kernel
theorem dX8_tenTo_14 : decode cX8_tenTo 14 = .ok (.lstore_n 1, 1) := by decide +kernel
theorem dX8_tenTo_15 : decode cX8_tenTo 15 = .ok (.iinc 3 1, 3) := by decide +kernel
theorem dX8_tenTo_18 : decode cX8_tenTo 18 = .ok (.goto (-14), 3) := by decide +kernel
theorem dX8_tenTo_21 : decode cX8_tenTo 21 = .ok (.lload_n 1, 1) := by decide +kernel
theorem dX8_tenTo_22 : decode cX8_tenTo 22 = .ok (.lreturn, 1) := by decide +kernel
theorem dX8_remember_0 : decode cX8_remember 0 = .ok (.aload_n 0, 1) := by decide +kernel
theorem dX8_remember_1 : decode cX8_remember 1 = .ok (.getfield 66, 3) := by decide +kernel
theorem dX8_remember_4 : decode cX8_remember 4 = .ok (.bipush 14, 2) := by decide +kernel
theorem dX8_remember_6 : decode cX8_remember 6 = .ok (.if_icmp .ne 30, 3) := by decide +kernel
theorem dX8_remember_9 : decode cX8_remember 9 = .ok (.aload_n 0, 1) := by decide +kernel
theorem dX8_remember_10 : decode cX8_remember 10 = .ok (.getfield 22, 3) := by decide +kernel
theorem dX8_remember_13 : decode cX8_remember 13 = .ok (.bipush 96, 2) := by decide +kernel
theorem dX8_remember_15 : decode cX8_remember 15 = .ok (.aload_n 0, 1) := by decide +kernel
theorem dX8_remember_16 : decode cX8_remember 16 = .ok (.getfield 22, 3) := by decide +kernel
theorem dX8_remember_19 : decode cX8_remember 19 = .ok (.iconst 0, 1) := by decide +kernel
theorem dX8_remember_20 : decode cX8_remember 20 = .ok (.sipush 1248, 3) := by decide +kernel
theorem dX8_remember_23 : decode cX8_remember 23 = .ok (.invokestatic 69, 3) := by decide +kernel
theorem dX8_remember_26 : decode cX8_remember 26 = .ok (.aload_n 0, 1) := by decide +kernel
theorem dX8_remember_27 : decode cX8_remember 27 = .ok (.dup, 1) := by decide +kernel
theorem dX8_remember_28 : decode cX8_remember 28 = .ok (.getfield 66, 3) := by decide +kernel
theorem dX8_remember_31 : decode cX8_remember 31 = .ok (.iconst 1, 1) := by decide +kernel
theorem dX8_remember_32 : decode cX8_remember 32 = .ok (.isub, 1) := by decide +kernel
theorem dX8_remember_33 : decode cX8_remember 33 = .ok (.putfield 66, 3) := by decide +kernel
theorem dX8_remember_36 : decode cX8_remember 36 = .ok (.aload_n 0, 1) := by decide +kernel
theorem dX8_remember_37 : decode cX8_remember 37 = .ok (.getfield 16, 3) := by decide +kernel
theorem dX8_remember_40 : decode cX8_remember 40 = .ok (.iconst 0, 1) := by decide +kernel
theorem dX8_remember_41 : decode cX8_remember 41 = .ok (.aload_n 0, 1) := by decide +kernel
theorem dX8_remember_42 : decode cX8_remember 42 = .ok (.getfield 22, 3) := by decide +kernel
theorem dX8_remember_45 : decode cX8_remember 45 = .ok (.bipush 96, 2) := by decide +kernel
theorem dX8_remember_47 : decode cX8_remember 47 = .ok (.aload_n 0, 1) := by decide +kernel
theorem dX8_remember_48 : decode cX8_remember 48 = .ok (.getfield 66, 3) := by decide +kernel
theorem dX8_remember_51 : decode cX8_remember 51 = .ok (.imul, 1) := by decide +kernel
theorem dX8_remember_52 : decode cX8_remember 52 = .ok (.bipush 96, 2) := by decide +kernel
theorem dX8_remember_54 : decode cX8_remember 54 = .ok (.invokestatic 69, 3) := by decide +kernel
theorem dX8_remember_57 : decode cX8_remember 57 = .ok (.aload_n 0, 1) := by decide +kernel
theorem dX8_remember_58 : decode cX8_remember 58 = .ok (.dup, 1) := by decide +kernel
theorem dX8_remember_59 : decode cX8_remember 59 = .ok (.getfield 66, 3) := by decide +kernel
theorem dX8_remember_62 : decode cX8_remember 62 = .ok (.iconst 1, 1) := by decide +kernel
theorem dX8_remember_63 : decode cX8_remember 63 = .ok (.iadd, 1) := by decide +kernel
theorem dX8_remember_64 : decode cX8_remember 64 = .ok (.putfield 66, 3) := by decide +kernel
theorem dX8_remember_67 : decode cX8_remember 67 = .ok (.return_, 1) := by decide +kernel
theorem dX8_tryIt_0 : decode cX8_tryIt 0 = .ok (.aload_n 0, 1) := by decide +kernel
theorem dX8_tryIt_1 : decode cX8_tryIt 1 = .ok (.getfield 16, 3) := by decide +kernel
theorem dX8_tryIt_4 : decode cX8_tryIt 4 = .ok (.iconst 0, 1) := by decide +kernel
theorem dX8_tryIt_5 : decode cX8_tryIt 5 = .ok (.aload_n 0, 1) := by decide +kernel
theorem dX8_tryIt_6 : decode cX8_tryIt 6 = .ok (.getfield 19, 3) := by decide +kernel
theorem dX8_tryIt_9 : decode cX8_tryIt 9 = .ok (.iconst 0, 1) := by decide +kernel
theorem dX8_tryIt_10 : decode cX8_tryIt 10 = .ok (.bipush 96, 2) := by decide +kernel
theorem dX8_tryIt_12 : decode cX8_tryIt 12 = .ok (.invokestatic 69, 3) := by decide +kernel
theorem dX8_tryIt_15 : decode cX8_tryIt 15 = .ok (.return_, 1) := by decide +kernel
theorem dX8_moduleAt_0 : decode cX8_moduleAt 0 = .ok (.iconst 2, 1) := by decide +kernel
theorem dX8_moduleAt_1 : decode cX8_moduleAt 1 = .ok (.iconst 3, 1) := by decide +kernel
theorem dX8_moduleAt_2 : decode cX8_moduleAt 2 = .ok (.iload_n 0, 1) := by decide +kernel
theorem dX8_moduleAt_3 : decode cX8_moduleAt 3 = .ok (.imul, 1) := by decide +kernel
theorem dX8_moduleAt_4 : decode cX8_moduleAt 4 = .ok (.iadd, 1) := by decide +kernel
theorem dX8_moduleAt_5 : decode cX8_moduleAt 5 = .ok (.iload_n 1, 1) := by decide +kernel
theorem dX8_moduleAt_6 : decode cX8_moduleAt 6 = .ok (.iadd, 1) := by decide +kernel
theorem dX8_moduleAt_7 : decode cX8_moduleAt 7 = .ok (.ireturn, 1) := by decide +kernel
theorem dX8_wireAt_0 : decode cX8_wireAt 0 = .ok (.bipush 26, 2) := by decide +kernel
theorem dX8_wireAt_2 : decode cX8_wireAt 2 = .ok (.iconst 5, 1) := by decide +kernel
theorem dX8_wireAt_3 : decode cX8_wireAt 3 = .ok (.iload_n 0, 1) := by decide +kernel
theorem dX8_wireAt_4 : decode cX8_wireAt 4 = .ok (.imul, 1) := by decide +kernel
theorem dX8_wireAt_5 : decode cX8_wireAt 5 = .ok (.iadd, 1) := by decide +kernel
theorem dX8_wireAt_6 : decode cX8_wireAt 6 = .ok (.iload_n 1, 1) := by decide +kernel
theorem dX8_wireAt_7 : decode cX8_wireAt 7 = .ok (.iadd, 1) := by decide +kernel
theorem dX8_wireAt_8 : decode cX8_wireAt 8 = .ok (.ireturn, 1) := by decide +kernel
theorem dX8_marks_0 : decode cX8_marks 0 = .ok (.iconst 0, 1) := by decide +kernel
theorem dX8_marks_1 : decode cX8_marks 1 = .ok (.istore_n 1, 1) := by decide +kernel
theorem dX8_marks_2 : decode cX8_marks 2 = .ok (.iconst 0, 1) := by decide +kernel
theorem dX8_marks_3 : decode cX8_marks 3 = .ok (.istore_n 2, 1) := by decide +kernel
theorem dX8_marks_4 : decode cX8_marks 4 = .ok (.iload_n 2, 1) := by decide +kernel
theorem dX8_marks_5 : decode cX8_marks 5 = .ok (.aload_n 0, 1) := by decide +kernel
theorem dX8_marks_6 : decode cX8_marks 6 = .ok (.iconst 1, 1) := by decide +kernel
theorem dX8_marks_7 : decode cX8_marks 7 = .ok (.iaload, 1) := by decide +kernel
theorem dX8_marks_8 : decode cX8_marks 8 = .ok (.if_icmp .ge 19, 3) := by decide +kernel
theorem dX8_marks_11 : decode cX8_marks 11 = .ok (.iload_n 1, 1) := by decide +kernel
theorem dX8_marks_12 : decode cX8_marks 12 = .ok (.aload_n 0, 1) := by decide +kernel
theorem dX8_marks_13 : decode cX8_marks 13 = .ok (.iload_n 2, 1) := by decide +kernel
theorem dX8_marks_14 : decode cX8_marks 14 = .ok (.iconst 4, 1) := by decide +kernel
theorem dX8_marks_15 : decode cX8_marks 15 = .ok (.invokestatic 73, 3) := by decide +kernel
theorem dX8_marks_18 : decode cX8_marks 18 = .ok (.iaload, 1) := by decide +kernel
theorem dX8_marks_19 : decode cX8_marks 19 = .ok (.iadd, 1) := by decide +kernel
theorem dX8_marks_20 : decode cX8_marks 20 = .ok (.istore_n 1, 1) := by decide +kernel
theorem dX8_marks_21 : decode cX8_marks 21 = .ok (.iinc 2 1, 3) := by decide +kernel
theorem dX8_marks_24 : decode cX8_marks 24 = .ok (.goto (-20), 3) := by decide +kernel
theorem dX8_marks_27 : decode cX8_marks 27 = .ok (.iload_n 1, 1) := by decide +kernel
theorem dX8_marks_28 : decode cX8_marks 28 = .ok (.ireturn, 1) := by decide +kernel
theorem dX8_works_0 : decode cX8_works 0 = .ok (.iconst 0, 1) := by decide +kernel
theorem dX8_works_1 : decode cX8_works 1 = .ok (.istore_n 1, 1) := by decide +kernel
theorem dX8_works_2 : decode cX8_works 2 = .ok (.iconst 0, 1) := by decide +kernel
theorem dX8_works_3 : decode cX8_works 3 = .ok (.istore_n 2, 1) := by decide +kernel
theorem dX8_works_4 : decode cX8_works 4 = .ok (.iload_n 2, 1) := by decide +kernel
theorem dX8_works_5 : decode cX8_works 5 = .ok (.aload_n 0, 1) := by decide +kernel
theorem dX8_works_6 : decode cX8_works 6 = .ok (.iconst 0, 1) := by decide +kernel
theorem dX8_works_7 : decode cX8_works 7 = .ok (.iaload, 1) := by decide +kernel
theorem dX8_works_8 : decode cX8_works 8 = .ok (.if_icmp .ge 19, 3) := by decide +kernel
theorem dX8_works_11 : decode cX8_works 11 = .ok (.iload_n 1, 1) := by decide +kernel
theorem dX8_works_12 : decode cX8_works 12 = .ok (.aload_n 0, 1) := by decide +kernel
theorem dX8_works_13 : decode cX8_works 13 = .ok (.iload_n 2, 1) := by decide +kernel
theorem dX8_works_14 : decode cX8_works 14 = .ok (.iconst 2, 1) := by decide +kernel
theorem dX8_works_15 : decode cX8_works 15 = .ok (.invokestatic 77, 3) := by decide +kernel
theorem dX8_works_18 : decode cX8_works 18 = .ok (.iaload, 1) := by decide +kernel
theorem dX8_works_19 : decode cX8_works 19 = .ok (.iadd, 1) := by decide +kernel
theorem dX8_works_20 : decode cX8_works 20 = .ok (.istore_n 1, 1) := by decide +kernel
theorem dX8_works_21 : decode cX8_works 21 = .ok (.iinc 2 1, 3) := by decide +kernel
theorem dX8_works_24 : decode cX8_works 24 = .ok (.goto (-20), 3) := by decide +kernel
theorem dX8_works_27 : decode cX8_works 27 = .ok (.iload_n 1, 1) := by decide +kernel
theorem dX8_works_28 : decode cX8_works 28 = .ok (.ireturn, 1) := by decide +kernel
theorem dX8_layWays_0 : decode cX8_layWays 0 = .ok (.iconst 0, 1) := by decide +kernel
theorem dX8_layWays_1 : decode cX8_layWays 1 = .ok (.istore_n 3, 1) := by decide +kernel
theorem dX8_layWays_2 : decode cX8_layWays 2 = .ok (.iload_n 3, 1) := by decide +kernel
theorem dX8_layWays_3 : decode cX8_layWays 3 = .ok (.bipush 64, 2) := by decide +kernel
theorem dX8_layWays_5 : decode cX8_layWays 5 = .ok (.if_icmp .ge 17, 3) := by decide +kernel
theorem dX8_layWays_8 : decode cX8_layWays 8 = .ok (.aload_n 0, 1) := by decide +kernel
theorem dX8_layWays_9 : decode cX8_layWays 9 = .ok (.getfield 54, 3) := by decide +kernel
theorem dX8_layWays_12 : decode cX8_layWays 12 = .ok (.iload_n 3, 1) := by decide +kernel
theorem dX8_layWays_13 : decode cX8_layWays 13 = .ok (.ldc 80, 2) := by decide +kernel
theorem dX8_layWays_15 : decode cX8_layWays 15 = .ok (.iastore, 1) := by decide +kernel
theorem dX8_layWays_16 : decode cX8_layWays 16 = .ok (.iinc 3 1, 3) := by decide +kernel
theorem dX8_layWays_19 : decode cX8_layWays 19 = .ok (.goto (-17), 3) := by decide +kernel
theorem dX8_layWays_22 : decode cX8_layWays 22 = .ok (.iconst 0, 1) := by decide +kernel
theorem dX8_layWays_23 : decode cX8_layWays 23 = .ok (.istore_n 3, 1) := by decide +kernel
theorem dX8_layWays_24 : decode cX8_layWays 24 = .ok (.iload_n 3, 1) := by decide +kernel
theorem dX8_layWays_25 : decode cX8_layWays 25 = .ok (.aload_n 1, 1) := by decide +kernel
theorem dX8_layWays_26 : decode cX8_layWays 26 = .ok (.iconst 1, 1) := by decide +kernel
theorem dX8_layWays_27 : decode cX8_layWays 27 = .ok (.iaload, 1) := by decide +kernel
theorem dX8_layWays_28 : decode cX8_layWays 28 = .ok (.if_icmp .ge 93, 3) := by decide +kernel
theorem dX8_layWays_31 : decode cX8_layWays 31 = .ok (.bipush 8, 2) := by decide +kernel
theorem dX8_layWays_33 : decode cX8_layWays 33 = .ok (.aload_n 1, 1) := by decide +kernel
theorem dX8_layWays_34 : decode cX8_layWays 34 = .ok (.iload_n 3, 1) := by decide +kernel
theorem dX8_layWays_35 : decode cX8_layWays 35 = .ok (.iconst 0, 1) := by decide +kernel
theorem dX8_layWays_36 : decode cX8_layWays 36 = .ok (.invokestatic 73, 3) := by decide +kernel
theorem dX8_layWays_39 : decode cX8_layWays 39 = .ok (.iaload, 1) := by decide +kernel
theorem dX8_layWays_40 : decode cX8_layWays 40 = .ok (.imul, 1) := by decide +kernel
theorem dX8_layWays_41 : decode cX8_layWays 41 = .ok (.aload_n 1, 1) := by decide +kernel
theorem dX8_layWays_42 : decode cX8_layWays 42 = .ok (.iload_n 3, 1) := by decide +kernel
theorem dX8_layWays_43 : decode cX8_layWays 43 = .ok (.iconst 1, 1) := by decide +kernel
theorem dX8_layWays_44 : decode cX8_layWays 44 = .ok (.invokestatic 73, 3) := by decide +kernel
theorem dX8_layWays_47 : decode cX8_layWays 47 = .ok (.iaload, 1) := by decide +kernel
theorem dX8_layWays_48 : decode cX8_layWays 48 = .ok (.iadd, 1) := by decide +kernel
theorem dX8_layWays_49 : decode cX8_layWays 49 = .ok (.istore 4, 2) := by decide +kernel
theorem dX8_layWays_51 : decode cX8_layWays 51 = .ok (.aload_n 1, 1) := by decide +kernel
theorem dX8_layWays_52 : decode cX8_layWays 52 = .ok (.iload_n 3, 1) := by decide +kernel
theorem dX8_layWays_53 : decode cX8_layWays 53 = .ok (.iconst 4, 1) := by decide +kernel
theorem dX8_layWays_54 : decode cX8_layWays 54 = .ok (.invokestatic 73, 3) := by decide +kernel
theorem dX8_layWays_57 : decode cX8_layWays 57 = .ok (.iaload, 1) := by decide +kernel
theorem dX8_layWays_58 : decode cX8_layWays 58 = .ok (.iload_n 2, 1) := by decide +kernel
theorem dX8_layWays_59 : decode cX8_layWays 59 = .ok (.if_icmp .gt 24, 3) := by decide +kernel
theorem dX8_layWays_62 : decode cX8_layWays 62 = .ok (.aload_n 1, 1) := by decide +kernel
theorem dX8_layWays_63 : decode cX8_layWays 63 = .ok (.iload_n 3, 1) := by decide +kernel
theorem dX8_layWays_64 : decode cX8_layWays 64 = .ok (.iconst 4, 1) := by decide +kernel
theorem dX8_layWays_65 : decode cX8_layWays 65 = .ok (.invokestatic 73, 3) := by decide +kernel
theorem dX8_layWays_68 : decode cX8_layWays 68 = .ok (.iaload, 1) := by decide +kernel
theorem dX8_layWays_69 : decode cX8_layWays 69 = .ok (.aload_n 0, 1) := by decide +kernel
theorem dX8_layWays_70 : decode cX8_layWays 70 = .ok (.getfield 54, 3) := by decide +kernel
theorem dX8_layWays_73 : decode cX8_layWays 73 = .ok (.iload 4, 2) := by decide +kernel
theorem dX8_layWays_75 : decode cX8_layWays 75 = .ok (.iaload, 1) := by decide +kernel
theorem dX8_layWays_76 : decode cX8_layWays 76 = .ok (.if_icmp .ge 7, 3) := by decide +kernel
theorem dX8_layWays_79 : decode cX8_layWays 79 = .ok (.iconst 1, 1) := by decide +kernel
theorem dX8_layWays_80 : decode cX8_layWays 80 = .ok (.goto 4, 3) := by decide +kernel
theorem dX8_layWays_83 : decode cX8_layWays 83 = .ok (.iconst 0, 1) := by decide +kernel
theorem dX8_layWays_84 : decode cX8_layWays 84 = .ok (.istore 5, 2) := by decide +kernel
theorem dX8_layWays_86 : decode cX8_layWays 86 = .ok (.aload_n 0, 1) := by decide +kernel
theorem dX8_layWays_87 : decode cX8_layWays 87 = .ok (.getfield 54, 3) := by decide +kernel
theorem dX8_layWays_90 : decode cX8_layWays 90 = .ok (.iload 4, 2) := by decide +kernel
theorem dX8_layWays_92 : decode cX8_layWays 92 = .ok (.iload 5, 2) := by decide +kernel
theorem dX8_layWays_94 : decode cX8_layWays 94 = .ok (.ifCond .eq 13, 3) := by decide +kernel
theorem dX8_layWays_97 : decode cX8_layWays 97 = .ok (.aload_n 1, 1) := by decide +kernel
theorem dX8_layWays_98 : decode cX8_layWays 98 = .ok (.iload_n 3, 1) := by decide +kernel
theorem dX8_layWays_99 : decode cX8_layWays 99 = .ok (.iconst 4, 1) := by decide +kernel
theorem dX8_layWays_100 : decode cX8_layWays 100 = .ok (.invokestatic 73, 3) := by decide +kernel
theorem dX8_layWays_103 : decode cX8_layWays 103 = .ok (.iaload, 1) := by decide +kernel
theorem dX8_layWays_104 : decode cX8_layWays 104 = .ok (.goto 10, 3) := by decide +kernel
theorem dX8_layWays_107 : decode cX8_layWays 107 = .ok (.aload_n 0, 1) := by decide +kernel
theorem dX8_layWays_108 : decode cX8_layWays 108 = .ok (.getfield 54, 3) := by decide +kernel
theorem dX8_layWays_111 : decode cX8_layWays 111 = .ok (.iload 4, 2) := by decide +kernel
theorem dX8_layWays_113 : decode cX8_layWays 113 = .ok (.iaload, 1) := by decide +kernel
theorem dX8_layWays_114 : decode cX8_layWays 114 = .ok (.iastore, 1) := by decide +kernel
theorem dX8_layWays_115 : decode cX8_layWays 115 = .ok (.iinc 3 1, 3) := by decide +kernel
theorem dX8_layWays_118 : decode cX8_layWays 118 = .ok (.goto (-94), 3) := by decide +kernel
theorem dX8_layWays_121 : decode cX8_layWays 121 = .ok (.iconst 0, 1) := by decide +kernel
theorem dX8_layWays_122 : decode cX8_layWays 122 = .ok (.istore_n 3, 1) := by decide +kernel
theorem dX8_layWays_123 : decode cX8_layWays 123 = .ok (.iload_n 3, 1) := by decide +kernel
theorem dX8_layWays_124 : decode cX8_layWays 124 = .ok (.bipush 8, 2) := by decide +kernel
theorem dX8_layWays_126 : decode cX8_layWays 126 = .ok (.if_icmp .ge 117, 3) := by decide +kernel
theorem dX8_layWays_129 : decode cX8_layWays 129 = .ok (.iconst 0, 1) := by decide +kernel
theorem dX8_layWays_130 : decode cX8_layWays 130 = .ok (.istore 4, 2) := by decide +kernel
theorem dX8_layWays_132 : decode cX8_layWays 132 = .ok (.iload 4, 2) := by decide +kernel
theorem dX8_layWays_134 : decode cX8_layWays 134 = .ok (.bipush 8, 2) := by decide +kernel
theorem dX8_layWays_136 : decode cX8_layWays 136 = .ok (.if_icmp .ge 101, 3) := by decide +kernel
theorem dX8_layWays_139 : decode cX8_layWays 139 = .ok (.iconst 0, 1) := by decide +kernel
theorem dX8_layWays_140 : decode cX8_layWays 140 = .ok (.istore 5, 2) := by decide +kernel
theorem dX8_layWays_142 : decode cX8_layWays 142 = .ok (.iload 5, 2) := by decide +kernel
theorem dX8_layWays_144 : decode cX8_layWays 144 = .ok (.bipush 8, 2) := by decide +kernel
theorem dX8_layWays_146 : decode cX8_layWays 146 = .ok (.if_icmp .ge 85, 3) := by decide +kernel
theorem dX8_layWays_149 : decode cX8_layWays 149 = .ok (.aload_n 0, 1) := by decide +kernel
theorem dX8_layWays_150 : decode cX8_layWays 150 = .ok (.getfield 54, 3) := by decide +kernel
theorem dX8_layWays_153 : decode cX8_layWays 153 = .ok (.bipush 8, 2) := by decide +kernel
theorem dX8_layWays_155 : decode cX8_layWays 155 = .ok (.iload 4, 2) := by decide +kernel
theorem dX8_layWays_157 : decode cX8_layWays 157 = .ok (.imul, 1) := by decide +kernel
theorem dX8_layWays_158 : decode cX8_layWays 158 = .ok (.iload_n 3, 1) := by decide +kernel
theorem dX8_layWays_159 : decode cX8_layWays 159 = .ok (.iadd, 1) := by decide +kernel
theorem dX8_layWays_160 : decode cX8_layWays 160 = .ok (.iaload, 1) := by decide +kernel
theorem dX8_layWays_161 : decode cX8_layWays 161 = .ok (.aload_n 0, 1) := by decide +kernel
theorem dX8_layWays_162 : decode cX8_layWays 162 = .ok (.getfield 54, 3) := by decide +kernel
theorem dX8_layWays_165 : decode cX8_layWays 165 = .ok (.bipush 8, 2) := by decide +kernel
theorem dX8_layWays_167 : decode cX8_layWays 167 = .ok (.iload_n 3, 1) := by decide +kernel
theorem dX8_layWays_168 : decode cX8_layWays 168 = .ok (.imul, 1) := by decide +kernel
theorem dX8_layWays_169 : decode cX8_layWays 169 = .ok (.iload 5, 2) := by decide +kernel
theorem dX8_layWays_171 : decode cX8_layWays 171 = .ok (.iadd, 1) := by decide +kernel
theorem dX8_layWays_172 : decode cX8_layWays 172 = .ok (.iaload, 1) := by decide +kernel
theorem dX8_layWays_173 : decode cX8_layWays 173 = .ok (.iadd, 1) := by decide +kernel
theorem dX8_layWays_174 : decode cX8_layWays 174 = .ok (.istore 6, 2) := by decide +kernel
theorem dX8_layWays_176 : decode cX8_layWays 176 = .ok (.aload_n 0, 1) := by decide +kernel
theorem dX8_layWays_177 : decode cX8_layWays 177 = .ok (.getfield 54, 3) := by decide +kernel
theorem dX8_layWays_180 : decode cX8_layWays 180 = .ok (.bipush 8, 2) := by decide +kernel
theorem dX8_layWays_182 : decode cX8_layWays 182 = .ok (.iload 4, 2) := by decide +kernel
theorem dX8_layWays_184 : decode cX8_layWays 184 = .ok (.imul, 1) := by decide +kernel
theorem dX8_layWays_185 : decode cX8_layWays 185 = .ok (.iload 5, 2) := by decide +kernel
theorem dX8_layWays_187 : decode cX8_layWays 187 = .ok (.iadd, 1) := by decide +kernel
theorem dX8_layWays_188 : decode cX8_layWays 188 = .ok (.iload 6, 2) := by decide +kernel
theorem dX8_layWays_190 : decode cX8_layWays 190 = .ok (.aload_n 0, 1) := by decide +kernel
theorem dX8_layWays_191 : decode cX8_layWays 191 = .ok (.getfield 54, 3) := by decide +kernel
theorem dX8_layWays_194 : decode cX8_layWays 194 = .ok (.bipush 8, 2) := by decide +kernel
theorem dX8_layWays_196 : decode cX8_layWays 196 = .ok (.iload 4, 2) := by decide +kernel
theorem dX8_layWays_198 : decode cX8_layWays 198 = .ok (.imul, 1) := by decide +kernel
theorem dX8_layWays_199 : decode cX8_layWays 199 = .ok (.iload 5, 2) := by decide +kernel
theorem dX8_layWays_201 : decode cX8_layWays 201 = .ok (.iadd, 1) := by decide +kernel
theorem dX8_layWays_202 : decode cX8_layWays 202 = .ok (.iaload, 1) := by decide +kernel
theorem dX8_layWays_203 : decode cX8_layWays 203 = .ok (.if_icmp .ge 8, 3) := by decide +kernel
theorem dX8_layWays_206 : decode cX8_layWays 206 = .ok (.iload 6, 2) := by decide +kernel
theorem dX8_layWays_208 : decode cX8_layWays 208 = .ok (.goto 16, 3) := by decide +kernel
theorem dX8_layWays_211 : decode cX8_layWays 211 = .ok (.aload_n 0, 1) := by decide +kernel
theorem dX8_layWays_212 : decode cX8_layWays 212 = .ok (.getfield 54, 3) := by decide +kernel
theorem dX8_layWays_215 : decode cX8_layWays 215 = .ok (.bipush 8, 2) := by decide +kernel
theorem dX8_layWays_217 : decode cX8_layWays 217 = .ok (.iload 4, 2) := by decide +kernel
theorem dX8_layWays_219 : decode cX8_layWays 219 = .ok (.imul, 1) := by decide +kernel
theorem dX8_layWays_220 : decode cX8_layWays 220 = .ok (.iload 5, 2) := by decide +kernel
theorem dX8_layWays_222 : decode cX8_layWays 222 = .ok (.iadd, 1) := by decide +kernel
theorem dX8_layWays_223 : decode cX8_layWays 223 = .ok (.iaload, 1) := by decide +kernel
theorem dX8_layWays_224 : decode cX8_layWays 224 = .ok (.iastore, 1) := by decide +kernel
theorem dX8_layWays_225 : decode cX8_layWays 225 = .ok (.iinc 5 1, 3) := by decide +kernel
theorem dX8_layWays_228 : decode cX8_layWays 228 = .ok (.goto (-86), 3) := by decide +kernel
theorem dX8_layWays_231 : decode cX8_layWays 231 = .ok (.iinc 4 1, 3) := by decide +kernel
theorem dX8_layWays_234 : decode cX8_layWays 234 = .ok (.goto (-102), 3) := by decide +kernel
theorem dX8_layWays_237 : decode cX8_layWays 237 = .ok (.iinc 3 1, 3) := by decide +kernel
theorem dX8_layWays_240 : decode cX8_layWays 240 = .ok (.goto (-117), 3) := by decide +kernel
theorem dX8_layWays_243 : decode cX8_layWays 243 = .ok (.return_, 1) := by decide +kernel
theorem dX8_isDead_0 : decode cX8_isDead 0 = .ok (.aload_n 0, 1) := by decide +kernel
theorem dX8_isDead_1 : decode cX8_isDead 1 = .ok (.aload_n 1, 1) := by decide +kernel
theorem dX8_isDead_2 : decode cX8_isDead 2 = .ok (.iconst 0, 1) := by decide +kernel
theorem dX8_isDead_3 : decode cX8_isDead 3 = .ok (.invokevirtual 81, 3) := by decide +kernel
theorem dX8_isDead_6 : decode cX8_isDead 6 = .ok (.iload_n 2, 1) := by decide +kernel
theorem dX8_isDead_7 : decode cX8_isDead 7 = .ok (.iload_n 3, 1) := by decide +kernel
theorem dX8_isDead_8 : decode cX8_isDead 8 = .ok (.if_icmp .eq 19, 3) := by decide +kernel
theorem dX8_isDead_11 : decode cX8_isDead 11 = .ok (.aload_n 0, 1) := by decide +kernel
theorem dX8_isDead_12 : decode cX8_isDead 12 = .ok (.getfield 54, 3) := by decide +kernel
theorem dX8_isDead_15 : decode cX8_isDead 15 = .ok (.bipush 8, 2) := by decide +kernel
theorem dX8_isDead_17 : decode cX8_isDead 17 = .ok (.iload_n 3, 1) := by decide +kernel
theorem dX8_isDead_18 : decode cX8_isDead 18 = .ok (.imul, 1) := by decide +kernel
theorem dX8_isDead_19 : decode cX8_isDead 19 = .ok (.iload_n 2, 1) := by decide +kernel
theorem dX8_isDead_20 : decode cX8_isDead 20 = .ok (.iadd, 1) := by decide +kernel
theorem dX8_isDead_21 : decode cX8_isDead 21 = .ok (.iaload, 1) := by decide +kernel
theorem dX8_isDead_22 : decode cX8_isDead 22 = .ok (.ldc 80, 2) := by decide +kernel
theorem dX8_isDead_24 : decode cX8_isDead 24 = .ok (.if_icmp .ge 7, 3) := by decide +kernel
theorem dX8_isDead_27 : decode cX8_isDead 27 = .ok (.iconst 1, 1) := by decide +kernel
theorem dX8_isDead_28 : decode cX8_isDead 28 = .ok (.goto 4, 3) := by decide +kernel
theorem dX8_isDead_31 : decode cX8_isDead 31 = .ok (.iconst 0, 1) := by decide +kernel
theorem dX8_isDead_32 : decode cX8_isDead 32 = .ok (.ireturn, 1) := by decide +kernel
theorem dX8_divisor_0 : decode cX8_divisor 0 = .ok (.lload_n 0, 1) := by decide +kernel
theorem dX8_divisor_1 : decode cX8_divisor 1 = .ok (.lstore 4, 2) := by decide +kernel
theorem dX8_divisor_3 : decode cX8_divisor 3 = .ok (.lload_n 2, 1) := by decide +kernel
theorem dX8_divisor_4 : decode cX8_divisor 4 = .ok (.lstore 6, 2) := by decide +kernel
theorem dX8_divisor_6 : decode cX8_divisor 6 = .ok (.lload 6, 2) := by decide +kernel
theorem dX8_divisor_8 : decode cX8_divisor 8 = .ok (.lconst 0, 1) := by decide +kernel
theorem dX8_divisor_9 : decode cX8_divisor 9 = .ok (.lcmp, 1) := by decide +kernel
theorem dX8_divisor_10 : decode cX8_divisor 10 = .ok (.ifCond .le 21, 3) := by decide +kernel
theorem dX8_divisor_13 : decode cX8_divisor 13 = .ok (.lload 4, 2) := by decide +kernel
theorem dX8_divisor_15 : decode cX8_divisor 15 = .ok (.lload 6, 2) := by decide +kernel
theorem dX8_divisor_17 : decode cX8_divisor 17 = .ok (.lrem, 1) := by decide +kernel
theorem dX8_divisor_18 : decode cX8_divisor 18 = .ok (.lstore 8, 2) := by decide +kernel
theorem dX8_divisor_20 : decode cX8_divisor 20 = .ok (.lload 6, 2) := by decide +kernel
theorem dX8_divisor_22 : decode cX8_divisor 22 = .ok (.lstore 4, 2) := by decide +kernel
theorem dX8_divisor_24 : decode cX8_divisor 24 = .ok (.lload 8, 2) := by decide +kernel
theorem dX8_divisor_26 : decode cX8_divisor 26 = .ok (.lstore 6, 2) := by decide +kernel
theorem dX8_divisor_28 : decode cX8_divisor 28 = .ok (.goto (-22), 3) := by decide +kernel
theorem dX8_divisor_31 : decode cX8_divisor 31 = .ok (.lload 4, 2) := by decide +kernel
theorem dX8_divisor_33 : decode cX8_divisor 33 = .ok (.lreturn, 1) := by decide +kernel
theorem dX8_setWorks_0 : decode cX8_setWorks 0 = .ok (.lload_n 2, 1) := by decide +kernel
theorem dX8_setWorks_1 : decode cX8_setWorks 1 = .ok (.lload 4, 2) := by decide +kernel
theorem dX8_setWorks_3 : decode cX8_setWorks 3 = .ok (.invokestatic 85, 3) := by decide +kernel
theorem dX8_setWorks_6 : decode cX8_setWorks 6 = .ok (.lstore 6, 2) := by decide +kernel
theorem dX8_setWorks_8 : decode cX8_setWorks 8 = .ok (.aload_n 0, 1) := by decide +kernel
theorem dX8_setWorks_9 : decode cX8_setWorks 9 = .ok (.getfield 38, 3) := by decide +kernel
theorem dX8_setWorks_12 : decode cX8_setWorks 12 = .ok (.iload_n 1, 1) := by decide +kernel
theorem dX8_setWorks_13 : decode cX8_setWorks 13 = .ok (.lload_n 2, 1) := by decide +kernel
theorem dX8_setWorks_14 : decode cX8_setWorks 14 = .ok (.lload 6, 2) := by decide +kernel
theorem dX8_setWorks_16 : decode cX8_setWorks 16 = .ok (.ldiv, 1) := by decide +kernel
theorem dX8_setWorks_17 : decode cX8_setWorks 17 = .ok (.lastore, 1) := by decide +kernel
theorem dX8_setWorks_18 : decode cX8_setWorks 18 = .ok (.aload_n 0, 1) := by decide +kernel
theorem dX8_setWorks_19 : decode cX8_setWorks 19 = .ok (.getfield 42, 3) := by decide +kernel
theorem dX8_setWorks_22 : decode cX8_setWorks 22 = .ok (.iload_n 1, 1) := by decide +kernel
theorem dX8_setWorks_23 : decode cX8_setWorks 23 = .ok (.lload 4, 2) := by decide +kernel
theorem dX8_setWorks_25 : decode cX8_setWorks 25 = .ok (.lload 6, 2) := by decide +kernel
theorem dX8_setWorks_27 : decode cX8_setWorks 27 = .ok (.ldiv, 1) := by decide +kernel
theorem dX8_setWorks_28 : decode cX8_setWorks 28 = .ok (.lastore, 1) := by decide +kernel
theorem dX8_setWorks_29 : decode cX8_setWorks 29 = .ok (.return_, 1) := by decide +kernel
theorem dX8_spread_0 : decode cX8_spread 0 = .ok (.aload_n 1, 1) := by decide +kernel
theorem dX8_spread_1 : decode cX8_spread 1 = .ok (.iload_n 2, 1) := by decide +kernel
theorem dX8_spread_2 : decode cX8_spread 2 = .ok (.iconst 0, 1) := by decide +kernel
theorem dX8_spread_3 : decode cX8_spread 3 = .ok (.invokestatic 73, 3) := by decide +kernel
theorem dX8_spread_6 : decode cX8_spread 6 = .ok (.iaload, 1) := by decide +kernel
theorem dX8_spread_7 : decode cX8_spread 7 = .ok (.istore 4, 2) := by decide +kernel
theorem dX8_spread_9 : decode cX8_spread 9 = .ok (.aload_n 1, 1) := by decide +kernel
theorem dX8_spread_10 : decode cX8_spread 10 = .ok (.iload_n 2, 1) := by decide +kernel
theorem dX8_spread_11 : decode cX8_spread 11 = .ok (.iconst 1, 1) := by decide +kernel
theorem dX8_spread_12 : decode cX8_spread 12 = .ok (.invokestatic 73, 3) := by decide +kernel
theorem dX8_spread_15 : decode cX8_spread 15 = .ok (.iaload, 1) := by decide +kernel
theorem dX8_spread_16 : decode cX8_spread 16 = .ok (.istore 5, 2) := by decide +kernel
theorem dX8_spread_18 : decode cX8_spread 18 = .ok (.aload_n 0, 1) := by decide +kernel
theorem dX8_spread_19 : decode cX8_spread 19 = .ok (.getfield 35, 3) := by decide +kernel
theorem dX8_spread_22 : decode cX8_spread 22 = .ok (.iload 4, 2) := by decide +kernel
theorem dX8_spread_24 : decode cX8_spread 24 = .ok (.iaload, 1) := by decide +kernel
theorem dX8_spread_25 : decode cX8_spread 25 = .ok (.iload_n 3, 1) := by decide +kernel
theorem dX8_spread_26 : decode cX8_spread 26 = .ok (.if_icmp .ne 62, 3) := by decide +kernel
theorem dX8_spread_29 : decode cX8_spread 29 = .ok (.aload_n 0, 1) := by decide +kernel
theorem dX8_spread_30 : decode cX8_spread 30 = .ok (.getfield 35, 3) := by decide +kernel
theorem dX8_spread_33 : decode cX8_spread 33 = .ok (.iload 5, 2) := by decide +kernel
theorem dX8_spread_35 : decode cX8_spread 35 = .ok (.iaload, 1) := by decide +kernel
theorem dX8_spread_36 : decode cX8_spread 36 = .ok (.iconst (-1), 1) := by decide +kernel
theorem dX8_spread_37 : decode cX8_spread 37 = .ok (.if_icmp .ne 51, 3) := by decide +kernel
theorem dX8_spread_40 : decode cX8_spread 40 = .ok (.aload_n 0, 1) := by decide +kernel
theorem dX8_spread_41 : decode cX8_spread 41 = .ok (.getfield 35, 3) := by decide +kernel
theorem dX8_spread_44 : decode cX8_spread 44 = .ok (.iload 5, 2) := by decide +kernel
theorem dX8_spread_46 : decode cX8_spread 46 = .ok (.iload_n 3, 1) := by decide +kernel
theorem dX8_spread_47 : decode cX8_spread 47 = .ok (.iastore, 1) := by decide +kernel
theorem dX8_spread_48 : decode cX8_spread 48 = .ok (.aload_n 0, 1) := by decide +kernel
theorem dX8_spread_49 : decode cX8_spread 49 = .ok (.iload 5, 2) := by decide +kernel
theorem dX8_spread_51 : decode cX8_spread 51 = .ok (.aload_n 0, 1) := by decide +kernel
theorem dX8_spread_52 : decode cX8_spread 52 = .ok (.getfield 38, 3) := by decide +kernel
theorem dX8_spread_55 : decode cX8_spread 55 = .ok (.iload 4, 2) := by decide +kernel
theorem dX8_spread_57 : decode cX8_spread 57 = .ok (.laload, 1) := by decide +kernel
theorem dX8_spread_58 : decode cX8_spread 58 = .ok (.aload_n 1, 1) := by decide +kernel
theorem dX8_spread_59 : decode cX8_spread 59 = .ok (.iload_n 2, 1) := by decide +kernel
theorem dX8_spread_60 : decode cX8_spread 60 = .ok (.iconst 2, 1) := by decide +kernel
theorem dX8_spread_61 : decode cX8_spread 61 = .ok (.invokestatic 73, 3) := by decide +kernel
theorem dX8_spread_64 : decode cX8_spread 64 = .ok (.iaload, 1) := by decide +kernel
theorem dX8_spread_65 : decode cX8_spread 65 = .ok (.i2l, 1) := by decide +kernel
theorem dX8_spread_66 : decode cX8_spread 66 = .ok (.lmul, 1) := by decide +kernel
theorem dX8_spread_67 : decode cX8_spread 67 = .ok (.aload_n 0, 1) := by decide +kernel
theorem dX8_spread_68 : decode cX8_spread 68 = .ok (.getfield 42, 3) := by decide +kernel
theorem dX8_spread_71 : decode cX8_spread 71 = .ok (.iload 4, 2) := by decide +kernel
theorem dX8_spread_73 : decode cX8_spread 73 = .ok (.laload, 1) := by decide +kernel
theorem dX8_spread_74 : decode cX8_spread 74 = .ok (.aload_n 1, 1) := by decide +kernel
theorem dX8_spread_75 : decode cX8_spread 75 = .ok (.iload_n 2, 1) := by decide +kernel
theorem dX8_spread_76 : decode cX8_spread 76 = .ok (.iconst 3, 1) := by decide +kernel
theorem dX8_spread_77 : decode cX8_spread 77 = .ok (.invokestatic 73, 3) := by decide +kernel
theorem dX8_spread_80 : decode cX8_spread 80 = .ok (.iaload, 1) := by decide +kernel
theorem dX8_spread_81 : decode cX8_spread 81 = .ok (.i2l, 1) := by decide +kernel
theorem dX8_spread_82 : decode cX8_spread 82 = .ok (.lmul, 1) := by decide +kernel
theorem dX8_spread_83 : decode cX8_spread 83 = .ok (.invokevirtual 89, 3) := by decide +kernel
theorem dX8_spread_86 : decode cX8_spread 86 = .ok (.iconst 1, 1) := by decide +kernel
theorem dX8_spread_87 : decode cX8_spread 87 = .ok (.ireturn, 1) := by decide +kernel
theorem dX8_spread_88 : decode cX8_spread 88 = .ok (.aload_n 0, 1) := by decide +kernel
theorem dX8_spread_89 : decode cX8_spread 89 = .ok (.getfield 35, 3) := by decide +kernel
theorem dX8_spread_92 : decode cX8_spread 92 = .ok (.iload 5, 2) := by decide +kernel
theorem dX8_spread_94 : decode cX8_spread 94 = .ok (.iaload, 1) := by decide +kernel
theorem dX8_spread_95 : decode cX8_spread 95 = .ok (.iload_n 3, 1) := by decide +kernel
theorem dX8_spread_96 : decode cX8_spread 96 = .ok (.if_icmp .ne 62, 3) := by decide +kernel
theorem dX8_spread_99 : decode cX8_spread 99 = .ok (.aload_n 0, 1) := by decide +kernel
theorem dX8_spread_100 : decode cX8_spread 100 = .ok (.getfield 35, 3) := by decide +kernel
theorem dX8_spread_103 : decode cX8_spread 103 = .ok (.iload 4, 2) := by decide +kernel
theorem dX8_spread_105 : decode cX8_spread 105 = .ok (.iaload, 1) := by decide +kernel
theorem dX8_spread_106 : decode cX8_spread 106 = .ok (.iconst (-1), 1) := by decide +kernel
theorem dX8_spread_107 : decode cX8_spread 107 = .ok (.if_icmp .ne 51, 3) := by decide +kernel
theorem dX8_spread_110 : decode cX8_spread 110 = .ok (.aload_n 0, 1) := by decide +kernel
theorem dX8_spread_111 : decode cX8_spread 111 = .ok (.getfield 35, 3) := by decide +kernel
theorem dX8_spread_114 : decode cX8_spread 114 = .ok (.iload 4, 2) := by decide +kernel
theorem dX8_spread_116 : decode cX8_spread 116 = .ok (.iload_n 3, 1) := by decide +kernel
theorem dX8_spread_117 : decode cX8_spread 117 = .ok (.iastore, 1) := by decide +kernel
theorem dX8_spread_118 : decode cX8_spread 118 = .ok (.aload_n 0, 1) := by decide +kernel
theorem dX8_spread_119 : decode cX8_spread 119 = .ok (.iload 4, 2) := by decide +kernel
theorem dX8_spread_121 : decode cX8_spread 121 = .ok (.aload_n 0, 1) := by decide +kernel
theorem dX8_spread_122 : decode cX8_spread 122 = .ok (.getfield 38, 3) := by decide +kernel
theorem dX8_spread_125 : decode cX8_spread 125 = .ok (.iload 5, 2) := by decide +kernel
theorem dX8_spread_127 : decode cX8_spread 127 = .ok (.laload, 1) := by decide +kernel
theorem dX8_spread_128 : decode cX8_spread 128 = .ok (.aload_n 1, 1) := by decide +kernel
theorem dX8_spread_129 : decode cX8_spread 129 = .ok (.iload_n 2, 1) := by decide +kernel
theorem dX8_spread_130 : decode cX8_spread 130 = .ok (.iconst 3, 1) := by decide +kernel
theorem dX8_spread_131 : decode cX8_spread 131 = .ok (.invokestatic 73, 3) := by decide +kernel
theorem dX8_spread_134 : decode cX8_spread 134 = .ok (.iaload, 1) := by decide +kernel
theorem dX8_spread_135 : decode cX8_spread 135 = .ok (.i2l, 1) := by decide +kernel
theorem dX8_spread_136 : decode cX8_spread 136 = .ok (.lmul, 1) := by decide +kernel
theorem dX8_spread_137 : decode cX8_spread 137 = .ok (.aload_n 0, 1) := by decide +kernel
theorem dX8_spread_138 : decode cX8_spread 138 = .ok (.getfield 42, 3) := by decide +kernel
theorem dX8_spread_141 : decode cX8_spread 141 = .ok (.iload 5, 2) := by decide +kernel
theorem dX8_spread_143 : decode cX8_spread 143 = .ok (.laload, 1) := by decide +kernel
theorem dX8_spread_144 : decode cX8_spread 144 = .ok (.aload_n 1, 1) := by decide +kernel
theorem dX8_spread_145 : decode cX8_spread 145 = .ok (.iload_n 2, 1) := by decide +kernel
theorem dX8_spread_146 : decode cX8_spread 146 = .ok (.iconst 2, 1) := by decide +kernel
theorem dX8_spread_147 : decode cX8_spread 147 = .ok (.invokestatic 73, 3) := by decide +kernel
theorem dX8_spread_150 : decode cX8_spread 150 = .ok (.iaload, 1) := by decide +kernel
theorem dX8_spread_151 : decode cX8_spread 151 = .ok (.i2l, 1) := by decide +kernel
theorem dX8_spread_152 : decode cX8_spread 152 = .ok (.lmul, 1) := by decide +kernel
theorem dX8_spread_153 : decode cX8_spread 153 = .ok (.invokevirtual 89, 3) := by decide +kernel
theorem dX8_spread_156 : decode cX8_spread 156 = .ok (.iconst 1, 1) := by decide +kernel
theorem dX8_spread_157 : decode cX8_spread 157 = .ok (.ireturn, 1) := by decide +kernel
theorem dX8_spread_158 : decode cX8_spread 158 = .ok (.iconst 0, 1) := by decide +kernel
theorem dX8_spread_159 : decode cX8_spread 159 = .ok (.ireturn, 1) := by decide +kernel
theorem dX8_layParts_0 : decode cX8_layParts 0 = .ok (.aload_n 0, 1) := by decide +kernel
theorem dX8_layParts_1 : decode cX8_layParts 1 = .ok (.iconst 0, 1) := by decide +kernel
theorem dX8_layParts_2 : decode cX8_layParts 2 = .ok (.putfield 93, 3) := by decide +kernel
theorem dX8_layParts_5 : decode cX8_layParts 5 = .ok (.iconst 0, 1) := by decide +kernel
theorem dX8_layParts_6 : decode cX8_layParts 6 = .ok (.istore_n 2, 1) := by decide +kernel
theorem dX8_layParts_7 : decode cX8_layParts 7 = .ok (.iload_n 2, 1) := by decide +kernel
theorem dX8_layParts_8 : decode cX8_layParts 8 = .ok (.bipush 8, 2) := by decide +kernel
theorem dX8_layParts_10 : decode cX8_layParts 10 = .ok (.if_icmp .ge 16, 3) := by decide +kernel
theorem dX8_layParts_13 : decode cX8_layParts 13 = .ok (.aload_n 0, 1) := by decide +kernel
theorem dX8_layParts_14 : decode cX8_layParts 14 = .ok (.getfield 35, 3) := by decide +kernel
theorem dX8_layParts_17 : decode cX8_layParts 17 = .ok (.iload_n 2, 1) := by decide +kernel
theorem dX8_layParts_18 : decode cX8_layParts 18 = .ok (.iconst (-1), 1) := by decide +kernel
theorem dX8_layParts_19 : decode cX8_layParts 19 = .ok (.iastore, 1) := by decide +kernel
theorem dX8_layParts_20 : decode cX8_layParts 20 = .ok (.iinc 2 1, 3) := by decide +kernel
theorem dX8_layParts_23 : decode cX8_layParts 23 = .ok (.goto (-16), 3) := by decide +kernel
theorem dX8_layParts_26 : decode cX8_layParts 26 = .ok (.iconst 0, 1) := by decide +kernel
theorem dX8_layParts_27 : decode cX8_layParts 27 = .ok (.istore_n 2, 1) := by decide +kernel
theorem dX8_layParts_28 : decode cX8_layParts 28 = .ok (.iload_n 2, 1) := by decide +kernel
theorem dX8_layParts_29 : decode cX8_layParts 29 = .ok (.aload_n 1, 1) := by decide +kernel
theorem dX8_layParts_30 : decode cX8_layParts 30 = .ok (.iconst 0, 1) := by decide +kernel
theorem dX8_layParts_31 : decode cX8_layParts 31 = .ok (.iaload, 1) := by decide +kernel
theorem dX8_layParts_32 : decode cX8_layParts 32 = .ok (.if_icmp .ge 105, 3) := by decide +kernel
theorem dX8_layParts_35 : decode cX8_layParts 35 = .ok (.aload_n 0, 1) := by decide +kernel
theorem dX8_layParts_36 : decode cX8_layParts 36 = .ok (.getfield 35, 3) := by decide +kernel
theorem dX8_layParts_39 : decode cX8_layParts 39 = .ok (.iload_n 2, 1) := by decide +kernel
theorem dX8_layParts_40 : decode cX8_layParts 40 = .ok (.iaload, 1) := by decide +kernel
theorem dX8_layParts_41 : decode cX8_layParts 41 = .ok (.iconst (-1), 1) := by decide +kernel
theorem dX8_layParts_42 : decode cX8_layParts 42 = .ok (.if_icmp .ne 89, 3) := by decide +kernel
theorem dX8_layParts_45 : decode cX8_layParts 45 = .ok (.aload_n 0, 1) := by decide +kernel
theorem dX8_layParts_46 : decode cX8_layParts 46 = .ok (.getfield 35, 3) := by decide +kernel
theorem dX8_layParts_49 : decode cX8_layParts 49 = .ok (.iload_n 2, 1) := by decide +kernel
theorem dX8_layParts_50 : decode cX8_layParts 50 = .ok (.aload_n 0, 1) := by decide +kernel
theorem dX8_layParts_51 : decode cX8_layParts 51 = .ok (.getfield 93, 3) := by decide +kernel
theorem dX8_layParts_54 : decode cX8_layParts 54 = .ok (.iastore, 1) := by decide +kernel
theorem dX8_layParts_55 : decode cX8_layParts 55 = .ok (.aload_n 0, 1) := by decide +kernel
theorem dX8_layParts_56 : decode cX8_layParts 56 = .ok (.getfield 38, 3) := by decide +kernel
theorem dX8_layParts_59 : decode cX8_layParts 59 = .ok (.iload_n 2, 1) := by decide +kernel
theorem dX8_layParts_60 : decode cX8_layParts 60 = .ok (.lconst 1, 1) := by decide +kernel
theorem dX8_layParts_61 : decode cX8_layParts 61 = .ok (.lastore, 1) := by decide +kernel
theorem dX8_layParts_62 : decode cX8_layParts 62 = .ok (.aload_n 0, 1) := by decide +kernel
theorem dX8_layParts_63 : decode cX8_layParts 63 = .ok (.getfield 42, 3) := by decide +kernel
theorem dX8_layParts_66 : decode cX8_layParts 66 = .ok (.iload_n 2, 1) := by decide +kernel
theorem dX8_layParts_67 : decode cX8_layParts 67 = .ok (.lconst 1, 1) := by decide +kernel
theorem dX8_layParts_68 : decode cX8_layParts 68 = .ok (.lastore, 1) := by decide +kernel
theorem dX8_layParts_69 : decode cX8_layParts 69 = .ok (.iconst 1, 1) := by decide +kernel
theorem dX8_layParts_70 : decode cX8_layParts 70 = .ok (.istore_n 3, 1) := by decide +kernel
theorem dX8_layParts_71 : decode cX8_layParts 71 = .ok (.iload_n 3, 1) := by decide +kernel
theorem dX8_layParts_72 : decode cX8_layParts 72 = .ok (.ifCond .eq 49, 3) := by decide +kernel
theorem dX8_layParts_75 : decode cX8_layParts 75 = .ok (.iconst 0, 1) := by decide +kernel
theorem dX8_layParts_76 : decode cX8_layParts 76 = .ok (.istore_n 3, 1) := by decide +kernel
theorem dX8_layParts_77 : decode cX8_layParts 77 = .ok (.iconst 0, 1) := by decide +kernel
theorem dX8_layParts_78 : decode cX8_layParts 78 = .ok (.istore 4, 2) := by decide +kernel
theorem dX8_layParts_80 : decode cX8_layParts 80 = .ok (.iload 4, 2) := by decide +kernel
theorem dX8_layParts_82 : decode cX8_layParts 82 = .ok (.aload_n 1, 1) := by decide +kernel
theorem dX8_layParts_83 : decode cX8_layParts 83 = .ok (.iconst 1, 1) := by decide +kernel
theorem dX8_layParts_84 : decode cX8_layParts 84 = .ok (.iaload, 1) := by decide +kernel
theorem dX8_layParts_85 : decode cX8_layParts 85 = .ok (.if_icmp .ge 33, 3) := by decide +kernel
theorem dX8_layParts_88 : decode cX8_layParts 88 = .ok (.aload_n 0, 1) := by decide +kernel
theorem dX8_layParts_89 : decode cX8_layParts 89 = .ok (.aload_n 1, 1) := by decide +kernel
theorem dX8_layParts_90 : decode cX8_layParts 90 = .ok (.iload 4, 2) := by decide +kernel
theorem dX8_layParts_92 : decode cX8_layParts 92 = .ok (.aload_n 0, 1) := by decide +kernel
theorem dX8_layParts_93 : decode cX8_layParts 93 = .ok (.getfield 93, 3) := by decide +kernel
theorem dX8_layParts_96 : decode cX8_layParts 96 = .ok (.invokevirtual 96, 3) := by decide +kernel
theorem dX8_layParts_99 : decode cX8_layParts 99 = .ok (.ifCond .ne 7, 3) := by decide +kernel
theorem dX8_layParts_102 : decode cX8_layParts 102 = .ok (.iload_n 3, 1) := by decide +kernel
theorem dX8_layParts_103 : decode cX8_layParts 103 = .ok (.ifCond .eq 7, 3) := by decide +kernel
theorem dX8_layParts_106 : decode cX8_layParts 106 = .ok (.iconst 1, 1) := by decide +kernel
theorem dX8_layParts_107 : decode cX8_layParts 107 = .ok (.goto 4, 3) := by decide +kernel
theorem dX8_layParts_110 : decode cX8_layParts 110 = .ok (.iconst 0, 1) := by decide +kernel
theorem dX8_layParts_111 : decode cX8_layParts 111 = .ok (.istore_n 3, 1) := by decide +kernel
theorem dX8_layParts_112 : decode cX8_layParts 112 = .ok (.iinc 4 1, 3) := by decide +kernel
theorem dX8_layParts_115 : decode cX8_layParts 115 = .ok (.goto (-35), 3) := by decide +kernel
theorem dX8_layParts_118 : decode cX8_layParts 118 = .ok (.goto (-47), 3) := by decide +kernel
theorem dX8_layParts_121 : decode cX8_layParts 121 = .ok (.aload_n 0, 1) := by decide +kernel
theorem dX8_layParts_122 : decode cX8_layParts 122 = .ok (.dup, 1) := by decide +kernel
theorem dX8_layParts_123 : decode cX8_layParts 123 = .ok (.getfield 93, 3) := by decide +kernel
theorem dX8_layParts_126 : decode cX8_layParts 126 = .ok (.iconst 1, 1) := by decide +kernel
theorem dX8_layParts_127 : decode cX8_layParts 127 = .ok (.iadd, 1) := by decide +kernel
theorem dX8_layParts_128 : decode cX8_layParts 128 = .ok (.putfield 93, 3) := by decide +kernel
theorem dX8_layParts_131 : decode cX8_layParts 131 = .ok (.iinc 2 1, 3) := by decide +kernel
theorem dX8_layParts_134 : decode cX8_layParts 134 = .ok (.goto (-106), 3) := by decide +kernel
theorem dX8_layParts_137 : decode cX8_layParts 137 = .ok (.return_, 1) := by decide +kernel
theorem dX8_layWorks_0 : decode cX8_layWorks 0 = .ok (.aload_n 0, 1) := by decide +kernel
theorem dX8_layWorks_1 : decode cX8_layWorks 1 = .ok (.aload_n 1, 1) := by decide +kernel
theorem dX8_layWorks_2 : decode cX8_layWorks 2 = .ok (.invokevirtual 100, 3) := by decide +kernel
theorem dX8_layWorks_5 : decode cX8_layWorks 5 = .ok (.iconst 0, 1) := by decide +kernel
theorem dX8_layWorks_6 : decode cX8_layWorks 6 = .ok (.istore_n 2, 1) := by decide +kernel
theorem dX8_layWorks_7 : decode cX8_layWorks 7 = .ok (.iload_n 2, 1) := by decide +kernel
theorem dX8_layWorks_8 : decode cX8_layWorks 8 = .ok (.aload_n 1, 1) := by decide +kernel
theorem dX8_layWorks_9 : decode cX8_layWorks 9 = .ok (.iconst 1, 1) := by decide +kernel
theorem dX8_layWorks_10 : decode cX8_layWorks 10 = .ok (.iaload, 1) := by decide +kernel
theorem dX8_layWorks_11 : decode cX8_layWorks 11 = .ok (.if_icmp .ge 78, 3) := by decide +kernel
theorem dX8_layWorks_14 : decode cX8_layWorks 14 = .ok (.aload_n 1, 1) := by decide +kernel
theorem dX8_layWorks_15 : decode cX8_layWorks 15 = .ok (.iload_n 2, 1) := by decide +kernel
theorem dX8_layWorks_16 : decode cX8_layWorks 16 = .ok (.iconst 0, 1) := by decide +kernel
theorem dX8_layWorks_17 : decode cX8_layWorks 17 = .ok (.invokestatic 73, 3) := by decide +kernel
theorem dX8_layWorks_20 : decode cX8_layWorks 20 = .ok (.iaload, 1) := by decide +kernel
theorem dX8_layWorks_21 : decode cX8_layWorks 21 = .ok (.istore_n 3, 1) := by decide +kernel
theorem dX8_layWorks_22 : decode cX8_layWorks 22 = .ok (.aload_n 1, 1) := by decide +kernel
theorem dX8_layWorks_23 : decode cX8_layWorks 23 = .ok (.iload_n 2, 1) := by decide +kernel
theorem dX8_layWorks_24 : decode cX8_layWorks 24 = .ok (.iconst 1, 1) := by decide +kernel
theorem dX8_layWorks_25 : decode cX8_layWorks 25 = .ok (.invokestatic 73, 3) := by decide +kernel
theorem dX8_layWorks_28 : decode cX8_layWorks 28 = .ok (.iaload, 1) := by decide +kernel
theorem dX8_layWorks_29 : decode cX8_layWorks 29 = .ok (.istore 4, 2) := by decide +kernel
theorem dX8_layWorks_31 : decode cX8_layWorks 31 = .ok (.aload_n 0, 1) := by decide +kernel
theorem dX8_layWorks_32 : decode cX8_layWorks 32 = .ok (.getfield 38, 3) := by decide +kernel
theorem dX8_layWorks_35 : decode cX8_layWorks 35 = .ok (.iload_n 3, 1) := by decide +kernel
theorem dX8_layWorks_36 : decode cX8_layWorks 36 = .ok (.laload, 1) := by decide +kernel
theorem dX8_layWorks_37 : decode cX8_layWorks 37 = .ok (.aload_n 1, 1) := by decide +kernel
theorem dX8_layWorks_38 : decode cX8_layWorks 38 = .ok (.iload_n 2, 1) := by decide +kernel
theorem dX8_layWorks_39 : decode cX8_layWorks 39 = .ok (.iconst 2, 1) := by decide +kernel
theorem dX8_layWorks_40 : decode cX8_layWorks 40 = .ok (.invokestatic 73, 3) := by decide +kernel
theorem dX8_layWorks_43 : decode cX8_layWorks 43 = .ok (.iaload, 1) := by decide +kernel
theorem dX8_layWorks_44 : decode cX8_layWorks 44 = .ok (.i2l, 1) := by decide +kernel
theorem dX8_layWorks_45 : decode cX8_layWorks 45 = .ok (.lmul, 1) := by decide +kernel
theorem dX8_layWorks_46 : decode cX8_layWorks 46 = .ok (.aload_n 0, 1) := by decide +kernel
theorem dX8_layWorks_47 : decode cX8_layWorks 47 = .ok (.getfield 42, 3) := by decide +kernel
theorem dX8_layWorks_50 : decode cX8_layWorks 50 = .ok (.iload 4, 2) := by decide +kernel
theorem dX8_layWorks_52 : decode cX8_layWorks 52 = .ok (.laload, 1) := by decide +kernel
theorem dX8_layWorks_53 : decode cX8_layWorks 53 = .ok (.lmul, 1) := by decide +kernel
theorem dX8_layWorks_54 : decode cX8_layWorks 54 = .ok (.aload_n 0, 1) := by decide +kernel
theorem dX8_layWorks_55 : decode cX8_layWorks 55 = .ok (.getfield 38, 3) := by decide +kernel
theorem dX8_layWorks_58 : decode cX8_layWorks 58 = .ok (.iload 4, 2) := by decide +kernel
theorem dX8_layWorks_60 : decode cX8_layWorks 60 = .ok (.laload, 1) := by decide +kernel
theorem dX8_layWorks_61 : decode cX8_layWorks 61 = .ok (.aload_n 1, 1) := by decide +kernel
theorem dX8_layWorks_62 : decode cX8_layWorks 62 = .ok (.iload_n 2, 1) := by decide +kernel
theorem dX8_layWorks_63 : decode cX8_layWorks 63 = .ok (.iconst 3, 1) := by decide +kernel
theorem dX8_layWorks_64 : decode cX8_layWorks 64 = .ok (.invokestatic 73, 3) := by decide +kernel
theorem dX8_layWorks_67 : decode cX8_layWorks 67 = .ok (.iaload, 1) := by decide +kernel
theorem dX8_layWorks_68 : decode cX8_layWorks 68 = .ok (.i2l, 1) := by decide +kernel
theorem dX8_layWorks_69 : decode cX8_layWorks 69 = .ok (.lmul, 1) := by decide +kernel
theorem dX8_layWorks_70 : decode cX8_layWorks 70 = .ok (.aload_n 0, 1) := by decide +kernel
theorem dX8_layWorks_71 : decode cX8_layWorks 71 = .ok (.getfield 42, 3) := by decide +kernel
theorem dX8_layWorks_74 : decode cX8_layWorks 74 = .ok (.iload_n 3, 1) := by decide +kernel
theorem dX8_layWorks_75 : decode cX8_layWorks 75 = .ok (.laload, 1) := by decide +kernel
theorem dX8_layWorks_76 : decode cX8_layWorks 76 = .ok (.lmul, 1) := by decide +kernel
theorem dX8_layWorks_77 : decode cX8_layWorks 77 = .ok (.lcmp, 1) := by decide +kernel
theorem dX8_layWorks_78 : decode cX8_layWorks 78 = .ok (.ifCond .eq 5, 3) := by decide +kernel
theorem dX8_layWorks_81 : decode cX8_layWorks 81 = .ok (.iconst 0, 1) := by decide +kernel
theorem dX8_layWorks_82 : decode cX8_layWorks 82 = .ok (.ireturn, 1) := by decide +kernel
theorem dX8_layWorks_83 : decode cX8_layWorks 83 = .ok (.iinc 2 1, 3) := by decide +kernel
theorem dX8_layWorks_86 : decode cX8_layWorks 86 = .ok (.goto (-79), 3) := by decide +kernel
theorem dX8_layWorks_89 : decode cX8_layWorks 89 = .ok (.iconst 1, 1) := by decide +kernel
theorem dX8_layWorks_90 : decode cX8_layWorks 90 = .ok (.istore_n 2, 1) := by decide +kernel
theorem dX8_layWorks_91 : decode cX8_layWorks 91 = .ok (.iconst 0, 1) := by decide +kernel
theorem dX8_layWorks_92 : decode cX8_layWorks 92 = .ok (.istore_n 3, 1) := by decide +kernel
theorem dX8_layWorks_93 : decode cX8_layWorks 93 = .ok (.iload_n 3, 1) := by decide +kernel
theorem dX8_layWorks_94 : decode cX8_layWorks 94 = .ok (.aload_n 0, 1) := by decide +kernel
theorem dX8_layWorks_95 : decode cX8_layWorks 95 = .ok (.getfield 93, 3) := by decide +kernel
theorem dX8_layWorks_98 : decode cX8_layWorks 98 = .ok (.if_icmp .ge 224, 3) := by decide +kernel
theorem dX8_layWorks_101 : decode cX8_layWorks 101 = .ok (.lconst 1, 1) := by decide +kernel
theorem dX8_layWorks_102 : decode cX8_layWorks 102 = .ok (.lstore 4, 2) := by decide +kernel
theorem dX8_layWorks_104 : decode cX8_layWorks 104 = .ok (.lconst 0, 1) := by decide +kernel
theorem dX8_layWorks_105 : decode cX8_layWorks 105 = .ok (.lstore 6, 2) := by decide +kernel
theorem dX8_layWorks_107 : decode cX8_layWorks 107 = .ok (.iconst 0, 1) := by decide +kernel
theorem dX8_layWorks_108 : decode cX8_layWorks 108 = .ok (.istore 8, 2) := by decide +kernel
theorem dX8_layWorks_110 : decode cX8_layWorks 110 = .ok (.iload 8, 2) := by decide +kernel
theorem dX8_layWorks_112 : decode cX8_layWorks 112 = .ok (.aload_n 1, 1) := by decide +kernel
theorem dX8_layWorks_113 : decode cX8_layWorks 113 = .ok (.iconst 0, 1) := by decide +kernel
theorem dX8_layWorks_114 : decode cX8_layWorks 114 = .ok (.iaload, 1) := by decide +kernel
theorem dX8_layWorks_115 : decode cX8_layWorks 115 = .ok (.if_icmp .ge 50, 3) := by decide +kernel
theorem dX8_layWorks_118 : decode cX8_layWorks 118 = .ok (.aload_n 0, 1) := by decide +kernel
theorem dX8_layWorks_119 : decode cX8_layWorks 119 = .ok (.getfield 35, 3) := by decide +kernel
theorem dX8_layWorks_122 : decode cX8_layWorks 122 = .ok (.iload 8, 2) := by decide +kernel
theorem dX8_layWorks_124 : decode cX8_layWorks 124 = .ok (.iaload, 1) := by decide +kernel
theorem dX8_layWorks_125 : decode cX8_layWorks 125 = .ok (.iload_n 3, 1) := by decide +kernel
theorem dX8_layWorks_126 : decode cX8_layWorks 126 = .ok (.if_icmp .ne 29, 3) := by decide +kernel
theorem dX8_layWorks_129 : decode cX8_layWorks 129 = .ok (.lload 4, 2) := by decide +kernel
theorem dX8_layWorks_131 : decode cX8_layWorks 131 = .ok (.lload 4, 2) := by decide +kernel
theorem dX8_layWorks_133 : decode cX8_layWorks 133 = .ok (.aload_n 0, 1) := by decide +kernel
theorem dX8_layWorks_134 : decode cX8_layWorks 134 = .ok (.getfield 42, 3) := by decide +kernel
theorem dX8_layWorks_137 : decode cX8_layWorks 137 = .ok (.iload 8, 2) := by decide +kernel
theorem dX8_layWorks_139 : decode cX8_layWorks 139 = .ok (.laload, 1) := by decide +kernel
theorem dX8_layWorks_140 : decode cX8_layWorks 140 = .ok (.invokestatic 85, 3) := by decide +kernel
theorem dX8_layWorks_143 : decode cX8_layWorks 143 = .ok (.ldiv, 1) := by decide +kernel
theorem dX8_layWorks_144 : decode cX8_layWorks 144 = .ok (.aload_n 0, 1) := by decide +kernel
theorem dX8_layWorks_145 : decode cX8_layWorks 145 = .ok (.getfield 42, 3) := by decide +kernel
theorem dX8_layWorks_148 : decode cX8_layWorks 148 = .ok (.iload 8, 2) := by decide +kernel
theorem dX8_layWorks_150 : decode cX8_layWorks 150 = .ok (.laload, 1) := by decide +kernel
theorem dX8_layWorks_151 : decode cX8_layWorks 151 = .ok (.lmul, 1) := by decide +kernel
theorem dX8_layWorks_152 : decode cX8_layWorks 152 = .ok (.goto 5, 3) := by decide +kernel
theorem dX8_layWorks_155 : decode cX8_layWorks 155 = .ok (.lload 4, 2) := by decide +kernel
theorem dX8_layWorks_157 : decode cX8_layWorks 157 = .ok (.lstore 4, 2) := by decide +kernel
theorem dX8_layWorks_159 : decode cX8_layWorks 159 = .ok (.iinc 8 1, 3) := by decide +kernel
theorem dX8_layWorks_162 : decode cX8_layWorks 162 = .ok (.goto (-52), 3) := by decide +kernel
theorem dX8_layWorks_165 : decode cX8_layWorks 165 = .ok (.iconst 0, 1) := by decide +kernel
theorem dX8_layWorks_166 : decode cX8_layWorks 166 = .ok (.istore 8, 2) := by decide +kernel
theorem dX8_layWorks_168 : decode cX8_layWorks 168 = .ok (.iload 8, 2) := by decide +kernel
theorem dX8_layWorks_170 : decode cX8_layWorks 170 = .ok (.aload_n 1, 1) := by decide +kernel
theorem dX8_layWorks_171 : decode cX8_layWorks 171 = .ok (.iconst 0, 1) := by decide +kernel
theorem dX8_layWorks_172 : decode cX8_layWorks 172 = .ok (.iaload, 1) := by decide +kernel
theorem dX8_layWorks_173 : decode cX8_layWorks 173 = .ok (.if_icmp .ge 50, 3) := by decide +kernel
theorem dX8_layWorks_176 : decode cX8_layWorks 176 = .ok (.aload_n 0, 1) := by decide +kernel
theorem dX8_layWorks_177 : decode cX8_layWorks 177 = .ok (.getfield 35, 3) := by decide +kernel
theorem dX8_layWorks_180 : decode cX8_layWorks 180 = .ok (.iload 8, 2) := by decide +kernel
theorem dX8_layWorks_182 : decode cX8_layWorks 182 = .ok (.iaload, 1) := by decide +kernel
theorem dX8_layWorks_183 : decode cX8_layWorks 183 = .ok (.iload_n 3, 1) := by decide +kernel
theorem dX8_layWorks_184 : decode cX8_layWorks 184 = .ok (.if_icmp .ne 29, 3) := by decide +kernel
theorem dX8_layWorks_187 : decode cX8_layWorks 187 = .ok (.aload_n 0, 1) := by decide +kernel
theorem dX8_layWorks_188 : decode cX8_layWorks 188 = .ok (.getfield 38, 3) := by decide +kernel
theorem dX8_layWorks_191 : decode cX8_layWorks 191 = .ok (.iload 8, 2) := by decide +kernel
theorem dX8_layWorks_193 : decode cX8_layWorks 193 = .ok (.laload, 1) := by decide +kernel
theorem dX8_layWorks_194 : decode cX8_layWorks 194 = .ok (.lload 4, 2) := by decide +kernel
theorem dX8_layWorks_196 : decode cX8_layWorks 196 = .ok (.aload_n 0, 1) := by decide +kernel
theorem dX8_layWorks_197 : decode cX8_layWorks 197 = .ok (.getfield 42, 3) := by decide +kernel
theorem dX8_layWorks_200 : decode cX8_layWorks 200 = .ok (.iload 8, 2) := by decide +kernel
theorem dX8_layWorks_202 : decode cX8_layWorks 202 = .ok (.laload, 1) := by decide +kernel
theorem dX8_layWorks_203 : decode cX8_layWorks 203 = .ok (.ldiv, 1) := by decide +kernel
theorem dX8_layWorks_204 : decode cX8_layWorks 204 = .ok (.lmul, 1) := by decide +kernel
theorem dX8_layWorks_205 : decode cX8_layWorks 205 = .ok (.lload 6, 2) := by decide +kernel
theorem dX8_layWorks_207 : decode cX8_layWorks 207 = .ok (.invokestatic 85, 3) := by decide +kernel
theorem dX8_layWorks_210 : decode cX8_layWorks 210 = .ok (.goto 5, 3) := by decide +kernel
theorem dX8_layWorks_213 : decode cX8_layWorks 213 = .ok (.lload 6, 2) := by decide +kernel
theorem dX8_layWorks_215 : decode cX8_layWorks 215 = .ok (.lstore 6, 2) := by decide +kernel
theorem dX8_layWorks_217 : decode cX8_layWorks 217 = .ok (.iinc 8 1, 3) := by decide +kernel
theorem dX8_layWorks_220 : decode cX8_layWorks 220 = .ok (.goto (-52), 3) := by decide +kernel
theorem dX8_layWorks_223 : decode cX8_layWorks 223 = .ok (.iconst 0, 1) := by decide +kernel
theorem dX8_layWorks_224 : decode cX8_layWorks 224 = .ok (.istore 8, 2) := by decide +kernel
theorem dX8_layWorks_226 : decode cX8_layWorks 226 = .ok (.iload 8, 2) := by decide +kernel
theorem dX8_layWorks_228 : decode cX8_layWorks 228 = .ok (.aload_n 1, 1) := by decide +kernel
theorem dX8_layWorks_229 : decode cX8_layWorks 229 = .ok (.iconst 0, 1) := by decide +kernel
theorem dX8_layWorks_230 : decode cX8_layWorks 230 = .ok (.iaload, 1) := by decide +kernel
theorem dX8_layWorks_231 : decode cX8_layWorks 231 = .ok (.if_icmp .ge 85, 3) := by decide +kernel
theorem dX8_layWorks_234 : decode cX8_layWorks 234 = .ok (.aload_n 0, 1) := by decide +kernel
theorem dX8_layWorks_235 : decode cX8_layWorks 235 = .ok (.getfield 35, 3) := by decide +kernel
theorem dX8_layWorks_238 : decode cX8_layWorks 238 = .ok (.iload 8, 2) := by decide +kernel
theorem dX8_layWorks_240 : decode cX8_layWorks 240 = .ok (.iaload, 1) := by decide +kernel
theorem dX8_layWorks_241 : decode cX8_layWorks 241 = .ok (.iload_n 3, 1) := by decide +kernel
theorem dX8_layWorks_242 : decode cX8_layWorks 242 = .ok (.if_icmp .ne 68, 3) := by decide +kernel
theorem dX8_layWorks_245 : decode cX8_layWorks 245 = .ok (.aload_n 0, 1) := by decide +kernel
theorem dX8_layWorks_246 : decode cX8_layWorks 246 = .ok (.getfield 38, 3) := by decide +kernel
theorem dX8_layWorks_249 : decode cX8_layWorks 249 = .ok (.iload 8, 2) := by decide +kernel
theorem dX8_layWorks_251 : decode cX8_layWorks 251 = .ok (.laload, 1) := by decide +kernel
theorem dX8_layWorks_252 : decode cX8_layWorks 252 = .ok (.lload 4, 2) := by decide +kernel
theorem dX8_layWorks_254 : decode cX8_layWorks 254 = .ok (.aload_n 0, 1) := by decide +kernel
theorem dX8_layWorks_255 : decode cX8_layWorks 255 = .ok (.getfield 42, 3) := by decide +kernel
theorem dX8_layWorks_258 : decode cX8_layWorks 258 = .ok (.iload 8, 2) := by decide +kernel
theorem dX8_layWorks_260 : decode cX8_layWorks 260 = .ok (.laload, 1) := by decide +kernel
theorem dX8_layWorks_261 : decode cX8_layWorks 261 = .ok (.ldiv, 1) := by decide +kernel
theorem dX8_layWorks_262 : decode cX8_layWorks 262 = .ok (.lmul, 1) := by decide +kernel
theorem dX8_layWorks_263 : decode cX8_layWorks 263 = .ok (.lload 6, 2) := by decide +kernel
theorem dX8_layWorks_265 : decode cX8_layWorks 265 = .ok (.ldiv, 1) := by decide +kernel
theorem dX8_layWorks_266 : decode cX8_layWorks 266 = .ok (.lstore 9, 2) := by decide +kernel
theorem dX8_layWorks_268 : decode cX8_layWorks 268 = .ok (.iload_n 2, 1) := by decide +kernel
theorem dX8_layWorks_269 : decode cX8_layWorks 269 = .ok (.ifCond .eq 16, 3) := by decide +kernel
theorem dX8_layWorks_272 : decode cX8_layWorks 272 = .ok (.lload 9, 2) := by decide +kernel
theorem dX8_layWorks_274 : decode cX8_layWorks 274 = .ok (.ldc2_w 104, 3) := by decide +kernel
theorem dX8_layWorks_277 : decode cX8_layWorks 277 = .ok (.lcmp, 1) := by decide +kernel
theorem dX8_layWorks_278 : decode cX8_layWorks 278 = .ok (.ifCond .gt 7, 3) := by decide +kernel
theorem dX8_layWorks_281 : decode cX8_layWorks 281 = .ok (.iconst 1, 1) := by decide +kernel
theorem dX8_layWorks_282 : decode cX8_layWorks 282 = .ok (.goto 4, 3) := by decide +kernel
theorem dX8_layWorks_285 : decode cX8_layWorks 285 = .ok (.iconst 0, 1) := by decide +kernel
theorem dX8_layWorks_286 : decode cX8_layWorks 286 = .ok (.istore_n 2, 1) := by decide +kernel
theorem dX8_layWorks_287 : decode cX8_layWorks 287 = .ok (.aload_n 0, 1) := by decide +kernel
theorem dX8_layWorks_288 : decode cX8_layWorks 288 = .ok (.getfield 32, 3) := by decide +kernel
theorem dX8_layWorks_291 : decode cX8_layWorks 291 = .ok (.iload 8, 2) := by decide +kernel
theorem dX8_layWorks_293 : decode cX8_layWorks 293 = .ok (.lload 9, 2) := by decide +kernel
theorem dX8_layWorks_295 : decode cX8_layWorks 295 = .ok (.ldc2_w 104, 3) := by decide +kernel
theorem dX8_layWorks_298 : decode cX8_layWorks 298 = .ok (.lcmp, 1) := by decide +kernel
theorem dX8_layWorks_299 : decode cX8_layWorks 299 = .ok (.ifCond .gt 9, 3) := by decide +kernel
theorem dX8_layWorks_302 : decode cX8_layWorks 302 = .ok (.lload 9, 2) := by decide +kernel
theorem dX8_layWorks_304 : decode cX8_layWorks 304 = .ok (.l2i, 1) := by decide +kernel
theorem dX8_layWorks_305 : decode cX8_layWorks 305 = .ok (.goto 4, 3) := by decide +kernel
theorem dX8_layWorks_308 : decode cX8_layWorks 308 = .ok (.iconst 0, 1) := by decide +kernel
theorem dX8_layWorks_309 : decode cX8_layWorks 309 = .ok (.iastore, 1) := by decide +kernel
theorem dX8_layWorks_310 : decode cX8_layWorks 310 = .ok (.iinc 8 1, 3) := by decide +kernel
theorem dX8_layWorks_313 : decode cX8_layWorks 313 = .ok (.goto (-87), 3) := by decide +kernel
theorem dX8_layWorks_316 : decode cX8_layWorks 316 = .ok (.iinc 3 1, 3) := by decide +kernel
theorem dX8_layWorks_319 : decode cX8_layWorks 319 = .ok (.goto (-226), 3) := by decide +kernel
theorem dX8_layWorks_322 : decode cX8_layWorks 322 = .ok (.iload_n 2, 1) := by decide +kernel
theorem dX8_layWorks_323 : decode cX8_layWorks 323 = .ok (.ireturn, 1) := by decide +kernel
theorem dX8_dueTogether_0 : decode cX8_dueTogether 0 = .ok (.iconst 0, 1) := by decide +kernel
theorem dX8_dueTogether_1 : decode cX8_dueTogether 1 = .ok (.istore_n 1, 1) := by decide +kernel
theorem dX8_dueTogether_2 : decode cX8_dueTogether 2 = .ok (.iconst 0, 1) := by decide +kernel
theorem dX8_dueTogether_3 : decode cX8_dueTogether 3 = .ok (.istore_n 2, 1) := by decide +kernel
theorem dX8_dueTogether_4 : decode cX8_dueTogether 4 = .ok (.iload_n 2, 1) := by decide +kernel
theorem dX8_dueTogether_5 : decode cX8_dueTogether 5 = .ok (.aload_n 0, 1) := by decide +kernel
theorem dX8_dueTogether_6 : decode cX8_dueTogether 6 = .ok (.getfield 16, 3) := by decide +kernel
theorem dX8_dueTogether_9 : decode cX8_dueTogether 9 = .ok (.iconst 0, 1) := by decide +kernel
theorem dX8_dueTogether_10 : decode cX8_dueTogether 10 = .ok (.iaload, 1) := by decide +kernel
theorem dX8_dueTogether_11 : decode cX8_dueTogether 11 = .ok (.if_icmp .ge 18, 3) := by decide +kernel
theorem dX8_dueTogether_14 : decode cX8_dueTogether 14 = .ok (.iload_n 1, 1) := by decide +kernel
theorem dX8_dueTogether_15 : decode cX8_dueTogether 15 = .ok (.aload_n 0, 1) := by decide +kernel
theorem dX8_dueTogether_16 : decode cX8_dueTogether 16 = .ok (.getfield 32, 3) := by decide +kernel
theorem dX8_dueTogether_19 : decode cX8_dueTogether 19 = .ok (.iload_n 2, 1) := by decide +kernel
theorem dX8_dueTogether_20 : decode cX8_dueTogether 20 = .ok (.iaload, 1) := by decide +kernel
theorem dX8_dueTogether_21 : decode cX8_dueTogether 21 = .ok (.iadd, 1) := by decide +kernel
theorem dX8_dueTogether_22 : decode cX8_dueTogether 22 = .ok (.istore_n 1, 1) := by decide +kernel
theorem dX8_dueTogether_23 : decode cX8_dueTogether 23 = .ok (.iinc 2 1, 3) := by decide +kernel
theorem dX8_dueTogether_26 : decode cX8_dueTogether 26 = .ok (.goto (-22), 3) := by decide +kernel
theorem dX8_dueTogether_29 : decode cX8_dueTogether 29 = .ok (.iload_n 1, 1) := by decide +kernel
theorem dX8_dueTogether_30 : decode cX8_dueTogether 30 = .ok (.ireturn, 1) := by decide +kernel
theorem dX8_canWork_0 : decode cX8_canWork 0 = .ok (.iconst 1, 1) := by decide +kernel
theorem dX8_canWork_1 : decode cX8_canWork 1 = .ok (.istore_n 2, 1) := by decide +kernel
theorem dX8_canWork_2 : decode cX8_canWork 2 = .ok (.iconst 0, 1) := by decide +kernel
theorem dX8_canWork_3 : decode cX8_canWork 3 = .ok (.istore_n 3, 1) := by decide +kernel
theorem dX8_canWork_4 : decode cX8_canWork 4 = .ok (.iload_n 3, 1) := by decide +kernel
theorem dX8_canWork_5 : decode cX8_canWork 5 = .ok (.aload_n 0, 1) := by decide +kernel
theorem dX8_canWork_6 : decode cX8_canWork 6 = .ok (.iconst 1, 1) := by decide +kernel
theorem dX8_canWork_7 : decode cX8_canWork 7 = .ok (.iaload, 1) := by decide +kernel
theorem dX8_canWork_8 : decode cX8_canWork 8 = .ok (.if_icmp .ge 121, 3) := by decide +kernel
theorem dX8_canWork_11 : decode cX8_canWork 11 = .ok (.aload_n 0, 1) := by decide +kernel
theorem dX8_canWork_12 : decode cX8_canWork 12 = .ok (.iload_n 3, 1) := by decide +kernel
theorem dX8_canWork_13 : decode cX8_canWork 13 = .ok (.iconst 4, 1) := by decide +kernel
theorem dX8_canWork_14 : decode cX8_canWork 14 = .ok (.invokestatic 73, 3) := by decide +kernel
theorem dX8_canWork_17 : decode cX8_canWork 17 = .ok (.iaload, 1) := by decide +kernel
theorem dX8_canWork_18 : decode cX8_canWork 18 = .ok (.istore 4, 2) := by decide +kernel
theorem dX8_canWork_20 : decode cX8_canWork 20 = .ok (.aload_n 0, 1) := by decide +kernel
theorem dX8_canWork_21 : decode cX8_canWork 21 = .ok (.iload_n 3, 1) := by decide +kernel
theorem dX8_canWork_22 : decode cX8_canWork 22 = .ok (.iconst 1, 1) := by decide +kernel
theorem dX8_canWork_23 : decode cX8_canWork 23 = .ok (.invokestatic 73, 3) := by decide +kernel
theorem dX8_canWork_26 : decode cX8_canWork 26 = .ok (.iaload, 1) := by decide +kernel
theorem dX8_canWork_27 : decode cX8_canWork 27 = .ok (.iload_n 1, 1) := by decide +kernel
theorem dX8_canWork_28 : decode cX8_canWork 28 = .ok (.if_icmp .ne 7, 3) := by decide +kernel
theorem dX8_canWork_31 : decode cX8_canWork 31 = .ok (.iconst 1, 1) := by decide +kernel
theorem dX8_canWork_32 : decode cX8_canWork 32 = .ok (.goto 4, 3) := by decide +kernel
theorem dX8_canWork_35 : decode cX8_canWork 35 = .ok (.iconst 0, 1) := by decide +kernel
theorem dX8_canWork_36 : decode cX8_canWork 36 = .ok (.istore 5, 2) := by decide +kernel
theorem dX8_canWork_38 : decode cX8_canWork 38 = .ok (.iload_n 2, 1) := by decide +kernel
theorem dX8_canWork_39 : decode cX8_canWork 39 = .ok (.ifCond .eq 24, 3) := by decide +kernel
theorem dX8_canWork_42 : decode cX8_canWork 42 = .ok (.iload 5, 2) := by decide +kernel
theorem dX8_canWork_44 : decode cX8_canWork 44 = .ok (.ifCond .eq 15, 3) := by decide +kernel
theorem dX8_canWork_47 : decode cX8_canWork 47 = .ok (.iload 4, 2) := by decide +kernel
theorem dX8_canWork_49 : decode cX8_canWork 49 = .ok (.aload_n 0, 1) := by decide +kernel
theorem dX8_canWork_50 : decode cX8_canWork 50 = .ok (.iload_n 3, 1) := by decide +kernel
theorem dX8_canWork_51 : decode cX8_canWork 51 = .ok (.iconst 3, 1) := by decide +kernel
theorem dX8_canWork_52 : decode cX8_canWork 52 = .ok (.invokestatic 73, 3) := by decide +kernel
theorem dX8_canWork_55 : decode cX8_canWork 55 = .ok (.iaload, 1) := by decide +kernel
theorem dX8_canWork_56 : decode cX8_canWork 56 = .ok (.if_icmp .lt 7, 3) := by decide +kernel
theorem dX8_canWork_59 : decode cX8_canWork 59 = .ok (.iconst 1, 1) := by decide +kernel
theorem dX8_canWork_60 : decode cX8_canWork 60 = .ok (.goto 4, 3) := by decide +kernel
theorem dX8_canWork_63 : decode cX8_canWork 63 = .ok (.iconst 0, 1) := by decide +kernel
theorem dX8_canWork_64 : decode cX8_canWork 64 = .ok (.istore_n 2, 1) := by decide +kernel
theorem dX8_canWork_65 : decode cX8_canWork 65 = .ok (.iload 4, 2) := by decide +kernel
theorem dX8_canWork_67 : decode cX8_canWork 67 = .ok (.iload 5, 2) := by decide +kernel
theorem dX8_canWork_69 : decode cX8_canWork 69 = .ok (.ifCond .eq 13, 3) := by decide +kernel
theorem dX8_canWork_72 : decode cX8_canWork 72 = .ok (.aload_n 0, 1) := by decide +kernel
theorem dX8_canWork_73 : decode cX8_canWork 73 = .ok (.iload_n 3, 1) := by decide +kernel
theorem dX8_canWork_74 : decode cX8_canWork 74 = .ok (.iconst 3, 1) := by decide +kernel
theorem dX8_canWork_75 : decode cX8_canWork 75 = .ok (.invokestatic 73, 3) := by decide +kernel
theorem dX8_canWork_78 : decode cX8_canWork 78 = .ok (.iaload, 1) := by decide +kernel
theorem dX8_canWork_79 : decode cX8_canWork 79 = .ok (.goto 4, 3) := by decide +kernel
theorem dX8_canWork_82 : decode cX8_canWork 82 = .ok (.iconst 0, 1) := by decide +kernel
theorem dX8_canWork_83 : decode cX8_canWork 83 = .ok (.isub, 1) := by decide +kernel
theorem dX8_canWork_84 : decode cX8_canWork 84 = .ok (.aload_n 0, 1) := by decide +kernel
theorem dX8_canWork_85 : decode cX8_canWork 85 = .ok (.iload_n 3, 1) := by decide +kernel
theorem dX8_canWork_86 : decode cX8_canWork 86 = .ok (.iconst 2, 1) := by decide +kernel
theorem dX8_canWork_87 : decode cX8_canWork 87 = .ok (.invokestatic 73, 3) := by decide +kernel
theorem dX8_canWork_90 : decode cX8_canWork 90 = .ok (.iaload, 1) := by decide +kernel
theorem dX8_canWork_91 : decode cX8_canWork 91 = .ok (.iadd, 1) := by decide +kernel
theorem dX8_canWork_92 : decode cX8_canWork 92 = .ok (.istore 6, 2) := by decide +kernel
theorem dX8_canWork_94 : decode cX8_canWork 94 = .ok (.iload_n 2, 1) := by decide +kernel
theorem dX8_canWork_95 : decode cX8_canWork 95 = .ok (.ifCond .eq 26, 3) := by decide +kernel
theorem dX8_canWork_98 : decode cX8_canWork 98 = .ok (.aload_n 0, 1) := by decide +kernel
theorem dX8_canWork_99 : decode cX8_canWork 99 = .ok (.iload_n 3, 1) := by decide +kernel
theorem dX8_canWork_100 : decode cX8_canWork 100 = .ok (.iconst 0, 1) := by decide +kernel
theorem dX8_canWork_101 : decode cX8_canWork 101 = .ok (.invokestatic 73, 3) := by decide +kernel
theorem dX8_canWork_104 : decode cX8_canWork 104 = .ok (.iaload, 1) := by decide +kernel
theorem dX8_canWork_105 : decode cX8_canWork 105 = .ok (.iload_n 1, 1) := by decide +kernel
theorem dX8_canWork_106 : decode cX8_canWork 106 = .ok (.if_icmp .ne 11, 3) := by decide +kernel
theorem dX8_canWork_109 : decode cX8_canWork 109 = .ok (.iload 6, 2) := by decide +kernel
theorem dX8_canWork_111 : decode cX8_canWork 111 = .ok (.sipush 999, 3) := by decide +kernel
theorem dX8_canWork_114 : decode cX8_canWork 114 = .ok (.if_icmp .gt 7, 3) := by decide +kernel
theorem dX8_canWork_117 : decode cX8_canWork 117 = .ok (.iconst 1, 1) := by decide +kernel
theorem dX8_canWork_118 : decode cX8_canWork 118 = .ok (.goto 4, 3) := by decide +kernel
theorem dX8_canWork_121 : decode cX8_canWork 121 = .ok (.iconst 0, 1) := by decide +kernel
theorem dX8_canWork_122 : decode cX8_canWork 122 = .ok (.istore_n 2, 1) := by decide +kernel
theorem dX8_canWork_123 : decode cX8_canWork 123 = .ok (.iinc 3 1, 3) := by decide +kernel
theorem dX8_canWork_126 : decode cX8_canWork 126 = .ok (.goto (-122), 3) := by decide +kernel
theorem dX8_canWork_129 : decode cX8_canWork 129 = .ok (.iload_n 2, 1) := by decide +kernel
theorem dX8_canWork_130 : decode cX8_canWork 130 = .ok (.ireturn, 1) := by decide +kernel
theorem dX8_workIn_0 : decode cX8_workIn 0 = .ok (.iconst 0, 1) := by decide +kernel
theorem dX8_workIn_1 : decode cX8_workIn 1 = .ok (.istore_n 2, 1) := by decide +kernel
theorem dX8_workIn_2 : decode cX8_workIn 2 = .ok (.iload_n 2, 1) := by decide +kernel
theorem dX8_workIn_3 : decode cX8_workIn 3 = .ok (.aload_n 0, 1) := by decide +kernel
theorem dX8_workIn_4 : decode cX8_workIn 4 = .ok (.iconst 1, 1) := by decide +kernel
theorem dX8_workIn_5 : decode cX8_workIn 5 = .ok (.iaload, 1) := by decide +kernel
theorem dX8_workIn_6 : decode cX8_workIn 6 = .ok (.if_icmp .ge 73, 3) := by decide +kernel
theorem dX8_workIn_9 : decode cX8_workIn 9 = .ok (.aload_n 0, 1) := by decide +kernel
theorem dX8_workIn_10 : decode cX8_workIn 10 = .ok (.iload_n 2, 1) := by decide +kernel
theorem dX8_workIn_11 : decode cX8_workIn 11 = .ok (.iconst 4, 1) := by decide +kernel
theorem dX8_workIn_12 : decode cX8_workIn 12 = .ok (.invokestatic 73, 3) := by decide +kernel
theorem dX8_workIn_15 : decode cX8_workIn 15 = .ok (.dup2, 1) := by decide +kernel
theorem dX8_workIn_16 : decode cX8_workIn 16 = .ok (.iaload, 1) := by decide +kernel
theorem dX8_workIn_17 : decode cX8_workIn 17 = .ok (.aload_n 0, 1) := by decide +kernel
theorem dX8_workIn_18 : decode cX8_workIn 18 = .ok (.iload_n 2, 1) := by decide +kernel
theorem dX8_workIn_19 : decode cX8_workIn 19 = .ok (.iconst 1, 1) := by decide +kernel
theorem dX8_workIn_20 : decode cX8_workIn 20 = .ok (.invokestatic 73, 3) := by decide +kernel
theorem dX8_workIn_23 : decode cX8_workIn 23 = .ok (.iaload, 1) := by decide +kernel
theorem dX8_workIn_24 : decode cX8_workIn 24 = .ok (.iload_n 1, 1) := by decide +kernel
theorem dX8_workIn_25 : decode cX8_workIn 25 = .ok (.if_icmp .ne 13, 3) := by decide +kernel
theorem dX8_workIn_28 : decode cX8_workIn 28 = .ok (.aload_n 0, 1) := by decide +kernel
theorem dX8_workIn_29 : decode cX8_workIn 29 = .ok (.iload_n 2, 1) := by decide +kernel
theorem dX8_workIn_30 : decode cX8_workIn 30 = .ok (.iconst 3, 1) := by decide +kernel
theorem dX8_workIn_31 : decode cX8_workIn 31 = .ok (.invokestatic 73, 3) := by decide +kernel
theorem dX8_workIn_34 : decode cX8_workIn 34 = .ok (.iaload, 1) := by decide +kernel
theorem dX8_workIn_35 : decode cX8_workIn 35 = .ok (.goto 4, 3) := by decide +kernel
theorem dX8_workIn_38 : decode cX8_workIn 38 = .ok (.iconst 0, 1) := by decide +kernel
theorem dX8_workIn_39 : decode cX8_workIn 39 = .ok (.isub, 1) := by decide +kernel
theorem dX8_workIn_40 : decode cX8_workIn 40 = .ok (.iastore, 1) := by decide +kernel
theorem dX8_workIn_41 : decode cX8_workIn 41 = .ok (.aload_n 0, 1) := by decide +kernel
theorem dX8_workIn_42 : decode cX8_workIn 42 = .ok (.iload_n 2, 1) := by decide +kernel
theorem dX8_workIn_43 : decode cX8_workIn 43 = .ok (.iconst 4, 1) := by decide +kernel
theorem dX8_workIn_44 : decode cX8_workIn 44 = .ok (.invokestatic 73, 3) := by decide +kernel
theorem dX8_workIn_47 : decode cX8_workIn 47 = .ok (.dup2, 1) := by decide +kernel
theorem dX8_workIn_48 : decode cX8_workIn 48 = .ok (.iaload, 1) := by decide +kernel
theorem dX8_workIn_49 : decode cX8_workIn 49 = .ok (.aload_n 0, 1) := by decide +kernel
theorem dX8_workIn_50 : decode cX8_workIn 50 = .ok (.iload_n 2, 1) := by decide +kernel
theorem dX8_workIn_51 : decode cX8_workIn 51 = .ok (.iconst 0, 1) := by decide +kernel
theorem dX8_workIn_52 : decode cX8_workIn 52 = .ok (.invokestatic 73, 3) := by decide +kernel
theorem dX8_workIn_55 : decode cX8_workIn 55 = .ok (.iaload, 1) := by decide +kernel
theorem dX8_workIn_56 : decode cX8_workIn 56 = .ok (.iload_n 1, 1) := by decide +kernel
theorem dX8_workIn_57 : decode cX8_workIn 57 = .ok (.if_icmp .ne 13, 3) := by decide +kernel
theorem dX8_workIn_60 : decode cX8_workIn 60 = .ok (.aload_n 0, 1) := by decide +kernel
theorem dX8_workIn_61 : decode cX8_workIn 61 = .ok (.iload_n 2, 1) := by decide +kernel
theorem dX8_workIn_62 : decode cX8_workIn 62 = .ok (.iconst 2, 1) := by decide +kernel
theorem dX8_workIn_63 : decode cX8_workIn 63 = .ok (.invokestatic 73, 3) := by decide +kernel
theorem dX8_workIn_66 : decode cX8_workIn 66 = .ok (.iaload, 1) := by decide +kernel
theorem dX8_workIn_67 : decode cX8_workIn 67 = .ok (.goto 4, 3) := by decide +kernel
theorem dX8_workIn_70 : decode cX8_workIn 70 = .ok (.iconst 0, 1) := by decide +kernel
theorem dX8_workIn_71 : decode cX8_workIn 71 = .ok (.iadd, 1) := by decide +kernel
theorem dX8_workIn_72 : decode cX8_workIn 72 = .ok (.iastore, 1) := by decide +kernel
theorem dX8_workIn_73 : decode cX8_workIn 73 = .ok (.iinc 2 1, 3) := by decide +kernel
theorem dX8_workIn_76 : decode cX8_workIn 76 = .ok (.goto (-74), 3) := by decide +kernel
theorem dX8_workIn_79 : decode cX8_workIn 79 = .ok (.aload_n 0, 1) := by decide +kernel
theorem dX8_workIn_80 : decode cX8_workIn 80 = .ok (.iload_n 1, 1) := by decide +kernel
theorem dX8_workIn_81 : decode cX8_workIn 81 = .ok (.iconst 2, 1) := by decide +kernel
theorem dX8_workIn_82 : decode cX8_workIn 82 = .ok (.invokestatic 77, 3) := by decide +kernel
theorem dX8_workIn_85 : decode cX8_workIn 85 = .ok (.dup2, 1) := by decide +kernel
theorem dX8_workIn_86 : decode cX8_workIn 86 = .ok (.iaload, 1) := by decide +kernel
theorem dX8_workIn_87 : decode cX8_workIn 87 = .ok (.iconst 1, 1) := by decide +kernel
theorem dX8_workIn_88 : decode cX8_workIn 88 = .ok (.iadd, 1) := by decide +kernel
theorem dX8_workIn_89 : decode cX8_workIn 89 = .ok (.iastore, 1) := by decide +kernel
theorem dX8_workIn_90 : decode cX8_workIn 90 = .ok (.return_, 1) := by decide +kernel
theorem dX8_gain_0 : decode cX8_gain 0 = .ok (.iconst 0, 1) := by decide +kernel
theorem dX8_gain_1 : decode cX8_gain 1 = .ok (.istore_n 2, 1) := by decide +kernel
theorem dX8_gain_2 : decode cX8_gain 2 = .ok (.iconst 0, 1) := by decide +kernel
theorem dX8_gain_3 : decode cX8_gain 3 = .ok (.istore_n 3, 1) := by decide +kernel
theorem dX8_gain_4 : decode cX8_gain 4 = .ok (.iload_n 3, 1) := by decide +kernel
theorem dX8_gain_5 : decode cX8_gain 5 = .ok (.aload_n 0, 1) := by decide +kernel
theorem dX8_gain_6 : decode cX8_gain 6 = .ok (.iconst 1, 1) := by decide +kernel
theorem dX8_gain_7 : decode cX8_gain 7 = .ok (.iaload, 1) := by decide +kernel
theorem dX8_gain_8 : decode cX8_gain 8 = .ok (.if_icmp .ge 57, 3) := by decide +kernel
theorem dX8_gain_11 : decode cX8_gain 11 = .ok (.iload_n 2, 1) := by decide +kernel
theorem dX8_gain_12 : decode cX8_gain 12 = .ok (.aload_n 0, 1) := by decide +kernel
theorem dX8_gain_13 : decode cX8_gain 13 = .ok (.iload_n 3, 1) := by decide +kernel
theorem dX8_gain_14 : decode cX8_gain 14 = .ok (.iconst 0, 1) := by decide +kernel
theorem dX8_gain_15 : decode cX8_gain 15 = .ok (.invokestatic 73, 3) := by decide +kernel
theorem dX8_gain_18 : decode cX8_gain 18 = .ok (.iaload, 1) := by decide +kernel
theorem dX8_gain_19 : decode cX8_gain 19 = .ok (.iload_n 1, 1) := by decide +kernel
theorem dX8_gain_20 : decode cX8_gain 20 = .ok (.if_icmp .ne 13, 3) := by decide +kernel
theorem dX8_gain_23 : decode cX8_gain 23 = .ok (.aload_n 0, 1) := by decide +kernel
theorem dX8_gain_24 : decode cX8_gain 24 = .ok (.iload_n 3, 1) := by decide +kernel
theorem dX8_gain_25 : decode cX8_gain 25 = .ok (.iconst 2, 1) := by decide +kernel
theorem dX8_gain_26 : decode cX8_gain 26 = .ok (.invokestatic 73, 3) := by decide +kernel
theorem dX8_gain_29 : decode cX8_gain 29 = .ok (.iaload, 1) := by decide +kernel
theorem dX8_gain_30 : decode cX8_gain 30 = .ok (.goto 4, 3) := by decide +kernel
theorem dX8_gain_33 : decode cX8_gain 33 = .ok (.iconst 0, 1) := by decide +kernel
theorem dX8_gain_34 : decode cX8_gain 34 = .ok (.aload_n 0, 1) := by decide +kernel
theorem dX8_gain_35 : decode cX8_gain 35 = .ok (.iload_n 3, 1) := by decide +kernel
theorem dX8_gain_36 : decode cX8_gain 36 = .ok (.iconst 1, 1) := by decide +kernel
theorem dX8_gain_37 : decode cX8_gain 37 = .ok (.invokestatic 73, 3) := by decide +kernel
theorem dX8_gain_40 : decode cX8_gain 40 = .ok (.iaload, 1) := by decide +kernel
theorem dX8_gain_41 : decode cX8_gain 41 = .ok (.iload_n 1, 1) := by decide +kernel
theorem dX8_gain_42 : decode cX8_gain 42 = .ok (.if_icmp .ne 13, 3) := by decide +kernel
theorem dX8_gain_45 : decode cX8_gain 45 = .ok (.aload_n 0, 1) := by decide +kernel
theorem dX8_gain_46 : decode cX8_gain 46 = .ok (.iload_n 3, 1) := by decide +kernel
theorem dX8_gain_47 : decode cX8_gain 47 = .ok (.iconst 3, 1) := by decide +kernel
theorem dX8_gain_48 : decode cX8_gain 48 = .ok (.invokestatic 73, 3) := by decide +kernel
theorem dX8_gain_51 : decode cX8_gain 51 = .ok (.iaload, 1) := by decide +kernel
theorem dX8_gain_52 : decode cX8_gain 52 = .ok (.goto 4, 3) := by decide +kernel
theorem dX8_gain_55 : decode cX8_gain 55 = .ok (.iconst 0, 1) := by decide +kernel
theorem dX8_gain_56 : decode cX8_gain 56 = .ok (.isub, 1) := by decide +kernel
theorem dX8_gain_57 : decode cX8_gain 57 = .ok (.iadd, 1) := by decide +kernel
theorem dX8_gain_58 : decode cX8_gain 58 = .ok (.istore_n 2, 1) := by decide +kernel
theorem dX8_gain_59 : decode cX8_gain 59 = .ok (.iinc 3 1, 3) := by decide +kernel
theorem dX8_gain_62 : decode cX8_gain 62 = .ok (.goto (-58), 3) := by decide +kernel
theorem dX8_gain_65 : decode cX8_gain 65 = .ok (.iload_n 2, 1) := by decide +kernel
theorem dX8_gain_66 : decode cX8_gain 66 = .ok (.ireturn, 1) := by decide +kernel
theorem dX8_choice_0 : decode cX8_choice 0 = .ok (.iconst (-1), 1) := by decide +kernel
theorem dX8_choice_1 : decode cX8_choice 1 = .ok (.istore 4, 2) := by decide +kernel
theorem dX8_choice_3 : decode cX8_choice 3 = .ok (.aload_n 1, 1) := by decide +kernel
theorem dX8_choice_4 : decode cX8_choice 4 = .ok (.iconst 0, 1) := by decide +kernel
theorem dX8_choice_5 : decode cX8_choice 5 = .ok (.iaload, 1) := by decide +kernel
theorem dX8_choice_6 : decode cX8_choice 6 = .ok (.istore 5, 2) := by decide +kernel
theorem dX8_choice_8 : decode cX8_choice 8 = .ok (.iconst 0, 1) := by decide +kernel
theorem dX8_choice_9 : decode cX8_choice 9 = .ok (.istore 6, 2) := by decide +kernel
theorem dX8_choice_11 : decode cX8_choice 11 = .ok (.iload 6, 2) := by decide +kernel
theorem dX8_choice_13 : decode cX8_choice 13 = .ok (.iload 5, 2) := by decide +kernel
theorem dX8_choice_15 : decode cX8_choice 15 = .ok (.if_icmp .ge 115, 3) := by decide +kernel
theorem dX8_choice_18 : decode cX8_choice 18 = .ok (.iload_n 2, 1) := by decide +kernel
theorem dX8_choice_19 : decode cX8_choice 19 = .ok (.iconst 2, 1) := by decide +kernel
theorem dX8_choice_20 : decode cX8_choice 20 = .ok (.if_icmp .ne 15, 3) := by decide +kernel
theorem dX8_choice_23 : decode cX8_choice 23 = .ok (.iload_n 3, 1) := by decide +kernel
theorem dX8_choice_24 : decode cX8_choice 24 = .ok (.iconst 1, 1) := by decide +kernel
theorem dX8_choice_25 : decode cX8_choice 25 = .ok (.iadd, 1) := by decide +kernel
theorem dX8_choice_26 : decode cX8_choice 26 = .ok (.iload 6, 2) := by decide +kernel
theorem dX8_choice_28 : decode cX8_choice 28 = .ok (.iadd, 1) := by decide +kernel
theorem dX8_choice_29 : decode cX8_choice 29 = .ok (.iload 5, 2) := by decide +kernel
theorem dX8_choice_31 : decode cX8_choice 31 = .ok (.irem, 1) := by decide +kernel
theorem dX8_choice_32 : decode cX8_choice 32 = .ok (.goto 5, 3) := by decide +kernel
theorem dX8_choice_35 : decode cX8_choice 35 = .ok (.iload 6, 2) := by decide +kernel
theorem dX8_choice_37 : decode cX8_choice 37 = .ok (.istore 7, 2) := by decide +kernel
theorem dX8_choice_39 : decode cX8_choice 39 = .ok (.aload_n 0, 1) := by decide +kernel
theorem dX8_choice_40 : decode cX8_choice 40 = .ok (.getfield 45, 3) := by decide +kernel
theorem dX8_choice_43 : decode cX8_choice 43 = .ok (.iload 7, 2) := by decide +kernel
theorem dX8_choice_45 : decode cX8_choice 45 = .ok (.iaload, 1) := by decide +kernel
theorem dX8_choice_46 : decode cX8_choice 46 = .ok (.aload_n 0, 1) := by decide +kernel
theorem dX8_choice_47 : decode cX8_choice 47 = .ok (.getfield 32, 3) := by decide +kernel
theorem dX8_choice_50 : decode cX8_choice 50 = .ok (.iload 7, 2) := by decide +kernel
theorem dX8_choice_52 : decode cX8_choice 52 = .ok (.iaload, 1) := by decide +kernel
theorem dX8_choice_53 : decode cX8_choice 53 = .ok (.if_icmp .ge 16, 3) := by decide +kernel
theorem dX8_choice_56 : decode cX8_choice 56 = .ok (.aload_n 1, 1) := by decide +kernel
theorem dX8_choice_57 : decode cX8_choice 57 = .ok (.iload 7, 2) := by decide +kernel
theorem dX8_choice_59 : decode cX8_choice 59 = .ok (.invokestatic 106, 3) := by decide +kernel
theorem dX8_choice_62 : decode cX8_choice 62 = .ok (.ifCond .eq 7, 3) := by decide +kernel
theorem dX8_choice_65 : decode cX8_choice 65 = .ok (.iconst 1, 1) := by decide +kernel
theorem dX8_choice_66 : decode cX8_choice 66 = .ok (.goto 4, 3) := by decide +kernel
theorem dX8_choice_69 : decode cX8_choice 69 = .ok (.iconst 0, 1) := by decide +kernel
theorem dX8_choice_70 : decode cX8_choice 70 = .ok (.istore 8, 2) := by decide +kernel
theorem dX8_choice_72 : decode cX8_choice 72 = .ok (.iload 4, 2) := by decide +kernel
theorem dX8_choice_74 : decode cX8_choice 74 = .ok (.iconst (-1), 1) := by decide +kernel
theorem dX8_choice_75 : decode cX8_choice 75 = .ok (.if_icmp .eq 23, 3) := by decide +kernel
theorem dX8_choice_78 : decode cX8_choice 78 = .ok (.iload_n 2, 1) := by decide +kernel
theorem dX8_choice_79 : decode cX8_choice 79 = .ok (.iconst 1, 1) := by decide +kernel
theorem dX8_choice_80 : decode cX8_choice 80 = .ok (.if_icmp .ne 22, 3) := by decide +kernel
theorem dX8_choice_83 : decode cX8_choice 83 = .ok (.aload_n 1, 1) := by decide +kernel
theorem dX8_choice_84 : decode cX8_choice 84 = .ok (.iload 7, 2) := by decide +kernel
theorem dX8_choice_86 : decode cX8_choice 86 = .ok (.invokestatic 110, 3) := by decide +kernel
theorem dX8_choice_89 : decode cX8_choice 89 = .ok (.aload_n 1, 1) := by decide +kernel
theorem dX8_choice_90 : decode cX8_choice 90 = .ok (.iload 4, 2) := by decide +kernel
theorem dX8_choice_92 : decode cX8_choice 92 = .ok (.invokestatic 110, 3) := by decide +kernel
theorem dX8_choice_95 : decode cX8_choice 95 = .ok (.if_icmp .ge 7, 3) := by decide +kernel
theorem dX8_choice_98 : decode cX8_choice 98 = .ok (.iconst 1, 1) := by decide +kernel
theorem dX8_choice_99 : decode cX8_choice 99 = .ok (.goto 4, 3) := by decide +kernel
theorem dX8_choice_102 : decode cX8_choice 102 = .ok (.iconst 0, 1) := by decide +kernel
theorem dX8_choice_103 : decode cX8_choice 103 = .ok (.istore 9, 2) := by decide +kernel
theorem dX8_choice_105 : decode cX8_choice 105 = .ok (.iload 8, 2) := by decide +kernel
theorem dX8_choice_107 : decode cX8_choice 107 = .ok (.ifCond .eq 13, 3) := by decide +kernel
theorem dX8_choice_110 : decode cX8_choice 110 = .ok (.iload 9, 2) := by decide +kernel
theorem dX8_choice_112 : decode cX8_choice 112 = .ok (.ifCond .eq 8, 3) := by decide +kernel
theorem dX8_choice_115 : decode cX8_choice 115 = .ok (.iload 7, 2) := by decide +kernel
theorem dX8_choice_117 : decode cX8_choice 117 = .ok (.goto 5, 3) := by decide +kernel
theorem dX8_choice_120 : decode cX8_choice 120 = .ok (.iload 4, 2) := by decide +kernel
theorem dX8_choice_122 : decode cX8_choice 122 = .ok (.istore 4, 2) := by decide +kernel
theorem dX8_choice_124 : decode cX8_choice 124 = .ok (.iinc 6 1, 3) := by decide +kernel
theorem dX8_choice_127 : decode cX8_choice 127 = .ok (.goto (-116), 3) := by decide +kernel
theorem dX8_choice_130 : decode cX8_choice 130 = .ok (.iload 4, 2) := by decide +kernel
theorem dX8_choice_132 : decode cX8_choice 132 = .ok (.ireturn, 1) := by decide +kernel
theorem dX8_note_0 : decode cX8_note 0 = .ok (.iconst 0, 1) := by decide +kernel
theorem dX8_note_1 : decode cX8_note 1 = .ok (.istore_n 2, 1) := by decide +kernel
theorem dX8_note_2 : decode cX8_note 2 = .ok (.iload_n 2, 1) := by decide +kernel
theorem dX8_note_3 : decode cX8_note 3 = .ok (.aload_n 1, 1) := by decide +kernel
theorem dX8_note_4 : decode cX8_note 4 = .ok (.iconst 1, 1) := by decide +kernel
theorem dX8_note_5 : decode cX8_note 5 = .ok (.iaload, 1) := by decide +kernel
theorem dX8_note_6 : decode cX8_note 6 = .ok (.if_icmp .ge 47, 3) := by decide +kernel
theorem dX8_note_9 : decode cX8_note 9 = .ok (.aload_n 0, 1) := by decide +kernel
theorem dX8_note_10 : decode cX8_note 10 = .ok (.getfield 51, 3) := by decide +kernel
theorem dX8_note_13 : decode cX8_note 13 = .ok (.iload_n 2, 1) := by decide +kernel
theorem dX8_note_14 : decode cX8_note 14 = .ok (.aload_n 1, 1) := by decide +kernel
theorem dX8_note_15 : decode cX8_note 15 = .ok (.iload_n 2, 1) := by decide +kernel
theorem dX8_note_16 : decode cX8_note 16 = .ok (.iconst 4, 1) := by decide +kernel
theorem dX8_note_17 : decode cX8_note 17 = .ok (.invokestatic 73, 3) := by decide +kernel
theorem dX8_note_20 : decode cX8_note 20 = .ok (.iaload, 1) := by decide +kernel
theorem dX8_note_21 : decode cX8_note 21 = .ok (.aload_n 0, 1) := by decide +kernel
theorem dX8_note_22 : decode cX8_note 22 = .ok (.getfield 51, 3) := by decide +kernel
theorem dX8_note_25 : decode cX8_note 25 = .ok (.iload_n 2, 1) := by decide +kernel
theorem dX8_note_26 : decode cX8_note 26 = .ok (.iaload, 1) := by decide +kernel
theorem dX8_note_27 : decode cX8_note 27 = .ok (.if_icmp .le 13, 3) := by decide +kernel
theorem dX8_note_30 : decode cX8_note 30 = .ok (.aload_n 1, 1) := by decide +kernel
theorem dX8_note_31 : decode cX8_note 31 = .ok (.iload_n 2, 1) := by decide +kernel
theorem dX8_note_32 : decode cX8_note 32 = .ok (.iconst 4, 1) := by decide +kernel
theorem dX8_note_33 : decode cX8_note 33 = .ok (.invokestatic 73, 3) := by decide +kernel
theorem dX8_note_36 : decode cX8_note 36 = .ok (.iaload, 1) := by decide +kernel
theorem dX8_note_37 : decode cX8_note 37 = .ok (.goto 9, 3) := by decide +kernel
theorem dX8_note_40 : decode cX8_note 40 = .ok (.aload_n 0, 1) := by decide +kernel
theorem dX8_note_41 : decode cX8_note 41 = .ok (.getfield 51, 3) := by decide +kernel
theorem dX8_note_44 : decode cX8_note 44 = .ok (.iload_n 2, 1) := by decide +kernel
theorem dX8_note_45 : decode cX8_note 45 = .ok (.iaload, 1) := by decide +kernel
theorem dX8_note_46 : decode cX8_note 46 = .ok (.iastore, 1) := by decide +kernel
theorem dX8_note_47 : decode cX8_note 47 = .ok (.iinc 2 1, 3) := by decide +kernel
theorem dX8_note_50 : decode cX8_note 50 = .ok (.goto (-48), 3) := by decide +kernel
theorem dX8_note_53 : decode cX8_note 53 = .ok (.return_, 1) := by decide +kernel
theorem dX8_play_0 : decode cX8_play 0 = .ok (.aload_n 0, 1) := by decide +kernel
theorem dX8_play_1 : decode cX8_play 1 = .ok (.iconst 0, 1) := by decide +kernel
theorem dX8_play_2 : decode cX8_play 2 = .ok (.putfield 114, 3) := by decide +kernel
theorem dX8_play_5 : decode cX8_play 5 = .ok (.iconst 0, 1) := by decide +kernel
theorem dX8_play_6 : decode cX8_play 6 = .ok (.istore_n 3, 1) := by decide +kernel
theorem dX8_play_7 : decode cX8_play 7 = .ok (.iload_n 3, 1) := by decide +kernel
theorem dX8_play_8 : decode cX8_play 8 = .ok (.bipush 14, 2) := by decide +kernel
theorem dX8_play_10 : decode cX8_play 10 = .ok (.if_icmp .ge 16, 3) := by decide +kernel
theorem dX8_play_13 : decode cX8_play 13 = .ok (.aload_n 0, 1) := by decide +kernel
theorem dX8_play_14 : decode cX8_play 14 = .ok (.getfield 51, 3) := by decide +kernel
theorem dX8_play_17 : decode cX8_play 17 = .ok (.iload_n 3, 1) := by decide +kernel
theorem dX8_play_18 : decode cX8_play 18 = .ok (.iconst 0, 1) := by decide +kernel
theorem dX8_play_19 : decode cX8_play 19 = .ok (.iastore, 1) := by decide +kernel
theorem dX8_play_20 : decode cX8_play 20 = .ok (.iinc 3 1, 3) := by decide +kernel
theorem dX8_play_23 : decode cX8_play 23 = .ok (.goto (-16), 3) := by decide +kernel
theorem dX8_play_26 : decode cX8_play 26 = .ok (.iconst 0, 1) := by decide +kernel
theorem dX8_play_27 : decode cX8_play 27 = .ok (.istore_n 3, 1) := by decide +kernel
theorem dX8_play_28 : decode cX8_play 28 = .ok (.iload_n 3, 1) := by decide +kernel
theorem dX8_play_29 : decode cX8_play 29 = .ok (.bipush 8, 2) := by decide +kernel
theorem dX8_play_31 : decode cX8_play 31 = .ok (.if_icmp .ge 16, 3) := by decide +kernel
theorem dX8_play_34 : decode cX8_play 34 = .ok (.aload_n 0, 1) := by decide +kernel
theorem dX8_play_35 : decode cX8_play 35 = .ok (.getfield 45, 3) := by decide +kernel
theorem dX8_play_38 : decode cX8_play 38 = .ok (.iload_n 3, 1) := by decide +kernel
theorem dX8_play_39 : decode cX8_play 39 = .ok (.iconst 0, 1) := by decide +kernel
theorem dX8_play_40 : decode cX8_play 40 = .ok (.iastore, 1) := by decide +kernel
theorem dX8_play_41 : decode cX8_play 41 = .ok (.iinc 3 1, 3) := by decide +kernel
theorem dX8_play_44 : decode cX8_play 44 = .ok (.goto (-16), 3) := by decide +kernel
theorem dX8_play_47 : decode cX8_play 47 = .ok (.aload_n 0, 1) := by decide +kernel
theorem dX8_play_48 : decode cX8_play 48 = .ok (.aload_n 1, 1) := by decide +kernel
theorem dX8_play_49 : decode cX8_play 49 = .ok (.invokevirtual 117, 3) := by decide +kernel
theorem dX8_play_52 : decode cX8_play 52 = .ok (.iconst (-1), 1) := by decide +kernel
theorem dX8_play_53 : decode cX8_play 53 = .ok (.istore_n 3, 1) := by decide +kernel
theorem dX8_play_54 : decode cX8_play 54 = .ok (.aload_n 0, 1) := by decide +kernel
theorem dX8_play_55 : decode cX8_play 55 = .ok (.aload_n 1, 1) := by decide +kernel
theorem dX8_play_56 : decode cX8_play 56 = .ok (.iload_n 2, 1) := by decide +kernel
theorem dX8_play_57 : decode cX8_play 57 = .ok (.iload_n 3, 1) := by decide +kernel
theorem dX8_play_58 : decode cX8_play 58 = .ok (.invokevirtual 120, 3) := by decide +kernel
theorem dX8_play_61 : decode cX8_play 61 = .ok (.istore 4, 2) := by decide +kernel
theorem dX8_play_63 : decode cX8_play 63 = .ok (.iload 4, 2) := by decide +kernel
theorem dX8_play_65 : decode cX8_play 65 = .ok (.iconst (-1), 1) := by decide +kernel
theorem dX8_play_66 : decode cX8_play 66 = .ok (.if_icmp .eq 61, 3) := by decide +kernel
theorem dX8_play_69 : decode cX8_play 69 = .ok (.aload_n 1, 1) := by decide +kernel
theorem dX8_play_70 : decode cX8_play 70 = .ok (.iload 4, 2) := by decide +kernel
theorem dX8_play_72 : decode cX8_play 72 = .ok (.invokestatic 124, 3) := by decide +kernel
theorem dX8_play_75 : decode cX8_play 75 = .ok (.aload_n 0, 1) := by decide +kernel
theorem dX8_play_76 : decode cX8_play 76 = .ok (.getfield 45, 3) := by decide +kernel
theorem dX8_play_79 : decode cX8_play 79 = .ok (.iload 4, 2) := by decide +kernel
theorem dX8_play_81 : decode cX8_play 81 = .ok (.dup2, 1) := by decide +kernel
theorem dX8_play_82 : decode cX8_play 82 = .ok (.iaload, 1) := by decide +kernel
theorem dX8_play_83 : decode cX8_play 83 = .ok (.iconst 1, 1) := by decide +kernel
theorem dX8_play_84 : decode cX8_play 84 = .ok (.iadd, 1) := by decide +kernel
theorem dX8_play_85 : decode cX8_play 85 = .ok (.iastore, 1) := by decide +kernel
theorem dX8_play_86 : decode cX8_play 86 = .ok (.aload_n 0, 1) := by decide +kernel
theorem dX8_play_87 : decode cX8_play 87 = .ok (.getfield 48, 3) := by decide +kernel
theorem dX8_play_90 : decode cX8_play 90 = .ok (.aload_n 0, 1) := by decide +kernel
theorem dX8_play_91 : decode cX8_play 91 = .ok (.getfield 114, 3) := by decide +kernel
theorem dX8_play_94 : decode cX8_play 94 = .ok (.iload 4, 2) := by decide +kernel
theorem dX8_play_96 : decode cX8_play 96 = .ok (.iastore, 1) := by decide +kernel
theorem dX8_play_97 : decode cX8_play 97 = .ok (.aload_n 0, 1) := by decide +kernel
theorem dX8_play_98 : decode cX8_play 98 = .ok (.dup, 1) := by decide +kernel
theorem dX8_play_99 : decode cX8_play 99 = .ok (.getfield 114, 3) := by decide +kernel
theorem dX8_play_102 : decode cX8_play 102 = .ok (.iconst 1, 1) := by decide +kernel
theorem dX8_play_103 : decode cX8_play 103 = .ok (.iadd, 1) := by decide +kernel
theorem dX8_play_104 : decode cX8_play 104 = .ok (.putfield 114, 3) := by decide +kernel
theorem dX8_play_107 : decode cX8_play 107 = .ok (.aload_n 0, 1) := by decide +kernel
theorem dX8_play_108 : decode cX8_play 108 = .ok (.aload_n 1, 1) := by decide +kernel
theorem dX8_play_109 : decode cX8_play 109 = .ok (.invokevirtual 117, 3) := by decide +kernel
theorem dX8_play_112 : decode cX8_play 112 = .ok (.iload 4, 2) := by decide +kernel
theorem dX8_play_114 : decode cX8_play 114 = .ok (.istore_n 3, 1) := by decide +kernel
theorem dX8_play_115 : decode cX8_play 115 = .ok (.aload_n 0, 1) := by decide +kernel
theorem dX8_play_116 : decode cX8_play 116 = .ok (.aload_n 1, 1) := by decide +kernel
theorem dX8_play_117 : decode cX8_play 117 = .ok (.iload_n 2, 1) := by decide +kernel
theorem dX8_play_118 : decode cX8_play 118 = .ok (.iload_n 3, 1) := by decide +kernel
theorem dX8_play_119 : decode cX8_play 119 = .ok (.invokevirtual 120, 3) := by decide +kernel
theorem dX8_play_122 : decode cX8_play 122 = .ok (.istore 4, 2) := by decide +kernel
theorem dX8_play_124 : decode cX8_play 124 = .ok (.goto (-61), 3) := by decide +kernel
theorem dX8_play_127 : decode cX8_play 127 = .ok (.aload_n 0, 1) := by decide +kernel
theorem dX8_play_128 : decode cX8_play 128 = .ok (.iconst 1, 1) := by decide +kernel
theorem dX8_play_129 : decode cX8_play 129 = .ok (.putfield 127, 3) := by decide +kernel
theorem dX8_play_132 : decode cX8_play 132 = .ok (.iconst 0, 1) := by decide +kernel
theorem dX8_play_133 : decode cX8_play 133 = .ok (.istore 5, 2) := by decide +kernel
theorem dX8_play_135 : decode cX8_play 135 = .ok (.iload 5, 2) := by decide +kernel
theorem dX8_play_137 : decode cX8_play 137 = .ok (.aload_n 1, 1) := by decide +kernel
theorem dX8_play_138 : decode cX8_play 138 = .ok (.iconst 0, 1) := by decide +kernel
theorem dX8_play_139 : decode cX8_play 139 = .ok (.iaload, 1) := by decide +kernel
theorem dX8_play_140 : decode cX8_play 140 = .ok (.if_icmp .ge 42, 3) := by decide +kernel
theorem dX8_play_143 : decode cX8_play 143 = .ok (.aload_n 0, 1) := by decide +kernel
theorem dX8_play_144 : decode cX8_play 144 = .ok (.aload_n 0, 1) := by decide +kernel
theorem dX8_play_145 : decode cX8_play 145 = .ok (.getfield 127, 3) := by decide +kernel
theorem dX8_play_148 : decode cX8_play 148 = .ok (.ifCond .eq 24, 3) := by decide +kernel
theorem dX8_play_151 : decode cX8_play 151 = .ok (.aload_n 0, 1) := by decide +kernel
theorem dX8_play_152 : decode cX8_play 152 = .ok (.getfield 45, 3) := by decide +kernel
theorem dX8_play_155 : decode cX8_play 155 = .ok (.iload 5, 2) := by decide +kernel
theorem dX8_play_157 : decode cX8_play 157 = .ok (.iaload, 1) := by decide +kernel
theorem dX8_play_158 : decode cX8_play 158 = .ok (.aload_n 0, 1) := by decide +kernel
theorem dX8_play_159 : decode cX8_play 159 = .ok (.getfield 32, 3) := by decide +kernel
theorem dX8_play_162 : decode cX8_play 162 = .ok (.iload 5, 2) := by decide +kernel
theorem dX8_play_164 : decode cX8_play 164 = .ok (.iaload, 1) := by decide +kernel
theorem dX8_play_165 : decode cX8_play 165 = .ok (.if_icmp .ne 7, 3) := by decide +kernel
theorem dX8_play_168 : decode cX8_play 168 = .ok (.iconst 1, 1) := by decide +kernel
theorem dX8_play_169 : decode cX8_play 169 = .ok (.goto 4, 3) := by decide +kernel
theorem dX8_play_172 : decode cX8_play 172 = .ok (.iconst 0, 1) := by decide +kernel
theorem dX8_play_173 : decode cX8_play 173 = .ok (.putfield 127, 3) := by decide +kernel
theorem dX8_play_176 : decode cX8_play 176 = .ok (.iinc 5 1, 3) := by decide +kernel
theorem dX8_play_179 : decode cX8_play 179 = .ok (.goto (-44), 3) := by decide +kernel
theorem dX8_play_182 : decode cX8_play 182 = .ok (.return_, 1) := by decide +kernel
theorem dX8_tryRound_0 : decode cX8_tryRound 0 = .ok (.aload_n 0, 1) := by decide +kernel
theorem dX8_tryRound_1 : decode cX8_tryRound 1 = .ok (.invokevirtual 131, 3) := by decide +kernel
theorem dX8_tryRound_4 : decode cX8_tryRound 4 = .ok (.aload_n 0, 1) := by decide +kernel
theorem dX8_tryRound_5 : decode cX8_tryRound 5 = .ok (.aload_n 0, 1) := by decide +kernel
theorem dX8_tryRound_6 : decode cX8_tryRound 6 = .ok (.getfield 19, 3) := by decide +kernel
theorem dX8_tryRound_9 : decode cX8_tryRound 9 = .ok (.invokevirtual 134, 3) := by decide +kernel
theorem dX8_tryRound_12 : decode cX8_tryRound 12 = .ok (.istore_n 2, 1) := by decide +kernel
theorem dX8_tryRound_13 : decode cX8_tryRound 13 = .ok (.iload_n 2, 1) := by decide +kernel
theorem dX8_tryRound_14 : decode cX8_tryRound 14 = .ok (.ifCond .eq 12, 3) := by decide +kernel
theorem dX8_tryRound_17 : decode cX8_tryRound 17 = .ok (.aload_n 0, 1) := by decide +kernel
theorem dX8_tryRound_18 : decode cX8_tryRound 18 = .ok (.aload_n 0, 1) := by decide +kernel
theorem dX8_tryRound_19 : decode cX8_tryRound 19 = .ok (.getfield 19, 3) := by decide +kernel
theorem dX8_tryRound_22 : decode cX8_tryRound 22 = .ok (.iload_n 1, 1) := by decide +kernel
theorem dX8_tryRound_23 : decode cX8_tryRound 23 = .ok (.invokevirtual 138, 3) := by decide +kernel
theorem dX8_tryRound_26 : decode cX8_tryRound 26 = .ok (.iload_n 2, 1) := by decide +kernel
theorem dX8_tryRound_27 : decode cX8_tryRound 27 = .ok (.ireturn, 1) := by decide +kernel
theorem dX8_cutIn_0 : decode cX8_cutIn 0 = .ok (.aload_n 0, 1) := by decide +kernel
theorem dX8_cutIn_1 : decode cX8_cutIn 1 = .ok (.iload_n 1, 1) := by decide +kernel
theorem dX8_cutIn_2 : decode cX8_cutIn 2 = .ok (.iconst 1, 1) := by decide +kernel
theorem dX8_cutIn_3 : decode cX8_cutIn 3 = .ok (.iadd, 1) := by decide +kernel
theorem dX8_cutIn_4 : decode cX8_cutIn 4 = .ok (.iconst 0, 1) := by decide +kernel
theorem dX8_cutIn_5 : decode cX8_cutIn 5 = .ok (.invokestatic 73, 3) := by decide +kernel
theorem dX8_cutIn_8 : decode cX8_cutIn 8 = .ok (.aload_n 0, 1) := by decide +kernel
theorem dX8_cutIn_9 : decode cX8_cutIn 9 = .ok (.iload_n 1, 1) := by decide +kernel
theorem dX8_cutIn_10 : decode cX8_cutIn 10 = .ok (.iconst 0, 1) := by decide +kernel
theorem dX8_cutIn_11 : decode cX8_cutIn 11 = .ok (.invokestatic 73, 3) := by decide +kernel
theorem dX8_cutIn_14 : decode cX8_cutIn 14 = .ok (.iconst 5, 1) := by decide +kernel
theorem dX8_cutIn_15 : decode cX8_cutIn 15 = .ok (.aload_n 0, 1) := by decide +kernel
theorem dX8_cutIn_16 : decode cX8_cutIn 16 = .ok (.iconst 1, 1) := by decide +kernel
theorem dX8_cutIn_17 : decode cX8_cutIn 17 = .ok (.iaload, 1) := by decide +kernel
theorem dX8_cutIn_18 : decode cX8_cutIn 18 = .ok (.iconst 1, 1) := by decide +kernel
theorem dX8_cutIn_19 : decode cX8_cutIn 19 = .ok (.isub, 1) := by decide +kernel
theorem dX8_cutIn_20 : decode cX8_cutIn 20 = .ok (.iload_n 1, 1) := by decide +kernel
theorem dX8_cutIn_21 : decode cX8_cutIn 21 = .ok (.isub, 1) := by decide +kernel
theorem dX8_cutIn_22 : decode cX8_cutIn 22 = .ok (.imul, 1) := by decide +kernel
theorem dX8_cutIn_23 : decode cX8_cutIn 23 = .ok (.invokestatic 69, 3) := by decide +kernel
theorem dX8_cutIn_26 : decode cX8_cutIn 26 = .ok (.aload_n 0, 1) := by decide +kernel
theorem dX8_cutIn_27 : decode cX8_cutIn 27 = .ok (.iconst 1, 1) := by decide +kernel
theorem dX8_cutIn_28 : decode cX8_cutIn 28 = .ok (.dup2, 1) := by decide +kernel
theorem dX8_cutIn_29 : decode cX8_cutIn 29 = .ok (.iaload, 1) := by decide +kernel
theorem dX8_cutIn_30 : decode cX8_cutIn 30 = .ok (.iconst 1, 1) := by decide +kernel
theorem dX8_cutIn_31 : decode cX8_cutIn 31 = .ok (.isub, 1) := by decide +kernel
theorem dX8_cutIn_32 : decode cX8_cutIn 32 = .ok (.iastore, 1) := by decide +kernel
theorem dX8_cutIn_33 : decode cX8_cutIn 33 = .ok (.return_, 1) := by decide +kernel
theorem dX8_add_0 : decode cX8_add 0 = .ok (.aload_n 0, 1) := by decide +kernel
theorem dX8_add_1 : decode cX8_add 1 = .ok (.iconst 0, 1) := by decide +kernel
theorem dX8_add_2 : decode cX8_add 2 = .ok (.iaload, 1) := by decide +kernel
theorem dX8_add_3 : decode cX8_add 3 = .ok (.istore_n 3, 1) := by decide +kernel
theorem dX8_add_4 : decode cX8_add 4 = .ok (.aload_n 0, 1) := by decide +kernel
theorem dX8_add_5 : decode cX8_add 5 = .ok (.iload_n 3, 1) := by decide +kernel
theorem dX8_add_6 : decode cX8_add 6 = .ok (.iconst 0, 1) := by decide +kernel
theorem dX8_add_7 : decode cX8_add 7 = .ok (.invokestatic 77, 3) := by decide +kernel
theorem dX8_add_10 : decode cX8_add 10 = .ok (.iload_n 1, 1) := by decide +kernel
theorem dX8_add_11 : decode cX8_add 11 = .ok (.iastore, 1) := by decide +kernel
theorem dX8_add_12 : decode cX8_add 12 = .ok (.aload_n 0, 1) := by decide +kernel
theorem dX8_add_13 : decode cX8_add 13 = .ok (.iload_n 3, 1) := by decide +kernel
theorem dX8_add_14 : decode cX8_add 14 = .ok (.iconst 1, 1) := by decide +kernel
theorem dX8_add_15 : decode cX8_add 15 = .ok (.invokestatic 77, 3) := by decide +kernel
theorem dX8_add_18 : decode cX8_add 18 = .ok (.iload_n 2, 1) := by decide +kernel
theorem dX8_add_19 : decode cX8_add 19 = .ok (.iastore, 1) := by decide +kernel
theorem dX8_add_20 : decode cX8_add 20 = .ok (.aload_n 0, 1) := by decide +kernel
theorem dX8_add_21 : decode cX8_add 21 = .ok (.iload_n 3, 1) := by decide +kernel
theorem dX8_add_22 : decode cX8_add 22 = .ok (.iconst 2, 1) := by decide +kernel
theorem dX8_add_23 : decode cX8_add 23 = .ok (.invokestatic 77, 3) := by decide +kernel
theorem dX8_add_26 : decode cX8_add 26 = .ok (.iconst 0, 1) := by decide +kernel
theorem dX8_add_27 : decode cX8_add 27 = .ok (.iastore, 1) := by decide +kernel
theorem dX8_add_28 : decode cX8_add 28 = .ok (.aload_n 0, 1) := by decide +kernel
theorem dX8_add_29 : decode cX8_add 29 = .ok (.iconst 0, 1) := by decide +kernel
theorem dX8_add_30 : decode cX8_add 30 = .ok (.dup2, 1) := by decide +kernel
theorem dX8_add_31 : decode cX8_add 31 = .ok (.iaload, 1) := by decide +kernel
theorem dX8_add_32 : decode cX8_add 32 = .ok (.iconst 1, 1) := by decide +kernel
theorem dX8_add_33 : decode cX8_add 33 = .ok (.iadd, 1) := by decide +kernel
theorem dX8_add_34 : decode cX8_add 34 = .ok (.iastore, 1) := by decide +kernel
theorem dX8_add_35 : decode cX8_add 35 = .ok (.return_, 1) := by decide +kernel
theorem dX8_canLay_0 : decode cX8_canLay 0 = .ok (.aload_n 1, 1) := by decide +kernel
theorem dX8_canLay_1 : decode cX8_canLay 1 = .ok (.iload_n 2, 1) := by decide +kernel
theorem dX8_canLay_2 : decode cX8_canLay 2 = .ok (.iconst 1, 1) := by decide +kernel
theorem dX8_canLay_3 : decode cX8_canLay 3 = .ok (.invokestatic 77, 3) := by decide +kernel
theorem dX8_canLay_6 : decode cX8_canLay 6 = .ok (.iaload, 1) := by decide +kernel
theorem dX8_canLay_7 : decode cX8_canLay 7 = .ok (.aload_n 1, 1) := by decide +kernel
theorem dX8_canLay_8 : decode cX8_canLay 8 = .ok (.iload_n 3, 1) := by decide +kernel
theorem dX8_canLay_9 : decode cX8_canLay 9 = .ok (.iconst 0, 1) := by decide +kernel
theorem dX8_canLay_10 : decode cX8_canLay 10 = .ok (.invokestatic 77, 3) := by decide +kernel
theorem dX8_canLay_13 : decode cX8_canLay 13 = .ok (.iaload, 1) := by decide +kernel
theorem dX8_canLay_14 : decode cX8_canLay 14 = .ok (.if_icmp .ne 30, 3) := by decide +kernel
theorem dX8_canLay_17 : decode cX8_canLay 17 = .ok (.aload_n 1, 1) := by decide +kernel
theorem dX8_canLay_18 : decode cX8_canLay 18 = .ok (.iconst 1, 1) := by decide +kernel
theorem dX8_canLay_19 : decode cX8_canLay 19 = .ok (.iaload, 1) := by decide +kernel
theorem dX8_canLay_20 : decode cX8_canLay 20 = .ok (.bipush 14, 2) := by decide +kernel
theorem dX8_canLay_22 : decode cX8_canLay 22 = .ok (.if_icmp .ge 22, 3) := by decide +kernel
theorem dX8_canLay_25 : decode cX8_canLay 25 = .ok (.iload 4, 2) := by decide +kernel
theorem dX8_canLay_27 : decode cX8_canLay 27 = .ok (.ifCond .gt 13, 3) := by decide +kernel
theorem dX8_canLay_30 : decode cX8_canLay 30 = .ok (.aload_n 0, 1) := by decide +kernel
theorem dX8_canLay_31 : decode cX8_canLay 31 = .ok (.aload_n 1, 1) := by decide +kernel
theorem dX8_canLay_32 : decode cX8_canLay 32 = .ok (.iload_n 2, 1) := by decide +kernel
theorem dX8_canLay_33 : decode cX8_canLay 33 = .ok (.iload_n 3, 1) := by decide +kernel
theorem dX8_canLay_34 : decode cX8_canLay 34 = .ok (.invokevirtual 141, 3) := by decide +kernel
theorem dX8_canLay_37 : decode cX8_canLay 37 = .ok (.ifCond .ne 7, 3) := by decide +kernel
theorem dX8_canLay_40 : decode cX8_canLay 40 = .ok (.iconst 1, 1) := by decide +kernel
theorem dX8_canLay_41 : decode cX8_canLay 41 = .ok (.goto 4, 3) := by decide +kernel
theorem dX8_canLay_44 : decode cX8_canLay 44 = .ok (.iconst 0, 1) := by decide +kernel
theorem dX8_canLay_45 : decode cX8_canLay 45 = .ok (.ireturn, 1) := by decide +kernel
theorem dX8_layIn_0 : decode cX8_layIn 0 = .ok (.aload_n 0, 1) := by decide +kernel
theorem dX8_layIn_1 : decode cX8_layIn 1 = .ok (.iconst 1, 1) := by decide +kernel
theorem dX8_layIn_2 : decode cX8_layIn 2 = .ok (.iaload, 1) := by decide +kernel
theorem dX8_layIn_3 : decode cX8_layIn 3 = .ok (.istore 6, 2) := by decide +kernel
theorem dX8_layIn_5 : decode cX8_layIn 5 = .ok (.aload_n 0, 1) := by decide +kernel
theorem dX8_layIn_6 : decode cX8_layIn 6 = .ok (.iload 6, 2) := by decide +kernel
theorem dX8_layIn_8 : decode cX8_layIn 8 = .ok (.iconst 0, 1) := by decide +kernel
theorem dX8_layIn_9 : decode cX8_layIn 9 = .ok (.invokestatic 73, 3) := by decide +kernel
theorem dX8_layIn_12 : decode cX8_layIn 12 = .ok (.iload_n 1, 1) := by decide +kernel
theorem dX8_layIn_13 : decode cX8_layIn 13 = .ok (.iastore, 1) := by decide +kernel
theorem dX8_layIn_14 : decode cX8_layIn 14 = .ok (.aload_n 0, 1) := by decide +kernel
theorem dX8_layIn_15 : decode cX8_layIn 15 = .ok (.iload 6, 2) := by decide +kernel
theorem dX8_layIn_17 : decode cX8_layIn 17 = .ok (.iconst 1, 1) := by decide +kernel
theorem dX8_layIn_18 : decode cX8_layIn 18 = .ok (.invokestatic 73, 3) := by decide +kernel
theorem dX8_layIn_21 : decode cX8_layIn 21 = .ok (.iload_n 2, 1) := by decide +kernel
theorem dX8_layIn_22 : decode cX8_layIn 22 = .ok (.iastore, 1) := by decide +kernel
theorem dX8_layIn_23 : decode cX8_layIn 23 = .ok (.aload_n 0, 1) := by decide +kernel
theorem dX8_layIn_24 : decode cX8_layIn 24 = .ok (.iload 6, 2) := by decide +kernel
theorem dX8_layIn_26 : decode cX8_layIn 26 = .ok (.iconst 2, 1) := by decide +kernel
theorem dX8_layIn_27 : decode cX8_layIn 27 = .ok (.invokestatic 73, 3) := by decide +kernel
theorem dX8_layIn_30 : decode cX8_layIn 30 = .ok (.iload_n 3, 1) := by decide +kernel
theorem dX8_layIn_31 : decode cX8_layIn 31 = .ok (.iastore, 1) := by decide +kernel
theorem dX8_layIn_32 : decode cX8_layIn 32 = .ok (.aload_n 0, 1) := by decide +kernel
theorem dX8_layIn_33 : decode cX8_layIn 33 = .ok (.iload 6, 2) := by decide +kernel
theorem dX8_layIn_35 : decode cX8_layIn 35 = .ok (.iconst 3, 1) := by decide +kernel
theorem dX8_layIn_36 : decode cX8_layIn 36 = .ok (.invokestatic 73, 3) := by decide +kernel
theorem dX8_layIn_39 : decode cX8_layIn 39 = .ok (.iload 4, 2) := by decide +kernel
theorem dX8_layIn_41 : decode cX8_layIn 41 = .ok (.iastore, 1) := by decide +kernel
theorem dX8_layIn_42 : decode cX8_layIn 42 = .ok (.aload_n 0, 1) := by decide +kernel
theorem dX8_layIn_43 : decode cX8_layIn 43 = .ok (.iload 6, 2) := by decide +kernel
theorem dX8_layIn_45 : decode cX8_layIn 45 = .ok (.iconst 4, 1) := by decide +kernel
theorem dX8_layIn_46 : decode cX8_layIn 46 = .ok (.invokestatic 73, 3) := by decide +kernel
theorem dX8_layIn_49 : decode cX8_layIn 49 = .ok (.iload 5, 2) := by decide +kernel
theorem dX8_layIn_51 : decode cX8_layIn 51 = .ok (.iastore, 1) := by decide +kernel
theorem dX8_layIn_52 : decode cX8_layIn 52 = .ok (.aload_n 0, 1) := by decide +kernel
theorem dX8_layIn_53 : decode cX8_layIn 53 = .ok (.iconst 1, 1) := by decide +kernel
theorem dX8_layIn_54 : decode cX8_layIn 54 = .ok (.dup2, 1) := by decide +kernel
theorem dX8_layIn_55 : decode cX8_layIn 55 = .ok (.iaload, 1) := by decide +kernel
theorem dX8_layIn_56 : decode cX8_layIn 56 = .ok (.iconst 1, 1) := by decide +kernel
theorem dX8_layIn_57 : decode cX8_layIn 57 = .ok (.iadd, 1) := by decide +kernel
theorem dX8_layIn_58 : decode cX8_layIn 58 = .ok (.iastore, 1) := by decide +kernel
theorem dX8_layIn_59 : decode cX8_layIn 59 = .ok (.return_, 1) := by decide +kernel
theorem dX8_canPut_0 : decode cX8_canPut 0 = .ok (.iload_n 3, 1) := by decide +kernel
theorem dX8_canPut_1 : decode cX8_canPut 1 = .ok (.ifCond .gt 25, 3) := by decide +kernel
theorem dX8_canPut_4 : decode cX8_canPut 4 = .ok (.aload_n 0, 1) := by decide +kernel
theorem dX8_canPut_5 : decode cX8_canPut 5 = .ok (.aload_n 1, 1) := by decide +kernel
theorem dX8_canPut_6 : decode cX8_canPut 6 = .ok (.aload_n 1, 1) := by decide +kernel
theorem dX8_canPut_7 : decode cX8_canPut 7 = .ok (.iload_n 2, 1) := by decide +kernel
theorem dX8_canPut_8 : decode cX8_canPut 8 = .ok (.iconst 0, 1) := by decide +kernel
theorem dX8_canPut_9 : decode cX8_canPut 9 = .ok (.invokestatic 73, 3) := by decide +kernel
theorem dX8_canPut_12 : decode cX8_canPut 12 = .ok (.iaload, 1) := by decide +kernel
theorem dX8_canPut_13 : decode cX8_canPut 13 = .ok (.aload_n 1, 1) := by decide +kernel
theorem dX8_canPut_14 : decode cX8_canPut 14 = .ok (.iload_n 2, 1) := by decide +kernel
theorem dX8_canPut_15 : decode cX8_canPut 15 = .ok (.iconst 1, 1) := by decide +kernel
theorem dX8_canPut_16 : decode cX8_canPut 16 = .ok (.invokestatic 73, 3) := by decide +kernel
theorem dX8_canPut_19 : decode cX8_canPut 19 = .ok (.iaload, 1) := by decide +kernel
theorem dX8_canPut_20 : decode cX8_canPut 20 = .ok (.invokevirtual 141, 3) := by decide +kernel
theorem dX8_canPut_23 : decode cX8_canPut 23 = .ok (.ifCond .ne 7, 3) := by decide +kernel
theorem dX8_canPut_26 : decode cX8_canPut 26 = .ok (.iconst 1, 1) := by decide +kernel
theorem dX8_canPut_27 : decode cX8_canPut 27 = .ok (.goto 4, 3) := by decide +kernel
theorem dX8_canPut_30 : decode cX8_canPut 30 = .ok (.iconst 0, 1) := by decide +kernel
theorem dX8_canPut_31 : decode cX8_canPut 31 = .ok (.ireturn, 1) := by decide +kernel
theorem dX8_append_0 : decode cX8_append 0 = .ok (.aload_n 0, 1) := by decide +kernel
theorem dX8_append_1 : decode cX8_append 1 = .ok (.iload_n 1, 1) := by decide +kernel
theorem dX8_append_2 : decode cX8_append 2 = .ok (.i2l, 1) := by decide +kernel
theorem dX8_append_3 : decode cX8_append 3 = .ok (.lconst 0, 1) := by decide +kernel
theorem dX8_append_4 : decode cX8_append 4 = .ok (.ldc2_w 144, 3) := by decide +kernel
theorem dX8_append_7 : decode cX8_append 7 = .ok (.invokestatic 146, 3) := by decide +kernel
theorem dX8_append_10 : decode cX8_append 10 = .ok (.ifCond .ne 7, 3) := by decide +kernel
theorem dX8_append_13 : decode cX8_append 13 = .ok (.iconst 1, 1) := by decide +kernel
theorem dX8_append_14 : decode cX8_append 14 = .ok (.goto 17, 3) := by decide +kernel
theorem dX8_append_17 : decode cX8_append 17 = .ok (.aload_n 0, 1) := by decide +kernel
theorem dX8_append_18 : decode cX8_append 18 = .ok (.getfield 150, 3) := by decide +kernel
theorem dX8_append_21 : decode cX8_append 21 = .ok (.bipush 120, 2) := by decide +kernel
theorem dX8_append_23 : decode cX8_append 23 = .ok (.if_icmp .ne 7, 3) := by decide +kernel
theorem dX8_append_26 : decode cX8_append 26 = .ok (.iconst 2, 1) := by decide +kernel
theorem dX8_append_27 : decode cX8_append 27 = .ok (.goto 4, 3) := by decide +kernel
theorem dX8_append_30 : decode cX8_append 30 = .ok (.iconst 0, 1) := by decide +kernel
theorem dX8_append_31 : decode cX8_append 31 = .ok (.invokevirtual 153, 3) := by decide +kernel
theorem dX8_append_34 : decode cX8_append 34 = .ok (.ifCond .eq 5, 3) := by decide +kernel
theorem dX8_append_37 : decode cX8_append 37 = .ok (.iconst 0, 1) := by decide +kernel
theorem dX8_append_38 : decode cX8_append 38 = .ok (.ireturn, 1) := by decide +kernel
theorem dX8_append_39 : decode cX8_append 39 = .ok (.aload_n 0, 1) := by decide +kernel
theorem dX8_append_40 : decode cX8_append 40 = .ok (.getfield 7, 3) := by decide +kernel
theorem dX8_append_43 : decode cX8_append 43 = .ok (.aload_n 0, 1) := by decide +kernel
theorem dX8_append_44 : decode cX8_append 44 = .ok (.getfield 150, 3) := by decide +kernel
theorem dX8_append_47 : decode cX8_append 47 = .ok (.iload_n 1, 1) := by decide +kernel
theorem dX8_append_48 : decode cX8_append 48 = .ok (.iastore, 1) := by decide +kernel
theorem dX8_append_49 : decode cX8_append 49 = .ok (.aload_n 0, 1) := by decide +kernel
theorem dX8_append_50 : decode cX8_append 50 = .ok (.dup, 1) := by decide +kernel
theorem dX8_append_51 : decode cX8_append 51 = .ok (.getfield 150, 3) := by decide +kernel
theorem dX8_append_54 : decode cX8_append 54 = .ok (.iconst 1, 1) := by decide +kernel
theorem dX8_append_55 : decode cX8_append 55 = .ok (.iadd, 1) := by decide +kernel
theorem dX8_append_56 : decode cX8_append 56 = .ok (.putfield 150, 3) := by decide +kernel
theorem dX8_append_59 : decode cX8_append 59 = .ok (.aload_n 0, 1) := by decide +kernel
theorem dX8_append_60 : decode cX8_append 60 = .ok (.getfield 150, 3) := by decide +kernel
theorem dX8_append_63 : decode cX8_append 63 = .ok (.ireturn, 1) := by decide +kernel
theorem dX8_clearText_0 : decode cX8_clearText 0 = .ok (.aload_n 0, 1) := by decide +kernel
theorem dX8_clearText_1 : decode cX8_clearText 1 = .ok (.iconst 0, 1) := by decide +kernel
theorem dX8_clearText_2 : decode cX8_clearText 2 = .ok (.putfield 60, 3) := by decide +kernel
theorem dX8_clearText_5 : decode cX8_clearText 5 = .ok (.aload_n 0, 1) := by decide +kernel
theorem dX8_clearText_6 : decode cX8_clearText 6 = .ok (.getfield 150, 3) := by decide +kernel
theorem dX8_clearText_9 : decode cX8_clearText 9 = .ok (.istore_n 1, 1) := by decide +kernel
theorem dX8_clearText_10 : decode cX8_clearText 10 = .ok (.aload_n 0, 1) := by decide +kernel
theorem dX8_clearText_11 : decode cX8_clearText 11 = .ok (.iconst 0, 1) := by decide +kernel
theorem dX8_clearText_12 : decode cX8_clearText 12 = .ok (.putfield 150, 3) := by decide +kernel
theorem dX8_clearText_15 : decode cX8_clearText 15 = .ok (.iload_n 1, 1) := by decide +kernel
theorem dX8_clearText_16 : decode cX8_clearText 16 = .ok (.ireturn, 1) := by decide +kernel
theorem dX8_isNext_0 : decode cX8_isNext 0 = .ok (.aload_n 0, 1) := by decide +kernel
theorem dX8_isNext_1 : decode cX8_isNext 1 = .ok (.getfield 157, 3) := by decide +kernel
theorem dX8_isNext_4 : decode cX8_isNext 4 = .ok (.aload_n 0, 1) := by decide +kernel
theorem dX8_isNext_5 : decode cX8_isNext 5 = .ok (.getfield 150, 3) := by decide +kernel
theorem dX8_isNext_8 : decode cX8_isNext 8 = .ok (.if_icmp .ge 20, 3) := by decide +kernel
theorem dX8_isNext_11 : decode cX8_isNext 11 = .ok (.aload_n 0, 1) := by decide +kernel
theorem dX8_isNext_12 : decode cX8_isNext 12 = .ok (.getfield 7, 3) := by decide +kernel
theorem dX8_isNext_15 : decode cX8_isNext 15 = .ok (.aload_n 0, 1) := by decide +kernel
theorem dX8_isNext_16 : decode cX8_isNext 16 = .ok (.getfield 157, 3) := by decide +kernel
theorem dX8_isNext_19 : decode cX8_isNext 19 = .ok (.iaload, 1) := by decide +kernel
theorem dX8_isNext_20 : decode cX8_isNext 20 = .ok (.iload_n 1, 1) := by decide +kernel
theorem dX8_isNext_21 : decode cX8_isNext 21 = .ok (.if_icmp .ne 7, 3) := by decide +kernel
theorem dX8_isNext_24 : decode cX8_isNext 24 = .ok (.iconst 1, 1) := by decide +kernel
theorem dX8_isNext_25 : decode cX8_isNext 25 = .ok (.goto 4, 3) := by decide +kernel
theorem dX8_isNext_28 : decode cX8_isNext 28 = .ok (.iconst 0, 1) := by decide +kernel
theorem dX8_isNext_29 : decode cX8_isNext 29 = .ok (.ireturn, 1) := by decide +kernel
theorem dX8_accept_0 : decode cX8_accept 0 = .ok (.aload_n 0, 1) := by decide +kernel
theorem dX8_accept_1 : decode cX8_accept 1 = .ok (.aload_n 0, 1) := by decide +kernel
theorem dX8_accept_2 : decode cX8_accept 2 = .ok (.getfield 160, 3) := by decide +kernel
theorem dX8_accept_5 : decode cX8_accept 5 = .ok (.ifCond .eq 11, 3) := by decide +kernel
theorem dX8_accept_8 : decode cX8_accept 8 = .ok (.iload_n 1, 1) := by decide +kernel
theorem dX8_accept_9 : decode cX8_accept 9 = .ok (.ifCond .eq 7, 3) := by decide +kernel
theorem dX8_accept_12 : decode cX8_accept 12 = .ok (.iconst 1, 1) := by decide +kernel
theorem dX8_accept_13 : decode cX8_accept 13 = .ok (.goto 4, 3) := by decide +kernel
theorem dX8_accept_16 : decode cX8_accept 16 = .ok (.iconst 0, 1) := by decide +kernel
theorem dX8_accept_17 : decode cX8_accept 17 = .ok (.putfield 160, 3) := by decide +kernel
theorem dX8_accept_20 : decode cX8_accept 20 = .ok (.aload_n 0, 1) := by decide +kernel
theorem dX8_accept_21 : decode cX8_accept 21 = .ok (.dup, 1) := by decide +kernel
theorem dX8_accept_22 : decode cX8_accept 22 = .ok (.getfield 157, 3) := by decide +kernel
theorem dX8_accept_25 : decode cX8_accept 25 = .ok (.aload_n 0, 1) := by decide +kernel
theorem dX8_accept_26 : decode cX8_accept 26 = .ok (.getfield 160, 3) := by decide +kernel
theorem dX8_accept_29 : decode cX8_accept 29 = .ok (.ifCond .eq 7, 3) := by decide +kernel
theorem dX8_accept_32 : decode cX8_accept 32 = .ok (.iconst 1, 1) := by decide +kernel
theorem dX8_accept_33 : decode cX8_accept 33 = .ok (.goto 4, 3) := by decide +kernel
theorem dX8_accept_36 : decode cX8_accept 36 = .ok (.iconst 0, 1) := by decide +kernel
theorem dX8_accept_37 : decode cX8_accept 37 = .ok (.iadd, 1) := by decide +kernel
theorem dX8_accept_38 : decode cX8_accept 38 = .ok (.putfield 157, 3) := by decide +kernel
theorem dX8_accept_41 : decode cX8_accept 41 = .ok (.return_, 1) := by decide +kernel
theorem dX8_digit_0 : decode cX8_digit 0 = .ok (.aload_n 0, 1) := by decide +kernel
theorem dX8_digit_1 : decode cX8_digit 1 = .ok (.getfield 157, 3) := by decide +kernel
theorem dX8_digit_4 : decode cX8_digit 4 = .ok (.aload_n 0, 1) := by decide +kernel
theorem dX8_digit_5 : decode cX8_digit 5 = .ok (.getfield 150, 3) := by decide +kernel
theorem dX8_digit_8 : decode cX8_digit 8 = .ok (.if_icmp .ge 18, 3) := by decide +kernel
theorem dX8_digit_11 : decode cX8_digit 11 = .ok (.aload_n 0, 1) := by decide +kernel
theorem dX8_digit_12 : decode cX8_digit 12 = .ok (.getfield 7, 3) := by decide +kernel
theorem dX8_digit_15 : decode cX8_digit 15 = .ok (.aload_n 0, 1) := by decide +kernel
theorem dX8_digit_16 : decode cX8_digit 16 = .ok (.getfield 157, 3) := by decide +kernel
theorem dX8_digit_19 : decode cX8_digit 19 = .ok (.iaload, 1) := by decide +kernel
theorem dX8_digit_20 : decode cX8_digit 20 = .ok (.bipush 48, 2) := by decide +kernel
theorem dX8_digit_22 : decode cX8_digit 22 = .ok (.isub, 1) := by decide +kernel
theorem dX8_digit_23 : decode cX8_digit 23 = .ok (.goto 4, 3) := by decide +kernel
theorem dX8_digit_26 : decode cX8_digit 26 = .ok (.iconst (-1), 1) := by decide +kernel
theorem dX8_digit_27 : decode cX8_digit 27 = .ok (.istore_n 3, 1) := by decide +kernel
theorem dX8_digit_28 : decode cX8_digit 28 = .ok (.aload_n 0, 1) := by decide +kernel
theorem dX8_digit_29 : decode cX8_digit 29 = .ok (.iload_n 3, 1) := by decide +kernel
theorem dX8_digit_30 : decode cX8_digit 30 = .ok (.i2l, 1) := by decide +kernel
theorem dX8_digit_31 : decode cX8_digit 31 = .ok (.lconst 0, 1) := by decide +kernel
theorem dX8_digit_32 : decode cX8_digit 32 = .ok (.ldc2_w 163, 3) := by decide +kernel
theorem dX8_digit_35 : decode cX8_digit 35 = .ok (.invokestatic 146, 3) := by decide +kernel
theorem dX8_digit_38 : decode cX8_digit 38 = .ok (.ifCond .eq 19, 3) := by decide +kernel
theorem dX8_digit_41 : decode cX8_digit 41 = .ok (.iload_n 3, 1) := by decide +kernel
theorem dX8_digit_42 : decode cX8_digit 42 = .ok (.i2l, 1) := by decide +kernel
theorem dX8_digit_43 : decode cX8_digit 43 = .ok (.iload_n 1, 1) := by decide +kernel
theorem dX8_digit_44 : decode cX8_digit 44 = .ok (.i2l, 1) := by decide +kernel
theorem dX8_digit_45 : decode cX8_digit 45 = .ok (.iload_n 2, 1) := by decide +kernel
theorem dX8_digit_46 : decode cX8_digit 46 = .ok (.i2l, 1) := by decide +kernel
theorem dX8_digit_47 : decode cX8_digit 47 = .ok (.invokestatic 146, 3) := by decide +kernel
theorem dX8_digit_50 : decode cX8_digit 50 = .ok (.ifCond .eq 7, 3) := by decide +kernel
theorem dX8_digit_53 : decode cX8_digit 53 = .ok (.iconst 1, 1) := by decide +kernel
theorem dX8_digit_54 : decode cX8_digit 54 = .ok (.goto 4, 3) := by decide +kernel
theorem dX8_digit_57 : decode cX8_digit 57 = .ok (.iconst 0, 1) := by decide +kernel
theorem dX8_digit_58 : decode cX8_digit 58 = .ok (.invokevirtual 165, 3) := by decide +kernel
theorem dX8_digit_61 : decode cX8_digit 61 = .ok (.aload_n 0, 1) := by decide +kernel
theorem dX8_digit_62 : decode cX8_digit 62 = .ok (.getfield 160, 3) := by decide +kernel
theorem dX8_digit_65 : decode cX8_digit 65 = .ok (.ifCond .eq 7, 3) := by decide +kernel
theorem dX8_digit_68 : decode cX8_digit 68 = .ok (.iload_n 3, 1) := by decide +kernel
theorem dX8_digit_69 : decode cX8_digit 69 = .ok (.goto 4, 3) := by decide +kernel
theorem dX8_digit_72 : decode cX8_digit 72 = .ok (.iload_n 1, 1) := by decide +kernel
theorem dX8_digit_73 : decode cX8_digit 73 = .ok (.ireturn, 1) := by decide +kernel
theorem dX8_goes_0 : decode cX8_goes 0 = .ok (.aload_n 0, 1) := by decide +kernel
theorem dX8_goes_1 : decode cX8_goes 1 = .ok (.dup, 1) := by decide +kernel
theorem dX8_goes_2 : decode cX8_goes 2 = .ok (.getfield 169, 3) := by decide +kernel
theorem dX8_goes_5 : decode cX8_goes 5 = .ok (.aload_n 0, 1) := by decide +kernel
theorem dX8_goes_6 : decode cX8_goes 6 = .ok (.getfield 160, 3) := by decide +kernel
theorem dX8_goes_9 : decode cX8_goes 9 = .ok (.ifCond .eq 11, 3) := by decide +kernel
theorem dX8_goes_12 : decode cX8_goes 12 = .ok (.iload_n 1, 1) := by decide +kernel
theorem dX8_goes_13 : decode cX8_goes 13 = .ok (.ifCond .ne 7, 3) := by decide +kernel
theorem dX8_goes_16 : decode cX8_goes 16 = .ok (.iconst 1, 1) := by decide +kernel
theorem dX8_goes_17 : decode cX8_goes 17 = .ok (.goto 4, 3) := by decide +kernel
theorem dX8_goes_20 : decode cX8_goes 20 = .ok (.iconst 0, 1) := by decide +kernel
theorem dX8_goes_21 : decode cX8_goes 21 = .ok (.iadd, 1) := by decide +kernel
theorem dX8_goes_22 : decode cX8_goes 22 = .ok (.putfield 169, 3) := by decide +kernel
theorem dX8_goes_25 : decode cX8_goes 25 = .ok (.aload_n 0, 1) := by decide +kernel
theorem dX8_goes_26 : decode cX8_goes 26 = .ok (.getfield 160, 3) := by decide +kernel
theorem dX8_goes_29 : decode cX8_goes 29 = .ok (.ifCond .eq 11, 3) := by decide +kernel
theorem dX8_goes_32 : decode cX8_goes 32 = .ok (.iload_n 1, 1) := by decide +kernel
theorem dX8_goes_33 : decode cX8_goes 33 = .ok (.ifCond .eq 7, 3) := by decide +kernel
theorem dX8_goes_36 : decode cX8_goes 36 = .ok (.iconst 1, 1) := by decide +kernel
theorem dX8_goes_37 : decode cX8_goes 37 = .ok (.goto 4, 3) := by decide +kernel
theorem dX8_goes_40 : decode cX8_goes 40 = .ok (.iconst 0, 1) := by decide +kernel
theorem dX8_goes_41 : decode cX8_goes 41 = .ok (.ireturn, 1) := by decide +kernel
theorem dX8_readModule_0 : decode cX8_readModule 0 = .ok (.aload_n 0, 1) := by decide +kernel
theorem dX8_readModule_1 : decode cX8_readModule 1 = .ok (.iconst 1, 1) := by decide +kernel
theorem dX8_readModule_2 : decode cX8_readModule 2 = .ok (.invokevirtual 165, 3) := by decide +kernel
theorem dX8_readModule_5 : decode cX8_readModule 5 = .ok (.aload_n 0, 1) := by decide +kernel
theorem dX8_readModule_6 : decode cX8_readModule 6 = .ok (.iconst 0, 1) := by decide +kernel
theorem dX8_readModule_7 : decode cX8_readModule 7 = .ok (.iconst 3, 1) := by decide +kernel
theorem dX8_readModule_8 : decode cX8_readModule 8 = .ok (.invokevirtual 172, 3) := by decide +kernel
theorem dX8_readModule_11 : decode cX8_readModule 11 = .ok (.istore_n 1, 1) := by decide +kernel
theorem dX8_readModule_12 : decode cX8_readModule 12 = .ok (.aload_n 0, 1) := by decide +kernel
theorem dX8_readModule_13 : decode cX8_readModule 13 = .ok (.iconst 0, 1) := by decide +kernel
theorem dX8_readModule_14 : decode cX8_readModule 14 = .ok (.iconst 3, 1) := by decide +kernel
theorem dX8_readModule_15 : decode cX8_readModule 15 = .ok (.invokevirtual 172, 3) := by decide +kernel
theorem dX8_readModule_18 : decode cX8_readModule 18 = .ok (.istore_n 2, 1) := by decide +kernel
theorem dX8_readModule_19 : decode cX8_readModule 19 = .ok (.aload_n 0, 1) := by decide +kernel
theorem dX8_readModule_20 : decode cX8_readModule 20 = .ok (.aload_n 0, 1) := by decide +kernel
theorem dX8_readModule_21 : decode cX8_readModule 21 = .ok (.getfield 13, 3) := by decide +kernel
theorem dX8_readModule_24 : decode cX8_readModule 24 = .ok (.iconst 0, 1) := by decide +kernel
theorem dX8_readModule_25 : decode cX8_readModule 25 = .ok (.iaload, 1) := by decide +kernel
theorem dX8_readModule_26 : decode cX8_readModule 26 = .ok (.bipush 8, 2) := by decide +kernel
theorem dX8_readModule_28 : decode cX8_readModule 28 = .ok (.if_icmp .ge 7, 3) := by decide +kernel
theorem dX8_readModule_31 : decode cX8_readModule 31 = .ok (.iconst 1, 1) := by decide +kernel
theorem dX8_readModule_32 : decode cX8_readModule 32 = .ok (.goto 4, 3) := by decide +kernel
theorem dX8_readModule_35 : decode cX8_readModule 35 = .ok (.iconst 0, 1) := by decide +kernel
theorem dX8_readModule_36 : decode cX8_readModule 36 = .ok (.invokevirtual 175, 3) := by decide +kernel
theorem dX8_readModule_39 : decode cX8_readModule 39 = .ok (.ifCond .eq 12, 3) := by decide +kernel
theorem dX8_readModule_42 : decode cX8_readModule 42 = .ok (.aload_n 0, 1) := by decide +kernel
theorem dX8_readModule_43 : decode cX8_readModule 43 = .ok (.getfield 13, 3) := by decide +kernel
theorem dX8_readModule_46 : decode cX8_readModule 46 = .ok (.iload_n 1, 1) := by decide +kernel
theorem dX8_readModule_47 : decode cX8_readModule 47 = .ok (.iload_n 2, 1) := by decide +kernel
theorem dX8_readModule_48 : decode cX8_readModule 48 = .ok (.invokestatic 179, 3) := by decide +kernel
theorem dX8_readModule_51 : decode cX8_readModule 51 = .ok (.return_, 1) := by decide +kernel
theorem dX8_readWire_0 : decode cX8_readWire 0 = .ok (.aload_n 0, 1) := by decide +kernel
theorem dX8_readWire_1 : decode cX8_readWire 1 = .ok (.iconst 1, 1) := by decide +kernel
theorem dX8_readWire_2 : decode cX8_readWire 2 = .ok (.invokevirtual 165, 3) := by decide +kernel
theorem dX8_readWire_5 : decode cX8_readWire 5 = .ok (.aload_n 0, 1) := by decide +kernel
theorem dX8_readWire_6 : decode cX8_readWire 6 = .ok (.iconst 0, 1) := by decide +kernel
theorem dX8_readWire_7 : decode cX8_readWire 7 = .ok (.bipush 7, 2) := by decide +kernel
theorem dX8_readWire_9 : decode cX8_readWire 9 = .ok (.invokevirtual 172, 3) := by decide +kernel
theorem dX8_readWire_12 : decode cX8_readWire 12 = .ok (.istore_n 1, 1) := by decide +kernel
theorem dX8_readWire_13 : decode cX8_readWire 13 = .ok (.aload_n 0, 1) := by decide +kernel
theorem dX8_readWire_14 : decode cX8_readWire 14 = .ok (.iconst 0, 1) := by decide +kernel
theorem dX8_readWire_15 : decode cX8_readWire 15 = .ok (.bipush 7, 2) := by decide +kernel
theorem dX8_readWire_17 : decode cX8_readWire 17 = .ok (.invokevirtual 172, 3) := by decide +kernel
theorem dX8_readWire_20 : decode cX8_readWire 20 = .ok (.istore_n 2, 1) := by decide +kernel
theorem dX8_readWire_21 : decode cX8_readWire 21 = .ok (.aload_n 0, 1) := by decide +kernel
theorem dX8_readWire_22 : decode cX8_readWire 22 = .ok (.iconst 1, 1) := by decide +kernel
theorem dX8_readWire_23 : decode cX8_readWire 23 = .ok (.bipush 6, 2) := by decide +kernel
theorem dX8_readWire_25 : decode cX8_readWire 25 = .ok (.invokevirtual 172, 3) := by decide +kernel
theorem dX8_readWire_28 : decode cX8_readWire 28 = .ok (.istore_n 3, 1) := by decide +kernel
theorem dX8_readWire_29 : decode cX8_readWire 29 = .ok (.aload_n 0, 1) := by decide +kernel
theorem dX8_readWire_30 : decode cX8_readWire 30 = .ok (.iconst 1, 1) := by decide +kernel
theorem dX8_readWire_31 : decode cX8_readWire 31 = .ok (.bipush 6, 2) := by decide +kernel
theorem dX8_readWire_33 : decode cX8_readWire 33 = .ok (.invokevirtual 172, 3) := by decide +kernel
theorem dX8_readWire_36 : decode cX8_readWire 36 = .ok (.istore 4, 2) := by decide +kernel
theorem dX8_readWire_38 : decode cX8_readWire 38 = .ok (.aload_n 0, 1) := by decide +kernel
theorem dX8_readWire_39 : decode cX8_readWire 39 = .ok (.iconst 0, 1) := by decide +kernel
theorem dX8_readWire_40 : decode cX8_readWire 40 = .ok (.bipush 9, 2) := by decide +kernel
theorem dX8_readWire_42 : decode cX8_readWire 42 = .ok (.invokevirtual 172, 3) := by decide +kernel
theorem dX8_readWire_45 : decode cX8_readWire 45 = .ok (.istore 5, 2) := by decide +kernel
theorem dX8_readWire_47 : decode cX8_readWire 47 = .ok (.bipush 10, 2) := by decide +kernel
theorem dX8_readWire_49 : decode cX8_readWire 49 = .ok (.iload 5, 2) := by decide +kernel
theorem dX8_readWire_51 : decode cX8_readWire 51 = .ok (.imul, 1) := by decide +kernel
theorem dX8_readWire_52 : decode cX8_readWire 52 = .ok (.aload_n 0, 1) := by decide +kernel
theorem dX8_readWire_53 : decode cX8_readWire 53 = .ok (.iconst 0, 1) := by decide +kernel
theorem dX8_readWire_54 : decode cX8_readWire 54 = .ok (.bipush 9, 2) := by decide +kernel
theorem dX8_readWire_56 : decode cX8_readWire 56 = .ok (.invokevirtual 172, 3) := by decide +kernel
theorem dX8_readWire_59 : decode cX8_readWire 59 = .ok (.iadd, 1) := by decide +kernel
theorem dX8_readWire_60 : decode cX8_readWire 60 = .ok (.istore 6, 2) := by decide +kernel
theorem dX8_readWire_62 : decode cX8_readWire 62 = .ok (.aload_n 0, 1) := by decide +kernel
theorem dX8_readWire_63 : decode cX8_readWire 63 = .ok (.aload_n 0, 1) := by decide +kernel
theorem dX8_readWire_64 : decode cX8_readWire 64 = .ok (.getfield 160, 3) := by decide +kernel
theorem dX8_readWire_67 : decode cX8_readWire 67 = .ok (.ifCond .eq 42, 3) := by decide +kernel
theorem dX8_readWire_70 : decode cX8_readWire 70 = .ok (.iload_n 1, 1) := by decide +kernel
theorem dX8_readWire_71 : decode cX8_readWire 71 = .ok (.aload_n 0, 1) := by decide +kernel
theorem dX8_readWire_72 : decode cX8_readWire 72 = .ok (.getfield 13, 3) := by decide +kernel
theorem dX8_readWire_75 : decode cX8_readWire 75 = .ok (.iconst 0, 1) := by decide +kernel
theorem dX8_readWire_76 : decode cX8_readWire 76 = .ok (.iaload, 1) := by decide +kernel
theorem dX8_readWire_77 : decode cX8_readWire 77 = .ok (.if_icmp .ge 32, 3) := by decide +kernel
theorem dX8_readWire_80 : decode cX8_readWire 80 = .ok (.iload_n 2, 1) := by decide +kernel
theorem dX8_readWire_81 : decode cX8_readWire 81 = .ok (.aload_n 0, 1) := by decide +kernel
theorem dX8_readWire_82 : decode cX8_readWire 82 = .ok (.getfield 13, 3) := by decide +kernel
theorem dX8_readWire_85 : decode cX8_readWire 85 = .ok (.iconst 0, 1) := by decide +kernel
theorem dX8_readWire_86 : decode cX8_readWire 86 = .ok (.iaload, 1) := by decide +kernel
theorem dX8_readWire_87 : decode cX8_readWire 87 = .ok (.if_icmp .ge 22, 3) := by decide +kernel
theorem dX8_readWire_90 : decode cX8_readWire 90 = .ok (.aload_n 0, 1) := by decide +kernel
theorem dX8_readWire_91 : decode cX8_readWire 91 = .ok (.aload_n 0, 1) := by decide +kernel
theorem dX8_readWire_92 : decode cX8_readWire 92 = .ok (.getfield 13, 3) := by decide +kernel
theorem dX8_readWire_95 : decode cX8_readWire 95 = .ok (.iload_n 1, 1) := by decide +kernel
theorem dX8_readWire_96 : decode cX8_readWire 96 = .ok (.iload_n 2, 1) := by decide +kernel
theorem dX8_readWire_97 : decode cX8_readWire 97 = .ok (.iload 6, 2) := by decide +kernel
theorem dX8_readWire_99 : decode cX8_readWire 99 = .ok (.invokevirtual 183, 3) := by decide +kernel
theorem dX8_readWire_102 : decode cX8_readWire 102 = .ok (.ifCond .eq 7, 3) := by decide +kernel
theorem dX8_readWire_105 : decode cX8_readWire 105 = .ok (.iconst 1, 1) := by decide +kernel
theorem dX8_readWire_106 : decode cX8_readWire 106 = .ok (.goto 4, 3) := by decide +kernel
theorem dX8_readWire_109 : decode cX8_readWire 109 = .ok (.iconst 0, 1) := by decide +kernel
theorem dX8_readWire_110 : decode cX8_readWire 110 = .ok (.invokevirtual 175, 3) := by decide +kernel
theorem dX8_readWire_113 : decode cX8_readWire 113 = .ok (.ifCond .eq 17, 3) := by decide +kernel
theorem dX8_readWire_116 : decode cX8_readWire 116 = .ok (.aload_n 0, 1) := by decide +kernel
theorem dX8_readWire_117 : decode cX8_readWire 117 = .ok (.getfield 13, 3) := by decide +kernel
theorem dX8_readWire_120 : decode cX8_readWire 120 = .ok (.iload_n 1, 1) := by decide +kernel
theorem dX8_readWire_121 : decode cX8_readWire 121 = .ok (.iload_n 2, 1) := by decide +kernel
theorem dX8_readWire_122 : decode cX8_readWire 122 = .ok (.iload_n 3, 1) := by decide +kernel
theorem dX8_readWire_123 : decode cX8_readWire 123 = .ok (.iload 4, 2) := by decide +kernel
theorem dX8_readWire_125 : decode cX8_readWire 125 = .ok (.iload 6, 2) := by decide +kernel
theorem dX8_readWire_127 : decode cX8_readWire 127 = .ok (.invokestatic 187, 3) := by decide +kernel
theorem dX8_readWire_130 : decode cX8_readWire 130 = .ok (.return_, 1) := by decide +kernel
theorem dX8_readCut_0 : decode cX8_readCut 0 = .ok (.aload_n 0, 1) := by decide +kernel
theorem dX8_readCut_1 : decode cX8_readCut 1 = .ok (.iconst 1, 1) := by decide +kernel
theorem dX8_readCut_2 : decode cX8_readCut 2 = .ok (.invokevirtual 165, 3) := by decide +kernel
theorem dX8_readCut_5 : decode cX8_readCut 5 = .ok (.aload_n 0, 1) := by decide +kernel
theorem dX8_readCut_6 : decode cX8_readCut 6 = .ok (.iconst 0, 1) := by decide +kernel
theorem dX8_readCut_7 : decode cX8_readCut 7 = .ok (.iconst 1, 1) := by decide +kernel
theorem dX8_readCut_8 : decode cX8_readCut 8 = .ok (.invokevirtual 172, 3) := by decide +kernel
theorem dX8_readCut_11 : decode cX8_readCut 11 = .ok (.istore_n 1, 1) := by decide +kernel
theorem dX8_readCut_12 : decode cX8_readCut 12 = .ok (.bipush 10, 2) := by decide +kernel
theorem dX8_readCut_14 : decode cX8_readCut 14 = .ok (.iload_n 1, 1) := by decide +kernel
theorem dX8_readCut_15 : decode cX8_readCut 15 = .ok (.imul, 1) := by decide +kernel
theorem dX8_readCut_16 : decode cX8_readCut 16 = .ok (.aload_n 0, 1) := by decide +kernel
theorem dX8_readCut_17 : decode cX8_readCut 17 = .ok (.iconst 0, 1) := by decide +kernel
theorem dX8_readCut_18 : decode cX8_readCut 18 = .ok (.iload_n 1, 1) := by decide +kernel
theorem dX8_readCut_19 : decode cX8_readCut 19 = .ok (.iconst 1, 1) := by decide +kernel
theorem dX8_readCut_20 : decode cX8_readCut 20 = .ok (.if_icmp .ne 7, 3) := by decide +kernel
theorem dX8_readCut_23 : decode cX8_readCut 23 = .ok (.iconst 3, 1) := by decide +kernel
theorem dX8_readCut_24 : decode cX8_readCut 24 = .ok (.goto 5, 3) := by decide +kernel
theorem dX8_readCut_27 : decode cX8_readCut 27 = .ok (.bipush 9, 2) := by decide +kernel
theorem dX8_readCut_29 : decode cX8_readCut 29 = .ok (.invokevirtual 172, 3) := by decide +kernel
theorem dX8_readCut_32 : decode cX8_readCut 32 = .ok (.iadd, 1) := by decide +kernel
theorem dX8_readCut_33 : decode cX8_readCut 33 = .ok (.istore_n 2, 1) := by decide +kernel
theorem dX8_readCut_34 : decode cX8_readCut 34 = .ok (.aload_n 0, 1) := by decide +kernel
theorem dX8_readCut_35 : decode cX8_readCut 35 = .ok (.iload_n 2, 1) := by decide +kernel
theorem dX8_readCut_36 : decode cX8_readCut 36 = .ok (.aload_n 0, 1) := by decide +kernel
theorem dX8_readCut_37 : decode cX8_readCut 37 = .ok (.getfield 13, 3) := by decide +kernel
theorem dX8_readCut_40 : decode cX8_readCut 40 = .ok (.iconst 1, 1) := by decide +kernel
theorem dX8_readCut_41 : decode cX8_readCut 41 = .ok (.iaload, 1) := by decide +kernel
theorem dX8_readCut_42 : decode cX8_readCut 42 = .ok (.if_icmp .ge 7, 3) := by decide +kernel
theorem dX8_readCut_45 : decode cX8_readCut 45 = .ok (.iconst 1, 1) := by decide +kernel
theorem dX8_readCut_46 : decode cX8_readCut 46 = .ok (.goto 4, 3) := by decide +kernel
theorem dX8_readCut_49 : decode cX8_readCut 49 = .ok (.iconst 0, 1) := by decide +kernel
theorem dX8_readCut_50 : decode cX8_readCut 50 = .ok (.invokevirtual 175, 3) := by decide +kernel
theorem dX8_readCut_53 : decode cX8_readCut 53 = .ok (.ifCond .eq 11, 3) := by decide +kernel
theorem dX8_readCut_56 : decode cX8_readCut 56 = .ok (.aload_n 0, 1) := by decide +kernel
theorem dX8_readCut_57 : decode cX8_readCut 57 = .ok (.getfield 13, 3) := by decide +kernel
theorem dX8_readCut_60 : decode cX8_readCut 60 = .ok (.iload_n 2, 1) := by decide +kernel
theorem dX8_readCut_61 : decode cX8_readCut 61 = .ok (.invokestatic 191, 3) := by decide +kernel
theorem dX8_readCut_64 : decode cX8_readCut 64 = .ok (.return_, 1) := by decide +kernel
theorem dX8_readWork_0 : decode cX8_readWork 0 = .ok (.aload_n 0, 1) := by decide +kernel
theorem dX8_readWork_1 : decode cX8_readWork 1 = .ok (.iconst 1, 1) := by decide +kernel
theorem dX8_readWork_2 : decode cX8_readWork 2 = .ok (.invokevirtual 165, 3) := by decide +kernel
theorem dX8_readWork_5 : decode cX8_readWork 5 = .ok (.aload_n 0, 1) := by decide +kernel
theorem dX8_readWork_6 : decode cX8_readWork 6 = .ok (.iconst 0, 1) := by decide +kernel
theorem dX8_readWork_7 : decode cX8_readWork 7 = .ok (.bipush 7, 2) := by decide +kernel
theorem dX8_readWork_9 : decode cX8_readWork 9 = .ok (.invokevirtual 172, 3) := by decide +kernel
theorem dX8_readWork_12 : decode cX8_readWork 12 = .ok (.istore_n 1, 1) := by decide +kernel
theorem dX8_readWork_13 : decode cX8_readWork 13 = .ok (.aload_n 0, 1) := by decide +kernel
theorem dX8_readWork_14 : decode cX8_readWork 14 = .ok (.iload_n 1, 1) := by decide +kernel
theorem dX8_readWork_15 : decode cX8_readWork 15 = .ok (.aload_n 0, 1) := by decide +kernel
theorem dX8_readWork_16 : decode cX8_readWork 16 = .ok (.getfield 13, 3) := by decide +kernel
theorem dX8_readWork_19 : decode cX8_readWork 19 = .ok (.iconst 0, 1) := by decide +kernel
theorem dX8_readWork_20 : decode cX8_readWork 20 = .ok (.iaload, 1) := by decide +kernel
theorem dX8_readWork_21 : decode cX8_readWork 21 = .ok (.if_icmp .ge 18, 3) := by decide +kernel
theorem dX8_readWork_24 : decode cX8_readWork 24 = .ok (.aload_n 0, 1) := by decide +kernel
theorem dX8_readWork_25 : decode cX8_readWork 25 = .ok (.getfield 13, 3) := by decide +kernel
theorem dX8_readWork_28 : decode cX8_readWork 28 = .ok (.iload_n 1, 1) := by decide +kernel
theorem dX8_readWork_29 : decode cX8_readWork 29 = .ok (.invokestatic 106, 3) := by decide +kernel
theorem dX8_readWork_32 : decode cX8_readWork 32 = .ok (.ifCond .eq 7, 3) := by decide +kernel
theorem dX8_readWork_35 : decode cX8_readWork 35 = .ok (.iconst 1, 1) := by decide +kernel
theorem dX8_readWork_36 : decode cX8_readWork 36 = .ok (.goto 4, 3) := by decide +kernel
theorem dX8_readWork_39 : decode cX8_readWork 39 = .ok (.iconst 0, 1) := by decide +kernel
theorem dX8_readWork_40 : decode cX8_readWork 40 = .ok (.invokevirtual 175, 3) := by decide +kernel
theorem dX8_readWork_43 : decode cX8_readWork 43 = .ok (.ifCond .eq 11, 3) := by decide +kernel
theorem dX8_readWork_46 : decode cX8_readWork 46 = .ok (.aload_n 0, 1) := by decide +kernel
theorem dX8_readWork_47 : decode cX8_readWork 47 = .ok (.getfield 13, 3) := by decide +kernel
theorem dX8_readWork_50 : decode cX8_readWork 50 = .ok (.iload_n 1, 1) := by decide +kernel
theorem dX8_readWork_51 : decode cX8_readWork 51 = .ok (.invokestatic 124, 3) := by decide +kernel
theorem dX8_readWork_54 : decode cX8_readWork 54 = .ok (.return_, 1) := by decide +kernel
theorem dX8_readCommand_0 : decode cX8_readCommand 0 = .ok (.aload_n 0, 1) := by decide +kernel
theorem dX8_readCommand_1 : decode cX8_readCommand 1 = .ok (.bipush 109, 2) := by decide +kernel
theorem dX8_readCommand_3 : decode cX8_readCommand 3 = .ok (.invokevirtual 194, 3) := by decide +kernel
theorem dX8_readCommand_6 : decode cX8_readCommand 6 = .ok (.ifCond .eq 10, 3) := by decide +kernel
theorem dX8_readCommand_9 : decode cX8_readCommand 9 = .ok (.aload_n 0, 1) := by decide +kernel
theorem dX8_readCommand_10 : decode cX8_readCommand 10 = .ok (.invokevirtual 197, 3) := by decide +kernel
theorem dX8_readCommand_13 : decode cX8_readCommand 13 = .ok (.goto 56, 3) := by decide +kernel
theorem dX8_readCommand_16 : decode cX8_readCommand 16 = .ok (.aload_n 0, 1) := by decide +kernel
theorem dX8_readCommand_17 : decode cX8_readCommand 17 = .ok (.bipush 119, 2) := by decide +kernel
theorem dX8_readCommand_19 : decode cX8_readCommand 19 = .ok (.invokevirtual 194, 3) := by decide +kernel
theorem dX8_readCommand_22 : decode cX8_readCommand 22 = .ok (.ifCond .eq 10, 3) := by decide +kernel
theorem dX8_readCommand_25 : decode cX8_readCommand 25 = .ok (.aload_n 0, 1) := by decide +kernel
theorem dX8_readCommand_26 : decode cX8_readCommand 26 = .ok (.invokevirtual 200, 3) := by decide +kernel
theorem dX8_readCommand_29 : decode cX8_readCommand 29 = .ok (.goto 40, 3) := by decide +kernel
theorem dX8_readCommand_32 : decode cX8_readCommand 32 = .ok (.aload_n 0, 1) := by decide +kernel
theorem dX8_readCommand_33 : decode cX8_readCommand 33 = .ok (.bipush 99, 2) := by decide +kernel
theorem dX8_readCommand_35 : decode cX8_readCommand 35 = .ok (.invokevirtual 194, 3) := by decide +kernel
theorem dX8_readCommand_38 : decode cX8_readCommand 38 = .ok (.ifCond .eq 10, 3) := by decide +kernel
theorem dX8_readCommand_41 : decode cX8_readCommand 41 = .ok (.aload_n 0, 1) := by decide +kernel
theorem dX8_readCommand_42 : decode cX8_readCommand 42 = .ok (.invokevirtual 203, 3) := by decide +kernel
theorem dX8_readCommand_45 : decode cX8_readCommand 45 = .ok (.goto 24, 3) := by decide +kernel
theorem dX8_readCommand_48 : decode cX8_readCommand 48 = .ok (.aload_n 0, 1) := by decide +kernel
theorem dX8_readCommand_49 : decode cX8_readCommand 49 = .ok (.bipush 102, 2) := by decide +kernel
theorem dX8_readCommand_51 : decode cX8_readCommand 51 = .ok (.invokevirtual 194, 3) := by decide +kernel
theorem dX8_readCommand_54 : decode cX8_readCommand 54 = .ok (.ifCond .eq 10, 3) := by decide +kernel
theorem dX8_readCommand_57 : decode cX8_readCommand 57 = .ok (.aload_n 0, 1) := by decide +kernel
theorem dX8_readCommand_58 : decode cX8_readCommand 58 = .ok (.invokevirtual 206, 3) := by decide +kernel
theorem dX8_readCommand_61 : decode cX8_readCommand 61 = .ok (.goto 8, 3) := by decide +kernel
theorem dX8_readCommand_64 : decode cX8_readCommand 64 = .ok (.aload_n 0, 1) := by decide +kernel
theorem dX8_readCommand_65 : decode cX8_readCommand 65 = .ok (.iconst 0, 1) := by decide +kernel
theorem dX8_readCommand_66 : decode cX8_readCommand 66 = .ok (.invokevirtual 165, 3) := by decide +kernel
theorem dX8_readCommand_69 : decode cX8_readCommand 69 = .ok (.return_, 1) := by decide +kernel
theorem dX8_readText_0 : decode cX8_readText 0 = .ok (.aload_n 0, 1) := by decide +kernel
theorem dX8_readText_1 : decode cX8_readText 1 = .ok (.iconst 0, 1) := by decide +kernel
theorem dX8_readText_2 : decode cX8_readText 2 = .ok (.putfield 157, 3) := by decide +kernel
theorem dX8_readText_5 : decode cX8_readText 5 = .ok (.aload_n 0, 1) := by decide +kernel
theorem dX8_readText_6 : decode cX8_readText 6 = .ok (.iconst 1, 1) := by decide +kernel
theorem dX8_readText_7 : decode cX8_readText 7 = .ok (.putfield 160, 3) := by decide +kernel
theorem dX8_readText_10 : decode cX8_readText 10 = .ok (.aload_n 0, 1) := by decide +kernel
theorem dX8_readText_11 : decode cX8_readText 11 = .ok (.iconst 0, 1) := by decide +kernel
theorem dX8_readText_12 : decode cX8_readText 12 = .ok (.putfield 169, 3) := by decide +kernel
theorem dX8_readText_15 : decode cX8_readText 15 = .ok (.iconst 0, 1) := by decide +kernel
theorem dX8_readText_16 : decode cX8_readText 16 = .ok (.istore_n 1, 1) := by decide +kernel
theorem dX8_readText_17 : decode cX8_readText 17 = .ok (.iload_n 1, 1) := by decide +kernel
theorem dX8_readText_18 : decode cX8_readText 18 = .ok (.bipush 96, 2) := by decide +kernel
theorem dX8_readText_20 : decode cX8_readText 20 = .ok (.if_icmp .ge 16, 3) := by decide +kernel
theorem dX8_readText_23 : decode cX8_readText 23 = .ok (.aload_n 0, 1) := by decide +kernel
theorem dX8_readText_24 : decode cX8_readText 24 = .ok (.getfield 13, 3) := by decide +kernel
theorem dX8_readText_27 : decode cX8_readText 27 = .ok (.iload_n 1, 1) := by decide +kernel
theorem dX8_readText_28 : decode cX8_readText 28 = .ok (.iconst 0, 1) := by decide +kernel
theorem dX8_readText_29 : decode cX8_readText 29 = .ok (.iastore, 1) := by decide +kernel
theorem dX8_readText_30 : decode cX8_readText 30 = .ok (.iinc 1 1, 3) := by decide +kernel
theorem dX8_readText_33 : decode cX8_readText 33 = .ok (.goto (-16), 3) := by decide +kernel
theorem dX8_readText_36 : decode cX8_readText 36 = .ok (.aload_n 0, 1) := by decide +kernel
theorem dX8_readText_37 : decode cX8_readText 37 = .ok (.aload_n 0, 1) := by decide +kernel
theorem dX8_readText_38 : decode cX8_readText 38 = .ok (.bipush 77, 2) := by decide +kernel
theorem dX8_readText_40 : decode cX8_readText 40 = .ok (.invokevirtual 194, 3) := by decide +kernel
theorem dX8_readText_43 : decode cX8_readText 43 = .ok (.invokevirtual 165, 3) := by decide +kernel
theorem dX8_readText_46 : decode cX8_readText 46 = .ok (.aload_n 0, 1) := by decide +kernel
theorem dX8_readText_47 : decode cX8_readText 47 = .ok (.getfield 160, 3) := by decide +kernel
theorem dX8_readText_50 : decode cX8_readText 50 = .ok (.ifCond .eq 21, 3) := by decide +kernel
theorem dX8_readText_53 : decode cX8_readText 53 = .ok (.aload_n 0, 1) := by decide +kernel
theorem dX8_readText_54 : decode cX8_readText 54 = .ok (.getfield 157, 3) := by decide +kernel
theorem dX8_readText_57 : decode cX8_readText 57 = .ok (.aload_n 0, 1) := by decide +kernel
theorem dX8_readText_58 : decode cX8_readText 58 = .ok (.getfield 150, 3) := by decide +kernel
theorem dX8_readText_61 : decode cX8_readText 61 = .ok (.if_icmp .ge 10, 3) := by decide +kernel
theorem dX8_readText_64 : decode cX8_readText 64 = .ok (.aload_n 0, 1) := by decide +kernel
theorem dX8_readText_65 : decode cX8_readText 65 = .ok (.invokevirtual 209, 3) := by decide +kernel
theorem dX8_readText_68 : decode cX8_readText 68 = .ok (.goto (-22), 3) := by decide +kernel
theorem dX8_readText_71 : decode cX8_readText 71 = .ok (.aload_n 0, 1) := by decide +kernel
theorem dX8_readText_72 : decode cX8_readText 72 = .ok (.getfield 160, 3) := by decide +kernel
theorem dX8_readText_75 : decode cX8_readText 75 = .ok (.ifCond .eq 7, 3) := by decide +kernel
theorem dX8_readText_78 : decode cX8_readText 78 = .ok (.iconst (-1), 1) := by decide +kernel
theorem dX8_readText_79 : decode cX8_readText 79 = .ok (.goto 7, 3) := by decide +kernel
theorem dX8_readText_82 : decode cX8_readText 82 = .ok (.aload_n 0, 1) := by decide +kernel
theorem dX8_readText_83 : decode cX8_readText 83 = .ok (.getfield 157, 3) := by decide +kernel
theorem dX8_readText_86 : decode cX8_readText 86 = .ok (.ireturn, 1) := by decide +kernel
theorem dX8_errorPosition_0 : decode cX8_errorPosition 0 = .ok (.aload_n 0, 1) := by decide +kernel
theorem dX8_errorPosition_1 : decode cX8_errorPosition 1 = .ok (.iconst 0, 1) := by decide +kernel
theorem dX8_errorPosition_2 : decode cX8_errorPosition 2 = .ok (.putfield 60, 3) := by decide +kernel
theorem dX8_errorPosition_5 : decode cX8_errorPosition 5 = .ok (.aload_n 0, 1) := by decide +kernel
theorem dX8_errorPosition_6 : decode cX8_errorPosition 6 = .ok (.invokevirtual 212, 3) := by decide +kernel
theorem dX8_errorPosition_9 : decode cX8_errorPosition 9 = .ok (.ireturn, 1) := by decide +kernel
theorem dX8_load_0 : decode cX8_load 0 = .ok (.aload_n 0, 1) := by decide +kernel
theorem dX8_load_1 : decode cX8_load 1 = .ok (.aload_n 0, 1) := by decide +kernel
theorem dX8_load_2 : decode cX8_load 2 = .ok (.invokevirtual 212, 3) := by decide +kernel
theorem dX8_load_5 : decode cX8_load 5 = .ok (.iconst (-1), 1) := by decide +kernel
theorem dX8_load_6 : decode cX8_load 6 = .ok (.if_icmp .ne 7, 3) := by decide +kernel
theorem dX8_load_9 : decode cX8_load 9 = .ok (.iconst 0, 1) := by decide +kernel
theorem dX8_load_10 : decode cX8_load 10 = .ok (.goto 4, 3) := by decide +kernel
theorem dX8_load_13 : decode cX8_load 13 = .ok (.iconst 1, 1) := by decide +kernel
theorem dX8_load_14 : decode cX8_load 14 = .ok (.invokevirtual 153, 3) := by decide +kernel
theorem dX8_load_17 : decode cX8_load 17 = .ok (.ifCond .eq 5, 3) := by decide +kernel
theorem dX8_load_20 : decode cX8_load 20 = .ok (.iconst 0, 1) := by decide +kernel
theorem dX8_load_21 : decode cX8_load 21 = .ok (.ireturn, 1) := by decide +kernel
theorem dX8_load_22 : decode cX8_load 22 = .ok (.aload_n 0, 1) := by decide +kernel
theorem dX8_load_23 : decode cX8_load 23 = .ok (.getfield 13, 3) := by decide +kernel
theorem dX8_load_26 : decode cX8_load 26 = .ok (.iconst 0, 1) := by decide +kernel
theorem dX8_load_27 : decode cX8_load 27 = .ok (.aload_n 0, 1) := by decide +kernel
theorem dX8_load_28 : decode cX8_load 28 = .ok (.getfield 16, 3) := by decide +kernel
theorem dX8_load_31 : decode cX8_load 31 = .ok (.iconst 0, 1) := by decide +kernel
theorem dX8_load_32 : decode cX8_load 32 = .ok (.bipush 96, 2) := by decide +kernel
theorem dX8_load_34 : decode cX8_load 34 = .ok (.invokestatic 69, 3) := by decide +kernel
theorem dX8_load_37 : decode cX8_load 37 = .ok (.aload_n 0, 1) := by decide +kernel
theorem dX8_load_38 : decode cX8_load 38 = .ok (.iconst 0, 1) := by decide +kernel
theorem dX8_load_39 : decode cX8_load 39 = .ok (.putfield 66, 3) := by decide +kernel
theorem dX8_load_42 : decode cX8_load 42 = .ok (.aload_n 0, 1) := by decide +kernel
theorem dX8_load_43 : decode cX8_load 43 = .ok (.getfield 28, 3) := by decide +kernel
theorem dX8_load_46 : decode cX8_load 46 = .ok (.iconst 0, 1) := by decide +kernel
theorem dX8_load_47 : decode cX8_load 47 = .ok (.iconst 0, 1) := by decide +kernel
theorem dX8_load_48 : decode cX8_load 48 = .ok (.bastore, 1) := by decide +kernel
theorem dX8_load_49 : decode cX8_load 49 = .ok (.aload_n 0, 1) := by decide +kernel
theorem dX8_load_50 : decode cX8_load 50 = .ok (.getfield 28, 3) := by decide +kernel
theorem dX8_load_53 : decode cX8_load 53 = .ok (.iconst 1, 1) := by decide +kernel
theorem dX8_load_54 : decode cX8_load 54 = .ok (.iconst 0, 1) := by decide +kernel
theorem dX8_load_55 : decode cX8_load 55 = .ok (.bastore, 1) := by decide +kernel
theorem dX8_load_56 : decode cX8_load 56 = .ok (.aload_n 0, 1) := by decide +kernel
theorem dX8_load_57 : decode cX8_load 57 = .ok (.getfield 169, 3) := by decide +kernel
theorem dX8_load_60 : decode cX8_load 60 = .ok (.ireturn, 1) := by decide +kernel
theorem dX8_workers_0 : decode cX8_workers 0 = .ok (.iconst 0, 1) := by decide +kernel
theorem dX8_workers_1 : decode cX8_workers 1 = .ok (.istore_n 1, 1) := by decide +kernel
theorem dX8_workers_2 : decode cX8_workers 2 = .ok (.iconst 0, 1) := by decide +kernel
theorem dX8_workers_3 : decode cX8_workers 3 = .ok (.istore_n 2, 1) := by decide +kernel
theorem dX8_workers_4 : decode cX8_workers 4 = .ok (.iload_n 2, 1) := by decide +kernel
theorem dX8_workers_5 : decode cX8_workers 5 = .ok (.aload_n 0, 1) := by decide +kernel
theorem dX8_workers_6 : decode cX8_workers 6 = .ok (.getfield 16, 3) := by decide +kernel
theorem dX8_workers_9 : decode cX8_workers 9 = .ok (.iconst 0, 1) := by decide +kernel
theorem dX8_workers_10 : decode cX8_workers 10 = .ok (.iaload, 1) := by decide +kernel
theorem dX8_workers_11 : decode cX8_workers 11 = .ok (.if_icmp .ge 30, 3) := by decide +kernel
theorem dX8_workers_14 : decode cX8_workers 14 = .ok (.iload_n 1, 1) := by decide +kernel
theorem dX8_workers_15 : decode cX8_workers 15 = .ok (.aload_n 0, 1) := by decide +kernel
theorem dX8_workers_16 : decode cX8_workers 16 = .ok (.getfield 16, 3) := by decide +kernel
theorem dX8_workers_19 : decode cX8_workers 19 = .ok (.iload_n 2, 1) := by decide +kernel
theorem dX8_workers_20 : decode cX8_workers 20 = .ok (.invokestatic 106, 3) := by decide +kernel
theorem dX8_workers_23 : decode cX8_workers 23 = .ok (.ifCond .eq 9, 3) := by decide +kernel
theorem dX8_workers_26 : decode cX8_workers 26 = .ok (.iconst 1, 1) := by decide +kernel
theorem dX8_workers_27 : decode cX8_workers 27 = .ok (.iload_n 2, 1) := by decide +kernel
theorem dX8_workers_28 : decode cX8_workers 28 = .ok (.ishl, 1) := by decide +kernel
theorem dX8_workers_29 : decode cX8_workers 29 = .ok (.goto 4, 3) := by decide +kernel
theorem dX8_workers_32 : decode cX8_workers 32 = .ok (.iconst 0, 1) := by decide +kernel
theorem dX8_workers_33 : decode cX8_workers 33 = .ok (.ior, 1) := by decide +kernel
theorem dX8_workers_34 : decode cX8_workers 34 = .ok (.istore_n 1, 1) := by decide +kernel
theorem dX8_workers_35 : decode cX8_workers 35 = .ok (.iinc 2 1, 3) := by decide +kernel
theorem dX8_workers_38 : decode cX8_workers 38 = .ok (.goto (-34), 3) := by decide +kernel
theorem dX8_workers_41 : decode cX8_workers 41 = .ok (.iload_n 1, 1) := by decide +kernel
theorem dX8_workers_42 : decode cX8_workers 42 = .ok (.ireturn, 1) := by decide +kernel
theorem dX8_loopers_0 : decode cX8_loopers 0 = .ok (.aload_n 0, 1) := by decide +kernel
theorem dX8_loopers_1 : decode cX8_loopers 1 = .ok (.aload_n 0, 1) := by decide +kernel
theorem dX8_loopers_2 : decode cX8_loopers 2 = .ok (.getfield 16, 3) := by decide +kernel
theorem dX8_loopers_5 : decode cX8_loopers 5 = .ok (.sipush 999, 3) := by decide +kernel
theorem dX8_loopers_8 : decode cX8_loopers 8 = .ok (.invokevirtual 81, 3) := by decide +kernel
theorem dX8_loopers_11 : decode cX8_loopers 11 = .ok (.iconst 0, 1) := by decide +kernel
theorem dX8_loopers_12 : decode cX8_loopers 12 = .ok (.istore_n 1, 1) := by decide +kernel
theorem dX8_loopers_13 : decode cX8_loopers 13 = .ok (.iconst 0, 1) := by decide +kernel
theorem dX8_loopers_14 : decode cX8_loopers 14 = .ok (.istore_n 2, 1) := by decide +kernel
theorem dX8_loopers_15 : decode cX8_loopers 15 = .ok (.iload_n 2, 1) := by decide +kernel
theorem dX8_loopers_16 : decode cX8_loopers 16 = .ok (.aload_n 0, 1) := by decide +kernel
theorem dX8_loopers_17 : decode cX8_loopers 17 = .ok (.getfield 16, 3) := by decide +kernel
theorem dX8_loopers_20 : decode cX8_loopers 20 = .ok (.iconst 0, 1) := by decide +kernel
theorem dX8_loopers_21 : decode cX8_loopers 21 = .ok (.iaload, 1) := by decide +kernel
theorem dX8_loopers_22 : decode cX8_loopers 22 = .ok (.if_icmp .ge 33, 3) := by decide +kernel
theorem dX8_loopers_25 : decode cX8_loopers 25 = .ok (.iload_n 1, 1) := by decide +kernel
theorem dX8_loopers_26 : decode cX8_loopers 26 = .ok (.aload_n 0, 1) := by decide +kernel
theorem dX8_loopers_27 : decode cX8_loopers 27 = .ok (.getfield 54, 3) := by decide +kernel
theorem dX8_loopers_30 : decode cX8_loopers 30 = .ok (.bipush 9, 2) := by decide +kernel
theorem dX8_loopers_32 : decode cX8_loopers 32 = .ok (.iload_n 2, 1) := by decide +kernel
theorem dX8_loopers_33 : decode cX8_loopers 33 = .ok (.imul, 1) := by decide +kernel
theorem dX8_loopers_34 : decode cX8_loopers 34 = .ok (.iaload, 1) := by decide +kernel
theorem dX8_loopers_35 : decode cX8_loopers 35 = .ok (.ldc 80, 2) := by decide +kernel
theorem dX8_loopers_37 : decode cX8_loopers 37 = .ok (.if_icmp .ge 9, 3) := by decide +kernel
theorem dX8_loopers_40 : decode cX8_loopers 40 = .ok (.iconst 1, 1) := by decide +kernel
theorem dX8_loopers_41 : decode cX8_loopers 41 = .ok (.iload_n 2, 1) := by decide +kernel
theorem dX8_loopers_42 : decode cX8_loopers 42 = .ok (.ishl, 1) := by decide +kernel
theorem dX8_loopers_43 : decode cX8_loopers 43 = .ok (.goto 4, 3) := by decide +kernel
theorem dX8_loopers_46 : decode cX8_loopers 46 = .ok (.iconst 0, 1) := by decide +kernel
theorem dX8_loopers_47 : decode cX8_loopers 47 = .ok (.ior, 1) := by decide +kernel
theorem dX8_loopers_48 : decode cX8_loopers 48 = .ok (.istore_n 1, 1) := by decide +kernel
theorem dX8_loopers_49 : decode cX8_loopers 49 = .ok (.iinc 2 1, 3) := by decide +kernel
theorem dX8_loopers_52 : decode cX8_loopers 52 = .ok (.goto (-37), 3) := by decide +kernel
theorem dX8_loopers_55 : decode cX8_loopers 55 = .ok (.iload_n 1, 1) := by decide +kernel
theorem dX8_loopers_56 : decode cX8_loopers 56 = .ok (.ireturn, 1) := by decide +kernel
theorem dX8_about_0 : decode cX8_about 0 = .ok (.aload_n 0, 1) := by decide +kernel
theorem dX8_about_1 : decode cX8_about 1 = .ok (.iload_n 1, 1) := by decide +kernel
theorem dX8_about_2 : decode cX8_about 2 = .ok (.i2l, 1) := by decide +kernel
theorem dX8_about_3 : decode cX8_about 3 = .ok (.lconst 0, 1) := by decide +kernel
theorem dX8_about_4 : decode cX8_about 4 = .ok (.ldc2_w 216, 3) := by decide +kernel
theorem dX8_about_7 : decode cX8_about 7 = .ok (.invokestatic 146, 3) := by decide +kernel
theorem dX8_about_10 : decode cX8_about 10 = .ok (.ifCond .eq 7, 3) := by decide +kernel
theorem dX8_about_13 : decode cX8_about 13 = .ok (.iconst 0, 1) := by decide +kernel
theorem dX8_about_14 : decode cX8_about 14 = .ok (.goto 4, 3) := by decide +kernel
theorem dX8_about_17 : decode cX8_about 17 = .ok (.iconst 1, 1) := by decide +kernel
theorem dX8_about_18 : decode cX8_about 18 = .ok (.invokevirtual 153, 3) := by decide +kernel
theorem dX8_about_21 : decode cX8_about 21 = .ok (.ifCond .eq 5, 3) := by decide +kernel
theorem dX8_about_24 : decode cX8_about 24 = .ok (.iconst 0, 1) := by decide +kernel
theorem dX8_about_25 : decode cX8_about 25 = .ok (.ireturn, 1) := by decide +kernel
theorem dX8_about_26 : decode cX8_about 26 = .ok (.aload_n 0, 1) := by decide +kernel
theorem dX8_about_27 : decode cX8_about 27 = .ok (.aload_n 0, 1) := by decide +kernel
theorem dX8_about_28 : decode cX8_about 28 = .ok (.getfield 16, 3) := by decide +kernel
theorem dX8_about_31 : decode cX8_about 31 = .ok (.invokevirtual 134, 3) := by decide +kernel
theorem dX8_about_34 : decode cX8_about 34 = .ok (.istore_n 2, 1) := by decide +kernel
theorem dX8_about_35 : decode cX8_about 35 = .ok (.iload_n 1, 1) := by decide +kernel
theorem dX8_about_36 : decode cX8_about 36 = .ok (.tableswitch 104 0 7 #[48, 48, 55, 63, 71, 81, 86, 99], 48) := by decide +kernel
theorem dX8_about_84 : decode cX8_about 84 = .ok (.aload_n 0, 1) := by decide +kernel
theorem dX8_about_85 : decode cX8_about 85 = .ok (.getfield 16, 3) := by decide +kernel
theorem dX8_about_88 : decode cX8_about 88 = .ok (.iload_n 1, 1) := by decide +kernel
theorem dX8_about_89 : decode cX8_about 89 = .ok (.iaload, 1) := by decide +kernel
theorem dX8_about_90 : decode cX8_about 90 = .ok (.ireturn, 1) := by decide +kernel
theorem dX8_about_91 : decode cX8_about 91 = .ok (.aload_n 0, 1) := by decide +kernel
theorem dX8_about_92 : decode cX8_about 92 = .ok (.getfield 16, 3) := by decide +kernel
theorem dX8_about_95 : decode cX8_about 95 = .ok (.invokestatic 218, 3) := by decide +kernel
theorem dX8_about_98 : decode cX8_about 98 = .ok (.ireturn, 1) := by decide +kernel
theorem dX8_about_99 : decode cX8_about 99 = .ok (.aload_n 0, 1) := by decide +kernel
theorem dX8_about_100 : decode cX8_about 100 = .ok (.getfield 16, 3) := by decide +kernel
theorem dX8_about_103 : decode cX8_about 103 = .ok (.invokestatic 222, 3) := by decide +kernel
theorem dX8_about_106 : decode cX8_about 106 = .ok (.ireturn, 1) := by decide +kernel
theorem dX8_about_107 : decode cX8_about 107 = .ok (.iload_n 2, 1) := by decide +kernel
theorem dX8_about_108 : decode cX8_about 108 = .ok (.ifCond .eq 7, 3) := by decide +kernel
theorem dX8_about_111 : decode cX8_about 111 = .ok (.iconst 1, 1) := by decide +kernel
theorem dX8_about_112 : decode cX8_about 112 = .ok (.goto 4, 3) := by decide +kernel
theorem dX8_about_115 : decode cX8_about 115 = .ok (.iconst 0, 1) := by decide +kernel
theorem dX8_about_116 : decode cX8_about 116 = .ok (.ireturn, 1) := by decide +kernel
theorem dX8_about_117 : decode cX8_about 117 = .ok (.aload_n 0, 1) := by decide +kernel
theorem dX8_about_118 : decode cX8_about 118 = .ok (.getfield 93, 3) := by decide +kernel
theorem dX8_about_121 : decode cX8_about 121 = .ok (.ireturn, 1) := by decide +kernel
theorem dX8_about_122 : decode cX8_about 122 = .ok (.iload_n 2, 1) := by decide +kernel
theorem dX8_about_123 : decode cX8_about 123 = .ok (.ifCond .eq 10, 3) := by decide +kernel
theorem dX8_about_126 : decode cX8_about 126 = .ok (.aload_n 0, 1) := by decide +kernel
theorem dX8_about_127 : decode cX8_about 127 = .ok (.invokevirtual 225, 3) := by decide +kernel
theorem dX8_about_130 : decode cX8_about 130 = .ok (.goto 4, 3) := by decide +kernel
theorem dX8_about_133 : decode cX8_about 133 = .ok (.iconst (-1), 1) := by decide +kernel
theorem dX8_about_134 : decode cX8_about 134 = .ok (.ireturn, 1) := by decide +kernel
theorem dX8_about_135 : decode cX8_about 135 = .ok (.aload_n 0, 1) := by decide +kernel
theorem dX8_about_136 : decode cX8_about 136 = .ok (.invokevirtual 228, 3) := by decide +kernel
theorem dX8_about_139 : decode cX8_about 139 = .ok (.ireturn, 1) := by decide +kernel
theorem dX8_about_140 : decode cX8_about 140 = .ok (.aload_n 0, 1) := by decide +kernel
theorem dX8_about_141 : decode cX8_about 141 = .ok (.invokevirtual 231, 3) := by decide +kernel
theorem dX8_about_144 : decode cX8_about 144 = .ok (.ireturn, 1) := by decide +kernel
theorem dX8_isModule_0 : decode cX8_isModule 0 = .ok (.iload_n 1, 1) := by decide +kernel
theorem dX8_isModule_1 : decode cX8_isModule 1 = .ok (.i2l, 1) := by decide +kernel
theorem dX8_isModule_2 : decode cX8_isModule 2 = .ok (.lconst 0, 1) := by decide +kernel
theorem dX8_isModule_3 : decode cX8_isModule 3 = .ok (.aload_n 0, 1) := by decide +kernel
theorem dX8_isModule_4 : decode cX8_isModule 4 = .ok (.getfield 16, 3) := by decide +kernel
theorem dX8_isModule_7 : decode cX8_isModule 7 = .ok (.iconst 0, 1) := by decide +kernel
theorem dX8_isModule_8 : decode cX8_isModule 8 = .ok (.iaload, 1) := by decide +kernel
theorem dX8_isModule_9 : decode cX8_isModule 9 = .ok (.iconst 1, 1) := by decide +kernel
theorem dX8_isModule_10 : decode cX8_isModule 10 = .ok (.isub, 1) := by decide +kernel
theorem dX8_isModule_11 : decode cX8_isModule 11 = .ok (.i2l, 1) := by decide +kernel
theorem dX8_isModule_12 : decode cX8_isModule 12 = .ok (.invokestatic 146, 3) := by decide +kernel
theorem dX8_isModule_15 : decode cX8_isModule 15 = .ok (.ireturn, 1) := by decide +kernel
theorem dX8_wiresOf_0 : decode cX8_wiresOf 0 = .ok (.iconst 0, 1) := by decide +kernel
theorem dX8_wiresOf_1 : decode cX8_wiresOf 1 = .ok (.istore_n 3, 1) := by decide +kernel
theorem dX8_wiresOf_2 : decode cX8_wiresOf 2 = .ok (.iconst 0, 1) := by decide +kernel
theorem dX8_wiresOf_3 : decode cX8_wiresOf 3 = .ok (.istore 4, 2) := by decide +kernel
theorem dX8_wiresOf_5 : decode cX8_wiresOf 5 = .ok (.iload 4, 2) := by decide +kernel
theorem dX8_wiresOf_7 : decode cX8_wiresOf 7 = .ok (.aload_n 0, 1) := by decide +kernel
theorem dX8_wiresOf_8 : decode cX8_wiresOf 8 = .ok (.getfield 16, 3) := by decide +kernel
theorem dX8_wiresOf_11 : decode cX8_wiresOf 11 = .ok (.iconst 1, 1) := by decide +kernel
theorem dX8_wiresOf_12 : decode cX8_wiresOf 12 = .ok (.iaload, 1) := by decide +kernel
theorem dX8_wiresOf_13 : decode cX8_wiresOf 13 = .ok (.if_icmp .ge 32, 3) := by decide +kernel
theorem dX8_wiresOf_16 : decode cX8_wiresOf 16 = .ok (.iload_n 3, 1) := by decide +kernel
theorem dX8_wiresOf_17 : decode cX8_wiresOf 17 = .ok (.aload_n 0, 1) := by decide +kernel
theorem dX8_wiresOf_18 : decode cX8_wiresOf 18 = .ok (.getfield 16, 3) := by decide +kernel
theorem dX8_wiresOf_21 : decode cX8_wiresOf 21 = .ok (.iload 4, 2) := by decide +kernel
theorem dX8_wiresOf_23 : decode cX8_wiresOf 23 = .ok (.iload_n 2, 1) := by decide +kernel
theorem dX8_wiresOf_24 : decode cX8_wiresOf 24 = .ok (.invokestatic 73, 3) := by decide +kernel
theorem dX8_wiresOf_27 : decode cX8_wiresOf 27 = .ok (.iaload, 1) := by decide +kernel
theorem dX8_wiresOf_28 : decode cX8_wiresOf 28 = .ok (.iload_n 1, 1) := by decide +kernel
theorem dX8_wiresOf_29 : decode cX8_wiresOf 29 = .ok (.if_icmp .ne 7, 3) := by decide +kernel
theorem dX8_wiresOf_32 : decode cX8_wiresOf 32 = .ok (.iconst 1, 1) := by decide +kernel
theorem dX8_wiresOf_33 : decode cX8_wiresOf 33 = .ok (.goto 4, 3) := by decide +kernel
theorem dX8_wiresOf_36 : decode cX8_wiresOf 36 = .ok (.iconst 0, 1) := by decide +kernel
theorem dX8_wiresOf_37 : decode cX8_wiresOf 37 = .ok (.iadd, 1) := by decide +kernel
theorem dX8_wiresOf_38 : decode cX8_wiresOf 38 = .ok (.istore_n 3, 1) := by decide +kernel
theorem dX8_wiresOf_39 : decode cX8_wiresOf 39 = .ok (.iinc 4 1, 3) := by decide +kernel
theorem dX8_wiresOf_42 : decode cX8_wiresOf 42 = .ok (.goto (-37), 3) := by decide +kernel
theorem dX8_wiresOf_45 : decode cX8_wiresOf 45 = .ok (.iload_n 3, 1) := by decide +kernel
theorem dX8_wiresOf_46 : decode cX8_wiresOf 46 = .ok (.ireturn, 1) := by decide +kernel
theorem dX8_module_0 : decode cX8_module 0 = .ok (.aload_n 0, 1) := by decide +kernel
theorem dX8_module_1 : decode cX8_module 1 = .ok (.aload_n 0, 1) := by decide +kernel
theorem dX8_module_2 : decode cX8_module 2 = .ok (.iload_n 1, 1) := by decide +kernel
theorem dX8_module_3 : decode cX8_module 3 = .ok (.invokevirtual 234, 3) := by decide +kernel
theorem dX8_module_6 : decode cX8_module 6 = .ok (.ifCond .ne 7, 3) := by decide +kernel
theorem dX8_module_9 : decode cX8_module 9 = .ok (.iconst 1, 1) := by decide +kernel
theorem dX8_module_10 : decode cX8_module 10 = .ok (.goto 20, 3) := by decide +kernel
theorem dX8_module_13 : decode cX8_module 13 = .ok (.iload_n 2, 1) := by decide +kernel
theorem dX8_module_14 : decode cX8_module 14 = .ok (.i2l, 1) := by decide +kernel
theorem dX8_module_15 : decode cX8_module 15 = .ok (.lconst 0, 1) := by decide +kernel
theorem dX8_module_16 : decode cX8_module 16 = .ok (.ldc2_w 237, 3) := by decide +kernel
theorem dX8_module_19 : decode cX8_module 19 = .ok (.invokestatic 146, 3) := by decide +kernel
theorem dX8_module_22 : decode cX8_module 22 = .ok (.ifCond .eq 7, 3) := by decide +kernel
theorem dX8_module_25 : decode cX8_module 25 = .ok (.iconst 0, 1) := by decide +kernel
theorem dX8_module_26 : decode cX8_module 26 = .ok (.goto 4, 3) := by decide +kernel
theorem dX8_module_29 : decode cX8_module 29 = .ok (.iconst 2, 1) := by decide +kernel
theorem dX8_module_30 : decode cX8_module 30 = .ok (.invokevirtual 153, 3) := by decide +kernel
theorem dX8_module_33 : decode cX8_module 33 = .ok (.ifCond .eq 5, 3) := by decide +kernel
theorem dX8_module_36 : decode cX8_module 36 = .ok (.iconst 0, 1) := by decide +kernel
theorem dX8_module_37 : decode cX8_module 37 = .ok (.ireturn, 1) := by decide +kernel
theorem dX8_module_38 : decode cX8_module 38 = .ok (.iload_n 2, 1) := by decide +kernel
theorem dX8_module_39 : decode cX8_module 39 = .ok (.tableswitch 61 3 5 #[25, 47, 54], 25) := by decide +kernel
theorem dX8_module_64 : decode cX8_module 64 = .ok (.aload_n 0, 1) := by decide +kernel
theorem dX8_module_65 : decode cX8_module 65 = .ok (.aload_n 0, 1) := by decide +kernel
theorem dX8_module_66 : decode cX8_module 66 = .ok (.getfield 16, 3) := by decide +kernel
theorem dX8_module_69 : decode cX8_module 69 = .ok (.invokevirtual 134, 3) := by decide +kernel
theorem dX8_module_72 : decode cX8_module 72 = .ok (.ifCond .eq 12, 3) := by decide +kernel
theorem dX8_module_75 : decode cX8_module 75 = .ok (.aload_n 0, 1) := by decide +kernel
theorem dX8_module_76 : decode cX8_module 76 = .ok (.getfield 32, 3) := by decide +kernel
theorem dX8_module_79 : decode cX8_module 79 = .ok (.iload_n 1, 1) := by decide +kernel
theorem dX8_module_80 : decode cX8_module 80 = .ok (.iaload, 1) := by decide +kernel
theorem dX8_module_81 : decode cX8_module 81 = .ok (.goto 4, 3) := by decide +kernel
theorem dX8_module_84 : decode cX8_module 84 = .ok (.iconst (-1), 1) := by decide +kernel
theorem dX8_module_85 : decode cX8_module 85 = .ok (.ireturn, 1) := by decide +kernel
theorem dX8_module_86 : decode cX8_module 86 = .ok (.aload_n 0, 1) := by decide +kernel
theorem dX8_module_87 : decode cX8_module 87 = .ok (.iload_n 1, 1) := by decide +kernel
theorem dX8_module_88 : decode cX8_module 88 = .ok (.iconst 1, 1) := by decide +kernel
theorem dX8_module_89 : decode cX8_module 89 = .ok (.invokevirtual 239, 3) := by decide +kernel
theorem dX8_module_92 : decode cX8_module 92 = .ok (.ireturn, 1) := by decide +kernel
theorem dX8_module_93 : decode cX8_module 93 = .ok (.aload_n 0, 1) := by decide +kernel
theorem dX8_module_94 : decode cX8_module 94 = .ok (.iload_n 1, 1) := by decide +kernel
theorem dX8_module_95 : decode cX8_module 95 = .ok (.iconst 0, 1) := by decide +kernel
theorem dX8_module_96 : decode cX8_module 96 = .ok (.invokevirtual 239, 3) := by decide +kernel
theorem dX8_module_99 : decode cX8_module 99 = .ok (.ireturn, 1) := by decide +kernel
theorem dX8_module_100 : decode cX8_module 100 = .ok (.aload_n 0, 1) := by decide +kernel
theorem dX8_module_101 : decode cX8_module 101 = .ok (.getfield 16, 3) := by decide +kernel
theorem dX8_module_104 : decode cX8_module 104 = .ok (.iload_n 1, 1) := by decide +kernel
theorem dX8_module_105 : decode cX8_module 105 = .ok (.iload_n 2, 1) := by decide +kernel
theorem dX8_module_106 : decode cX8_module 106 = .ok (.invokestatic 77, 3) := by decide +kernel
theorem dX8_module_109 : decode cX8_module 109 = .ok (.iaload, 1) := by decide +kernel
theorem dX8_module_110 : decode cX8_module 110 = .ok (.ireturn, 1) := by decide +kernel
theorem dX8_isWire_0 : decode cX8_isWire 0 = .ok (.iload_n 1, 1) := by decide +kernel
theorem dX8_isWire_1 : decode cX8_isWire 1 = .ok (.i2l, 1) := by decide +kernel
theorem dX8_isWire_2 : decode cX8_isWire 2 = .ok (.lconst 0, 1) := by decide +kernel
theorem dX8_isWire_3 : decode cX8_isWire 3 = .ok (.aload_n 0, 1) := by decide +kernel
theorem dX8_isWire_4 : decode cX8_isWire 4 = .ok (.getfield 16, 3) := by decide +kernel
theorem dX8_isWire_7 : decode cX8_isWire 7 = .ok (.iconst 1, 1) := by decide +kernel
theorem dX8_isWire_8 : decode cX8_isWire 8 = .ok (.iaload, 1) := by decide +kernel
theorem dX8_isWire_9 : decode cX8_isWire 9 = .ok (.iconst 1, 1) := by decide +kernel
theorem dX8_isWire_10 : decode cX8_isWire 10 = .ok (.isub, 1) := by decide +kernel
theorem dX8_isWire_11 : decode cX8_isWire 11 = .ok (.i2l, 1) := by decide +kernel
theorem dX8_isWire_12 : decode cX8_isWire 12 = .ok (.invokestatic 146, 3) := by decide +kernel
theorem dX8_isWire_15 : decode cX8_isWire 15 = .ok (.ireturn, 1) := by decide +kernel
theorem dX8_wire_0 : decode cX8_wire 0 = .ok (.aload_n 0, 1) := by decide +kernel
theorem dX8_wire_1 : decode cX8_wire 1 = .ok (.aload_n 0, 1) := by decide +kernel
theorem dX8_wire_2 : decode cX8_wire 2 = .ok (.iload_n 1, 1) := by decide +kernel
theorem dX8_wire_3 : decode cX8_wire 3 = .ok (.invokevirtual 242, 3) := by decide +kernel
theorem dX8_wire_6 : decode cX8_wire 6 = .ok (.ifCond .ne 7, 3) := by decide +kernel
theorem dX8_wire_9 : decode cX8_wire 9 = .ok (.iconst 1, 1) := by decide +kernel
theorem dX8_wire_10 : decode cX8_wire 10 = .ok (.goto 20, 3) := by decide +kernel
theorem dX8_wire_13 : decode cX8_wire 13 = .ok (.iload_n 2, 1) := by decide +kernel
theorem dX8_wire_14 : decode cX8_wire 14 = .ok (.i2l, 1) := by decide +kernel
theorem dX8_wire_15 : decode cX8_wire 15 = .ok (.lconst 0, 1) := by decide +kernel
theorem dX8_wire_16 : decode cX8_wire 16 = .ok (.ldc2_w 245, 3) := by decide +kernel
theorem dX8_wire_19 : decode cX8_wire 19 = .ok (.invokestatic 146, 3) := by decide +kernel
theorem dX8_wire_22 : decode cX8_wire 22 = .ok (.ifCond .eq 7, 3) := by decide +kernel
theorem dX8_wire_25 : decode cX8_wire 25 = .ok (.iconst 0, 1) := by decide +kernel
theorem dX8_wire_26 : decode cX8_wire 26 = .ok (.goto 4, 3) := by decide +kernel
theorem dX8_wire_29 : decode cX8_wire 29 = .ok (.iconst 2, 1) := by decide +kernel
theorem dX8_wire_30 : decode cX8_wire 30 = .ok (.invokevirtual 153, 3) := by decide +kernel
theorem dX8_wire_33 : decode cX8_wire 33 = .ok (.ifCond .eq 7, 3) := by decide +kernel
theorem dX8_wire_36 : decode cX8_wire 36 = .ok (.iconst 0, 1) := by decide +kernel
theorem dX8_wire_37 : decode cX8_wire 37 = .ok (.goto 13, 3) := by decide +kernel
theorem dX8_wire_40 : decode cX8_wire 40 = .ok (.aload_n 0, 1) := by decide +kernel
theorem dX8_wire_41 : decode cX8_wire 41 = .ok (.getfield 16, 3) := by decide +kernel
theorem dX8_wire_44 : decode cX8_wire 44 = .ok (.iload_n 1, 1) := by decide +kernel
theorem dX8_wire_45 : decode cX8_wire 45 = .ok (.iload_n 2, 1) := by decide +kernel
theorem dX8_wire_46 : decode cX8_wire 46 = .ok (.invokestatic 73, 3) := by decide +kernel
theorem dX8_wire_49 : decode cX8_wire 49 = .ok (.iaload, 1) := by decide +kernel
theorem dX8_wire_50 : decode cX8_wire 50 = .ok (.ireturn, 1) := by decide +kernel
theorem dX8_between_0 : decode cX8_between 0 = .ok (.aload_n 0, 1) := by decide +kernel
theorem dX8_between_1 : decode cX8_between 1 = .ok (.aload_n 0, 1) := by decide +kernel
theorem dX8_between_2 : decode cX8_between 2 = .ok (.iload_n 1, 1) := by decide +kernel
theorem dX8_between_3 : decode cX8_between 3 = .ok (.invokevirtual 234, 3) := by decide +kernel
theorem dX8_between_6 : decode cX8_between 6 = .ok (.ifCond .eq 15, 3) := by decide +kernel
theorem dX8_between_9 : decode cX8_between 9 = .ok (.aload_n 0, 1) := by decide +kernel
theorem dX8_between_10 : decode cX8_between 10 = .ok (.iload_n 2, 1) := by decide +kernel
theorem dX8_between_11 : decode cX8_between 11 = .ok (.invokevirtual 234, 3) := by decide +kernel
theorem dX8_between_14 : decode cX8_between 14 = .ok (.ifCond .eq 7, 3) := by decide +kernel
theorem dX8_between_17 : decode cX8_between 17 = .ok (.iconst 0, 1) := by decide +kernel
theorem dX8_between_18 : decode cX8_between 18 = .ok (.goto 4, 3) := by decide +kernel
theorem dX8_between_21 : decode cX8_between 21 = .ok (.iconst 1, 1) := by decide +kernel
theorem dX8_between_22 : decode cX8_between 22 = .ok (.invokevirtual 153, 3) := by decide +kernel
theorem dX8_between_25 : decode cX8_between 25 = .ok (.ifCond .eq 5, 3) := by decide +kernel
theorem dX8_between_28 : decode cX8_between 28 = .ok (.iconst 0, 1) := by decide +kernel
theorem dX8_between_29 : decode cX8_between 29 = .ok (.ireturn, 1) := by decide +kernel
theorem dX8_between_30 : decode cX8_between 30 = .ok (.aload_n 0, 1) := by decide +kernel
theorem dX8_between_31 : decode cX8_between 31 = .ok (.aload_n 0, 1) := by decide +kernel
theorem dX8_between_32 : decode cX8_between 32 = .ok (.getfield 16, 3) := by decide +kernel
theorem dX8_between_35 : decode cX8_between 35 = .ok (.sipush 999, 3) := by decide +kernel
theorem dX8_between_38 : decode cX8_between 38 = .ok (.invokevirtual 81, 3) := by decide +kernel
theorem dX8_between_41 : decode cX8_between 41 = .ok (.aload_n 0, 1) := by decide +kernel
theorem dX8_between_42 : decode cX8_between 42 = .ok (.getfield 54, 3) := by decide +kernel
theorem dX8_between_45 : decode cX8_between 45 = .ok (.bipush 8, 2) := by decide +kernel
theorem dX8_between_47 : decode cX8_between 47 = .ok (.iload_n 1, 1) := by decide +kernel
theorem dX8_between_48 : decode cX8_between 48 = .ok (.imul, 1) := by decide +kernel
theorem dX8_between_49 : decode cX8_between 49 = .ok (.iload_n 2, 1) := by decide +kernel
theorem dX8_between_50 : decode cX8_between 50 = .ok (.iadd, 1) := by decide +kernel
theorem dX8_between_51 : decode cX8_between 51 = .ok (.iaload, 1) := by decide +kernel
theorem dX8_between_52 : decode cX8_between 52 = .ok (.ldc 80, 2) := by decide +kernel
theorem dX8_between_54 : decode cX8_between 54 = .ok (.if_icmp .ge 17, 3) := by decide +kernel
theorem dX8_between_57 : decode cX8_between 57 = .ok (.aload_n 0, 1) := by decide +kernel
theorem dX8_between_58 : decode cX8_between 58 = .ok (.getfield 54, 3) := by decide +kernel
theorem dX8_between_61 : decode cX8_between 61 = .ok (.bipush 8, 2) := by decide +kernel
theorem dX8_between_63 : decode cX8_between 63 = .ok (.iload_n 1, 1) := by decide +kernel
theorem dX8_between_64 : decode cX8_between 64 = .ok (.imul, 1) := by decide +kernel
theorem dX8_between_65 : decode cX8_between 65 = .ok (.iload_n 2, 1) := by decide +kernel
theorem dX8_between_66 : decode cX8_between 66 = .ok (.iadd, 1) := by decide +kernel
theorem dX8_between_67 : decode cX8_between 67 = .ok (.iaload, 1) := by decide +kernel
theorem dX8_between_68 : decode cX8_between 68 = .ok (.goto 4, 3) := by decide +kernel
theorem dX8_between_71 : decode cX8_between 71 = .ok (.iconst (-1), 1) := by decide +kernel
theorem dX8_between_72 : decode cX8_between 72 = .ok (.ireturn, 1) := by decide +kernel
theorem dX8_isKind_0 : decode cX8_isKind 0 = .ok (.iload_n 0, 1) := by decide +kernel
theorem dX8_isKind_1 : decode cX8_isKind 1 = .ok (.i2l, 1) := by decide +kernel
theorem dX8_isKind_2 : decode cX8_isKind 2 = .ok (.lconst 0, 1) := by decide +kernel
theorem dX8_isKind_3 : decode cX8_isKind 3 = .ok (.ldc2_w 247, 3) := by decide +kernel
theorem dX8_isKind_6 : decode cX8_isKind 6 = .ok (.invokestatic 146, 3) := by decide +kernel
theorem dX8_isKind_9 : decode cX8_isKind 9 = .ok (.ireturn, 1) := by decide +kernel
theorem dX8_addModule_0 : decode cX8_addModule 0 = .ok (.iload_n 1, 1) := by decide +kernel
theorem dX8_addModule_1 : decode cX8_addModule 1 = .ok (.invokestatic 249, 3) := by decide +kernel
theorem dX8_addModule_4 : decode cX8_addModule 4 = .ok (.ifCond .eq 14, 3) := by decide +kernel
theorem dX8_addModule_7 : decode cX8_addModule 7 = .ok (.iload_n 2, 1) := by decide +kernel
theorem dX8_addModule_8 : decode cX8_addModule 8 = .ok (.invokestatic 249, 3) := by decide +kernel
theorem dX8_addModule_11 : decode cX8_addModule 11 = .ok (.ifCond .eq 7, 3) := by decide +kernel
theorem dX8_addModule_14 : decode cX8_addModule 14 = .ok (.iconst 1, 1) := by decide +kernel
theorem dX8_addModule_15 : decode cX8_addModule 15 = .ok (.goto 4, 3) := by decide +kernel
theorem dX8_addModule_18 : decode cX8_addModule 18 = .ok (.iconst 0, 1) := by decide +kernel
theorem dX8_addModule_19 : decode cX8_addModule 19 = .ok (.istore_n 3, 1) := by decide +kernel
theorem dX8_addModule_20 : decode cX8_addModule 20 = .ok (.aload_n 0, 1) := by decide +kernel
theorem dX8_addModule_21 : decode cX8_addModule 21 = .ok (.iload_n 3, 1) := by decide +kernel
theorem dX8_addModule_22 : decode cX8_addModule 22 = .ok (.ifCond .ne 7, 3) := by decide +kernel
theorem dX8_addModule_25 : decode cX8_addModule 25 = .ok (.iconst 1, 1) := by decide +kernel
theorem dX8_addModule_26 : decode cX8_addModule 26 = .ok (.goto 19, 3) := by decide +kernel
theorem dX8_addModule_29 : decode cX8_addModule 29 = .ok (.aload_n 0, 1) := by decide +kernel
theorem dX8_addModule_30 : decode cX8_addModule 30 = .ok (.getfield 16, 3) := by decide +kernel
theorem dX8_addModule_33 : decode cX8_addModule 33 = .ok (.iconst 0, 1) := by decide +kernel
theorem dX8_addModule_34 : decode cX8_addModule 34 = .ok (.iaload, 1) := by decide +kernel
theorem dX8_addModule_35 : decode cX8_addModule 35 = .ok (.bipush 8, 2) := by decide +kernel
theorem dX8_addModule_37 : decode cX8_addModule 37 = .ok (.if_icmp .ne 7, 3) := by decide +kernel
theorem dX8_addModule_40 : decode cX8_addModule 40 = .ok (.iconst 2, 1) := by decide +kernel
theorem dX8_addModule_41 : decode cX8_addModule 41 = .ok (.goto 4, 3) := by decide +kernel
theorem dX8_addModule_44 : decode cX8_addModule 44 = .ok (.iconst 0, 1) := by decide +kernel
theorem dX8_addModule_45 : decode cX8_addModule 45 = .ok (.invokevirtual 153, 3) := by decide +kernel
theorem dX8_addModule_48 : decode cX8_addModule 48 = .ok (.ifCond .eq 5, 3) := by decide +kernel
theorem dX8_addModule_51 : decode cX8_addModule 51 = .ok (.iconst 0, 1) := by decide +kernel
theorem dX8_addModule_52 : decode cX8_addModule 52 = .ok (.ireturn, 1) := by decide +kernel
theorem dX8_addModule_53 : decode cX8_addModule 53 = .ok (.aload_n 0, 1) := by decide +kernel
theorem dX8_addModule_54 : decode cX8_addModule 54 = .ok (.invokevirtual 252, 3) := by decide +kernel
theorem dX8_addModule_57 : decode cX8_addModule 57 = .ok (.aload_n 0, 1) := by decide +kernel
theorem dX8_addModule_58 : decode cX8_addModule 58 = .ok (.getfield 16, 3) := by decide +kernel
theorem dX8_addModule_61 : decode cX8_addModule 61 = .ok (.iload_n 1, 1) := by decide +kernel
theorem dX8_addModule_62 : decode cX8_addModule 62 = .ok (.iload_n 2, 1) := by decide +kernel
theorem dX8_addModule_63 : decode cX8_addModule 63 = .ok (.invokestatic 179, 3) := by decide +kernel
theorem dX8_addModule_66 : decode cX8_addModule 66 = .ok (.aload_n 0, 1) := by decide +kernel
theorem dX8_addModule_67 : decode cX8_addModule 67 = .ok (.getfield 16, 3) := by decide +kernel
theorem dX8_addModule_70 : decode cX8_addModule 70 = .ok (.iconst 0, 1) := by decide +kernel
theorem dX8_addModule_71 : decode cX8_addModule 71 = .ok (.iaload, 1) := by decide +kernel
theorem dX8_addModule_72 : decode cX8_addModule 72 = .ok (.iconst 1, 1) := by decide +kernel
theorem dX8_addModule_73 : decode cX8_addModule 73 = .ok (.isub, 1) := by decide +kernel
theorem dX8_addModule_74 : decode cX8_addModule 74 = .ok (.ireturn, 1) := by decide +kernel
theorem dX8_isRate_0 : decode cX8_isRate 0 = .ok (.iload_n 0, 1) := by decide +kernel
theorem dX8_isRate_1 : decode cX8_isRate 1 = .ok (.i2l, 1) := by decide +kernel
theorem dX8_isRate_2 : decode cX8_isRate 2 = .ok (.lconst 1, 1) := by decide +kernel
theorem dX8_isRate_3 : decode cX8_isRate 3 = .ok (.ldc2_w 255, 3) := by decide +kernel
theorem dX8_isRate_6 : decode cX8_isRate 6 = .ok (.invokestatic 146, 3) := by decide +kernel
theorem dX8_isRate_9 : decode cX8_isRate 9 = .ok (.ireturn, 1) := by decide +kernel
theorem dX8_isMarks_0 : decode cX8_isMarks 0 = .ok (.iload_n 0, 1) := by decide +kernel
theorem dX8_isMarks_1 : decode cX8_isMarks 1 = .ok (.i2l, 1) := by decide +kernel
theorem dX8_isMarks_2 : decode cX8_isMarks 2 = .ok (.lconst 0, 1) := by decide +kernel
theorem dX8_isMarks_3 : decode cX8_isMarks 3 = .ok (.ldc2_w 257, 3) := by decide +kernel
theorem dX8_isMarks_6 : decode cX8_isMarks 6 = .ok (.invokestatic 146, 3) := by decide +kernel
theorem dX8_isMarks_9 : decode cX8_isMarks 9 = .ok (.ireturn, 1) := by decide +kernel
theorem dX8_lay_0 : decode cX8_lay 0 = .ok (.aload_n 0, 1) := by decide +kernel
theorem dX8_lay_1 : decode cX8_lay 1 = .ok (.iload_n 1, 1) := by decide +kernel
theorem dX8_lay_2 : decode cX8_lay 2 = .ok (.invokevirtual 234, 3) := by decide +kernel
theorem dX8_lay_5 : decode cX8_lay 5 = .ok (.ifCond .eq 15, 3) := by decide +kernel
theorem dX8_lay_8 : decode cX8_lay 8 = .ok (.aload_n 0, 1) := by decide +kernel
theorem dX8_lay_9 : decode cX8_lay 9 = .ok (.iload_n 2, 1) := by decide +kernel
theorem dX8_lay_10 : decode cX8_lay 10 = .ok (.invokevirtual 234, 3) := by decide +kernel
theorem dX8_lay_13 : decode cX8_lay 13 = .ok (.ifCond .eq 7, 3) := by decide +kernel
theorem dX8_lay_16 : decode cX8_lay 16 = .ok (.iconst 1, 1) := by decide +kernel
theorem dX8_lay_17 : decode cX8_lay 17 = .ok (.goto 4, 3) := by decide +kernel
theorem dX8_lay_20 : decode cX8_lay 20 = .ok (.iconst 0, 1) := by decide +kernel
theorem dX8_lay_21 : decode cX8_lay 21 = .ok (.istore 6, 2) := by decide +kernel
theorem dX8_lay_23 : decode cX8_lay 23 = .ok (.iload_n 3, 1) := by decide +kernel
theorem dX8_lay_24 : decode cX8_lay 24 = .ok (.invokestatic 259, 3) := by decide +kernel
theorem dX8_lay_27 : decode cX8_lay 27 = .ok (.ifCond .eq 23, 3) := by decide +kernel
theorem dX8_lay_30 : decode cX8_lay 30 = .ok (.iload 4, 2) := by decide +kernel
theorem dX8_lay_32 : decode cX8_lay 32 = .ok (.invokestatic 259, 3) := by decide +kernel
theorem dX8_lay_35 : decode cX8_lay 35 = .ok (.ifCond .eq 15, 3) := by decide +kernel
theorem dX8_lay_38 : decode cX8_lay 38 = .ok (.iload 5, 2) := by decide +kernel
theorem dX8_lay_40 : decode cX8_lay 40 = .ok (.invokestatic 262, 3) := by decide +kernel
theorem dX8_lay_43 : decode cX8_lay 43 = .ok (.ifCond .eq 7, 3) := by decide +kernel
theorem dX8_lay_46 : decode cX8_lay 46 = .ok (.iconst 1, 1) := by decide +kernel
theorem dX8_lay_47 : decode cX8_lay 47 = .ok (.goto 4, 3) := by decide +kernel
theorem dX8_lay_50 : decode cX8_lay 50 = .ok (.iconst 0, 1) := by decide +kernel
theorem dX8_lay_51 : decode cX8_lay 51 = .ok (.istore 7, 2) := by decide +kernel
theorem dX8_lay_53 : decode cX8_lay 53 = .ok (.aload_n 0, 1) := by decide +kernel
theorem dX8_lay_54 : decode cX8_lay 54 = .ok (.iload 6, 2) := by decide +kernel
theorem dX8_lay_56 : decode cX8_lay 56 = .ok (.ifCond .ne 7, 3) := by decide +kernel
theorem dX8_lay_59 : decode cX8_lay 59 = .ok (.iconst 1, 1) := by decide +kernel
theorem dX8_lay_60 : decode cX8_lay 60 = .ok (.goto 32, 3) := by decide +kernel
theorem dX8_lay_63 : decode cX8_lay 63 = .ok (.iload 7, 2) := by decide +kernel
theorem dX8_lay_65 : decode cX8_lay 65 = .ok (.ifCond .ne 7, 3) := by decide +kernel
theorem dX8_lay_68 : decode cX8_lay 68 = .ok (.iconst 2, 1) := by decide +kernel
theorem dX8_lay_69 : decode cX8_lay 69 = .ok (.goto 23, 3) := by decide +kernel
theorem dX8_lay_72 : decode cX8_lay 72 = .ok (.aload_n 0, 1) := by decide +kernel
theorem dX8_lay_73 : decode cX8_lay 73 = .ok (.aload_n 0, 1) := by decide +kernel
theorem dX8_lay_74 : decode cX8_lay 74 = .ok (.getfield 16, 3) := by decide +kernel
theorem dX8_lay_77 : decode cX8_lay 77 = .ok (.iload_n 1, 1) := by decide +kernel
theorem dX8_lay_78 : decode cX8_lay 78 = .ok (.iload_n 2, 1) := by decide +kernel
theorem dX8_lay_79 : decode cX8_lay 79 = .ok (.iload 5, 2) := by decide +kernel
theorem dX8_lay_81 : decode cX8_lay 81 = .ok (.invokevirtual 183, 3) := by decide +kernel
theorem dX8_lay_84 : decode cX8_lay 84 = .ok (.ifCond .eq 7, 3) := by decide +kernel
theorem dX8_lay_87 : decode cX8_lay 87 = .ok (.iconst 0, 1) := by decide +kernel
theorem dX8_lay_88 : decode cX8_lay 88 = .ok (.goto 4, 3) := by decide +kernel
theorem dX8_lay_91 : decode cX8_lay 91 = .ok (.iconst 3, 1) := by decide +kernel
theorem dX8_lay_92 : decode cX8_lay 92 = .ok (.invokevirtual 153, 3) := by decide +kernel
theorem dX8_lay_95 : decode cX8_lay 95 = .ok (.ifCond .eq 5, 3) := by decide +kernel
theorem dX8_lay_98 : decode cX8_lay 98 = .ok (.iconst 0, 1) := by decide +kernel
theorem dX8_lay_99 : decode cX8_lay 99 = .ok (.ireturn, 1) := by decide +kernel
theorem dX8_lay_100 : decode cX8_lay 100 = .ok (.aload_n 0, 1) := by decide +kernel
theorem dX8_lay_101 : decode cX8_lay 101 = .ok (.invokevirtual 252, 3) := by decide +kernel
theorem dX8_lay_104 : decode cX8_lay 104 = .ok (.aload_n 0, 1) := by decide +kernel
theorem dX8_lay_105 : decode cX8_lay 105 = .ok (.getfield 16, 3) := by decide +kernel
theorem dX8_lay_108 : decode cX8_lay 108 = .ok (.iload_n 1, 1) := by decide +kernel
theorem dX8_lay_109 : decode cX8_lay 109 = .ok (.iload_n 2, 1) := by decide +kernel
theorem dX8_lay_110 : decode cX8_lay 110 = .ok (.iload_n 3, 1) := by decide +kernel
theorem dX8_lay_111 : decode cX8_lay 111 = .ok (.iload 4, 2) := by decide +kernel
theorem dX8_lay_113 : decode cX8_lay 113 = .ok (.iload 5, 2) := by decide +kernel
theorem dX8_lay_115 : decode cX8_lay 115 = .ok (.invokestatic 187, 3) := by decide +kernel
theorem dX8_lay_118 : decode cX8_lay 118 = .ok (.aload_n 0, 1) := by decide +kernel
theorem dX8_lay_119 : decode cX8_lay 119 = .ok (.getfield 16, 3) := by decide +kernel
theorem dX8_lay_122 : decode cX8_lay 122 = .ok (.iconst 1, 1) := by decide +kernel
theorem dX8_lay_123 : decode cX8_lay 123 = .ok (.iaload, 1) := by decide +kernel
theorem dX8_lay_124 : decode cX8_lay 124 = .ok (.iconst 1, 1) := by decide +kernel
theorem dX8_lay_125 : decode cX8_lay 125 = .ok (.isub, 1) := by decide +kernel
theorem dX8_lay_126 : decode cX8_lay 126 = .ok (.ireturn, 1) := by decide +kernel
theorem dX8_cut_0 : decode cX8_cut 0 = .ok (.aload_n 0, 1) := by decide +kernel
theorem dX8_cut_1 : decode cX8_cut 1 = .ok (.aload_n 0, 1) := by decide +kernel
theorem dX8_cut_2 : decode cX8_cut 2 = .ok (.iload_n 1, 1) := by decide +kernel
theorem dX8_cut_3 : decode cX8_cut 3 = .ok (.invokevirtual 242, 3) := by decide +kernel
theorem dX8_cut_6 : decode cX8_cut 6 = .ok (.ifCond .eq 7, 3) := by decide +kernel
theorem dX8_cut_9 : decode cX8_cut 9 = .ok (.iconst 0, 1) := by decide +kernel
theorem dX8_cut_10 : decode cX8_cut 10 = .ok (.goto 4, 3) := by decide +kernel
theorem dX8_cut_13 : decode cX8_cut 13 = .ok (.iconst 1, 1) := by decide +kernel
theorem dX8_cut_14 : decode cX8_cut 14 = .ok (.invokevirtual 153, 3) := by decide +kernel
theorem dX8_cut_17 : decode cX8_cut 17 = .ok (.ifCond .eq 5, 3) := by decide +kernel
theorem dX8_cut_20 : decode cX8_cut 20 = .ok (.iconst 0, 1) := by decide +kernel
theorem dX8_cut_21 : decode cX8_cut 21 = .ok (.ireturn, 1) := by decide +kernel
theorem dX8_cut_22 : decode cX8_cut 22 = .ok (.aload_n 0, 1) := by decide +kernel
theorem dX8_cut_23 : decode cX8_cut 23 = .ok (.invokevirtual 252, 3) := by decide +kernel
theorem dX8_cut_26 : decode cX8_cut 26 = .ok (.aload_n 0, 1) := by decide +kernel
theorem dX8_cut_27 : decode cX8_cut 27 = .ok (.getfield 16, 3) := by decide +kernel
theorem dX8_cut_30 : decode cX8_cut 30 = .ok (.iload_n 1, 1) := by decide +kernel
theorem dX8_cut_31 : decode cX8_cut 31 = .ok (.iconst 4, 1) := by decide +kernel
theorem dX8_cut_32 : decode cX8_cut 32 = .ok (.invokestatic 73, 3) := by decide +kernel
theorem dX8_cut_35 : decode cX8_cut 35 = .ok (.iaload, 1) := by decide +kernel
theorem dX8_cut_36 : decode cX8_cut 36 = .ok (.istore_n 2, 1) := by decide +kernel
theorem dX8_cut_37 : decode cX8_cut 37 = .ok (.aload_n 0, 1) := by decide +kernel
theorem dX8_cut_38 : decode cX8_cut 38 = .ok (.getfield 16, 3) := by decide +kernel
theorem dX8_cut_41 : decode cX8_cut 41 = .ok (.iload_n 1, 1) := by decide +kernel
theorem dX8_cut_42 : decode cX8_cut 42 = .ok (.invokestatic 191, 3) := by decide +kernel
theorem dX8_cut_45 : decode cX8_cut 45 = .ok (.iload_n 2, 1) := by decide +kernel
theorem dX8_cut_46 : decode cX8_cut 46 = .ok (.ireturn, 1) := by decide +kernel
theorem dX8_put_0 : decode cX8_put 0 = .ok (.aload_n 0, 1) := by decide +kernel
theorem dX8_put_1 : decode cX8_put 1 = .ok (.aload_n 0, 1) := by decide +kernel
theorem dX8_put_2 : decode cX8_put 2 = .ok (.iload_n 1, 1) := by decide +kernel
theorem dX8_put_3 : decode cX8_put 3 = .ok (.invokevirtual 242, 3) := by decide +kernel
theorem dX8_put_6 : decode cX8_put 6 = .ok (.ifCond .ne 7, 3) := by decide +kernel
theorem dX8_put_9 : decode cX8_put 9 = .ok (.iconst 1, 1) := by decide +kernel
theorem dX8_put_10 : decode cX8_put 10 = .ok (.goto 32, 3) := by decide +kernel
theorem dX8_put_13 : decode cX8_put 13 = .ok (.iload_n 2, 1) := by decide +kernel
theorem dX8_put_14 : decode cX8_put 14 = .ok (.invokestatic 262, 3) := by decide +kernel
theorem dX8_put_17 : decode cX8_put 17 = .ok (.ifCond .ne 7, 3) := by decide +kernel
theorem dX8_put_20 : decode cX8_put 20 = .ok (.iconst 2, 1) := by decide +kernel
theorem dX8_put_21 : decode cX8_put 21 = .ok (.goto 21, 3) := by decide +kernel
theorem dX8_put_24 : decode cX8_put 24 = .ok (.aload_n 0, 1) := by decide +kernel
theorem dX8_put_25 : decode cX8_put 25 = .ok (.aload_n 0, 1) := by decide +kernel
theorem dX8_put_26 : decode cX8_put 26 = .ok (.getfield 16, 3) := by decide +kernel
theorem dX8_put_29 : decode cX8_put 29 = .ok (.iload_n 1, 1) := by decide +kernel
theorem dX8_put_30 : decode cX8_put 30 = .ok (.iload_n 2, 1) := by decide +kernel
theorem dX8_put_31 : decode cX8_put 31 = .ok (.invokevirtual 265, 3) := by decide +kernel
theorem dX8_put_34 : decode cX8_put 34 = .ok (.ifCond .eq 7, 3) := by decide +kernel
theorem dX8_put_37 : decode cX8_put 37 = .ok (.iconst 0, 1) := by decide +kernel
theorem dX8_put_38 : decode cX8_put 38 = .ok (.goto 4, 3) := by decide +kernel
theorem dX8_put_41 : decode cX8_put 41 = .ok (.iconst 3, 1) := by decide +kernel
theorem dX8_put_42 : decode cX8_put 42 = .ok (.invokevirtual 153, 3) := by decide +kernel
theorem dX8_put_45 : decode cX8_put 45 = .ok (.ifCond .eq 5, 3) := by decide +kernel
theorem dX8_put_48 : decode cX8_put 48 = .ok (.iconst 0, 1) := by decide +kernel
theorem dX8_put_49 : decode cX8_put 49 = .ok (.ireturn, 1) := by decide +kernel
theorem dX8_put_50 : decode cX8_put 50 = .ok (.aload_n 0, 1) := by decide +kernel
theorem dX8_put_51 : decode cX8_put 51 = .ok (.invokevirtual 252, 3) := by decide +kernel
theorem dX8_put_54 : decode cX8_put 54 = .ok (.aload_n 0, 1) := by decide +kernel
theorem dX8_put_55 : decode cX8_put 55 = .ok (.getfield 16, 3) := by decide +kernel
theorem dX8_put_58 : decode cX8_put 58 = .ok (.iload_n 1, 1) := by decide +kernel
theorem dX8_put_59 : decode cX8_put 59 = .ok (.iconst 4, 1) := by decide +kernel
theorem dX8_put_60 : decode cX8_put 60 = .ok (.invokestatic 73, 3) := by decide +kernel
theorem dX8_put_63 : decode cX8_put 63 = .ok (.iaload, 1) := by decide +kernel
theorem dX8_put_64 : decode cX8_put 64 = .ok (.istore_n 3, 1) := by decide +kernel
theorem dX8_put_65 : decode cX8_put 65 = .ok (.aload_n 0, 1) := by decide +kernel
theorem dX8_put_66 : decode cX8_put 66 = .ok (.getfield 16, 3) := by decide +kernel
theorem dX8_put_69 : decode cX8_put 69 = .ok (.iload_n 1, 1) := by decide +kernel
theorem dX8_put_70 : decode cX8_put 70 = .ok (.iconst 4, 1) := by decide +kernel
theorem dX8_put_71 : decode cX8_put 71 = .ok (.invokestatic 73, 3) := by decide +kernel
theorem dX8_put_74 : decode cX8_put 74 = .ok (.iload_n 2, 1) := by decide +kernel
theorem dX8_put_75 : decode cX8_put 75 = .ok (.iastore, 1) := by decide +kernel
theorem dX8_put_76 : decode cX8_put 76 = .ok (.iload_n 3, 1) := by decide +kernel
theorem dX8_put_77 : decode cX8_put 77 = .ok (.ireturn, 1) := by decide +kernel
theorem dX8_work_0 : decode cX8_work 0 = .ok (.aload_n 0, 1) := by decide +kernel
theorem dX8_work_1 : decode cX8_work 1 = .ok (.aload_n 0, 1) := by decide +kernel
theorem dX8_work_2 : decode cX8_work 2 = .ok (.iload_n 1, 1) := by decide +kernel
theorem dX8_work_3 : decode cX8_work 3 = .ok (.invokevirtual 234, 3) := by decide +kernel
theorem dX8_work_6 : decode cX8_work 6 = .ok (.ifCond .ne 7, 3) := by decide +kernel
theorem dX8_work_9 : decode cX8_work 9 = .ok (.iconst 1, 1) := by decide +kernel
theorem dX8_work_10 : decode cX8_work 10 = .ok (.goto 19, 3) := by decide +kernel
theorem dX8_work_13 : decode cX8_work 13 = .ok (.aload_n 0, 1) := by decide +kernel
theorem dX8_work_14 : decode cX8_work 14 = .ok (.getfield 16, 3) := by decide +kernel
theorem dX8_work_17 : decode cX8_work 17 = .ok (.iload_n 1, 1) := by decide +kernel
theorem dX8_work_18 : decode cX8_work 18 = .ok (.invokestatic 106, 3) := by decide +kernel
theorem dX8_work_21 : decode cX8_work 21 = .ok (.ifCond .eq 7, 3) := by decide +kernel
theorem dX8_work_24 : decode cX8_work 24 = .ok (.iconst 0, 1) := by decide +kernel
theorem dX8_work_25 : decode cX8_work 25 = .ok (.goto 4, 3) := by decide +kernel
theorem dX8_work_28 : decode cX8_work 28 = .ok (.iconst 2, 1) := by decide +kernel
theorem dX8_work_29 : decode cX8_work 29 = .ok (.invokevirtual 153, 3) := by decide +kernel
theorem dX8_work_32 : decode cX8_work 32 = .ok (.ifCond .eq 5, 3) := by decide +kernel
theorem dX8_work_35 : decode cX8_work 35 = .ok (.iconst 0, 1) := by decide +kernel
theorem dX8_work_36 : decode cX8_work 36 = .ok (.ireturn, 1) := by decide +kernel
theorem dX8_work_37 : decode cX8_work 37 = .ok (.aload_n 0, 1) := by decide +kernel
theorem dX8_work_38 : decode cX8_work 38 = .ok (.invokevirtual 252, 3) := by decide +kernel
theorem dX8_work_41 : decode cX8_work 41 = .ok (.aload_n 0, 1) := by decide +kernel
theorem dX8_work_42 : decode cX8_work 42 = .ok (.getfield 16, 3) := by decide +kernel
theorem dX8_work_45 : decode cX8_work 45 = .ok (.iload_n 1, 1) := by decide +kernel
theorem dX8_work_46 : decode cX8_work 46 = .ok (.invokestatic 124, 3) := by decide +kernel
theorem dX8_work_49 : decode cX8_work 49 = .ok (.aload_n 0, 1) := by decide +kernel
theorem dX8_work_50 : decode cX8_work 50 = .ok (.getfield 16, 3) := by decide +kernel
theorem dX8_work_53 : decode cX8_work 53 = .ok (.invokestatic 218, 3) := by decide +kernel
theorem dX8_work_56 : decode cX8_work 56 = .ok (.ireturn, 1) := by decide +kernel
theorem dX8_isRule_0 : decode cX8_isRule 0 = .ok (.iload_n 0, 1) := by decide +kernel
theorem dX8_isRule_1 : decode cX8_isRule 1 = .ok (.i2l, 1) := by decide +kernel
theorem dX8_isRule_2 : decode cX8_isRule 2 = .ok (.lconst 0, 1) := by decide +kernel
theorem dX8_isRule_3 : decode cX8_isRule 3 = .ok (.ldc2_w 268, 3) := by decide +kernel
theorem dX8_isRule_6 : decode cX8_isRule 6 = .ok (.invokestatic 146, 3) := by decide +kernel
theorem dX8_isRule_9 : decode cX8_isRule 9 = .ok (.ireturn, 1) := by decide +kernel
theorem dX8_round_0 : decode cX8_round 0 = .ok (.iload_n 1, 1) := by decide +kernel
theorem dX8_round_1 : decode cX8_round 1 = .ok (.invokestatic 270, 3) := by decide +kernel
theorem dX8_round_4 : decode cX8_round 4 = .ok (.istore_n 2, 1) := by decide +kernel
theorem dX8_round_5 : decode cX8_round 5 = .ok (.aload_n 0, 1) := by decide +kernel
theorem dX8_round_6 : decode cX8_round 6 = .ok (.iload_n 2, 1) := by decide +kernel
theorem dX8_round_7 : decode cX8_round 7 = .ok (.ifCond .ne 7, 3) := by decide +kernel
theorem dX8_round_10 : decode cX8_round 10 = .ok (.iconst 1, 1) := by decide +kernel
theorem dX8_round_11 : decode cX8_round 11 = .ok (.goto 23, 3) := by decide +kernel
theorem dX8_round_14 : decode cX8_round 14 = .ok (.aload_n 0, 1) := by decide +kernel
theorem dX8_round_15 : decode cX8_round 15 = .ok (.iload_n 1, 1) := by decide +kernel
theorem dX8_round_16 : decode cX8_round 16 = .ok (.invokevirtual 273, 3) := by decide +kernel
theorem dX8_round_19 : decode cX8_round 19 = .ok (.ifCond .eq 14, 3) := by decide +kernel
theorem dX8_round_22 : decode cX8_round 22 = .ok (.aload_n 0, 1) := by decide +kernel
theorem dX8_round_23 : decode cX8_round 23 = .ok (.getfield 127, 3) := by decide +kernel
theorem dX8_round_26 : decode cX8_round 26 = .ok (.ifCond .eq 7, 3) := by decide +kernel
theorem dX8_round_29 : decode cX8_round 29 = .ok (.iconst 0, 1) := by decide +kernel
theorem dX8_round_30 : decode cX8_round 30 = .ok (.goto 4, 3) := by decide +kernel
theorem dX8_round_33 : decode cX8_round 33 = .ok (.iconst 2, 1) := by decide +kernel
theorem dX8_round_34 : decode cX8_round 34 = .ok (.invokevirtual 153, 3) := by decide +kernel
theorem dX8_round_37 : decode cX8_round 37 = .ok (.ifCond .eq 5, 3) := by decide +kernel
theorem dX8_round_40 : decode cX8_round 40 = .ok (.iconst 0, 1) := by decide +kernel
theorem dX8_round_41 : decode cX8_round 41 = .ok (.ireturn, 1) := by decide +kernel
theorem dX8_round_42 : decode cX8_round 42 = .ok (.aload_n 0, 1) := by decide +kernel
theorem dX8_round_43 : decode cX8_round 43 = .ok (.invokevirtual 252, 3) := by decide +kernel
theorem dX8_round_46 : decode cX8_round 46 = .ok (.aload_n 0, 1) := by decide +kernel
theorem dX8_round_47 : decode cX8_round 47 = .ok (.getfield 19, 3) := by decide +kernel
theorem dX8_round_50 : decode cX8_round 50 = .ok (.iconst 0, 1) := by decide +kernel
theorem dX8_round_51 : decode cX8_round 51 = .ok (.aload_n 0, 1) := by decide +kernel
theorem dX8_round_52 : decode cX8_round 52 = .ok (.getfield 16, 3) := by decide +kernel
theorem dX8_round_55 : decode cX8_round 55 = .ok (.iconst 0, 1) := by decide +kernel
theorem dX8_round_56 : decode cX8_round 56 = .ok (.bipush 96, 2) := by decide +kernel
theorem dX8_round_58 : decode cX8_round 58 = .ok (.invokestatic 69, 3) := by decide +kernel
theorem dX8_round_61 : decode cX8_round 61 = .ok (.aload_n 0, 1) := by decide +kernel
theorem dX8_round_62 : decode cX8_round 62 = .ok (.getfield 114, 3) := by decide +kernel
theorem dX8_round_65 : decode cX8_round 65 = .ok (.ireturn, 1) := by decide +kernel
theorem dX8_undo_0 : decode cX8_undo 0 = .ok (.aload_n 0, 1) := by decide +kernel
theorem dX8_undo_1 : decode cX8_undo 1 = .ok (.aload_n 0, 1) := by decide +kernel
theorem dX8_undo_2 : decode cX8_undo 2 = .ok (.getfield 66, 3) := by decide +kernel
theorem dX8_undo_5 : decode cX8_undo 5 = .ok (.ifCond .ne 7, 3) := by decide +kernel
theorem dX8_undo_8 : decode cX8_undo 8 = .ok (.iconst 1, 1) := by decide +kernel
theorem dX8_undo_9 : decode cX8_undo 9 = .ok (.goto 4, 3) := by decide +kernel
theorem dX8_undo_12 : decode cX8_undo 12 = .ok (.iconst 0, 1) := by decide +kernel
theorem dX8_undo_13 : decode cX8_undo 13 = .ok (.invokevirtual 153, 3) := by decide +kernel
theorem dX8_undo_16 : decode cX8_undo 16 = .ok (.ifCond .eq 5, 3) := by decide +kernel
theorem dX8_undo_19 : decode cX8_undo 19 = .ok (.iconst 0, 1) := by decide +kernel
theorem dX8_undo_20 : decode cX8_undo 20 = .ok (.ireturn, 1) := by decide +kernel
theorem dX8_undo_21 : decode cX8_undo 21 = .ok (.aload_n 0, 1) := by decide +kernel
theorem dX8_undo_22 : decode cX8_undo 22 = .ok (.dup, 1) := by decide +kernel
theorem dX8_undo_23 : decode cX8_undo 23 = .ok (.getfield 66, 3) := by decide +kernel
theorem dX8_undo_26 : decode cX8_undo 26 = .ok (.iconst 1, 1) := by decide +kernel
theorem dX8_undo_27 : decode cX8_undo 27 = .ok (.isub, 1) := by decide +kernel
theorem dX8_undo_28 : decode cX8_undo 28 = .ok (.putfield 66, 3) := by decide +kernel
theorem dX8_undo_31 : decode cX8_undo 31 = .ok (.aload_n 0, 1) := by decide +kernel
theorem dX8_undo_32 : decode cX8_undo 32 = .ok (.getfield 22, 3) := by decide +kernel
theorem dX8_undo_35 : decode cX8_undo 35 = .ok (.bipush 96, 2) := by decide +kernel
theorem dX8_undo_37 : decode cX8_undo 37 = .ok (.aload_n 0, 1) := by decide +kernel
theorem dX8_undo_38 : decode cX8_undo 38 = .ok (.getfield 66, 3) := by decide +kernel
theorem dX8_undo_41 : decode cX8_undo 41 = .ok (.imul, 1) := by decide +kernel
theorem dX8_undo_42 : decode cX8_undo 42 = .ok (.aload_n 0, 1) := by decide +kernel
theorem dX8_undo_43 : decode cX8_undo 43 = .ok (.getfield 16, 3) := by decide +kernel
theorem dX8_undo_46 : decode cX8_undo 46 = .ok (.iconst 0, 1) := by decide +kernel
theorem dX8_undo_47 : decode cX8_undo 47 = .ok (.bipush 96, 2) := by decide +kernel
theorem dX8_undo_49 : decode cX8_undo 49 = .ok (.invokestatic 69, 3) := by decide +kernel
theorem dX8_undo_52 : decode cX8_undo 52 = .ok (.aload_n 0, 1) := by decide +kernel
theorem dX8_undo_53 : decode cX8_undo 53 = .ok (.getfield 66, 3) := by decide +kernel
theorem dX8_undo_56 : decode cX8_undo 56 = .ok (.ireturn, 1) := by decide +kernel
theorem dX8_order_0 : decode cX8_order 0 = .ok (.aload_n 0, 1) := by decide +kernel
theorem dX8_order_1 : decode cX8_order 1 = .ok (.iload_n 1, 1) := by decide +kernel
theorem dX8_order_2 : decode cX8_order 2 = .ok (.invokestatic 270, 3) := by decide +kernel
theorem dX8_order_5 : decode cX8_order 5 = .ok (.ifCond .eq 11, 3) := by decide +kernel
theorem dX8_order_8 : decode cX8_order 8 = .ok (.iload_n 2, 1) := by decide +kernel
theorem dX8_order_9 : decode cX8_order 9 = .ok (.ifCond .lt 7, 3) := by decide +kernel
theorem dX8_order_12 : decode cX8_order 12 = .ok (.iconst 0, 1) := by decide +kernel
theorem dX8_order_13 : decode cX8_order 13 = .ok (.goto 4, 3) := by decide +kernel
theorem dX8_order_16 : decode cX8_order 16 = .ok (.iconst 1, 1) := by decide +kernel
theorem dX8_order_17 : decode cX8_order 17 = .ok (.invokevirtual 153, 3) := by decide +kernel
theorem dX8_order_20 : decode cX8_order 20 = .ok (.ifCond .eq 5, 3) := by decide +kernel
theorem dX8_order_23 : decode cX8_order 23 = .ok (.iconst 0, 1) := by decide +kernel
theorem dX8_order_24 : decode cX8_order 24 = .ok (.ireturn, 1) := by decide +kernel
theorem dX8_order_25 : decode cX8_order 25 = .ok (.aload_n 0, 1) := by decide +kernel
theorem dX8_order_26 : decode cX8_order 26 = .ok (.iload_n 1, 1) := by decide +kernel
theorem dX8_order_27 : decode cX8_order 27 = .ok (.invokevirtual 273, 3) := by decide +kernel
theorem dX8_order_30 : decode cX8_order 30 = .ok (.ifCond .eq 20, 3) := by decide +kernel
theorem dX8_order_33 : decode cX8_order 33 = .ok (.iload_n 2, 1) := by decide +kernel
theorem dX8_order_34 : decode cX8_order 34 = .ok (.aload_n 0, 1) := by decide +kernel
theorem dX8_order_35 : decode cX8_order 35 = .ok (.getfield 114, 3) := by decide +kernel
theorem dX8_order_38 : decode cX8_order 38 = .ok (.if_icmp .ge 12, 3) := by decide +kernel
theorem dX8_order_41 : decode cX8_order 41 = .ok (.aload_n 0, 1) := by decide +kernel
theorem dX8_order_42 : decode cX8_order 42 = .ok (.getfield 48, 3) := by decide +kernel
theorem dX8_order_45 : decode cX8_order 45 = .ok (.iload_n 2, 1) := by decide +kernel
theorem dX8_order_46 : decode cX8_order 46 = .ok (.iaload, 1) := by decide +kernel
theorem dX8_order_47 : decode cX8_order 47 = .ok (.goto 4, 3) := by decide +kernel
theorem dX8_order_50 : decode cX8_order 50 = .ok (.iconst (-1), 1) := by decide +kernel
theorem dX8_order_51 : decode cX8_order 51 = .ok (.ireturn, 1) := by decide +kernel
theorem dX8_sticks_0 : decode cX8_sticks 0 = .ok (.aload_n 0, 1) := by decide +kernel
theorem dX8_sticks_1 : decode cX8_sticks 1 = .ok (.iload_n 1, 1) := by decide +kernel
theorem dX8_sticks_2 : decode cX8_sticks 2 = .ok (.invokestatic 270, 3) := by decide +kernel
theorem dX8_sticks_5 : decode cX8_sticks 5 = .ok (.ifCond .eq 7, 3) := by decide +kernel
theorem dX8_sticks_8 : decode cX8_sticks 8 = .ok (.iconst 0, 1) := by decide +kernel
theorem dX8_sticks_9 : decode cX8_sticks 9 = .ok (.goto 4, 3) := by decide +kernel
theorem dX8_sticks_12 : decode cX8_sticks 12 = .ok (.iconst 1, 1) := by decide +kernel
theorem dX8_sticks_13 : decode cX8_sticks 13 = .ok (.invokevirtual 153, 3) := by decide +kernel
theorem dX8_sticks_16 : decode cX8_sticks 16 = .ok (.ifCond .eq 5, 3) := by decide +kernel
theorem dX8_sticks_19 : decode cX8_sticks 19 = .ok (.iconst 0, 1) := by decide +kernel
theorem dX8_sticks_20 : decode cX8_sticks 20 = .ok (.ireturn, 1) := by decide +kernel
theorem dX8_sticks_21 : decode cX8_sticks 21 = .ok (.aload_n 0, 1) := by decide +kernel
theorem dX8_sticks_22 : decode cX8_sticks 22 = .ok (.iload_n 1, 1) := by decide +kernel
theorem dX8_sticks_23 : decode cX8_sticks 23 = .ok (.invokevirtual 273, 3) := by decide +kernel
theorem dX8_sticks_26 : decode cX8_sticks 26 = .ok (.ifCond .eq 17, 3) := by decide +kernel
theorem dX8_sticks_29 : decode cX8_sticks 29 = .ok (.aload_n 0, 1) := by decide +kernel
theorem dX8_sticks_30 : decode cX8_sticks 30 = .ok (.getfield 127, 3) := by decide +kernel
theorem dX8_sticks_33 : decode cX8_sticks 33 = .ok (.ifCond .ne 10, 3) := by decide +kernel
theorem dX8_sticks_36 : decode cX8_sticks 36 = .ok (.aload_n 0, 1) := by decide +kernel
theorem dX8_sticks_37 : decode cX8_sticks 37 = .ok (.getfield 114, 3) := by decide +kernel
theorem dX8_sticks_40 : decode cX8_sticks 40 = .ok (.goto 4, 3) := by decide +kernel
theorem dX8_sticks_43 : decode cX8_sticks 43 = .ok (.iconst (-1), 1) := by decide +kernel
theorem dX8_sticks_44 : decode cX8_sticks 44 = .ok (.ireturn, 1) := by decide +kernel
theorem dX8_holds_0 : decode cX8_holds 0 = .ok (.aload_n 0, 1) := by decide +kernel
theorem dX8_holds_1 : decode cX8_holds 1 = .ok (.aload_n 0, 1) := by decide +kernel
theorem dX8_holds_2 : decode cX8_holds 2 = .ok (.iload_n 1, 1) := by decide +kernel
theorem dX8_holds_3 : decode cX8_holds 3 = .ok (.invokevirtual 242, 3) := by decide +kernel
theorem dX8_holds_6 : decode cX8_holds 6 = .ok (.ifCond .ne 7, 3) := by decide +kernel
theorem dX8_holds_9 : decode cX8_holds 9 = .ok (.iconst 1, 1) := by decide +kernel
theorem dX8_holds_10 : decode cX8_holds 10 = .ok (.goto 15, 3) := by decide +kernel
theorem dX8_holds_13 : decode cX8_holds 13 = .ok (.iload_n 2, 1) := by decide +kernel
theorem dX8_holds_14 : decode cX8_holds 14 = .ok (.invokestatic 270, 3) := by decide +kernel
theorem dX8_holds_17 : decode cX8_holds 17 = .ok (.ifCond .eq 7, 3) := by decide +kernel
theorem dX8_holds_20 : decode cX8_holds 20 = .ok (.iconst 0, 1) := by decide +kernel
theorem dX8_holds_21 : decode cX8_holds 21 = .ok (.goto 4, 3) := by decide +kernel
theorem dX8_holds_24 : decode cX8_holds 24 = .ok (.iconst 2, 1) := by decide +kernel
theorem dX8_holds_25 : decode cX8_holds 25 = .ok (.invokevirtual 153, 3) := by decide +kernel
theorem dX8_holds_28 : decode cX8_holds 28 = .ok (.ifCond .eq 5, 3) := by decide +kernel
theorem dX8_holds_31 : decode cX8_holds 31 = .ok (.iconst 0, 1) := by decide +kernel
theorem dX8_holds_32 : decode cX8_holds 32 = .ok (.ireturn, 1) := by decide +kernel
theorem dX8_holds_33 : decode cX8_holds 33 = .ok (.aload_n 0, 1) := by decide +kernel
theorem dX8_holds_34 : decode cX8_holds 34 = .ok (.iload_n 2, 1) := by decide +kernel
theorem dX8_holds_35 : decode cX8_holds 35 = .ok (.invokevirtual 273, 3) := by decide +kernel
theorem dX8_holds_38 : decode cX8_holds 38 = .ok (.ifCond .eq 12, 3) := by decide +kernel
theorem dX8_holds_41 : decode cX8_holds 41 = .ok (.aload_n 0, 1) := by decide +kernel
theorem dX8_holds_42 : decode cX8_holds 42 = .ok (.getfield 51, 3) := by decide +kernel
theorem dX8_holds_45 : decode cX8_holds 45 = .ok (.iload_n 1, 1) := by decide +kernel
theorem dX8_holds_46 : decode cX8_holds 46 = .ok (.iaload, 1) := by decide +kernel
theorem dX8_holds_47 : decode cX8_holds 47 = .ok (.goto 4, 3) := by decide +kernel
theorem dX8_holds_50 : decode cX8_holds 50 = .ok (.iconst (-1), 1) := by decide +kernel
theorem dX8_holds_51 : decode cX8_holds 51 = .ok (.ireturn, 1) := by decide +kernel
theorem dX8_bestRule_0 : decode cX8_bestRule 0 = .ok (.aload_n 0, 1) := by decide +kernel
theorem dX8_bestRule_1 : decode cX8_bestRule 1 = .ok (.iconst 0, 1) := by decide +kernel
theorem dX8_bestRule_2 : decode cX8_bestRule 2 = .ok (.putfield 60, 3) := by decide +kernel
theorem dX8_bestRule_5 : decode cX8_bestRule 5 = .ok (.iconst (-1), 1) := by decide +kernel
theorem dX8_bestRule_6 : decode cX8_bestRule 6 = .ok (.istore_n 1, 1) := by decide +kernel
theorem dX8_bestRule_7 : decode cX8_bestRule 7 = .ok (.iconst 0, 1) := by decide +kernel
theorem dX8_bestRule_8 : decode cX8_bestRule 8 = .ok (.istore_n 2, 1) := by decide +kernel
theorem dX8_bestRule_9 : decode cX8_bestRule 9 = .ok (.iconst 0, 1) := by decide +kernel
theorem dX8_bestRule_10 : decode cX8_bestRule 10 = .ok (.istore_n 3, 1) := by decide +kernel
theorem dX8_bestRule_11 : decode cX8_bestRule 11 = .ok (.iload_n 3, 1) := by decide +kernel
theorem dX8_bestRule_12 : decode cX8_bestRule 12 = .ok (.iconst 3, 1) := by decide +kernel
theorem dX8_bestRule_13 : decode cX8_bestRule 13 = .ok (.if_icmp .ge 112, 3) := by decide +kernel
theorem dX8_bestRule_16 : decode cX8_bestRule 16 = .ok (.aload_n 0, 1) := by decide +kernel
theorem dX8_bestRule_17 : decode cX8_bestRule 17 = .ok (.iload_n 3, 1) := by decide +kernel
theorem dX8_bestRule_18 : decode cX8_bestRule 18 = .ok (.invokevirtual 273, 3) := by decide +kernel
theorem dX8_bestRule_21 : decode cX8_bestRule 21 = .ok (.ifCond .eq 14, 3) := by decide +kernel
theorem dX8_bestRule_24 : decode cX8_bestRule 24 = .ok (.aload_n 0, 1) := by decide +kernel
theorem dX8_bestRule_25 : decode cX8_bestRule 25 = .ok (.getfield 127, 3) := by decide +kernel
theorem dX8_bestRule_28 : decode cX8_bestRule 28 = .ok (.ifCond .eq 7, 3) := by decide +kernel
theorem dX8_bestRule_31 : decode cX8_bestRule 31 = .ok (.iconst 1, 1) := by decide +kernel
theorem dX8_bestRule_32 : decode cX8_bestRule 32 = .ok (.goto 4, 3) := by decide +kernel
theorem dX8_bestRule_35 : decode cX8_bestRule 35 = .ok (.iconst 0, 1) := by decide +kernel
theorem dX8_bestRule_36 : decode cX8_bestRule 36 = .ok (.istore 4, 2) := by decide +kernel
theorem dX8_bestRule_38 : decode cX8_bestRule 38 = .ok (.iconst 0, 1) := by decide +kernel
theorem dX8_bestRule_39 : decode cX8_bestRule 39 = .ok (.istore 5, 2) := by decide +kernel
theorem dX8_bestRule_41 : decode cX8_bestRule 41 = .ok (.iconst 0, 1) := by decide +kernel
theorem dX8_bestRule_42 : decode cX8_bestRule 42 = .ok (.istore 6, 2) := by decide +kernel
theorem dX8_bestRule_44 : decode cX8_bestRule 44 = .ok (.iload 6, 2) := by decide +kernel
theorem dX8_bestRule_46 : decode cX8_bestRule 46 = .ok (.aload_n 0, 1) := by decide +kernel
theorem dX8_bestRule_47 : decode cX8_bestRule 47 = .ok (.getfield 16, 3) := by decide +kernel
theorem dX8_bestRule_50 : decode cX8_bestRule 50 = .ok (.iconst 1, 1) := by decide +kernel
theorem dX8_bestRule_51 : decode cX8_bestRule 51 = .ok (.iaload, 1) := by decide +kernel
theorem dX8_bestRule_52 : decode cX8_bestRule 52 = .ok (.if_icmp .ge 21, 3) := by decide +kernel
theorem dX8_bestRule_55 : decode cX8_bestRule 55 = .ok (.iload 5, 2) := by decide +kernel
theorem dX8_bestRule_57 : decode cX8_bestRule 57 = .ok (.aload_n 0, 1) := by decide +kernel
theorem dX8_bestRule_58 : decode cX8_bestRule 58 = .ok (.getfield 51, 3) := by decide +kernel
theorem dX8_bestRule_61 : decode cX8_bestRule 61 = .ok (.iload 6, 2) := by decide +kernel
theorem dX8_bestRule_63 : decode cX8_bestRule 63 = .ok (.iaload, 1) := by decide +kernel
theorem dX8_bestRule_64 : decode cX8_bestRule 64 = .ok (.iadd, 1) := by decide +kernel
theorem dX8_bestRule_65 : decode cX8_bestRule 65 = .ok (.istore 5, 2) := by decide +kernel
theorem dX8_bestRule_67 : decode cX8_bestRule 67 = .ok (.iinc 6 1, 3) := by decide +kernel
theorem dX8_bestRule_70 : decode cX8_bestRule 70 = .ok (.goto (-26), 3) := by decide +kernel
theorem dX8_bestRule_73 : decode cX8_bestRule 73 = .ok (.iload 4, 2) := by decide +kernel
theorem dX8_bestRule_75 : decode cX8_bestRule 75 = .ok (.ifCond .eq 18, 3) := by decide +kernel
theorem dX8_bestRule_78 : decode cX8_bestRule 78 = .ok (.iload_n 1, 1) := by decide +kernel
theorem dX8_bestRule_79 : decode cX8_bestRule 79 = .ok (.iconst (-1), 1) := by decide +kernel
theorem dX8_bestRule_80 : decode cX8_bestRule 80 = .ok (.if_icmp .eq 9, 3) := by decide +kernel
theorem dX8_bestRule_83 : decode cX8_bestRule 83 = .ok (.iload 5, 2) := by decide +kernel
theorem dX8_bestRule_85 : decode cX8_bestRule 85 = .ok (.iload_n 2, 1) := by decide +kernel
theorem dX8_bestRule_86 : decode cX8_bestRule 86 = .ok (.if_icmp .ge 7, 3) := by decide +kernel
theorem dX8_bestRule_89 : decode cX8_bestRule 89 = .ok (.iconst 1, 1) := by decide +kernel
theorem dX8_bestRule_90 : decode cX8_bestRule 90 = .ok (.goto 4, 3) := by decide +kernel
theorem dX8_bestRule_93 : decode cX8_bestRule 93 = .ok (.iconst 0, 1) := by decide +kernel
theorem dX8_bestRule_94 : decode cX8_bestRule 94 = .ok (.istore 6, 2) := by decide +kernel
theorem dX8_bestRule_96 : decode cX8_bestRule 96 = .ok (.iload 6, 2) := by decide +kernel
theorem dX8_bestRule_98 : decode cX8_bestRule 98 = .ok (.ifCond .eq 7, 3) := by decide +kernel
theorem dX8_bestRule_101 : decode cX8_bestRule 101 = .ok (.iload_n 3, 1) := by decide +kernel
theorem dX8_bestRule_102 : decode cX8_bestRule 102 = .ok (.goto 4, 3) := by decide +kernel
theorem dX8_bestRule_105 : decode cX8_bestRule 105 = .ok (.iload_n 1, 1) := by decide +kernel
theorem dX8_bestRule_106 : decode cX8_bestRule 106 = .ok (.istore_n 1, 1) := by decide +kernel
theorem dX8_bestRule_107 : decode cX8_bestRule 107 = .ok (.iload 6, 2) := by decide +kernel
theorem dX8_bestRule_109 : decode cX8_bestRule 109 = .ok (.ifCond .eq 8, 3) := by decide +kernel
theorem dX8_bestRule_112 : decode cX8_bestRule 112 = .ok (.iload 5, 2) := by decide +kernel
theorem dX8_bestRule_114 : decode cX8_bestRule 114 = .ok (.goto 4, 3) := by decide +kernel
theorem dX8_bestRule_117 : decode cX8_bestRule 117 = .ok (.iload_n 2, 1) := by decide +kernel
theorem dX8_bestRule_118 : decode cX8_bestRule 118 = .ok (.istore_n 2, 1) := by decide +kernel
theorem dX8_bestRule_119 : decode cX8_bestRule 119 = .ok (.iinc 3 1, 3) := by decide +kernel
theorem dX8_bestRule_122 : decode cX8_bestRule 122 = .ok (.goto (-111), 3) := by decide +kernel
theorem dX8_bestRule_125 : decode cX8_bestRule 125 = .ok (.iload_n 1, 1) := by decide +kernel
theorem dX8_bestRule_126 : decode cX8_bestRule 126 = .ok (.ireturn, 1) := by decide +kernel
theorem dX8_fewest_0 : decode cX8_fewest 0 = .ok (.aload_n 0, 1) := by decide +kernel
theorem dX8_fewest_1 : decode cX8_fewest 1 = .ok (.aload_n 0, 1) := by decide +kernel
theorem dX8_fewest_2 : decode cX8_fewest 2 = .ok (.iload_n 1, 1) := by decide +kernel
theorem dX8_fewest_3 : decode cX8_fewest 3 = .ok (.invokevirtual 242, 3) := by decide +kernel
theorem dX8_fewest_6 : decode cX8_fewest 6 = .ok (.ifCond .eq 7, 3) := by decide +kernel
theorem dX8_fewest_9 : decode cX8_fewest 9 = .ok (.iconst 0, 1) := by decide +kernel
theorem dX8_fewest_10 : decode cX8_fewest 10 = .ok (.goto 4, 3) := by decide +kernel
theorem dX8_fewest_13 : decode cX8_fewest 13 = .ok (.iconst 1, 1) := by decide +kernel
theorem dX8_fewest_14 : decode cX8_fewest 14 = .ok (.invokevirtual 153, 3) := by decide +kernel
theorem dX8_fewest_17 : decode cX8_fewest 17 = .ok (.ifCond .eq 5, 3) := by decide +kernel
theorem dX8_fewest_20 : decode cX8_fewest 20 = .ok (.iconst 0, 1) := by decide +kernel
theorem dX8_fewest_21 : decode cX8_fewest 21 = .ok (.ireturn, 1) := by decide +kernel
theorem dX8_fewest_22 : decode cX8_fewest 22 = .ok (.iconst 0, 1) := by decide +kernel
theorem dX8_fewest_23 : decode cX8_fewest 23 = .ok (.istore_n 2, 1) := by decide +kernel
theorem dX8_fewest_24 : decode cX8_fewest 24 = .ok (.iload_n 2, 1) := by decide +kernel
theorem dX8_fewest_25 : decode cX8_fewest 25 = .ok (.bipush 99, 2) := by decide +kernel
theorem dX8_fewest_27 : decode cX8_fewest 27 = .ok (.if_icmp .gt 55, 3) := by decide +kernel
theorem dX8_fewest_30 : decode cX8_fewest 30 = .ok (.aload_n 0, 1) := by decide +kernel
theorem dX8_fewest_31 : decode cX8_fewest 31 = .ok (.invokevirtual 131, 3) := by decide +kernel
theorem dX8_fewest_34 : decode cX8_fewest 34 = .ok (.aload_n 0, 1) := by decide +kernel
theorem dX8_fewest_35 : decode cX8_fewest 35 = .ok (.getfield 19, 3) := by decide +kernel
theorem dX8_fewest_38 : decode cX8_fewest 38 = .ok (.iload_n 1, 1) := by decide +kernel
theorem dX8_fewest_39 : decode cX8_fewest 39 = .ok (.iconst 4, 1) := by decide +kernel
theorem dX8_fewest_40 : decode cX8_fewest 40 = .ok (.invokestatic 73, 3) := by decide +kernel
theorem dX8_fewest_43 : decode cX8_fewest 43 = .ok (.iload_n 2, 1) := by decide +kernel
theorem dX8_fewest_44 : decode cX8_fewest 44 = .ok (.iastore, 1) := by decide +kernel
theorem dX8_fewest_45 : decode cX8_fewest 45 = .ok (.aload_n 0, 1) := by decide +kernel
theorem dX8_fewest_46 : decode cX8_fewest 46 = .ok (.aload_n 0, 1) := by decide +kernel
theorem dX8_fewest_47 : decode cX8_fewest 47 = .ok (.getfield 19, 3) := by decide +kernel
theorem dX8_fewest_50 : decode cX8_fewest 50 = .ok (.invokevirtual 134, 3) := by decide +kernel
theorem dX8_fewest_53 : decode cX8_fewest 53 = .ok (.ifCond .ne 5, 3) := by decide +kernel
theorem dX8_fewest_56 : decode cX8_fewest 56 = .ok (.iconst (-1), 1) := by decide +kernel
theorem dX8_fewest_57 : decode cX8_fewest 57 = .ok (.ireturn, 1) := by decide +kernel
theorem dX8_fewest_58 : decode cX8_fewest 58 = .ok (.aload_n 0, 1) := by decide +kernel
theorem dX8_fewest_59 : decode cX8_fewest 59 = .ok (.aload_n 0, 1) := by decide +kernel
theorem dX8_fewest_60 : decode cX8_fewest 60 = .ok (.getfield 19, 3) := by decide +kernel
theorem dX8_fewest_63 : decode cX8_fewest 63 = .ok (.iconst 0, 1) := by decide +kernel
theorem dX8_fewest_64 : decode cX8_fewest 64 = .ok (.invokevirtual 138, 3) := by decide +kernel
theorem dX8_fewest_67 : decode cX8_fewest 67 = .ok (.aload_n 0, 1) := by decide +kernel
theorem dX8_fewest_68 : decode cX8_fewest 68 = .ok (.getfield 127, 3) := by decide +kernel
theorem dX8_fewest_71 : decode cX8_fewest 71 = .ok (.ifCond .eq 5, 3) := by decide +kernel
theorem dX8_fewest_74 : decode cX8_fewest 74 = .ok (.iload_n 2, 1) := by decide +kernel
theorem dX8_fewest_75 : decode cX8_fewest 75 = .ok (.ireturn, 1) := by decide +kernel
theorem dX8_fewest_76 : decode cX8_fewest 76 = .ok (.iinc 2 1, 3) := by decide +kernel
theorem dX8_fewest_79 : decode cX8_fewest 79 = .ok (.goto (-55), 3) := by decide +kernel
theorem dX8_fewest_82 : decode cX8_fewest 82 = .ok (.iconst (-1), 1) := by decide +kernel
theorem dX8_fewest_83 : decode cX8_fewest 83 = .ok (.ireturn, 1) := by decide +kernel
theorem dX8_agrees_0 : decode cX8_agrees 0 = .ok (.aload_n 0, 1) := by decide +kernel
theorem dX8_agrees_1 : decode cX8_agrees 1 = .ok (.aload_n 0, 1) := by decide +kernel
theorem dX8_agrees_2 : decode cX8_agrees 2 = .ok (.iload_n 1, 1) := by decide +kernel
theorem dX8_agrees_3 : decode cX8_agrees 3 = .ok (.invokevirtual 242, 3) := by decide +kernel
theorem dX8_agrees_6 : decode cX8_agrees 6 = .ok (.ifCond .ne 7, 3) := by decide +kernel
theorem dX8_agrees_9 : decode cX8_agrees 9 = .ok (.iconst 1, 1) := by decide +kernel
theorem dX8_agrees_10 : decode cX8_agrees 10 = .ok (.goto 15, 3) := by decide +kernel
theorem dX8_agrees_13 : decode cX8_agrees 13 = .ok (.iload_n 2, 1) := by decide +kernel
theorem dX8_agrees_14 : decode cX8_agrees 14 = .ok (.invokestatic 259, 3) := by decide +kernel
theorem dX8_agrees_17 : decode cX8_agrees 17 = .ok (.ifCond .eq 7, 3) := by decide +kernel
theorem dX8_agrees_20 : decode cX8_agrees 20 = .ok (.iconst 0, 1) := by decide +kernel
theorem dX8_agrees_21 : decode cX8_agrees 21 = .ok (.goto 4, 3) := by decide +kernel
theorem dX8_agrees_24 : decode cX8_agrees 24 = .ok (.iconst 2, 1) := by decide +kernel
theorem dX8_agrees_25 : decode cX8_agrees 25 = .ok (.invokevirtual 153, 3) := by decide +kernel
theorem dX8_agrees_28 : decode cX8_agrees 28 = .ok (.ifCond .eq 5, 3) := by decide +kernel
theorem dX8_agrees_31 : decode cX8_agrees 31 = .ok (.iconst 0, 1) := by decide +kernel
theorem dX8_agrees_32 : decode cX8_agrees 32 = .ok (.ireturn, 1) := by decide +kernel
theorem dX8_agrees_33 : decode cX8_agrees 33 = .ok (.iconst 1, 1) := by decide +kernel
theorem dX8_agrees_34 : decode cX8_agrees 34 = .ok (.istore_n 3, 1) := by decide +kernel
theorem dX8_agrees_35 : decode cX8_agrees 35 = .ok (.iload_n 3, 1) := by decide +kernel
theorem dX8_agrees_36 : decode cX8_agrees 36 = .ok (.bipush 6, 2) := by decide +kernel
theorem dX8_agrees_38 : decode cX8_agrees 38 = .ok (.if_icmp .gt 48, 3) := by decide +kernel
theorem dX8_agrees_41 : decode cX8_agrees 41 = .ok (.aload_n 0, 1) := by decide +kernel
theorem dX8_agrees_42 : decode cX8_agrees 42 = .ok (.invokevirtual 131, 3) := by decide +kernel
theorem dX8_agrees_45 : decode cX8_agrees 45 = .ok (.aload_n 0, 1) := by decide +kernel
theorem dX8_agrees_46 : decode cX8_agrees 46 = .ok (.getfield 19, 3) := by decide +kernel
theorem dX8_agrees_49 : decode cX8_agrees 49 = .ok (.iload_n 1, 1) := by decide +kernel
theorem dX8_agrees_50 : decode cX8_agrees 50 = .ok (.iconst 2, 1) := by decide +kernel
theorem dX8_agrees_51 : decode cX8_agrees 51 = .ok (.invokestatic 73, 3) := by decide +kernel
theorem dX8_agrees_54 : decode cX8_agrees 54 = .ok (.iload_n 2, 1) := by decide +kernel
theorem dX8_agrees_55 : decode cX8_agrees 55 = .ok (.iastore, 1) := by decide +kernel
theorem dX8_agrees_56 : decode cX8_agrees 56 = .ok (.aload_n 0, 1) := by decide +kernel
theorem dX8_agrees_57 : decode cX8_agrees 57 = .ok (.getfield 19, 3) := by decide +kernel
theorem dX8_agrees_60 : decode cX8_agrees 60 = .ok (.iload_n 1, 1) := by decide +kernel
theorem dX8_agrees_61 : decode cX8_agrees 61 = .ok (.iconst 3, 1) := by decide +kernel
theorem dX8_agrees_62 : decode cX8_agrees 62 = .ok (.invokestatic 73, 3) := by decide +kernel
theorem dX8_agrees_65 : decode cX8_agrees 65 = .ok (.iload_n 3, 1) := by decide +kernel
theorem dX8_agrees_66 : decode cX8_agrees 66 = .ok (.iastore, 1) := by decide +kernel
theorem dX8_agrees_67 : decode cX8_agrees 67 = .ok (.aload_n 0, 1) := by decide +kernel
theorem dX8_agrees_68 : decode cX8_agrees 68 = .ok (.aload_n 0, 1) := by decide +kernel
theorem dX8_agrees_69 : decode cX8_agrees 69 = .ok (.getfield 19, 3) := by decide +kernel
theorem dX8_agrees_72 : decode cX8_agrees 72 = .ok (.invokevirtual 134, 3) := by decide +kernel
theorem dX8_agrees_75 : decode cX8_agrees 75 = .ok (.ifCond .eq 5, 3) := by decide +kernel
theorem dX8_agrees_78 : decode cX8_agrees 78 = .ok (.iload_n 3, 1) := by decide +kernel
theorem dX8_agrees_79 : decode cX8_agrees 79 = .ok (.ireturn, 1) := by decide +kernel
theorem dX8_agrees_80 : decode cX8_agrees 80 = .ok (.iinc 3 1, 3) := by decide +kernel
theorem dX8_agrees_83 : decode cX8_agrees 83 = .ok (.goto (-48), 3) := by decide +kernel
theorem dX8_agrees_86 : decode cX8_agrees 86 = .ok (.iconst (-1), 1) := by decide +kernel
theorem dX8_agrees_87 : decode cX8_agrees 87 = .ok (.ireturn, 1) := by decide +kernel
theorem dX8_lays_0 : decode cX8_lays 0 = .ok (.iload_n 1, 1) := by decide +kernel
theorem dX8_lays_1 : decode cX8_lays 1 = .ok (.aload_n 0, 1) := by decide +kernel
theorem dX8_lays_2 : decode cX8_lays 2 = .ok (.getfield 19, 3) := by decide +kernel
theorem dX8_lays_5 : decode cX8_lays 5 = .ok (.iconst 0, 1) := by decide +kernel
theorem dX8_lays_6 : decode cX8_lays 6 = .ok (.iaload, 1) := by decide +kernel
theorem dX8_lays_7 : decode cX8_lays 7 = .ok (.if_icmp .ge 43, 3) := by decide +kernel
theorem dX8_lays_10 : decode cX8_lays 10 = .ok (.iload_n 2, 1) := by decide +kernel
theorem dX8_lays_11 : decode cX8_lays 11 = .ok (.aload_n 0, 1) := by decide +kernel
theorem dX8_lays_12 : decode cX8_lays 12 = .ok (.getfield 19, 3) := by decide +kernel
theorem dX8_lays_15 : decode cX8_lays 15 = .ok (.iconst 0, 1) := by decide +kernel
theorem dX8_lays_16 : decode cX8_lays 16 = .ok (.iaload, 1) := by decide +kernel
theorem dX8_lays_17 : decode cX8_lays 17 = .ok (.if_icmp .ge 33, 3) := by decide +kernel
theorem dX8_lays_20 : decode cX8_lays 20 = .ok (.iload_n 3, 1) := by decide +kernel
theorem dX8_lays_21 : decode cX8_lays 21 = .ok (.invokestatic 259, 3) := by decide +kernel
theorem dX8_lays_24 : decode cX8_lays 24 = .ok (.ifCond .eq 26, 3) := by decide +kernel
theorem dX8_lays_27 : decode cX8_lays 27 = .ok (.iload 4, 2) := by decide +kernel
theorem dX8_lays_29 : decode cX8_lays 29 = .ok (.invokestatic 259, 3) := by decide +kernel
theorem dX8_lays_32 : decode cX8_lays 32 = .ok (.ifCond .eq 18, 3) := by decide +kernel
theorem dX8_lays_35 : decode cX8_lays 35 = .ok (.aload_n 0, 1) := by decide +kernel
theorem dX8_lays_36 : decode cX8_lays 36 = .ok (.aload_n 0, 1) := by decide +kernel
theorem dX8_lays_37 : decode cX8_lays 37 = .ok (.getfield 19, 3) := by decide +kernel
theorem dX8_lays_40 : decode cX8_lays 40 = .ok (.iload_n 1, 1) := by decide +kernel
theorem dX8_lays_41 : decode cX8_lays 41 = .ok (.iload_n 2, 1) := by decide +kernel
theorem dX8_lays_42 : decode cX8_lays 42 = .ok (.iload 5, 2) := by decide +kernel
theorem dX8_lays_44 : decode cX8_lays 44 = .ok (.invokevirtual 183, 3) := by decide +kernel
theorem dX8_lays_47 : decode cX8_lays 47 = .ok (.ifCond .ne 5, 3) := by decide +kernel
theorem dX8_lays_50 : decode cX8_lays 50 = .ok (.iconst 0, 1) := by decide +kernel
theorem dX8_lays_51 : decode cX8_lays 51 = .ok (.ireturn, 1) := by decide +kernel
theorem dX8_lays_52 : decode cX8_lays 52 = .ok (.aload_n 0, 1) := by decide +kernel
theorem dX8_lays_53 : decode cX8_lays 53 = .ok (.getfield 19, 3) := by decide +kernel
theorem dX8_lays_56 : decode cX8_lays 56 = .ok (.iload_n 1, 1) := by decide +kernel
theorem dX8_lays_57 : decode cX8_lays 57 = .ok (.iload_n 2, 1) := by decide +kernel
theorem dX8_lays_58 : decode cX8_lays 58 = .ok (.iload_n 3, 1) := by decide +kernel
theorem dX8_lays_59 : decode cX8_lays 59 = .ok (.iload 4, 2) := by decide +kernel
theorem dX8_lays_61 : decode cX8_lays 61 = .ok (.iload 5, 2) := by decide +kernel
theorem dX8_lays_63 : decode cX8_lays 63 = .ok (.invokestatic 187, 3) := by decide +kernel
theorem dX8_lays_66 : decode cX8_lays 66 = .ok (.iconst 1, 1) := by decide +kernel
theorem dX8_lays_67 : decode cX8_lays 67 = .ok (.ireturn, 1) := by decide +kernel
theorem dX8_cuts_0 : decode cX8_cuts 0 = .ok (.iload_n 1, 1) := by decide +kernel
theorem dX8_cuts_1 : decode cX8_cuts 1 = .ok (.aload_n 0, 1) := by decide +kernel
theorem dX8_cuts_2 : decode cX8_cuts 2 = .ok (.getfield 19, 3) := by decide +kernel
theorem dX8_cuts_5 : decode cX8_cuts 5 = .ok (.iconst 1, 1) := by decide +kernel
theorem dX8_cuts_6 : decode cX8_cuts 6 = .ok (.iaload, 1) := by decide +kernel
theorem dX8_cuts_7 : decode cX8_cuts 7 = .ok (.if_icmp .lt 5, 3) := by decide +kernel
theorem dX8_cuts_10 : decode cX8_cuts 10 = .ok (.iconst 0, 1) := by decide +kernel
theorem dX8_cuts_11 : decode cX8_cuts 11 = .ok (.ireturn, 1) := by decide +kernel
theorem dX8_cuts_12 : decode cX8_cuts 12 = .ok (.aload_n 0, 1) := by decide +kernel
theorem dX8_cuts_13 : decode cX8_cuts 13 = .ok (.getfield 19, 3) := by decide +kernel
theorem dX8_cuts_16 : decode cX8_cuts 16 = .ok (.iload_n 1, 1) := by decide +kernel
theorem dX8_cuts_17 : decode cX8_cuts 17 = .ok (.invokestatic 191, 3) := by decide +kernel
theorem dX8_cuts_20 : decode cX8_cuts 20 = .ok (.iconst 1, 1) := by decide +kernel
theorem dX8_cuts_21 : decode cX8_cuts 21 = .ok (.ireturn, 1) := by decide +kernel
theorem dX8_puts_0 : decode cX8_puts 0 = .ok (.iload_n 1, 1) := by decide +kernel
theorem dX8_puts_1 : decode cX8_puts 1 = .ok (.aload_n 0, 1) := by decide +kernel
theorem dX8_puts_2 : decode cX8_puts 2 = .ok (.getfield 19, 3) := by decide +kernel
theorem dX8_puts_5 : decode cX8_puts 5 = .ok (.iconst 1, 1) := by decide +kernel
theorem dX8_puts_6 : decode cX8_puts 6 = .ok (.iaload, 1) := by decide +kernel
theorem dX8_puts_7 : decode cX8_puts 7 = .ok (.if_icmp .ge 16, 3) := by decide +kernel
theorem dX8_puts_10 : decode cX8_puts 10 = .ok (.aload_n 0, 1) := by decide +kernel
theorem dX8_puts_11 : decode cX8_puts 11 = .ok (.aload_n 0, 1) := by decide +kernel
theorem dX8_puts_12 : decode cX8_puts 12 = .ok (.getfield 19, 3) := by decide +kernel
theorem dX8_puts_15 : decode cX8_puts 15 = .ok (.iload_n 1, 1) := by decide +kernel
theorem dX8_puts_16 : decode cX8_puts 16 = .ok (.iload_n 2, 1) := by decide +kernel
theorem dX8_puts_17 : decode cX8_puts 17 = .ok (.invokevirtual 265, 3) := by decide +kernel
theorem dX8_puts_20 : decode cX8_puts 20 = .ok (.ifCond .ne 5, 3) := by decide +kernel
theorem dX8_puts_23 : decode cX8_puts 23 = .ok (.iconst 0, 1) := by decide +kernel
theorem dX8_puts_24 : decode cX8_puts 24 = .ok (.ireturn, 1) := by decide +kernel
theorem dX8_puts_25 : decode cX8_puts 25 = .ok (.aload_n 0, 1) := by decide +kernel
theorem dX8_puts_26 : decode cX8_puts 26 = .ok (.getfield 19, 3) := by decide +kernel
theorem dX8_puts_29 : decode cX8_puts 29 = .ok (.iload_n 1, 1) := by decide +kernel
theorem dX8_puts_30 : decode cX8_puts 30 = .ok (.iconst 4, 1) := by decide +kernel
theorem dX8_puts_31 : decode cX8_puts 31 = .ok (.invokestatic 73, 3) := by decide +kernel
theorem dX8_puts_34 : decode cX8_puts 34 = .ok (.iload_n 2, 1) := by decide +kernel
theorem dX8_puts_35 : decode cX8_puts 35 = .ok (.iastore, 1) := by decide +kernel
theorem dX8_puts_36 : decode cX8_puts 36 = .ok (.iconst 1, 1) := by decide +kernel
theorem dX8_puts_37 : decode cX8_puts 37 = .ok (.ireturn, 1) := by decide +kernel
theorem dX8_worksOne_0 : decode cX8_worksOne 0 = .ok (.iload_n 1, 1) := by decide +kernel
theorem dX8_worksOne_1 : decode cX8_worksOne 1 = .ok (.aload_n 0, 1) := by decide +kernel
theorem dX8_worksOne_2 : decode cX8_worksOne 2 = .ok (.getfield 19, 3) := by decide +kernel
theorem dX8_worksOne_5 : decode cX8_worksOne 5 = .ok (.iconst 0, 1) := by decide +kernel
theorem dX8_worksOne_6 : decode cX8_worksOne 6 = .ok (.iaload, 1) := by decide +kernel
theorem dX8_worksOne_7 : decode cX8_worksOne 7 = .ok (.if_icmp .ge 14, 3) := by decide +kernel
theorem dX8_worksOne_10 : decode cX8_worksOne 10 = .ok (.aload_n 0, 1) := by decide +kernel
theorem dX8_worksOne_11 : decode cX8_worksOne 11 = .ok (.getfield 19, 3) := by decide +kernel
theorem dX8_worksOne_14 : decode cX8_worksOne 14 = .ok (.iload_n 1, 1) := by decide +kernel
theorem dX8_worksOne_15 : decode cX8_worksOne 15 = .ok (.invokestatic 106, 3) := by decide +kernel
theorem dX8_worksOne_18 : decode cX8_worksOne 18 = .ok (.ifCond .ne 5, 3) := by decide +kernel
theorem dX8_worksOne_21 : decode cX8_worksOne 21 = .ok (.iconst 0, 1) := by decide +kernel
theorem dX8_worksOne_22 : decode cX8_worksOne 22 = .ok (.ireturn, 1) := by decide +kernel
theorem dX8_worksOne_23 : decode cX8_worksOne 23 = .ok (.aload_n 0, 1) := by decide +kernel
theorem dX8_worksOne_24 : decode cX8_worksOne 24 = .ok (.getfield 19, 3) := by decide +kernel
theorem dX8_worksOne_27 : decode cX8_worksOne 27 = .ok (.iload_n 1, 1) := by decide +kernel
theorem dX8_worksOne_28 : decode cX8_worksOne 28 = .ok (.invokestatic 124, 3) := by decide +kernel
theorem dX8_worksOne_31 : decode cX8_worksOne 31 = .ok (.iconst 1, 1) := by decide +kernel
theorem dX8_worksOne_32 : decode cX8_worksOne 32 = .ok (.ireturn, 1) := by decide +kernel
theorem dX8_rounds_0 : decode cX8_rounds 0 = .ok (.iload_n 1, 1) := by decide +kernel
theorem dX8_rounds_1 : decode cX8_rounds 1 = .ok (.invokestatic 270, 3) := by decide +kernel
theorem dX8_rounds_4 : decode cX8_rounds 4 = .ok (.ifCond .eq 14, 3) := by decide +kernel
theorem dX8_rounds_7 : decode cX8_rounds 7 = .ok (.aload_n 0, 1) := by decide +kernel
theorem dX8_rounds_8 : decode cX8_rounds 8 = .ok (.aload_n 0, 1) := by decide +kernel
theorem dX8_rounds_9 : decode cX8_rounds 9 = .ok (.getfield 19, 3) := by decide +kernel
theorem dX8_rounds_12 : decode cX8_rounds 12 = .ok (.invokevirtual 134, 3) := by decide +kernel
theorem dX8_rounds_15 : decode cX8_rounds 15 = .ok (.ifCond .ne 5, 3) := by decide +kernel
theorem dX8_rounds_18 : decode cX8_rounds 18 = .ok (.iconst 0, 1) := by decide +kernel
theorem dX8_rounds_19 : decode cX8_rounds 19 = .ok (.ireturn, 1) := by decide +kernel
theorem dX8_rounds_20 : decode cX8_rounds 20 = .ok (.aload_n 0, 1) := by decide +kernel
theorem dX8_rounds_21 : decode cX8_rounds 21 = .ok (.getfield 19, 3) := by decide +kernel
theorem dX8_rounds_24 : decode cX8_rounds 24 = .ok (.iconst 0, 1) := by decide +kernel
theorem dX8_rounds_25 : decode cX8_rounds 25 = .ok (.aload_n 0, 1) := by decide +kernel
theorem dX8_rounds_26 : decode cX8_rounds 26 = .ok (.getfield 57, 3) := by decide +kernel
theorem dX8_rounds_29 : decode cX8_rounds 29 = .ok (.iconst 0, 1) := by decide +kernel
theorem dX8_rounds_30 : decode cX8_rounds 30 = .ok (.bipush 96, 2) := by decide +kernel
theorem dX8_rounds_32 : decode cX8_rounds 32 = .ok (.invokestatic 69, 3) := by decide +kernel
theorem dX8_rounds_35 : decode cX8_rounds 35 = .ok (.aload_n 0, 1) := by decide +kernel
theorem dX8_rounds_36 : decode cX8_rounds 36 = .ok (.aload_n 0, 1) := by decide +kernel
theorem dX8_rounds_37 : decode cX8_rounds 37 = .ok (.getfield 19, 3) := by decide +kernel
theorem dX8_rounds_40 : decode cX8_rounds 40 = .ok (.iload_n 1, 1) := by decide +kernel
theorem dX8_rounds_41 : decode cX8_rounds 41 = .ok (.invokevirtual 138, 3) := by decide +kernel
theorem dX8_rounds_44 : decode cX8_rounds 44 = .ok (.aload_n 0, 1) := by decide +kernel
theorem dX8_rounds_45 : decode cX8_rounds 45 = .ok (.getfield 127, 3) := by decide +kernel
theorem dX8_rounds_48 : decode cX8_rounds 48 = .ok (.ifCond .ne 18, 3) := by decide +kernel
theorem dX8_rounds_51 : decode cX8_rounds 51 = .ok (.aload_n 0, 1) := by decide +kernel
theorem dX8_rounds_52 : decode cX8_rounds 52 = .ok (.getfield 57, 3) := by decide +kernel
theorem dX8_rounds_55 : decode cX8_rounds 55 = .ok (.iconst 0, 1) := by decide +kernel
theorem dX8_rounds_56 : decode cX8_rounds 56 = .ok (.aload_n 0, 1) := by decide +kernel
theorem dX8_rounds_57 : decode cX8_rounds 57 = .ok (.getfield 19, 3) := by decide +kernel
theorem dX8_rounds_60 : decode cX8_rounds 60 = .ok (.iconst 0, 1) := by decide +kernel
theorem dX8_rounds_61 : decode cX8_rounds 61 = .ok (.bipush 96, 2) := by decide +kernel
theorem dX8_rounds_63 : decode cX8_rounds 63 = .ok (.invokestatic 69, 3) := by decide +kernel
theorem dX8_rounds_66 : decode cX8_rounds 66 = .ok (.aload_n 0, 1) := by decide +kernel
theorem dX8_rounds_67 : decode cX8_rounds 67 = .ok (.getfield 127, 3) := by decide +kernel
theorem dX8_rounds_70 : decode cX8_rounds 70 = .ok (.ireturn, 1) := by decide +kernel
theorem dX8_does_0 : decode cX8_does 0 = .ok (.iload_n 1, 1) := by decide +kernel
theorem dX8_does_1 : decode cX8_does 1 = .ok (.ldc_w 276, 3) := by decide +kernel
theorem dX8_does_4 : decode cX8_does 4 = .ok (.idiv, 1) := by decide +kernel
theorem dX8_does_5 : decode cX8_does 5 = .ok (.istore_n 2, 1) := by decide +kernel
theorem dX8_does_6 : decode cX8_does 6 = .ok (.iload_n 1, 1) := by decide +kernel
theorem dX8_does_7 : decode cX8_does 7 = .ok (.ldc_w 276, 3) := by decide +kernel
theorem dX8_does_10 : decode cX8_does 10 = .ok (.irem, 1) := by decide +kernel
theorem dX8_does_11 : decode cX8_does 11 = .ok (.istore_n 3, 1) := by decide +kernel
theorem dX8_does_12 : decode cX8_does 12 = .ok (.iload_n 1, 1) := by decide +kernel
theorem dX8_does_13 : decode cX8_does 13 = .ok (.bipush 100, 2) := by decide +kernel
theorem dX8_does_15 : decode cX8_does 15 = .ok (.irem, 1) := by decide +kernel
theorem dX8_does_16 : decode cX8_does 16 = .ok (.istore 4, 2) := by decide +kernel
theorem dX8_does_18 : decode cX8_does 18 = .ok (.iload_n 3, 1) := by decide +kernel
theorem dX8_does_19 : decode cX8_does 19 = .ok (.bipush 100, 2) := by decide +kernel
theorem dX8_does_21 : decode cX8_does 21 = .ok (.idiv, 1) := by decide +kernel
theorem dX8_does_22 : decode cX8_does 22 = .ok (.bipush 100, 2) := by decide +kernel
theorem dX8_does_24 : decode cX8_does 24 = .ok (.irem, 1) := by decide +kernel
theorem dX8_does_25 : decode cX8_does 25 = .ok (.istore 5, 2) := by decide +kernel
theorem dX8_does_27 : decode cX8_does 27 = .ok (.iload_n 2, 1) := by decide +kernel
theorem dX8_does_28 : decode cX8_does 28 = .ok (.tableswitch 302 1 9 #[52, 88, 109, 133, 153, 173, 194, 234, 258], 52) := by decide +kernel
theorem dX8_does_80 : decode cX8_does 80 = .ok (.aload_n 0, 1) := by decide +kernel
theorem dX8_does_81 : decode cX8_does 81 = .ok (.iload_n 3, 1) := by decide +kernel
theorem dX8_does_82 : decode cX8_does 82 = .ok (.sipush 10000, 3) := by decide +kernel
theorem dX8_does_85 : decode cX8_does 85 = .ok (.idiv, 1) := by decide +kernel
theorem dX8_does_86 : decode cX8_does 86 = .ok (.iload_n 3, 1) := by decide +kernel
theorem dX8_does_87 : decode cX8_does 87 = .ok (.sipush 1000, 3) := by decide +kernel
theorem dX8_does_90 : decode cX8_does 90 = .ok (.idiv, 1) := by decide +kernel
theorem dX8_does_91 : decode cX8_does 91 = .ok (.bipush 10, 2) := by decide +kernel
theorem dX8_does_93 : decode cX8_does 93 = .ok (.irem, 1) := by decide +kernel
theorem dX8_does_94 : decode cX8_does 94 = .ok (.iload_n 3, 1) := by decide +kernel
theorem dX8_does_95 : decode cX8_does 95 = .ok (.bipush 100, 2) := by decide +kernel
theorem dX8_does_97 : decode cX8_does 97 = .ok (.idiv, 1) := by decide +kernel
theorem dX8_does_98 : decode cX8_does 98 = .ok (.bipush 10, 2) := by decide +kernel
theorem dX8_does_100 : decode cX8_does 100 = .ok (.irem, 1) := by decide +kernel
theorem dX8_does_101 : decode cX8_does 101 = .ok (.iload_n 3, 1) := by decide +kernel
theorem dX8_does_102 : decode cX8_does 102 = .ok (.bipush 10, 2) := by decide +kernel
theorem dX8_does_104 : decode cX8_does 104 = .ok (.idiv, 1) := by decide +kernel
theorem dX8_does_105 : decode cX8_does 105 = .ok (.bipush 10, 2) := by decide +kernel
theorem dX8_does_107 : decode cX8_does 107 = .ok (.irem, 1) := by decide +kernel
theorem dX8_does_108 : decode cX8_does 108 = .ok (.iload_n 3, 1) := by decide +kernel
theorem dX8_does_109 : decode cX8_does 109 = .ok (.bipush 10, 2) := by decide +kernel
theorem dX8_does_111 : decode cX8_does 111 = .ok (.irem, 1) := by decide +kernel
theorem dX8_does_112 : decode cX8_does 112 = .ok (.invokevirtual 277, 3) := by decide +kernel
theorem dX8_does_115 : decode cX8_does 115 = .ok (.ireturn, 1) := by decide +kernel
theorem dX8_does_116 : decode cX8_does 116 = .ok (.iload_n 3, 1) := by decide +kernel
theorem dX8_does_117 : decode cX8_does 117 = .ok (.bipush 100, 2) := by decide +kernel
theorem dX8_does_119 : decode cX8_does 119 = .ok (.if_icmp .ge 16, 3) := by decide +kernel
theorem dX8_does_122 : decode cX8_does 122 = .ok (.aload_n 0, 1) := by decide +kernel
theorem dX8_does_123 : decode cX8_does 123 = .ok (.iload 4, 2) := by decide +kernel
theorem dX8_does_125 : decode cX8_does 125 = .ok (.invokevirtual 281, 3) := by decide +kernel
theorem dX8_does_128 : decode cX8_does 128 = .ok (.ifCond .eq 7, 3) := by decide +kernel
theorem dX8_does_131 : decode cX8_does 131 = .ok (.iconst 1, 1) := by decide +kernel
theorem dX8_does_132 : decode cX8_does 132 = .ok (.goto 4, 3) := by decide +kernel
theorem dX8_does_135 : decode cX8_does 135 = .ok (.iconst 0, 1) := by decide +kernel
theorem dX8_does_136 : decode cX8_does 136 = .ok (.ireturn, 1) := by decide +kernel
theorem dX8_does_137 : decode cX8_does 137 = .ok (.iload_n 3, 1) := by decide +kernel
theorem dX8_does_138 : decode cX8_does 138 = .ok (.sipush 10000, 3) := by decide +kernel
theorem dX8_does_141 : decode cX8_does 141 = .ok (.if_icmp .ge 18, 3) := by decide +kernel
theorem dX8_does_144 : decode cX8_does 144 = .ok (.aload_n 0, 1) := by decide +kernel
theorem dX8_does_145 : decode cX8_does 145 = .ok (.iload 5, 2) := by decide +kernel
theorem dX8_does_147 : decode cX8_does 147 = .ok (.iload 4, 2) := by decide +kernel
theorem dX8_does_149 : decode cX8_does 149 = .ok (.invokevirtual 284, 3) := by decide +kernel
theorem dX8_does_152 : decode cX8_does 152 = .ok (.ifCond .eq 7, 3) := by decide +kernel
theorem dX8_does_155 : decode cX8_does 155 = .ok (.iconst 1, 1) := by decide +kernel
theorem dX8_does_156 : decode cX8_does 156 = .ok (.goto 4, 3) := by decide +kernel
theorem dX8_does_159 : decode cX8_does 159 = .ok (.iconst 0, 1) := by decide +kernel
theorem dX8_does_160 : decode cX8_does 160 = .ok (.ireturn, 1) := by decide +kernel
theorem dX8_does_161 : decode cX8_does 161 = .ok (.iload_n 3, 1) := by decide +kernel
theorem dX8_does_162 : decode cX8_does 162 = .ok (.bipush 10, 2) := by decide +kernel
theorem dX8_does_164 : decode cX8_does 164 = .ok (.if_icmp .ge 15, 3) := by decide +kernel
theorem dX8_does_167 : decode cX8_does 167 = .ok (.aload_n 0, 1) := by decide +kernel
theorem dX8_does_168 : decode cX8_does 168 = .ok (.iload_n 3, 1) := by decide +kernel
theorem dX8_does_169 : decode cX8_does 169 = .ok (.invokevirtual 288, 3) := by decide +kernel
theorem dX8_does_172 : decode cX8_does 172 = .ok (.ifCond .eq 7, 3) := by decide +kernel
theorem dX8_does_175 : decode cX8_does 175 = .ok (.iconst 1, 1) := by decide +kernel
theorem dX8_does_176 : decode cX8_does 176 = .ok (.goto 4, 3) := by decide +kernel
theorem dX8_does_179 : decode cX8_does 179 = .ok (.iconst 0, 1) := by decide +kernel
theorem dX8_does_180 : decode cX8_does 180 = .ok (.ireturn, 1) := by decide +kernel
theorem dX8_does_181 : decode cX8_does 181 = .ok (.iload_n 3, 1) := by decide +kernel
theorem dX8_does_182 : decode cX8_does 182 = .ok (.bipush 10, 2) := by decide +kernel
theorem dX8_does_184 : decode cX8_does 184 = .ok (.if_icmp .ge 15, 3) := by decide +kernel
theorem dX8_does_187 : decode cX8_does 187 = .ok (.aload_n 0, 1) := by decide +kernel
theorem dX8_does_188 : decode cX8_does 188 = .ok (.iload_n 3, 1) := by decide +kernel
theorem dX8_does_189 : decode cX8_does 189 = .ok (.invokevirtual 291, 3) := by decide +kernel
theorem dX8_does_192 : decode cX8_does 192 = .ok (.ifCond .eq 7, 3) := by decide +kernel
theorem dX8_does_195 : decode cX8_does 195 = .ok (.iconst 1, 1) := by decide +kernel
theorem dX8_does_196 : decode cX8_does 196 = .ok (.goto 4, 3) := by decide +kernel
theorem dX8_does_199 : decode cX8_does 199 = .ok (.iconst 0, 1) := by decide +kernel
theorem dX8_does_200 : decode cX8_does 200 = .ok (.ireturn, 1) := by decide +kernel
theorem dX8_does_201 : decode cX8_does 201 = .ok (.iload_n 3, 1) := by decide +kernel
theorem dX8_does_202 : decode cX8_does 202 = .ok (.ifCond .ne 18, 3) := by decide +kernel
theorem dX8_does_205 : decode cX8_does 205 = .ok (.aload_n 0, 1) := by decide +kernel
theorem dX8_does_206 : decode cX8_does 206 = .ok (.aload_n 0, 1) := by decide +kernel
theorem dX8_does_207 : decode cX8_does 207 = .ok (.getfield 19, 3) := by decide +kernel
theorem dX8_does_210 : decode cX8_does 210 = .ok (.invokevirtual 134, 3) := by decide +kernel
theorem dX8_does_213 : decode cX8_does 213 = .ok (.ifCond .eq 7, 3) := by decide +kernel
theorem dX8_does_216 : decode cX8_does 216 = .ok (.iconst 1, 1) := by decide +kernel
theorem dX8_does_217 : decode cX8_does 217 = .ok (.goto 4, 3) := by decide +kernel
theorem dX8_does_220 : decode cX8_does 220 = .ok (.iconst 0, 1) := by decide +kernel
theorem dX8_does_221 : decode cX8_does 221 = .ok (.ireturn, 1) := by decide +kernel
theorem dX8_does_222 : decode cX8_does 222 = .ok (.iload_n 3, 1) := by decide +kernel
theorem dX8_does_223 : decode cX8_does 223 = .ok (.sipush 10000, 3) := by decide +kernel
theorem dX8_does_226 : decode cX8_does 226 = .ok (.if_icmp .ge 34, 3) := by decide +kernel
theorem dX8_does_229 : decode cX8_does 229 = .ok (.iload 5, 2) := by decide +kernel
theorem dX8_does_231 : decode cX8_does 231 = .ok (.aload_n 0, 1) := by decide +kernel
theorem dX8_does_232 : decode cX8_does 232 = .ok (.getfield 19, 3) := by decide +kernel
theorem dX8_does_235 : decode cX8_does 235 = .ok (.iconst 1, 1) := by decide +kernel
theorem dX8_does_236 : decode cX8_does 236 = .ok (.iaload, 1) := by decide +kernel
theorem dX8_does_237 : decode cX8_does 237 = .ok (.if_icmp .ge 23, 3) := by decide +kernel
theorem dX8_does_240 : decode cX8_does 240 = .ok (.aload_n 0, 1) := by decide +kernel
theorem dX8_does_241 : decode cX8_does 241 = .ok (.getfield 19, 3) := by decide +kernel
theorem dX8_does_244 : decode cX8_does 244 = .ok (.iload 5, 2) := by decide +kernel
theorem dX8_does_246 : decode cX8_does 246 = .ok (.iconst 4, 1) := by decide +kernel
theorem dX8_does_247 : decode cX8_does 247 = .ok (.invokestatic 73, 3) := by decide +kernel
theorem dX8_does_250 : decode cX8_does 250 = .ok (.iaload, 1) := by decide +kernel
theorem dX8_does_251 : decode cX8_does 251 = .ok (.iload 4, 2) := by decide +kernel
theorem dX8_does_253 : decode cX8_does 253 = .ok (.if_icmp .lt 7, 3) := by decide +kernel
theorem dX8_does_256 : decode cX8_does 256 = .ok (.iconst 1, 1) := by decide +kernel
theorem dX8_does_257 : decode cX8_does 257 = .ok (.goto 4, 3) := by decide +kernel
theorem dX8_does_260 : decode cX8_does 260 = .ok (.iconst 0, 1) := by decide +kernel
theorem dX8_does_261 : decode cX8_does 261 = .ok (.ireturn, 1) := by decide +kernel
theorem dX8_does_262 : decode cX8_does 262 = .ok (.iload_n 3, 1) := by decide +kernel
theorem dX8_does_263 : decode cX8_does 263 = .ok (.sipush 1000, 3) := by decide +kernel
theorem dX8_does_266 : decode cX8_does 266 = .ok (.if_icmp .ge 18, 3) := by decide +kernel
theorem dX8_does_269 : decode cX8_does 269 = .ok (.aload_n 0, 1) := by decide +kernel
theorem dX8_does_270 : decode cX8_does 270 = .ok (.getfield 19, 3) := by decide +kernel
theorem dX8_does_273 : decode cX8_does 273 = .ok (.invokestatic 218, 3) := by decide +kernel
theorem dX8_does_276 : decode cX8_does 276 = .ok (.iload_n 3, 1) := by decide +kernel
theorem dX8_does_277 : decode cX8_does 277 = .ok (.if_icmp .gt 7, 3) := by decide +kernel
theorem dX8_does_280 : decode cX8_does 280 = .ok (.iconst 1, 1) := by decide +kernel
theorem dX8_does_281 : decode cX8_does 281 = .ok (.goto 4, 3) := by decide +kernel
theorem dX8_does_284 : decode cX8_does 284 = .ok (.iconst 0, 1) := by decide +kernel
theorem dX8_does_285 : decode cX8_does 285 = .ok (.ireturn, 1) := by decide +kernel
theorem dX8_does_286 : decode cX8_does 286 = .ok (.iload_n 3, 1) := by decide +kernel
theorem dX8_does_287 : decode cX8_does 287 = .ok (.sipush 1000, 3) := by decide +kernel
theorem dX8_does_290 : decode cX8_does 290 = .ok (.if_icmp .ge 38, 3) := by decide +kernel
theorem dX8_does_293 : decode cX8_does 293 = .ok (.iload_n 3, 1) := by decide +kernel
theorem dX8_does_294 : decode cX8_does 294 = .ok (.bipush 100, 2) := by decide +kernel
theorem dX8_does_296 : decode cX8_does 296 = .ok (.idiv, 1) := by decide +kernel
theorem dX8_does_297 : decode cX8_does 297 = .ok (.aload_n 0, 1) := by decide +kernel
theorem dX8_does_298 : decode cX8_does 298 = .ok (.getfield 19, 3) := by decide +kernel
theorem dX8_does_301 : decode cX8_does 301 = .ok (.iconst 0, 1) := by decide +kernel
theorem dX8_does_302 : decode cX8_does 302 = .ok (.iaload, 1) := by decide +kernel
theorem dX8_does_303 : decode cX8_does 303 = .ok (.if_icmp .ge 25, 3) := by decide +kernel
theorem dX8_does_306 : decode cX8_does 306 = .ok (.aload_n 0, 1) := by decide +kernel
theorem dX8_does_307 : decode cX8_does 307 = .ok (.getfield 19, 3) := by decide +kernel
theorem dX8_does_310 : decode cX8_does 310 = .ok (.iload_n 3, 1) := by decide +kernel
theorem dX8_does_311 : decode cX8_does 311 = .ok (.bipush 100, 2) := by decide +kernel
theorem dX8_does_313 : decode cX8_does 313 = .ok (.idiv, 1) := by decide +kernel
theorem dX8_does_314 : decode cX8_does 314 = .ok (.iconst 2, 1) := by decide +kernel
theorem dX8_does_315 : decode cX8_does 315 = .ok (.invokestatic 77, 3) := by decide +kernel
theorem dX8_does_318 : decode cX8_does 318 = .ok (.iaload, 1) := by decide +kernel
theorem dX8_does_319 : decode cX8_does 319 = .ok (.iload 4, 2) := by decide +kernel
theorem dX8_does_321 : decode cX8_does 321 = .ok (.if_icmp .lt 7, 3) := by decide +kernel
theorem dX8_does_324 : decode cX8_does 324 = .ok (.iconst 1, 1) := by decide +kernel
theorem dX8_does_325 : decode cX8_does 325 = .ok (.goto 4, 3) := by decide +kernel
theorem dX8_does_328 : decode cX8_does 328 = .ok (.iconst 0, 1) := by decide +kernel
theorem dX8_does_329 : decode cX8_does 329 = .ok (.ireturn, 1) := by decide +kernel
theorem dX8_does_330 : decode cX8_does 330 = .ok (.iconst 0, 1) := by decide +kernel
theorem dX8_does_331 : decode cX8_does 331 = .ok (.ireturn, 1) := by decide +kernel
theorem dX8_runScript_0 : decode cX8_runScript 0 = .ok (.iload_n 1, 1) := by decide +kernel
theorem dX8_runScript_1 : decode cX8_runScript 1 = .ok (.i2l, 1) := by decide +kernel
theorem dX8_runScript_2 : decode cX8_runScript 2 = .ok (.lconst 1, 1) := by decide +kernel
theorem dX8_runScript_3 : decode cX8_runScript 3 = .ok (.ldc2_w 247, 3) := by decide +kernel
theorem dX8_runScript_6 : decode cX8_runScript 6 = .ok (.invokestatic 146, 3) := by decide +kernel
theorem dX8_runScript_9 : decode cX8_runScript 9 = .ok (.istore 4, 2) := by decide +kernel
theorem dX8_runScript_11 : decode cX8_runScript 11 = .ok (.aload_n 0, 1) := by decide +kernel
theorem dX8_runScript_12 : decode cX8_runScript 12 = .ok (.iload 4, 2) := by decide +kernel
theorem dX8_runScript_14 : decode cX8_runScript 14 = .ok (.ifCond .eq 33, 3) := by decide +kernel
theorem dX8_runScript_17 : decode cX8_runScript 17 = .ok (.lload_n 2, 1) := by decide +kernel
theorem dX8_runScript_18 : decode cX8_runScript 18 = .ok (.lconst 0, 1) := by decide +kernel
theorem dX8_runScript_19 : decode cX8_runScript 19 = .ok (.iload 4, 2) := by decide +kernel
theorem dX8_runScript_21 : decode cX8_runScript 21 = .ok (.ifCond .eq 10, 3) := by decide +kernel
theorem dX8_runScript_24 : decode cX8_runScript 24 = .ok (.bipush 6, 2) := by decide +kernel
theorem dX8_runScript_26 : decode cX8_runScript 26 = .ok (.iload_n 1, 1) := by decide +kernel
theorem dX8_runScript_27 : decode cX8_runScript 27 = .ok (.imul, 1) := by decide +kernel
theorem dX8_runScript_28 : decode cX8_runScript 28 = .ok (.goto 4, 3) := by decide +kernel
theorem dX8_runScript_31 : decode cX8_runScript 31 = .ok (.iconst 0, 1) := by decide +kernel
theorem dX8_runScript_32 : decode cX8_runScript 32 = .ok (.invokestatic 294, 3) := by decide +kernel
theorem dX8_runScript_35 : decode cX8_runScript 35 = .ok (.lconst 1, 1) := by decide +kernel
theorem dX8_runScript_36 : decode cX8_runScript 36 = .ok (.lsub, 1) := by decide +kernel
theorem dX8_runScript_37 : decode cX8_runScript 37 = .ok (.invokestatic 146, 3) := by decide +kernel
theorem dX8_runScript_40 : decode cX8_runScript 40 = .ok (.ifCond .eq 7, 3) := by decide +kernel
theorem dX8_runScript_43 : decode cX8_runScript 43 = .ok (.iconst 0, 1) := by decide +kernel
theorem dX8_runScript_44 : decode cX8_runScript 44 = .ok (.goto 4, 3) := by decide +kernel
theorem dX8_runScript_47 : decode cX8_runScript 47 = .ok (.iconst 1, 1) := by decide +kernel
theorem dX8_runScript_48 : decode cX8_runScript 48 = .ok (.invokevirtual 153, 3) := by decide +kernel
theorem dX8_runScript_51 : decode cX8_runScript 51 = .ok (.ifCond .eq 5, 3) := by decide +kernel
theorem dX8_runScript_54 : decode cX8_runScript 54 = .ok (.iconst 0, 1) := by decide +kernel
theorem dX8_runScript_55 : decode cX8_runScript 55 = .ok (.ireturn, 1) := by decide +kernel
theorem dX8_runScript_56 : decode cX8_runScript 56 = .ok (.aload_n 0, 1) := by decide +kernel
theorem dX8_runScript_57 : decode cX8_runScript 57 = .ok (.invokevirtual 131, 3) := by decide +kernel
theorem dX8_runScript_60 : decode cX8_runScript 60 = .ok (.iconst 0, 1) := by decide +kernel
theorem dX8_runScript_61 : decode cX8_runScript 61 = .ok (.istore 5, 2) := by decide +kernel
theorem dX8_runScript_63 : decode cX8_runScript 63 = .ok (.iload 5, 2) := by decide +kernel
theorem dX8_runScript_65 : decode cX8_runScript 65 = .ok (.iload_n 1, 1) := by decide +kernel
theorem dX8_runScript_66 : decode cX8_runScript 66 = .ok (.if_icmp .ge 38, 3) := by decide +kernel
theorem dX8_runScript_69 : decode cX8_runScript 69 = .ok (.aload_n 0, 1) := by decide +kernel
theorem dX8_runScript_70 : decode cX8_runScript 70 = .ok (.lload_n 2, 1) := by decide +kernel
theorem dX8_runScript_71 : decode cX8_runScript 71 = .ok (.bipush 6, 2) := by decide +kernel
theorem dX8_runScript_73 : decode cX8_runScript 73 = .ok (.iload_n 1, 1) := by decide +kernel
theorem dX8_runScript_74 : decode cX8_runScript 74 = .ok (.iconst 1, 1) := by decide +kernel
theorem dX8_runScript_75 : decode cX8_runScript 75 = .ok (.isub, 1) := by decide +kernel
theorem dX8_runScript_76 : decode cX8_runScript 76 = .ok (.iload 5, 2) := by decide +kernel
theorem dX8_runScript_78 : decode cX8_runScript 78 = .ok (.isub, 1) := by decide +kernel
theorem dX8_runScript_79 : decode cX8_runScript 79 = .ok (.imul, 1) := by decide +kernel
theorem dX8_runScript_80 : decode cX8_runScript 80 = .ok (.invokestatic 294, 3) := by decide +kernel
theorem dX8_runScript_83 : decode cX8_runScript 83 = .ok (.ldiv, 1) := by decide +kernel
theorem dX8_runScript_84 : decode cX8_runScript 84 = .ok (.ldc2_w 298, 3) := by decide +kernel
theorem dX8_runScript_87 : decode cX8_runScript 87 = .ok (.lrem, 1) := by decide +kernel
theorem dX8_runScript_88 : decode cX8_runScript 88 = .ok (.l2i, 1) := by decide +kernel
theorem dX8_runScript_89 : decode cX8_runScript 89 = .ok (.invokevirtual 300, 3) := by decide +kernel
theorem dX8_runScript_92 : decode cX8_runScript 92 = .ok (.ifCond .ne 6, 3) := by decide +kernel
theorem dX8_runScript_95 : decode cX8_runScript 95 = .ok (.iload 5, 2) := by decide +kernel
theorem dX8_runScript_97 : decode cX8_runScript 97 = .ok (.ireturn, 1) := by decide +kernel
theorem dX8_runScript_98 : decode cX8_runScript 98 = .ok (.iinc 5 1, 3) := by decide +kernel
theorem dX8_runScript_101 : decode cX8_runScript 101 = .ok (.goto (-38), 3) := by decide +kernel
theorem dX8_runScript_104 : decode cX8_runScript 104 = .ok (.iconst (-1), 1) := by decide +kernel
theorem dX8_runScript_105 : decode cX8_runScript 105 = .ok (.ireturn, 1) := by decide +kernel
theorem dX8_stir_0 : decode cX8_stir 0 = .ok (.iload_n 1, 1) := by decide +kernel
theorem dX8_stir_1 : decode cX8_stir 1 = .ok (.bipush 8, 2) := by decide +kernel
theorem dX8_stir_3 : decode cX8_stir 3 = .ok (.idiv, 1) := by decide +kernel
theorem dX8_stir_4 : decode cX8_stir 4 = .ok (.bipush 8, 2) := by decide +kernel
theorem dX8_stir_6 : decode cX8_stir 6 = .ok (.irem, 1) := by decide +kernel
theorem dX8_stir_7 : decode cX8_stir 7 = .ok (.istore_n 2, 1) := by decide +kernel
theorem dX8_stir_8 : decode cX8_stir 8 = .ok (.iload_n 1, 1) := by decide +kernel
theorem dX8_stir_9 : decode cX8_stir 9 = .ok (.bipush 8, 2) := by decide +kernel
theorem dX8_stir_11 : decode cX8_stir 11 = .ok (.irem, 1) := by decide +kernel
theorem dX8_stir_12 : decode cX8_stir 12 = .ok (.tableswitch 101 0 2 #[28, 70, 86], 28) := by decide +kernel
theorem dX8_stir_40 : decode cX8_stir 40 = .ok (.aload_n 0, 1) := by decide +kernel
theorem dX8_stir_41 : decode cX8_stir 41 = .ok (.iload_n 2, 1) := by decide +kernel
theorem dX8_stir_42 : decode cX8_stir 42 = .ok (.iload_n 1, 1) := by decide +kernel
theorem dX8_stir_43 : decode cX8_stir 43 = .ok (.bipush 64, 2) := by decide +kernel
theorem dX8_stir_45 : decode cX8_stir 45 = .ok (.idiv, 1) := by decide +kernel
theorem dX8_stir_46 : decode cX8_stir 46 = .ok (.bipush 8, 2) := by decide +kernel
theorem dX8_stir_48 : decode cX8_stir 48 = .ok (.irem, 1) := by decide +kernel
theorem dX8_stir_49 : decode cX8_stir 49 = .ok (.iconst 1, 1) := by decide +kernel
theorem dX8_stir_50 : decode cX8_stir 50 = .ok (.iload_n 1, 1) := by decide +kernel
theorem dX8_stir_51 : decode cX8_stir 51 = .ok (.sipush 512, 3) := by decide +kernel
theorem dX8_stir_54 : decode cX8_stir 54 = .ok (.idiv, 1) := by decide +kernel
theorem dX8_stir_55 : decode cX8_stir 55 = .ok (.iconst 3, 1) := by decide +kernel
theorem dX8_stir_56 : decode cX8_stir 56 = .ok (.irem, 1) := by decide +kernel
theorem dX8_stir_57 : decode cX8_stir 57 = .ok (.iadd, 1) := by decide +kernel
theorem dX8_stir_58 : decode cX8_stir 58 = .ok (.iconst 1, 1) := by decide +kernel
theorem dX8_stir_59 : decode cX8_stir 59 = .ok (.iload_n 1, 1) := by decide +kernel
theorem dX8_stir_60 : decode cX8_stir 60 = .ok (.sipush 2048, 3) := by decide +kernel
theorem dX8_stir_63 : decode cX8_stir 63 = .ok (.idiv, 1) := by decide +kernel
theorem dX8_stir_64 : decode cX8_stir 64 = .ok (.iconst 3, 1) := by decide +kernel
theorem dX8_stir_65 : decode cX8_stir 65 = .ok (.irem, 1) := by decide +kernel
theorem dX8_stir_66 : decode cX8_stir 66 = .ok (.iadd, 1) := by decide +kernel
theorem dX8_stir_67 : decode cX8_stir 67 = .ok (.iload_n 1, 1) := by decide +kernel
theorem dX8_stir_68 : decode cX8_stir 68 = .ok (.sipush 8192, 3) := by decide +kernel
theorem dX8_stir_71 : decode cX8_stir 71 = .ok (.idiv, 1) := by decide +kernel
theorem dX8_stir_72 : decode cX8_stir 72 = .ok (.bipush 8, 2) := by decide +kernel
theorem dX8_stir_74 : decode cX8_stir 74 = .ok (.irem, 1) := by decide +kernel
theorem dX8_stir_75 : decode cX8_stir 75 = .ok (.invokevirtual 277, 3) := by decide +kernel
theorem dX8_stir_78 : decode cX8_stir 78 = .ok (.pop, 1) := by decide +kernel
theorem dX8_stir_79 : decode cX8_stir 79 = .ok (.goto 40, 3) := by decide +kernel
theorem dX8_stir_82 : decode cX8_stir 82 = .ok (.aload_n 0, 1) := by decide +kernel
theorem dX8_stir_83 : decode cX8_stir 83 = .ok (.iload_n 1, 1) := by decide +kernel
theorem dX8_stir_84 : decode cX8_stir 84 = .ok (.sipush 512, 3) := by decide +kernel
theorem dX8_stir_87 : decode cX8_stir 87 = .ok (.idiv, 1) := by decide +kernel
theorem dX8_stir_88 : decode cX8_stir 88 = .ok (.bipush 14, 2) := by decide +kernel
theorem dX8_stir_90 : decode cX8_stir 90 = .ok (.irem, 1) := by decide +kernel
theorem dX8_stir_91 : decode cX8_stir 91 = .ok (.invokevirtual 281, 3) := by decide +kernel
theorem dX8_stir_94 : decode cX8_stir 94 = .ok (.pop, 1) := by decide +kernel
theorem dX8_stir_95 : decode cX8_stir 95 = .ok (.goto 24, 3) := by decide +kernel
theorem dX8_stir_98 : decode cX8_stir 98 = .ok (.aload_n 0, 1) := by decide +kernel
theorem dX8_stir_99 : decode cX8_stir 99 = .ok (.iload_n 1, 1) := by decide +kernel
theorem dX8_stir_100 : decode cX8_stir 100 = .ok (.sipush 512, 3) := by decide +kernel
theorem dX8_stir_103 : decode cX8_stir 103 = .ok (.idiv, 1) := by decide +kernel
theorem dX8_stir_104 : decode cX8_stir 104 = .ok (.iconst 3, 1) := by decide +kernel
theorem dX8_stir_105 : decode cX8_stir 105 = .ok (.irem, 1) := by decide +kernel
theorem dX8_stir_106 : decode cX8_stir 106 = .ok (.invokevirtual 291, 3) := by decide +kernel
theorem dX8_stir_109 : decode cX8_stir 109 = .ok (.pop, 1) := by decide +kernel
theorem dX8_stir_110 : decode cX8_stir 110 = .ok (.goto 9, 3) := by decide +kernel
theorem dX8_stir_113 : decode cX8_stir 113 = .ok (.aload_n 0, 1) := by decide +kernel
theorem dX8_stir_114 : decode cX8_stir 114 = .ok (.iload_n 2, 1) := by decide +kernel
theorem dX8_stir_115 : decode cX8_stir 115 = .ok (.invokevirtual 288, 3) := by decide +kernel
theorem dX8_stir_118 : decode cX8_stir 118 = .ok (.pop, 1) := by decide +kernel
theorem dX8_stir_119 : decode cX8_stir 119 = .ok (.return_, 1) := by decide +kernel
theorem dX8_simulate_0 : decode cX8_simulate 0 = .ok (.aload_n 0, 1) := by decide +kernel
theorem dX8_simulate_1 : decode cX8_simulate 1 = .ok (.iload_n 3, 1) := by decide +kernel
theorem dX8_simulate_2 : decode cX8_simulate 2 = .ok (.i2l, 1) := by decide +kernel
theorem dX8_simulate_3 : decode cX8_simulate 3 = .ok (.lconst 1, 1) := by decide +kernel
theorem dX8_simulate_4 : decode cX8_simulate 4 = .ok (.ldc2_w 257, 3) := by decide +kernel
theorem dX8_simulate_7 : decode cX8_simulate 7 = .ok (.invokestatic 146, 3) := by decide +kernel
theorem dX8_simulate_10 : decode cX8_simulate 10 = .ok (.ifCond .eq 7, 3) := by decide +kernel
theorem dX8_simulate_13 : decode cX8_simulate 13 = .ok (.iconst 0, 1) := by decide +kernel
theorem dX8_simulate_14 : decode cX8_simulate 14 = .ok (.goto 4, 3) := by decide +kernel
theorem dX8_simulate_17 : decode cX8_simulate 17 = .ok (.iconst 1, 1) := by decide +kernel
theorem dX8_simulate_18 : decode cX8_simulate 18 = .ok (.invokevirtual 153, 3) := by decide +kernel
theorem dX8_simulate_21 : decode cX8_simulate 21 = .ok (.ifCond .eq 5, 3) := by decide +kernel
theorem dX8_simulate_24 : decode cX8_simulate 24 = .ok (.iconst 0, 1) := by decide +kernel
theorem dX8_simulate_25 : decode cX8_simulate 25 = .ok (.ireturn, 1) := by decide +kernel
theorem dX8_simulate_26 : decode cX8_simulate 26 = .ok (.aload_n 0, 1) := by decide +kernel
theorem dX8_simulate_27 : decode cX8_simulate 27 = .ok (.invokevirtual 131, 3) := by decide +kernel
theorem dX8_simulate_30 : decode cX8_simulate 30 = .ok (.lload_n 1, 1) := by decide +kernel
theorem dX8_simulate_31 : decode cX8_simulate 31 = .ok (.lstore 4, 2) := by decide +kernel
theorem dX8_simulate_33 : decode cX8_simulate 33 = .ok (.iconst 0, 1) := by decide +kernel
theorem dX8_simulate_34 : decode cX8_simulate 34 = .ok (.istore 6, 2) := by decide +kernel
theorem dX8_simulate_36 : decode cX8_simulate 36 = .ok (.iload 6, 2) := by decide +kernel
theorem dX8_simulate_38 : decode cX8_simulate 38 = .ok (.iload_n 3, 1) := by decide +kernel
theorem dX8_simulate_39 : decode cX8_simulate 39 = .ok (.if_icmp .ge 31, 3) := by decide +kernel
theorem dX8_simulate_42 : decode cX8_simulate 42 = .ok (.lload 4, 2) := by decide +kernel
theorem dX8_simulate_44 : decode cX8_simulate 44 = .ok (.ldc2_w 303, 3) := by decide +kernel
theorem dX8_simulate_47 : decode cX8_simulate 47 = .ok (.lmul, 1) := by decide +kernel
theorem dX8_simulate_48 : decode cX8_simulate 48 = .ok (.ldc2_w 305, 3) := by decide +kernel
theorem dX8_simulate_51 : decode cX8_simulate 51 = .ok (.ladd, 1) := by decide +kernel
theorem dX8_simulate_52 : decode cX8_simulate 52 = .ok (.lstore 4, 2) := by decide +kernel
theorem dX8_simulate_54 : decode cX8_simulate 54 = .ok (.aload_n 0, 1) := by decide +kernel
theorem dX8_simulate_55 : decode cX8_simulate 55 = .ok (.lload 4, 2) := by decide +kernel
theorem dX8_simulate_57 : decode cX8_simulate 57 = .ok (.bipush 33, 2) := by decide +kernel
theorem dX8_simulate_59 : decode cX8_simulate 59 = .ok (.lushr, 1) := by decide +kernel
theorem dX8_simulate_60 : decode cX8_simulate 60 = .ok (.l2i, 1) := by decide +kernel
theorem dX8_simulate_61 : decode cX8_simulate 61 = .ok (.invokevirtual 307, 3) := by decide +kernel
theorem dX8_simulate_64 : decode cX8_simulate 64 = .ok (.iinc 6 1, 3) := by decide +kernel
theorem dX8_simulate_67 : decode cX8_simulate 67 = .ok (.goto (-31), 3) := by decide +kernel
theorem dX8_simulate_70 : decode cX8_simulate 70 = .ok (.aload_n 0, 1) := by decide +kernel
theorem dX8_simulate_71 : decode cX8_simulate 71 = .ok (.getfield 19, 3) := by decide +kernel
theorem dX8_simulate_74 : decode cX8_simulate 74 = .ok (.invokestatic 222, 3) := by decide +kernel
theorem dX8_simulate_77 : decode cX8_simulate 77 = .ok (.aload_n 0, 1) := by decide +kernel
theorem dX8_simulate_78 : decode cX8_simulate 78 = .ok (.getfield 16, 3) := by decide +kernel
theorem dX8_simulate_81 : decode cX8_simulate 81 = .ok (.invokestatic 222, 3) := by decide +kernel
theorem dX8_simulate_84 : decode cX8_simulate 84 = .ok (.isub, 1) := by decide +kernel
theorem dX8_simulate_85 : decode cX8_simulate 85 = .ok (.istore 6, 2) := by decide +kernel
theorem dX8_simulate_87 : decode cX8_simulate 87 = .ok (.aload_n 0, 1) := by decide +kernel
theorem dX8_simulate_88 : decode cX8_simulate 88 = .ok (.getfield 19, 3) := by decide +kernel
theorem dX8_simulate_91 : decode cX8_simulate 91 = .ok (.invokestatic 218, 3) := by decide +kernel
theorem dX8_simulate_94 : decode cX8_simulate 94 = .ok (.istore 7, 2) := by decide +kernel
theorem dX8_simulate_96 : decode cX8_simulate 96 = .ok (.sipush 1000, 3) := by decide +kernel
theorem dX8_simulate_99 : decode cX8_simulate 99 = .ok (.iload 6, 2) := by decide +kernel
theorem dX8_simulate_101 : decode cX8_simulate 101 = .ok (.sipush 999, 3) := by decide +kernel
theorem dX8_simulate_104 : decode cX8_simulate 104 = .ok (.if_icmp .le 9, 3) := by decide +kernel
theorem dX8_simulate_107 : decode cX8_simulate 107 = .ok (.sipush 999, 3) := by decide +kernel
theorem dX8_simulate_110 : decode cX8_simulate 110 = .ok (.goto 5, 3) := by decide +kernel
theorem dX8_simulate_113 : decode cX8_simulate 113 = .ok (.iload 6, 2) := by decide +kernel
theorem dX8_simulate_115 : decode cX8_simulate 115 = .ok (.imul, 1) := by decide +kernel
theorem dX8_simulate_116 : decode cX8_simulate 116 = .ok (.iload 7, 2) := by decide +kernel
theorem dX8_simulate_118 : decode cX8_simulate 118 = .ok (.sipush 999, 3) := by decide +kernel
theorem dX8_simulate_121 : decode cX8_simulate 121 = .ok (.if_icmp .le 9, 3) := by decide +kernel
theorem dX8_simulate_124 : decode cX8_simulate 124 = .ok (.sipush 999, 3) := by decide +kernel
theorem dX8_simulate_127 : decode cX8_simulate 127 = .ok (.goto 5, 3) := by decide +kernel
theorem dX8_simulate_130 : decode cX8_simulate 130 = .ok (.iload 7, 2) := by decide +kernel
theorem dX8_simulate_132 : decode cX8_simulate 132 = .ok (.iadd, 1) := by decide +kernel
theorem dX8_simulate_133 : decode cX8_simulate 133 = .ok (.ireturn, 1) := by decide +kernel
theorem dX8_save_0 : decode cX8_save 0 = .ok (.aload_n 0, 1) := by decide +kernel
theorem dX8_save_1 : decode cX8_save 1 = .ok (.iload_n 1, 1) := by decide +kernel
theorem dX8_save_2 : decode cX8_save 2 = .ok (.i2l, 1) := by decide +kernel
theorem dX8_save_3 : decode cX8_save 3 = .ok (.lconst 0, 1) := by decide +kernel
theorem dX8_save_4 : decode cX8_save 4 = .ok (.lconst 1, 1) := by decide +kernel
theorem dX8_save_5 : decode cX8_save 5 = .ok (.invokestatic 146, 3) := by decide +kernel
theorem dX8_save_8 : decode cX8_save 8 = .ok (.ifCond .eq 7, 3) := by decide +kernel
theorem dX8_save_11 : decode cX8_save 11 = .ok (.iconst 0, 1) := by decide +kernel
theorem dX8_save_12 : decode cX8_save 12 = .ok (.goto 4, 3) := by decide +kernel
theorem dX8_save_15 : decode cX8_save 15 = .ok (.iconst 1, 1) := by decide +kernel
theorem dX8_save_16 : decode cX8_save 16 = .ok (.invokevirtual 153, 3) := by decide +kernel
theorem dX8_save_19 : decode cX8_save 19 = .ok (.ifCond .eq 5, 3) := by decide +kernel
theorem dX8_save_22 : decode cX8_save 22 = .ok (.iconst 0, 1) := by decide +kernel
theorem dX8_save_23 : decode cX8_save 23 = .ok (.ireturn, 1) := by decide +kernel
theorem dX8_save_24 : decode cX8_save 24 = .ok (.aload_n 0, 1) := by decide +kernel
theorem dX8_save_25 : decode cX8_save 25 = .ok (.getfield 16, 3) := by decide +kernel
theorem dX8_save_28 : decode cX8_save 28 = .ok (.iconst 0, 1) := by decide +kernel
theorem dX8_save_29 : decode cX8_save 29 = .ok (.aload_n 0, 1) := by decide +kernel
theorem dX8_save_30 : decode cX8_save 30 = .ok (.getfield 25, 3) := by decide +kernel
theorem dX8_save_33 : decode cX8_save 33 = .ok (.bipush 96, 2) := by decide +kernel
theorem dX8_save_35 : decode cX8_save 35 = .ok (.iload_n 1, 1) := by decide +kernel
theorem dX8_save_36 : decode cX8_save 36 = .ok (.imul, 1) := by decide +kernel
theorem dX8_save_37 : decode cX8_save 37 = .ok (.bipush 96, 2) := by decide +kernel
theorem dX8_save_39 : decode cX8_save 39 = .ok (.invokestatic 69, 3) := by decide +kernel
theorem dX8_save_42 : decode cX8_save 42 = .ok (.aload_n 0, 1) := by decide +kernel
theorem dX8_save_43 : decode cX8_save 43 = .ok (.getfield 28, 3) := by decide +kernel
theorem dX8_save_46 : decode cX8_save 46 = .ok (.iload_n 1, 1) := by decide +kernel
theorem dX8_save_47 : decode cX8_save 47 = .ok (.iconst 1, 1) := by decide +kernel
theorem dX8_save_48 : decode cX8_save 48 = .ok (.bastore, 1) := by decide +kernel
theorem dX8_save_49 : decode cX8_save 49 = .ok (.aload_n 0, 1) := by decide +kernel
theorem dX8_save_50 : decode cX8_save 50 = .ok (.getfield 16, 3) := by decide +kernel
theorem dX8_save_53 : decode cX8_save 53 = .ok (.iconst 1, 1) := by decide +kernel
theorem dX8_save_54 : decode cX8_save 54 = .ok (.iaload, 1) := by decide +kernel
theorem dX8_save_55 : decode cX8_save 55 = .ok (.ireturn, 1) := by decide +kernel
theorem dX8_restore_0 : decode cX8_restore 0 = .ok (.aload_n 0, 1) := by decide +kernel
theorem dX8_restore_1 : decode cX8_restore 1 = .ok (.iload_n 1, 1) := by decide +kernel
theorem dX8_restore_2 : decode cX8_restore 2 = .ok (.i2l, 1) := by decide +kernel
theorem dX8_restore_3 : decode cX8_restore 3 = .ok (.lconst 0, 1) := by decide +kernel
theorem dX8_restore_4 : decode cX8_restore 4 = .ok (.lconst 1, 1) := by decide +kernel
theorem dX8_restore_5 : decode cX8_restore 5 = .ok (.invokestatic 146, 3) := by decide +kernel
theorem dX8_restore_8 : decode cX8_restore 8 = .ok (.ifCond .ne 7, 3) := by decide +kernel
theorem dX8_restore_11 : decode cX8_restore 11 = .ok (.iconst 1, 1) := by decide +kernel
theorem dX8_restore_12 : decode cX8_restore 12 = .ok (.goto 17, 3) := by decide +kernel
theorem dX8_restore_15 : decode cX8_restore 15 = .ok (.aload_n 0, 1) := by decide +kernel
theorem dX8_restore_16 : decode cX8_restore 16 = .ok (.getfield 28, 3) := by decide +kernel
theorem dX8_restore_19 : decode cX8_restore 19 = .ok (.iload_n 1, 1) := by decide +kernel
theorem dX8_restore_20 : decode cX8_restore 20 = .ok (.baload, 1) := by decide +kernel
theorem dX8_restore_21 : decode cX8_restore 21 = .ok (.ifCond .eq 7, 3) := by decide +kernel
theorem dX8_restore_24 : decode cX8_restore 24 = .ok (.iconst 0, 1) := by decide +kernel
theorem dX8_restore_25 : decode cX8_restore 25 = .ok (.goto 4, 3) := by decide +kernel
theorem dX8_restore_28 : decode cX8_restore 28 = .ok (.iconst 2, 1) := by decide +kernel
theorem dX8_restore_29 : decode cX8_restore 29 = .ok (.invokevirtual 153, 3) := by decide +kernel
theorem dX8_restore_32 : decode cX8_restore 32 = .ok (.ifCond .eq 5, 3) := by decide +kernel
theorem dX8_restore_35 : decode cX8_restore 35 = .ok (.iconst 0, 1) := by decide +kernel
theorem dX8_restore_36 : decode cX8_restore 36 = .ok (.ireturn, 1) := by decide +kernel
theorem dX8_restore_37 : decode cX8_restore 37 = .ok (.aload_n 0, 1) := by decide +kernel
theorem dX8_restore_38 : decode cX8_restore 38 = .ok (.getfield 25, 3) := by decide +kernel
theorem dX8_restore_41 : decode cX8_restore 41 = .ok (.bipush 96, 2) := by decide +kernel
theorem dX8_restore_43 : decode cX8_restore 43 = .ok (.iload_n 1, 1) := by decide +kernel
theorem dX8_restore_44 : decode cX8_restore 44 = .ok (.imul, 1) := by decide +kernel
theorem dX8_restore_45 : decode cX8_restore 45 = .ok (.aload_n 0, 1) := by decide +kernel
theorem dX8_restore_46 : decode cX8_restore 46 = .ok (.getfield 16, 3) := by decide +kernel
theorem dX8_restore_49 : decode cX8_restore 49 = .ok (.iconst 0, 1) := by decide +kernel
theorem dX8_restore_50 : decode cX8_restore 50 = .ok (.bipush 96, 2) := by decide +kernel
theorem dX8_restore_52 : decode cX8_restore 52 = .ok (.invokestatic 69, 3) := by decide +kernel
theorem dX8_restore_55 : decode cX8_restore 55 = .ok (.aload_n 0, 1) := by decide +kernel
theorem dX8_restore_56 : decode cX8_restore 56 = .ok (.iconst 0, 1) := by decide +kernel
theorem dX8_restore_57 : decode cX8_restore 57 = .ok (.putfield 66, 3) := by decide +kernel
theorem dX8_restore_60 : decode cX8_restore 60 = .ok (.aload_n 0, 1) := by decide +kernel
theorem dX8_restore_61 : decode cX8_restore 61 = .ok (.getfield 16, 3) := by decide +kernel
theorem dX8_restore_64 : decode cX8_restore 64 = .ok (.iconst 1, 1) := by decide +kernel
theorem dX8_restore_65 : decode cX8_restore 65 = .ok (.iaload, 1) := by decide +kernel
theorem dX8_restore_66 : decode cX8_restore 66 = .ok (.ireturn, 1) := by decide +kernel
end
section
theorem dL_append_0 : decode cL_append 0 = .ok (.aload_n 2, 1) := by decide +kernel
theorem dL_append_1 : decode cL_append 1 = .ok (.iconst 0, 1) := by decide +kernel
theorem dL_append_2 : decode cL_append 2 = .ok (.aload_n 0, 1) := by decide +kernel
theorem dL_append_3 : decode cL_append 3 = .ok (.iload_n 1, 1) := by decide +kernel
theorem dL_append_4 : decode cL_append 4 = .ok (.invokevirtual 7, 3) := by decide +kernel
theorem dL_append_7 : decode cL_append 7 = .ok (.i2l, 1) := by decide +kernel
theorem dL_append_8 : decode cL_append 8 = .ok (.lastore, 1) := by decide +kernel
theorem dL_append_9 : decode cL_append 9 = .ok (.goto 9, 3) := by decide +kernel
theorem dL_append_12 : decode cL_append 12 = .ok (.astore_n 3, 1) := by decide +kernel
theorem dL_append_13 : decode cL_append 13 = .ok (.iconst 1, 1) := by decide +kernel
theorem dL_append_14 : decode cL_append 14 = .ok (.ireturn, 1) := by decide +kernel
theorem dL_append_15 : decode cL_append 15 = .ok (.astore_n 3, 1) := by decide +kernel
theorem dL_append_16 : decode cL_append 16 = .ok (.iconst 2, 1) := by decide +kernel
theorem dL_append_17 : decode cL_append 17 = .ok (.ireturn, 1) := by decide +kernel
theorem dL_append_18 : decode cL_append 18 = .ok (.iconst 0, 1) := by decide +kernel
theorem dL_append_19 : decode cL_append 19 = .ok (.ireturn, 1) := by decide +kernel
theorem dL_load_0 : decode cL_load 0 = .ok (.aload_n 1, 1) := by decide +kernel
theorem dL_load_1 : decode cL_load 1 = .ok (.iconst 0, 1) := by decide +kernel
theorem dL_load_2 : decode cL_load 2 = .ok (.aload_n 0, 1) := by decide +kernel
theorem dL_load_3 : decode cL_load 3 = .ok (.invokevirtual 17, 3) := by decide +kernel
theorem dL_load_6 : decode cL_load 6 = .ok (.i2l, 1) := by decide +kernel
theorem dL_load_7 : decode cL_load 7 = .ok (.lastore, 1) := by decide +kernel
theorem dL_load_8 : decode cL_load 8 = .ok (.goto 6, 3) := by decide +kernel
theorem dL_load_11 : decode cL_load 11 = .ok (.astore_n 2, 1) := by decide +kernel
theorem dL_load_12 : decode cL_load 12 = .ok (.iconst 1, 1) := by decide +kernel
theorem dL_load_13 : decode cL_load 13 = .ok (.ireturn, 1) := by decide +kernel
theorem dL_load_14 : decode cL_load 14 = .ok (.iconst 0, 1) := by decide +kernel
theorem dL_load_15 : decode cL_load 15 = .ok (.ireturn, 1) := by decide +kernel
theorem dL_about_0 : decode cL_about 0 = .ok (.aload_n 2, 1) := by decide +kernel
theorem dL_about_1 : decode cL_about 1 = .ok (.iconst 0, 1) := by decide +kernel
theorem dL_about_2 : decode cL_about 2 = .ok (.aload_n 0, 1) := by decide +kernel
theorem dL_about_3 : decode cL_about 3 = .ok (.iload_n 1, 1) := by decide +kernel
theorem dL_about_4 : decode cL_about 4 = .ok (.invokevirtual 21, 3) := by decide +kernel
theorem dL_about_7 : decode cL_about 7 = .ok (.i2l, 1) := by decide +kernel
theorem dL_about_8 : decode cL_about 8 = .ok (.lastore, 1) := by decide +kernel
theorem dL_about_9 : decode cL_about 9 = .ok (.goto 6, 3) := by decide +kernel
theorem dL_about_12 : decode cL_about 12 = .ok (.astore_n 3, 1) := by decide +kernel
theorem dL_about_13 : decode cL_about 13 = .ok (.iconst 1, 1) := by decide +kernel
theorem dL_about_14 : decode cL_about 14 = .ok (.ireturn, 1) := by decide +kernel
theorem dL_about_15 : decode cL_about 15 = .ok (.iconst 0, 1) := by decide +kernel
theorem dL_about_16 : decode cL_about 16 = .ok (.ireturn, 1) := by decide +kernel
theorem dL_module_0 : decode cL_module 0 = .ok (.aload_n 3, 1) := by decide +kernel
theorem dL_module_1 : decode cL_module 1 = .ok (.iconst 0, 1) := by decide +kernel
theorem dL_module_2 : decode cL_module 2 = .ok (.aload_n 0, 1) := by decide +kernel
theorem dL_module_3 : decode cL_module 3 = .ok (.iload_n 1, 1) := by decide +kernel
theorem dL_module_4 : decode cL_module 4 = .ok (.iload_n 2, 1) := by decide +kernel
theorem dL_module_5 : decode cL_module 5 = .ok (.invokevirtual 24, 3) := by decide +kernel
theorem dL_module_8 : decode cL_module 8 = .ok (.i2l, 1) := by decide +kernel
theorem dL_module_9 : decode cL_module 9 = .ok (.lastore, 1) := by decide +kernel
theorem dL_module_10 : decode cL_module 10 = .ok (.goto 11, 3) := by decide +kernel
theorem dL_module_13 : decode cL_module 13 = .ok (.astore 4, 2) := by decide +kernel
theorem dL_module_15 : decode cL_module 15 = .ok (.iconst 1, 1) := by decide +kernel
theorem dL_module_16 : decode cL_module 16 = .ok (.ireturn, 1) := by decide +kernel
theorem dL_module_17 : decode cL_module 17 = .ok (.astore 4, 2) := by decide +kernel
theorem dL_module_19 : decode cL_module 19 = .ok (.iconst 2, 1) := by decide +kernel
theorem dL_module_20 : decode cL_module 20 = .ok (.ireturn, 1) := by decide +kernel
theorem dL_module_21 : decode cL_module 21 = .ok (.iconst 0, 1) := by decide +kernel
theorem dL_module_22 : decode cL_module 22 = .ok (.ireturn, 1) := by decide +kernel
theorem dL_wire_0 : decode cL_wire 0 = .ok (.aload_n 3, 1) := by decide +kernel
theorem dL_wire_1 : decode cL_wire 1 = .ok (.iconst 0, 1) := by decide +kernel
theorem dL_wire_2 : decode cL_wire 2 = .ok (.aload_n 0, 1) := by decide +kernel
theorem dL_wire_3 : decode cL_wire 3 = .ok (.iload_n 1, 1) := by decide +kernel
theorem dL_wire_4 : decode cL_wire 4 = .ok (.iload_n 2, 1) := by decide +kernel
theorem dL_wire_5 : decode cL_wire 5 = .ok (.invokevirtual 30, 3) := by decide +kernel
theorem dL_wire_8 : decode cL_wire 8 = .ok (.i2l, 1) := by decide +kernel
theorem dL_wire_9 : decode cL_wire 9 = .ok (.lastore, 1) := by decide +kernel
theorem dL_wire_10 : decode cL_wire 10 = .ok (.goto 11, 3) := by decide +kernel
theorem dL_wire_13 : decode cL_wire 13 = .ok (.astore 4, 2) := by decide +kernel
theorem dL_wire_15 : decode cL_wire 15 = .ok (.iconst 1, 1) := by decide +kernel
theorem dL_wire_16 : decode cL_wire 16 = .ok (.ireturn, 1) := by decide +kernel
theorem dL_wire_17 : decode cL_wire 17 = .ok (.astore 4, 2) := by decide +kernel
theorem dL_wire_19 : decode cL_wire 19 = .ok (.iconst 2, 1) := by decide +kernel
theorem dL_wire_20 : decode cL_wire 20 = .ok (.ireturn, 1) := by decide +kernel
theorem dL_wire_21 : decode cL_wire 21 = .ok (.iconst 0, 1) := by decide +kernel
theorem dL_wire_22 : decode cL_wire 22 = .ok (.ireturn, 1) := by decide +kernel
theorem dL_between_0 : decode cL_between 0 = .ok (.aload_n 3, 1) := by decide +kernel
theorem dL_between_1 : decode cL_between 1 = .ok (.iconst 0, 1) := by decide +kernel
theorem dL_between_2 : decode cL_between 2 = .ok (.aload_n 0, 1) := by decide +kernel
theorem dL_between_3 : decode cL_between 3 = .ok (.iload_n 1, 1) := by decide +kernel
theorem dL_between_4 : decode cL_between 4 = .ok (.iload_n 2, 1) := by decide +kernel
theorem dL_between_5 : decode cL_between 5 = .ok (.invokevirtual 33, 3) := by decide +kernel
theorem dL_between_8 : decode cL_between 8 = .ok (.i2l, 1) := by decide +kernel
theorem dL_between_9 : decode cL_between 9 = .ok (.lastore, 1) := by decide +kernel
theorem dL_between_10 : decode cL_between 10 = .ok (.goto 7, 3) := by decide +kernel
theorem dL_between_13 : decode cL_between 13 = .ok (.astore 4, 2) := by decide +kernel
theorem dL_between_15 : decode cL_between 15 = .ok (.iconst 1, 1) := by decide +kernel
theorem dL_between_16 : decode cL_between 16 = .ok (.ireturn, 1) := by decide +kernel
theorem dL_between_17 : decode cL_between 17 = .ok (.iconst 0, 1) := by decide +kernel
theorem dL_between_18 : decode cL_between 18 = .ok (.ireturn, 1) := by decide +kernel
theorem dL_addModule_0 : decode cL_addModule 0 = .ok (.aload_n 3, 1) := by decide +kernel
theorem dL_addModule_1 : decode cL_addModule 1 = .ok (.iconst 0, 1) := by decide +kernel
theorem dL_addModule_2 : decode cL_addModule 2 = .ok (.aload_n 0, 1) := by decide +kernel
theorem dL_addModule_3 : decode cL_addModule 3 = .ok (.iload_n 1, 1) := by decide +kernel
theorem dL_addModule_4 : decode cL_addModule 4 = .ok (.iload_n 2, 1) := by decide +kernel
theorem dL_addModule_5 : decode cL_addModule 5 = .ok (.invokevirtual 36, 3) := by decide +kernel
theorem dL_addModule_8 : decode cL_addModule 8 = .ok (.i2l, 1) := by decide +kernel
theorem dL_addModule_9 : decode cL_addModule 9 = .ok (.lastore, 1) := by decide +kernel
theorem dL_addModule_10 : decode cL_addModule 10 = .ok (.goto 11, 3) := by decide +kernel
theorem dL_addModule_13 : decode cL_addModule 13 = .ok (.astore 4, 2) := by decide +kernel
theorem dL_addModule_15 : decode cL_addModule 15 = .ok (.iconst 1, 1) := by decide +kernel
theorem dL_addModule_16 : decode cL_addModule 16 = .ok (.ireturn, 1) := by decide +kernel
theorem dL_addModule_17 : decode cL_addModule 17 = .ok (.astore 4, 2) := by decide +kernel
theorem dL_addModule_19 : decode cL_addModule 19 = .ok (.iconst 2, 1) := by decide +kernel
theorem dL_addModule_20 : decode cL_addModule 20 = .ok (.ireturn, 1) := by decide +kernel
theorem dL_addModule_21 : decode cL_addModule 21 = .ok (.iconst 0, 1) := by decide +kernel
theorem dL_addModule_22 : decode cL_addModule 22 = .ok (.ireturn, 1) := by decide +kernel
theorem dL_lay_0 : decode cL_lay 0 = .ok (.aload 6, 2) := by decide +kernel
theorem dL_lay_2 : decode cL_lay 2 = .ok (.iconst 0, 1) := by decide +kernel
theorem dL_lay_3 : decode cL_lay 3 = .ok (.aload_n 0, 1) := by decide +kernel
theorem dL_lay_4 : decode cL_lay 4 = .ok (.iload_n 1, 1) := by decide +kernel
theorem dL_lay_5 : decode cL_lay 5 = .ok (.iload_n 2, 1) := by decide +kernel
theorem dL_lay_6 : decode cL_lay 6 = .ok (.iload_n 3, 1) := by decide +kernel
theorem dL_lay_7 : decode cL_lay 7 = .ok (.iload 4, 2) := by decide +kernel
theorem dL_lay_9 : decode cL_lay 9 = .ok (.iload 5, 2) := by decide +kernel
theorem dL_lay_11 : decode cL_lay 11 = .ok (.invokevirtual 39, 3) := by decide +kernel
theorem dL_lay_14 : decode cL_lay 14 = .ok (.i2l, 1) := by decide +kernel
theorem dL_lay_15 : decode cL_lay 15 = .ok (.lastore, 1) := by decide +kernel
theorem dL_lay_16 : decode cL_lay 16 = .ok (.goto 15, 3) := by decide +kernel
theorem dL_lay_19 : decode cL_lay 19 = .ok (.astore 7, 2) := by decide +kernel
theorem dL_lay_21 : decode cL_lay 21 = .ok (.iconst 1, 1) := by decide +kernel
theorem dL_lay_22 : decode cL_lay 22 = .ok (.ireturn, 1) := by decide +kernel
theorem dL_lay_23 : decode cL_lay 23 = .ok (.astore 7, 2) := by decide +kernel
theorem dL_lay_25 : decode cL_lay 25 = .ok (.iconst 2, 1) := by decide +kernel
theorem dL_lay_26 : decode cL_lay 26 = .ok (.ireturn, 1) := by decide +kernel
theorem dL_lay_27 : decode cL_lay 27 = .ok (.astore 7, 2) := by decide +kernel
theorem dL_lay_29 : decode cL_lay 29 = .ok (.iconst 3, 1) := by decide +kernel
theorem dL_lay_30 : decode cL_lay 30 = .ok (.ireturn, 1) := by decide +kernel
theorem dL_lay_31 : decode cL_lay 31 = .ok (.iconst 0, 1) := by decide +kernel
theorem dL_lay_32 : decode cL_lay 32 = .ok (.ireturn, 1) := by decide +kernel
theorem dL_cut_0 : decode cL_cut 0 = .ok (.aload_n 2, 1) := by decide +kernel
theorem dL_cut_1 : decode cL_cut 1 = .ok (.iconst 0, 1) := by decide +kernel
theorem dL_cut_2 : decode cL_cut 2 = .ok (.aload_n 0, 1) := by decide +kernel
theorem dL_cut_3 : decode cL_cut 3 = .ok (.iload_n 1, 1) := by decide +kernel
theorem dL_cut_4 : decode cL_cut 4 = .ok (.invokevirtual 43, 3) := by decide +kernel
theorem dL_cut_7 : decode cL_cut 7 = .ok (.i2l, 1) := by decide +kernel
theorem dL_cut_8 : decode cL_cut 8 = .ok (.lastore, 1) := by decide +kernel
theorem dL_cut_9 : decode cL_cut 9 = .ok (.goto 6, 3) := by decide +kernel
theorem dL_cut_12 : decode cL_cut 12 = .ok (.astore_n 3, 1) := by decide +kernel
theorem dL_cut_13 : decode cL_cut 13 = .ok (.iconst 1, 1) := by decide +kernel
theorem dL_cut_14 : decode cL_cut 14 = .ok (.ireturn, 1) := by decide +kernel
theorem dL_cut_15 : decode cL_cut 15 = .ok (.iconst 0, 1) := by decide +kernel
theorem dL_cut_16 : decode cL_cut 16 = .ok (.ireturn, 1) := by decide +kernel
theorem dL_put_0 : decode cL_put 0 = .ok (.aload_n 3, 1) := by decide +kernel
theorem dL_put_1 : decode cL_put 1 = .ok (.iconst 0, 1) := by decide +kernel
theorem dL_put_2 : decode cL_put 2 = .ok (.aload_n 0, 1) := by decide +kernel
theorem dL_put_3 : decode cL_put 3 = .ok (.iload_n 1, 1) := by decide +kernel
theorem dL_put_4 : decode cL_put 4 = .ok (.iload_n 2, 1) := by decide +kernel
theorem dL_put_5 : decode cL_put 5 = .ok (.invokevirtual 46, 3) := by decide +kernel
theorem dL_put_8 : decode cL_put 8 = .ok (.i2l, 1) := by decide +kernel
theorem dL_put_9 : decode cL_put 9 = .ok (.lastore, 1) := by decide +kernel
theorem dL_put_10 : decode cL_put 10 = .ok (.goto 15, 3) := by decide +kernel
theorem dL_put_13 : decode cL_put 13 = .ok (.astore 4, 2) := by decide +kernel
theorem dL_put_15 : decode cL_put 15 = .ok (.iconst 1, 1) := by decide +kernel
theorem dL_put_16 : decode cL_put 16 = .ok (.ireturn, 1) := by decide +kernel
theorem dL_put_17 : decode cL_put 17 = .ok (.astore 4, 2) := by decide +kernel
theorem dL_put_19 : decode cL_put 19 = .ok (.iconst 2, 1) := by decide +kernel
theorem dL_put_20 : decode cL_put 20 = .ok (.ireturn, 1) := by decide +kernel
theorem dL_put_21 : decode cL_put 21 = .ok (.astore 4, 2) := by decide +kernel
theorem dL_put_23 : decode cL_put 23 = .ok (.iconst 3, 1) := by decide +kernel
theorem dL_put_24 : decode cL_put 24 = .ok (.ireturn, 1) := by decide +kernel
theorem dL_put_25 : decode cL_put 25 = .ok (.iconst 0, 1) := by decide +kernel
theorem dL_put_26 : decode cL_put 26 = .ok (.ireturn, 1) := by decide +kernel
theorem dL_work_0 : decode cL_work 0 = .ok (.aload_n 2, 1) := by decide +kernel
theorem dL_work_1 : decode cL_work 1 = .ok (.iconst 0, 1) := by decide +kernel
theorem dL_work_2 : decode cL_work 2 = .ok (.aload_n 0, 1) := by decide +kernel
theorem dL_work_3 : decode cL_work 3 = .ok (.iload_n 1, 1) := by decide +kernel
theorem dL_work_4 : decode cL_work 4 = .ok (.invokevirtual 49, 3) := by decide +kernel
theorem dL_work_7 : decode cL_work 7 = .ok (.i2l, 1) := by decide +kernel
theorem dL_work_8 : decode cL_work 8 = .ok (.lastore, 1) := by decide +kernel
theorem dL_work_9 : decode cL_work 9 = .ok (.goto 9, 3) := by decide +kernel
theorem dL_work_12 : decode cL_work 12 = .ok (.astore_n 3, 1) := by decide +kernel
theorem dL_work_13 : decode cL_work 13 = .ok (.iconst 1, 1) := by decide +kernel
theorem dL_work_14 : decode cL_work 14 = .ok (.ireturn, 1) := by decide +kernel
theorem dL_work_15 : decode cL_work 15 = .ok (.astore_n 3, 1) := by decide +kernel
theorem dL_work_16 : decode cL_work 16 = .ok (.iconst 2, 1) := by decide +kernel
theorem dL_work_17 : decode cL_work 17 = .ok (.ireturn, 1) := by decide +kernel
theorem dL_work_18 : decode cL_work 18 = .ok (.iconst 0, 1) := by decide +kernel
theorem dL_work_19 : decode cL_work 19 = .ok (.ireturn, 1) := by decide +kernel
theorem dL_round_0 : decode cL_round 0 = .ok (.aload_n 2, 1) := by decide +kernel
theorem dL_round_1 : decode cL_round 1 = .ok (.iconst 0, 1) := by decide +kernel
theorem dL_round_2 : decode cL_round 2 = .ok (.aload_n 0, 1) := by decide +kernel
theorem dL_round_3 : decode cL_round 3 = .ok (.iload_n 1, 1) := by decide +kernel
theorem dL_round_4 : decode cL_round 4 = .ok (.invokevirtual 52, 3) := by decide +kernel
theorem dL_round_7 : decode cL_round 7 = .ok (.i2l, 1) := by decide +kernel
theorem dL_round_8 : decode cL_round 8 = .ok (.lastore, 1) := by decide +kernel
theorem dL_round_9 : decode cL_round 9 = .ok (.goto 9, 3) := by decide +kernel
theorem dL_round_12 : decode cL_round 12 = .ok (.astore_n 3, 1) := by decide +kernel
theorem dL_round_13 : decode cL_round 13 = .ok (.iconst 1, 1) := by decide +kernel
theorem dL_round_14 : decode cL_round 14 = .ok (.ireturn, 1) := by decide +kernel
theorem dL_round_15 : decode cL_round 15 = .ok (.astore_n 3, 1) := by decide +kernel
theorem dL_round_16 : decode cL_round 16 = .ok (.iconst 2, 1) := by decide +kernel
theorem dL_round_17 : decode cL_round 17 = .ok (.ireturn, 1) := by decide +kernel
theorem dL_round_18 : decode cL_round 18 = .ok (.iconst 0, 1) := by decide +kernel
theorem dL_round_19 : decode cL_round 19 = .ok (.ireturn, 1) := by decide +kernel
theorem dL_undo_0 : decode cL_undo 0 = .ok (.aload_n 1, 1) := by decide +kernel
theorem dL_undo_1 : decode cL_undo 1 = .ok (.iconst 0, 1) := by decide +kernel
theorem dL_undo_2 : decode cL_undo 2 = .ok (.aload_n 0, 1) := by decide +kernel
theorem dL_undo_3 : decode cL_undo 3 = .ok (.invokevirtual 55, 3) := by decide +kernel
theorem dL_undo_6 : decode cL_undo 6 = .ok (.i2l, 1) := by decide +kernel
theorem dL_undo_7 : decode cL_undo 7 = .ok (.lastore, 1) := by decide +kernel
theorem dL_undo_8 : decode cL_undo 8 = .ok (.goto 6, 3) := by decide +kernel
theorem dL_undo_11 : decode cL_undo 11 = .ok (.astore_n 2, 1) := by decide +kernel
theorem dL_undo_12 : decode cL_undo 12 = .ok (.iconst 1, 1) := by decide +kernel
theorem dL_undo_13 : decode cL_undo 13 = .ok (.ireturn, 1) := by decide +kernel
theorem dL_undo_14 : decode cL_undo 14 = .ok (.iconst 0, 1) := by decide +kernel
theorem dL_undo_15 : decode cL_undo 15 = .ok (.ireturn, 1) := by decide +kernel
theorem dL_order_0 : decode cL_order 0 = .ok (.aload_n 3, 1) := by decide +kernel
theorem dL_order_1 : decode cL_order 1 = .ok (.iconst 0, 1) := by decide +kernel
theorem dL_order_2 : decode cL_order 2 = .ok (.aload_n 0, 1) := by decide +kernel
theorem dL_order_3 : decode cL_order 3 = .ok (.iload_n 1, 1) := by decide +kernel
theorem dL_order_4 : decode cL_order 4 = .ok (.iload_n 2, 1) := by decide +kernel
theorem dL_order_5 : decode cL_order 5 = .ok (.invokevirtual 58, 3) := by decide +kernel
theorem dL_order_8 : decode cL_order 8 = .ok (.i2l, 1) := by decide +kernel
theorem dL_order_9 : decode cL_order 9 = .ok (.lastore, 1) := by decide +kernel
theorem dL_order_10 : decode cL_order 10 = .ok (.goto 7, 3) := by decide +kernel
theorem dL_order_13 : decode cL_order 13 = .ok (.astore 4, 2) := by decide +kernel
theorem dL_order_15 : decode cL_order 15 = .ok (.iconst 1, 1) := by decide +kernel
theorem dL_order_16 : decode cL_order 16 = .ok (.ireturn, 1) := by decide +kernel
theorem dL_order_17 : decode cL_order 17 = .ok (.iconst 0, 1) := by decide +kernel
theorem dL_order_18 : decode cL_order 18 = .ok (.ireturn, 1) := by decide +kernel
theorem dL_sticks_0 : decode cL_sticks 0 = .ok (.aload_n 2, 1) := by decide +kernel
theorem dL_sticks_1 : decode cL_sticks 1 = .ok (.iconst 0, 1) := by decide +kernel
theorem dL_sticks_2 : decode cL_sticks 2 = .ok (.aload_n 0, 1) := by decide +kernel
theorem dL_sticks_3 : decode cL_sticks 3 = .ok (.iload_n 1, 1) := by decide +kernel
theorem dL_sticks_4 : decode cL_sticks 4 = .ok (.invokevirtual 61, 3) := by decide +kernel
theorem dL_sticks_7 : decode cL_sticks 7 = .ok (.i2l, 1) := by decide +kernel
theorem dL_sticks_8 : decode cL_sticks 8 = .ok (.lastore, 1) := by decide +kernel
theorem dL_sticks_9 : decode cL_sticks 9 = .ok (.goto 6, 3) := by decide +kernel
theorem dL_sticks_12 : decode cL_sticks 12 = .ok (.astore_n 3, 1) := by decide +kernel
theorem dL_sticks_13 : decode cL_sticks 13 = .ok (.iconst 1, 1) := by decide +kernel
theorem dL_sticks_14 : decode cL_sticks 14 = .ok (.ireturn, 1) := by decide +kernel
theorem dL_sticks_15 : decode cL_sticks 15 = .ok (.iconst 0, 1) := by decide +kernel
theorem dL_sticks_16 : decode cL_sticks 16 = .ok (.ireturn, 1) := by decide +kernel
theorem dL_holds_0 : decode cL_holds 0 = .ok (.aload_n 3, 1) := by decide +kernel
theorem dL_holds_1 : decode cL_holds 1 = .ok (.iconst 0, 1) := by decide +kernel
theorem dL_holds_2 : decode cL_holds 2 = .ok (.aload_n 0, 1) := by decide +kernel
theorem dL_holds_3 : decode cL_holds 3 = .ok (.iload_n 1, 1) := by decide +kernel
theorem dL_holds_4 : decode cL_holds 4 = .ok (.iload_n 2, 1) := by decide +kernel
theorem dL_holds_5 : decode cL_holds 5 = .ok (.invokevirtual 64, 3) := by decide +kernel
theorem dL_holds_8 : decode cL_holds 8 = .ok (.i2l, 1) := by decide +kernel
theorem dL_holds_9 : decode cL_holds 9 = .ok (.lastore, 1) := by decide +kernel
theorem dL_holds_10 : decode cL_holds 10 = .ok (.goto 11, 3) := by decide +kernel
theorem dL_holds_13 : decode cL_holds 13 = .ok (.astore 4, 2) := by decide +kernel
theorem dL_holds_15 : decode cL_holds 15 = .ok (.iconst 1, 1) := by decide +kernel
theorem dL_holds_16 : decode cL_holds 16 = .ok (.ireturn, 1) := by decide +kernel
theorem dL_holds_17 : decode cL_holds 17 = .ok (.astore 4, 2) := by decide +kernel
theorem dL_holds_19 : decode cL_holds 19 = .ok (.iconst 2, 1) := by decide +kernel
theorem dL_holds_20 : decode cL_holds 20 = .ok (.ireturn, 1) := by decide +kernel
theorem dL_holds_21 : decode cL_holds 21 = .ok (.iconst 0, 1) := by decide +kernel
theorem dL_holds_22 : decode cL_holds 22 = .ok (.ireturn, 1) := by decide +kernel
theorem dL_fewest_0 : decode cL_fewest 0 = .ok (.aload_n 2, 1) := by decide +kernel
theorem dL_fewest_1 : decode cL_fewest 1 = .ok (.iconst 0, 1) := by decide +kernel
theorem dL_fewest_2 : decode cL_fewest 2 = .ok (.aload_n 0, 1) := by decide +kernel
theorem dL_fewest_3 : decode cL_fewest 3 = .ok (.iload_n 1, 1) := by decide +kernel
theorem dL_fewest_4 : decode cL_fewest 4 = .ok (.invokevirtual 67, 3) := by decide +kernel
theorem dL_fewest_7 : decode cL_fewest 7 = .ok (.i2l, 1) := by decide +kernel
theorem dL_fewest_8 : decode cL_fewest 8 = .ok (.lastore, 1) := by decide +kernel
theorem dL_fewest_9 : decode cL_fewest 9 = .ok (.goto 6, 3) := by decide +kernel
theorem dL_fewest_12 : decode cL_fewest 12 = .ok (.astore_n 3, 1) := by decide +kernel
theorem dL_fewest_13 : decode cL_fewest 13 = .ok (.iconst 1, 1) := by decide +kernel
theorem dL_fewest_14 : decode cL_fewest 14 = .ok (.ireturn, 1) := by decide +kernel
theorem dL_fewest_15 : decode cL_fewest 15 = .ok (.iconst 0, 1) := by decide +kernel
theorem dL_fewest_16 : decode cL_fewest 16 = .ok (.ireturn, 1) := by decide +kernel
theorem dL_agrees_0 : decode cL_agrees 0 = .ok (.aload_n 3, 1) := by decide +kernel
theorem dL_agrees_1 : decode cL_agrees 1 = .ok (.iconst 0, 1) := by decide +kernel
theorem dL_agrees_2 : decode cL_agrees 2 = .ok (.aload_n 0, 1) := by decide +kernel
theorem dL_agrees_3 : decode cL_agrees 3 = .ok (.iload_n 1, 1) := by decide +kernel
theorem dL_agrees_4 : decode cL_agrees 4 = .ok (.iload_n 2, 1) := by decide +kernel
theorem dL_agrees_5 : decode cL_agrees 5 = .ok (.invokevirtual 70, 3) := by decide +kernel
theorem dL_agrees_8 : decode cL_agrees 8 = .ok (.i2l, 1) := by decide +kernel
theorem dL_agrees_9 : decode cL_agrees 9 = .ok (.lastore, 1) := by decide +kernel
theorem dL_agrees_10 : decode cL_agrees 10 = .ok (.goto 11, 3) := by decide +kernel
theorem dL_agrees_13 : decode cL_agrees 13 = .ok (.astore 4, 2) := by decide +kernel
theorem dL_agrees_15 : decode cL_agrees 15 = .ok (.iconst 1, 1) := by decide +kernel
theorem dL_agrees_16 : decode cL_agrees 16 = .ok (.ireturn, 1) := by decide +kernel
theorem dL_agrees_17 : decode cL_agrees 17 = .ok (.astore 4, 2) := by decide +kernel
theorem dL_agrees_19 : decode cL_agrees 19 = .ok (.iconst 2, 1) := by decide +kernel
theorem dL_agrees_20 : decode cL_agrees 20 = .ok (.ireturn, 1) := by decide +kernel
theorem dL_agrees_21 : decode cL_agrees 21 = .ok (.iconst 0, 1) := by decide +kernel
theorem dL_agrees_22 : decode cL_agrees 22 = .ok (.ireturn, 1) := by decide +kernel
theorem dL_runScript_0 : decode cL_runScript 0 = .ok (.aload 4, 2) := by decide +kernel
theorem dL_runScript_2 : decode cL_runScript 2 = .ok (.iconst 0, 1) := by decide +kernel
theorem dL_runScript_3 : decode cL_runScript 3 = .ok (.aload_n 0, 1) := by decide +kernel
theorem dL_runScript_4 : decode cL_runScript 4 = .ok (.iload_n 1, 1) := by decide +kernel
theorem dL_runScript_5 : decode cL_runScript 5 = .ok (.lload_n 2, 1) := by decide +kernel
theorem dL_runScript_6 : decode cL_runScript 6 = .ok (.invokevirtual 73, 3) := by decide +kernel
theorem dL_runScript_9 : decode cL_runScript 9 = .ok (.i2l, 1) := by decide +kernel
theorem dL_runScript_10 : decode cL_runScript 10 = .ok (.lastore, 1) := by decide +kernel
theorem dL_runScript_11 : decode cL_runScript 11 = .ok (.goto 7, 3) := by decide +kernel
theorem dL_runScript_14 : decode cL_runScript 14 = .ok (.astore 5, 2) := by decide +kernel
theorem dL_runScript_16 : decode cL_runScript 16 = .ok (.iconst 1, 1) := by decide +kernel
theorem dL_runScript_17 : decode cL_runScript 17 = .ok (.ireturn, 1) := by decide +kernel
theorem dL_runScript_18 : decode cL_runScript 18 = .ok (.iconst 0, 1) := by decide +kernel
theorem dL_runScript_19 : decode cL_runScript 19 = .ok (.ireturn, 1) := by decide +kernel
theorem dL_simulate_0 : decode cL_simulate 0 = .ok (.aload 4, 2) := by decide +kernel
theorem dL_simulate_2 : decode cL_simulate 2 = .ok (.iconst 0, 1) := by decide +kernel
theorem dL_simulate_3 : decode cL_simulate 3 = .ok (.aload_n 0, 1) := by decide +kernel
theorem dL_simulate_4 : decode cL_simulate 4 = .ok (.lload_n 1, 1) := by decide +kernel
theorem dL_simulate_5 : decode cL_simulate 5 = .ok (.iload_n 3, 1) := by decide +kernel
theorem dL_simulate_6 : decode cL_simulate 6 = .ok (.invokevirtual 77, 3) := by decide +kernel
theorem dL_simulate_9 : decode cL_simulate 9 = .ok (.i2l, 1) := by decide +kernel
theorem dL_simulate_10 : decode cL_simulate 10 = .ok (.lastore, 1) := by decide +kernel
theorem dL_simulate_11 : decode cL_simulate 11 = .ok (.goto 7, 3) := by decide +kernel
theorem dL_simulate_14 : decode cL_simulate 14 = .ok (.astore 5, 2) := by decide +kernel
theorem dL_simulate_16 : decode cL_simulate 16 = .ok (.iconst 1, 1) := by decide +kernel
theorem dL_simulate_17 : decode cL_simulate 17 = .ok (.ireturn, 1) := by decide +kernel
theorem dL_simulate_18 : decode cL_simulate 18 = .ok (.iconst 0, 1) := by decide +kernel
theorem dL_simulate_19 : decode cL_simulate 19 = .ok (.ireturn, 1) := by decide +kernel
theorem dL_save_0 : decode cL_save 0 = .ok (.aload_n 2, 1) := by decide +kernel
theorem dL_save_1 : decode cL_save 1 = .ok (.iconst 0, 1) := by decide +kernel
theorem dL_save_2 : decode cL_save 2 = .ok (.aload_n 0, 1) := by decide +kernel
theorem dL_save_3 : decode cL_save 3 = .ok (.iload_n 1, 1) := by decide +kernel
theorem dL_save_4 : decode cL_save 4 = .ok (.invokevirtual 81, 3) := by decide +kernel
theorem dL_save_7 : decode cL_save 7 = .ok (.i2l, 1) := by decide +kernel
theorem dL_save_8 : decode cL_save 8 = .ok (.lastore, 1) := by decide +kernel
theorem dL_save_9 : decode cL_save 9 = .ok (.goto 6, 3) := by decide +kernel
theorem dL_save_12 : decode cL_save 12 = .ok (.astore_n 3, 1) := by decide +kernel
theorem dL_save_13 : decode cL_save 13 = .ok (.iconst 1, 1) := by decide +kernel
theorem dL_save_14 : decode cL_save 14 = .ok (.ireturn, 1) := by decide +kernel
theorem dL_save_15 : decode cL_save 15 = .ok (.iconst 0, 1) := by decide +kernel
theorem dL_save_16 : decode cL_save 16 = .ok (.ireturn, 1) := by decide +kernel
theorem dL_restore_0 : decode cL_restore 0 = .ok (.aload_n 2, 1) := by decide +kernel
theorem dL_restore_1 : decode cL_restore 1 = .ok (.iconst 0, 1) := by decide +kernel
theorem dL_restore_2 : decode cL_restore 2 = .ok (.aload_n 0, 1) := by decide +kernel
theorem dL_restore_3 : decode cL_restore 3 = .ok (.iload_n 1, 1) := by decide +kernel
theorem dL_restore_4 : decode cL_restore 4 = .ok (.invokevirtual 84, 3) := by decide +kernel
theorem dL_restore_7 : decode cL_restore 7 = .ok (.i2l, 1) := by decide +kernel
theorem dL_restore_8 : decode cL_restore 8 = .ok (.lastore, 1) := by decide +kernel
theorem dL_restore_9 : decode cL_restore 9 = .ok (.goto 9, 3) := by decide +kernel
theorem dL_restore_12 : decode cL_restore 12 = .ok (.astore_n 3, 1) := by decide +kernel
theorem dL_restore_13 : decode cL_restore 13 = .ok (.iconst 1, 1) := by decide +kernel
theorem dL_restore_14 : decode cL_restore 14 = .ok (.ireturn, 1) := by decide +kernel
theorem dL_restore_15 : decode cL_restore 15 = .ok (.astore_n 3, 1) := by decide +kernel
theorem dL_restore_16 : decode cL_restore 16 = .ok (.iconst 2, 1) := by decide +kernel
theorem dL_restore_17 : decode cL_restore 17 = .ok (.ireturn, 1) := by decide +kernel
theorem dL_restore_18 : decode cL_restore 18 = .ok (.iconst 0, 1) := by decide +kernel
theorem dL_restore_19 : decode cL_restore 19 = .ok (.ireturn, 1) := by decide +kernel
theorem dL_law_0 : decode cL_law 0 = .ok (.new 8, 3) := by decide +kernel
theorem dL_law_3 : decode cL_law 3 = .ok (.dup, 1) := by decide +kernel
theorem dL_law_4 : decode cL_law 4 = .ok (.invokespecial 87, 3) := by decide +kernel
theorem dL_law_7 : decode cL_law 7 = .ok (.astore_n 1, 1) := by decide +kernel
theorem dL_law_8 : decode cL_law 8 = .ok (.new 88, 3) := by decide +kernel
theorem dL_law_11 : decode cL_law 11 = .ok (.dup, 1) := by decide +kernel
theorem dL_law_12 : decode cL_law 12 = .ok (.invokespecial 90, 3) := by decide +kernel
theorem dL_law_15 : decode cL_law 15 = .ok (.astore_n 2, 1) := by decide +kernel
theorem dL_law_16 : decode cL_law 16 = .ok (.iconst 1, 1) := by decide +kernel
theorem dL_law_17 : decode cL_law 17 = .ok (.newarray .long, 2) := by decide +kernel
theorem dL_law_19 : decode cL_law 19 = .ok (.astore_n 3, 1) := by decide +kernel
theorem dL_law_20 : decode cL_law 20 = .ok (.iconst 0, 1) := by decide +kernel
theorem dL_law_21 : decode cL_law 21 = .ok (.istore 4, 2) := by decide +kernel
theorem dL_law_23 : decode cL_law 23 = .ok (.iload 4, 2) := by decide +kernel
theorem dL_law_25 : decode cL_law 25 = .ok (.aload_n 0, 1) := by decide +kernel
theorem dL_law_26 : decode cL_law 26 = .ok (.arraylength, 1) := by decide +kernel
theorem dL_law_27 : decode cL_law 27 = .ok (.bipush 6, 2) := by decide +kernel
theorem dL_law_29 : decode cL_law 29 = .ok (.isub, 1) := by decide +kernel
theorem dL_law_30 : decode cL_law 30 = .ok (.if_icmp .gt 1611, 3) := by decide +kernel
theorem dL_law_33 : decode cL_law 33 = .ok (.aload_n 0, 1) := by decide +kernel
theorem dL_law_34 : decode cL_law 34 = .ok (.iload 4, 2) := by decide +kernel
theorem dL_law_36 : decode cL_law 36 = .ok (.iaload, 1) := by decide +kernel
theorem dL_law_37 : decode cL_law 37 = .ok (.bipush 31, 2) := by decide +kernel
theorem dL_law_39 : decode cL_law 39 = .ok (.iand, 1) := by decide +kernel
theorem dL_law_40 : decode cL_law 40 = .ok (.tableswitch 1595 0 24 #[116, 172, 185, 198, 242, 298, 366, 434, 502, 570, 674, 730, 798, 854, 910, 954, 1022, 1078, 1146, 1159, 1215, 1283, 1383, 1483, 1539], 116) := by decide +kernel
theorem dL_law_156 : decode cL_law 156 = .ok (.aload_n 1, 1) := by decide +kernel
theorem dL_law_157 : decode cL_law 157 = .ok (.aload_n 0, 1) := by decide +kernel
theorem dL_law_158 : decode cL_law 158 = .ok (.iload 4, 2) := by decide +kernel
theorem dL_law_160 : decode cL_law 160 = .ok (.iconst 1, 1) := by decide +kernel
theorem dL_law_161 : decode cL_law 161 = .ok (.iadd, 1) := by decide +kernel
theorem dL_law_162 : decode cL_law 162 = .ok (.iaload, 1) := by decide +kernel
theorem dL_law_163 : decode cL_law 163 = .ok (.aload_n 3, 1) := by decide +kernel
theorem dL_law_164 : decode cL_law 164 = .ok (.invokestatic 91, 3) := by decide +kernel
theorem dL_law_167 : decode cL_law 167 = .ok (.istore 5, 2) := by decide +kernel
theorem dL_law_169 : decode cL_law 169 = .ok (.aload_n 2, 1) := by decide +kernel
theorem dL_law_170 : decode cL_law 170 = .ok (.aload_n 0, 1) := by decide +kernel
theorem dL_law_171 : decode cL_law 171 = .ok (.iload 4, 2) := by decide +kernel
theorem dL_law_173 : decode cL_law 173 = .ok (.iconst 1, 1) := by decide +kernel
theorem dL_law_174 : decode cL_law 174 = .ok (.iadd, 1) := by decide +kernel
theorem dL_law_175 : decode cL_law 175 = .ok (.iaload, 1) := by decide +kernel
theorem dL_law_176 : decode cL_law 176 = .ok (.invokevirtual 96, 3) := by decide +kernel
theorem dL_law_179 : decode cL_law 179 = .ok (.istore 6, 2) := by decide +kernel
theorem dL_law_181 : decode cL_law 181 = .ok (.aload_n 2, 1) := by decide +kernel
theorem dL_law_182 : decode cL_law 182 = .ok (.invokevirtual 97, 3) := by decide +kernel
theorem dL_law_185 : decode cL_law 185 = .ok (.iload 5, 2) := by decide +kernel
theorem dL_law_187 : decode cL_law 187 = .ok (.if_icmp .eq 5, 3) := by decide +kernel
theorem dL_law_190 : decode cL_law 190 = .ok (.iconst 0, 1) := by decide +kernel
theorem dL_law_191 : decode cL_law 191 = .ok (.ireturn, 1) := by decide +kernel
theorem dL_law_192 : decode cL_law 192 = .ok (.iload 5, 2) := by decide +kernel
theorem dL_law_194 : decode cL_law 194 = .ok (.ifCond .ne 15, 3) := by decide +kernel
theorem dL_law_197 : decode cL_law 197 = .ok (.aload_n 3, 1) := by decide +kernel
theorem dL_law_198 : decode cL_law 198 = .ok (.iconst 0, 1) := by decide +kernel
theorem dL_law_199 : decode cL_law 199 = .ok (.laload, 1) := by decide +kernel
theorem dL_law_200 : decode cL_law 200 = .ok (.iload 6, 2) := by decide +kernel
theorem dL_law_202 : decode cL_law 202 = .ok (.i2l, 1) := by decide +kernel
theorem dL_law_203 : decode cL_law 203 = .ok (.lcmp, 1) := by decide +kernel
theorem dL_law_204 : decode cL_law 204 = .ok (.ifCond .eq 5, 3) := by decide +kernel
theorem dL_law_207 : decode cL_law 207 = .ok (.iconst 0, 1) := by decide +kernel
theorem dL_law_208 : decode cL_law 208 = .ok (.ireturn, 1) := by decide +kernel
theorem dL_law_209 : decode cL_law 209 = .ok (.goto 1426, 3) := by decide +kernel
theorem dL_law_212 : decode cL_law 212 = .ok (.aload_n 1, 1) := by decide +kernel
theorem dL_law_213 : decode cL_law 213 = .ok (.invokevirtual 100, 3) := by decide +kernel
theorem dL_law_216 : decode cL_law 216 = .ok (.aload_n 2, 1) := by decide +kernel
theorem dL_law_217 : decode cL_law 217 = .ok (.invokevirtual 103, 3) := by decide +kernel
theorem dL_law_220 : decode cL_law 220 = .ok (.if_icmp .eq 1415, 3) := by decide +kernel
theorem dL_law_223 : decode cL_law 223 = .ok (.iconst 0, 1) := by decide +kernel
theorem dL_law_224 : decode cL_law 224 = .ok (.ireturn, 1) := by decide +kernel
theorem dL_law_225 : decode cL_law 225 = .ok (.aload_n 1, 1) := by decide +kernel
theorem dL_law_226 : decode cL_law 226 = .ok (.invokevirtual 104, 3) := by decide +kernel
theorem dL_law_229 : decode cL_law 229 = .ok (.aload_n 2, 1) := by decide +kernel
theorem dL_law_230 : decode cL_law 230 = .ok (.invokevirtual 107, 3) := by decide +kernel
theorem dL_law_233 : decode cL_law 233 = .ok (.if_icmp .eq 1402, 3) := by decide +kernel
theorem dL_law_236 : decode cL_law 236 = .ok (.iconst 0, 1) := by decide +kernel
theorem dL_law_237 : decode cL_law 237 = .ok (.ireturn, 1) := by decide +kernel
theorem dL_law_238 : decode cL_law 238 = .ok (.aload_n 1, 1) := by decide +kernel
theorem dL_law_239 : decode cL_law 239 = .ok (.aload_n 3, 1) := by decide +kernel
theorem dL_law_240 : decode cL_law 240 = .ok (.invokestatic 108, 3) := by decide +kernel
theorem dL_law_243 : decode cL_law 243 = .ok (.istore 5, 2) := by decide +kernel
theorem dL_law_245 : decode cL_law 245 = .ok (.aload_n 2, 1) := by decide +kernel
theorem dL_law_246 : decode cL_law 246 = .ok (.invokevirtual 111, 3) := by decide +kernel
theorem dL_law_249 : decode cL_law 249 = .ok (.istore 6, 2) := by decide +kernel
theorem dL_law_251 : decode cL_law 251 = .ok (.aload_n 2, 1) := by decide +kernel
theorem dL_law_252 : decode cL_law 252 = .ok (.invokevirtual 97, 3) := by decide +kernel
theorem dL_law_255 : decode cL_law 255 = .ok (.iload 5, 2) := by decide +kernel
theorem dL_law_257 : decode cL_law 257 = .ok (.if_icmp .eq 5, 3) := by decide +kernel
theorem dL_law_260 : decode cL_law 260 = .ok (.iconst 0, 1) := by decide +kernel
theorem dL_law_261 : decode cL_law 261 = .ok (.ireturn, 1) := by decide +kernel
theorem dL_law_262 : decode cL_law 262 = .ok (.iload 5, 2) := by decide +kernel
theorem dL_law_264 : decode cL_law 264 = .ok (.ifCond .ne 15, 3) := by decide +kernel
theorem dL_law_267 : decode cL_law 267 = .ok (.aload_n 3, 1) := by decide +kernel
theorem dL_law_268 : decode cL_law 268 = .ok (.iconst 0, 1) := by decide +kernel
theorem dL_law_269 : decode cL_law 269 = .ok (.laload, 1) := by decide +kernel
theorem dL_law_270 : decode cL_law 270 = .ok (.iload 6, 2) := by decide +kernel
theorem dL_law_272 : decode cL_law 272 = .ok (.i2l, 1) := by decide +kernel
theorem dL_law_273 : decode cL_law 273 = .ok (.lcmp, 1) := by decide +kernel
theorem dL_law_274 : decode cL_law 274 = .ok (.ifCond .eq 5, 3) := by decide +kernel
theorem dL_law_277 : decode cL_law 277 = .ok (.iconst 0, 1) := by decide +kernel
theorem dL_law_278 : decode cL_law 278 = .ok (.ireturn, 1) := by decide +kernel
theorem dL_law_279 : decode cL_law 279 = .ok (.goto 1356, 3) := by decide +kernel
theorem dL_law_282 : decode cL_law 282 = .ok (.aload_n 1, 1) := by decide +kernel
theorem dL_law_283 : decode cL_law 283 = .ok (.aload_n 0, 1) := by decide +kernel
theorem dL_law_284 : decode cL_law 284 = .ok (.iload 4, 2) := by decide +kernel
theorem dL_law_286 : decode cL_law 286 = .ok (.iconst 1, 1) := by decide +kernel
theorem dL_law_287 : decode cL_law 287 = .ok (.iadd, 1) := by decide +kernel
theorem dL_law_288 : decode cL_law 288 = .ok (.iaload, 1) := by decide +kernel
theorem dL_law_289 : decode cL_law 289 = .ok (.aload_n 3, 1) := by decide +kernel
theorem dL_law_290 : decode cL_law 290 = .ok (.invokestatic 112, 3) := by decide +kernel
theorem dL_law_293 : decode cL_law 293 = .ok (.istore 5, 2) := by decide +kernel
theorem dL_law_295 : decode cL_law 295 = .ok (.aload_n 2, 1) := by decide +kernel
theorem dL_law_296 : decode cL_law 296 = .ok (.aload_n 0, 1) := by decide +kernel
theorem dL_law_297 : decode cL_law 297 = .ok (.iload 4, 2) := by decide +kernel
theorem dL_law_299 : decode cL_law 299 = .ok (.iconst 1, 1) := by decide +kernel
theorem dL_law_300 : decode cL_law 300 = .ok (.iadd, 1) := by decide +kernel
theorem dL_law_301 : decode cL_law 301 = .ok (.iaload, 1) := by decide +kernel
theorem dL_law_302 : decode cL_law 302 = .ok (.invokevirtual 114, 3) := by decide +kernel
theorem dL_law_305 : decode cL_law 305 = .ok (.istore 6, 2) := by decide +kernel
theorem dL_law_307 : decode cL_law 307 = .ok (.aload_n 2, 1) := by decide +kernel
theorem dL_law_308 : decode cL_law 308 = .ok (.invokevirtual 97, 3) := by decide +kernel
theorem dL_law_311 : decode cL_law 311 = .ok (.iload 5, 2) := by decide +kernel
theorem dL_law_313 : decode cL_law 313 = .ok (.if_icmp .eq 5, 3) := by decide +kernel
theorem dL_law_316 : decode cL_law 316 = .ok (.iconst 0, 1) := by decide +kernel
theorem dL_law_317 : decode cL_law 317 = .ok (.ireturn, 1) := by decide +kernel
theorem dL_law_318 : decode cL_law 318 = .ok (.iload 5, 2) := by decide +kernel
theorem dL_law_320 : decode cL_law 320 = .ok (.ifCond .ne 15, 3) := by decide +kernel
theorem dL_law_323 : decode cL_law 323 = .ok (.aload_n 3, 1) := by decide +kernel
theorem dL_law_324 : decode cL_law 324 = .ok (.iconst 0, 1) := by decide +kernel
theorem dL_law_325 : decode cL_law 325 = .ok (.laload, 1) := by decide +kernel
theorem dL_law_326 : decode cL_law 326 = .ok (.iload 6, 2) := by decide +kernel
theorem dL_law_328 : decode cL_law 328 = .ok (.i2l, 1) := by decide +kernel
theorem dL_law_329 : decode cL_law 329 = .ok (.lcmp, 1) := by decide +kernel
theorem dL_law_330 : decode cL_law 330 = .ok (.ifCond .eq 5, 3) := by decide +kernel
theorem dL_law_333 : decode cL_law 333 = .ok (.iconst 0, 1) := by decide +kernel
theorem dL_law_334 : decode cL_law 334 = .ok (.ireturn, 1) := by decide +kernel
theorem dL_law_335 : decode cL_law 335 = .ok (.goto 1300, 3) := by decide +kernel
theorem dL_law_338 : decode cL_law 338 = .ok (.aload_n 1, 1) := by decide +kernel
theorem dL_law_339 : decode cL_law 339 = .ok (.aload_n 0, 1) := by decide +kernel
theorem dL_law_340 : decode cL_law 340 = .ok (.iload 4, 2) := by decide +kernel
theorem dL_law_342 : decode cL_law 342 = .ok (.iconst 1, 1) := by decide +kernel
theorem dL_law_343 : decode cL_law 343 = .ok (.iadd, 1) := by decide +kernel
theorem dL_law_344 : decode cL_law 344 = .ok (.iaload, 1) := by decide +kernel
theorem dL_law_345 : decode cL_law 345 = .ok (.aload_n 0, 1) := by decide +kernel
theorem dL_law_346 : decode cL_law 346 = .ok (.iload 4, 2) := by decide +kernel
theorem dL_law_348 : decode cL_law 348 = .ok (.iconst 2, 1) := by decide +kernel
theorem dL_law_349 : decode cL_law 349 = .ok (.iadd, 1) := by decide +kernel
theorem dL_law_350 : decode cL_law 350 = .ok (.iaload, 1) := by decide +kernel
theorem dL_law_351 : decode cL_law 351 = .ok (.aload_n 3, 1) := by decide +kernel
theorem dL_law_352 : decode cL_law 352 = .ok (.invokestatic 115, 3) := by decide +kernel
theorem dL_law_355 : decode cL_law 355 = .ok (.istore 5, 2) := by decide +kernel
theorem dL_law_357 : decode cL_law 357 = .ok (.aload_n 2, 1) := by decide +kernel
theorem dL_law_358 : decode cL_law 358 = .ok (.aload_n 0, 1) := by decide +kernel
theorem dL_law_359 : decode cL_law 359 = .ok (.iload 4, 2) := by decide +kernel
theorem dL_law_361 : decode cL_law 361 = .ok (.iconst 1, 1) := by decide +kernel
theorem dL_law_362 : decode cL_law 362 = .ok (.iadd, 1) := by decide +kernel
theorem dL_law_363 : decode cL_law 363 = .ok (.iaload, 1) := by decide +kernel
theorem dL_law_364 : decode cL_law 364 = .ok (.aload_n 0, 1) := by decide +kernel
theorem dL_law_365 : decode cL_law 365 = .ok (.iload 4, 2) := by decide +kernel
theorem dL_law_367 : decode cL_law 367 = .ok (.iconst 2, 1) := by decide +kernel
theorem dL_law_368 : decode cL_law 368 = .ok (.iadd, 1) := by decide +kernel
theorem dL_law_369 : decode cL_law 369 = .ok (.iaload, 1) := by decide +kernel
theorem dL_law_370 : decode cL_law 370 = .ok (.invokevirtual 118, 3) := by decide +kernel
theorem dL_law_373 : decode cL_law 373 = .ok (.istore 6, 2) := by decide +kernel
theorem dL_law_375 : decode cL_law 375 = .ok (.aload_n 2, 1) := by decide +kernel
theorem dL_law_376 : decode cL_law 376 = .ok (.invokevirtual 97, 3) := by decide +kernel
theorem dL_law_379 : decode cL_law 379 = .ok (.iload 5, 2) := by decide +kernel
theorem dL_law_381 : decode cL_law 381 = .ok (.if_icmp .eq 5, 3) := by decide +kernel
theorem dL_law_384 : decode cL_law 384 = .ok (.iconst 0, 1) := by decide +kernel
theorem dL_law_385 : decode cL_law 385 = .ok (.ireturn, 1) := by decide +kernel
theorem dL_law_386 : decode cL_law 386 = .ok (.iload 5, 2) := by decide +kernel
theorem dL_law_388 : decode cL_law 388 = .ok (.ifCond .ne 15, 3) := by decide +kernel
theorem dL_law_391 : decode cL_law 391 = .ok (.aload_n 3, 1) := by decide +kernel
theorem dL_law_392 : decode cL_law 392 = .ok (.iconst 0, 1) := by decide +kernel
theorem dL_law_393 : decode cL_law 393 = .ok (.laload, 1) := by decide +kernel
theorem dL_law_394 : decode cL_law 394 = .ok (.iload 6, 2) := by decide +kernel
theorem dL_law_396 : decode cL_law 396 = .ok (.i2l, 1) := by decide +kernel
theorem dL_law_397 : decode cL_law 397 = .ok (.lcmp, 1) := by decide +kernel
theorem dL_law_398 : decode cL_law 398 = .ok (.ifCond .eq 5, 3) := by decide +kernel
theorem dL_law_401 : decode cL_law 401 = .ok (.iconst 0, 1) := by decide +kernel
theorem dL_law_402 : decode cL_law 402 = .ok (.ireturn, 1) := by decide +kernel
theorem dL_law_403 : decode cL_law 403 = .ok (.goto 1232, 3) := by decide +kernel
theorem dL_law_406 : decode cL_law 406 = .ok (.aload_n 1, 1) := by decide +kernel
theorem dL_law_407 : decode cL_law 407 = .ok (.aload_n 0, 1) := by decide +kernel
theorem dL_law_408 : decode cL_law 408 = .ok (.iload 4, 2) := by decide +kernel
theorem dL_law_410 : decode cL_law 410 = .ok (.iconst 1, 1) := by decide +kernel
theorem dL_law_411 : decode cL_law 411 = .ok (.iadd, 1) := by decide +kernel
theorem dL_law_412 : decode cL_law 412 = .ok (.iaload, 1) := by decide +kernel
theorem dL_law_413 : decode cL_law 413 = .ok (.aload_n 0, 1) := by decide +kernel
theorem dL_law_414 : decode cL_law 414 = .ok (.iload 4, 2) := by decide +kernel
theorem dL_law_416 : decode cL_law 416 = .ok (.iconst 2, 1) := by decide +kernel
theorem dL_law_417 : decode cL_law 417 = .ok (.iadd, 1) := by decide +kernel
theorem dL_law_418 : decode cL_law 418 = .ok (.iaload, 1) := by decide +kernel
theorem dL_law_419 : decode cL_law 419 = .ok (.aload_n 3, 1) := by decide +kernel
theorem dL_law_420 : decode cL_law 420 = .ok (.invokestatic 119, 3) := by decide +kernel
theorem dL_law_423 : decode cL_law 423 = .ok (.istore 5, 2) := by decide +kernel
theorem dL_law_425 : decode cL_law 425 = .ok (.aload_n 2, 1) := by decide +kernel
theorem dL_law_426 : decode cL_law 426 = .ok (.aload_n 0, 1) := by decide +kernel
theorem dL_law_427 : decode cL_law 427 = .ok (.iload 4, 2) := by decide +kernel
theorem dL_law_429 : decode cL_law 429 = .ok (.iconst 1, 1) := by decide +kernel
theorem dL_law_430 : decode cL_law 430 = .ok (.iadd, 1) := by decide +kernel
theorem dL_law_431 : decode cL_law 431 = .ok (.iaload, 1) := by decide +kernel
theorem dL_law_432 : decode cL_law 432 = .ok (.aload_n 0, 1) := by decide +kernel
theorem dL_law_433 : decode cL_law 433 = .ok (.iload 4, 2) := by decide +kernel
theorem dL_law_435 : decode cL_law 435 = .ok (.iconst 2, 1) := by decide +kernel
theorem dL_law_436 : decode cL_law 436 = .ok (.iadd, 1) := by decide +kernel
theorem dL_law_437 : decode cL_law 437 = .ok (.iaload, 1) := by decide +kernel
theorem dL_law_438 : decode cL_law 438 = .ok (.invokevirtual 121, 3) := by decide +kernel
theorem dL_law_441 : decode cL_law 441 = .ok (.istore 6, 2) := by decide +kernel
theorem dL_law_443 : decode cL_law 443 = .ok (.aload_n 2, 1) := by decide +kernel
theorem dL_law_444 : decode cL_law 444 = .ok (.invokevirtual 97, 3) := by decide +kernel
theorem dL_law_447 : decode cL_law 447 = .ok (.iload 5, 2) := by decide +kernel
theorem dL_law_449 : decode cL_law 449 = .ok (.if_icmp .eq 5, 3) := by decide +kernel
theorem dL_law_452 : decode cL_law 452 = .ok (.iconst 0, 1) := by decide +kernel
theorem dL_law_453 : decode cL_law 453 = .ok (.ireturn, 1) := by decide +kernel
theorem dL_law_454 : decode cL_law 454 = .ok (.iload 5, 2) := by decide +kernel
theorem dL_law_456 : decode cL_law 456 = .ok (.ifCond .ne 15, 3) := by decide +kernel
theorem dL_law_459 : decode cL_law 459 = .ok (.aload_n 3, 1) := by decide +kernel
theorem dL_law_460 : decode cL_law 460 = .ok (.iconst 0, 1) := by decide +kernel
theorem dL_law_461 : decode cL_law 461 = .ok (.laload, 1) := by decide +kernel
theorem dL_law_462 : decode cL_law 462 = .ok (.iload 6, 2) := by decide +kernel
theorem dL_law_464 : decode cL_law 464 = .ok (.i2l, 1) := by decide +kernel
theorem dL_law_465 : decode cL_law 465 = .ok (.lcmp, 1) := by decide +kernel
theorem dL_law_466 : decode cL_law 466 = .ok (.ifCond .eq 5, 3) := by decide +kernel
theorem dL_law_469 : decode cL_law 469 = .ok (.iconst 0, 1) := by decide +kernel
theorem dL_law_470 : decode cL_law 470 = .ok (.ireturn, 1) := by decide +kernel
theorem dL_law_471 : decode cL_law 471 = .ok (.goto 1164, 3) := by decide +kernel
theorem dL_law_474 : decode cL_law 474 = .ok (.aload_n 1, 1) := by decide +kernel
theorem dL_law_475 : decode cL_law 475 = .ok (.aload_n 0, 1) := by decide +kernel
theorem dL_law_476 : decode cL_law 476 = .ok (.iload 4, 2) := by decide +kernel
theorem dL_law_478 : decode cL_law 478 = .ok (.iconst 1, 1) := by decide +kernel
theorem dL_law_479 : decode cL_law 479 = .ok (.iadd, 1) := by decide +kernel
theorem dL_law_480 : decode cL_law 480 = .ok (.iaload, 1) := by decide +kernel
theorem dL_law_481 : decode cL_law 481 = .ok (.aload_n 0, 1) := by decide +kernel
theorem dL_law_482 : decode cL_law 482 = .ok (.iload 4, 2) := by decide +kernel
theorem dL_law_484 : decode cL_law 484 = .ok (.iconst 2, 1) := by decide +kernel
theorem dL_law_485 : decode cL_law 485 = .ok (.iadd, 1) := by decide +kernel
theorem dL_law_486 : decode cL_law 486 = .ok (.iaload, 1) := by decide +kernel
theorem dL_law_487 : decode cL_law 487 = .ok (.aload_n 3, 1) := by decide +kernel
theorem dL_law_488 : decode cL_law 488 = .ok (.invokestatic 122, 3) := by decide +kernel
theorem dL_law_491 : decode cL_law 491 = .ok (.istore 5, 2) := by decide +kernel
theorem dL_law_493 : decode cL_law 493 = .ok (.aload_n 2, 1) := by decide +kernel
theorem dL_law_494 : decode cL_law 494 = .ok (.aload_n 0, 1) := by decide +kernel
theorem dL_law_495 : decode cL_law 495 = .ok (.iload 4, 2) := by decide +kernel
theorem dL_law_497 : decode cL_law 497 = .ok (.iconst 1, 1) := by decide +kernel
theorem dL_law_498 : decode cL_law 498 = .ok (.iadd, 1) := by decide +kernel
theorem dL_law_499 : decode cL_law 499 = .ok (.iaload, 1) := by decide +kernel
theorem dL_law_500 : decode cL_law 500 = .ok (.aload_n 0, 1) := by decide +kernel
theorem dL_law_501 : decode cL_law 501 = .ok (.iload 4, 2) := by decide +kernel
theorem dL_law_503 : decode cL_law 503 = .ok (.iconst 2, 1) := by decide +kernel
theorem dL_law_504 : decode cL_law 504 = .ok (.iadd, 1) := by decide +kernel
theorem dL_law_505 : decode cL_law 505 = .ok (.iaload, 1) := by decide +kernel
theorem dL_law_506 : decode cL_law 506 = .ok (.invokevirtual 124, 3) := by decide +kernel
theorem dL_law_509 : decode cL_law 509 = .ok (.istore 6, 2) := by decide +kernel
theorem dL_law_511 : decode cL_law 511 = .ok (.aload_n 2, 1) := by decide +kernel
theorem dL_law_512 : decode cL_law 512 = .ok (.invokevirtual 97, 3) := by decide +kernel
theorem dL_law_515 : decode cL_law 515 = .ok (.iload 5, 2) := by decide +kernel
theorem dL_law_517 : decode cL_law 517 = .ok (.if_icmp .eq 5, 3) := by decide +kernel
theorem dL_law_520 : decode cL_law 520 = .ok (.iconst 0, 1) := by decide +kernel
theorem dL_law_521 : decode cL_law 521 = .ok (.ireturn, 1) := by decide +kernel
theorem dL_law_522 : decode cL_law 522 = .ok (.iload 5, 2) := by decide +kernel
theorem dL_law_524 : decode cL_law 524 = .ok (.ifCond .ne 15, 3) := by decide +kernel
theorem dL_law_527 : decode cL_law 527 = .ok (.aload_n 3, 1) := by decide +kernel
theorem dL_law_528 : decode cL_law 528 = .ok (.iconst 0, 1) := by decide +kernel
theorem dL_law_529 : decode cL_law 529 = .ok (.laload, 1) := by decide +kernel
theorem dL_law_530 : decode cL_law 530 = .ok (.iload 6, 2) := by decide +kernel
theorem dL_law_532 : decode cL_law 532 = .ok (.i2l, 1) := by decide +kernel
theorem dL_law_533 : decode cL_law 533 = .ok (.lcmp, 1) := by decide +kernel
theorem dL_law_534 : decode cL_law 534 = .ok (.ifCond .eq 5, 3) := by decide +kernel
theorem dL_law_537 : decode cL_law 537 = .ok (.iconst 0, 1) := by decide +kernel
theorem dL_law_538 : decode cL_law 538 = .ok (.ireturn, 1) := by decide +kernel
theorem dL_law_539 : decode cL_law 539 = .ok (.goto 1096, 3) := by decide +kernel
theorem dL_law_542 : decode cL_law 542 = .ok (.aload_n 1, 1) := by decide +kernel
theorem dL_law_543 : decode cL_law 543 = .ok (.aload_n 0, 1) := by decide +kernel
theorem dL_law_544 : decode cL_law 544 = .ok (.iload 4, 2) := by decide +kernel
theorem dL_law_546 : decode cL_law 546 = .ok (.iconst 1, 1) := by decide +kernel
theorem dL_law_547 : decode cL_law 547 = .ok (.iadd, 1) := by decide +kernel
theorem dL_law_548 : decode cL_law 548 = .ok (.iaload, 1) := by decide +kernel
theorem dL_law_549 : decode cL_law 549 = .ok (.aload_n 0, 1) := by decide +kernel
theorem dL_law_550 : decode cL_law 550 = .ok (.iload 4, 2) := by decide +kernel
theorem dL_law_552 : decode cL_law 552 = .ok (.iconst 2, 1) := by decide +kernel
theorem dL_law_553 : decode cL_law 553 = .ok (.iadd, 1) := by decide +kernel
theorem dL_law_554 : decode cL_law 554 = .ok (.iaload, 1) := by decide +kernel
theorem dL_law_555 : decode cL_law 555 = .ok (.aload_n 3, 1) := by decide +kernel
theorem dL_law_556 : decode cL_law 556 = .ok (.invokestatic 125, 3) := by decide +kernel
theorem dL_law_559 : decode cL_law 559 = .ok (.istore 5, 2) := by decide +kernel
theorem dL_law_561 : decode cL_law 561 = .ok (.aload_n 2, 1) := by decide +kernel
theorem dL_law_562 : decode cL_law 562 = .ok (.aload_n 0, 1) := by decide +kernel
theorem dL_law_563 : decode cL_law 563 = .ok (.iload 4, 2) := by decide +kernel
theorem dL_law_565 : decode cL_law 565 = .ok (.iconst 1, 1) := by decide +kernel
theorem dL_law_566 : decode cL_law 566 = .ok (.iadd, 1) := by decide +kernel
theorem dL_law_567 : decode cL_law 567 = .ok (.iaload, 1) := by decide +kernel
theorem dL_law_568 : decode cL_law 568 = .ok (.aload_n 0, 1) := by decide +kernel
theorem dL_law_569 : decode cL_law 569 = .ok (.iload 4, 2) := by decide +kernel
theorem dL_law_571 : decode cL_law 571 = .ok (.iconst 2, 1) := by decide +kernel
theorem dL_law_572 : decode cL_law 572 = .ok (.iadd, 1) := by decide +kernel
theorem dL_law_573 : decode cL_law 573 = .ok (.iaload, 1) := by decide +kernel
theorem dL_law_574 : decode cL_law 574 = .ok (.invokevirtual 127, 3) := by decide +kernel
theorem dL_law_577 : decode cL_law 577 = .ok (.istore 6, 2) := by decide +kernel
theorem dL_law_579 : decode cL_law 579 = .ok (.aload_n 2, 1) := by decide +kernel
theorem dL_law_580 : decode cL_law 580 = .ok (.invokevirtual 97, 3) := by decide +kernel
theorem dL_law_583 : decode cL_law 583 = .ok (.iload 5, 2) := by decide +kernel
theorem dL_law_585 : decode cL_law 585 = .ok (.if_icmp .eq 5, 3) := by decide +kernel
theorem dL_law_588 : decode cL_law 588 = .ok (.iconst 0, 1) := by decide +kernel
theorem dL_law_589 : decode cL_law 589 = .ok (.ireturn, 1) := by decide +kernel
theorem dL_law_590 : decode cL_law 590 = .ok (.iload 5, 2) := by decide +kernel
theorem dL_law_592 : decode cL_law 592 = .ok (.ifCond .ne 15, 3) := by decide +kernel
theorem dL_law_595 : decode cL_law 595 = .ok (.aload_n 3, 1) := by decide +kernel
theorem dL_law_596 : decode cL_law 596 = .ok (.iconst 0, 1) := by decide +kernel
theorem dL_law_597 : decode cL_law 597 = .ok (.laload, 1) := by decide +kernel
theorem dL_law_598 : decode cL_law 598 = .ok (.iload 6, 2) := by decide +kernel
theorem dL_law_600 : decode cL_law 600 = .ok (.i2l, 1) := by decide +kernel
theorem dL_law_601 : decode cL_law 601 = .ok (.lcmp, 1) := by decide +kernel
theorem dL_law_602 : decode cL_law 602 = .ok (.ifCond .eq 5, 3) := by decide +kernel
theorem dL_law_605 : decode cL_law 605 = .ok (.iconst 0, 1) := by decide +kernel
theorem dL_law_606 : decode cL_law 606 = .ok (.ireturn, 1) := by decide +kernel
theorem dL_law_607 : decode cL_law 607 = .ok (.goto 1028, 3) := by decide +kernel
theorem dL_law_610 : decode cL_law 610 = .ok (.aload_n 1, 1) := by decide +kernel
theorem dL_law_611 : decode cL_law 611 = .ok (.aload_n 0, 1) := by decide +kernel
theorem dL_law_612 : decode cL_law 612 = .ok (.iload 4, 2) := by decide +kernel
theorem dL_law_614 : decode cL_law 614 = .ok (.iconst 1, 1) := by decide +kernel
theorem dL_law_615 : decode cL_law 615 = .ok (.iadd, 1) := by decide +kernel
theorem dL_law_616 : decode cL_law 616 = .ok (.iaload, 1) := by decide +kernel
theorem dL_law_617 : decode cL_law 617 = .ok (.aload_n 0, 1) := by decide +kernel
theorem dL_law_618 : decode cL_law 618 = .ok (.iload 4, 2) := by decide +kernel
theorem dL_law_620 : decode cL_law 620 = .ok (.iconst 2, 1) := by decide +kernel
theorem dL_law_621 : decode cL_law 621 = .ok (.iadd, 1) := by decide +kernel
theorem dL_law_622 : decode cL_law 622 = .ok (.iaload, 1) := by decide +kernel
theorem dL_law_623 : decode cL_law 623 = .ok (.aload_n 0, 1) := by decide +kernel
theorem dL_law_624 : decode cL_law 624 = .ok (.iload 4, 2) := by decide +kernel
theorem dL_law_626 : decode cL_law 626 = .ok (.iconst 3, 1) := by decide +kernel
theorem dL_law_627 : decode cL_law 627 = .ok (.iadd, 1) := by decide +kernel
theorem dL_law_628 : decode cL_law 628 = .ok (.iaload, 1) := by decide +kernel
theorem dL_law_629 : decode cL_law 629 = .ok (.aload_n 0, 1) := by decide +kernel
theorem dL_law_630 : decode cL_law 630 = .ok (.iload 4, 2) := by decide +kernel
theorem dL_law_632 : decode cL_law 632 = .ok (.iconst 4, 1) := by decide +kernel
theorem dL_law_633 : decode cL_law 633 = .ok (.iadd, 1) := by decide +kernel
theorem dL_law_634 : decode cL_law 634 = .ok (.iaload, 1) := by decide +kernel
theorem dL_law_635 : decode cL_law 635 = .ok (.aload_n 0, 1) := by decide +kernel
theorem dL_law_636 : decode cL_law 636 = .ok (.iload 4, 2) := by decide +kernel
theorem dL_law_638 : decode cL_law 638 = .ok (.iconst 5, 1) := by decide +kernel
theorem dL_law_639 : decode cL_law 639 = .ok (.iadd, 1) := by decide +kernel
theorem dL_law_640 : decode cL_law 640 = .ok (.iaload, 1) := by decide +kernel
theorem dL_law_641 : decode cL_law 641 = .ok (.aload_n 3, 1) := by decide +kernel
theorem dL_law_642 : decode cL_law 642 = .ok (.invokestatic 128, 3) := by decide +kernel
theorem dL_law_645 : decode cL_law 645 = .ok (.istore 5, 2) := by decide +kernel
theorem dL_law_647 : decode cL_law 647 = .ok (.aload_n 2, 1) := by decide +kernel
theorem dL_law_648 : decode cL_law 648 = .ok (.aload_n 0, 1) := by decide +kernel
theorem dL_law_649 : decode cL_law 649 = .ok (.iload 4, 2) := by decide +kernel
theorem dL_law_651 : decode cL_law 651 = .ok (.iconst 1, 1) := by decide +kernel
theorem dL_law_652 : decode cL_law 652 = .ok (.iadd, 1) := by decide +kernel
theorem dL_law_653 : decode cL_law 653 = .ok (.iaload, 1) := by decide +kernel
theorem dL_law_654 : decode cL_law 654 = .ok (.aload_n 0, 1) := by decide +kernel
theorem dL_law_655 : decode cL_law 655 = .ok (.iload 4, 2) := by decide +kernel
theorem dL_law_657 : decode cL_law 657 = .ok (.iconst 2, 1) := by decide +kernel
theorem dL_law_658 : decode cL_law 658 = .ok (.iadd, 1) := by decide +kernel
theorem dL_law_659 : decode cL_law 659 = .ok (.iaload, 1) := by decide +kernel
theorem dL_law_660 : decode cL_law 660 = .ok (.aload_n 0, 1) := by decide +kernel
theorem dL_law_661 : decode cL_law 661 = .ok (.iload 4, 2) := by decide +kernel
theorem dL_law_663 : decode cL_law 663 = .ok (.iconst 3, 1) := by decide +kernel
theorem dL_law_664 : decode cL_law 664 = .ok (.iadd, 1) := by decide +kernel
theorem dL_law_665 : decode cL_law 665 = .ok (.iaload, 1) := by decide +kernel
theorem dL_law_666 : decode cL_law 666 = .ok (.aload_n 0, 1) := by decide +kernel
theorem dL_law_667 : decode cL_law 667 = .ok (.iload 4, 2) := by decide +kernel
theorem dL_law_669 : decode cL_law 669 = .ok (.iconst 4, 1) := by decide +kernel
theorem dL_law_670 : decode cL_law 670 = .ok (.iadd, 1) := by decide +kernel
theorem dL_law_671 : decode cL_law 671 = .ok (.iaload, 1) := by decide +kernel
theorem dL_law_672 : decode cL_law 672 = .ok (.aload_n 0, 1) := by decide +kernel
theorem dL_law_673 : decode cL_law 673 = .ok (.iload 4, 2) := by decide +kernel
theorem dL_law_675 : decode cL_law 675 = .ok (.iconst 5, 1) := by decide +kernel
theorem dL_law_676 : decode cL_law 676 = .ok (.iadd, 1) := by decide +kernel
theorem dL_law_677 : decode cL_law 677 = .ok (.iaload, 1) := by decide +kernel
theorem dL_law_678 : decode cL_law 678 = .ok (.invokevirtual 131, 3) := by decide +kernel
theorem dL_law_681 : decode cL_law 681 = .ok (.istore 6, 2) := by decide +kernel
theorem dL_law_683 : decode cL_law 683 = .ok (.aload_n 2, 1) := by decide +kernel
theorem dL_law_684 : decode cL_law 684 = .ok (.invokevirtual 97, 3) := by decide +kernel
theorem dL_law_687 : decode cL_law 687 = .ok (.iload 5, 2) := by decide +kernel
theorem dL_law_689 : decode cL_law 689 = .ok (.if_icmp .eq 5, 3) := by decide +kernel
theorem dL_law_692 : decode cL_law 692 = .ok (.iconst 0, 1) := by decide +kernel
theorem dL_law_693 : decode cL_law 693 = .ok (.ireturn, 1) := by decide +kernel
theorem dL_law_694 : decode cL_law 694 = .ok (.iload 5, 2) := by decide +kernel
theorem dL_law_696 : decode cL_law 696 = .ok (.ifCond .ne 15, 3) := by decide +kernel
theorem dL_law_699 : decode cL_law 699 = .ok (.aload_n 3, 1) := by decide +kernel
theorem dL_law_700 : decode cL_law 700 = .ok (.iconst 0, 1) := by decide +kernel
theorem dL_law_701 : decode cL_law 701 = .ok (.laload, 1) := by decide +kernel
theorem dL_law_702 : decode cL_law 702 = .ok (.iload 6, 2) := by decide +kernel
theorem dL_law_704 : decode cL_law 704 = .ok (.i2l, 1) := by decide +kernel
theorem dL_law_705 : decode cL_law 705 = .ok (.lcmp, 1) := by decide +kernel
theorem dL_law_706 : decode cL_law 706 = .ok (.ifCond .eq 5, 3) := by decide +kernel
theorem dL_law_709 : decode cL_law 709 = .ok (.iconst 0, 1) := by decide +kernel
theorem dL_law_710 : decode cL_law 710 = .ok (.ireturn, 1) := by decide +kernel
theorem dL_law_711 : decode cL_law 711 = .ok (.goto 924, 3) := by decide +kernel
theorem dL_law_714 : decode cL_law 714 = .ok (.aload_n 1, 1) := by decide +kernel
theorem dL_law_715 : decode cL_law 715 = .ok (.aload_n 0, 1) := by decide +kernel
theorem dL_law_716 : decode cL_law 716 = .ok (.iload 4, 2) := by decide +kernel
theorem dL_law_718 : decode cL_law 718 = .ok (.iconst 1, 1) := by decide +kernel
theorem dL_law_719 : decode cL_law 719 = .ok (.iadd, 1) := by decide +kernel
theorem dL_law_720 : decode cL_law 720 = .ok (.iaload, 1) := by decide +kernel
theorem dL_law_721 : decode cL_law 721 = .ok (.aload_n 3, 1) := by decide +kernel
theorem dL_law_722 : decode cL_law 722 = .ok (.invokestatic 132, 3) := by decide +kernel
theorem dL_law_725 : decode cL_law 725 = .ok (.istore 5, 2) := by decide +kernel
theorem dL_law_727 : decode cL_law 727 = .ok (.aload_n 2, 1) := by decide +kernel
theorem dL_law_728 : decode cL_law 728 = .ok (.aload_n 0, 1) := by decide +kernel
theorem dL_law_729 : decode cL_law 729 = .ok (.iload 4, 2) := by decide +kernel
theorem dL_law_731 : decode cL_law 731 = .ok (.iconst 1, 1) := by decide +kernel
theorem dL_law_732 : decode cL_law 732 = .ok (.iadd, 1) := by decide +kernel
theorem dL_law_733 : decode cL_law 733 = .ok (.iaload, 1) := by decide +kernel
theorem dL_law_734 : decode cL_law 734 = .ok (.invokevirtual 134, 3) := by decide +kernel
theorem dL_law_737 : decode cL_law 737 = .ok (.istore 6, 2) := by decide +kernel
theorem dL_law_739 : decode cL_law 739 = .ok (.aload_n 2, 1) := by decide +kernel
theorem dL_law_740 : decode cL_law 740 = .ok (.invokevirtual 97, 3) := by decide +kernel
theorem dL_law_743 : decode cL_law 743 = .ok (.iload 5, 2) := by decide +kernel
theorem dL_law_745 : decode cL_law 745 = .ok (.if_icmp .eq 5, 3) := by decide +kernel
theorem dL_law_748 : decode cL_law 748 = .ok (.iconst 0, 1) := by decide +kernel
theorem dL_law_749 : decode cL_law 749 = .ok (.ireturn, 1) := by decide +kernel
theorem dL_law_750 : decode cL_law 750 = .ok (.iload 5, 2) := by decide +kernel
theorem dL_law_752 : decode cL_law 752 = .ok (.ifCond .ne 15, 3) := by decide +kernel
theorem dL_law_755 : decode cL_law 755 = .ok (.aload_n 3, 1) := by decide +kernel
theorem dL_law_756 : decode cL_law 756 = .ok (.iconst 0, 1) := by decide +kernel
theorem dL_law_757 : decode cL_law 757 = .ok (.laload, 1) := by decide +kernel
theorem dL_law_758 : decode cL_law 758 = .ok (.iload 6, 2) := by decide +kernel
theorem dL_law_760 : decode cL_law 760 = .ok (.i2l, 1) := by decide +kernel
theorem dL_law_761 : decode cL_law 761 = .ok (.lcmp, 1) := by decide +kernel
theorem dL_law_762 : decode cL_law 762 = .ok (.ifCond .eq 5, 3) := by decide +kernel
theorem dL_law_765 : decode cL_law 765 = .ok (.iconst 0, 1) := by decide +kernel
theorem dL_law_766 : decode cL_law 766 = .ok (.ireturn, 1) := by decide +kernel
theorem dL_law_767 : decode cL_law 767 = .ok (.goto 868, 3) := by decide +kernel
theorem dL_law_770 : decode cL_law 770 = .ok (.aload_n 1, 1) := by decide +kernel
theorem dL_law_771 : decode cL_law 771 = .ok (.aload_n 0, 1) := by decide +kernel
theorem dL_law_772 : decode cL_law 772 = .ok (.iload 4, 2) := by decide +kernel
theorem dL_law_774 : decode cL_law 774 = .ok (.iconst 1, 1) := by decide +kernel
theorem dL_law_775 : decode cL_law 775 = .ok (.iadd, 1) := by decide +kernel
theorem dL_law_776 : decode cL_law 776 = .ok (.iaload, 1) := by decide +kernel
theorem dL_law_777 : decode cL_law 777 = .ok (.aload_n 0, 1) := by decide +kernel
theorem dL_law_778 : decode cL_law 778 = .ok (.iload 4, 2) := by decide +kernel
theorem dL_law_780 : decode cL_law 780 = .ok (.iconst 2, 1) := by decide +kernel
theorem dL_law_781 : decode cL_law 781 = .ok (.iadd, 1) := by decide +kernel
theorem dL_law_782 : decode cL_law 782 = .ok (.iaload, 1) := by decide +kernel
theorem dL_law_783 : decode cL_law 783 = .ok (.aload_n 3, 1) := by decide +kernel
theorem dL_law_784 : decode cL_law 784 = .ok (.invokestatic 135, 3) := by decide +kernel
theorem dL_law_787 : decode cL_law 787 = .ok (.istore 5, 2) := by decide +kernel
theorem dL_law_789 : decode cL_law 789 = .ok (.aload_n 2, 1) := by decide +kernel
theorem dL_law_790 : decode cL_law 790 = .ok (.aload_n 0, 1) := by decide +kernel
theorem dL_law_791 : decode cL_law 791 = .ok (.iload 4, 2) := by decide +kernel
theorem dL_law_793 : decode cL_law 793 = .ok (.iconst 1, 1) := by decide +kernel
theorem dL_law_794 : decode cL_law 794 = .ok (.iadd, 1) := by decide +kernel
theorem dL_law_795 : decode cL_law 795 = .ok (.iaload, 1) := by decide +kernel
theorem dL_law_796 : decode cL_law 796 = .ok (.aload_n 0, 1) := by decide +kernel
theorem dL_law_797 : decode cL_law 797 = .ok (.iload 4, 2) := by decide +kernel
theorem dL_law_799 : decode cL_law 799 = .ok (.iconst 2, 1) := by decide +kernel
theorem dL_law_800 : decode cL_law 800 = .ok (.iadd, 1) := by decide +kernel
theorem dL_law_801 : decode cL_law 801 = .ok (.iaload, 1) := by decide +kernel
theorem dL_law_802 : decode cL_law 802 = .ok (.invokevirtual 137, 3) := by decide +kernel
theorem dL_law_805 : decode cL_law 805 = .ok (.istore 6, 2) := by decide +kernel
theorem dL_law_807 : decode cL_law 807 = .ok (.aload_n 2, 1) := by decide +kernel
theorem dL_law_808 : decode cL_law 808 = .ok (.invokevirtual 97, 3) := by decide +kernel
theorem dL_law_811 : decode cL_law 811 = .ok (.iload 5, 2) := by decide +kernel
theorem dL_law_813 : decode cL_law 813 = .ok (.if_icmp .eq 5, 3) := by decide +kernel
theorem dL_law_816 : decode cL_law 816 = .ok (.iconst 0, 1) := by decide +kernel
theorem dL_law_817 : decode cL_law 817 = .ok (.ireturn, 1) := by decide +kernel
theorem dL_law_818 : decode cL_law 818 = .ok (.iload 5, 2) := by decide +kernel
theorem dL_law_820 : decode cL_law 820 = .ok (.ifCond .ne 15, 3) := by decide +kernel
theorem dL_law_823 : decode cL_law 823 = .ok (.aload_n 3, 1) := by decide +kernel
theorem dL_law_824 : decode cL_law 824 = .ok (.iconst 0, 1) := by decide +kernel
theorem dL_law_825 : decode cL_law 825 = .ok (.laload, 1) := by decide +kernel
theorem dL_law_826 : decode cL_law 826 = .ok (.iload 6, 2) := by decide +kernel
theorem dL_law_828 : decode cL_law 828 = .ok (.i2l, 1) := by decide +kernel
theorem dL_law_829 : decode cL_law 829 = .ok (.lcmp, 1) := by decide +kernel
theorem dL_law_830 : decode cL_law 830 = .ok (.ifCond .eq 5, 3) := by decide +kernel
theorem dL_law_833 : decode cL_law 833 = .ok (.iconst 0, 1) := by decide +kernel
theorem dL_law_834 : decode cL_law 834 = .ok (.ireturn, 1) := by decide +kernel
theorem dL_law_835 : decode cL_law 835 = .ok (.goto 800, 3) := by decide +kernel
theorem dL_law_838 : decode cL_law 838 = .ok (.aload_n 1, 1) := by decide +kernel
theorem dL_law_839 : decode cL_law 839 = .ok (.aload_n 0, 1) := by decide +kernel
theorem dL_law_840 : decode cL_law 840 = .ok (.iload 4, 2) := by decide +kernel
theorem dL_law_842 : decode cL_law 842 = .ok (.iconst 1, 1) := by decide +kernel
theorem dL_law_843 : decode cL_law 843 = .ok (.iadd, 1) := by decide +kernel
theorem dL_law_844 : decode cL_law 844 = .ok (.iaload, 1) := by decide +kernel
theorem dL_law_845 : decode cL_law 845 = .ok (.aload_n 3, 1) := by decide +kernel
theorem dL_law_846 : decode cL_law 846 = .ok (.invokestatic 138, 3) := by decide +kernel
theorem dL_law_849 : decode cL_law 849 = .ok (.istore 5, 2) := by decide +kernel
theorem dL_law_851 : decode cL_law 851 = .ok (.aload_n 2, 1) := by decide +kernel
theorem dL_law_852 : decode cL_law 852 = .ok (.aload_n 0, 1) := by decide +kernel
theorem dL_law_853 : decode cL_law 853 = .ok (.iload 4, 2) := by decide +kernel
theorem dL_law_855 : decode cL_law 855 = .ok (.iconst 1, 1) := by decide +kernel
theorem dL_law_856 : decode cL_law 856 = .ok (.iadd, 1) := by decide +kernel
theorem dL_law_857 : decode cL_law 857 = .ok (.iaload, 1) := by decide +kernel
theorem dL_law_858 : decode cL_law 858 = .ok (.invokevirtual 140, 3) := by decide +kernel
theorem dL_law_861 : decode cL_law 861 = .ok (.istore 6, 2) := by decide +kernel
theorem dL_law_863 : decode cL_law 863 = .ok (.aload_n 2, 1) := by decide +kernel
theorem dL_law_864 : decode cL_law 864 = .ok (.invokevirtual 97, 3) := by decide +kernel
theorem dL_law_867 : decode cL_law 867 = .ok (.iload 5, 2) := by decide +kernel
theorem dL_law_869 : decode cL_law 869 = .ok (.if_icmp .eq 5, 3) := by decide +kernel
theorem dL_law_872 : decode cL_law 872 = .ok (.iconst 0, 1) := by decide +kernel
theorem dL_law_873 : decode cL_law 873 = .ok (.ireturn, 1) := by decide +kernel
theorem dL_law_874 : decode cL_law 874 = .ok (.iload 5, 2) := by decide +kernel
theorem dL_law_876 : decode cL_law 876 = .ok (.ifCond .ne 15, 3) := by decide +kernel
theorem dL_law_879 : decode cL_law 879 = .ok (.aload_n 3, 1) := by decide +kernel
theorem dL_law_880 : decode cL_law 880 = .ok (.iconst 0, 1) := by decide +kernel
theorem dL_law_881 : decode cL_law 881 = .ok (.laload, 1) := by decide +kernel
theorem dL_law_882 : decode cL_law 882 = .ok (.iload 6, 2) := by decide +kernel
theorem dL_law_884 : decode cL_law 884 = .ok (.i2l, 1) := by decide +kernel
theorem dL_law_885 : decode cL_law 885 = .ok (.lcmp, 1) := by decide +kernel
theorem dL_law_886 : decode cL_law 886 = .ok (.ifCond .eq 5, 3) := by decide +kernel
theorem dL_law_889 : decode cL_law 889 = .ok (.iconst 0, 1) := by decide +kernel
theorem dL_law_890 : decode cL_law 890 = .ok (.ireturn, 1) := by decide +kernel
theorem dL_law_891 : decode cL_law 891 = .ok (.goto 744, 3) := by decide +kernel
theorem dL_law_894 : decode cL_law 894 = .ok (.aload_n 1, 1) := by decide +kernel
theorem dL_law_895 : decode cL_law 895 = .ok (.aload_n 0, 1) := by decide +kernel
theorem dL_law_896 : decode cL_law 896 = .ok (.iload 4, 2) := by decide +kernel
theorem dL_law_898 : decode cL_law 898 = .ok (.iconst 1, 1) := by decide +kernel
theorem dL_law_899 : decode cL_law 899 = .ok (.iadd, 1) := by decide +kernel
theorem dL_law_900 : decode cL_law 900 = .ok (.iaload, 1) := by decide +kernel
theorem dL_law_901 : decode cL_law 901 = .ok (.aload_n 3, 1) := by decide +kernel
theorem dL_law_902 : decode cL_law 902 = .ok (.invokestatic 141, 3) := by decide +kernel
theorem dL_law_905 : decode cL_law 905 = .ok (.istore 5, 2) := by decide +kernel
theorem dL_law_907 : decode cL_law 907 = .ok (.aload_n 2, 1) := by decide +kernel
theorem dL_law_908 : decode cL_law 908 = .ok (.aload_n 0, 1) := by decide +kernel
theorem dL_law_909 : decode cL_law 909 = .ok (.iload 4, 2) := by decide +kernel
theorem dL_law_911 : decode cL_law 911 = .ok (.iconst 1, 1) := by decide +kernel
theorem dL_law_912 : decode cL_law 912 = .ok (.iadd, 1) := by decide +kernel
theorem dL_law_913 : decode cL_law 913 = .ok (.iaload, 1) := by decide +kernel
theorem dL_law_914 : decode cL_law 914 = .ok (.invokevirtual 143, 3) := by decide +kernel
theorem dL_law_917 : decode cL_law 917 = .ok (.istore 6, 2) := by decide +kernel
theorem dL_law_919 : decode cL_law 919 = .ok (.aload_n 2, 1) := by decide +kernel
theorem dL_law_920 : decode cL_law 920 = .ok (.invokevirtual 97, 3) := by decide +kernel
theorem dL_law_923 : decode cL_law 923 = .ok (.iload 5, 2) := by decide +kernel
theorem dL_law_925 : decode cL_law 925 = .ok (.if_icmp .eq 5, 3) := by decide +kernel
theorem dL_law_928 : decode cL_law 928 = .ok (.iconst 0, 1) := by decide +kernel
theorem dL_law_929 : decode cL_law 929 = .ok (.ireturn, 1) := by decide +kernel
theorem dL_law_930 : decode cL_law 930 = .ok (.iload 5, 2) := by decide +kernel
theorem dL_law_932 : decode cL_law 932 = .ok (.ifCond .ne 15, 3) := by decide +kernel
theorem dL_law_935 : decode cL_law 935 = .ok (.aload_n 3, 1) := by decide +kernel
theorem dL_law_936 : decode cL_law 936 = .ok (.iconst 0, 1) := by decide +kernel
theorem dL_law_937 : decode cL_law 937 = .ok (.laload, 1) := by decide +kernel
theorem dL_law_938 : decode cL_law 938 = .ok (.iload 6, 2) := by decide +kernel
theorem dL_law_940 : decode cL_law 940 = .ok (.i2l, 1) := by decide +kernel
theorem dL_law_941 : decode cL_law 941 = .ok (.lcmp, 1) := by decide +kernel
theorem dL_law_942 : decode cL_law 942 = .ok (.ifCond .eq 5, 3) := by decide +kernel
theorem dL_law_945 : decode cL_law 945 = .ok (.iconst 0, 1) := by decide +kernel
theorem dL_law_946 : decode cL_law 946 = .ok (.ireturn, 1) := by decide +kernel
theorem dL_law_947 : decode cL_law 947 = .ok (.goto 688, 3) := by decide +kernel
theorem dL_law_950 : decode cL_law 950 = .ok (.aload_n 1, 1) := by decide +kernel
theorem dL_law_951 : decode cL_law 951 = .ok (.aload_n 3, 1) := by decide +kernel
theorem dL_law_952 : decode cL_law 952 = .ok (.invokestatic 144, 3) := by decide +kernel
theorem dL_law_955 : decode cL_law 955 = .ok (.istore 5, 2) := by decide +kernel
theorem dL_law_957 : decode cL_law 957 = .ok (.aload_n 2, 1) := by decide +kernel
theorem dL_law_958 : decode cL_law 958 = .ok (.invokevirtual 146, 3) := by decide +kernel
theorem dL_law_961 : decode cL_law 961 = .ok (.istore 6, 2) := by decide +kernel
theorem dL_law_963 : decode cL_law 963 = .ok (.aload_n 2, 1) := by decide +kernel
theorem dL_law_964 : decode cL_law 964 = .ok (.invokevirtual 97, 3) := by decide +kernel
theorem dL_law_967 : decode cL_law 967 = .ok (.iload 5, 2) := by decide +kernel
theorem dL_law_969 : decode cL_law 969 = .ok (.if_icmp .eq 5, 3) := by decide +kernel
theorem dL_law_972 : decode cL_law 972 = .ok (.iconst 0, 1) := by decide +kernel
theorem dL_law_973 : decode cL_law 973 = .ok (.ireturn, 1) := by decide +kernel
theorem dL_law_974 : decode cL_law 974 = .ok (.iload 5, 2) := by decide +kernel
theorem dL_law_976 : decode cL_law 976 = .ok (.ifCond .ne 15, 3) := by decide +kernel
theorem dL_law_979 : decode cL_law 979 = .ok (.aload_n 3, 1) := by decide +kernel
theorem dL_law_980 : decode cL_law 980 = .ok (.iconst 0, 1) := by decide +kernel
theorem dL_law_981 : decode cL_law 981 = .ok (.laload, 1) := by decide +kernel
theorem dL_law_982 : decode cL_law 982 = .ok (.iload 6, 2) := by decide +kernel
theorem dL_law_984 : decode cL_law 984 = .ok (.i2l, 1) := by decide +kernel
theorem dL_law_985 : decode cL_law 985 = .ok (.lcmp, 1) := by decide +kernel
theorem dL_law_986 : decode cL_law 986 = .ok (.ifCond .eq 5, 3) := by decide +kernel
theorem dL_law_989 : decode cL_law 989 = .ok (.iconst 0, 1) := by decide +kernel
theorem dL_law_990 : decode cL_law 990 = .ok (.ireturn, 1) := by decide +kernel
theorem dL_law_991 : decode cL_law 991 = .ok (.goto 644, 3) := by decide +kernel
theorem dL_law_994 : decode cL_law 994 = .ok (.aload_n 1, 1) := by decide +kernel
theorem dL_law_995 : decode cL_law 995 = .ok (.aload_n 0, 1) := by decide +kernel
theorem dL_law_996 : decode cL_law 996 = .ok (.iload 4, 2) := by decide +kernel
theorem dL_law_998 : decode cL_law 998 = .ok (.iconst 1, 1) := by decide +kernel
theorem dL_law_999 : decode cL_law 999 = .ok (.iadd, 1) := by decide +kernel
theorem dL_law_1000 : decode cL_law 1000 = .ok (.iaload, 1) := by decide +kernel
theorem dL_law_1001 : decode cL_law 1001 = .ok (.aload_n 0, 1) := by decide +kernel
theorem dL_law_1002 : decode cL_law 1002 = .ok (.iload 4, 2) := by decide +kernel
theorem dL_law_1004 : decode cL_law 1004 = .ok (.iconst 2, 1) := by decide +kernel
theorem dL_law_1005 : decode cL_law 1005 = .ok (.iadd, 1) := by decide +kernel
theorem dL_law_1006 : decode cL_law 1006 = .ok (.iaload, 1) := by decide +kernel
theorem dL_law_1007 : decode cL_law 1007 = .ok (.aload_n 3, 1) := by decide +kernel
theorem dL_law_1008 : decode cL_law 1008 = .ok (.invokestatic 147, 3) := by decide +kernel
theorem dL_law_1011 : decode cL_law 1011 = .ok (.istore 5, 2) := by decide +kernel
theorem dL_law_1013 : decode cL_law 1013 = .ok (.aload_n 2, 1) := by decide +kernel
theorem dL_law_1014 : decode cL_law 1014 = .ok (.aload_n 0, 1) := by decide +kernel
theorem dL_law_1015 : decode cL_law 1015 = .ok (.iload 4, 2) := by decide +kernel
theorem dL_law_1017 : decode cL_law 1017 = .ok (.iconst 1, 1) := by decide +kernel
theorem dL_law_1018 : decode cL_law 1018 = .ok (.iadd, 1) := by decide +kernel
theorem dL_law_1019 : decode cL_law 1019 = .ok (.iaload, 1) := by decide +kernel
theorem dL_law_1020 : decode cL_law 1020 = .ok (.aload_n 0, 1) := by decide +kernel
theorem dL_law_1021 : decode cL_law 1021 = .ok (.iload 4, 2) := by decide +kernel
theorem dL_law_1023 : decode cL_law 1023 = .ok (.iconst 2, 1) := by decide +kernel
theorem dL_law_1024 : decode cL_law 1024 = .ok (.iadd, 1) := by decide +kernel
theorem dL_law_1025 : decode cL_law 1025 = .ok (.iaload, 1) := by decide +kernel
theorem dL_law_1026 : decode cL_law 1026 = .ok (.invokevirtual 149, 3) := by decide +kernel
theorem dL_law_1029 : decode cL_law 1029 = .ok (.istore 6, 2) := by decide +kernel
theorem dL_law_1031 : decode cL_law 1031 = .ok (.aload_n 2, 1) := by decide +kernel
theorem dL_law_1032 : decode cL_law 1032 = .ok (.invokevirtual 97, 3) := by decide +kernel
theorem dL_law_1035 : decode cL_law 1035 = .ok (.iload 5, 2) := by decide +kernel
theorem dL_law_1037 : decode cL_law 1037 = .ok (.if_icmp .eq 5, 3) := by decide +kernel
theorem dL_law_1040 : decode cL_law 1040 = .ok (.iconst 0, 1) := by decide +kernel
theorem dL_law_1041 : decode cL_law 1041 = .ok (.ireturn, 1) := by decide +kernel
theorem dL_law_1042 : decode cL_law 1042 = .ok (.iload 5, 2) := by decide +kernel
theorem dL_law_1044 : decode cL_law 1044 = .ok (.ifCond .ne 15, 3) := by decide +kernel
theorem dL_law_1047 : decode cL_law 1047 = .ok (.aload_n 3, 1) := by decide +kernel
theorem dL_law_1048 : decode cL_law 1048 = .ok (.iconst 0, 1) := by decide +kernel
theorem dL_law_1049 : decode cL_law 1049 = .ok (.laload, 1) := by decide +kernel
theorem dL_law_1050 : decode cL_law 1050 = .ok (.iload 6, 2) := by decide +kernel
theorem dL_law_1052 : decode cL_law 1052 = .ok (.i2l, 1) := by decide +kernel
theorem dL_law_1053 : decode cL_law 1053 = .ok (.lcmp, 1) := by decide +kernel
theorem dL_law_1054 : decode cL_law 1054 = .ok (.ifCond .eq 5, 3) := by decide +kernel
theorem dL_law_1057 : decode cL_law 1057 = .ok (.iconst 0, 1) := by decide +kernel
theorem dL_law_1058 : decode cL_law 1058 = .ok (.ireturn, 1) := by decide +kernel
theorem dL_law_1059 : decode cL_law 1059 = .ok (.goto 576, 3) := by decide +kernel
theorem dL_law_1062 : decode cL_law 1062 = .ok (.aload_n 1, 1) := by decide +kernel
theorem dL_law_1063 : decode cL_law 1063 = .ok (.aload_n 0, 1) := by decide +kernel
theorem dL_law_1064 : decode cL_law 1064 = .ok (.iload 4, 2) := by decide +kernel
theorem dL_law_1066 : decode cL_law 1066 = .ok (.iconst 1, 1) := by decide +kernel
theorem dL_law_1067 : decode cL_law 1067 = .ok (.iadd, 1) := by decide +kernel
theorem dL_law_1068 : decode cL_law 1068 = .ok (.iaload, 1) := by decide +kernel
theorem dL_law_1069 : decode cL_law 1069 = .ok (.aload_n 3, 1) := by decide +kernel
theorem dL_law_1070 : decode cL_law 1070 = .ok (.invokestatic 150, 3) := by decide +kernel
theorem dL_law_1073 : decode cL_law 1073 = .ok (.istore 5, 2) := by decide +kernel
theorem dL_law_1075 : decode cL_law 1075 = .ok (.aload_n 2, 1) := by decide +kernel
theorem dL_law_1076 : decode cL_law 1076 = .ok (.aload_n 0, 1) := by decide +kernel
theorem dL_law_1077 : decode cL_law 1077 = .ok (.iload 4, 2) := by decide +kernel
theorem dL_law_1079 : decode cL_law 1079 = .ok (.iconst 1, 1) := by decide +kernel
theorem dL_law_1080 : decode cL_law 1080 = .ok (.iadd, 1) := by decide +kernel
theorem dL_law_1081 : decode cL_law 1081 = .ok (.iaload, 1) := by decide +kernel
theorem dL_law_1082 : decode cL_law 1082 = .ok (.invokevirtual 152, 3) := by decide +kernel
theorem dL_law_1085 : decode cL_law 1085 = .ok (.istore 6, 2) := by decide +kernel
theorem dL_law_1087 : decode cL_law 1087 = .ok (.aload_n 2, 1) := by decide +kernel
theorem dL_law_1088 : decode cL_law 1088 = .ok (.invokevirtual 97, 3) := by decide +kernel
theorem dL_law_1091 : decode cL_law 1091 = .ok (.iload 5, 2) := by decide +kernel
theorem dL_law_1093 : decode cL_law 1093 = .ok (.if_icmp .eq 5, 3) := by decide +kernel
theorem dL_law_1096 : decode cL_law 1096 = .ok (.iconst 0, 1) := by decide +kernel
theorem dL_law_1097 : decode cL_law 1097 = .ok (.ireturn, 1) := by decide +kernel
theorem dL_law_1098 : decode cL_law 1098 = .ok (.iload 5, 2) := by decide +kernel
theorem dL_law_1100 : decode cL_law 1100 = .ok (.ifCond .ne 15, 3) := by decide +kernel
theorem dL_law_1103 : decode cL_law 1103 = .ok (.aload_n 3, 1) := by decide +kernel
theorem dL_law_1104 : decode cL_law 1104 = .ok (.iconst 0, 1) := by decide +kernel
theorem dL_law_1105 : decode cL_law 1105 = .ok (.laload, 1) := by decide +kernel
theorem dL_law_1106 : decode cL_law 1106 = .ok (.iload 6, 2) := by decide +kernel
theorem dL_law_1108 : decode cL_law 1108 = .ok (.i2l, 1) := by decide +kernel
theorem dL_law_1109 : decode cL_law 1109 = .ok (.lcmp, 1) := by decide +kernel
theorem dL_law_1110 : decode cL_law 1110 = .ok (.ifCond .eq 5, 3) := by decide +kernel
theorem dL_law_1113 : decode cL_law 1113 = .ok (.iconst 0, 1) := by decide +kernel
theorem dL_law_1114 : decode cL_law 1114 = .ok (.ireturn, 1) := by decide +kernel
theorem dL_law_1115 : decode cL_law 1115 = .ok (.goto 520, 3) := by decide +kernel
theorem dL_law_1118 : decode cL_law 1118 = .ok (.aload_n 1, 1) := by decide +kernel
theorem dL_law_1119 : decode cL_law 1119 = .ok (.aload_n 0, 1) := by decide +kernel
theorem dL_law_1120 : decode cL_law 1120 = .ok (.iload 4, 2) := by decide +kernel
theorem dL_law_1122 : decode cL_law 1122 = .ok (.iconst 1, 1) := by decide +kernel
theorem dL_law_1123 : decode cL_law 1123 = .ok (.iadd, 1) := by decide +kernel
theorem dL_law_1124 : decode cL_law 1124 = .ok (.iaload, 1) := by decide +kernel
theorem dL_law_1125 : decode cL_law 1125 = .ok (.aload_n 0, 1) := by decide +kernel
theorem dL_law_1126 : decode cL_law 1126 = .ok (.iload 4, 2) := by decide +kernel
theorem dL_law_1128 : decode cL_law 1128 = .ok (.iconst 2, 1) := by decide +kernel
theorem dL_law_1129 : decode cL_law 1129 = .ok (.iadd, 1) := by decide +kernel
theorem dL_law_1130 : decode cL_law 1130 = .ok (.iaload, 1) := by decide +kernel
theorem dL_law_1131 : decode cL_law 1131 = .ok (.aload_n 3, 1) := by decide +kernel
theorem dL_law_1132 : decode cL_law 1132 = .ok (.invokestatic 153, 3) := by decide +kernel
theorem dL_law_1135 : decode cL_law 1135 = .ok (.istore 5, 2) := by decide +kernel
theorem dL_law_1137 : decode cL_law 1137 = .ok (.aload_n 2, 1) := by decide +kernel
theorem dL_law_1138 : decode cL_law 1138 = .ok (.aload_n 0, 1) := by decide +kernel
theorem dL_law_1139 : decode cL_law 1139 = .ok (.iload 4, 2) := by decide +kernel
theorem dL_law_1141 : decode cL_law 1141 = .ok (.iconst 1, 1) := by decide +kernel
theorem dL_law_1142 : decode cL_law 1142 = .ok (.iadd, 1) := by decide +kernel
theorem dL_law_1143 : decode cL_law 1143 = .ok (.iaload, 1) := by decide +kernel
theorem dL_law_1144 : decode cL_law 1144 = .ok (.aload_n 0, 1) := by decide +kernel
theorem dL_law_1145 : decode cL_law 1145 = .ok (.iload 4, 2) := by decide +kernel
theorem dL_law_1147 : decode cL_law 1147 = .ok (.iconst 2, 1) := by decide +kernel
theorem dL_law_1148 : decode cL_law 1148 = .ok (.iadd, 1) := by decide +kernel
theorem dL_law_1149 : decode cL_law 1149 = .ok (.iaload, 1) := by decide +kernel
theorem dL_law_1150 : decode cL_law 1150 = .ok (.invokevirtual 155, 3) := by decide +kernel
theorem dL_law_1153 : decode cL_law 1153 = .ok (.istore 6, 2) := by decide +kernel
theorem dL_law_1155 : decode cL_law 1155 = .ok (.aload_n 2, 1) := by decide +kernel
theorem dL_law_1156 : decode cL_law 1156 = .ok (.invokevirtual 97, 3) := by decide +kernel
theorem dL_law_1159 : decode cL_law 1159 = .ok (.iload 5, 2) := by decide +kernel
theorem dL_law_1161 : decode cL_law 1161 = .ok (.if_icmp .eq 5, 3) := by decide +kernel
theorem dL_law_1164 : decode cL_law 1164 = .ok (.iconst 0, 1) := by decide +kernel
theorem dL_law_1165 : decode cL_law 1165 = .ok (.ireturn, 1) := by decide +kernel
theorem dL_law_1166 : decode cL_law 1166 = .ok (.iload 5, 2) := by decide +kernel
theorem dL_law_1168 : decode cL_law 1168 = .ok (.ifCond .ne 15, 3) := by decide +kernel
theorem dL_law_1171 : decode cL_law 1171 = .ok (.aload_n 3, 1) := by decide +kernel
theorem dL_law_1172 : decode cL_law 1172 = .ok (.iconst 0, 1) := by decide +kernel
theorem dL_law_1173 : decode cL_law 1173 = .ok (.laload, 1) := by decide +kernel
theorem dL_law_1174 : decode cL_law 1174 = .ok (.iload 6, 2) := by decide +kernel
theorem dL_law_1176 : decode cL_law 1176 = .ok (.i2l, 1) := by decide +kernel
theorem dL_law_1177 : decode cL_law 1177 = .ok (.lcmp, 1) := by decide +kernel
theorem dL_law_1178 : decode cL_law 1178 = .ok (.ifCond .eq 5, 3) := by decide +kernel
theorem dL_law_1181 : decode cL_law 1181 = .ok (.iconst 0, 1) := by decide +kernel
theorem dL_law_1182 : decode cL_law 1182 = .ok (.ireturn, 1) := by decide +kernel
theorem dL_law_1183 : decode cL_law 1183 = .ok (.goto 452, 3) := by decide +kernel
theorem dL_law_1186 : decode cL_law 1186 = .ok (.aload_n 1, 1) := by decide +kernel
theorem dL_law_1187 : decode cL_law 1187 = .ok (.invokevirtual 156, 3) := by decide +kernel
theorem dL_law_1190 : decode cL_law 1190 = .ok (.aload_n 2, 1) := by decide +kernel
theorem dL_law_1191 : decode cL_law 1191 = .ok (.invokevirtual 159, 3) := by decide +kernel
theorem dL_law_1194 : decode cL_law 1194 = .ok (.if_icmp .eq 441, 3) := by decide +kernel
theorem dL_law_1197 : decode cL_law 1197 = .ok (.iconst 0, 1) := by decide +kernel
theorem dL_law_1198 : decode cL_law 1198 = .ok (.ireturn, 1) := by decide +kernel
theorem dL_law_1199 : decode cL_law 1199 = .ok (.aload_n 1, 1) := by decide +kernel
theorem dL_law_1200 : decode cL_law 1200 = .ok (.aload_n 0, 1) := by decide +kernel
theorem dL_law_1201 : decode cL_law 1201 = .ok (.iload 4, 2) := by decide +kernel
theorem dL_law_1203 : decode cL_law 1203 = .ok (.iconst 1, 1) := by decide +kernel
theorem dL_law_1204 : decode cL_law 1204 = .ok (.iadd, 1) := by decide +kernel
theorem dL_law_1205 : decode cL_law 1205 = .ok (.iaload, 1) := by decide +kernel
theorem dL_law_1206 : decode cL_law 1206 = .ok (.aload_n 3, 1) := by decide +kernel
theorem dL_law_1207 : decode cL_law 1207 = .ok (.invokestatic 160, 3) := by decide +kernel
theorem dL_law_1210 : decode cL_law 1210 = .ok (.istore 5, 2) := by decide +kernel
theorem dL_law_1212 : decode cL_law 1212 = .ok (.aload_n 2, 1) := by decide +kernel
theorem dL_law_1213 : decode cL_law 1213 = .ok (.aload_n 0, 1) := by decide +kernel
theorem dL_law_1214 : decode cL_law 1214 = .ok (.iload 4, 2) := by decide +kernel
theorem dL_law_1216 : decode cL_law 1216 = .ok (.iconst 1, 1) := by decide +kernel
theorem dL_law_1217 : decode cL_law 1217 = .ok (.iadd, 1) := by decide +kernel
theorem dL_law_1218 : decode cL_law 1218 = .ok (.iaload, 1) := by decide +kernel
theorem dL_law_1219 : decode cL_law 1219 = .ok (.invokevirtual 162, 3) := by decide +kernel
theorem dL_law_1222 : decode cL_law 1222 = .ok (.istore 6, 2) := by decide +kernel
theorem dL_law_1224 : decode cL_law 1224 = .ok (.aload_n 2, 1) := by decide +kernel
theorem dL_law_1225 : decode cL_law 1225 = .ok (.invokevirtual 97, 3) := by decide +kernel
theorem dL_law_1228 : decode cL_law 1228 = .ok (.iload 5, 2) := by decide +kernel
theorem dL_law_1230 : decode cL_law 1230 = .ok (.if_icmp .eq 5, 3) := by decide +kernel
theorem dL_law_1233 : decode cL_law 1233 = .ok (.iconst 0, 1) := by decide +kernel
theorem dL_law_1234 : decode cL_law 1234 = .ok (.ireturn, 1) := by decide +kernel
theorem dL_law_1235 : decode cL_law 1235 = .ok (.iload 5, 2) := by decide +kernel
theorem dL_law_1237 : decode cL_law 1237 = .ok (.ifCond .ne 15, 3) := by decide +kernel
theorem dL_law_1240 : decode cL_law 1240 = .ok (.aload_n 3, 1) := by decide +kernel
theorem dL_law_1241 : decode cL_law 1241 = .ok (.iconst 0, 1) := by decide +kernel
theorem dL_law_1242 : decode cL_law 1242 = .ok (.laload, 1) := by decide +kernel
theorem dL_law_1243 : decode cL_law 1243 = .ok (.iload 6, 2) := by decide +kernel
theorem dL_law_1245 : decode cL_law 1245 = .ok (.i2l, 1) := by decide +kernel
theorem dL_law_1246 : decode cL_law 1246 = .ok (.lcmp, 1) := by decide +kernel
theorem dL_law_1247 : decode cL_law 1247 = .ok (.ifCond .eq 5, 3) := by decide +kernel
theorem dL_law_1250 : decode cL_law 1250 = .ok (.iconst 0, 1) := by decide +kernel
theorem dL_law_1251 : decode cL_law 1251 = .ok (.ireturn, 1) := by decide +kernel
theorem dL_law_1252 : decode cL_law 1252 = .ok (.goto 383, 3) := by decide +kernel
theorem dL_law_1255 : decode cL_law 1255 = .ok (.aload_n 1, 1) := by decide +kernel
theorem dL_law_1256 : decode cL_law 1256 = .ok (.aload_n 0, 1) := by decide +kernel
theorem dL_law_1257 : decode cL_law 1257 = .ok (.iload 4, 2) := by decide +kernel
theorem dL_law_1259 : decode cL_law 1259 = .ok (.iconst 1, 1) := by decide +kernel
theorem dL_law_1260 : decode cL_law 1260 = .ok (.iadd, 1) := by decide +kernel
theorem dL_law_1261 : decode cL_law 1261 = .ok (.iaload, 1) := by decide +kernel
theorem dL_law_1262 : decode cL_law 1262 = .ok (.aload_n 0, 1) := by decide +kernel
theorem dL_law_1263 : decode cL_law 1263 = .ok (.iload 4, 2) := by decide +kernel
theorem dL_law_1265 : decode cL_law 1265 = .ok (.iconst 2, 1) := by decide +kernel
theorem dL_law_1266 : decode cL_law 1266 = .ok (.iadd, 1) := by decide +kernel
theorem dL_law_1267 : decode cL_law 1267 = .ok (.iaload, 1) := by decide +kernel
theorem dL_law_1268 : decode cL_law 1268 = .ok (.aload_n 3, 1) := by decide +kernel
theorem dL_law_1269 : decode cL_law 1269 = .ok (.invokestatic 163, 3) := by decide +kernel
theorem dL_law_1272 : decode cL_law 1272 = .ok (.istore 5, 2) := by decide +kernel
theorem dL_law_1274 : decode cL_law 1274 = .ok (.aload_n 2, 1) := by decide +kernel
theorem dL_law_1275 : decode cL_law 1275 = .ok (.aload_n 0, 1) := by decide +kernel
theorem dL_law_1276 : decode cL_law 1276 = .ok (.iload 4, 2) := by decide +kernel
theorem dL_law_1278 : decode cL_law 1278 = .ok (.iconst 1, 1) := by decide +kernel
theorem dL_law_1279 : decode cL_law 1279 = .ok (.iadd, 1) := by decide +kernel
theorem dL_law_1280 : decode cL_law 1280 = .ok (.iaload, 1) := by decide +kernel
theorem dL_law_1281 : decode cL_law 1281 = .ok (.aload_n 0, 1) := by decide +kernel
theorem dL_law_1282 : decode cL_law 1282 = .ok (.iload 4, 2) := by decide +kernel
theorem dL_law_1284 : decode cL_law 1284 = .ok (.iconst 2, 1) := by decide +kernel
theorem dL_law_1285 : decode cL_law 1285 = .ok (.iadd, 1) := by decide +kernel
theorem dL_law_1286 : decode cL_law 1286 = .ok (.iaload, 1) := by decide +kernel
theorem dL_law_1287 : decode cL_law 1287 = .ok (.invokevirtual 165, 3) := by decide +kernel
theorem dL_law_1290 : decode cL_law 1290 = .ok (.istore 6, 2) := by decide +kernel
theorem dL_law_1292 : decode cL_law 1292 = .ok (.aload_n 2, 1) := by decide +kernel
theorem dL_law_1293 : decode cL_law 1293 = .ok (.invokevirtual 97, 3) := by decide +kernel
theorem dL_law_1296 : decode cL_law 1296 = .ok (.iload 5, 2) := by decide +kernel
theorem dL_law_1298 : decode cL_law 1298 = .ok (.if_icmp .eq 5, 3) := by decide +kernel
theorem dL_law_1301 : decode cL_law 1301 = .ok (.iconst 0, 1) := by decide +kernel
theorem dL_law_1302 : decode cL_law 1302 = .ok (.ireturn, 1) := by decide +kernel
theorem dL_law_1303 : decode cL_law 1303 = .ok (.iload 5, 2) := by decide +kernel
theorem dL_law_1305 : decode cL_law 1305 = .ok (.ifCond .ne 15, 3) := by decide +kernel
theorem dL_law_1308 : decode cL_law 1308 = .ok (.aload_n 3, 1) := by decide +kernel
theorem dL_law_1309 : decode cL_law 1309 = .ok (.iconst 0, 1) := by decide +kernel
theorem dL_law_1310 : decode cL_law 1310 = .ok (.laload, 1) := by decide +kernel
theorem dL_law_1311 : decode cL_law 1311 = .ok (.iload 6, 2) := by decide +kernel
theorem dL_law_1313 : decode cL_law 1313 = .ok (.i2l, 1) := by decide +kernel
theorem dL_law_1314 : decode cL_law 1314 = .ok (.lcmp, 1) := by decide +kernel
theorem dL_law_1315 : decode cL_law 1315 = .ok (.ifCond .eq 5, 3) := by decide +kernel
theorem dL_law_1318 : decode cL_law 1318 = .ok (.iconst 0, 1) := by decide +kernel
theorem dL_law_1319 : decode cL_law 1319 = .ok (.ireturn, 1) := by decide +kernel
theorem dL_law_1320 : decode cL_law 1320 = .ok (.goto 315, 3) := by decide +kernel
theorem dL_law_1323 : decode cL_law 1323 = .ok (.aload_n 1, 1) := by decide +kernel
theorem dL_law_1324 : decode cL_law 1324 = .ok (.aload_n 0, 1) := by decide +kernel
theorem dL_law_1325 : decode cL_law 1325 = .ok (.iload 4, 2) := by decide +kernel
theorem dL_law_1327 : decode cL_law 1327 = .ok (.iconst 1, 1) := by decide +kernel
theorem dL_law_1328 : decode cL_law 1328 = .ok (.iadd, 1) := by decide +kernel
theorem dL_law_1329 : decode cL_law 1329 = .ok (.iaload, 1) := by decide +kernel
theorem dL_law_1330 : decode cL_law 1330 = .ok (.aload_n 0, 1) := by decide +kernel
theorem dL_law_1331 : decode cL_law 1331 = .ok (.iload 4, 2) := by decide +kernel
theorem dL_law_1333 : decode cL_law 1333 = .ok (.iconst 2, 1) := by decide +kernel
theorem dL_law_1334 : decode cL_law 1334 = .ok (.iadd, 1) := by decide +kernel
theorem dL_law_1335 : decode cL_law 1335 = .ok (.iaload, 1) := by decide +kernel
theorem dL_law_1336 : decode cL_law 1336 = .ok (.i2l, 1) := by decide +kernel
theorem dL_law_1337 : decode cL_law 1337 = .ok (.bipush 32, 2) := by decide +kernel
theorem dL_law_1339 : decode cL_law 1339 = .ok (.lshl, 1) := by decide +kernel
theorem dL_law_1340 : decode cL_law 1340 = .ok (.aload_n 0, 1) := by decide +kernel
theorem dL_law_1341 : decode cL_law 1341 = .ok (.iload 4, 2) := by decide +kernel
theorem dL_law_1343 : decode cL_law 1343 = .ok (.iconst 3, 1) := by decide +kernel
theorem dL_law_1344 : decode cL_law 1344 = .ok (.iadd, 1) := by decide +kernel
theorem dL_law_1345 : decode cL_law 1345 = .ok (.iaload, 1) := by decide +kernel
theorem dL_law_1346 : decode cL_law 1346 = .ok (.i2l, 1) := by decide +kernel
theorem dL_law_1347 : decode cL_law 1347 = .ok (.ldc2_w 166, 3) := by decide +kernel
theorem dL_law_1350 : decode cL_law 1350 = .ok (.land, 1) := by decide +kernel
theorem dL_law_1351 : decode cL_law 1351 = .ok (.lor, 1) := by decide +kernel
theorem dL_law_1352 : decode cL_law 1352 = .ok (.aload_n 3, 1) := by decide +kernel
theorem dL_law_1353 : decode cL_law 1353 = .ok (.invokestatic 168, 3) := by decide +kernel
theorem dL_law_1356 : decode cL_law 1356 = .ok (.istore 5, 2) := by decide +kernel
theorem dL_law_1358 : decode cL_law 1358 = .ok (.aload_n 2, 1) := by decide +kernel
theorem dL_law_1359 : decode cL_law 1359 = .ok (.aload_n 0, 1) := by decide +kernel
theorem dL_law_1360 : decode cL_law 1360 = .ok (.iload 4, 2) := by decide +kernel
theorem dL_law_1362 : decode cL_law 1362 = .ok (.iconst 1, 1) := by decide +kernel
theorem dL_law_1363 : decode cL_law 1363 = .ok (.iadd, 1) := by decide +kernel
theorem dL_law_1364 : decode cL_law 1364 = .ok (.iaload, 1) := by decide +kernel
theorem dL_law_1365 : decode cL_law 1365 = .ok (.aload_n 0, 1) := by decide +kernel
theorem dL_law_1366 : decode cL_law 1366 = .ok (.iload 4, 2) := by decide +kernel
theorem dL_law_1368 : decode cL_law 1368 = .ok (.iconst 2, 1) := by decide +kernel
theorem dL_law_1369 : decode cL_law 1369 = .ok (.iadd, 1) := by decide +kernel
theorem dL_law_1370 : decode cL_law 1370 = .ok (.iaload, 1) := by decide +kernel
theorem dL_law_1371 : decode cL_law 1371 = .ok (.i2l, 1) := by decide +kernel
theorem dL_law_1372 : decode cL_law 1372 = .ok (.bipush 32, 2) := by decide +kernel
theorem dL_law_1374 : decode cL_law 1374 = .ok (.lshl, 1) := by decide +kernel
theorem dL_law_1375 : decode cL_law 1375 = .ok (.aload_n 0, 1) := by decide +kernel
theorem dL_law_1376 : decode cL_law 1376 = .ok (.iload 4, 2) := by decide +kernel
theorem dL_law_1378 : decode cL_law 1378 = .ok (.iconst 3, 1) := by decide +kernel
theorem dL_law_1379 : decode cL_law 1379 = .ok (.iadd, 1) := by decide +kernel
theorem dL_law_1380 : decode cL_law 1380 = .ok (.iaload, 1) := by decide +kernel
theorem dL_law_1381 : decode cL_law 1381 = .ok (.i2l, 1) := by decide +kernel
theorem dL_law_1382 : decode cL_law 1382 = .ok (.ldc2_w 166, 3) := by decide +kernel
theorem dL_law_1385 : decode cL_law 1385 = .ok (.land, 1) := by decide +kernel
theorem dL_law_1386 : decode cL_law 1386 = .ok (.lor, 1) := by decide +kernel
theorem dL_law_1387 : decode cL_law 1387 = .ok (.invokevirtual 171, 3) := by decide +kernel
theorem dL_law_1390 : decode cL_law 1390 = .ok (.istore 6, 2) := by decide +kernel
theorem dL_law_1392 : decode cL_law 1392 = .ok (.aload_n 2, 1) := by decide +kernel
theorem dL_law_1393 : decode cL_law 1393 = .ok (.invokevirtual 97, 3) := by decide +kernel
theorem dL_law_1396 : decode cL_law 1396 = .ok (.iload 5, 2) := by decide +kernel
theorem dL_law_1398 : decode cL_law 1398 = .ok (.if_icmp .eq 5, 3) := by decide +kernel
theorem dL_law_1401 : decode cL_law 1401 = .ok (.iconst 0, 1) := by decide +kernel
theorem dL_law_1402 : decode cL_law 1402 = .ok (.ireturn, 1) := by decide +kernel
theorem dL_law_1403 : decode cL_law 1403 = .ok (.iload 5, 2) := by decide +kernel
theorem dL_law_1405 : decode cL_law 1405 = .ok (.ifCond .ne 15, 3) := by decide +kernel
theorem dL_law_1408 : decode cL_law 1408 = .ok (.aload_n 3, 1) := by decide +kernel
theorem dL_law_1409 : decode cL_law 1409 = .ok (.iconst 0, 1) := by decide +kernel
theorem dL_law_1410 : decode cL_law 1410 = .ok (.laload, 1) := by decide +kernel
theorem dL_law_1411 : decode cL_law 1411 = .ok (.iload 6, 2) := by decide +kernel
theorem dL_law_1413 : decode cL_law 1413 = .ok (.i2l, 1) := by decide +kernel
theorem dL_law_1414 : decode cL_law 1414 = .ok (.lcmp, 1) := by decide +kernel
theorem dL_law_1415 : decode cL_law 1415 = .ok (.ifCond .eq 5, 3) := by decide +kernel
theorem dL_law_1418 : decode cL_law 1418 = .ok (.iconst 0, 1) := by decide +kernel
theorem dL_law_1419 : decode cL_law 1419 = .ok (.ireturn, 1) := by decide +kernel
theorem dL_law_1420 : decode cL_law 1420 = .ok (.goto 215, 3) := by decide +kernel
theorem dL_law_1423 : decode cL_law 1423 = .ok (.aload_n 1, 1) := by decide +kernel
theorem dL_law_1424 : decode cL_law 1424 = .ok (.aload_n 0, 1) := by decide +kernel
theorem dL_law_1425 : decode cL_law 1425 = .ok (.iload 4, 2) := by decide +kernel
theorem dL_law_1427 : decode cL_law 1427 = .ok (.iconst 1, 1) := by decide +kernel
theorem dL_law_1428 : decode cL_law 1428 = .ok (.iadd, 1) := by decide +kernel
theorem dL_law_1429 : decode cL_law 1429 = .ok (.iaload, 1) := by decide +kernel
theorem dL_law_1430 : decode cL_law 1430 = .ok (.i2l, 1) := by decide +kernel
theorem dL_law_1431 : decode cL_law 1431 = .ok (.bipush 32, 2) := by decide +kernel
theorem dL_law_1433 : decode cL_law 1433 = .ok (.lshl, 1) := by decide +kernel
theorem dL_law_1434 : decode cL_law 1434 = .ok (.aload_n 0, 1) := by decide +kernel
theorem dL_law_1435 : decode cL_law 1435 = .ok (.iload 4, 2) := by decide +kernel
theorem dL_law_1437 : decode cL_law 1437 = .ok (.iconst 2, 1) := by decide +kernel
theorem dL_law_1438 : decode cL_law 1438 = .ok (.iadd, 1) := by decide +kernel
theorem dL_law_1439 : decode cL_law 1439 = .ok (.iaload, 1) := by decide +kernel
theorem dL_law_1440 : decode cL_law 1440 = .ok (.i2l, 1) := by decide +kernel
theorem dL_law_1441 : decode cL_law 1441 = .ok (.ldc2_w 166, 3) := by decide +kernel
theorem dL_law_1444 : decode cL_law 1444 = .ok (.land, 1) := by decide +kernel
theorem dL_law_1445 : decode cL_law 1445 = .ok (.lor, 1) := by decide +kernel
theorem dL_law_1446 : decode cL_law 1446 = .ok (.aload_n 0, 1) := by decide +kernel
theorem dL_law_1447 : decode cL_law 1447 = .ok (.iload 4, 2) := by decide +kernel
theorem dL_law_1449 : decode cL_law 1449 = .ok (.iconst 3, 1) := by decide +kernel
theorem dL_law_1450 : decode cL_law 1450 = .ok (.iadd, 1) := by decide +kernel
theorem dL_law_1451 : decode cL_law 1451 = .ok (.iaload, 1) := by decide +kernel
theorem dL_law_1452 : decode cL_law 1452 = .ok (.aload_n 3, 1) := by decide +kernel
theorem dL_law_1453 : decode cL_law 1453 = .ok (.invokestatic 172, 3) := by decide +kernel
theorem dL_law_1456 : decode cL_law 1456 = .ok (.istore 5, 2) := by decide +kernel
theorem dL_law_1458 : decode cL_law 1458 = .ok (.aload_n 2, 1) := by decide +kernel
theorem dL_law_1459 : decode cL_law 1459 = .ok (.aload_n 0, 1) := by decide +kernel
theorem dL_law_1460 : decode cL_law 1460 = .ok (.iload 4, 2) := by decide +kernel
theorem dL_law_1462 : decode cL_law 1462 = .ok (.iconst 1, 1) := by decide +kernel
theorem dL_law_1463 : decode cL_law 1463 = .ok (.iadd, 1) := by decide +kernel
theorem dL_law_1464 : decode cL_law 1464 = .ok (.iaload, 1) := by decide +kernel
theorem dL_law_1465 : decode cL_law 1465 = .ok (.i2l, 1) := by decide +kernel
theorem dL_law_1466 : decode cL_law 1466 = .ok (.bipush 32, 2) := by decide +kernel
theorem dL_law_1468 : decode cL_law 1468 = .ok (.lshl, 1) := by decide +kernel
theorem dL_law_1469 : decode cL_law 1469 = .ok (.aload_n 0, 1) := by decide +kernel
theorem dL_law_1470 : decode cL_law 1470 = .ok (.iload 4, 2) := by decide +kernel
theorem dL_law_1472 : decode cL_law 1472 = .ok (.iconst 2, 1) := by decide +kernel
theorem dL_law_1473 : decode cL_law 1473 = .ok (.iadd, 1) := by decide +kernel
theorem dL_law_1474 : decode cL_law 1474 = .ok (.iaload, 1) := by decide +kernel
theorem dL_law_1475 : decode cL_law 1475 = .ok (.i2l, 1) := by decide +kernel
theorem dL_law_1476 : decode cL_law 1476 = .ok (.ldc2_w 166, 3) := by decide +kernel
theorem dL_law_1479 : decode cL_law 1479 = .ok (.land, 1) := by decide +kernel
theorem dL_law_1480 : decode cL_law 1480 = .ok (.lor, 1) := by decide +kernel
theorem dL_law_1481 : decode cL_law 1481 = .ok (.aload_n 0, 1) := by decide +kernel
theorem dL_law_1482 : decode cL_law 1482 = .ok (.iload 4, 2) := by decide +kernel
theorem dL_law_1484 : decode cL_law 1484 = .ok (.iconst 3, 1) := by decide +kernel
theorem dL_law_1485 : decode cL_law 1485 = .ok (.iadd, 1) := by decide +kernel
theorem dL_law_1486 : decode cL_law 1486 = .ok (.iaload, 1) := by decide +kernel
theorem dL_law_1487 : decode cL_law 1487 = .ok (.invokevirtual 175, 3) := by decide +kernel
theorem dL_law_1490 : decode cL_law 1490 = .ok (.istore 6, 2) := by decide +kernel
theorem dL_law_1492 : decode cL_law 1492 = .ok (.aload_n 2, 1) := by decide +kernel
theorem dL_law_1493 : decode cL_law 1493 = .ok (.invokevirtual 97, 3) := by decide +kernel
theorem dL_law_1496 : decode cL_law 1496 = .ok (.iload 5, 2) := by decide +kernel
theorem dL_law_1498 : decode cL_law 1498 = .ok (.if_icmp .eq 5, 3) := by decide +kernel
theorem dL_law_1501 : decode cL_law 1501 = .ok (.iconst 0, 1) := by decide +kernel
theorem dL_law_1502 : decode cL_law 1502 = .ok (.ireturn, 1) := by decide +kernel
theorem dL_law_1503 : decode cL_law 1503 = .ok (.iload 5, 2) := by decide +kernel
theorem dL_law_1505 : decode cL_law 1505 = .ok (.ifCond .ne 15, 3) := by decide +kernel
theorem dL_law_1508 : decode cL_law 1508 = .ok (.aload_n 3, 1) := by decide +kernel
theorem dL_law_1509 : decode cL_law 1509 = .ok (.iconst 0, 1) := by decide +kernel
theorem dL_law_1510 : decode cL_law 1510 = .ok (.laload, 1) := by decide +kernel
theorem dL_law_1511 : decode cL_law 1511 = .ok (.iload 6, 2) := by decide +kernel
theorem dL_law_1513 : decode cL_law 1513 = .ok (.i2l, 1) := by decide +kernel
theorem dL_law_1514 : decode cL_law 1514 = .ok (.lcmp, 1) := by decide +kernel
theorem dL_law_1515 : decode cL_law 1515 = .ok (.ifCond .eq 5, 3) := by decide +kernel
theorem dL_law_1518 : decode cL_law 1518 = .ok (.iconst 0, 1) := by decide +kernel
theorem dL_law_1519 : decode cL_law 1519 = .ok (.ireturn, 1) := by decide +kernel
theorem dL_law_1520 : decode cL_law 1520 = .ok (.goto 115, 3) := by decide +kernel
theorem dL_law_1523 : decode cL_law 1523 = .ok (.aload_n 1, 1) := by decide +kernel
theorem dL_law_1524 : decode cL_law 1524 = .ok (.aload_n 0, 1) := by decide +kernel
theorem dL_law_1525 : decode cL_law 1525 = .ok (.iload 4, 2) := by decide +kernel
theorem dL_law_1527 : decode cL_law 1527 = .ok (.iconst 1, 1) := by decide +kernel
theorem dL_law_1528 : decode cL_law 1528 = .ok (.iadd, 1) := by decide +kernel
theorem dL_law_1529 : decode cL_law 1529 = .ok (.iaload, 1) := by decide +kernel
theorem dL_law_1530 : decode cL_law 1530 = .ok (.aload_n 3, 1) := by decide +kernel
theorem dL_law_1531 : decode cL_law 1531 = .ok (.invokestatic 176, 3) := by decide +kernel
theorem dL_law_1534 : decode cL_law 1534 = .ok (.istore 5, 2) := by decide +kernel
theorem dL_law_1536 : decode cL_law 1536 = .ok (.aload_n 2, 1) := by decide +kernel
theorem dL_law_1537 : decode cL_law 1537 = .ok (.aload_n 0, 1) := by decide +kernel
theorem dL_law_1538 : decode cL_law 1538 = .ok (.iload 4, 2) := by decide +kernel
theorem dL_law_1540 : decode cL_law 1540 = .ok (.iconst 1, 1) := by decide +kernel
theorem dL_law_1541 : decode cL_law 1541 = .ok (.iadd, 1) := by decide +kernel
theorem dL_law_1542 : decode cL_law 1542 = .ok (.iaload, 1) := by decide +kernel
theorem dL_law_1543 : decode cL_law 1543 = .ok (.invokevirtual 178, 3) := by decide +kernel
theorem dL_law_1546 : decode cL_law 1546 = .ok (.istore 6, 2) := by decide +kernel
theorem dL_law_1548 : decode cL_law 1548 = .ok (.aload_n 2, 1) := by decide +kernel
theorem dL_law_1549 : decode cL_law 1549 = .ok (.invokevirtual 97, 3) := by decide +kernel
theorem dL_law_1552 : decode cL_law 1552 = .ok (.iload 5, 2) := by decide +kernel
theorem dL_law_1554 : decode cL_law 1554 = .ok (.if_icmp .eq 5, 3) := by decide +kernel
theorem dL_law_1557 : decode cL_law 1557 = .ok (.iconst 0, 1) := by decide +kernel
theorem dL_law_1558 : decode cL_law 1558 = .ok (.ireturn, 1) := by decide +kernel
theorem dL_law_1559 : decode cL_law 1559 = .ok (.iload 5, 2) := by decide +kernel
theorem dL_law_1561 : decode cL_law 1561 = .ok (.ifCond .ne 15, 3) := by decide +kernel
theorem dL_law_1564 : decode cL_law 1564 = .ok (.aload_n 3, 1) := by decide +kernel
theorem dL_law_1565 : decode cL_law 1565 = .ok (.iconst 0, 1) := by decide +kernel
theorem dL_law_1566 : decode cL_law 1566 = .ok (.laload, 1) := by decide +kernel
theorem dL_law_1567 : decode cL_law 1567 = .ok (.iload 6, 2) := by decide +kernel
theorem dL_law_1569 : decode cL_law 1569 = .ok (.i2l, 1) := by decide +kernel
theorem dL_law_1570 : decode cL_law 1570 = .ok (.lcmp, 1) := by decide +kernel
theorem dL_law_1571 : decode cL_law 1571 = .ok (.ifCond .eq 5, 3) := by decide +kernel
theorem dL_law_1574 : decode cL_law 1574 = .ok (.iconst 0, 1) := by decide +kernel
theorem dL_law_1575 : decode cL_law 1575 = .ok (.ireturn, 1) := by decide +kernel
theorem dL_law_1576 : decode cL_law 1576 = .ok (.goto 59, 3) := by decide +kernel
theorem dL_law_1579 : decode cL_law 1579 = .ok (.aload_n 1, 1) := by decide +kernel
theorem dL_law_1580 : decode cL_law 1580 = .ok (.aload_n 0, 1) := by decide +kernel
theorem dL_law_1581 : decode cL_law 1581 = .ok (.iload 4, 2) := by decide +kernel
theorem dL_law_1583 : decode cL_law 1583 = .ok (.iconst 1, 1) := by decide +kernel
theorem dL_law_1584 : decode cL_law 1584 = .ok (.iadd, 1) := by decide +kernel
theorem dL_law_1585 : decode cL_law 1585 = .ok (.iaload, 1) := by decide +kernel
theorem dL_law_1586 : decode cL_law 1586 = .ok (.aload_n 3, 1) := by decide +kernel
theorem dL_law_1587 : decode cL_law 1587 = .ok (.invokestatic 179, 3) := by decide +kernel
theorem dL_law_1590 : decode cL_law 1590 = .ok (.istore 5, 2) := by decide +kernel
theorem dL_law_1592 : decode cL_law 1592 = .ok (.aload_n 2, 1) := by decide +kernel
theorem dL_law_1593 : decode cL_law 1593 = .ok (.aload_n 0, 1) := by decide +kernel
theorem dL_law_1594 : decode cL_law 1594 = .ok (.iload 4, 2) := by decide +kernel
theorem dL_law_1596 : decode cL_law 1596 = .ok (.iconst 1, 1) := by decide +kernel
theorem dL_law_1597 : decode cL_law 1597 = .ok (.iadd, 1) := by decide +kernel
theorem dL_law_1598 : decode cL_law 1598 = .ok (.iaload, 1) := by decide +kernel
theorem dL_law_1599 : decode cL_law 1599 = .ok (.invokevirtual 181, 3) := by decide +kernel
theorem dL_law_1602 : decode cL_law 1602 = .ok (.istore 6, 2) := by decide +kernel
theorem dL_law_1604 : decode cL_law 1604 = .ok (.aload_n 2, 1) := by decide +kernel
theorem dL_law_1605 : decode cL_law 1605 = .ok (.invokevirtual 97, 3) := by decide +kernel
theorem dL_law_1608 : decode cL_law 1608 = .ok (.iload 5, 2) := by decide +kernel
theorem dL_law_1610 : decode cL_law 1610 = .ok (.if_icmp .eq 5, 3) := by decide +kernel
theorem dL_law_1613 : decode cL_law 1613 = .ok (.iconst 0, 1) := by decide +kernel
theorem dL_law_1614 : decode cL_law 1614 = .ok (.ireturn, 1) := by decide +kernel
theorem dL_law_1615 : decode cL_law 1615 = .ok (.iload 5, 2) := by decide +kernel
theorem dL_law_1617 : decode cL_law 1617 = .ok (.ifCond .ne 15, 3) := by decide +kernel
theorem dL_law_1620 : decode cL_law 1620 = .ok (.aload_n 3, 1) := by decide +kernel
theorem dL_law_1621 : decode cL_law 1621 = .ok (.iconst 0, 1) := by decide +kernel
theorem dL_law_1622 : decode cL_law 1622 = .ok (.laload, 1) := by decide +kernel
theorem dL_law_1623 : decode cL_law 1623 = .ok (.iload 6, 2) := by decide +kernel
theorem dL_law_1625 : decode cL_law 1625 = .ok (.i2l, 1) := by decide +kernel
theorem dL_law_1626 : decode cL_law 1626 = .ok (.lcmp, 1) := by decide +kernel
theorem dL_law_1627 : decode cL_law 1627 = .ok (.ifCond .eq 5, 3) := by decide +kernel
theorem dL_law_1630 : decode cL_law 1630 = .ok (.iconst 0, 1) := by decide +kernel
theorem dL_law_1631 : decode cL_law 1631 = .ok (.ireturn, 1) := by decide +kernel
theorem dL_law_1632 : decode cL_law 1632 = .ok (.goto 3, 3) := by decide +kernel
theorem dL_law_1635 : decode cL_law 1635 = .ok (.iinc 4 6, 3) := by decide +kernel
theorem dL_law_1638 : decode cL_law 1638 = .ok (.goto (-1615), 3) := by decide +kernel
theorem dL_law_1641 : decode cL_law 1641 = .ok (.iconst 1, 1) := by decide +kernel
theorem dL_law_1642 : decode cL_law 1642 = .ok (.ireturn, 1) := by decide +kernel
end
section
/-! the world: all cells of the run, in the order in which they are made; one judgement PW over it; a row an instruction -/
abbrev gw_G : Type := Nat × va_G × (ClassId × ClassId × ClassId × ClassId × ClassId) × (Nat → Nat)
abbrev gw_S : Type := (Nat → Nat → Int32) × (Nat → Nat → Int64)
def gw_kdl : List (Nat × Nat × List (Option Nat)) := [(11, 0, [some 1, some 3, some 12, some 140, some 141, some 142, some 151, some 167, some 169]), (9, 0, [some 2, none]), (2, 120, []), (7, 0, [none, some 4, some 5, some 6, none, some 7, some 8, some 9, some 10, some 11]), (0, 8, []), (0, 8, []), (0, 8, []), (0, 14, []), (0, 14, []), (0, 14, []), (0, 14, []), (0, 14, []), (6, 0, [some 13, none, none]), (4, 14, [some 14, some 23, some 32, some 41, some 50, some 59, some 68, some 77, some 86, some 95, some 104, some 113, some 122, some 131]), (7, 0, [none, some 15, some 16, some 17, none, some 18, some 19, some 20, some 21, some 22]), (0, 8, []), (0, 8, []), (0, 8, []), (0, 14, []), (0, 14, []), (0, 14, []), (0, 14, []), (0, 14, []), (7, 0, [none, some 24, some 25, some 26, none, some 27, some 28, some 29, some 30, some 31]), (0, 8, []), (0, 8, []), (0, 8, []), (0, 14, []), (0, 14, []), (0, 14, []), (0, 14, []), (0, 14, []), (7, 0, [none, some 33, some 34, some 35, none, some 36, some 37, some 38, some 39, some 40]), (0, 8, []), (0, 8, []), (0, 8, []), (0, 14, []), (0, 14, []), (0, 14, []), (0, 14, []), (0, 14, []), (7, 0, [none, some 42, some 43, some 44, none, some 45, some 46, some 47, some 48, some 49]), (0, 8, []), (0, 8, []), (0, 8, []), (0, 14, []), (0, 14, []), (0, 14, []), (0, 14, []), (0, 14, []), (7, 0, [none, some 51, some 52, some 53, none, some 54, some 55, some 56, some 57, some 58]), (0, 8, []), (0, 8, []), (0, 8, []), (0, 14, []), (0, 14, []), (0, 14, []), (0, 14, []), (0, 14, []), (7, 0, [none, some 60, some 61, some 62, none, some 63, some 64, some 65, some 66, some 67]), (0, 8, []), (0, 8, []), (0, 8, []), (0, 14, []), (0, 14, []), (0, 14, []), (0, 14, []), (0, 14, []), (7, 0, [none, some 69, some 70, some 71, none, some 72, some 73, some 74, some 75, some 76]), (0, 8, []), (0, 8, []), (0, 8, []), (0, 14, []), (0, 14, []), (0, 14, []), (0, 14, []), (0, 14, []), (7, 0, [none, some 78, some 79, some 80, none, some 81, some 82, some 83, some 84, some 85]), (0, 8, []), (0, 8, []), (0, 8, []), (0, 14, []), (0, 14, []), (0, 14, []), (0, 14, []), (0, 14, []), (7, 0, [none, some 87, some 88, some 89, none, some 90, some 91, some 92, some 93, some 94]), (0, 8, []), (0, 8, []), (0, 8, []), (0, 14, []), (0, 14, []), (0, 14, []), (0, 14, []), (0, 14, []), (7, 0, [none, some 96, some 97, some 98, none, some 99, some 100, some 101, some 102, some 103]), (0, 8, []), (0, 8, []), (0, 8, []), (0, 14, []), (0, 14, []), (0, 14, []), (0, 14, []), (0, 14, []), (7, 0, [none, some 105, some 106, some 107, none, some 108, some 109, some 110, some 111, some 112]), (0, 8, []), (0, 8, []), (0, 8, []), (0, 14, []), (0, 14, []), (0, 14, []), (0, 14, []), (0, 14, []), (7, 0, [none, some 114, some 115, some 116, none, some 117, some 118, some 119, some 120, some 121]), (0, 8, []), (0, 8, []), (0, 8, []), (0, 14, []), (0, 14, []), (0, 14, []), (0, 14, []), (0, 14, []), (7, 0, [none, some 123, some 124, some 125, none, some 126, some 127, some 128, some 129, some 130]), (0, 8, []), (0, 8, []), (0, 8, []), (0, 14, []), (0, 14, []), (0, 14, []), (0, 14, []), (0, 14, []), (7, 0, [none, some 132, some 133, some 134, none, some 135, some 136, some 137, some 138, some 139]), (0, 8, []), (0, 8, []), (0, 8, []), (0, 14, []), (0, 14, []), (0, 14, []), (0, 14, []), (0, 14, []), (4, 2, [some 171, some 180]), (1, 2, []), (7, 0, [none, some 143, some 144, some 145, none, some 146, some 147, some 148, some 149, some 150]), (0, 8, []), (0, 8, []), (0, 8, []), (0, 14, []), (0, 14, []), (0, 14, []), (0, 14, []), (0, 14, []), (5, 0, [some 152, some 154, some 163, some 164, some 165, some 166, none, none, none]), (8, 0, [some 153, none]), (0, 8, []), (7, 0, [none, some 155, some 156, some 157, none, some 158, some 159, some 160, some 161, some 162]), (0, 8, []), (0, 8, []), (0, 8, []), (0, 14, []), (0, 14, []), (0, 14, []), (0, 14, []), (0, 14, []), (0, 8, []), (0, 8, []), (0, 480, []), (0, 14, []), (8, 0, [some 168, none]), (0, 8, []), (10, 0, [some 170]), (0, 8, []), (7, 0, [none, some 172, some 173, some 174, none, some 175, some 176, some 177, some 178, some 179]), (0, 8, []), (0, 8, []), (0, 8, []), (0, 14, []), (0, 14, []), (0, 14, []), (0, 14, []), (0, 14, []), (7, 0, [none, some 181, some 182, some 183, none, some 184, some 185, some 186, some 187, some 188]), (0, 8, []), (0, 8, []), (0, 8, []), (0, 14, []), (0, 14, []), (0, 14, []), (0, 14, []), (0, 14, []), (12, 0, [none, some 190, none, none, none, none, some 191, some 192, some 193, some 194, none, some 195, some 196, some 197, some 198, none, some 199, some 200, some 201, some 202, none, some 203, none, some 204, some 205]), (0, 120, []), (0, 96, []), (0, 96, []), (0, 96, []), (0, 1344, []), (0, 192, []), (1, 2, []), (0, 8, []), (0, 8, []), (3, 8, []), (3, 8, []), (0, 8, []), (0, 480, []), (0, 14, []), (0, 64, []), (0, 96, []), (3, 1, [])]
def gw_kd (k : Nat) : Nat × Nat × List (Option Nat) := gw_kdl.getD k (99, 0, [])
def gw_n : Nat := 207
/-- the words that every method may use -/
def gw_tbl : List Cond := lw_tbl.filter goodWord
theorem gw_mem {w : Cond} (h : w ∈ lw_tbl) (hg : goodWord w = true) : w ∈ gw_tbl := List.mem_filter.mpr ⟨h, hg⟩
theorem gw_sub : ∀ w ∈ gw_tbl, w ∈ lw_tbl := fun _ h => (List.mem_filter.mp h).1
def gw_fs (B : Nat) (f : Nat → Int32) : Nat → List (Option Nat) → List Value
  | _, [] => []
  | j, none :: r => .int (f j) :: gw_fs B f (j + 1) r
  | j, some t :: r => .ref (B + t) :: gw_fs B f (j + 1) r
def gw_ct (G : gw_G) (σ : gw_S) (k : Nat) : va_E :=
  match gw_kd k with
  | (0, n, _) => .inl (G.2.2.1.1, n, .inl (σ.1 k))
  | (1, n, _) => .inl (G.2.2.1.2.1, n, .inl (σ.1 k))
  | (2, n, _) => .inl (G.2.2.1.2.2.1, n, .inl (σ.1 k))
  | (3, n, _) => .inl (G.2.2.1.2.2.2.1, n, .inr (.inl (σ.2 k)))
  | (4, n, t) => .inl (G.2.2.1.2.2.2.2, n, .inr (.inr (.inr (.inr (fun j => (t.getD j none).map (fun z => G.1 + z))))))
  | (c + 5, _, t) => .inr (c, gw_fs G.1 (σ.1 k) 0 t)
def gw_ws (G : gw_G) (σ : gw_S) : va_W := (List.range gw_n).map (fun k => (G.1 + k, gw_ct G σ k))
def gw_P (G : gw_G) (σ : gw_S) (H : Heap) : Prop := va_P G.2.1 vwCl (gw_ws G σ) H
def gw_A (G : gw_G) : Nat → Prop := fun q => G.1 ≤ q
abbrev gw_ty (G : gw_G) : List (ClassId × FieldType) := [(G.2.2.1.1, .int), (G.2.2.1.2.1, .boolean), (G.2.2.1.2.2.1, .char), (G.2.2.1.2.2.2.1, .long), (G.2.2.1.2.2.2.2, .object RX3)]
def gw_en : Nat → String := fun i => match i with
  | 0 => "FINE"
  | 1 => "NO_SUCH"
  | 2 => "RANGE"
  | _ => "STATE"
/-- what stays: classes, array classes, the enum's constants -/
def gw_K (G : gw_G) (U : State) : Prop := va_K G.2.1 vwCl (gw_ty G) U ∧ (∀ i, i < 4 → va_Z RX1 (gw_en i) "LRateWires$Fault;" (.ref (G.2.2.2 i)) (gw_A G) U U.heap) ∧ (∀ i j, i < 4 → j < 4 → G.2.2.2 i = G.2.2.2 j → i = j) ∧ G.1 ≤ U.heap.size
theorem gw_at (G : gw_G) (σ : gw_S) {k : Nat} (h : k < gw_n) : (gw_ws G σ)[k]? = some (G.1 + k, gw_ct G σ k) := by
  simp [gw_ws, List.getElem?_map, List.getElem?_range h]
theorem gw_lk {G : gw_G} {σ : gw_S} {k : Nat} {q : Nat × va_E} (h : (gw_ws G σ)[k]? = some q) : k < gw_n ∧ q = (G.1 + k, gw_ct G σ k) := by
  have hl : k < (gw_ws G σ).length := (List.getElem?_eq_some_iff.mp h).1
  have hk : k < gw_n := by simpa [gw_ws] using hl
  exact ⟨hk, Option.some.inj (h.symm.trans (gw_at G σ hk))⟩
theorem gw_D (G : gw_G) (σ : gw_S) : va_D (gw_A G) (gw_ws G σ) := by
  refine ⟨fun i j x y hi hj hxy => ?_, fun k q hk => ?_⟩
  · obtain ⟨h1, rfl⟩ := gw_lk hi
    obtain ⟨h2, rfl⟩ := gw_lk hj
    exact Nat.add_left_cancel hxy
  · obtain ⟨h1, rfl⟩ := gw_lk hk
    exact Nat.le_add_right _ _
theorem gw_wset {G : gw_G} {σ σ' : gw_S} {k : Nat} {e : va_E} (h : k < gw_n) (he : gw_ct G σ' k = e) (ho : ∀ k', k' ≠ k → gw_ct G σ' k' = gw_ct G σ k') : (gw_ws G σ).set k (G.1 + k, e) = gw_ws G σ' := by
  apply List.ext_getElem?
  intro i
  by_cases hik : i = k
  · subst hik
    rw [List.getElem?_set_self (by simpa [gw_ws] using h), gw_at G σ' h, he]
  · rw [List.getElem?_set_ne (Ne.symm hik)]
    by_cases hi : i < gw_n
    · rw [gw_at G σ hi, gw_at G σ' hi, ho i hik]
    · rw [List.getElem?_eq_none (by simpa [gw_ws] using hi), List.getElem?_eq_none (by simpa [gw_ws] using hi)]
theorem gw_set {G : gw_G} {σ σ' : gw_S} {k : Nat} {e : va_E} {H1 : Heap} (h : k < gw_n) (he : gw_ct G σ' k = e) (ho : ∀ k', k' ≠ k → gw_ct G σ' k' = gw_ct G σ k') (hP : va_P G.2.1 vwCl ((gw_ws G σ).set k (G.1 + k, e)) H1) : gw_P G σ' H1 := by
  rw [gw_wset h he ho] at hP
  exact hP
theorem gw_ct_ne {G : gw_G} {σ σ' : gw_S} {k : Nat} (h1 : σ'.1 k = σ.1 k) (h2 : σ'.2 k = σ.2 k) : gw_ct G σ' k = gw_ct G σ k := by
  unfold gw_ct
  split <;> simp [h1, h2]
/-- a row of a cell is put -/
def gw_r (σ : gw_S) (k : Nat) (f : Nat → Int32) : gw_S := (fun k' => if k' = k then f else σ.1 k', σ.2)
def gw_rl (σ : gw_S) (k : Nat) (f : Nat → Int64) : gw_S := (σ.1, fun k' => if k' = k then f else σ.2 k')
/-- a place of a cell is put -/
def gw_u (σ : gw_S) (k j : Nat) (x : Int32) : gw_S := gw_r σ k (upd (σ.1 k) j x)
def gw_ul (σ : gw_S) (k j : Nat) (x : Int64) : gw_S := gw_rl σ k (vp_updL (σ.2 k) j x)
theorem gw_r_at (σ : gw_S) (k : Nat) (f : Nat → Int32) : (gw_r σ k f).1 k = f := by simp [gw_r]
theorem gw_r_ne (σ : gw_S) {k k' : Nat} (f : Nat → Int32) (h : k' ≠ k) : (gw_r σ k f).1 k' = σ.1 k' := by simp [gw_r, h]
theorem gw_r_l (σ : gw_S) (k : Nat) (f : Nat → Int32) : (gw_r σ k f).2 = σ.2 := rfl
theorem gw_rl_at (σ : gw_S) (k : Nat) (f : Nat → Int64) : (gw_rl σ k f).2 k = f := by simp [gw_rl]
theorem gw_rl_ne (σ : gw_S) {k k' : Nat} (f : Nat → Int64) (h : k' ≠ k) : (gw_rl σ k f).2 k' = σ.2 k' := by simp [gw_rl, h]
theorem gw_rl_i (σ : gw_S) (k : Nat) (f : Nat → Int64) : (gw_rl σ k f).1 = σ.1 := rfl
theorem gw_ct0 {G : gw_G} {σ : gw_S} {k n : Nat} {t : List (Option Nat)} (h : gw_kd k = (0, n, t)) : gw_ct G σ k = .inl (G.2.2.1.1, n, .inl (σ.1 k)) := by unfold gw_ct; rw [h]
theorem gw_ct1 {G : gw_G} {σ : gw_S} {k n : Nat} {t : List (Option Nat)} (h : gw_kd k = (1, n, t)) : gw_ct G σ k = .inl (G.2.2.1.2.1, n, .inl (σ.1 k)) := by unfold gw_ct; rw [h]
theorem gw_ct2 {G : gw_G} {σ : gw_S} {k n : Nat} {t : List (Option Nat)} (h : gw_kd k = (2, n, t)) : gw_ct G σ k = .inl (G.2.2.1.2.2.1, n, .inl (σ.1 k)) := by unfold gw_ct; rw [h]
theorem gw_ct3 {G : gw_G} {σ : gw_S} {k n : Nat} {t : List (Option Nat)} (h : gw_kd k = (3, n, t)) : gw_ct G σ k = .inl (G.2.2.1.2.2.2.1, n, .inr (.inl (σ.2 k))) := by unfold gw_ct; rw [h]
theorem gw_ct4 {G : gw_G} {σ : gw_S} {k n : Nat} {t : List (Option Nat)} (h : gw_kd k = (4, n, t)) : gw_ct G σ k = .inl (G.2.2.1.2.2.2.2, n, .inr (.inr (.inr (.inr (fun j => (t.getD j none).map (fun z => G.1 + z)))))) := by unfold gw_ct; rw [h]
theorem gw_ct5 {G : gw_G} {σ : gw_S} {k c n : Nat} {t : List (Option Nat)} (h : gw_kd k = (c + 5, n, t)) : gw_ct G σ k = .inr (c, gw_fs G.1 (σ.1 k) 0 t) := by unfold gw_ct; rw [h]
theorem gw_fs_len (B : Nat) (f : Nat → Int32) : ∀ (t : List (Option Nat)) (j : Nat), (gw_fs B f j t).length = t.length
  | [], _ => rfl
  | none :: r, j => by simp [gw_fs, gw_fs_len B f r]
  | some _ :: r, j => by simp [gw_fs, gw_fs_len B f r]
theorem gw_fs_i (B : Nat) (f : Nat → Int32) : ∀ (t : List (Option Nat)) (j i : Nat), t[i]? = some none → (gw_fs B f j t)[i]? = some (.int (f (j + i)))
  | [], _, _, h => by simp at h
  | none :: r, j, 0, _ => by simp [gw_fs]
  | some _ :: r, j, 0, h => by simp at h
  | none :: r, j, i + 1, h => by
    rw [gw_fs, List.getElem?_cons_succ, gw_fs_i B f r (j + 1) i (by simpa using h)]
    congr 3; omega
  | some _ :: r, j, i + 1, h => by
    rw [gw_fs, List.getElem?_cons_succ, gw_fs_i B f r (j + 1) i (by simpa using h)]
    congr 3; omega
theorem gw_fs_r (B : Nat) (f : Nat → Int32) {z : Nat} : ∀ (t : List (Option Nat)) (j i : Nat), t[i]? = some (some z) → (gw_fs B f j t)[i]? = some (.ref (B + z))
  | [], _, _, h => by simp at h
  | none :: r, j, 0, h => by simp at h
  | some _ :: r, j, 0, h => by simp at h; subst h; simp [gw_fs]
  | none :: r, j, i + 1, h => by
    rw [gw_fs, List.getElem?_cons_succ, gw_fs_r B f r (j + 1) i (by simpa using h)]
  | some _ :: r, j, i + 1, h => by
    rw [gw_fs, List.getElem?_cons_succ, gw_fs_r B f r (j + 1) i (by simpa using h)]
theorem gw_fs_set (B : Nat) (f : Nat → Int32) (x : Int32) : ∀ (t : List (Option Nat)) (j i : Nat), t[i]? = some none → (gw_fs B f j t).set i (.int x) = gw_fs B (upd f (j + i) x) j t
  | [], _, _, h => by simp at h
  | none :: r, j, 0, _ => by
    have h2 : ∀ (r : List (Option Nat)) (m : Nat), j < m → gw_fs B f m r = gw_fs B (upd f j x) m r := by
      intro r
      induction r with
      | nil => intro m _; rfl
      | cons a r ih =>
        intro m hm
        cases a with
        | none => simp only [gw_fs]; rw [ih (m + 1) (by omega)]; rw [show upd f j x m = f m by simp [upd]; omega]
        | some z => simp only [gw_fs]; rw [ih (m + 1) (by omega)]
    simp only [gw_fs, List.set_cons_zero, Nat.add_zero]
    rw [h2 r (j + 1) (by omega)]
    simp [upd]
  | some _ :: r, j, 0, h => by simp at h
  | none :: r, j, i + 1, h => by
    simp only [gw_fs, List.set_cons_succ]
    rw [gw_fs_set B f x r (j + 1) i (by simpa using h), show j + 1 + i = j + (i + 1) by omega]
    congr 2
    simp [upd]
  | some _ :: r, j, i + 1, h => by
    simp only [gw_fs, List.set_cons_succ]
    rw [gw_fs_set B f x r (j + 1) i (by simpa using h), show j + 1 + i = j + (i + 1) by omega]
/-- what a body knows of its machine -/
def gw_C (p : Program) (s : State) (m : MethodId) (args : Array Value) (meth : Method) (c : Code) (G : gw_G) (own : String) (cc : ByteArray) (nL : Nat) (ret : Option FieldType) : Prop :=
  p.tables.exec = Jvm.exec ∧ c.code = cc ∧ c.maxLocals = nL ∧ s.vm.findClass own = some m.cls ∧ (∀ w ∈ gw_tbl, w.before args s = true) ∧ meth.sig.returnType = ret ∧ meth.locks = false ∧ gw_K G s
/-- from here the machine comes to Q, whatever the heap, if it is the world σ -/
def PW (p : Program) (l : Launch) (e : Env) (R : Room) (s : State) (m : MethodId) (args : Array Value) (below : List Frame) (meth : Method) (c : Code) (Q : State → Prop) (G : gw_G) (mc ms nL pc : Nat) (ls : List (Nat × Value)) (st : List Value) (σ : gw_S) : Prop :=
  ∀ (H : Heap) (locs : List Loc) (arr : Array Slot), gw_P G σ H → va_S (gw_A G) s.heap H locs → lv_has arr nL ls → W p l e R s m args below meth c H locs mc ms Q (F0 m pc arr st)
/-- rooms: a depth -/
def gw_R (d : Nat) : Room := { frames := d, cells := 0, slots := 0, locals := 30 * d }
/-- a contract: from the world σ with these arguments it returns, and Φ -/
def gw_Pc (G : gw_G) (as : List Value) (σ : gw_S) : Array Value → State → Prop := va_Pc as (fun U => gw_P G σ U.heap ∧ gw_K G U)
def gw_Q (G : gw_G) (Φ : Option Value → gw_S → Prop) : Array Value → State → Outcome → State → Prop := fun _ st oc t => (∃ (v : Option Value) (σ' : gw_S), oc = .returned v ∧ Φ v σ' ∧ gw_P G σ' t.heap) ∧ va_F (gw_A G) st t
def gw_M (l : Launch) (G : gw_G) (y : MethodName) (bytes : ByteArray) (maxL : Nat) (rt : Option FieldType) (d : Nat) (as : List Value) (σ : gw_S) (Φ : Option Value → gw_S → Prop) : Prop :=
  Met l y (.code y bytes maxL rt :: gw_tbl) (gw_R d) (gw_Pc G as σ) (gw_Q G Φ) 0 0 (gw_A G)
theorem gw_K.moved {G : gw_G} {u U : State} (hvm : u.vm.Alike U.vm) (hh : U.heap = u.heap) (h : gw_K G u) : gw_K G U :=
  ⟨h.1.moved hvm, fun i hi => by rw [hh]; exact (h.2.1 i hi).moved hvm, h.2.2.1, by rw [hh]; exact h.2.2.2⟩
theorem gw_K.go {G : gw_G} {s U : State} {H : Heap} {locs : List Loc} (hvm : s.vm.Alike U.vm) (hh : U.heap = H) (hS : va_S (gw_A G) s.heap H locs) (h : gw_K G s) : gw_K G U :=
  ⟨h.1.moved hvm, fun i hi => by rw [hh]; exact ((h.2.1 i hi).kept (fun a h1 h2 => hS.2.1 a h1 h2)).moved hvm, h.2.2.1, by rw [hh]; exact Nat.le_trans h.2.2.2 hS.1⟩
theorem gw_blind {G : gw_G} {as : List Value} {σ : gw_S} : FrameBlind (gw_Pc G as σ) := fun a U g mk q => ⟨q.1, q.2.1, q.2.2.moved (u := U) (U := U.calling g mk a) (Vm.Alike.refl U.vm) rfl⟩
theorem gw_M.imp {l : Launch} {G : gw_G} {y : MethodName} {bytes : ByteArray} {maxL : Nat} {rt : Option FieldType} {d : Nat} {as : List Value} {σ : gw_S} {Φ Ψ : Option Value → gw_S → Prop}
    (h : gw_M l G y bytes maxL rt d as σ Φ) (hi : ∀ v σ', Φ v σ' → Ψ v σ') : gw_M l G y bytes maxL rt d as σ Ψ := by
  unfold gw_M Met at h ⊢
  refine MetFree.mono h (fun _ _ q => q) (fun _ _ _ _ _ q => q) ?_
  rintro a st oc t - ⟨⟨⟨v, σ', h1, h2, h3⟩, h4⟩, h5⟩
  exact ⟨⟨⟨v, σ', h1, hi v σ' h2, h3⟩, h4⟩, h5⟩
section GW
variable {p : Program} {l : Launch} {e : Env} {R : Room} {s : State} {m : MethodId} {args : Array Value} {below : List Frame} {meth : Method} {c : Code} {Q : State → Prop} {G : gw_G} {mc ms nL pc : Nat} {own : String} {cc : ByteArray} {ret : Option FieldType} {ls : List (Nat × Value)} {st : List Value} {σ : gw_S}
/-- a contract out of a walk of the body -/
theorem gw_met {y : MethodName} {bytes : ByteArray} {maxL d : Nat} {rt : Option FieldType} {as : List Value} {Φ : Option Value → gw_S → Prop} (hy : plainName y.cls = true) (ha : (lg_sl as).length ≤ maxL)
    (body : ∀ (p : Program) (e : Env) (s : State) (m : MethodId) (args : Array Value) (below : List Frame) (meth : Method) (c : Code), gw_C p s m args meth c G y.cls bytes maxL rt → PW p l e (gw_R d) s m args below meth c (MQ below (gw_Q G Φ) args s 0 0 (gw_A G)) G 0 0 maxL 0 (lv_args 0 as) [] σ) : gw_M l G y bytes maxL rt d as σ Φ := by
  refine Met.ofW (cc := bytes) (maxL := maxL) (ret := rt) hy rfl ?_
  intro p e s m args below meth c s₁ B hml hv
  obtain ⟨rfl, hP, hK⟩ := hv
  have hts := atoms_spec (ws := Cond.code y bytes maxL rt :: gw_tbl) B.pre
  have hown : s.vm.findClass y.cls = some m.cls := findClass_of_methodNamed B.named
  have C : gw_C p s m as.toArray meth c G y.cls bytes maxL rt := ⟨B.exec, B.bytes, hml, hown, fun w hw => hts w (List.mem_cons_of_mem _ hw), B.returns, B.notSynchronized, hK⟩
  have hl := lv_entry as (n := maxL) ha
  rw [lg_entry_eq]
  exact body p e s m as.toArray below meth c C s.heap [] _ hP va_S.rf hl
theorem pw_vret {Φ : Option Value → gw_S → Prop} (C : gw_C p s m args meth c G own cc nL none) (hd : decode cc pc = .ok (.return_, 1)) (h : Φ none σ) : PW p l e R s m args below meth c (MQ below (gw_Q G Φ) args s mc ms (gw_A G)) G mc ms nL pc ls [] σ := fun H locs arr hP hS hl =>
  W.vret C.1 C.2.1 C.2.2.2.2.2.1 (fun t ht hW => ⟨⟨none, σ, rfl, h, by rw [ht]; exact hP⟩, hS.F ht⟩) hS.2.2 hd C.2.2.2.2.2.2.1
theorem pw_iret {Φ : Option Value → gw_S → Prop} {x : Int32} (C : gw_C p s m args meth c G own cc nL (some .int)) (hd : decode cc pc = .ok (.ireturn, 1)) (h : Φ (some (.int x)) σ) : PW p l e R s m args below meth c (MQ below (gw_Q G Φ) args s mc ms (gw_A G)) G mc ms nL pc ls [.int x] σ := fun H locs arr hP hS hl =>
  W.iret C.1 C.2.1 C.2.2.2.2.2.1 (fun t ht hW => ⟨⟨_, σ, rfl, h, by rw [ht]; exact hP⟩, hS.F ht⟩) hS.2.2 hd C.2.2.2.2.2.2.1
theorem pw_zret {Φ : Option Value → gw_S → Prop} {x : Int32} {ty : FieldType} (C : gw_C p s m args meth c G own cc nL (some ty)) (hd : decode cc pc = .ok (.ireturn, 1)) (hn : narrow ty (.int x) = .int x) (h : Φ (some (.int x)) σ) : PW p l e R s m args below meth c (MQ below (gw_Q G Φ) args s mc ms (gw_A G)) G mc ms nL pc ls [.int x] σ := fun H locs arr hP hS hl =>
  W.zret C.1 C.2.1 C.2.2.2.2.2.1 hn (fun t ht hW => ⟨⟨_, σ, rfl, h, by rw [ht]; exact hP⟩, hS.F ht⟩) hS.2.2 hd C.2.2.2.2.2.2.1
theorem pw_lret {Φ : Option Value → gw_S → Prop} {x : Int64} (C : gw_C p s m args meth c G own cc nL (some .long)) (hd : decode cc pc = .ok (.lreturn, 1)) (h : Φ (some (.long x)) σ) : PW p l e R s m args below meth c (MQ below (gw_Q G Φ) args s mc ms (gw_A G)) G mc ms nL pc ls [.long x] σ := fun H locs arr hP hS hl =>
  W.lret C.1 C.2.1 C.2.2.2.2.2.1 (fun t ht hW => ⟨⟨_, σ, rfl, h, by rw [ht]; exact hP⟩, hS.F ht⟩) hS.2.2 hd C.2.2.2.2.2.2.1
theorem pw_aret {Φ : Option Value → gw_S → Prop} {x : Nat} {o : String} (C : gw_C p s m args meth c G own cc nL (some (.object o))) (hd : decode cc pc = .ok (.areturn, 1)) (h : Φ (some (.ref x)) σ) : PW p l e R s m args below meth c (MQ below (gw_Q G Φ) args s mc ms (gw_A G)) G mc ms nL pc ls [.ref x] σ := fun H locs arr hP hS hl =>
  W.aret C.1 C.2.1 C.2.2.2.2.2.1 (Or.inl ⟨_, rfl⟩) (Or.inr ⟨_, rfl⟩) (fun t ht hW => ⟨⟨_, σ, rfl, h, by rw [ht]; exact hP⟩, hS.F ht⟩) hS.2.2 hd C.2.2.2.2.2.2.1

theorem pw_iconst (C : gw_C p s m args meth c G own cc nL ret) {n : Int} {v : Int32} (hd : decode cc pc = .ok (.iconst n, 1)) (hv : Int32.ofInt n = v) (k : PW p l e R s m args below meth c Q G mc ms nL (pc + 1) ls (.int v :: st) σ) : PW p l e R s m args below meth c Q G mc ms nL pc ls (st) σ := fun H locs arr hP hS hl => lv_iconst C.1 C.2.1 hd hv (k H locs arr hP hS hl)
theorem pw_bipush (C : gw_C p s m args meth c G own cc nL ret) {n : Int} {v : Int32} (hd : decode cc pc = .ok (.bipush n, 2)) (hv : (Int8.ofInt n).toInt32 = v) (k : PW p l e R s m args below meth c Q G mc ms nL (pc + 2) ls (.int v :: st) σ) : PW p l e R s m args below meth c Q G mc ms nL pc ls (st) σ := fun H locs arr hP hS hl => lv_bipush C.1 C.2.1 hd hv (k H locs arr hP hS hl)
theorem pw_sipush (C : gw_C p s m args meth c G own cc nL ret) {n : Int} {v : Int32} (hd : decode cc pc = .ok (.sipush n, 3)) (hv : (Int16.ofInt n).toInt32 = v) (k : PW p l e R s m args below meth c Q G mc ms nL (pc + 3) ls (.int v :: st) σ) : PW p l e R s m args below meth c Q G mc ms nL pc ls (st) σ := fun H locs arr hP hS hl => lv_sipush C.1 C.2.1 hd hv (k H locs arr hP hS hl)
theorem pw_lconst (C : gw_C p s m args meth c G own cc nL ret) {n : Fin 2} {v : Int64} (hd : decode cc pc = .ok (.lconst n, 1)) (hv : Int64.ofNat (n : Nat) = v) (k : PW p l e R s m args below meth c Q G mc ms nL (pc + 1) ls (.long v :: st) σ) : PW p l e R s m args below meth c Q G mc ms nL pc ls (st) σ := fun H locs arr hP hS hl => lv_lconst C.1 C.2.1 hd hv (k H locs arr hP hS hl)
theorem pw_ldc (C : gw_C p s m args meth c G own cc nL ret) {i : Nat} {v : Int32} (hd : decode cc pc = .ok (.ldc i, 2)) (hw : Jvm.Cond.constant own i v ∈ gw_tbl) (k : PW p l e R s m args below meth c Q G mc ms nL (pc + 2) ls (.int v :: st) σ) : PW p l e R s m args below meth c Q G mc ms nL pc ls (st) σ := fun H locs arr hP hS hl => lv_ldc C.1 C.2.1 C.2.2.2.1 (C.2.2.2.2.1 _ hw) hd (k H locs arr hP hS hl)
theorem pw_ldcw (C : gw_C p s m args meth c G own cc nL ret) {i : Nat} {v : Int32} (hd : decode cc pc = .ok (.ldc_w i, 3)) (hw : Jvm.Cond.constant own i v ∈ gw_tbl) (k : PW p l e R s m args below meth c Q G mc ms nL (pc + 3) ls (.int v :: st) σ) : PW p l e R s m args below meth c Q G mc ms nL pc ls (st) σ := fun H locs arr hP hS hl => lv_ldcw C.1 C.2.1 C.2.2.2.1 (C.2.2.2.2.1 _ hw) hd (k H locs arr hP hS hl)
theorem pw_ldc2 (C : gw_C p s m args meth c G own cc nL ret) {i : Nat} {v : Int64} (hd : decode cc pc = .ok (.ldc2_w i, 3)) (hw : Jvm.Cond.constantLong own i v ∈ gw_tbl) (k : PW p l e R s m args below meth c Q G mc ms nL (pc + 3) ls (.long v :: st) σ) : PW p l e R s m args below meth c Q G mc ms nL pc ls (st) σ := fun H locs arr hP hS hl => lv_ldc2 C.1 C.2.1 C.2.2.2.1 (C.2.2.2.2.1 _ hw) hd (k H locs arr hP hS hl)
theorem pw_iload_n (C : gw_C p s m args meth c G own cc nL ret) {f : Fin 4} {i : Nat} {x : Int32} (hd : decode cc pc = .ok (.iload_n f, 1)) (hi : (f : Nat) = i) (j : Nat) (hj : ls[j]? = some (i, .int x)) (k : PW p l e R s m args below meth c Q G mc ms nL (pc + 1) ls (.int x :: st) σ) : PW p l e R s m args below meth c Q G mc ms nL pc ls (st) σ := fun H locs arr hP hS hl => lv_iload_n C.1 C.2.1 hd hi (lv_at hl j hj) (k H locs arr hP hS hl)
theorem pw_iload (C : gw_C p s m args meth c G own cc nL ret) {i : Nat} {x : Int32} (hd : decode cc pc = .ok (.iload i, 2)) (j : Nat) (hj : ls[j]? = some (i, .int x)) (k : PW p l e R s m args below meth c Q G mc ms nL (pc + 2) ls (.int x :: st) σ) : PW p l e R s m args below meth c Q G mc ms nL pc ls (st) σ := fun H locs arr hP hS hl => lv_iload C.1 C.2.1 hd (lv_at hl j hj) (k H locs arr hP hS hl)
theorem pw_istore_n (C : gw_C p s m args meth c G own cc nL ret) {f : Fin 4} {i : Nat} {x : Int32} {ls' : List (Nat × Value)} (hd : decode cc pc = .ok (.istore_n f, 1)) (hi : (f : Nat) = i) (hn : i < nL) (hls : (i, Value.int x) :: ls.filter (fun q => !(q.1 == i) && !(q.1 + 1 == i && q.2.category == 2)) = ls') (k : PW p l e R s m args below meth c Q G mc ms nL (pc + 1) ls' (st) σ) : PW p l e R s m args below meth c Q G mc ms nL pc ls (.int x :: st) σ := fun H locs arr hP hS hl => lv_istore_n C.1 C.2.1 hd hi hl hn hls (fun a h => k H locs a hP hS h)
theorem pw_istore (C : gw_C p s m args meth c G own cc nL ret) {i : Nat} {x : Int32} {ls' : List (Nat × Value)} (hd : decode cc pc = .ok (.istore i, 2)) (hn : i < nL) (hls : (i, Value.int x) :: ls.filter (fun q => !(q.1 == i) && !(q.1 + 1 == i && q.2.category == 2)) = ls') (k : PW p l e R s m args below meth c Q G mc ms nL (pc + 2) ls' (st) σ) : PW p l e R s m args below meth c Q G mc ms nL pc ls (.int x :: st) σ := fun H locs arr hP hS hl => lv_istore C.1 C.2.1 hd hl hn hls (fun a h => k H locs a hP hS h)
theorem pw_lload_n (C : gw_C p s m args meth c G own cc nL ret) {f : Fin 4} {i : Nat} {x : Int64} (hd : decode cc pc = .ok (.lload_n f, 1)) (hi : (f : Nat) = i) (j : Nat) (hj : ls[j]? = some (i, .long x)) (k : PW p l e R s m args below meth c Q G mc ms nL (pc + 1) ls (.long x :: st) σ) : PW p l e R s m args below meth c Q G mc ms nL pc ls (st) σ := fun H locs arr hP hS hl => lv_lload_n C.1 C.2.1 hd hi (lv_at hl j hj) (k H locs arr hP hS hl)
theorem pw_lload (C : gw_C p s m args meth c G own cc nL ret) {i : Nat} {x : Int64} (hd : decode cc pc = .ok (.lload i, 2)) (j : Nat) (hj : ls[j]? = some (i, .long x)) (k : PW p l e R s m args below meth c Q G mc ms nL (pc + 2) ls (.long x :: st) σ) : PW p l e R s m args below meth c Q G mc ms nL pc ls (st) σ := fun H locs arr hP hS hl => lv_lload C.1 C.2.1 hd (lv_at hl j hj) (k H locs arr hP hS hl)
theorem pw_lstore_n (C : gw_C p s m args meth c G own cc nL ret) {f : Fin 4} {i : Nat} {x : Int64} {ls' : List (Nat × Value)} (hd : decode cc pc = .ok (.lstore_n f, 1)) (hi : (f : Nat) = i) (hn : i + 1 < nL) (hls : (i, Value.long x) :: ls.filter (fun q => !(q.1 == i) && (!(q.1 == i + 1) && !(q.1 + 1 == i && q.2.category == 2))) = ls') (k : PW p l e R s m args below meth c Q G mc ms nL (pc + 1) ls' (st) σ) : PW p l e R s m args below meth c Q G mc ms nL pc ls (.long x :: st) σ := fun H locs arr hP hS hl => lv_lstore_n C.1 C.2.1 hd hi hl hn hls (fun a h => k H locs a hP hS h)
theorem pw_lstore (C : gw_C p s m args meth c G own cc nL ret) {i : Nat} {x : Int64} {ls' : List (Nat × Value)} (hd : decode cc pc = .ok (.lstore i, 2)) (hn : i + 1 < nL) (hls : (i, Value.long x) :: ls.filter (fun q => !(q.1 == i) && (!(q.1 == i + 1) && !(q.1 + 1 == i && q.2.category == 2))) = ls') (k : PW p l e R s m args below meth c Q G mc ms nL (pc + 2) ls' (st) σ) : PW p l e R s m args below meth c Q G mc ms nL pc ls (.long x :: st) σ := fun H locs arr hP hS hl => lv_lstore C.1 C.2.1 hd hl hn hls (fun a h => k H locs a hP hS h)
theorem pw_aload_n (C : gw_C p s m args meth c G own cc nL ret) {f : Fin 4} {i : Nat} {x : Nat} (hd : decode cc pc = .ok (.aload_n f, 1)) (hi : (f : Nat) = i) (j : Nat) (hj : ls[j]? = some (i, .ref x)) (k : PW p l e R s m args below meth c Q G mc ms nL (pc + 1) ls (.ref x :: st) σ) : PW p l e R s m args below meth c Q G mc ms nL pc ls (st) σ := fun H locs arr hP hS hl => lv_aload_n C.1 C.2.1 hd hi (lv_at hl j hj) (k H locs arr hP hS hl)
theorem pw_aload (C : gw_C p s m args meth c G own cc nL ret) {i : Nat} {x : Nat} (hd : decode cc pc = .ok (.aload i, 2)) (j : Nat) (hj : ls[j]? = some (i, .ref x)) (k : PW p l e R s m args below meth c Q G mc ms nL (pc + 2) ls (.ref x :: st) σ) : PW p l e R s m args below meth c Q G mc ms nL pc ls (st) σ := fun H locs arr hP hS hl => lv_aload C.1 C.2.1 hd (lv_at hl j hj) (k H locs arr hP hS hl)
theorem pw_astore_n (C : gw_C p s m args meth c G own cc nL ret) {f : Fin 4} {i : Nat} {x : Nat} {ls' : List (Nat × Value)} (hd : decode cc pc = .ok (.astore_n f, 1)) (hi : (f : Nat) = i) (hn : i < nL) (hls : (i, Value.ref x) :: ls.filter (fun q => !(q.1 == i) && !(q.1 + 1 == i && q.2.category == 2)) = ls') (k : PW p l e R s m args below meth c Q G mc ms nL (pc + 1) ls' (st) σ) : PW p l e R s m args below meth c Q G mc ms nL pc ls (.ref x :: st) σ := fun H locs arr hP hS hl => lv_astore_n C.1 C.2.1 hd hi hl hn hls (fun a h => k H locs a hP hS h)
theorem pw_astore (C : gw_C p s m args meth c G own cc nL ret) {i : Nat} {x : Nat} {ls' : List (Nat × Value)} (hd : decode cc pc = .ok (.astore i, 2)) (hn : i < nL) (hls : (i, Value.ref x) :: ls.filter (fun q => !(q.1 == i) && !(q.1 + 1 == i && q.2.category == 2)) = ls') (k : PW p l e R s m args below meth c Q G mc ms nL (pc + 2) ls' (st) σ) : PW p l e R s m args below meth c Q G mc ms nL pc ls (.ref x :: st) σ := fun H locs arr hP hS hl => lv_astore C.1 C.2.1 hd hl hn hls (fun a h => k H locs a hP hS h)
theorem pw_iinc (C : gw_C p s m args meth c G own cc nL ret) {i j : Nat} {n : Int} {x v : Int32} {ls' : List (Nat × Value)} (hd : decode cc pc = .ok (.iinc i n, 3)) (hj : ls[j]? = some (i, .int x)) (hv : x + Int32.ofInt n = v) (hn : i < nL) (hls : (i, Value.int v) :: ls.filter (fun q => !(q.1 == i) && !(q.1 + 1 == i && q.2.category == 2)) = ls') (k : PW p l e R s m args below meth c Q G mc ms nL (pc + 3) ls' (st) σ) : PW p l e R s m args below meth c Q G mc ms nL pc ls (st) σ := fun H locs arr hP hS hl => lv_iinc C.1 C.2.1 hd hl hj hv hn hls (fun a h => k H locs a hP hS h)
theorem pw_iadd (C : gw_C p s m args meth c G own cc nL ret) {x y : Int32} (hd : decode cc pc = .ok (.iadd, 1)) (k : PW p l e R s m args below meth c Q G mc ms nL (pc + 1) ls (.int (x + y) :: st) σ) : PW p l e R s m args below meth c Q G mc ms nL pc ls (.int y :: .int x :: st) σ := fun H locs arr hP hS hl => lv_iadd C.1 C.2.1 hd (k H locs arr hP hS hl)
theorem pw_isub (C : gw_C p s m args meth c G own cc nL ret) {x y : Int32} (hd : decode cc pc = .ok (.isub, 1)) (k : PW p l e R s m args below meth c Q G mc ms nL (pc + 1) ls (.int (x - y) :: st) σ) : PW p l e R s m args below meth c Q G mc ms nL pc ls (.int y :: .int x :: st) σ := fun H locs arr hP hS hl => lv_isub C.1 C.2.1 hd (k H locs arr hP hS hl)
theorem pw_imul (C : gw_C p s m args meth c G own cc nL ret) {x y : Int32} (hd : decode cc pc = .ok (.imul, 1)) (k : PW p l e R s m args below meth c Q G mc ms nL (pc + 1) ls (.int (x * y) :: st) σ) : PW p l e R s m args below meth c Q G mc ms nL pc ls (.int y :: .int x :: st) σ := fun H locs arr hP hS hl => lv_imul C.1 C.2.1 hd (k H locs arr hP hS hl)
theorem pw_iand (C : gw_C p s m args meth c G own cc nL ret) {x y : Int32} (hd : decode cc pc = .ok (.iand, 1)) (k : PW p l e R s m args below meth c Q G mc ms nL (pc + 1) ls (.int (x &&& y) :: st) σ) : PW p l e R s m args below meth c Q G mc ms nL pc ls (.int y :: .int x :: st) σ := fun H locs arr hP hS hl => lv_iand C.1 C.2.1 hd (k H locs arr hP hS hl)
theorem pw_ior (C : gw_C p s m args meth c G own cc nL ret) {x y : Int32} (hd : decode cc pc = .ok (.ior, 1)) (k : PW p l e R s m args below meth c Q G mc ms nL (pc + 1) ls (.int (x ||| y) :: st) σ) : PW p l e R s m args below meth c Q G mc ms nL pc ls (.int y :: .int x :: st) σ := fun H locs arr hP hS hl => lv_ior C.1 C.2.1 hd (k H locs arr hP hS hl)
theorem pw_idiv (C : gw_C p s m args meth c G own cc nL ret) {x y : Int32} (hd : decode cc pc = .ok (.idiv, 1)) (hne : ¬ y = 0) (k : PW p l e R s m args below meth c Q G mc ms nL (pc + 1) ls (.int (x / y) :: st) σ) : PW p l e R s m args below meth c Q G mc ms nL pc ls (.int y :: .int x :: st) σ := fun H locs arr hP hS hl => lv_idiv C.1 C.2.1 hd hne (k H locs arr hP hS hl)
theorem pw_irem (C : gw_C p s m args meth c G own cc nL ret) {x y : Int32} (hd : decode cc pc = .ok (.irem, 1)) (hne : ¬ y = 0) (k : PW p l e R s m args below meth c Q G mc ms nL (pc + 1) ls (.int (x - x / y * y) :: st) σ) : PW p l e R s m args below meth c Q G mc ms nL pc ls (.int y :: .int x :: st) σ := fun H locs arr hP hS hl => lv_irem C.1 C.2.1 hd hne (k H locs arr hP hS hl)
theorem pw_ladd (C : gw_C p s m args meth c G own cc nL ret) {x y : Int64} (hd : decode cc pc = .ok (.ladd, 1)) (k : PW p l e R s m args below meth c Q G mc ms nL (pc + 1) ls (.long (x + y) :: st) σ) : PW p l e R s m args below meth c Q G mc ms nL pc ls (.long y :: .long x :: st) σ := fun H locs arr hP hS hl => lv_ladd C.1 C.2.1 hd (k H locs arr hP hS hl)
theorem pw_lsub (C : gw_C p s m args meth c G own cc nL ret) {x y : Int64} (hd : decode cc pc = .ok (.lsub, 1)) (k : PW p l e R s m args below meth c Q G mc ms nL (pc + 1) ls (.long (x - y) :: st) σ) : PW p l e R s m args below meth c Q G mc ms nL pc ls (.long y :: .long x :: st) σ := fun H locs arr hP hS hl => lv_lsub C.1 C.2.1 hd (k H locs arr hP hS hl)
theorem pw_lmul (C : gw_C p s m args meth c G own cc nL ret) {x y : Int64} (hd : decode cc pc = .ok (.lmul, 1)) (k : PW p l e R s m args below meth c Q G mc ms nL (pc + 1) ls (.long (x * y) :: st) σ) : PW p l e R s m args below meth c Q G mc ms nL pc ls (.long y :: .long x :: st) σ := fun H locs arr hP hS hl => lv_lmul C.1 C.2.1 hd (k H locs arr hP hS hl)
theorem pw_land (C : gw_C p s m args meth c G own cc nL ret) {x y : Int64} (hd : decode cc pc = .ok (.land, 1)) (k : PW p l e R s m args below meth c Q G mc ms nL (pc + 1) ls (.long (x &&& y) :: st) σ) : PW p l e R s m args below meth c Q G mc ms nL pc ls (.long y :: .long x :: st) σ := fun H locs arr hP hS hl => lv_land C.1 C.2.1 hd (k H locs arr hP hS hl)
theorem pw_lor (C : gw_C p s m args meth c G own cc nL ret) {x y : Int64} (hd : decode cc pc = .ok (.lor, 1)) (k : PW p l e R s m args below meth c Q G mc ms nL (pc + 1) ls (.long (x ||| y) :: st) σ) : PW p l e R s m args below meth c Q G mc ms nL pc ls (.long y :: .long x :: st) σ := fun H locs arr hP hS hl => lv_lor C.1 C.2.1 hd (k H locs arr hP hS hl)
theorem pw_ldiv (C : gw_C p s m args meth c G own cc nL ret) {x y : Int64} (hd : decode cc pc = .ok (.ldiv, 1)) (hne : ¬ y = 0) (k : PW p l e R s m args below meth c Q G mc ms nL (pc + 1) ls (.long (x / y) :: st) σ) : PW p l e R s m args below meth c Q G mc ms nL pc ls (.long y :: .long x :: st) σ := fun H locs arr hP hS hl => lv_ldiv C.1 C.2.1 hd hne (k H locs arr hP hS hl)
theorem pw_lrem (C : gw_C p s m args meth c G own cc nL ret) {x y : Int64} (hd : decode cc pc = .ok (.lrem, 1)) (hne : ¬ y = 0) (k : PW p l e R s m args below meth c Q G mc ms nL (pc + 1) ls (.long (x - x / y * y) :: st) σ) : PW p l e R s m args below meth c Q G mc ms nL pc ls (.long y :: .long x :: st) σ := fun H locs arr hP hS hl => lv_lrem C.1 C.2.1 hd hne (k H locs arr hP hS hl)
theorem pw_ishl (C : gw_C p s m args meth c G own cc nL ret) {x y : Int32} (hd : decode cc pc = .ok (.ishl, 1)) (k : PW p l e R s m args below meth c Q G mc ms nL (pc + 1) ls (.int (x <<< (y &&& 31)) :: st) σ) : PW p l e R s m args below meth c Q G mc ms nL pc ls (.int y :: .int x :: st) σ := fun H locs arr hP hS hl => lv_ishl C.1 C.2.1 hd (k H locs arr hP hS hl)
theorem pw_ishr (C : gw_C p s m args meth c G own cc nL ret) {x y : Int32} (hd : decode cc pc = .ok (.ishr, 1)) (k : PW p l e R s m args below meth c Q G mc ms nL (pc + 1) ls (.int (x >>> (y &&& 31)) :: st) σ) : PW p l e R s m args below meth c Q G mc ms nL pc ls (.int y :: .int x :: st) σ := fun H locs arr hP hS hl => lv_ishr C.1 C.2.1 hd (k H locs arr hP hS hl)
theorem pw_lushr (C : gw_C p s m args meth c G own cc nL ret) {x v : Int64} {y : Int32} (hd : decode cc pc = .ok (.lushr, 1)) (hv : (x.toUInt64 >>> (y.toInt64.toUInt64 &&& Int64.toUInt64 63)).toInt64 = v) (k : PW p l e R s m args below meth c Q G mc ms nL (pc + 1) ls (.long v :: st) σ) : PW p l e R s m args below meth c Q G mc ms nL pc ls (.int y :: .long x :: st) σ := fun H locs arr hP hS hl => lv_lushr C.1 C.2.1 hd hv (k H locs arr hP hS hl)
theorem pw_lshl (C : gw_C p s m args meth c G own cc nL ret) {x v : Int64} {y : Int32} (hd : decode cc pc = .ok (.lshl, 1)) (hv : x <<< (y.toInt64 &&& 63) = v) (k : PW p l e R s m args below meth c Q G mc ms nL (pc + 1) ls (.long v :: st) σ) : PW p l e R s m args below meth c Q G mc ms nL pc ls (.int y :: .long x :: st) σ := fun H locs arr hP hS hl => lv_lshl C.1 C.2.1 hd hv (k H locs arr hP hS hl)
theorem pw_i2l (C : gw_C p s m args meth c G own cc nL ret) {x : Int32} {v : Int64} (hd : decode cc pc = .ok (.i2l, 1)) (hv : x.toInt64 = v) (k : PW p l e R s m args below meth c Q G mc ms nL (pc + 1) ls (.long v :: st) σ) : PW p l e R s m args below meth c Q G mc ms nL pc ls (.int x :: st) σ := fun H locs arr hP hS hl => lv_i2l C.1 C.2.1 hd hv (k H locs arr hP hS hl)
theorem pw_l2i (C : gw_C p s m args meth c G own cc nL ret) {x : Int64} {v : Int32} (hd : decode cc pc = .ok (.l2i, 1)) (hv : x.toInt32 = v) (k : PW p l e R s m args below meth c Q G mc ms nL (pc + 1) ls (.int v :: st) σ) : PW p l e R s m args below meth c Q G mc ms nL pc ls (.long x :: st) σ := fun H locs arr hP hS hl => lv_l2i C.1 C.2.1 hd hv (k H locs arr hP hS hl)
theorem pw_i2c (C : gw_C p s m args meth c G own cc nL ret) {x : Int32} {v : Int32} (hd : decode cc pc = .ok (.i2c, 1)) (hv : (x.toUInt32 % 65536).toInt32 = v) (k : PW p l e R s m args below meth c Q G mc ms nL (pc + 1) ls (.int v :: st) σ) : PW p l e R s m args below meth c Q G mc ms nL pc ls (.int x :: st) σ := fun H locs arr hP hS hl => lv_i2c C.1 C.2.1 hd hv (k H locs arr hP hS hl)
theorem pw_lcmp (C : gw_C p s m args meth c G own cc nL ret) {x y : Int64} (hd : decode cc pc = .ok (.lcmp, 1)) (k : PW p l e R s m args below meth c Q G mc ms nL (pc + 1) ls (.int (lg_cmp x y) :: st) σ) : PW p l e R s m args below meth c Q G mc ms nL pc ls (.long y :: .long x :: st) σ := fun H locs arr hP hS hl => W.lcmp C.1 C.2.1 hd (k H locs arr hP hS hl)
theorem pw_dup (C : gw_C p s m args meth c G own cc nL ret) {v : Value} (hd : decode cc pc = .ok (.dup, 1)) (hv : v.category = 1) (k : PW p l e R s m args below meth c Q G mc ms nL (pc + 1) ls (v :: v :: st) σ) : PW p l e R s m args below meth c Q G mc ms nL pc ls (v :: st) σ := fun H locs arr hP hS hl => lv_dup C.1 C.2.1 hd hv (k H locs arr hP hS hl)
theorem pw_pop (C : gw_C p s m args meth c G own cc nL ret) {v : Value} (hd : decode cc pc = .ok (.pop, 1)) (hv : v.category = 1) (k : PW p l e R s m args below meth c Q G mc ms nL (pc + 1) ls (st) σ) : PW p l e R s m args below meth c Q G mc ms nL pc ls (v :: st) σ := fun H locs arr hP hS hl => lv_pop C.1 C.2.1 hd hv (k H locs arr hP hS hl)
theorem pw_dup2 (C : gw_C p s m args meth c G own cc nL ret) {v u : Value} (hd : decode cc pc = .ok (.dup2, 1)) (hv : v.category = 1) (hu : u.category = 1) (k : PW p l e R s m args below meth c Q G mc ms nL (pc + 1) ls (v :: u :: v :: u :: st) σ) : PW p l e R s m args below meth c Q G mc ms nL pc ls (v :: u :: st) σ := fun H locs arr hP hS hl => lv_dup2_11 C.1 C.2.1 hd hv hu (k H locs arr hP hS hl)
theorem pw_if_eq (C : gw_C p s m args meth c G own cc nL ret) {x : Int32} {off : Int} {tgt : Nat} (hd : decode cc pc = .ok (.ifCond .eq off, 3)) (ht : (pc : Int) + off = (tgt : Int)) (kt : x = 0 → PW p l e R s m args below meth c Q G mc ms nL tgt ls st σ) (kf : ¬ x = 0 → PW p l e R s m args below meth c Q G mc ms nL (pc + 3) ls st σ) : PW p l e R s m args below meth c Q G mc ms nL pc ls (.int x :: st) σ := fun H locs arr hP hS hl => lv_if_eq C.1 C.2.1 hd ht (fun q => kt q H locs arr hP hS hl) (fun q => kf q H locs arr hP hS hl)
theorem pw_icmp_eq (C : gw_C p s m args meth c G own cc nL ret) {x y : Int32} {off : Int} {tgt : Nat} (hd : decode cc pc = .ok (.if_icmp .eq off, 3)) (ht : (pc : Int) + off = (tgt : Int)) (kt : x = y → PW p l e R s m args below meth c Q G mc ms nL tgt ls st σ) (kf : ¬ x = y → PW p l e R s m args below meth c Q G mc ms nL (pc + 3) ls st σ) : PW p l e R s m args below meth c Q G mc ms nL pc ls (.int y :: .int x :: st) σ := fun H locs arr hP hS hl => lv_icmp_eq C.1 C.2.1 hd ht (fun q => kt q H locs arr hP hS hl) (fun q => kf q H locs arr hP hS hl)
theorem pw_if_ne (C : gw_C p s m args meth c G own cc nL ret) {x : Int32} {off : Int} {tgt : Nat} (hd : decode cc pc = .ok (.ifCond .ne off, 3)) (ht : (pc : Int) + off = (tgt : Int)) (kt : ¬ x = 0 → PW p l e R s m args below meth c Q G mc ms nL tgt ls st σ) (kf : x = 0 → PW p l e R s m args below meth c Q G mc ms nL (pc + 3) ls st σ) : PW p l e R s m args below meth c Q G mc ms nL pc ls (.int x :: st) σ := fun H locs arr hP hS hl => lv_if_ne C.1 C.2.1 hd ht (fun q => kt q H locs arr hP hS hl) (fun q => kf q H locs arr hP hS hl)
theorem pw_icmp_ne (C : gw_C p s m args meth c G own cc nL ret) {x y : Int32} {off : Int} {tgt : Nat} (hd : decode cc pc = .ok (.if_icmp .ne off, 3)) (ht : (pc : Int) + off = (tgt : Int)) (kt : ¬ x = y → PW p l e R s m args below meth c Q G mc ms nL tgt ls st σ) (kf : x = y → PW p l e R s m args below meth c Q G mc ms nL (pc + 3) ls st σ) : PW p l e R s m args below meth c Q G mc ms nL pc ls (.int y :: .int x :: st) σ := fun H locs arr hP hS hl => lv_icmp_ne C.1 C.2.1 hd ht (fun q => kt q H locs arr hP hS hl) (fun q => kf q H locs arr hP hS hl)
theorem pw_if_lt (C : gw_C p s m args meth c G own cc nL ret) {x : Int32} {off : Int} {tgt : Nat} (hd : decode cc pc = .ok (.ifCond .lt off, 3)) (ht : (pc : Int) + off = (tgt : Int)) (kt : x < 0 → PW p l e R s m args below meth c Q G mc ms nL tgt ls st σ) (kf : ¬ x < 0 → PW p l e R s m args below meth c Q G mc ms nL (pc + 3) ls st σ) : PW p l e R s m args below meth c Q G mc ms nL pc ls (.int x :: st) σ := fun H locs arr hP hS hl => lv_if_lt C.1 C.2.1 hd ht (fun q => kt q H locs arr hP hS hl) (fun q => kf q H locs arr hP hS hl)
theorem pw_icmp_lt (C : gw_C p s m args meth c G own cc nL ret) {x y : Int32} {off : Int} {tgt : Nat} (hd : decode cc pc = .ok (.if_icmp .lt off, 3)) (ht : (pc : Int) + off = (tgt : Int)) (kt : x < y → PW p l e R s m args below meth c Q G mc ms nL tgt ls st σ) (kf : ¬ x < y → PW p l e R s m args below meth c Q G mc ms nL (pc + 3) ls st σ) : PW p l e R s m args below meth c Q G mc ms nL pc ls (.int y :: .int x :: st) σ := fun H locs arr hP hS hl => lv_icmp_lt C.1 C.2.1 hd ht (fun q => kt q H locs arr hP hS hl) (fun q => kf q H locs arr hP hS hl)
theorem pw_if_ge (C : gw_C p s m args meth c G own cc nL ret) {x : Int32} {off : Int} {tgt : Nat} (hd : decode cc pc = .ok (.ifCond .ge off, 3)) (ht : (pc : Int) + off = (tgt : Int)) (kt : 0 ≤ x → PW p l e R s m args below meth c Q G mc ms nL tgt ls st σ) (kf : ¬ 0 ≤ x → PW p l e R s m args below meth c Q G mc ms nL (pc + 3) ls st σ) : PW p l e R s m args below meth c Q G mc ms nL pc ls (.int x :: st) σ := fun H locs arr hP hS hl => lv_if_ge C.1 C.2.1 hd ht (fun q => kt q H locs arr hP hS hl) (fun q => kf q H locs arr hP hS hl)
theorem pw_icmp_ge (C : gw_C p s m args meth c G own cc nL ret) {x y : Int32} {off : Int} {tgt : Nat} (hd : decode cc pc = .ok (.if_icmp .ge off, 3)) (ht : (pc : Int) + off = (tgt : Int)) (kt : y ≤ x → PW p l e R s m args below meth c Q G mc ms nL tgt ls st σ) (kf : ¬ y ≤ x → PW p l e R s m args below meth c Q G mc ms nL (pc + 3) ls st σ) : PW p l e R s m args below meth c Q G mc ms nL pc ls (.int y :: .int x :: st) σ := fun H locs arr hP hS hl => lv_icmp_ge C.1 C.2.1 hd ht (fun q => kt q H locs arr hP hS hl) (fun q => kf q H locs arr hP hS hl)
theorem pw_if_gt (C : gw_C p s m args meth c G own cc nL ret) {x : Int32} {off : Int} {tgt : Nat} (hd : decode cc pc = .ok (.ifCond .gt off, 3)) (ht : (pc : Int) + off = (tgt : Int)) (kt : 0 < x → PW p l e R s m args below meth c Q G mc ms nL tgt ls st σ) (kf : ¬ 0 < x → PW p l e R s m args below meth c Q G mc ms nL (pc + 3) ls st σ) : PW p l e R s m args below meth c Q G mc ms nL pc ls (.int x :: st) σ := fun H locs arr hP hS hl => lv_if_gt C.1 C.2.1 hd ht (fun q => kt q H locs arr hP hS hl) (fun q => kf q H locs arr hP hS hl)
theorem pw_icmp_gt (C : gw_C p s m args meth c G own cc nL ret) {x y : Int32} {off : Int} {tgt : Nat} (hd : decode cc pc = .ok (.if_icmp .gt off, 3)) (ht : (pc : Int) + off = (tgt : Int)) (kt : y < x → PW p l e R s m args below meth c Q G mc ms nL tgt ls st σ) (kf : ¬ y < x → PW p l e R s m args below meth c Q G mc ms nL (pc + 3) ls st σ) : PW p l e R s m args below meth c Q G mc ms nL pc ls (.int y :: .int x :: st) σ := fun H locs arr hP hS hl => lv_icmp_gt C.1 C.2.1 hd ht (fun q => kt q H locs arr hP hS hl) (fun q => kf q H locs arr hP hS hl)
theorem pw_if_le (C : gw_C p s m args meth c G own cc nL ret) {x : Int32} {off : Int} {tgt : Nat} (hd : decode cc pc = .ok (.ifCond .le off, 3)) (ht : (pc : Int) + off = (tgt : Int)) (kt : x ≤ 0 → PW p l e R s m args below meth c Q G mc ms nL tgt ls st σ) (kf : ¬ x ≤ 0 → PW p l e R s m args below meth c Q G mc ms nL (pc + 3) ls st σ) : PW p l e R s m args below meth c Q G mc ms nL pc ls (.int x :: st) σ := fun H locs arr hP hS hl => lv_if_le C.1 C.2.1 hd ht (fun q => kt q H locs arr hP hS hl) (fun q => kf q H locs arr hP hS hl)
theorem pw_icmp_le (C : gw_C p s m args meth c G own cc nL ret) {x y : Int32} {off : Int} {tgt : Nat} (hd : decode cc pc = .ok (.if_icmp .le off, 3)) (ht : (pc : Int) + off = (tgt : Int)) (kt : x ≤ y → PW p l e R s m args below meth c Q G mc ms nL tgt ls st σ) (kf : ¬ x ≤ y → PW p l e R s m args below meth c Q G mc ms nL (pc + 3) ls st σ) : PW p l e R s m args below meth c Q G mc ms nL pc ls (.int y :: .int x :: st) σ := fun H locs arr hP hS hl => lv_icmp_le C.1 C.2.1 hd ht (fun q => kt q H locs arr hP hS hl) (fun q => kf q H locs arr hP hS hl)
theorem pw_goto (C : gw_C p s m args meth c G own cc nL ret) {off : Int} {tgt : Nat} (hd : decode cc pc = .ok (.goto off, 3)) (ht : (pc : Int) + off = (tgt : Int)) (k : PW p l e R s m args below meth c Q G mc ms nL tgt ls st σ) : PW p l e R s m args below meth c Q G mc ms nL pc ls st σ := fun H locs arr hP hS hl => lv_goto C.1 C.2.1 hd ht (k H locs arr hP hS hl)
theorem pw_ifnonnull (C : gw_C p s m args meth c G own cc nL ret) {x : Nat} {off : Int} {tgt : Nat} (hd : decode cc pc = .ok (.ifnonnull off, 3)) (ht : (pc : Int) + off = (tgt : Int)) (k : PW p l e R s m args below meth c Q G mc ms nL tgt ls st σ) : PW p l e R s m args below meth c Q G mc ms nL pc ls (.ref x :: st) σ := fun H locs arr hP hS hl => lv_ifnonnull C.1 C.2.1 hd ht (k H locs arr hP hS hl)
-- ===== heap =====
/-- the class ci of vwCl: its words are among the table's -/
def gw_cw (ci : Nat) : String × u_T × Nat := vwCl.getD ci ("", fun _ => ("", "", "", false), 0)
def gw_tyf (ci : Nat) : Nat → FieldType := match ci with
  | 0 => tyX0
  | 1 => tyX2
  | 2 => tyX3
  | 3 => tyX4
  | 4 => tyX5
  | 5 => tyX6
  | 6 => tyX7
  | _ => tyX8
theorem gw_cin : ∀ ci, ci < 8 → ∀ w ∈ u_ws (gw_cw ci).1 (gw_cw ci).2.1 (gw_cw ci).2.2, w ∈ gw_tbl := by
  intro ci h
  match ci, h with
  | 0, _ => exact fun w hw => gw_mem (List.contains_iff_mem.mp (List.all_eq_true.mp (show (u_ws RX0 TX0 9).all (fun w => lw_tbl.contains w) = true by decide +kernel) w hw)) (List.all_eq_true.mp (show (u_ws RX0 TX0 9).all goodWord = true by decide +kernel) w hw)
  | 1, _ => exact fun w hw => gw_mem (List.contains_iff_mem.mp (List.all_eq_true.mp (show (u_ws RX2 TX2 3).all (fun w => lw_tbl.contains w) = true by decide +kernel) w hw)) (List.all_eq_true.mp (show (u_ws RX2 TX2 3).all goodWord = true by decide +kernel) w hw)
  | 2, _ => exact fun w hw => gw_mem (List.contains_iff_mem.mp (List.all_eq_true.mp (show (u_ws RX3 TX3 10).all (fun w => lw_tbl.contains w) = true by decide +kernel) w hw)) (List.all_eq_true.mp (show (u_ws RX3 TX3 10).all goodWord = true by decide +kernel) w hw)
  | 3, _ => exact fun w hw => gw_mem (List.contains_iff_mem.mp (List.all_eq_true.mp (show (u_ws RX4 TX4 2).all (fun w => lw_tbl.contains w) = true by decide +kernel) w hw)) (List.all_eq_true.mp (show (u_ws RX4 TX4 2).all goodWord = true by decide +kernel) w hw)
  | 4, _ => exact fun w hw => gw_mem (List.contains_iff_mem.mp (List.all_eq_true.mp (show (u_ws RX5 TX5 2).all (fun w => lw_tbl.contains w) = true by decide +kernel) w hw)) (List.all_eq_true.mp (show (u_ws RX5 TX5 2).all goodWord = true by decide +kernel) w hw)
  | 5, _ => exact fun w hw => gw_mem (List.contains_iff_mem.mp (List.all_eq_true.mp (show (u_ws RX6 TX6 1).all (fun w => lw_tbl.contains w) = true by decide +kernel) w hw)) (List.all_eq_true.mp (show (u_ws RX6 TX6 1).all goodWord = true by decide +kernel) w hw)
  | 6, _ => exact fun w hw => gw_mem (List.contains_iff_mem.mp (List.all_eq_true.mp (show (u_ws RX7 TX7 9).all (fun w => lw_tbl.contains w) = true by decide +kernel) w hw)) (List.all_eq_true.mp (show (u_ws RX7 TX7 9).all goodWord = true by decide +kernel) w hw)
  | 7, _ => exact fun w hw => gw_mem (List.contains_iff_mem.mp (List.all_eq_true.mp (show (u_ws RX8 TX8 25).all (fun w => lw_tbl.contains w) = true by decide +kernel) w hw)) (List.all_eq_true.mp (show (u_ws RX8 TX8 25).all goodWord = true by decide +kernel) w hw)
theorem gw_cty : ∀ ci, ci < 8 → ∀ k, k < (gw_cw ci).2.2 → parseFieldDescriptor ((gw_cw ci).2.1 k).2.2.1 = some (gw_tyf ci k) := by
  intro ci h
  match ci, h with
  | 0, _ => exact tyX0_ok
  | 1, _ => exact tyX2_ok
  | 2, _ => exact tyX3_ok
  | 3, _ => exact tyX4_ok
  | 4, _ => exact tyX5_ok
  | 5, _ => exact tyX6_ok
  | 6, _ => exact tyX7_ok
  | 7, _ => exact tyX8_ok
theorem gw_cnm : ∀ ci, ci < 8 → ∀ a, a < (gw_cw ci).2.2 → ∀ b, b < (gw_cw ci).2.2 → a ≠ b → ((gw_cw ci).2.1 a).2.1 ≠ ((gw_cw ci).2.1 b).2.1 := by
  intro ci h
  match ci, h with
  | 0, _ => exact nmX0
  | 1, _ => exact nmX2
  | 2, _ => exact nmX3
  | 3, _ => exact nmX4
  | 4, _ => exact nmX5
  | 5, _ => exact nmX6
  | 6, _ => exact nmX7
  | 7, _ => exact nmX8
theorem gw_cvw : ∀ ci, ci < 8 → vwCl[ci]? = some (gw_cw ci) := by
  intro ci h
  match ci, h with
  | 0, _ => rfl
  | 1, _ => rfl
  | 2, _ => rfl
  | 3, _ => rfl
  | 4, _ => rfl
  | 5, _ => rfl
  | 6, _ => rfl
  | 7, _ => rfl
theorem pw_geti (C : gw_C p s m args meth c G own cc nL ret) {index ci k n j : Nat} {t : List (Option Nat)} (hd : decode cc pc = .ok (.getfield index, 3)) (hci : ci < 8) (hj : j < (gw_cw ci).2.2) (hw : Cond.fieldLink own index (gw_cw ci).1 ((gw_cw ci).2.1 j).2.1 ((gw_cw ci).2.1 j).2.2.1 ∈ gw_tbl) (hsame : ((gw_cw ci).2.1 j).1 = (gw_cw ci).1) (hk : k < gw_n) (hkd : gw_kd k = (ci + 5, n, t)) (ht : t[j]? = some none)
    (kk : PW p l e R s m args below meth c Q G mc ms nL (pc + 3) ls (.int (σ.1 k j) :: st) σ) : PW p l e R s m args below meth c Q G mc ms nL pc ls (.ref (G.1 + k) :: st) σ := fun H locs arr hP hS hl =>
  va_get C.1 C.2.1 C.2.2.2.2.1 (gw_cin ci hci) C.2.2.2.1 C.2.2.2.2.2.2.2.1 hP k ((gw_at G σ hk).trans (by rw [gw_ct5 hkd])) (gw_cvw ci hci) j hj (C.2.2.2.2.1 _ hw) (fun x hx => by rw [← hsame]; exact hx) (by rw [gw_fs_i _ _ _ _ _ ht, Nat.zero_add]) hd (kk H locs arr hP hS hl)
theorem pw_getr (C : gw_C p s m args meth c G own cc nL ret) {index ci k n j z : Nat} {t : List (Option Nat)} (hd : decode cc pc = .ok (.getfield index, 3)) (hci : ci < 8) (hj : j < (gw_cw ci).2.2) (hw : Cond.fieldLink own index (gw_cw ci).1 ((gw_cw ci).2.1 j).2.1 ((gw_cw ci).2.1 j).2.2.1 ∈ gw_tbl) (hsame : ((gw_cw ci).2.1 j).1 = (gw_cw ci).1) (hk : k < gw_n) (hkd : gw_kd k = (ci + 5, n, t)) (ht : t[j]? = some (some z))
    (kk : PW p l e R s m args below meth c Q G mc ms nL (pc + 3) ls (.ref (G.1 + z) :: st) σ) : PW p l e R s m args below meth c Q G mc ms nL pc ls (.ref (G.1 + k) :: st) σ := fun H locs arr hP hS hl =>
  va_get C.1 C.2.1 C.2.2.2.2.1 (gw_cin ci hci) C.2.2.2.1 C.2.2.2.2.2.2.2.1 hP k ((gw_at G σ hk).trans (by rw [gw_ct5 hkd])) (gw_cvw ci hci) j hj (C.2.2.2.2.1 _ hw) (fun x hx => by rw [← hsame]; exact hx) (gw_fs_r _ _ _ _ _ ht) hd (kk H locs arr hP hS hl)
theorem pw_puti (C : gw_C p s m args meth c G own cc nL ret) {index ci k n j : Nat} {t : List (Option Nat)} {x : Int32} (hd : decode cc pc = .ok (.putfield index, 3)) (hci : ci < 8) (hj : j < (gw_cw ci).2.2) (hw : Cond.fieldLink own index (gw_cw ci).1 ((gw_cw ci).2.1 j).2.1 ((gw_cw ci).2.1 j).2.2.1 ∈ gw_tbl) (hsame : ((gw_cw ci).2.1 j).1 = (gw_cw ci).1) (hfin : ((gw_cw ci).2.1 j).2.2.2 = false) (hn : narrow (gw_tyf ci j) (.int x) = .int x) (hfit : fits (gw_tyf ci j) (.int x) = true) (hk : k < gw_n) (hkd : gw_kd k = (ci + 5, n, t)) (ht : t[j]? = some none)
    (kk : PW p l e R s m args below meth c Q G mc ms nL (pc + 3) ls st (gw_u σ k j x)) : PW p l e R s m args below meth c Q G mc ms nL pc ls (.int x :: .ref (G.1 + k) :: st) σ := fun H locs arr hP hS hl => by
  refine va_put C.1 C.2.1 C.2.2.2.2.1 (gw_cin ci hci) (gw_tyf ci) (gw_cty ci hci) (gw_cnm ci hci) C.2.2.2.1 C.2.2.2.2.2.2.2.1 hP (gw_D G σ) hS k ((gw_at G σ hk).trans (by rw [gw_ct5 hkd])) (gw_cvw ci hci) j hj (C.2.2.2.2.1 _ hw) (fun y hy => by rw [← hsame]; exact hy) hfin (gw_cty ci hci j hj) hn hfit (by rw [gw_fs_len]; exact (List.getElem?_eq_some_iff.mp ht).1) hd (fun H1 locs1 hP1 _ hS1 => kk H1 locs1 arr (gw_set hk ?_ ?_ hP1) hS1 hl)
  · rw [gw_ct5 hkd, gw_fs_set _ _ _ _ _ _ ht, Nat.zero_add]
    simp [gw_u, gw_r]
  · intro k' hne
    exact gw_ct_ne (gw_r_ne σ _ hne) rfl
theorem pw_iald (C : gw_C p s m args meth c G own cc nL ret) {k n : Nat} {t : List (Option Nat)} {i : Int32} (hd : decode cc pc = .ok (.iaload, 1)) (hk : k < gw_n) (hkd : gw_kd k = (0, n, t)) (hin : vp_in i n)
    (kk : PW p l e R s m args below meth c Q G mc ms nL (pc + 1) ls (.int (σ.1 k i.toNatClampNeg) :: st) σ) : PW p l e R s m args below meth c Q G mc ms nL pc ls (.int i :: .ref (G.1 + k) :: st) σ := fun H locs arr hP hS hl =>
  va_iald C.1 C.2.1 C.2.2.2.2.2.2.2.1 hP k 0 ((gw_at G σ hk).trans (by rw [gw_ct0 hkd])) rfl hin hd (kk H locs arr hP hS hl)
theorem pw_bald (C : gw_C p s m args meth c G own cc nL ret) {k n : Nat} {t : List (Option Nat)} {i : Int32} (hd : decode cc pc = .ok (.baload, 1)) (hk : k < gw_n) (hkd : gw_kd k = (1, n, t)) (hin : vp_in i n)
    (kk : PW p l e R s m args below meth c Q G mc ms nL (pc + 1) ls (.int (σ.1 k i.toNatClampNeg) :: st) σ) : PW p l e R s m args below meth c Q G mc ms nL pc ls (.int i :: .ref (G.1 + k) :: st) σ := fun H locs arr hP hS hl =>
  va_zald C.1 C.2.1 C.2.2.2.2.2.2.2.1 hP k 1 ((gw_at G σ hk).trans (by rw [gw_ct1 hkd])) rfl hin hd (kk H locs arr hP hS hl)
theorem pw_cald (C : gw_C p s m args meth c G own cc nL ret) {k n : Nat} {t : List (Option Nat)} {i : Int32} (hd : decode cc pc = .ok (.caload, 1)) (hk : k < gw_n) (hkd : gw_kd k = (2, n, t)) (hin : vp_in i n)
    (kk : PW p l e R s m args below meth c Q G mc ms nL (pc + 1) ls (.int (σ.1 k i.toNatClampNeg) :: st) σ) : PW p l e R s m args below meth c Q G mc ms nL pc ls (.int i :: .ref (G.1 + k) :: st) σ := fun H locs arr hP hS hl =>
  va_cald C.1 C.2.1 C.2.2.2.2.2.2.2.1 hP k 2 ((gw_at G σ hk).trans (by rw [gw_ct2 hkd])) rfl hin hd (kk H locs arr hP hS hl)
theorem pw_lald (C : gw_C p s m args meth c G own cc nL ret) {k n : Nat} {t : List (Option Nat)} {i : Int32} (hd : decode cc pc = .ok (.laload, 1)) (hk : k < gw_n) (hkd : gw_kd k = (3, n, t)) (hin : vp_in i n)
    (kk : PW p l e R s m args below meth c Q G mc ms nL (pc + 1) ls (.long (σ.2 k i.toNatClampNeg) :: st) σ) : PW p l e R s m args below meth c Q G mc ms nL pc ls (.int i :: .ref (G.1 + k) :: st) σ := fun H locs arr hP hS hl =>
  va_lald C.1 C.2.1 C.2.2.2.2.2.2.2.1 hP k 3 ((gw_at G σ hk).trans (by rw [gw_ct3 hkd])) rfl hin hd (kk H locs arr hP hS hl)
theorem pw_aald (C : gw_C p s m args meth c G own cc nL ret) {k n z : Nat} {t : List (Option Nat)} {i : Int32} (hd : decode cc pc = .ok (.aaload, 1)) (hk : k < gw_n) (hkd : gw_kd k = (4, n, t)) (hin : vp_in i n) (hz : t.getD i.toNatClampNeg none = some z)
    (kk : PW p l e R s m args below meth c Q G mc ms nL (pc + 1) ls (.ref (G.1 + z) :: st) σ) : PW p l e R s m args below meth c Q G mc ms nL pc ls (.int i :: .ref (G.1 + k) :: st) σ := fun H locs arr hP hS hl =>
  va_aldq C.1 C.2.1 C.2.2.2.2.2.2.2.1 hP k 4 ((gw_at G σ hk).trans (by rw [gw_ct4 hkd])) rfl hin hd (by rw [hz]; exact kk H locs arr hP hS hl)
theorem pw_alen (C : gw_C p s m args meth c G own cc nL ret) {k n : Nat} {t : List (Option Nat)} {v : Int32} (hd : decode cc pc = .ok (.arraylength, 1)) (hk : k < gw_n) (hkd : gw_kd k = (0, n, t)) (hv : Int32.ofNat n = v)
    (kk : PW p l e R s m args below meth c Q G mc ms nL (pc + 1) ls (.int v :: st) σ) : PW p l e R s m args below meth c Q G mc ms nL pc ls (.ref (G.1 + k) :: st) σ := fun H locs arr hP hS hl =>
  va_alen C.1 C.2.1 C.2.2.2.2.2.2.2.1 hP k 0 ((gw_at G σ hk).trans (by rw [gw_ct0 hkd])) rfl hv hd (kk H locs arr hP hS hl)
theorem pw_iast (C : gw_C p s m args meth c G own cc nL ret) {k n : Nat} {t : List (Option Nat)} {i x : Int32} (hd : decode cc pc = .ok (.iastore, 1)) (hk : k < gw_n) (hkd : gw_kd k = (0, n, t)) (hin : vp_in i n)
    (kk : PW p l e R s m args below meth c Q G mc ms nL (pc + 1) ls st (gw_u σ k i.toNatClampNeg x)) : PW p l e R s m args below meth c Q G mc ms nL pc ls (.int x :: .int i :: .ref (G.1 + k) :: st) σ := fun H locs arr hP hS hl =>
  va_iast C.1 C.2.1 C.2.2.2.2.2.2.2.1 hP (gw_D G σ) hS k 0 ((gw_at G σ hk).trans (by rw [gw_ct0 hkd])) rfl hin hd (fun H1 locs1 hP1 _ hS1 => kk H1 locs1 arr (gw_set hk (by rw [gw_ct0 hkd]; simp [gw_u, gw_r]) (fun k' hne => gw_ct_ne (gw_r_ne σ _ hne) rfl) hP1) hS1 hl)
theorem pw_bast (C : gw_C p s m args meth c G own cc nL ret) {k n : Nat} {t : List (Option Nat)} {i x : Int32} (hd : decode cc pc = .ok (.bastore, 1)) (hk : k < gw_n) (hkd : gw_kd k = (1, n, t)) (hin : vp_in i n) (hx : vp_nar .boolean x = x)
    (kk : PW p l e R s m args below meth c Q G mc ms nL (pc + 1) ls st (gw_u σ k i.toNatClampNeg x)) : PW p l e R s m args below meth c Q G mc ms nL pc ls (.int x :: .int i :: .ref (G.1 + k) :: st) σ := fun H locs arr hP hS hl =>
  va_zast C.1 C.2.1 C.2.2.2.2.2.2.2.1 hP (gw_D G σ) hS k 1 ((gw_at G σ hk).trans (by rw [gw_ct1 hkd])) rfl hin hd (fun H1 locs1 hP1 _ hS1 => kk H1 locs1 arr (gw_set hk (by rw [gw_ct1 hkd, hx]; simp [gw_u, gw_r]) (fun k' hne => gw_ct_ne (gw_r_ne σ _ hne) rfl) hP1) hS1 hl)
theorem pw_cast (C : gw_C p s m args meth c G own cc nL ret) {k n : Nat} {t : List (Option Nat)} {i x : Int32} (hd : decode cc pc = .ok (.castore, 1)) (hk : k < gw_n) (hkd : gw_kd k = (2, n, t)) (hin : vp_in i n) (hx : vp_nar .char x = x)
    (kk : PW p l e R s m args below meth c Q G mc ms nL (pc + 1) ls st (gw_u σ k i.toNatClampNeg x)) : PW p l e R s m args below meth c Q G mc ms nL pc ls (.int x :: .int i :: .ref (G.1 + k) :: st) σ := fun H locs arr hP hS hl =>
  va_cast C.1 C.2.1 C.2.2.2.2.2.2.2.1 hP (gw_D G σ) hS k 2 ((gw_at G σ hk).trans (by rw [gw_ct2 hkd])) rfl hin hd (fun H1 locs1 hP1 _ hS1 => kk H1 locs1 arr (gw_set hk (by rw [gw_ct2 hkd, hx]; simp [gw_u, gw_r]) (fun k' hne => gw_ct_ne (gw_r_ne σ _ hne) rfl) hP1) hS1 hl)
theorem pw_last (C : gw_C p s m args meth c G own cc nL ret) {k n : Nat} {t : List (Option Nat)} {i : Int32} {x : Int64} (hd : decode cc pc = .ok (.lastore, 1)) (hk : k < gw_n) (hkd : gw_kd k = (3, n, t)) (hin : vp_in i n)
    (kk : PW p l e R s m args below meth c Q G mc ms nL (pc + 1) ls st (gw_ul σ k i.toNatClampNeg x)) : PW p l e R s m args below meth c Q G mc ms nL pc ls (.long x :: .int i :: .ref (G.1 + k) :: st) σ := fun H locs arr hP hS hl =>
  va_last C.1 C.2.1 C.2.2.2.2.2.2.2.1 hP (gw_D G σ) hS k 3 ((gw_at G σ hk).trans (by rw [gw_ct3 hkd])) rfl hin hd (fun H1 locs1 hP1 _ hS1 => kk H1 locs1 arr (gw_set hk (σ' := gw_ul σ k i.toNatClampNeg x) (by rw [gw_ct3 hkd]; simp [gw_ul, gw_rl]) (fun k' hne => gw_ct_ne (σ := σ) (σ' := gw_ul σ k i.toNatClampNeg x) (by simp [gw_ul, gw_rl]) (by simp [gw_ul, gw_rl, hne])) hP1) hS1 hl)
theorem pw_gets (C : gw_C p s m args meth c G own cc nL ret) {index i : Nat} (hd : decode cc pc = .ok (.getstatic index, 3)) (hi : i < 4) (hw : Cond.fieldLink own index RX1 (gw_en i) "LRateWires$Fault;" ∈ gw_tbl)
    (kk : PW p l e R s m args below meth c Q G mc ms nL (pc + 3) ls (.ref (G.2.2.2 i) :: st) σ) : PW p l e R s m args below meth c Q G mc ms nL pc ls st σ := fun H locs arr hP hS hl =>
  va_gets C.1 C.2.1 (C.2.2.2.2.2.2.2.2.1 i hi) hS C.2.2.2.1 (C.2.2.2.2.1 _ hw) (fun _ h => h) hd (kk H locs arr hP hS hl)
theorem pw_acmp_ne (C : gw_C p s m args meth c G own cc nL ret) {i j : Nat} {off : Int} {tgt : Nat} (hd : decode cc pc = .ok (.if_acmp .ne off, 3)) (ht : (pc : Int) + off = (tgt : Int)) (hi : i < 4) (hj : j < 4)
    (kt : ¬ i = j → PW p l e R s m args below meth c Q G mc ms nL tgt ls st σ) (kf : i = j → PW p l e R s m args below meth c Q G mc ms nL (pc + 3) ls st σ) : PW p l e R s m args below meth c Q G mc ms nL pc ls (.ref (G.2.2.2 j) :: .ref (G.2.2.2 i) :: st) σ := fun H locs arr hP hS hl =>
  lv_acmp_ne (rx := some (G.2.2.2 i)) (ry := some (G.2.2.2 j)) C.1 C.2.1 hd ht (fun q => kt (fun z => q (by rw [z])) H locs arr hP hS hl) (fun q => kf (C.2.2.2.2.2.2.2.2.2.1 i j hi hj (Option.some.inj q)) H locs arr hP hS hl)
theorem pw_acmp_eq (C : gw_C p s m args meth c G own cc nL ret) {i j : Nat} {off : Int} {tgt : Nat} (hd : decode cc pc = .ok (.if_acmp .eq off, 3)) (ht : (pc : Int) + off = (tgt : Int)) (hi : i < 4) (hj : j < 4)
    (kt : i = j → PW p l e R s m args below meth c Q G mc ms nL tgt ls st σ) (kf : ¬ i = j → PW p l e R s m args below meth c Q G mc ms nL (pc + 3) ls st σ) : PW p l e R s m args below meth c Q G mc ms nL pc ls (.ref (G.2.2.2 j) :: .ref (G.2.2.2 i) :: st) σ := fun H locs arr hP hS hl =>
  lv_acmp_eq (rx := some (G.2.2.2 i)) (ry := some (G.2.2.2 j)) C.1 C.2.1 hd ht (fun q => kt (C.2.2.2.2.2.2.2.2.2.1 i j hi hj (Option.some.inj q)) H locs arr hP hS hl) (fun q => kf (fun z => q (by rw [z])) H locs arr hP hS hl)
theorem pw_copyi (C : gw_C p s m args meth c G own cc nL ret) {index k0 k1 n0 n1 : Nat} {t0 t1 : List (Option Nat)} {sp dp n : Int32} (hd : decode cc pc = .ok (.invokestatic index, 3)) (hw : Cond.methodLink own index arraycopyName ∈ gw_tbl) (hw1 : Cond.native arraycopyName ∈ gw_tbl) (hw2 : Cond.static arraycopyName ∈ gw_tbl) (hw3 : Cond.initialized "java/lang/System" ∈ gw_tbl) (hk0 : k0 < gw_n) (hkd0 : gw_kd k0 = (0, n0, t0)) (hk1 : k1 < gw_n) (hkd1 : gw_kd k1 = (0, n1, t1))
    (h1 : ¬ sp < 0) (h2 : ¬ dp < 0) (h3 : ¬ n < 0) (h4 : sp.toNatClampNeg + n.toNatClampNeg ≤ n0) (h5 : dp.toNatClampNeg + n.toNatClampNeg ≤ n1) (hR : 1 ≤ R.frames) (hR2 : (st.map fun v => v.category).sum + (nativeFrameWords "java/lang/System" "arraycopy" 5 + 11) ≤ R.locals)
    (kk : PW p l e R s m args below meth c Q G mc ms nL (pc + 3) ls st (gw_r σ k1 (va_cpy (σ.1 k0) (σ.1 k1) sp.toNatClampNeg dp.toNatClampNeg n.toNatClampNeg))) : PW p l e R s m args below meth c Q G mc ms nL pc ls (.int n :: .int dp :: .ref (G.1 + k1) :: .int sp :: .ref (G.1 + k0) :: st) σ := fun H locs arr hP hS hl =>
  va_copyi C.1 C.2.1 (C.2.2.1.trans hl.1.symm) C.2.2.2.1 (C.2.2.2.2.1 _ hw) (C.2.2.2.2.1 _ hw1) (C.2.2.2.2.1 _ hw2) (C.2.2.2.2.1 _ hw3) C.2.2.2.2.2.2.2.1 hP (gw_D G σ) hS k0 k1 0 0 ((gw_at G σ hk0).trans (by rw [gw_ct0 hkd0])) ((gw_at G σ hk1).trans (by rw [gw_ct0 hkd1])) rfl rfl rfl h1 h2 h3 h4 h5 (fun i _ => rfl) hR hR2 hd (fun H1 locs1 hP1 _ hS1 => kk H1 locs1 arr (gw_set hk1 (by rw [gw_ct0 hkd1]; simp [gw_r]) (fun k' hne => gw_ct_ne (gw_r_ne σ _ hne) rfl) hP1) hS1 hl)
theorem pw_max (C : gw_C p s m args meth c G own cc nL ret) {index : Nat} {x y : Int32} (hd : decode cc pc = .ok (.invokestatic index, 3)) (hw : Cond.methodLink own index Lib.Math.max.name ∈ gw_tbl) (hw1 : Cond.static Lib.Math.max.name ∈ gw_tbl) (hw2 : Cond.initialized "java/lang/Math" ∈ gw_tbl) (hw3 : Cond.code Lib.Math.max.name Lib.Math.max.code 2 (some .int) ∈ gw_tbl) (hR : 1 ≤ R.frames) (hR2 : (st.map fun v => v.category).sum + 13 ≤ R.locals) (hc : mc ≤ R.cells) (hs : ms ≤ R.slots)
    (kk : PW p l e R s m args below meth c Q G mc ms nL (pc + 3) ls (.int (if x < y then y else x) :: st) σ) : PW p l e R s m args below meth c Q G mc ms nL pc ls (.int y :: .int x :: st) σ := fun H locs arr hP hS hl =>
  va_mmax C.1 C.2.1 (C.2.2.1.trans hl.1.symm) C.2.2.2.1 (C.2.2.2.2.1 _ hw) (C.2.2.2.2.1 _ hw1) (C.2.2.2.2.1 _ hw2) (C.2.2.2.2.1 _ hw3) hR hR2 hc hs hd (kk H locs arr hP hS hl)
theorem pw_min (C : gw_C p s m args meth c G own cc nL ret) {index : Nat} {x y : Int32} (hd : decode cc pc = .ok (.invokestatic index, 3)) (hw : Cond.methodLink own index Lib.Math.min.name ∈ gw_tbl) (hw1 : Cond.static Lib.Math.min.name ∈ gw_tbl) (hw2 : Cond.initialized "java/lang/Math" ∈ gw_tbl) (hw3 : Cond.code Lib.Math.min.name Lib.Math.min.code 2 (some .int) ∈ gw_tbl) (hR : 1 ≤ R.frames) (hR2 : (st.map fun v => v.category).sum + 13 ≤ R.locals) (hc : mc ≤ R.cells) (hs : ms ≤ R.slots)
    (kk : PW p l e R s m args below meth c Q G mc ms nL (pc + 3) ls (.int (if y < x then y else x) :: st) σ) : PW p l e R s m args below meth c Q G mc ms nL pc ls (.int y :: .int x :: st) σ := fun H locs arr hP hS hl =>
  va_mmin C.1 C.2.1 (C.2.2.1.trans hl.1.symm) C.2.2.2.1 (C.2.2.2.2.1 _ hw) (C.2.2.2.2.1 _ hw1) (C.2.2.2.2.1 _ hw2) (C.2.2.2.2.1 _ hw3) hR hR2 hc hs hd (kk H locs arr hP hS hl)
-- ===== calls =====
/-- what the tables say of a method that is called -/
def gw_MV (y : MethodName) (bytes : ByteArray) (maxL : Nat) (rt : Option FieldType) (n : Nat) : Prop := Cond.code y bytes maxL rt ∈ gw_tbl ∧ Cond.instanceMethod y ∈ gw_tbl ∧ Cond.selects y.cls y y ∈ gw_tbl ∧ Cond.initialized y.cls ∈ gw_tbl ∧ (y.cls ≠ "java/lang/invoke/MethodHandle" ∧ y.cls ≠ "java/lang/invoke/VarHandle" ∧ (parseMethodDescriptor y.desc).map (fun d => d.parameters.length) = some n)
def gw_MS (y : MethodName) (bytes : ByteArray) (maxL : Nat) (rt : Option FieldType) (n : Nat) : Prop := Cond.code y bytes maxL rt ∈ gw_tbl ∧ Cond.static y ∈ gw_tbl ∧ Cond.initialized y.cls ∈ gw_tbl ∧ (y.cls ≠ "java/lang/invoke/MethodHandle" ∧ y.cls ≠ "java/lang/invoke/VarHandle" ∧ (parseMethodDescriptor y.desc).map (fun d => d.parameters.length) = some n)
theorem gw_good {y : MethodName} {bytes : ByteArray} {maxL : Nat} {rt : Option FieldType} (h : Cond.code y bytes maxL rt ∈ gw_tbl) : GoodIn gw_tbl (.code y bytes maxL rt :: gw_tbl) := by
  intro w hw
  rcases List.mem_cons.mp hw with rfl | hw
  · exact ⟨h, good_of_word (List.mem_filter.mp h).2⟩
  · exact ⟨hw, good_of_word (List.mem_filter.mp hw).2⟩
theorem gw_call {Φ : Option Value → gw_S → Prop} {H : Heap} {locs : List Loc} {arr : Array Slot} {rest st0 : List Value} {a : Array Value} {c1 s1 : Nat}
    (hr : va_Run p l e R s m args below meth c H locs mc ms c1 s1 (F0 m pc arr st0) rest (gw_Q G Φ a) (gw_A G)) (hS : va_S (gw_A G) s.heap H locs) (hl : lv_has arr nL ls)
    (k : ∀ (v : Option Value) (σ' : gw_S), Φ v σ' → PW p l e R s m args below meth c Q G (mc + c1) (ms + s1) nL (pc + 3) ls (v.toList ++ rest) σ') : W p l e R s m args below meth c H locs mc ms Q (F0 m pc arr st0) := by
  intro T hT X
  obtain ⟨v, st₀, t, T', L, h0, X', hL, e1, e2, ⟨⟨v', σ', hv, hp, hb⟩, hz, hk⟩, st⟩ := hr T hT X
  cases hv
  rw [h0] at hz hk
  obtain ⟨t2, a1, b1⟩ := k v σ' hp T'.heap (locs ++ L) arr (by rw [e1]; exact hb)
    ⟨Nat.le_trans hS.1 (by rw [e1]; exact hz), fun q h1 h2 => by rw [e1, hk q (Nat.lt_of_lt_of_le h1 hS.1) h2]; exact hS.2.1 q h1 h2, fun q hq => by
      rcases List.mem_append.mp hq with h | h
      · exact hS.2.2 q h
      · exact hL q h⟩ hl T' rfl X'
  exact ⟨t2, st t2 a1, b1⟩
theorem pw_callV (C : gw_C p s m args meth c G own cc nL ret) {y : MethodName} {bytes : ByteArray} {maxL index d n k nn ci : Nat} {rt : Option FieldType} {As : List Value} {t : List (Option Nat)} {Φ : Option Value → gw_S → Prop} (hd : decode cc pc = .ok (.invokevirtual index, 3)) (hM : gw_M l G y bytes maxL rt d (.ref (G.1 + k) :: As) σ Φ) (hy : gw_MV y bytes maxL rt n) (hw : Cond.methodLink own index y ∈ gw_tbl) (hn : As.length = n) (hR : d + 1 ≤ R.frames) (hR2 : 8 + (maxL + 11) + 30 * d ≤ R.locals) (hc : mc ≤ R.cells) (hs : ms ≤ R.slots) (hci : ci < 8) (hcn : (gw_cw ci).1 = y.cls) (hk : k < gw_n) (hkd : gw_kd k = (ci + 5, nn, t)) {st0 : List Value} (hst : st0 = As.reverse ++ .ref (G.1 + k) :: st) (h8 : (st.map fun v => v.category).sum ≤ 8)
    (kk : ∀ (v : Option Value) (σ' : gw_S), Φ v σ' → PW p l e R s m args below meth c Q G mc ms nL (pc + 3) ls (v.toList ++ st) σ') : PW p l e R s m args below meth c Q G mc ms nL pc ls st0 σ := fun H locs arr hP hS hl => by
  have hW := C.2.2.2.2.1
  refine gw_call (c1 := 0) (s1 := 0) (va_runV (C := y.cls) (bytes := bytes) (maxL := maxL) (ret := rt) (n := n) (index := index) (As := As) (b := G.1 + k) (rest := st) ⟨C.1, C.2.1, C.2.2.1, C.2.2.2.1, hW⟩ hM ⟨callB_of n hW (gw_good hy.1) rfl rfl rfl (hW _ hy.2.2.2.1) (hW _ hw) hy.2.2.2.2 ⟨hR, hR2⟩, hW _ hy.2.1, hW _ hy.2.2.1⟩ ⟨gw_blind, ?_, fun U hU hW9 => ⟨rfl, by rw [hU]; exact hP, C.2.2.2.2.2.2.2.go hW9.alike hU hS⟩⟩ rfl hn hl.1 hst (lv_room h8) hd ⟨hc, hs⟩) hS hl kk
  have hv := va_recv C.2.2.2.2.2.2.2.1 hP (gw_cvw ci hci) (q0 := k) ((gw_at G σ hk).trans (by rw [gw_ct5 hkd]))
  rw [hcn] at hv
  exact hv
theorem pw_callS (C : gw_C p s m args meth c G own cc nL ret) {y : MethodName} {bytes : ByteArray} {maxL index d n : Nat} {rt : Option FieldType} {As : List Value} {Φ : Option Value → gw_S → Prop} (hd : decode cc pc = .ok (.invokestatic index, 3)) (hM : gw_M l G y bytes maxL rt d As σ Φ) (hy : gw_MS y bytes maxL rt n) (hw : Cond.methodLink own index y ∈ gw_tbl) (hn : As.length = n) (hR : d + 1 ≤ R.frames) (hR2 : 8 + (maxL + 11) + 30 * d ≤ R.locals) (hc : mc ≤ R.cells) (hs : ms ≤ R.slots) {st0 : List Value} (hst : st0 = As.reverse ++ st) (h8 : (st.map fun v => v.category).sum ≤ 8)
    (kk : ∀ (v : Option Value) (σ' : gw_S), Φ v σ' → PW p l e R s m args below meth c Q G mc ms nL (pc + 3) ls (v.toList ++ st) σ') : PW p l e R s m args below meth c Q G mc ms nL pc ls st0 σ := fun H locs arr hP hS hl => by
  have hW := C.2.2.2.2.1
  exact gw_call (c1 := 0) (s1 := 0) (va_runS (bytes := bytes) (maxL := maxL) (ret := rt) (n := n) (index := index) (As := As) (rest := st) ⟨C.1, C.2.1, C.2.2.1, C.2.2.2.1, hW⟩ hM ⟨callB_of n hW (gw_good hy.1) rfl rfl rfl (hW _ hy.2.2.1) (hW _ hw) hy.2.2.2 ⟨hR, hR2⟩, hW _ hy.2.1⟩ ⟨gw_blind, fun U hU hW9 => ⟨rfl, by rw [hU]; exact hP, C.2.2.2.2.2.2.2.go hW9.alike hU hS⟩⟩ rfl hn hl.1 hst (lv_room h8) hd ⟨hc, hs⟩) hS hl kk
end GW
end
