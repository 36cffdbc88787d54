section
-- ===== PART A: goes FIRST, ahead of the names: the tables' words, and 'selects' of the private methods out of them =====
/-- a private method of a class that the tables say can be made, by its rows of tables_1 -/
def lw_okq (q : MethodName × Nat) : Prop := (q.1.cls ≠ "java/lang/invoke/MethodHandle" ∧ q.1.cls ≠ "java/lang/invoke/VarHandle") ∧ Cond.instantiable q.1.cls q.2 ∈ tables_1 ∧ Cond.privateMethod q.1 ∈ tables_1 ∧ Cond.instanceMethod q.1 ∈ tables_1
theorem lw_p0 : lw_okq (⟨"UnnestPlans", "understand", "(I)V"⟩, 9) := ⟨⟨by decide +kernel, by decide +kernel⟩, List.mem_of_getElem? (i := 18) (by decide +kernel), List.mem_of_getElem? (i := 358) (by decide +kernel), List.mem_of_getElem? (i := 359) (by decide +kernel)⟩
theorem lw_p1 : lw_okq (⟨"UnnestPlans$Steps", "add", "(II)V"⟩, 4) := ⟨⟨by decide +kernel, by decide +kernel⟩, List.mem_of_getElem? (i := 66) (by decide +kernel), List.mem_of_getElem? (i := 369) (by decide +kernel), List.mem_of_getElem? (i := 370) (by decide +kernel)⟩
theorem lw_p2 : lw_okq (⟨"UnnestPlans", "tableOf", "(I)LUnnestPlans$Table;"⟩, 9) := ⟨⟨by decide +kernel, by decide +kernel⟩, List.mem_of_getElem? (i := 18) (by decide +kernel), List.mem_of_getElem? (i := 376) (by decide +kernel), List.mem_of_getElem? (i := 377) (by decide +kernel)⟩
theorem lw_p3 : lw_okq (⟨"UnnestPlans", "refresh", "()V"⟩, 9) := ⟨⟨by decide +kernel, by decide +kernel⟩, List.mem_of_getElem? (i := 18) (by decide +kernel), List.mem_of_getElem? (i := 422) (by decide +kernel), List.mem_of_getElem? (i := 423) (by decide +kernel)⟩
theorem lw_p4 : lw_okq (⟨"UnnestPlans$Course", "begin", "()V"⟩, 4) := ⟨⟨by decide +kernel, by decide +kernel⟩, List.mem_of_getElem? (i := 198) (by decide +kernel), List.mem_of_getElem? (i := 434) (by decide +kernel), List.mem_of_getElem? (i := 435) (by decide +kernel)⟩
theorem lw_p5 : lw_okq (⟨"UnnestPlans$Course", "add", "(II)V"⟩, 4) := ⟨⟨by decide +kernel, by decide +kernel⟩, List.mem_of_getElem? (i := 198) (by decide +kernel), List.mem_of_getElem? (i := 438) (by decide +kernel), List.mem_of_getElem? (i := 439) (by decide +kernel)⟩
theorem lw_p6 : lw_okq (⟨"UnnestPlans$Run", "begin", "()V"⟩, 6) := ⟨⟨by decide +kernel, by decide +kernel⟩, List.mem_of_getElem? (i := 192) (by decide +kernel), List.mem_of_getElem? (i := 450) (by decide +kernel), List.mem_of_getElem? (i := 451) (by decide +kernel)⟩
theorem lw_p7 : lw_okq (⟨"UnnestPlans$Report", "tell", "(I)V"⟩, 10) := ⟨⟨by decide +kernel, by decide +kernel⟩, List.mem_of_getElem? (i := 250) (by decide +kernel), List.mem_of_getElem? (i := 472) (by decide +kernel), List.mem_of_getElem? (i := 473) (by decide +kernel)⟩
theorem lw_p8 : lw_okq (⟨"UnnestPlans$Run", "readInner", "(LUnnestPlans$Table;)V"⟩, 6) := ⟨⟨by decide +kernel, by decide +kernel⟩, List.mem_of_getElem? (i := 192) (by decide +kernel), List.mem_of_getElem? (i := 476) (by decide +kernel), List.mem_of_getElem? (i := 477) (by decide +kernel)⟩
theorem lw_p9 : lw_okq (⟨"UnnestPlans$Run", "feed", "(II)V"⟩, 6) := ⟨⟨by decide +kernel, by decide +kernel⟩, List.mem_of_getElem? (i := 192) (by decide +kernel), List.mem_of_getElem? (i := 483) (by decide +kernel), List.mem_of_getElem? (i := 484) (by decide +kernel)⟩
theorem lw_p10 : lw_okq (⟨"UnnestPlans$Run", "pass", "(III)I"⟩, 6) := ⟨⟨by decide +kernel, by decide +kernel⟩, List.mem_of_getElem? (i := 192) (by decide +kernel), List.mem_of_getElem? (i := 487) (by decide +kernel), List.mem_of_getElem? (i := 488) (by decide +kernel)⟩
theorem lw_p11 : lw_okq (⟨"UnnestPlans$Run", "through", "(II)I"⟩, 6) := ⟨⟨by decide +kernel, by decide +kernel⟩, List.mem_of_getElem? (i := 192) (by decide +kernel), List.mem_of_getElem? (i := 491) (by decide +kernel), List.mem_of_getElem? (i := 492) (by decide +kernel)⟩
theorem lw_p12 : lw_okq (⟨"UnnestPlans$Run", "arrive", "(I)V"⟩, 6) := ⟨⟨by decide +kernel, by decide +kernel⟩, List.mem_of_getElem? (i := 192) (by decide +kernel), List.mem_of_getElem? (i := 514) (by decide +kernel), List.mem_of_getElem? (i := 515) (by decide +kernel)⟩
theorem lw_p13 : lw_okq (⟨"UnnestPlans$Run", "joins", "(II)Z"⟩, 6) := ⟨⟨by decide +kernel, by decide +kernel⟩, List.mem_of_getElem? (i := 192) (by decide +kernel), List.mem_of_getElem? (i := 527) (by decide +kernel), List.mem_of_getElem? (i := 528) (by decide +kernel)⟩
theorem lw_p14 : lw_okq (⟨"UnnestPlans$Run", "handOnKept", "()V"⟩, 6) := ⟨⟨by decide +kernel, by decide +kernel⟩, List.mem_of_getElem? (i := 192) (by decide +kernel), List.mem_of_getElem? (i := 531) (by decide +kernel), List.mem_of_getElem? (i := 532) (by decide +kernel)⟩
theorem lw_p15 : lw_okq (⟨"UnnestPlans$Tally", "isIn", "(I)I"⟩, 6) := ⟨⟨by decide +kernel, by decide +kernel⟩, List.mem_of_getElem? (i := 154) (by decide +kernel), List.mem_of_getElem? (i := 555) (by decide +kernel), List.mem_of_getElem? (i := 556) (by decide +kernel)⟩
def lw_privs_1 : List (MethodName × Nat) := [(⟨"UnnestPlans", "understand", "(I)V"⟩, 9), (⟨"UnnestPlans$Steps", "add", "(II)V"⟩, 4), (⟨"UnnestPlans", "tableOf", "(I)LUnnestPlans$Table;"⟩, 9), (⟨"UnnestPlans", "refresh", "()V"⟩, 9), (⟨"UnnestPlans$Course", "begin", "()V"⟩, 4), (⟨"UnnestPlans$Course", "add", "(II)V"⟩, 4), (⟨"UnnestPlans$Run", "begin", "()V"⟩, 6), (⟨"UnnestPlans$Report", "tell", "(I)V"⟩, 10), (⟨"UnnestPlans$Run", "readInner", "(LUnnestPlans$Table;)V"⟩, 6), (⟨"UnnestPlans$Run", "feed", "(II)V"⟩, 6), (⟨"UnnestPlans$Run", "pass", "(III)I"⟩, 6), (⟨"UnnestPlans$Run", "through", "(II)I"⟩, 6), (⟨"UnnestPlans$Run", "arrive", "(I)V"⟩, 6), (⟨"UnnestPlans$Run", "joins", "(II)Z"⟩, 6), (⟨"UnnestPlans$Run", "handOnKept", "()V"⟩, 6), (⟨"UnnestPlans$Tally", "isIn", "(I)I"⟩, 6)]
theorem lw_r1 : ∀ q ∈ lw_privs_1, lw_okq q := List.forall_mem_cons.mpr ⟨lw_p0, List.forall_mem_cons.mpr ⟨lw_p1, List.forall_mem_cons.mpr ⟨lw_p2, List.forall_mem_cons.mpr ⟨lw_p3, List.forall_mem_cons.mpr ⟨lw_p4, List.forall_mem_cons.mpr ⟨lw_p5, List.forall_mem_cons.mpr ⟨lw_p6, List.forall_mem_cons.mpr ⟨lw_p7, List.forall_mem_cons.mpr ⟨lw_p8, List.forall_mem_cons.mpr ⟨lw_p9, List.forall_mem_cons.mpr ⟨lw_p10, List.forall_mem_cons.mpr ⟨lw_p11, List.forall_mem_cons.mpr ⟨lw_p12, List.forall_mem_cons.mpr ⟨lw_p13, List.forall_mem_cons.mpr ⟨lw_p14, List.forall_mem_cons.mpr ⟨lw_p15, fun _ h => absurd h List.not_mem_nil⟩⟩⟩⟩⟩⟩⟩⟩⟩⟩⟩⟩⟩⟩⟩⟩
theorem lw_p16 : lw_okq (⟨"UnnestPlans$Steps", "speaksAt", "(I)Z"⟩, 4) := ⟨⟨by decide +kernel, by decide +kernel⟩, List.mem_of_getElem? (i := 66) (by decide +kernel), List.mem_of_getElem? (i := 576) (by decide +kernel), List.mem_of_getElem? (i := 577) (by decide +kernel)⟩
theorem lw_p17 : lw_okq (⟨"UnnestPlans$Course", "addJoin", "(I)V"⟩, 4) := ⟨⟨by decide +kernel, by decide +kernel⟩, List.mem_of_getElem? (i := 198) (by decide +kernel), List.mem_of_getElem? (i := 580) (by decide +kernel), List.mem_of_getElem? (i := 581) (by decide +kernel)⟩
theorem lw_p18 : lw_okq (⟨"UnnestPlans$Pairs", "placeOf", "(II)I"⟩, 4) := ⟨⟨by decide +kernel, by decide +kernel⟩, List.mem_of_getElem? (i := 224) (by decide +kernel), List.mem_of_getElem? (i := 601) (by decide +kernel), List.mem_of_getElem? (i := 602) (by decide +kernel)⟩
theorem lw_p19 : lw_okq (⟨"UnnestPlans", "runOf", "(I)LUnnestPlans$Run;"⟩, 9) := ⟨⟨by decide +kernel, by decide +kernel⟩, List.mem_of_getElem? (i := 18) (by decide +kernel), List.mem_of_getElem? (i := 605) (by decide +kernel), List.mem_of_getElem? (i := 606) (by decide +kernel)⟩
theorem lw_p20 : lw_okq (⟨"UnnestPlans", "hosts", "()I"⟩, 9) := ⟨⟨by decide +kernel, by decide +kernel⟩, List.mem_of_getElem? (i := 18) (by decide +kernel), List.mem_of_getElem? (i := 613) (by decide +kernel), List.mem_of_getElem? (i := 614) (by decide +kernel)⟩
theorem lw_p21 : lw_okq (⟨"UnnestPlans", "sameBit", "()I"⟩, 9) := ⟨⟨by decide +kernel, by decide +kernel⟩, List.mem_of_getElem? (i := 18) (by decide +kernel), List.mem_of_getElem? (i := 625) (by decide +kernel), List.mem_of_getElem? (i := 626) (by decide +kernel)⟩
theorem lw_p22 : lw_okq (⟨"UnnestPlans", "pairPart", "(II)I"⟩, 9) := ⟨⟨by decide +kernel, by decide +kernel⟩, List.mem_of_getElem? (i := 18) (by decide +kernel), List.mem_of_getElem? (i := 655) (by decide +kernel), List.mem_of_getElem? (i := 656) (by decide +kernel)⟩
theorem lw_p23 : lw_okq (⟨"UnnestPlans", "spareBits", "()I"⟩, 9) := ⟨⟨by decide +kernel, by decide +kernel⟩, List.mem_of_getElem? (i := 18) (by decide +kernel), List.mem_of_getElem? (i := 689) (by decide +kernel), List.mem_of_getElem? (i := 690) (by decide +kernel)⟩
theorem lw_p24 : lw_okq (⟨"UnnestPlans", "found", "(I)I"⟩, 9) := ⟨⟨by decide +kernel, by decide +kernel⟩, List.mem_of_getElem? (i := 18) (by decide +kernel), List.mem_of_getElem? (i := 697) (by decide +kernel), List.mem_of_getElem? (i := 698) (by decide +kernel)⟩
theorem lw_p25 : lw_okq (⟨"UnnestPlans", "counted", "(I)I"⟩, 9) := ⟨⟨by decide +kernel, by decide +kernel⟩, List.mem_of_getElem? (i := 18) (by decide +kernel), List.mem_of_getElem? (i := 769) (by decide +kernel), List.mem_of_getElem? (i := 770) (by decide +kernel)⟩
theorem lw_p26 : lw_okq (⟨"UnnestPlans", "mixTexts", "(J)J"⟩, 9) := ⟨⟨by decide +kernel, by decide +kernel⟩, List.mem_of_getElem? (i := 18) (by decide +kernel), List.mem_of_getElem? (i := 782) (by decide +kernel), List.mem_of_getElem? (i := 783) (by decide +kernel)⟩
theorem lw_p27 : lw_okq (⟨"UnnestPlans", "mixReport", "(JLUnnestPlans$Report;)J"⟩, 9) := ⟨⟨by decide +kernel, by decide +kernel⟩, List.mem_of_getElem? (i := 18) (by decide +kernel), List.mem_of_getElem? (i := 790) (by decide +kernel), List.mem_of_getElem? (i := 791) (by decide +kernel)⟩
theorem lw_p28 : lw_okq (⟨"UnnestPlans", "mixAnswers", "(JLUnnestPlans$Report;)J"⟩, 9) := ⟨⟨by decide +kernel, by decide +kernel⟩, List.mem_of_getElem? (i := 18) (by decide +kernel), List.mem_of_getElem? (i := 794) (by decide +kernel), List.mem_of_getElem? (i := 795) (by decide +kernel)⟩
theorem lw_p29 : lw_okq (⟨"UnnestPlans", "mixEnds", "(J)J"⟩, 9) := ⟨⟨by decide +kernel, by decide +kernel⟩, List.mem_of_getElem? (i := 18) (by decide +kernel), List.mem_of_getElem? (i := 798) (by decide +kernel), List.mem_of_getElem? (i := 799) (by decide +kernel)⟩
theorem lw_p30 : lw_okq (⟨"UnnestPlansModel", "meets", "(I)I"⟩, 44) := ⟨⟨by decide +kernel, by decide +kernel⟩, List.mem_of_getElem? (i := 802) (by decide +kernel), List.mem_of_getElem? (i := 970) (by decide +kernel), List.mem_of_getElem? (i := 971) (by decide +kernel)⟩
theorem lw_p31 : lw_okq (⟨"UnnestPlansModel", "faultOf", "(I)I"⟩, 44) := ⟨⟨by decide +kernel, by decide +kernel⟩, List.mem_of_getElem? (i := 802) (by decide +kernel), List.mem_of_getElem? (i := 979) (by decide +kernel), List.mem_of_getElem? (i := 980) (by decide +kernel)⟩
def lw_privs_2 : List (MethodName × Nat) := [(⟨"UnnestPlans$Steps", "speaksAt", "(I)Z"⟩, 4), (⟨"UnnestPlans$Course", "addJoin", "(I)V"⟩, 4), (⟨"UnnestPlans$Pairs", "placeOf", "(II)I"⟩, 4), (⟨"UnnestPlans", "runOf", "(I)LUnnestPlans$Run;"⟩, 9), (⟨"UnnestPlans", "hosts", "()I"⟩, 9), (⟨"UnnestPlans", "sameBit", "()I"⟩, 9), (⟨"UnnestPlans", "pairPart", "(II)I"⟩, 9), (⟨"UnnestPlans", "spareBits", "()I"⟩, 9), (⟨"UnnestPlans", "found", "(I)I"⟩, 9), (⟨"UnnestPlans", "counted", "(I)I"⟩, 9), (⟨"UnnestPlans", "mixTexts", "(J)J"⟩, 9), (⟨"UnnestPlans", "mixReport", "(JLUnnestPlans$Report;)J"⟩, 9), (⟨"UnnestPlans", "mixAnswers", "(JLUnnestPlans$Report;)J"⟩, 9), (⟨"UnnestPlans", "mixEnds", "(J)J"⟩, 9), (⟨"UnnestPlansModel", "meets", "(I)I"⟩, 44), (⟨"UnnestPlansModel", "faultOf", "(I)I"⟩, 44)]
theorem lw_r2 : ∀ q ∈ lw_privs_2, lw_okq q := List.forall_mem_cons.mpr ⟨lw_p16, List.forall_mem_cons.mpr ⟨lw_p17, List.forall_mem_cons.mpr ⟨lw_p18, List.forall_mem_cons.mpr ⟨lw_p19, List.forall_mem_cons.mpr ⟨lw_p20, List.forall_mem_cons.mpr ⟨lw_p21, List.forall_mem_cons.mpr ⟨lw_p22, List.forall_mem_cons.mpr ⟨lw_p23, List.forall_mem_cons.mpr ⟨lw_p24, List.forall_mem_cons.mpr ⟨lw_p25, List.forall_mem_cons.mpr ⟨lw_p26, List.forall_mem_cons.mpr ⟨lw_p27, List.forall_mem_cons.mpr ⟨lw_p28, List.forall_mem_cons.mpr ⟨lw_p29, List.forall_mem_cons.mpr ⟨lw_p30, List.forall_mem_cons.mpr ⟨lw_p31, fun _ h => absurd h List.not_mem_nil⟩⟩⟩⟩⟩⟩⟩⟩⟩⟩⟩⟩⟩⟩⟩⟩
theorem lw_p32 : lw_okq (⟨"UnnestPlansModel", "reads", "()V"⟩, 44) := ⟨⟨by decide +kernel, by decide +kernel⟩, List.mem_of_getElem? (i := 802) (by decide +kernel), List.mem_of_getElem? (i := 983) (by decide +kernel), List.mem_of_getElem? (i := 984) (by decide +kernel)⟩
theorem lw_p33 : lw_okq (⟨"UnnestPlansModel", "readsTable", "(I)I"⟩, 44) := ⟨⟨by decide +kernel, by decide +kernel⟩, List.mem_of_getElem? (i := 802) (by decide +kernel), List.mem_of_getElem? (i := 987) (by decide +kernel), List.mem_of_getElem? (i := 988) (by decide +kernel)⟩
theorem lw_p34 : lw_okq (⟨"UnnestPlansModel", "valueAt", "(II)I"⟩, 44) := ⟨⟨by decide +kernel, by decide +kernel⟩, List.mem_of_getElem? (i := 802) (by decide +kernel), List.mem_of_getElem? (i := 991) (by decide +kernel), List.mem_of_getElem? (i := 992) (by decide +kernel)⟩
theorem lw_p35 : lw_okq (⟨"UnnestPlansModel", "byteAt", "(II)I"⟩, 44) := ⟨⟨by decide +kernel, by decide +kernel⟩, List.mem_of_getElem? (i := 802) (by decide +kernel), List.mem_of_getElem? (i := 995) (by decide +kernel), List.mem_of_getElem? (i := 996) (by decide +kernel)⟩
theorem lw_p36 : lw_okq (⟨"UnnestPlansModel", "readsSteps", "()I"⟩, 44) := ⟨⟨by decide +kernel, by decide +kernel⟩, List.mem_of_getElem? (i := 802) (by decide +kernel), List.mem_of_getElem? (i := 999) (by decide +kernel), List.mem_of_getElem? (i := 1000) (by decide +kernel)⟩
theorem lw_p37 : lw_okq (⟨"UnnestPlansModel", "rowOf", "(III)I"⟩, 44) := ⟨⟨by decide +kernel, by decide +kernel⟩, List.mem_of_getElem? (i := 802) (by decide +kernel), List.mem_of_getElem? (i := 1013) (by decide +kernel), List.mem_of_getElem? (i := 1014) (by decide +kernel)⟩
theorem lw_p38 : lw_okq (⟨"UnnestPlansModel", "stepOf", "(II)I"⟩, 44) := ⟨⟨by decide +kernel, by decide +kernel⟩, List.mem_of_getElem? (i := 802) (by decide +kernel), List.mem_of_getElem? (i := 1021) (by decide +kernel), List.mem_of_getElem? (i := 1022) (by decide +kernel)⟩
theorem lw_p39 : lw_okq (⟨"UnnestPlansModel", "errorOf", "(I)I"⟩, 44) := ⟨⟨by decide +kernel, by decide +kernel⟩, List.mem_of_getElem? (i := 802) (by decide +kernel), List.mem_of_getElem? (i := 1033) (by decide +kernel), List.mem_of_getElem? (i := 1034) (by decide +kernel)⟩
theorem lw_p40 : lw_okq (⟨"UnnestPlansModel", "runsTold", "()V"⟩, 44) := ⟨⟨by decide +kernel, by decide +kernel⟩, List.mem_of_getElem? (i := 802) (by decide +kernel), List.mem_of_getElem? (i := 1037) (by decide +kernel), List.mem_of_getElem? (i := 1038) (by decide +kernel)⟩
theorem lw_p41 : lw_okq (⟨"UnnestPlansModel", "runs", "(I)V"⟩, 44) := ⟨⟨by decide +kernel, by decide +kernel⟩, List.mem_of_getElem? (i := 802) (by decide +kernel), List.mem_of_getElem? (i := 1041) (by decide +kernel), List.mem_of_getElem? (i := 1042) (by decide +kernel)⟩
theorem lw_p42 : lw_okq (⟨"UnnestPlansModel", "rowByRow", "()V"⟩, 44) := ⟨⟨by decide +kernel, by decide +kernel⟩, List.mem_of_getElem? (i := 802) (by decide +kernel), List.mem_of_getElem? (i := 1045) (by decide +kernel), List.mem_of_getElem? (i := 1046) (by decide +kernel)⟩
theorem lw_p43 : lw_okq (⟨"UnnestPlansModel", "begins", "(I)V"⟩, 44) := ⟨⟨by decide +kernel, by decide +kernel⟩, List.mem_of_getElem? (i := 802) (by decide +kernel), List.mem_of_getElem? (i := 1049) (by decide +kernel), List.mem_of_getElem? (i := 1050) (by decide +kernel)⟩
theorem lw_p44 : lw_okq (⟨"UnnestPlansModel", "opens", "(II)V"⟩, 44) := ⟨⟨by decide +kernel, by decide +kernel⟩, List.mem_of_getElem? (i := 802) (by decide +kernel), List.mem_of_getElem? (i := 1053) (by decide +kernel), List.mem_of_getElem? (i := 1054) (by decide +kernel)⟩
theorem lw_p45 : lw_okq (⟨"UnnestPlansModel", "logs", "(II)V"⟩, 44) := ⟨⟨by decide +kernel, by decide +kernel⟩, List.mem_of_getElem? (i := 802) (by decide +kernel), List.mem_of_getElem? (i := 1057) (by decide +kernel), List.mem_of_getElem? (i := 1058) (by decide +kernel)⟩
theorem lw_p46 : lw_okq (⟨"UnnestPlansModel", "asksFor", "(I)V"⟩, 44) := ⟨⟨by decide +kernel, by decide +kernel⟩, List.mem_of_getElem? (i := 802) (by decide +kernel), List.mem_of_getElem? (i := 1061) (by decide +kernel), List.mem_of_getElem? (i := 1062) (by decide +kernel)⟩
theorem lw_p47 : lw_okq (⟨"UnnestPlansModel", "comesOfInner", "()V"⟩, 44) := ⟨⟨by decide +kernel, by decide +kernel⟩, List.mem_of_getElem? (i := 802) (by decide +kernel), List.mem_of_getElem? (i := 1065) (by decide +kernel), List.mem_of_getElem? (i := 1066) (by decide +kernel)⟩
def lw_privs_3 : List (MethodName × Nat) := [(⟨"UnnestPlansModel", "reads", "()V"⟩, 44), (⟨"UnnestPlansModel", "readsTable", "(I)I"⟩, 44), (⟨"UnnestPlansModel", "valueAt", "(II)I"⟩, 44), (⟨"UnnestPlansModel", "byteAt", "(II)I"⟩, 44), (⟨"UnnestPlansModel", "readsSteps", "()I"⟩, 44), (⟨"UnnestPlansModel", "rowOf", "(III)I"⟩, 44), (⟨"UnnestPlansModel", "stepOf", "(II)I"⟩, 44), (⟨"UnnestPlansModel", "errorOf", "(I)I"⟩, 44), (⟨"UnnestPlansModel", "runsTold", "()V"⟩, 44), (⟨"UnnestPlansModel", "runs", "(I)V"⟩, 44), (⟨"UnnestPlansModel", "rowByRow", "()V"⟩, 44), (⟨"UnnestPlansModel", "begins", "(I)V"⟩, 44), (⟨"UnnestPlansModel", "opens", "(II)V"⟩, 44), (⟨"UnnestPlansModel", "logs", "(II)V"⟩, 44), (⟨"UnnestPlansModel", "asksFor", "(I)V"⟩, 44), (⟨"UnnestPlansModel", "comesOfInner", "()V"⟩, 44)]
theorem lw_r3 : ∀ q ∈ lw_privs_3, lw_okq q := List.forall_mem_cons.mpr ⟨lw_p32, List.forall_mem_cons.mpr ⟨lw_p33, List.forall_mem_cons.mpr ⟨lw_p34, List.forall_mem_cons.mpr ⟨lw_p35, List.forall_mem_cons.mpr ⟨lw_p36, List.forall_mem_cons.mpr ⟨lw_p37, List.forall_mem_cons.mpr ⟨lw_p38, List.forall_mem_cons.mpr ⟨lw_p39, List.forall_mem_cons.mpr ⟨lw_p40, List.forall_mem_cons.mpr ⟨lw_p41, List.forall_mem_cons.mpr ⟨lw_p42, List.forall_mem_cons.mpr ⟨lw_p43, List.forall_mem_cons.mpr ⟨lw_p44, List.forall_mem_cons.mpr ⟨lw_p45, List.forall_mem_cons.mpr ⟨lw_p46, List.forall_mem_cons.mpr ⟨lw_p47, fun _ h => absurd h List.not_mem_nil⟩⟩⟩⟩⟩⟩⟩⟩⟩⟩⟩⟩⟩⟩⟩⟩
theorem lw_p48 : lw_okq (⟨"UnnestPlansModel", "goThrough", "(IIII)V"⟩, 44) := ⟨⟨by decide +kernel, by decide +kernel⟩, List.mem_of_getElem? (i := 802) (by decide +kernel), List.mem_of_getElem? (i := 1069) (by decide +kernel), List.mem_of_getElem? (i := 1070) (by decide +kernel)⟩
theorem lw_p49 : lw_okq (⟨"UnnestPlansModel", "goes", "(IIIIII)V"⟩, 44) := ⟨⟨by decide +kernel, by decide +kernel⟩, List.mem_of_getElem? (i := 802) (by decide +kernel), List.mem_of_getElem? (i := 1073) (by decide +kernel), List.mem_of_getElem? (i := 1074) (by decide +kernel)⟩
theorem lw_p50 : lw_okq (⟨"UnnestPlansModel", "isNew", "(III)Z"⟩, 44) := ⟨⟨by decide +kernel, by decide +kernel⟩, List.mem_of_getElem? (i := 802) (by decide +kernel), List.mem_of_getElem? (i := 1080) (by decide +kernel), List.mem_of_getElem? (i := 1081) (by decide +kernel)⟩
theorem lw_p51 : lw_okq (⟨"UnnestPlansModel", "puts", "(III)V"⟩, 44) := ⟨⟨by decide +kernel, by decide +kernel⟩, List.mem_of_getElem? (i := 802) (by decide +kernel), List.mem_of_getElem? (i := 1084) (by decide +kernel), List.mem_of_getElem? (i := 1085) (by decide +kernel)⟩
theorem lw_p52 : lw_okq (⟨"UnnestPlansModel", "groups", "()V"⟩, 44) := ⟨⟨by decide +kernel, by decide +kernel⟩, List.mem_of_getElem? (i := 802) (by decide +kernel), List.mem_of_getElem? (i := 1088) (by decide +kernel), List.mem_of_getElem? (i := 1089) (by decide +kernel)⟩
theorem lw_p53 : lw_okq (⟨"UnnestPlansModel", "answerOf", "(II)I"⟩, 44) := ⟨⟨by decide +kernel, by decide +kernel⟩, List.mem_of_getElem? (i := 802) (by decide +kernel), List.mem_of_getElem? (i := 1092) (by decide +kernel), List.mem_of_getElem? (i := 1093) (by decide +kernel)⟩
theorem lw_p54 : lw_okq (⟨"UnnestPlansModel", "free", "()V"⟩, 44) := ⟨⟨by decide +kernel, by decide +kernel⟩, List.mem_of_getElem? (i := 802) (by decide +kernel), List.mem_of_getElem? (i := 1105) (by decide +kernel), List.mem_of_getElem? (i := 1106) (by decide +kernel)⟩
theorem lw_p55 : lw_okq (⟨"UnnestPlansModel", "findsDomain", "()V"⟩, 44) := ⟨⟨by decide +kernel, by decide +kernel⟩, List.mem_of_getElem? (i := 802) (by decide +kernel), List.mem_of_getElem? (i := 1109) (by decide +kernel), List.mem_of_getElem? (i := 1110) (by decide +kernel)⟩
theorem lw_p56 : lw_okq (⟨"UnnestPlansModel", "speaksNow", "()I"⟩, 44) := ⟨⟨by decide +kernel, by decide +kernel⟩, List.mem_of_getElem? (i := 802) (by decide +kernel), List.mem_of_getElem? (i := 1113) (by decide +kernel), List.mem_of_getElem? (i := 1114) (by decide +kernel)⟩
theorem lw_p57 : lw_okq (⟨"UnnestPlansModel", "isOfV", "()Z"⟩, 44) := ⟨⟨by decide +kernel, by decide +kernel⟩, List.mem_of_getElem? (i := 802) (by decide +kernel), List.mem_of_getElem? (i := 1117) (by decide +kernel), List.mem_of_getElem? (i := 1118) (by decide +kernel)⟩
theorem lw_p58 : lw_okq (⟨"UnnestPlansModel", "plans", "()V"⟩, 44) := ⟨⟨by decide +kernel, by decide +kernel⟩, List.mem_of_getElem? (i := 802) (by decide +kernel), List.mem_of_getElem? (i := 1121) (by decide +kernel), List.mem_of_getElem? (i := 1122) (by decide +kernel)⟩
theorem lw_p59 : lw_okq (⟨"UnnestPlansModel", "joinAt", "()I"⟩, 44) := ⟨⟨by decide +kernel, by decide +kernel⟩, List.mem_of_getElem? (i := 802) (by decide +kernel), List.mem_of_getElem? (i := 1125) (by decide +kernel), List.mem_of_getElem? (i := 1126) (by decide +kernel)⟩
theorem lw_p60 : lw_okq (⟨"UnnestPlansModel", "joins", "(Z)V"⟩, 44) := ⟨⟨by decide +kernel, by decide +kernel⟩, List.mem_of_getElem? (i := 802) (by decide +kernel), List.mem_of_getElem? (i := 1132) (by decide +kernel), List.mem_of_getElem? (i := 1133) (by decide +kernel)⟩
theorem lw_p61 : lw_okq (⟨"UnnestPlansModel", "comesIn", "()V"⟩, 44) := ⟨⟨by decide +kernel, by decide +kernel⟩, List.mem_of_getElem? (i := 802) (by decide +kernel), List.mem_of_getElem? (i := 1136) (by decide +kernel), List.mem_of_getElem? (i := 1137) (by decide +kernel)⟩
theorem lw_p62 : lw_okq (⟨"UnnestPlansModel", "does", "(I)V"⟩, 44) := ⟨⟨by decide +kernel, by decide +kernel⟩, List.mem_of_getElem? (i := 802) (by decide +kernel), List.mem_of_getElem? (i := 1140) (by decide +kernel), List.mem_of_getElem? (i := 1141) (by decide +kernel)⟩
theorem lw_p63 : lw_okq (⟨"UnnestPlansModel", "isLike", "(I)Z"⟩, 44) := ⟨⟨by decide +kernel, by decide +kernel⟩, List.mem_of_getElem? (i := 802) (by decide +kernel), List.mem_of_getElem? (i := 1144) (by decide +kernel), List.mem_of_getElem? (i := 1145) (by decide +kernel)⟩
def lw_privs_4 : List (MethodName × Nat) := [(⟨"UnnestPlansModel", "goThrough", "(IIII)V"⟩, 44), (⟨"UnnestPlansModel", "goes", "(IIIIII)V"⟩, 44), (⟨"UnnestPlansModel", "isNew", "(III)Z"⟩, 44), (⟨"UnnestPlansModel", "puts", "(III)V"⟩, 44), (⟨"UnnestPlansModel", "groups", "()V"⟩, 44), (⟨"UnnestPlansModel", "answerOf", "(II)I"⟩, 44), (⟨"UnnestPlansModel", "free", "()V"⟩, 44), (⟨"UnnestPlansModel", "findsDomain", "()V"⟩, 44), (⟨"UnnestPlansModel", "speaksNow", "()I"⟩, 44), (⟨"UnnestPlansModel", "isOfV", "()Z"⟩, 44), (⟨"UnnestPlansModel", "plans", "()V"⟩, 44), (⟨"UnnestPlansModel", "joinAt", "()I"⟩, 44), (⟨"UnnestPlansModel", "joins", "(Z)V"⟩, 44), (⟨"UnnestPlansModel", "comesIn", "()V"⟩, 44), (⟨"UnnestPlansModel", "does", "(I)V"⟩, 44), (⟨"UnnestPlansModel", "isLike", "(I)Z"⟩, 44)]
theorem lw_r4 : ∀ q ∈ lw_privs_4, lw_okq q := List.forall_mem_cons.mpr ⟨lw_p48, List.forall_mem_cons.mpr ⟨lw_p49, List.forall_mem_cons.mpr ⟨lw_p50, List.forall_mem_cons.mpr ⟨lw_p51, List.forall_mem_cons.mpr ⟨lw_p52, List.forall_mem_cons.mpr ⟨lw_p53, List.forall_mem_cons.mpr ⟨lw_p54, List.forall_mem_cons.mpr ⟨lw_p55, List.forall_mem_cons.mpr ⟨lw_p56, List.forall_mem_cons.mpr ⟨lw_p57, List.forall_mem_cons.mpr ⟨lw_p58, List.forall_mem_cons.mpr ⟨lw_p59, List.forall_mem_cons.mpr ⟨lw_p60, List.forall_mem_cons.mpr ⟨lw_p61, List.forall_mem_cons.mpr ⟨lw_p62, List.forall_mem_cons.mpr ⟨lw_p63, fun _ h => absurd h List.not_mem_nil⟩⟩⟩⟩⟩⟩⟩⟩⟩⟩⟩⟩⟩⟩⟩⟩
theorem lw_p64 : lw_okq (⟨"UnnestPlansModel", "answerFor", "(II)I"⟩, 44) := ⟨⟨by decide +kernel, by decide +kernel⟩, List.mem_of_getElem? (i := 802) (by decide +kernel), List.mem_of_getElem? (i := 1152) (by decide +kernel), List.mem_of_getElem? (i := 1153) (by decide +kernel)⟩
theorem lw_p65 : lw_okq (⟨"UnnestPlansModel", "answerNow", "(II)I"⟩, 44) := ⟨⟨by decide +kernel, by decide +kernel⟩, List.mem_of_getElem? (i := 802) (by decide +kernel), List.mem_of_getElem? (i := 1156) (by decide +kernel), List.mem_of_getElem? (i := 1157) (by decide +kernel)⟩
theorem lw_p66 : lw_okq (⟨"UnnestPlansModel", "sameOf", "()I"⟩, 44) := ⟨⟨by decide +kernel, by decide +kernel⟩, List.mem_of_getElem? (i := 802) (by decide +kernel), List.mem_of_getElem? (i := 1164) (by decide +kernel), List.mem_of_getElem? (i := 1165) (by decide +kernel)⟩
theorem lw_p67 : lw_okq (⟨"UnnestPlansModel", "totalOf", "()I"⟩, 44) := ⟨⟨by decide +kernel, by decide +kernel⟩, List.mem_of_getElem? (i := 802) (by decide +kernel), List.mem_of_getElem? (i := 1172) (by decide +kernel), List.mem_of_getElem? (i := 1173) (by decide +kernel)⟩
theorem lw_p68 : lw_okq (⟨"UnnestPlansModel", "speaksOf", "()I"⟩, 44) := ⟨⟨by decide +kernel, by decide +kernel⟩, List.mem_of_getElem? (i := 802) (by decide +kernel), List.mem_of_getElem? (i := 1184) (by decide +kernel), List.mem_of_getElem? (i := 1185) (by decide +kernel)⟩
theorem lw_p69 : lw_okq (⟨"UnnestPlansModel", "domainOf", "(II)I"⟩, 44) := ⟨⟨by decide +kernel, by decide +kernel⟩, List.mem_of_getElem? (i := 802) (by decide +kernel), List.mem_of_getElem? (i := 1192) (by decide +kernel), List.mem_of_getElem? (i := 1193) (by decide +kernel)⟩
theorem lw_p70 : lw_okq (⟨"UnnestPlansModel", "planOf", "(I)I"⟩, 44) := ⟨⟨by decide +kernel, by decide +kernel⟩, List.mem_of_getElem? (i := 802) (by decide +kernel), List.mem_of_getElem? (i := 1200) (by decide +kernel), List.mem_of_getElem? (i := 1201) (by decide +kernel)⟩
theorem lw_p71 : lw_okq (⟨"UnnestPlansModel", "costOf", "(II)I"⟩, 44) := ⟨⟨by decide +kernel, by decide +kernel⟩, List.mem_of_getElem? (i := 802) (by decide +kernel), List.mem_of_getElem? (i := 1208) (by decide +kernel), List.mem_of_getElem? (i := 1209) (by decide +kernel)⟩
theorem lw_p72 : lw_okq (⟨"UnnestPlansModel", "logOf", "(II)I"⟩, 44) := ⟨⟨by decide +kernel, by decide +kernel⟩, List.mem_of_getElem? (i := 802) (by decide +kernel), List.mem_of_getElem? (i := 1216) (by decide +kernel), List.mem_of_getElem? (i := 1217) (by decide +kernel)⟩
theorem lw_p73 : lw_okq (⟨"UnnestPlansModel", "spareOf", "()I"⟩, 44) := ⟨⟨by decide +kernel, by decide +kernel⟩, List.mem_of_getElem? (i := 802) (by decide +kernel), List.mem_of_getElem? (i := 1224) (by decide +kernel), List.mem_of_getElem? (i := 1225) (by decide +kernel)⟩
theorem lw_p74 : lw_okq (⟨"UnnestPlansModel", "lacks", "(III)I"⟩, 44) := ⟨⟨by decide +kernel, by decide +kernel⟩, List.mem_of_getElem? (i := 802) (by decide +kernel), List.mem_of_getElem? (i := 1240) (by decide +kernel), List.mem_of_getElem? (i := 1241) (by decide +kernel)⟩
theorem lw_p75 : lw_okq (⟨"UnnestPlansModel", "keep", "(III)V"⟩, 44) := ⟨⟨by decide +kernel, by decide +kernel⟩, List.mem_of_getElem? (i := 802) (by decide +kernel), List.mem_of_getElem? (i := 1244) (by decide +kernel), List.mem_of_getElem? (i := 1245) (by decide +kernel)⟩
theorem lw_p76 : lw_okq (⟨"UnnestPlansModel", "tellOf", "(I)I"⟩, 44) := ⟨⟨by decide +kernel, by decide +kernel⟩, List.mem_of_getElem? (i := 802) (by decide +kernel), List.mem_of_getElem? (i := 1265) (by decide +kernel), List.mem_of_getElem? (i := 1266) (by decide +kernel)⟩
theorem lw_p77 : lw_okq (⟨"UnnestPlansModel", "planDigest", "(JI)J"⟩, 44) := ⟨⟨by decide +kernel, by decide +kernel⟩, List.mem_of_getElem? (i := 802) (by decide +kernel), List.mem_of_getElem? (i := 1276) (by decide +kernel), List.mem_of_getElem? (i := 1277) (by decide +kernel)⟩
theorem lw_p78 : lw_okq (⟨"UnnestPlansModel", "answerDigest", "(JI)J"⟩, 44) := ⟨⟨by decide +kernel, by decide +kernel⟩, List.mem_of_getElem? (i := 802) (by decide +kernel), List.mem_of_getElem? (i := 1280) (by decide +kernel), List.mem_of_getElem? (i := 1281) (by decide +kernel)⟩
def lw_privs_5 : List (MethodName × Nat) := [(⟨"UnnestPlansModel", "answerFor", "(II)I"⟩, 44), (⟨"UnnestPlansModel", "answerNow", "(II)I"⟩, 44), (⟨"UnnestPlansModel", "sameOf", "()I"⟩, 44), (⟨"UnnestPlansModel", "totalOf", "()I"⟩, 44), (⟨"UnnestPlansModel", "speaksOf", "()I"⟩, 44), (⟨"UnnestPlansModel", "domainOf", "(II)I"⟩, 44), (⟨"UnnestPlansModel", "planOf", "(I)I"⟩, 44), (⟨"UnnestPlansModel", "costOf", "(II)I"⟩, 44), (⟨"UnnestPlansModel", "logOf", "(II)I"⟩, 44), (⟨"UnnestPlansModel", "spareOf", "()I"⟩, 44), (⟨"UnnestPlansModel", "lacks", "(III)I"⟩, 44), (⟨"UnnestPlansModel", "keep", "(III)V"⟩, 44), (⟨"UnnestPlansModel", "tellOf", "(I)I"⟩, 44), (⟨"UnnestPlansModel", "planDigest", "(JI)J"⟩, 44), (⟨"UnnestPlansModel", "answerDigest", "(JI)J"⟩, 44)]
theorem lw_r5 : ∀ q ∈ lw_privs_5, lw_okq q := List.forall_mem_cons.mpr ⟨lw_p64, List.forall_mem_cons.mpr ⟨lw_p65, List.forall_mem_cons.mpr ⟨lw_p66, List.forall_mem_cons.mpr ⟨lw_p67, List.forall_mem_cons.mpr ⟨lw_p68, List.forall_mem_cons.mpr ⟨lw_p69, List.forall_mem_cons.mpr ⟨lw_p70, List.forall_mem_cons.mpr ⟨lw_p71, List.forall_mem_cons.mpr ⟨lw_p72, List.forall_mem_cons.mpr ⟨lw_p73, List.forall_mem_cons.mpr ⟨lw_p74, List.forall_mem_cons.mpr ⟨lw_p75, List.forall_mem_cons.mpr ⟨lw_p76, List.forall_mem_cons.mpr ⟨lw_p77, List.forall_mem_cons.mpr ⟨lw_p78, fun _ h => absurd h List.not_mem_nil⟩⟩⟩⟩⟩⟩⟩⟩⟩⟩⟩⟩⟩⟩⟩
def lw_privs : List (MethodName × Nat) := lw_privs_1 ++ (lw_privs_2 ++ (lw_privs_3 ++ (lw_privs_4 ++ (lw_privs_5))))
def lw_tbl : List Cond := k2_sels lw_privs ++ tables_1
theorem lw_privs_ok : ∀ q ∈ lw_privs, lw_okq q := by
  show ∀ q ∈ lw_privs_1 ++ (lw_privs_2 ++ (lw_privs_3 ++ (lw_privs_4 ++ (lw_privs_5)))), lw_okq q
  exact List.forall_mem_append.mpr ⟨lw_r1, List.forall_mem_append.mpr ⟨lw_r2, List.forall_mem_append.mpr ⟨lw_r3, List.forall_mem_append.mpr ⟨lw_r4, lw_r5⟩⟩⟩⟩
/-- the streams that the claim lets the run draw from -/
abbrev lw_cs : List Choice := [Jvm.Choice.named "NaN.bits"]
theorem lw_bits : nanBits ∈ lw_cs := by first | decide | exact List.mem_cons_self | simp [lw_cs, nanBits]
end
section
def RX0 : String := "UnnestPlans$Course"
def TX0 : u_T := fun k => match k with
  | 0 => ("UnnestPlans$Course", "codes", "[I", true)
  | 1 => ("UnnestPlans$Course", "figures", "[I", true)
  | 2 => ("UnnestPlans$Course", "size", "I", false)
  | _ => ("UnnestPlans$Course", "joinAt", "I", false)
def tyX0 : Nat → FieldType := fun k => match k with
  | 0 => .array .int
  | 1 => .array .int
  | 2 => .int
  | _ => .int
abbrev wsX00 : List Cond := u_ws RX0 TX0 4
theorem nmX0 : ∀ a, a < 4 → ∀ b, b < 4 → a ≠ b → (TX0 a).2.1 ≠ (TX0 b).2.1 := by decide +kernel
theorem tyX0_ok : ∀ k, k < 4 → parseFieldDescriptor (TX0 k).2.2.1 = some (tyX0 k) := by decide +kernel
abbrev cX0_init : ByteArray := prog_2_method_1_code
def yX0_init : MethodName := ⟨RX0, "<init>", "()V"⟩
abbrev cX0_layRowByRow : ByteArray := prog_2_method_2_code
def yX0_layRowByRow : MethodName := ⟨RX0, "layRowByRow", "(LUnnestPlans$Steps;I)V"⟩
abbrev cX0_layFree : ByteArray := prog_2_method_3_code
def yX0_layFree : MethodName := ⟨RX0, "layFree", "(LUnnestPlans$Steps;I)V"⟩
abbrev cX0_codeAt : ByteArray := prog_2_method_4_code
def yX0_codeAt : MethodName := ⟨RX0, "codeAt", "(I)I"⟩
abbrev cX0_begin : ByteArray := prog_2_method_5_code
def yX0_begin : MethodName := ⟨RX0, "begin", "()V"⟩
abbrev cX0_addJoin : ByteArray := prog_2_method_6_code
def yX0_addJoin : MethodName := ⟨RX0, "addJoin", "(I)V"⟩
abbrev cX0_add : ByteArray := prog_2_method_7_code
def yX0_add : MethodName := ⟨RX0, "add", "(II)V"⟩
def RX1 : String := "UnnestPlans$Kept"
def TX1 : u_T := fun k => match k with
  | 0 => ("UnnestPlans$Kept", "rows", "[[I", true)
  | 1 => ("UnnestPlans$Kept", "sizes", "[I", true)
  | _ => ("UnnestPlans$Kept", "tallies", "[LUnnestPlans$Tally;", true)
def tyX1 : Nat → FieldType := fun k => match k with
  | 0 => .array (.array .int)
  | 1 => .array .int
  | _ => .array (.object "UnnestPlans$Tally")
abbrev wsX10 : List Cond := u_ws RX1 TX1 3
theorem nmX1 : ∀ a, a < 3 → ∀ b, b < 3 → a ≠ b → (TX1 a).2.1 ≠ (TX1 b).2.1 := by decide +kernel
theorem tyX1_ok : ∀ k, k < 3 → parseFieldDescriptor (TX1 k).2.2.1 = some (tyX1 k) := by decide +kernel
abbrev cX1_init : ByteArray := prog_3_method_1_code
def yX1_init : MethodName := ⟨RX1, "<init>", "()V"⟩
abbrev cX1_clear : ByteArray := prog_3_method_2_code
def yX1_clear : MethodName := ⟨RX1, "clear", "()V"⟩
abbrev cX1_isNew : ByteArray := prog_3_method_3_code
def yX1_isNew : MethodName := ⟨RX1, "isNew", "(II)Z"⟩
abbrev cX1_addToGroup : ByteArray := prog_3_method_4_code
def yX1_addToGroup : MethodName := ⟨RX1, "addToGroup", "(II)V"⟩
def RX2 : String := "UnnestPlans$Pairs"
def TX2 : u_T := fun k => match k with
  | 0 => ("UnnestPlans$Pairs", "keys", "[I", true)
  | 1 => ("UnnestPlans$Pairs", "values", "[I", true)
  | 2 => ("UnnestPlans$Pairs", "places", "[I", true)
  | _ => ("UnnestPlans$Pairs", "size", "I", false)
def tyX2 : Nat → FieldType := fun k => match k with
  | 0 => .array .int
  | 1 => .array .int
  | 2 => .array .int
  | _ => .int
abbrev wsX20 : List Cond := u_ws RX2 TX2 4
theorem nmX2 : ∀ a, a < 4 → ∀ b, b < 4 → a ≠ b → (TX2 a).2.1 ≠ (TX2 b).2.1 := by decide +kernel
theorem tyX2_ok : ∀ k, k < 4 → parseFieldDescriptor (TX2 k).2.2.1 = some (tyX2 k) := by decide +kernel
abbrev cX2_init : ByteArray := prog_4_method_1_code
def yX2_init : MethodName := ⟨RX2, "<init>", "()V"⟩
abbrev cX2_setOne : ByteArray := prog_4_method_2_code
def yX2_setOne : MethodName := ⟨RX2, "setOne", "(II)V"⟩
abbrev cX2_setNone : ByteArray := prog_4_method_3_code
def yX2_setNone : MethodName := ⟨RX2, "setNone", "()V"⟩
abbrev cX2_gather : ByteArray := prog_4_method_4_code
def yX2_gather : MethodName := ⟨RX2, "gather", "(LUnnestPlans$Table;Z)V"⟩
abbrev cX2_keyAt : ByteArray := prog_4_method_5_code
def yX2_keyAt : MethodName := ⟨RX2, "keyAt", "(I)I"⟩
abbrev cX2_valueAt : ByteArray := prog_4_method_6_code
def yX2_valueAt : MethodName := ⟨RX2, "valueAt", "(I)I"⟩
abbrev cX2_placeOf : ByteArray := prog_4_method_7_code
def yX2_placeOf : MethodName := ⟨RX2, "placeOf", "(II)I"⟩
def RX3 : String := "UnnestPlans$Question"
def TX3 : u_T := fun k => match k with
  | 0 => ("UnnestPlans$Question", "outer", "LUnnestPlans$Table;", true)
  | 1 => ("UnnestPlans$Question", "inner", "LUnnestPlans$Table;", true)
  | _ => ("UnnestPlans$Question", "steps", "LUnnestPlans$Steps;", true)
def tyX3 : Nat → FieldType := fun k => match k with
  | 0 => .object "UnnestPlans$Table"
  | 1 => .object "UnnestPlans$Table"
  | _ => .object "UnnestPlans$Steps"
abbrev wsX30 : List Cond := u_ws RX3 TX3 3
theorem nmX3 : ∀ a, a < 3 → ∀ b, b < 3 → a ≠ b → (TX3 a).2.1 ≠ (TX3 b).2.1 := by decide +kernel
theorem tyX3_ok : ∀ k, k < 3 → parseFieldDescriptor (TX3 k).2.2.1 = some (tyX3 k) := by decide +kernel
abbrev cX3_init : ByteArray := prog_5_method_1_code
def yX3_init : MethodName := ⟨RX3, "<init>", "()V"⟩
def RX4 : String := "UnnestPlans$Report"
def TX4 : u_T := fun k => match k with
  | 0 => ("UnnestPlans$Report", "answers", "[I", true)
  | 1 => ("UnnestPlans$Report", "means", "[F", true)
  | 2 => ("UnnestPlans$Report", "logged", "[I", true)
  | 3 => ("UnnestPlans$Report", "logSize", "I", false)
  | 4 => ("UnnestPlans$Report", "error", "I", false)
  | 5 => ("UnnestPlans$Report", "read", "I", false)
  | 6 => ("UnnestPlans$Report", "handedOn", "I", false)
  | 7 => ("UnnestPlans$Report", "opened", "I", false)
  | 8 => ("UnnestPlans$Report", "open", "I", false)
  | _ => ("UnnestPlans$Report", "mostOpen", "I", false)
def tyX4 : Nat → FieldType := fun k => match k with
  | 0 => .array .int
  | 1 => .array .float
  | 2 => .array .int
  | 3 => .int
  | 4 => .int
  | 5 => .int
  | 6 => .int
  | 7 => .int
  | 8 => .int
  | _ => .int
abbrev wsX40 : List Cond := u_ws RX4 TX4 10
theorem nmX4 : ∀ a, a < 10 → ∀ b, b < 10 → a ≠ b → (TX4 a).2.1 ≠ (TX4 b).2.1 := by decide +kernel
theorem tyX4_ok : ∀ k, k < 10 → parseFieldDescriptor (TX4 k).2.2.1 = some (tyX4 k) := by decide +kernel
abbrev cX4_init : ByteArray := prog_6_method_1_code
def yX4_init : MethodName := ⟨RX4, "<init>", "()V"⟩
abbrev cX4_clear : ByteArray := prog_6_method_2_code
def yX4_clear : MethodName := ⟨RX4, "clear", "()V"⟩
abbrev cX4_openAll : ByteArray := prog_6_method_3_code
def yX4_openAll : MethodName := ⟨RX4, "openAll", "(LUnnestPlans$Course;)V"⟩
abbrev cX4_shutAll : ByteArray := prog_6_method_4_code
def yX4_shutAll : MethodName := ⟨RX4, "shutAll", "(LUnnestPlans$Course;)V"⟩
abbrev cX4_tell : ByteArray := prog_6_method_5_code
def yX4_tell : MethodName := ⟨RX4, "tell", "(I)V"⟩
abbrev cX4_settle : ByteArray := prog_6_method_6_code
def yX4_settle : MethodName := ⟨RX4, "settle", "(ILUnnestPlans$Tally;II)V"⟩
abbrev cX4_answerOf : ByteArray := prog_6_method_7_code
def yX4_answerOf : MethodName := ⟨RX4, "answerOf", "(I)I"⟩
abbrev cX4_loggedAt : ByteArray := prog_6_method_8_code
def yX4_loggedAt : MethodName := ⟨RX4, "loggedAt", "(I)I"⟩
abbrev cX4_costOf : ByteArray := prog_6_method_9_code
def yX4_costOf : MethodName := ⟨RX4, "costOf", "(I)I"⟩
abbrev cX4_isLike : ByteArray := prog_6_method_10_code
def yX4_isLike : MethodName := ⟨RX4, "isLike", "(LUnnestPlans$Report;I)Z"⟩
abbrev cX4_together : ByteArray := prog_6_method_11_code
def yX4_together : MethodName := ⟨RX4, "together", "(II)I"⟩
def RX5 : String := "UnnestPlans$Run"
def TX5 : u_T := fun k => match k with
  | 0 => ("UnnestPlans$Run", "course", "LUnnestPlans$Course;", true)
  | 1 => ("UnnestPlans$Run", "pairs", "LUnnestPlans$Pairs;", true)
  | 2 => ("UnnestPlans$Run", "report", "LUnnestPlans$Report;", true)
  | 3 => ("UnnestPlans$Run", "kept", "LUnnestPlans$Kept;", true)
  | 4 => ("UnnestPlans$Run", "wanted", "I", false)
  | _ => ("UnnestPlans$Run", "arrived", "I", false)
def tyX5 : Nat → FieldType := fun k => match k with
  | 0 => .object "UnnestPlans$Course"
  | 1 => .object "UnnestPlans$Pairs"
  | 2 => .object "UnnestPlans$Report"
  | 3 => .object "UnnestPlans$Kept"
  | 4 => .int
  | _ => .int
abbrev wsX50 : List Cond := u_ws RX5 TX5 6
theorem nmX5 : ∀ a, a < 6 → ∀ b, b < 6 → a ≠ b → (TX5 a).2.1 ≠ (TX5 b).2.1 := by decide +kernel
theorem tyX5_ok : ∀ k, k < 6 → parseFieldDescriptor (TX5 k).2.2.1 = some (tyX5 k) := by decide +kernel
abbrev cX5_init : ByteArray := prog_7_method_1_code
def yX5_init : MethodName := ⟨RX5, "<init>", "(LUnnestPlans$Kept;)V"⟩
abbrev cX5_askRowByRow : ByteArray := prog_7_method_2_code
def yX5_askRowByRow : MethodName := ⟨RX5, "askRowByRow", "(LUnnestPlans$Question;II)V"⟩
abbrev cX5_askFree : ByteArray := prog_7_method_3_code
def yX5_askFree : MethodName := ⟨RX5, "askFree", "(LUnnestPlans$Question;I)V"⟩
abbrev cX5_begin : ByteArray := prog_7_method_4_code
def yX5_begin : MethodName := ⟨RX5, "begin", "()V"⟩
abbrev cX5_readInner : ByteArray := prog_7_method_5_code
def yX5_readInner : MethodName := ⟨RX5, "readInner", "(LUnnestPlans$Table;)V"⟩
abbrev cX5_handOnKept : ByteArray := prog_7_method_6_code
def yX5_handOnKept : MethodName := ⟨RX5, "handOnKept", "()V"⟩
abbrev cX5_feed : ByteArray := prog_7_method_7_code
def yX5_feed : MethodName := ⟨RX5, "feed", "(II)V"⟩
abbrev cX5_joins : ByteArray := prog_7_method_8_code
def yX5_joins : MethodName := ⟨RX5, "joins", "(II)Z"⟩
abbrev cX5_pass : ByteArray := prog_7_method_9_code
def yX5_pass : MethodName := ⟨RX5, "pass", "(III)I"⟩
abbrev cX5_through : ByteArray := prog_7_method_10_code
def yX5_through : MethodName := ⟨RX5, "through", "(II)I"⟩
abbrev cX5_arrive : ByteArray := prog_7_method_11_code
def yX5_arrive : MethodName := ⟨RX5, "arrive", "(I)V"⟩
abbrev cX5_packed : ByteArray := prog_7_method_12_code
def yX5_packed : MethodName := ⟨RX5, "packed", "(III)I"⟩
abbrev cX5_keyOf : ByteArray := prog_7_method_13_code
def yX5_keyOf : MethodName := ⟨RX5, "keyOf", "(I)I"⟩
abbrev cX5_valueOf : ByteArray := prog_7_method_14_code
def yX5_valueOf : MethodName := ⟨RX5, "valueOf", "(I)I"⟩
def RX6 : String := "UnnestPlans$Sheet"
def TX6 : u_T := fun k => match k with
  | 0 => ("UnnestPlans$Sheet", "items", "[I", true)
  | 1 => ("UnnestPlans$Sheet", "form", "I", false)
  | _ => ("UnnestPlans$Sheet", "size", "I", false)
def tyX6 : Nat → FieldType := fun k => match k with
  | 0 => .array .int
  | 1 => .int
  | _ => .int
abbrev wsX60 : List Cond := u_ws RX6 TX6 3
theorem nmX6 : ∀ a, a < 3 → ∀ b, b < 3 → a ≠ b → (TX6 a).2.1 ≠ (TX6 b).2.1 := by decide +kernel
theorem tyX6_ok : ∀ k, k < 3 → parseFieldDescriptor (TX6 k).2.2.1 = some (tyX6 k) := by decide +kernel
abbrev cX6_init : ByteArray := prog_8_method_1_code
def yX6_init : MethodName := ⟨RX6, "<init>", "()V"⟩
abbrev cX6_isLost : ByteArray := prog_8_method_2_code
def yX6_isLost : MethodName := ⟨RX6, "isLost", "()Z"⟩
abbrev cX6_forget : ByteArray := prog_8_method_3_code
def yX6_forget : MethodName := ⟨RX6, "forget", "()V"⟩
abbrev cX6_renew : ByteArray := prog_8_method_4_code
def yX6_renew : MethodName := ⟨RX6, "renew", "(II)V"⟩
abbrev cX6_findingAt : ByteArray := prog_8_method_5_code
def yX6_findingAt : MethodName := ⟨RX6, "findingAt", "(II)I"⟩
abbrev cX6_hasRange : ByteArray := prog_8_method_6_code
def yX6_hasRange : MethodName := ⟨RX6, "hasRange", "(II)Z"⟩
abbrev cX6_assign : ByteArray := prog_8_method_7_code
def yX6_assign : MethodName := ⟨RX6, "assign", "(II)V"⟩
def RX7 : String := "UnnestPlans$Steps"
def TX7 : u_T := fun k => match k with
  | 0 => ("UnnestPlans$Steps", "codes", "[I", true)
  | 1 => ("UnnestPlans$Steps", "figures", "[I", true)
  | 2 => ("UnnestPlans$Steps", "size", "I", false)
  | _ => ("UnnestPlans$Steps", "fault", "I", false)
def tyX7 : Nat → FieldType := fun k => match k with
  | 0 => .array .int
  | 1 => .array .int
  | 2 => .int
  | _ => .int
abbrev wsX70 : List Cond := u_ws RX7 TX7 4
theorem nmX7 : ∀ a, a < 4 → ∀ b, b < 4 → a ≠ b → (TX7 a).2.1 ≠ (TX7 b).2.1 := by decide +kernel
theorem tyX7_ok : ∀ k, k < 4 → parseFieldDescriptor (TX7 k).2.2.1 = some (tyX7 k) := by decide +kernel
abbrev cX7_init : ByteArray := prog_9_method_1_code
def yX7_init : MethodName := ⟨RX7, "<init>", "()V"⟩
abbrev cX7_parse : ByteArray := prog_9_method_2_code
def yX7_parse : MethodName := ⟨RX7, "parse", "(LUnnestPlans$Text;)V"⟩
abbrev cX7_add : ByteArray := prog_9_method_3_code
def yX7_add : MethodName := ⟨RX7, "add", "(II)V"⟩
abbrev cX7_codeOf : ByteArray := prog_9_method_4_code
def yX7_codeOf : MethodName := ⟨RX7, "codeOf", "(I)I"⟩
abbrev cX7_speaksAt : ByteArray := prog_9_method_5_code
def yX7_speaksAt : MethodName := ⟨RX7, "speaksAt", "(I)Z"⟩
abbrev cX7_speakingBits : ByteArray := prog_9_method_6_code
def yX7_speakingBits : MethodName := ⟨RX7, "speakingBits", "()I"⟩
abbrev cX7_firstSpeaking : ByteArray := prog_9_method_7_code
def yX7_firstSpeaking : MethodName := ⟨RX7, "firstSpeaking", "()I"⟩
abbrev cX7_hasUnion : ByteArray := prog_9_method_8_code
def yX7_hasUnion : MethodName := ⟨RX7, "hasUnion", "()Z"⟩
def RX8 : String := "UnnestPlans$Table"
def TX8 : u_T := fun k => match k with
  | 0 => ("UnnestPlans$Table", "keys", "[I", true)
  | 1 => ("UnnestPlans$Table", "values", "[I", true)
  | 2 => ("UnnestPlans$Table", "size", "I", false)
  | _ => ("UnnestPlans$Table", "fault", "I", false)
def tyX8 : Nat → FieldType := fun k => match k with
  | 0 => .array .int
  | 1 => .array .int
  | 2 => .int
  | _ => .int
abbrev wsX80 : List Cond := u_ws RX8 TX8 4
theorem nmX8 : ∀ a, a < 4 → ∀ b, b < 4 → a ≠ b → (TX8 a).2.1 ≠ (TX8 b).2.1 := by decide +kernel
theorem tyX8_ok : ∀ k, k < 4 → parseFieldDescriptor (TX8 k).2.2.1 = some (tyX8 k) := by decide +kernel
abbrev cX8_init : ByteArray := prog_10_method_1_code
def yX8_init : MethodName := ⟨RX8, "<init>", "()V"⟩
abbrev cX8_parse : ByteArray := prog_10_method_2_code
def yX8_parse : MethodName := ⟨RX8, "parse", "(LUnnestPlans$Text;)V"⟩
abbrev cX8_firstWrong : ByteArray := prog_10_method_3_code
def yX8_firstWrong : MethodName := ⟨RX8, "firstWrong", "(LUnnestPlans$Text;)I"⟩
abbrev cX8_valueOf : ByteArray := prog_10_method_4_code
def yX8_valueOf : MethodName := ⟨RX8, "valueOf", "(I)I"⟩
def RX9 : String := "UnnestPlans$Tally"
def TX9 : u_T := fun k => match k with
  | 0 => ("UnnestPlans$Tally", "rows", "I", false)
  | 1 => ("UnnestPlans$Tally", "present", "I", false)
  | 2 => ("UnnestPlans$Tally", "sum", "I", false)
  | 3 => ("UnnestPlans$Tally", "least", "I", false)
  | 4 => ("UnnestPlans$Tally", "greatest", "I", false)
  | _ => ("UnnestPlans$Tally", "matched", "Z", false)
def tyX9 : Nat → FieldType := fun k => match k with
  | 0 => .int
  | 1 => .int
  | 2 => .int
  | 3 => .int
  | 4 => .int
  | _ => .boolean
abbrev wsX90 : List Cond := u_ws RX9 TX9 6
theorem nmX9 : ∀ a, a < 6 → ∀ b, b < 6 → a ≠ b → (TX9 a).2.1 ≠ (TX9 b).2.1 := by decide +kernel
theorem tyX9_ok : ∀ k, k < 6 → parseFieldDescriptor (TX9 k).2.2.1 = some (tyX9 k) := by decide +kernel
abbrev cX9_init : ByteArray := prog_11_method_1_code
def yX9_init : MethodName := ⟨RX9, "<init>", "()V"⟩
abbrev cX9_clear : ByteArray := prog_11_method_2_code
def yX9_clear : MethodName := ⟨RX9, "clear", "()V"⟩
abbrev cX9_take : ByteArray := prog_11_method_3_code
def yX9_take : MethodName := ⟨RX9, "take", "(II)V"⟩
abbrev cX9_isError : ByteArray := prog_11_method_4_code
def yX9_isError : MethodName := ⟨RX9, "isError", "(I)Z"⟩
abbrev cX9_mean : ByteArray := prog_11_method_5_code
def yX9_mean : MethodName := ⟨RX9, "mean", "()F"⟩
abbrev cX9_outcome : ByteArray := prog_11_method_6_code
def yX9_outcome : MethodName := ⟨RX9, "outcome", "(II)I"⟩
abbrev cX9_isIn : ByteArray := prog_11_method_7_code
def yX9_isIn : MethodName := ⟨RX9, "isIn", "(I)I"⟩
def RX10 : String := "UnnestPlans$Text"
def TX10 : u_T := fun k => match k with
  | 0 => ("UnnestPlans$Text", "bytes", "[I", true)
  | _ => ("UnnestPlans$Text", "size", "I", false)
def tyX10 : Nat → FieldType := fun k => match k with
  | 0 => .array .int
  | _ => .int
abbrev wsX100 : List Cond := u_ws RX10 TX10 2
theorem nmX10 : ∀ a, a < 2 → ∀ b, b < 2 → a ≠ b → (TX10 a).2.1 ≠ (TX10 b).2.1 := by decide +kernel
theorem tyX10_ok : ∀ k, k < 2 → parseFieldDescriptor (TX10 k).2.2.1 = some (tyX10 k) := by decide +kernel
abbrev cX10_init : ByteArray := prog_12_method_1_code
def yX10_init : MethodName := ⟨RX10, "<init>", "(I)V"⟩
abbrev cX10_append : ByteArray := prog_12_method_2_code
def yX10_append : MethodName := ⟨RX10, "append", "(I)Z"⟩
abbrev cX10_appendFrom : ByteArray := prog_12_method_3_code
def yX10_appendFrom : MethodName := ⟨RX10, "appendFrom", "(LUnnestPlans$Sheet;)I"⟩
def RX11 : String := "UnnestPlans"
def TX11 : u_T := fun k => match k with
  | 0 => ("UnnestPlans", "texts", "[LUnnestPlans$Text;", true)
  | 1 => ("UnnestPlans", "sheets", "[LUnnestPlans$Sheet;", true)
  | 2 => ("UnnestPlans", "question", "LUnnestPlans$Question;", true)
  | 3 => ("UnnestPlans", "byRow", "LUnnestPlans$Run;", true)
  | 4 => ("UnnestPlans", "byFree", "LUnnestPlans$Run;", true)
  | 5 => ("UnnestPlans", "tried", "LUnnestPlans$Run;", true)
  | 6 => ("UnnestPlans", "end", "I", false)
  | 7 => ("UnnestPlans", "finding", "I", false)
  | _ => ("UnnestPlans", "stale", "Z", false)
def tyX11 : Nat → FieldType := fun k => match k with
  | 0 => .array (.object "UnnestPlans$Text")
  | 1 => .array (.object "UnnestPlans$Sheet")
  | 2 => .object "UnnestPlans$Question"
  | 3 => .object "UnnestPlans$Run"
  | 4 => .object "UnnestPlans$Run"
  | 5 => .object "UnnestPlans$Run"
  | 6 => .int
  | 7 => .int
  | _ => .boolean
abbrev wsX110 : List Cond := u_ws RX11 TX11 9
theorem nmX11 : ∀ a, a < 9 → ∀ b, b < 9 → a ≠ b → (TX11 a).2.1 ≠ (TX11 b).2.1 := by decide +kernel
theorem tyX11_ok : ∀ k, k < 9 → parseFieldDescriptor (TX11 k).2.2.1 = some (tyX11 k) := by decide +kernel
abbrev cX11_init : ByteArray := prog_1_method_1_code
def yX11_init : MethodName := ⟨RX11, "<init>", "()V"⟩
abbrev cX11_type : ByteArray := prog_1_method_2_code
def yX11_type : MethodName := ⟨RX11, "type", "(II)I"⟩
abbrev cX11_wipe : ByteArray := prog_1_method_3_code
def yX11_wipe : MethodName := ⟨RX11, "wipe", "(I)I"⟩
abbrev cX11_undo : ByteArray := prog_1_method_4_code
def yX11_undo : MethodName := ⟨RX11, "undo", "(I)I"⟩
abbrev cX11_fault : ByteArray := prog_1_method_5_code
def yX11_fault : MethodName := ⟨RX11, "fault", "(I)I"⟩
abbrev cX11_row : ByteArray := prog_1_method_6_code
def yX11_row : MethodName := ⟨RX11, "row", "(III)I"⟩
abbrev cX11_step : ByteArray := prog_1_method_7_code
def yX11_step : MethodName := ⟨RX11, "step", "(II)I"⟩
abbrev cX11_end : ByteArray := prog_1_method_8_code
def yX11_end : MethodName := ⟨RX11, "end", "(I)I"⟩
abbrev cX11_error : ByteArray := prog_1_method_9_code
def yX11_error : MethodName := ⟨RX11, "error", "(I)I"⟩
abbrev cX11_answer : ByteArray := prog_1_method_10_code
def yX11_answer : MethodName := ⟨RX11, "answer", "(II)I"⟩
abbrev cX11_same : ByteArray := prog_1_method_11_code
def yX11_same : MethodName := ⟨RX11, "same", "()I"⟩
abbrev cX11_total : ByteArray := prog_1_method_12_code
def yX11_total : MethodName := ⟨RX11, "total", "()I"⟩
abbrev cX11_speaks : ByteArray := prog_1_method_13_code
def yX11_speaks : MethodName := ⟨RX11, "speaks", "()I"⟩
abbrev cX11_domain : ByteArray := prog_1_method_14_code
def yX11_domain : MethodName := ⟨RX11, "domain", "(II)I"⟩
abbrev cX11_plan : ByteArray := prog_1_method_15_code
def yX11_plan : MethodName := ⟨RX11, "plan", "(I)I"⟩
abbrev cX11_cost : ByteArray := prog_1_method_16_code
def yX11_cost : MethodName := ⟨RX11, "cost", "(II)I"⟩
abbrev cX11_log : ByteArray := prog_1_method_17_code
def yX11_log : MethodName := ⟨RX11, "log", "(II)I"⟩
abbrev cX11_spare : ByteArray := prog_1_method_18_code
def yX11_spare : MethodName := ⟨RX11, "spare", "()I"⟩
abbrev cX11_sheet : ByteArray := prog_1_method_19_code
def yX11_sheet : MethodName := ⟨RX11, "sheet", "(III)I"⟩
abbrev cX11_lose : ByteArray := prog_1_method_20_code
def yX11_lose : MethodName := ⟨RX11, "lose", "(I)I"⟩
abbrev cX11_put : ByteArray := prog_1_method_21_code
def yX11_put : MethodName := ⟨RX11, "put", "(IIII)I"⟩
abbrev cX11_get : ByteArray := prog_1_method_22_code
def yX11_get : MethodName := ⟨RX11, "get", "(III)I"⟩
abbrev cX11_copy : ByteArray := prog_1_method_23_code
def yX11_copy : MethodName := ⟨RX11, "copy", "(IIIII)I"⟩
abbrev cX11_write : ByteArray := prog_1_method_24_code
def yX11_write : MethodName := ⟨RX11, "write", "(II)I"⟩
abbrev cX11_read : ByteArray := prog_1_method_25_code
def yX11_read : MethodName := ⟨RX11, "read", "(II)I"⟩
abbrev cX11_count : ByteArray := prog_1_method_26_code
def yX11_count : MethodName := ⟨RX11, "count", "(I)I"⟩
abbrev cX11_digest : ByteArray := prog_1_method_27_code
def yX11_digest : MethodName := ⟨RX11, "digest", "()J"⟩
abbrev cX11_within : ByteArray := prog_1_method_28_code
def yX11_within : MethodName := ⟨RX11, "within", "(II)Z"⟩
abbrev cX11_isByte : ByteArray := prog_1_method_29_code
def yX11_isByte : MethodName := ⟨RX11, "isByte", "(I)Z"⟩
abbrev cX11_isPlan : ByteArray := prog_1_method_30_code
def yX11_isPlan : MethodName := ⟨RX11, "isPlan", "(I)Z"⟩
abbrev cX11_runOf : ByteArray := prog_1_method_31_code
def yX11_runOf : MethodName := ⟨RX11, "runOf", "(I)LUnnestPlans$Run;"⟩
abbrev cX11_tableOf : ByteArray := prog_1_method_32_code
def yX11_tableOf : MethodName := ⟨RX11, "tableOf", "(I)LUnnestPlans$Table;"⟩
abbrev cX11_hosts : ByteArray := prog_1_method_33_code
def yX11_hosts : MethodName := ⟨RX11, "hosts", "()I"⟩
abbrev cX11_found : ByteArray := prog_1_method_34_code
def yX11_found : MethodName := ⟨RX11, "found", "(I)I"⟩
abbrev cX11_understand : ByteArray := prog_1_method_35_code
def yX11_understand : MethodName := ⟨RX11, "understand", "(I)V"⟩
abbrev cX11_refresh : ByteArray := prog_1_method_36_code
def yX11_refresh : MethodName := ⟨RX11, "refresh", "()V"⟩
abbrev cX11_sameBit : ByteArray := prog_1_method_37_code
def yX11_sameBit : MethodName := ⟨RX11, "sameBit", "()I"⟩
abbrev cX11_pairPart : ByteArray := prog_1_method_38_code
def yX11_pairPart : MethodName := ⟨RX11, "pairPart", "(II)I"⟩
abbrev cX11_spareBits : ByteArray := prog_1_method_39_code
def yX11_spareBits : MethodName := ⟨RX11, "spareBits", "()I"⟩
abbrev cX11_counted : ByteArray := prog_1_method_40_code
def yX11_counted : MethodName := ⟨RX11, "counted", "(I)I"⟩
abbrev cX11_mix : ByteArray := prog_1_method_41_code
def yX11_mix : MethodName := ⟨RX11, "mix", "(JI)J"⟩
abbrev cX11_mixTexts : ByteArray := prog_1_method_42_code
def yX11_mixTexts : MethodName := ⟨RX11, "mixTexts", "(J)J"⟩
abbrev cX11_mixReport : ByteArray := prog_1_method_43_code
def yX11_mixReport : MethodName := ⟨RX11, "mixReport", "(JLUnnestPlans$Report;)J"⟩
abbrev cX11_mixAnswers : ByteArray := prog_1_method_44_code
def yX11_mixAnswers : MethodName := ⟨RX11, "mixAnswers", "(JLUnnestPlans$Report;)J"⟩
abbrev cX11_mixEnds : ByteArray := prog_1_method_45_code
def yX11_mixEnds : MethodName := ⟨RX11, "mixEnds", "(J)J"⟩
abbrev cX11_endSpeaks : ByteArray := prog_1_method_46_code
def yX11_endSpeaks : MethodName := ⟨RX11, "endSpeaks", "(I)Z"⟩
abbrev cX11_isFigure : ByteArray := prog_1_method_47_code
def yX11_isFigure : MethodName := ⟨RX11, "isFigure", "(I)Z"⟩
abbrev cX11_bitsOf : ByteArray := prog_1_method_48_code
def yX11_bitsOf : MethodName := ⟨RX11, "bitsOf", "(F)I"⟩
def RX12 : String := "UnnestPlansModel"
def TX12 : u_T := fun k => match k with
  | 0 => ("UnnestPlansModel", "typed", "[I", true)
  | 1 => ("UnnestPlansModel", "texts", "[I", true)
  | 2 => ("UnnestPlansModel", "faults", "[I", true)
  | 3 => ("UnnestPlansModel", "rows", "[I", true)
  | 4 => ("UnnestPlansModel", "ks", "[I", true)
  | 5 => ("UnnestPlansModel", "vs", "[I", true)
  | 6 => ("UnnestPlansModel", "stepsTold", "I", false)
  | 7 => ("UnnestPlansModel", "kinds", "[I", true)
  | 8 => ("UnnestPlansModel", "figures", "[I", true)
  | 9 => ("UnnestPlansModel", "endTold", "I", false)
  | 10 => ("UnnestPlansModel", "endNow", "I", false)
  | 11 => ("UnnestPlansModel", "without", "I", false)
  | 12 => ("UnnestPlansModel", "errorAt", "[I", true)
  | 13 => ("UnnestPlansModel", "answers", "[I", true)
  | 14 => ("UnnestPlansModel", "costs", "[I", true)
  | 15 => ("UnnestPlansModel", "logged", "[I", true)
  | 16 => ("UnnestPlansModel", "logs", "[I", true)
  | 17 => ("UnnestPlansModel", "many", "I", false)
  | 18 => ("UnnestPlansModel", "rowK", "[I", true)
  | 19 => ("UnnestPlansModel", "rowV", "[I", true)
  | 20 => ("UnnestPlansModel", "rowPair", "[I", true)
  | 21 => ("UnnestPlansModel", "outMany", "I", false)
  | 22 => ("UnnestPlansModel", "outK", "[I", true)
  | 23 => ("UnnestPlansModel", "outV", "[I", true)
  | 24 => ("UnnestPlansModel", "outPair", "[I", true)
  | 25 => ("UnnestPlansModel", "hadMany", "[I", true)
  | 26 => ("UnnestPlansModel", "hadK", "[I", true)
  | 27 => ("UnnestPlansModel", "hadV", "[I", true)
  | 28 => ("UnnestPlansModel", "handed", "I", false)
  | 29 => ("UnnestPlansModel", "readMany", "I", false)
  | 30 => ("UnnestPlansModel", "isOver", "Z", false)
  | 31 => ("UnnestPlansModel", "pairs", "I", false)
  | 32 => ("UnnestPlansModel", "pairK", "[I", true)
  | 33 => ("UnnestPlansModel", "pairV", "[I", true)
  | 34 => ("UnnestPlansModel", "pairOf", "[I", true)
  | 35 => ("UnnestPlansModel", "planMany", "I", false)
  | 36 => ("UnnestPlansModel", "planRow", "[I", true)
  | 37 => ("UnnestPlansModel", "ownAnswers", "[I", true)
  | 38 => ("UnnestPlansModel", "isThere", "[Z", true)
  | 39 => ("UnnestPlansModel", "forms", "[I", true)
  | 40 => ("UnnestPlansModel", "sizes", "[I", true)
  | 41 => ("UnnestPlansModel", "items", "[I", true)
  | 42 => ("UnnestPlansModel", "moved", "[I", true)
  | _ => ("UnnestPlansModel", "finding", "I", false)
def tyX12 : Nat → FieldType := fun k => match k with
  | 0 => .array .int
  | 1 => .array .int
  | 2 => .array .int
  | 3 => .array .int
  | 4 => .array .int
  | 5 => .array .int
  | 6 => .int
  | 7 => .array .int
  | 8 => .array .int
  | 9 => .int
  | 10 => .int
  | 11 => .int
  | 12 => .array .int
  | 13 => .array .int
  | 14 => .array .int
  | 15 => .array .int
  | 16 => .array .int
  | 17 => .int
  | 18 => .array .int
  | 19 => .array .int
  | 20 => .array .int
  | 21 => .int
  | 22 => .array .int
  | 23 => .array .int
  | 24 => .array .int
  | 25 => .array .int
  | 26 => .array .int
  | 27 => .array .int
  | 28 => .int
  | 29 => .int
  | 30 => .boolean
  | 31 => .int
  | 32 => .array .int
  | 33 => .array .int
  | 34 => .array .int
  | 35 => .int
  | 36 => .array .int
  | 37 => .array .int
  | 38 => .array .boolean
  | 39 => .array .int
  | 40 => .array .int
  | 41 => .array .int
  | 42 => .array .int
  | _ => .int
abbrev wsX120 : List Cond := u_ws RX12 TX12 44
theorem nmX12 : ∀ a, a < 44 → ∀ b, b < 44 → a ≠ b → (TX12 a).2.1 ≠ (TX12 b).2.1 := by decide +kernel
theorem tyX12_ok : ∀ k, k < 44 → parseFieldDescriptor (TX12 k).2.2.1 = some (tyX12 k) := by decide +kernel
abbrev cX12_init : ByteArray := prog_14_method_1_code
def yX12_init : MethodName := ⟨RX12, "<init>", "()V"⟩
abbrev cX12_in : ByteArray := prog_14_method_3_code
def yX12_in : MethodName := ⟨RX12, "in", "(III)Z"⟩
abbrev cX12_isIn : ByteArray := prog_14_method_4_code
def yX12_isIn : MethodName := ⟨RX12, "isIn", "(II)Z"⟩
abbrev cX12_isTwo : ByteArray := prog_14_method_5_code
def yX12_isTwo : MethodName := ⟨RX12, "isTwo", "(I)Z"⟩
abbrev cX12_bitsOf : ByteArray := prog_14_method_6_code
def yX12_bitsOf : MethodName := ⟨RX12, "bitsOf", "(JI)I"⟩
abbrev cX12_divided : ByteArray := prog_14_method_7_code
def yX12_divided : MethodName := ⟨RX12, "divided", "(II)I"⟩
abbrev cX12_added : ByteArray := prog_14_method_8_code
def yX12_added : MethodName := ⟨RX12, "added", "(II)I"⟩
abbrev cX12_isText : ByteArray := prog_14_method_9_code
def yX12_isText : MethodName := ⟨RX12, "isText", "(I)Z"⟩
abbrev cX12_roomOf : ByteArray := prog_14_method_10_code
def yX12_roomOf : MethodName := ⟨RX12, "roomOf", "(I)I"⟩
abbrev cX12_type : ByteArray := prog_14_method_11_code
def yX12_type : MethodName := ⟨RX12, "type", "(II)I"⟩
abbrev cX12_wipe : ByteArray := prog_14_method_12_code
def yX12_wipe : MethodName := ⟨RX12, "wipe", "(I)I"⟩
abbrev cX12_undo : ByteArray := prog_14_method_13_code
def yX12_undo : MethodName := ⟨RX12, "undo", "(I)I"⟩
abbrev cX12_read : ByteArray := prog_14_method_14_code
def yX12_read : MethodName := ⟨RX12, "read", "(II)I"⟩
abbrev cX12_byteAt : ByteArray := prog_14_method_15_code
def yX12_byteAt : MethodName := ⟨RX12, "byteAt", "(II)I"⟩
abbrev cX12_valueAt : ByteArray := prog_14_method_16_code
def yX12_valueAt : MethodName := ⟨RX12, "valueAt", "(II)I"⟩
abbrev cX12_readsTable : ByteArray := prog_14_method_17_code
def yX12_readsTable : MethodName := ⟨RX12, "readsTable", "(I)I"⟩
abbrev cX12_kindOf : ByteArray := prog_14_method_18_code
def yX12_kindOf : MethodName := ⟨RX12, "kindOf", "(I)I"⟩
abbrev cX12_readsSteps : ByteArray := prog_14_method_19_code
def yX12_readsSteps : MethodName := ⟨RX12, "readsSteps", "()I"⟩
abbrev cX12_reads : ByteArray := prog_14_method_20_code
def yX12_reads : MethodName := ⟨RX12, "reads", "()V"⟩
abbrev cX12_faultOf : ByteArray := prog_14_method_21_code
def yX12_faultOf : MethodName := ⟨RX12, "faultOf", "(I)I"⟩
abbrev cX12_fault : ByteArray := prog_14_method_22_code
def yX12_fault : MethodName := ⟨RX12, "fault", "(I)I"⟩
abbrev cX12_rowOf : ByteArray := prog_14_method_23_code
def yX12_rowOf : MethodName := ⟨RX12, "rowOf", "(III)I"⟩
abbrev cX12_row : ByteArray := prog_14_method_24_code
def yX12_row : MethodName := ⟨RX12, "row", "(III)I"⟩
abbrev cX12_stepOf : ByteArray := prog_14_method_25_code
def yX12_stepOf : MethodName := ⟨RX12, "stepOf", "(II)I"⟩
abbrev cX12_step : ByteArray := prog_14_method_26_code
def yX12_step : MethodName := ⟨RX12, "step", "(II)I"⟩
abbrev cX12_end : ByteArray := prog_14_method_27_code
def yX12_end : MethodName := ⟨RX12, "end", "(I)I"⟩
abbrev cX12_logs : ByteArray := prog_14_method_28_code
def yX12_logs : MethodName := ⟨RX12, "logs", "(II)V"⟩
abbrev cX12_puts : ByteArray := prog_14_method_29_code
def yX12_puts : MethodName := ⟨RX12, "puts", "(III)V"⟩
abbrev cX12_comesIn : ByteArray := prog_14_method_30_code
def yX12_comesIn : MethodName := ⟨RX12, "comesIn", "()V"⟩
abbrev cX12_comesOfInner : ByteArray := prog_14_method_31_code
def yX12_comesOfInner : MethodName := ⟨RX12, "comesOfInner", "()V"⟩
abbrev cX12_stays : ByteArray := prog_14_method_32_code
def yX12_stays : MethodName := ⟨RX12, "stays", "(IIIII)I"⟩
abbrev cX12_groups : ByteArray := prog_14_method_33_code
def yX12_groups : MethodName := ⟨RX12, "groups", "()V"⟩
abbrev cX12_answerOf : ByteArray := prog_14_method_34_code
def yX12_answerOf : MethodName := ⟨RX12, "answerOf", "(II)I"⟩
abbrev cX12_isNew : ByteArray := prog_14_method_35_code
def yX12_isNew : MethodName := ⟨RX12, "isNew", "(III)Z"⟩
abbrev cX12_goes : ByteArray := prog_14_method_36_code
def yX12_goes : MethodName := ⟨RX12, "goes", "(IIIIII)V"⟩
abbrev cX12_goThrough : ByteArray := prog_14_method_37_code
def yX12_goThrough : MethodName := ⟨RX12, "goThrough", "(IIII)V"⟩
abbrev cX12_asksFor : ByteArray := prog_14_method_38_code
def yX12_asksFor : MethodName := ⟨RX12, "asksFor", "(I)V"⟩
abbrev cX12_opens : ByteArray := prog_14_method_39_code
def yX12_opens : MethodName := ⟨RX12, "opens", "(II)V"⟩
abbrev cX12_begins : ByteArray := prog_14_method_40_code
def yX12_begins : MethodName := ⟨RX12, "begins", "(I)V"⟩
abbrev cX12_rowByRow : ByteArray := prog_14_method_41_code
def yX12_rowByRow : MethodName := ⟨RX12, "rowByRow", "()V"⟩
abbrev cX12_speaksNow : ByteArray := prog_14_method_42_code
def yX12_speaksNow : MethodName := ⟨RX12, "speaksNow", "()I"⟩
abbrev cX12_isOfV : ByteArray := prog_14_method_43_code
def yX12_isOfV : MethodName := ⟨RX12, "isOfV", "()Z"⟩
abbrev cX12_findsDomain : ByteArray := prog_14_method_44_code
def yX12_findsDomain : MethodName := ⟨RX12, "findsDomain", "()V"⟩
abbrev cX12_joinAt : ByteArray := prog_14_method_45_code
def yX12_joinAt : MethodName := ⟨RX12, "joinAt", "()I"⟩
abbrev cX12_plans : ByteArray := prog_14_method_46_code
def yX12_plans : MethodName := ⟨RX12, "plans", "()V"⟩
abbrev cX12_isLike : ByteArray := prog_14_method_47_code
def yX12_isLike : MethodName := ⟨RX12, "isLike", "(I)Z"⟩
abbrev cX12_joins : ByteArray := prog_14_method_48_code
def yX12_joins : MethodName := ⟨RX12, "joins", "(Z)V"⟩
abbrev cX12_does : ByteArray := prog_14_method_49_code
def yX12_does : MethodName := ⟨RX12, "does", "(I)V"⟩
abbrev cX12_free : ByteArray := prog_14_method_50_code
def yX12_free : MethodName := ⟨RX12, "free", "()V"⟩
abbrev cX12_runs : ByteArray := prog_14_method_51_code
def yX12_runs : MethodName := ⟨RX12, "runs", "(I)V"⟩
abbrev cX12_runsTold : ByteArray := prog_14_method_52_code
def yX12_runsTold : MethodName := ⟨RX12, "runsTold", "()V"⟩
abbrev cX12_errorOf : ByteArray := prog_14_method_53_code
def yX12_errorOf : MethodName := ⟨RX12, "errorOf", "(I)I"⟩
abbrev cX12_error : ByteArray := prog_14_method_54_code
def yX12_error : MethodName := ⟨RX12, "error", "(I)I"⟩
abbrev cX12_answerNow : ByteArray := prog_14_method_55_code
def yX12_answerNow : MethodName := ⟨RX12, "answerNow", "(II)I"⟩
abbrev cX12_answerFor : ByteArray := prog_14_method_56_code
def yX12_answerFor : MethodName := ⟨RX12, "answerFor", "(II)I"⟩
abbrev cX12_answer : ByteArray := prog_14_method_57_code
def yX12_answer : MethodName := ⟨RX12, "answer", "(II)I"⟩
abbrev cX12_sameOf : ByteArray := prog_14_method_58_code
def yX12_sameOf : MethodName := ⟨RX12, "sameOf", "()I"⟩
abbrev cX12_same : ByteArray := prog_14_method_59_code
def yX12_same : MethodName := ⟨RX12, "same", "()I"⟩
abbrev cX12_totalOf : ByteArray := prog_14_method_60_code
def yX12_totalOf : MethodName := ⟨RX12, "totalOf", "()I"⟩
abbrev cX12_total : ByteArray := prog_14_method_61_code
def yX12_total : MethodName := ⟨RX12, "total", "()I"⟩
abbrev cX12_speaksOf : ByteArray := prog_14_method_62_code
def yX12_speaksOf : MethodName := ⟨RX12, "speaksOf", "()I"⟩
abbrev cX12_speaks : ByteArray := prog_14_method_63_code
def yX12_speaks : MethodName := ⟨RX12, "speaks", "()I"⟩
abbrev cX12_domainOf : ByteArray := prog_14_method_64_code
def yX12_domainOf : MethodName := ⟨RX12, "domainOf", "(II)I"⟩
abbrev cX12_domain : ByteArray := prog_14_method_65_code
def yX12_domain : MethodName := ⟨RX12, "domain", "(II)I"⟩
abbrev cX12_planOf : ByteArray := prog_14_method_66_code
def yX12_planOf : MethodName := ⟨RX12, "planOf", "(I)I"⟩
abbrev cX12_plan : ByteArray := prog_14_method_67_code
def yX12_plan : MethodName := ⟨RX12, "plan", "(I)I"⟩
abbrev cX12_costOf : ByteArray := prog_14_method_68_code
def yX12_costOf : MethodName := ⟨RX12, "costOf", "(II)I"⟩
abbrev cX12_cost : ByteArray := prog_14_method_69_code
def yX12_cost : MethodName := ⟨RX12, "cost", "(II)I"⟩
abbrev cX12_logOf : ByteArray := prog_14_method_70_code
def yX12_logOf : MethodName := ⟨RX12, "logOf", "(II)I"⟩
abbrev cX12_log : ByteArray := prog_14_method_71_code
def yX12_log : MethodName := ⟨RX12, "log", "(II)I"⟩
abbrev cX12_spareOf : ByteArray := prog_14_method_72_code
def yX12_spareOf : MethodName := ⟨RX12, "spareOf", "()I"⟩
abbrev cX12_spare : ByteArray := prog_14_method_73_code
def yX12_spare : MethodName := ⟨RX12, "spare", "()I"⟩
abbrev cX12_meets : ByteArray := prog_14_method_74_code
def yX12_meets : MethodName := ⟨RX12, "meets", "(I)I"⟩
abbrev cX12_isSheet : ByteArray := prog_14_method_75_code
def yX12_isSheet : MethodName := ⟨RX12, "isSheet", "(I)Z"⟩
abbrev cX12_sheet : ByteArray := prog_14_method_76_code
def yX12_sheet : MethodName := ⟨RX12, "sheet", "(III)I"⟩
abbrev cX12_lose : ByteArray := prog_14_method_77_code
def yX12_lose : MethodName := ⟨RX12, "lose", "(I)I"⟩
abbrev cX12_lacks : ByteArray := prog_14_method_78_code
def yX12_lacks : MethodName := ⟨RX12, "lacks", "(III)I"⟩
abbrev cX12_keep : ByteArray := prog_14_method_79_code
def yX12_keep : MethodName := ⟨RX12, "keep", "(III)V"⟩
abbrev cX12_put : ByteArray := prog_14_method_80_code
def yX12_put : MethodName := ⟨RX12, "put", "(IIII)I"⟩
abbrev cX12_get : ByteArray := prog_14_method_81_code
def yX12_get : MethodName := ⟨RX12, "get", "(III)I"⟩
abbrev cX12_copy : ByteArray := prog_14_method_82_code
def yX12_copy : MethodName := ⟨RX12, "copy", "(IIIII)I"⟩
abbrev cX12_write : ByteArray := prog_14_method_83_code
def yX12_write : MethodName := ⟨RX12, "write", "(II)I"⟩
abbrev cX12_tellOf : ByteArray := prog_14_method_84_code
def yX12_tellOf : MethodName := ⟨RX12, "tellOf", "(I)I"⟩
abbrev cX12_count : ByteArray := prog_14_method_85_code
def yX12_count : MethodName := ⟨RX12, "count", "(I)I"⟩
abbrev cX12_answerDigest : ByteArray := prog_14_method_86_code
def yX12_answerDigest : MethodName := ⟨RX12, "answerDigest", "(JI)J"⟩
abbrev cX12_planDigest : ByteArray := prog_14_method_87_code
def yX12_planDigest : MethodName := ⟨RX12, "planDigest", "(JI)J"⟩
abbrev cX12_digest : ByteArray := prog_14_method_88_code
def yX12_digest : MethodName := ⟨RX12, "digest", "()J"⟩
def RJ9 : String := "java/lang/Math"
def TJ9 : u_T := fun k => match k with
  | _ => ("", "", "", false)
def tyJ9 : Nat → FieldType := fun k => match k with
  | _ => .int
theorem nmJ9 : ∀ a, a < 0 → ∀ b, b < 0 → a ≠ b → (TJ9 a).2.1 ≠ (TJ9 b).2.1 := by decide +kernel
theorem tyJ9_ok : ∀ k, k < 0 → parseFieldDescriptor (TJ9 k).2.2.1 = some (tyJ9 k) := by decide +kernel
abbrev cJ9_max_7cf53 : ByteArray := prog_15_method_65_code
def yJ9_max_7cf53 : MethodName := ⟨RJ9, "max", "(II)I"⟩
abbrev cJ9_min_7cf53 : ByteArray := prog_15_method_69_code
def yJ9_min_7cf53 : MethodName := ⟨RJ9, "min", "(II)I"⟩
def RJ10 : String := "java/lang/System"
def TJ10 : u_T := fun k => match k with
  | _ => ("", "", "", false)
def tyJ10 : Nat → FieldType := fun k => match k with
  | _ => .int
theorem nmJ10 : ∀ a, a < 0 → ∀ b, b < 0 → a ≠ b → (TJ10 a).2.1 ≠ (TJ10 b).2.1 := by decide +kernel
theorem tyJ10_ok : ∀ k, k < 0 → parseFieldDescriptor (TJ10 k).2.2.1 = some (tyJ10 k) := by decide +kernel
def RJ7 : String := "java/util/Arrays"
def TJ7 : u_T := fun k => match k with
  | _ => ("", "", "", false)
def tyJ7 : Nat → FieldType := fun k => match k with
  | _ => .int
theorem nmJ7 : ∀ a, a < 0 → ∀ b, b < 0 → a ≠ b → (TJ7 a).2.1 ≠ (TJ7 b).2.1 := by decide +kernel
theorem tyJ7_ok : ∀ k, k < 0 → parseFieldDescriptor (TJ7 k).2.2.1 = some (tyJ7 k) := by decide +kernel
abbrev cJ7_fill_53178 : ByteArray := prog_17_method_103_code
def yJ7_fill_53178 : MethodName := ⟨RJ7, "fill", "([II)V"⟩
def RL : String := "UnnestPlansLaw"
abbrev cL_law : ByteArray := code
def yL_law : MethodName := ⟨RL, "law", "([I)Z"⟩
abbrev vwCl : List vw_C := [(RX0, TX0, 4), (RX1, TX1, 3), (RX2, TX2, 4), (RX3, TX3, 3), (RX4, TX4, 10), (RX5, TX5, 6), (RX6, TX6, 3), (RX7, TX7, 4), (RX8, TX8, 4), (RX9, TX9, 6), (RX10, TX10, 2), (RX11, TX11, 9), (RX12, TX12, 44)]
end
section
theorem dX0_init_0 : decode cX0_init 0 = .ok (.aload_n 0, 1) := by decide +kernel
theorem dX0_init_1 : decode cX0_init 1 = .ok (.invokespecial 3, 3) := by decide +kernel
theorem dX0_init_4 : decode cX0_init 4 = .ok (.aload_n 0, 1) := by decide +kernel
theorem dX0_init_5 : decode cX0_init 5 = .ok (.bipush 14, 2) := by decide +kernel
theorem dX0_init_7 : decode cX0_init 7 = .ok (.newarray .int, 2) := by decide +kernel
theorem dX0_init_9 : decode cX0_init 9 = .ok (.putfield 9, 3) := by decide +kernel
theorem dX0_init_12 : decode cX0_init 12 = .ok (.aload_n 0, 1) := by decide +kernel
theorem dX0_init_13 : decode cX0_init 13 = .ok (.bipush 14, 2) := by decide +kernel
theorem dX0_init_15 : decode cX0_init 15 = .ok (.newarray .int, 2) := by decide +kernel
theorem dX0_init_17 : decode cX0_init 17 = .ok (.putfield 15, 3) := by decide +kernel
theorem dX0_init_20 : decode cX0_init 20 = .ok (.aload_n 0, 1) := by decide +kernel
theorem dX0_init_21 : decode cX0_init 21 = .ok (.iconst 0, 1) := by decide +kernel
theorem dX0_init_22 : decode cX0_init 22 = .ok (.putfield 18, 3) := by decide +kernel
theorem dX0_init_25 : decode cX0_init 25 = .ok (.aload_n 0, 1) := by decide +kernel
theorem dX0_init_26 : decode cX0_init 26 = .ok (.iconst (-1), 1) := by decide +kernel
theorem dX0_init_27 : decode cX0_init 27 = .ok (.putfield 22, 3) := by decide +kernel
theorem dX0_init_30 : decode cX0_init 30 = .ok (.return_, 1) := by decide +kernel
theorem dX0_layRowByRow_0 : decode cX0_layRowByRow 0 = .ok (.aload_n 0, 1) := by decide +kernel
theorem dX0_layRowByRow_1 : decode cX0_layRowByRow 1 = .ok (.invokevirtual 25, 3) := by decide +kernel
theorem dX0_layRowByRow_4 : decode cX0_layRowByRow 4 = .ok (.iconst 0, 1) := by decide +kernel
theorem dX0_layRowByRow_5 : decode cX0_layRowByRow 5 = .ok (.istore_n 3, 1) := by decide +kernel
theorem dX0_layRowByRow_6 : decode cX0_layRowByRow 6 = .ok (.iload_n 3, 1) := by decide +kernel
theorem dX0_layRowByRow_7 : decode cX0_layRowByRow 7 = .ok (.aload_n 1, 1) := by decide +kernel
theorem dX0_layRowByRow_8 : decode cX0_layRowByRow 8 = .ok (.getfield 28, 3) := by decide +kernel
theorem dX0_layRowByRow_11 : decode cX0_layRowByRow 11 = .ok (.if_icmp .ge 30, 3) := by decide +kernel
theorem dX0_layRowByRow_14 : decode cX0_layRowByRow 14 = .ok (.iload_n 3, 1) := by decide +kernel
theorem dX0_layRowByRow_15 : decode cX0_layRowByRow 15 = .ok (.iload_n 2, 1) := by decide +kernel
theorem dX0_layRowByRow_16 : decode cX0_layRowByRow 16 = .ok (.if_icmp .eq 19, 3) := by decide +kernel
theorem dX0_layRowByRow_19 : decode cX0_layRowByRow 19 = .ok (.aload_n 0, 1) := by decide +kernel
theorem dX0_layRowByRow_20 : decode cX0_layRowByRow 20 = .ok (.aload_n 1, 1) := by decide +kernel
theorem dX0_layRowByRow_21 : decode cX0_layRowByRow 21 = .ok (.getfield 31, 3) := by decide +kernel
theorem dX0_layRowByRow_24 : decode cX0_layRowByRow 24 = .ok (.iload_n 3, 1) := by decide +kernel
theorem dX0_layRowByRow_25 : decode cX0_layRowByRow 25 = .ok (.iaload, 1) := by decide +kernel
theorem dX0_layRowByRow_26 : decode cX0_layRowByRow 26 = .ok (.aload_n 1, 1) := by decide +kernel
theorem dX0_layRowByRow_27 : decode cX0_layRowByRow 27 = .ok (.getfield 32, 3) := by decide +kernel
theorem dX0_layRowByRow_30 : decode cX0_layRowByRow 30 = .ok (.iload_n 3, 1) := by decide +kernel
theorem dX0_layRowByRow_31 : decode cX0_layRowByRow 31 = .ok (.iaload, 1) := by decide +kernel
theorem dX0_layRowByRow_32 : decode cX0_layRowByRow 32 = .ok (.invokevirtual 33, 3) := by decide +kernel
theorem dX0_layRowByRow_35 : decode cX0_layRowByRow 35 = .ok (.iinc 3 1, 3) := by decide +kernel
theorem dX0_layRowByRow_38 : decode cX0_layRowByRow 38 = .ok (.goto (-32), 3) := by decide +kernel
theorem dX0_layRowByRow_41 : decode cX0_layRowByRow 41 = .ok (.return_, 1) := by decide +kernel
theorem dX0_layFree_0 : decode cX0_layFree 0 = .ok (.aload_n 1, 1) := by decide +kernel
theorem dX0_layFree_1 : decode cX0_layFree 1 = .ok (.invokevirtual 37, 3) := by decide +kernel
theorem dX0_layFree_4 : decode cX0_layFree 4 = .ok (.istore_n 3, 1) := by decide +kernel
theorem dX0_layFree_5 : decode cX0_layFree 5 = .ok (.aload_n 0, 1) := by decide +kernel
theorem dX0_layFree_6 : decode cX0_layFree 6 = .ok (.invokevirtual 25, 3) := by decide +kernel
theorem dX0_layFree_9 : decode cX0_layFree 9 = .ok (.iconst 0, 1) := by decide +kernel
theorem dX0_layFree_10 : decode cX0_layFree 10 = .ok (.istore 4, 2) := by decide +kernel
theorem dX0_layFree_12 : decode cX0_layFree 12 = .ok (.iload 4, 2) := by decide +kernel
theorem dX0_layFree_14 : decode cX0_layFree 14 = .ok (.aload_n 1, 1) := by decide +kernel
theorem dX0_layFree_15 : decode cX0_layFree 15 = .ok (.getfield 28, 3) := by decide +kernel
theorem dX0_layFree_18 : decode cX0_layFree 18 = .ok (.if_icmp .ge 78, 3) := by decide +kernel
theorem dX0_layFree_21 : decode cX0_layFree 21 = .ok (.iload 4, 2) := by decide +kernel
theorem dX0_layFree_23 : decode cX0_layFree 23 = .ok (.iload_n 3, 1) := by decide +kernel
theorem dX0_layFree_24 : decode cX0_layFree 24 = .ok (.if_icmp .ne 18, 3) := by decide +kernel
theorem dX0_layFree_27 : decode cX0_layFree 27 = .ok (.aload_n 1, 1) := by decide +kernel
theorem dX0_layFree_28 : decode cX0_layFree 28 = .ok (.getfield 31, 3) := by decide +kernel
theorem dX0_layFree_31 : decode cX0_layFree 31 = .ok (.iload 4, 2) := by decide +kernel
theorem dX0_layFree_33 : decode cX0_layFree 33 = .ok (.iaload, 1) := by decide +kernel
theorem dX0_layFree_34 : decode cX0_layFree 34 = .ok (.iconst 1, 1) := by decide +kernel
theorem dX0_layFree_35 : decode cX0_layFree 35 = .ok (.if_icmp .ne 7, 3) := by decide +kernel
theorem dX0_layFree_38 : decode cX0_layFree 38 = .ok (.iconst 1, 1) := by decide +kernel
theorem dX0_layFree_39 : decode cX0_layFree 39 = .ok (.goto 4, 3) := by decide +kernel
theorem dX0_layFree_42 : decode cX0_layFree 42 = .ok (.iconst 0, 1) := by decide +kernel
theorem dX0_layFree_43 : decode cX0_layFree 43 = .ok (.istore 5, 2) := by decide +kernel
theorem dX0_layFree_45 : decode cX0_layFree 45 = .ok (.iload 4, 2) := by decide +kernel
theorem dX0_layFree_47 : decode cX0_layFree 47 = .ok (.iload_n 3, 1) := by decide +kernel
theorem dX0_layFree_48 : decode cX0_layFree 48 = .ok (.if_icmp .ne 19, 3) := by decide +kernel
theorem dX0_layFree_51 : decode cX0_layFree 51 = .ok (.aload_n 0, 1) := by decide +kernel
theorem dX0_layFree_52 : decode cX0_layFree 52 = .ok (.iload 5, 2) := by decide +kernel
theorem dX0_layFree_54 : decode cX0_layFree 54 = .ok (.ifCond .eq 8, 3) := by decide +kernel
theorem dX0_layFree_57 : decode cX0_layFree 57 = .ok (.bipush 9, 2) := by decide +kernel
theorem dX0_layFree_59 : decode cX0_layFree 59 = .ok (.goto 5, 3) := by decide +kernel
theorem dX0_layFree_62 : decode cX0_layFree 62 = .ok (.bipush 8, 2) := by decide +kernel
theorem dX0_layFree_64 : decode cX0_layFree 64 = .ok (.invokevirtual 41, 3) := by decide +kernel
theorem dX0_layFree_67 : decode cX0_layFree 67 = .ok (.iload 5, 2) := by decide +kernel
theorem dX0_layFree_69 : decode cX0_layFree 69 = .ok (.ifCond .ne 21, 3) := by decide +kernel
theorem dX0_layFree_72 : decode cX0_layFree 72 = .ok (.aload_n 0, 1) := by decide +kernel
theorem dX0_layFree_73 : decode cX0_layFree 73 = .ok (.aload_n 1, 1) := by decide +kernel
theorem dX0_layFree_74 : decode cX0_layFree 74 = .ok (.getfield 31, 3) := by decide +kernel
theorem dX0_layFree_77 : decode cX0_layFree 77 = .ok (.iload 4, 2) := by decide +kernel
theorem dX0_layFree_79 : decode cX0_layFree 79 = .ok (.iaload, 1) := by decide +kernel
theorem dX0_layFree_80 : decode cX0_layFree 80 = .ok (.aload_n 1, 1) := by decide +kernel
theorem dX0_layFree_81 : decode cX0_layFree 81 = .ok (.getfield 32, 3) := by decide +kernel
theorem dX0_layFree_84 : decode cX0_layFree 84 = .ok (.iload 4, 2) := by decide +kernel
theorem dX0_layFree_86 : decode cX0_layFree 86 = .ok (.iaload, 1) := by decide +kernel
theorem dX0_layFree_87 : decode cX0_layFree 87 = .ok (.invokevirtual 33, 3) := by decide +kernel
theorem dX0_layFree_90 : decode cX0_layFree 90 = .ok (.iinc 4 1, 3) := by decide +kernel
theorem dX0_layFree_93 : decode cX0_layFree 93 = .ok (.goto (-81), 3) := by decide +kernel
theorem dX0_layFree_96 : decode cX0_layFree 96 = .ok (.iload_n 3, 1) := by decide +kernel
theorem dX0_layFree_97 : decode cX0_layFree 97 = .ok (.iconst (-1), 1) := by decide +kernel
theorem dX0_layFree_98 : decode cX0_layFree 98 = .ok (.if_icmp .ne 16, 3) := by decide +kernel
theorem dX0_layFree_101 : decode cX0_layFree 101 = .ok (.iload_n 2, 1) := by decide +kernel
theorem dX0_layFree_102 : decode cX0_layFree 102 = .ok (.invokestatic 45, 3) := by decide +kernel
theorem dX0_layFree_105 : decode cX0_layFree 105 = .ok (.ifCond .eq 9, 3) := by decide +kernel
theorem dX0_layFree_108 : decode cX0_layFree 108 = .ok (.aload_n 0, 1) := by decide +kernel
theorem dX0_layFree_109 : decode cX0_layFree 109 = .ok (.bipush 8, 2) := by decide +kernel
theorem dX0_layFree_111 : decode cX0_layFree 111 = .ok (.invokevirtual 41, 3) := by decide +kernel
theorem dX0_layFree_114 : decode cX0_layFree 114 = .ok (.return_, 1) := by decide +kernel
theorem dX0_codeAt_0 : decode cX0_codeAt 0 = .ok (.iload_n 1, 1) := by decide +kernel
theorem dX0_codeAt_1 : decode cX0_codeAt 1 = .ok (.aload_n 0, 1) := by decide +kernel
theorem dX0_codeAt_2 : decode cX0_codeAt 2 = .ok (.getfield 18, 3) := by decide +kernel
theorem dX0_codeAt_5 : decode cX0_codeAt 5 = .ok (.invokestatic 49, 3) := by decide +kernel
theorem dX0_codeAt_8 : decode cX0_codeAt 8 = .ok (.ifCond .eq 12, 3) := by decide +kernel
theorem dX0_codeAt_11 : decode cX0_codeAt 11 = .ok (.aload_n 0, 1) := by decide +kernel
theorem dX0_codeAt_12 : decode cX0_codeAt 12 = .ok (.getfield 9, 3) := by decide +kernel
theorem dX0_codeAt_15 : decode cX0_codeAt 15 = .ok (.iload_n 1, 1) := by decide +kernel
theorem dX0_codeAt_16 : decode cX0_codeAt 16 = .ok (.iaload, 1) := by decide +kernel
theorem dX0_codeAt_17 : decode cX0_codeAt 17 = .ok (.goto 4, 3) := by decide +kernel
theorem dX0_codeAt_20 : decode cX0_codeAt 20 = .ok (.iconst (-1), 1) := by decide +kernel
theorem dX0_codeAt_21 : decode cX0_codeAt 21 = .ok (.ireturn, 1) := by decide +kernel
theorem dX0_begin_0 : decode cX0_begin 0 = .ok (.aload_n 0, 1) := by decide +kernel
theorem dX0_begin_1 : decode cX0_begin 1 = .ok (.iconst 0, 1) := by decide +kernel
theorem dX0_begin_2 : decode cX0_begin 2 = .ok (.putfield 18, 3) := by decide +kernel
theorem dX0_begin_5 : decode cX0_begin 5 = .ok (.aload_n 0, 1) := by decide +kernel
theorem dX0_begin_6 : decode cX0_begin 6 = .ok (.iconst (-1), 1) := by decide +kernel
theorem dX0_begin_7 : decode cX0_begin 7 = .ok (.putfield 22, 3) := by decide +kernel
theorem dX0_begin_10 : decode cX0_begin 10 = .ok (.aload_n 0, 1) := by decide +kernel
theorem dX0_begin_11 : decode cX0_begin 11 = .ok (.iconst 0, 1) := by decide +kernel
theorem dX0_begin_12 : decode cX0_begin 12 = .ok (.iconst (-1), 1) := by decide +kernel
theorem dX0_begin_13 : decode cX0_begin 13 = .ok (.invokevirtual 33, 3) := by decide +kernel
theorem dX0_begin_16 : decode cX0_begin 16 = .ok (.return_, 1) := by decide +kernel
theorem dX0_addJoin_0 : decode cX0_addJoin 0 = .ok (.aload_n 0, 1) := by decide +kernel
theorem dX0_addJoin_1 : decode cX0_addJoin 1 = .ok (.aload_n 0, 1) := by decide +kernel
theorem dX0_addJoin_2 : decode cX0_addJoin 2 = .ok (.getfield 18, 3) := by decide +kernel
theorem dX0_addJoin_5 : decode cX0_addJoin 5 = .ok (.putfield 22, 3) := by decide +kernel
theorem dX0_addJoin_8 : decode cX0_addJoin 8 = .ok (.aload_n 0, 1) := by decide +kernel
theorem dX0_addJoin_9 : decode cX0_addJoin 9 = .ok (.iload_n 1, 1) := by decide +kernel
theorem dX0_addJoin_10 : decode cX0_addJoin 10 = .ok (.iconst (-1), 1) := by decide +kernel
theorem dX0_addJoin_11 : decode cX0_addJoin 11 = .ok (.invokevirtual 33, 3) := by decide +kernel
theorem dX0_addJoin_14 : decode cX0_addJoin 14 = .ok (.return_, 1) := by decide +kernel
theorem dX0_add_0 : decode cX0_add 0 = .ok (.aload_n 0, 1) := by decide +kernel
theorem dX0_add_1 : decode cX0_add 1 = .ok (.getfield 18, 3) := by decide +kernel
theorem dX0_add_4 : decode cX0_add 4 = .ok (.bipush 14, 2) := by decide +kernel
theorem dX0_add_6 : decode cX0_add 6 = .ok (.if_icmp .ge 33, 3) := by decide +kernel
theorem dX0_add_9 : decode cX0_add 9 = .ok (.aload_n 0, 1) := by decide +kernel
theorem dX0_add_10 : decode cX0_add 10 = .ok (.getfield 9, 3) := by decide +kernel
theorem dX0_add_13 : decode cX0_add 13 = .ok (.aload_n 0, 1) := by decide +kernel
theorem dX0_add_14 : decode cX0_add 14 = .ok (.getfield 18, 3) := by decide +kernel
theorem dX0_add_17 : decode cX0_add 17 = .ok (.iload_n 1, 1) := by decide +kernel
theorem dX0_add_18 : decode cX0_add 18 = .ok (.iastore, 1) := by decide +kernel
theorem dX0_add_19 : decode cX0_add 19 = .ok (.aload_n 0, 1) := by decide +kernel
theorem dX0_add_20 : decode cX0_add 20 = .ok (.getfield 15, 3) := by decide +kernel
theorem dX0_add_23 : decode cX0_add 23 = .ok (.aload_n 0, 1) := by decide +kernel
theorem dX0_add_24 : decode cX0_add 24 = .ok (.getfield 18, 3) := by decide +kernel
theorem dX0_add_27 : decode cX0_add 27 = .ok (.iload_n 2, 1) := by decide +kernel
theorem dX0_add_28 : decode cX0_add 28 = .ok (.iastore, 1) := by decide +kernel
theorem dX0_add_29 : decode cX0_add 29 = .ok (.aload_n 0, 1) := by decide +kernel
theorem dX0_add_30 : decode cX0_add 30 = .ok (.dup, 1) := by decide +kernel
theorem dX0_add_31 : decode cX0_add 31 = .ok (.getfield 18, 3) := by decide +kernel
theorem dX0_add_34 : decode cX0_add 34 = .ok (.iconst 1, 1) := by decide +kernel
theorem dX0_add_35 : decode cX0_add 35 = .ok (.iadd, 1) := by decide +kernel
theorem dX0_add_36 : decode cX0_add 36 = .ok (.putfield 18, 3) := by decide +kernel
theorem dX0_add_39 : decode cX0_add 39 = .ok (.return_, 1) := by decide +kernel
theorem dX1_init_0 : decode cX1_init 0 = .ok (.aload_n 0, 1) := by decide +kernel
theorem dX1_init_1 : decode cX1_init 1 = .ok (.invokespecial 3, 3) := by decide +kernel
theorem dX1_init_4 : decode cX1_init 4 = .ok (.aload_n 0, 1) := by decide +kernel
theorem dX1_init_5 : decode cX1_init 5 = .ok (.bipush 14, 2) := by decide +kernel
theorem dX1_init_7 : decode cX1_init 7 = .ok (.sipush 220, 3) := by decide +kernel
theorem dX1_init_10 : decode cX1_init 10 = .ok (.multianewarray 9 2, 4) := by decide +kernel
theorem dX1_init_14 : decode cX1_init 14 = .ok (.putfield 11, 3) := by decide +kernel
theorem dX1_init_17 : decode cX1_init 17 = .ok (.aload_n 0, 1) := by decide +kernel
theorem dX1_init_18 : decode cX1_init 18 = .ok (.bipush 14, 2) := by decide +kernel
theorem dX1_init_20 : decode cX1_init 20 = .ok (.newarray .int, 2) := by decide +kernel
theorem dX1_init_22 : decode cX1_init 22 = .ok (.putfield 16, 3) := by decide +kernel
theorem dX1_init_25 : decode cX1_init 25 = .ok (.aload_n 0, 1) := by decide +kernel
theorem dX1_init_26 : decode cX1_init 26 = .ok (.bipush 10, 2) := by decide +kernel
theorem dX1_init_28 : decode cX1_init 28 = .ok (.anewarray 20, 3) := by decide +kernel
theorem dX1_init_31 : decode cX1_init 31 = .ok (.putfield 22, 3) := by decide +kernel
theorem dX1_init_34 : decode cX1_init 34 = .ok (.iconst 0, 1) := by decide +kernel
theorem dX1_init_35 : decode cX1_init 35 = .ok (.istore_n 1, 1) := by decide +kernel
theorem dX1_init_36 : decode cX1_init 36 = .ok (.iload_n 1, 1) := by decide +kernel
theorem dX1_init_37 : decode cX1_init 37 = .ok (.bipush 10, 2) := by decide +kernel
theorem dX1_init_39 : decode cX1_init 39 = .ok (.if_icmp .ge 22, 3) := by decide +kernel
theorem dX1_init_42 : decode cX1_init 42 = .ok (.aload_n 0, 1) := by decide +kernel
theorem dX1_init_43 : decode cX1_init 43 = .ok (.getfield 22, 3) := by decide +kernel
theorem dX1_init_46 : decode cX1_init 46 = .ok (.iload_n 1, 1) := by decide +kernel
theorem dX1_init_47 : decode cX1_init 47 = .ok (.new 20, 3) := by decide +kernel
theorem dX1_init_50 : decode cX1_init 50 = .ok (.dup, 1) := by decide +kernel
theorem dX1_init_51 : decode cX1_init 51 = .ok (.invokespecial 26, 3) := by decide +kernel
theorem dX1_init_54 : decode cX1_init 54 = .ok (.aastore, 1) := by decide +kernel
theorem dX1_init_55 : decode cX1_init 55 = .ok (.iinc 1 1, 3) := by decide +kernel
theorem dX1_init_58 : decode cX1_init 58 = .ok (.goto (-22), 3) := by decide +kernel
theorem dX1_init_61 : decode cX1_init 61 = .ok (.return_, 1) := by decide +kernel
theorem dX1_clear_0 : decode cX1_clear 0 = .ok (.aload_n 0, 1) := by decide +kernel
theorem dX1_clear_1 : decode cX1_clear 1 = .ok (.getfield 16, 3) := by decide +kernel
theorem dX1_clear_4 : decode cX1_clear 4 = .ok (.iconst 0, 1) := by decide +kernel
theorem dX1_clear_5 : decode cX1_clear 5 = .ok (.invokestatic 27, 3) := by decide +kernel
theorem dX1_clear_8 : decode cX1_clear 8 = .ok (.iconst 0, 1) := by decide +kernel
theorem dX1_clear_9 : decode cX1_clear 9 = .ok (.istore_n 1, 1) := by decide +kernel
theorem dX1_clear_10 : decode cX1_clear 10 = .ok (.iload_n 1, 1) := by decide +kernel
theorem dX1_clear_11 : decode cX1_clear 11 = .ok (.bipush 10, 2) := by decide +kernel
theorem dX1_clear_13 : decode cX1_clear 13 = .ok (.if_icmp .ge 18, 3) := by decide +kernel
theorem dX1_clear_16 : decode cX1_clear 16 = .ok (.aload_n 0, 1) := by decide +kernel
theorem dX1_clear_17 : decode cX1_clear 17 = .ok (.getfield 22, 3) := by decide +kernel
theorem dX1_clear_20 : decode cX1_clear 20 = .ok (.iload_n 1, 1) := by decide +kernel
theorem dX1_clear_21 : decode cX1_clear 21 = .ok (.aaload, 1) := by decide +kernel
theorem dX1_clear_22 : decode cX1_clear 22 = .ok (.invokevirtual 33, 3) := by decide +kernel
theorem dX1_clear_25 : decode cX1_clear 25 = .ok (.iinc 1 1, 3) := by decide +kernel
theorem dX1_clear_28 : decode cX1_clear 28 = .ok (.goto (-18), 3) := by decide +kernel
theorem dX1_clear_31 : decode cX1_clear 31 = .ok (.return_, 1) := by decide +kernel
theorem dX1_isNew_0 : decode cX1_isNew 0 = .ok (.iconst 0, 1) := by decide +kernel
theorem dX1_isNew_1 : decode cX1_isNew 1 = .ok (.istore_n 3, 1) := by decide +kernel
theorem dX1_isNew_2 : decode cX1_isNew 2 = .ok (.iload_n 3, 1) := by decide +kernel
theorem dX1_isNew_3 : decode cX1_isNew 3 = .ok (.aload_n 0, 1) := by decide +kernel
theorem dX1_isNew_4 : decode cX1_isNew 4 = .ok (.getfield 16, 3) := by decide +kernel
theorem dX1_isNew_7 : decode cX1_isNew 7 = .ok (.iload_n 1, 1) := by decide +kernel
theorem dX1_isNew_8 : decode cX1_isNew 8 = .ok (.iaload, 1) := by decide +kernel
theorem dX1_isNew_9 : decode cX1_isNew 9 = .ok (.if_icmp .ge 23, 3) := by decide +kernel
theorem dX1_isNew_12 : decode cX1_isNew 12 = .ok (.aload_n 0, 1) := by decide +kernel
theorem dX1_isNew_13 : decode cX1_isNew 13 = .ok (.getfield 11, 3) := by decide +kernel
theorem dX1_isNew_16 : decode cX1_isNew 16 = .ok (.iload_n 1, 1) := by decide +kernel
theorem dX1_isNew_17 : decode cX1_isNew 17 = .ok (.aaload, 1) := by decide +kernel
theorem dX1_isNew_18 : decode cX1_isNew 18 = .ok (.iload_n 3, 1) := by decide +kernel
theorem dX1_isNew_19 : decode cX1_isNew 19 = .ok (.iaload, 1) := by decide +kernel
theorem dX1_isNew_20 : decode cX1_isNew 20 = .ok (.iload_n 2, 1) := by decide +kernel
theorem dX1_isNew_21 : decode cX1_isNew 21 = .ok (.if_icmp .ne 5, 3) := by decide +kernel
theorem dX1_isNew_24 : decode cX1_isNew 24 = .ok (.iconst 0, 1) := by decide +kernel
theorem dX1_isNew_25 : decode cX1_isNew 25 = .ok (.ireturn, 1) := by decide +kernel
theorem dX1_isNew_26 : decode cX1_isNew 26 = .ok (.iinc 3 1, 3) := by decide +kernel
theorem dX1_isNew_29 : decode cX1_isNew 29 = .ok (.goto (-27), 3) := by decide +kernel
theorem dX1_isNew_32 : decode cX1_isNew 32 = .ok (.aload_n 0, 1) := by decide +kernel
theorem dX1_isNew_33 : decode cX1_isNew 33 = .ok (.getfield 16, 3) := by decide +kernel
theorem dX1_isNew_36 : decode cX1_isNew 36 = .ok (.iload_n 1, 1) := by decide +kernel
theorem dX1_isNew_37 : decode cX1_isNew 37 = .ok (.iaload, 1) := by decide +kernel
theorem dX1_isNew_38 : decode cX1_isNew 38 = .ok (.sipush 220, 3) := by decide +kernel
theorem dX1_isNew_41 : decode cX1_isNew 41 = .ok (.if_icmp .ge 27, 3) := by decide +kernel
theorem dX1_isNew_44 : decode cX1_isNew 44 = .ok (.aload_n 0, 1) := by decide +kernel
theorem dX1_isNew_45 : decode cX1_isNew 45 = .ok (.getfield 11, 3) := by decide +kernel
theorem dX1_isNew_48 : decode cX1_isNew 48 = .ok (.iload_n 1, 1) := by decide +kernel
theorem dX1_isNew_49 : decode cX1_isNew 49 = .ok (.aaload, 1) := by decide +kernel
theorem dX1_isNew_50 : decode cX1_isNew 50 = .ok (.aload_n 0, 1) := by decide +kernel
theorem dX1_isNew_51 : decode cX1_isNew 51 = .ok (.getfield 16, 3) := by decide +kernel
theorem dX1_isNew_54 : decode cX1_isNew 54 = .ok (.iload_n 1, 1) := by decide +kernel
theorem dX1_isNew_55 : decode cX1_isNew 55 = .ok (.iaload, 1) := by decide +kernel
theorem dX1_isNew_56 : decode cX1_isNew 56 = .ok (.iload_n 2, 1) := by decide +kernel
theorem dX1_isNew_57 : decode cX1_isNew 57 = .ok (.iastore, 1) := by decide +kernel
theorem dX1_isNew_58 : decode cX1_isNew 58 = .ok (.aload_n 0, 1) := by decide +kernel
theorem dX1_isNew_59 : decode cX1_isNew 59 = .ok (.getfield 16, 3) := by decide +kernel
theorem dX1_isNew_62 : decode cX1_isNew 62 = .ok (.iload_n 1, 1) := by decide +kernel
theorem dX1_isNew_63 : decode cX1_isNew 63 = .ok (.dup2, 1) := by decide +kernel
theorem dX1_isNew_64 : decode cX1_isNew 64 = .ok (.iaload, 1) := by decide +kernel
theorem dX1_isNew_65 : decode cX1_isNew 65 = .ok (.iconst 1, 1) := by decide +kernel
theorem dX1_isNew_66 : decode cX1_isNew 66 = .ok (.iadd, 1) := by decide +kernel
theorem dX1_isNew_67 : decode cX1_isNew 67 = .ok (.iastore, 1) := by decide +kernel
theorem dX1_isNew_68 : decode cX1_isNew 68 = .ok (.iconst 1, 1) := by decide +kernel
theorem dX1_isNew_69 : decode cX1_isNew 69 = .ok (.ireturn, 1) := by decide +kernel
theorem dX1_addToGroup_0 : decode cX1_addToGroup 0 = .ok (.iload_n 2, 1) := by decide +kernel
theorem dX1_addToGroup_1 : decode cX1_addToGroup 1 = .ok (.ldc 36, 2) := by decide +kernel
theorem dX1_addToGroup_3 : decode cX1_addToGroup 3 = .ok (.iand, 1) := by decide +kernel
theorem dX1_addToGroup_4 : decode cX1_addToGroup 4 = .ok (.istore_n 3, 1) := by decide +kernel
theorem dX1_addToGroup_5 : decode cX1_addToGroup 5 = .ok (.iconst 0, 1) := by decide +kernel
theorem dX1_addToGroup_6 : decode cX1_addToGroup 6 = .ok (.istore 4, 2) := by decide +kernel
theorem dX1_addToGroup_8 : decode cX1_addToGroup 8 = .ok (.iload 4, 2) := by decide +kernel
theorem dX1_addToGroup_10 : decode cX1_addToGroup 10 = .ok (.aload_n 0, 1) := by decide +kernel
theorem dX1_addToGroup_11 : decode cX1_addToGroup 11 = .ok (.getfield 16, 3) := by decide +kernel
theorem dX1_addToGroup_14 : decode cX1_addToGroup 14 = .ok (.iload_n 1, 1) := by decide +kernel
theorem dX1_addToGroup_15 : decode cX1_addToGroup 15 = .ok (.iaload, 1) := by decide +kernel
theorem dX1_addToGroup_16 : decode cX1_addToGroup 16 = .ok (.if_icmp .ge 41, 3) := by decide +kernel
theorem dX1_addToGroup_19 : decode cX1_addToGroup 19 = .ok (.aload_n 0, 1) := by decide +kernel
theorem dX1_addToGroup_20 : decode cX1_addToGroup 20 = .ok (.getfield 11, 3) := by decide +kernel
theorem dX1_addToGroup_23 : decode cX1_addToGroup 23 = .ok (.iload_n 1, 1) := by decide +kernel
theorem dX1_addToGroup_24 : decode cX1_addToGroup 24 = .ok (.aaload, 1) := by decide +kernel
theorem dX1_addToGroup_25 : decode cX1_addToGroup 25 = .ok (.iload 4, 2) := by decide +kernel
theorem dX1_addToGroup_27 : decode cX1_addToGroup 27 = .ok (.iaload, 1) := by decide +kernel
theorem dX1_addToGroup_28 : decode cX1_addToGroup 28 = .ok (.ldc 36, 2) := by decide +kernel
theorem dX1_addToGroup_30 : decode cX1_addToGroup 30 = .ok (.iand, 1) := by decide +kernel
theorem dX1_addToGroup_31 : decode cX1_addToGroup 31 = .ok (.iload_n 3, 1) := by decide +kernel
theorem dX1_addToGroup_32 : decode cX1_addToGroup 32 = .ok (.if_icmp .ne 19, 3) := by decide +kernel
theorem dX1_addToGroup_35 : decode cX1_addToGroup 35 = .ok (.aload_n 0, 1) := by decide +kernel
theorem dX1_addToGroup_36 : decode cX1_addToGroup 36 = .ok (.getfield 11, 3) := by decide +kernel
theorem dX1_addToGroup_39 : decode cX1_addToGroup 39 = .ok (.iload_n 1, 1) := by decide +kernel
theorem dX1_addToGroup_40 : decode cX1_addToGroup 40 = .ok (.aaload, 1) := by decide +kernel
theorem dX1_addToGroup_41 : decode cX1_addToGroup 41 = .ok (.iload 4, 2) := by decide +kernel
theorem dX1_addToGroup_43 : decode cX1_addToGroup 43 = .ok (.dup2, 1) := by decide +kernel
theorem dX1_addToGroup_44 : decode cX1_addToGroup 44 = .ok (.iaload, 1) := by decide +kernel
theorem dX1_addToGroup_45 : decode cX1_addToGroup 45 = .ok (.sipush 256, 3) := by decide +kernel
theorem dX1_addToGroup_48 : decode cX1_addToGroup 48 = .ok (.iadd, 1) := by decide +kernel
theorem dX1_addToGroup_49 : decode cX1_addToGroup 49 = .ok (.iastore, 1) := by decide +kernel
theorem dX1_addToGroup_50 : decode cX1_addToGroup 50 = .ok (.return_, 1) := by decide +kernel
theorem dX1_addToGroup_51 : decode cX1_addToGroup 51 = .ok (.iinc 4 1, 3) := by decide +kernel
theorem dX1_addToGroup_54 : decode cX1_addToGroup 54 = .ok (.goto (-46), 3) := by decide +kernel
theorem dX1_addToGroup_57 : decode cX1_addToGroup 57 = .ok (.aload_n 0, 1) := by decide +kernel
theorem dX1_addToGroup_58 : decode cX1_addToGroup 58 = .ok (.getfield 16, 3) := by decide +kernel
theorem dX1_addToGroup_61 : decode cX1_addToGroup 61 = .ok (.iload_n 1, 1) := by decide +kernel
theorem dX1_addToGroup_62 : decode cX1_addToGroup 62 = .ok (.iaload, 1) := by decide +kernel
theorem dX1_addToGroup_63 : decode cX1_addToGroup 63 = .ok (.sipush 220, 3) := by decide +kernel
theorem dX1_addToGroup_66 : decode cX1_addToGroup 66 = .ok (.if_icmp .ge 31, 3) := by decide +kernel
theorem dX1_addToGroup_69 : decode cX1_addToGroup 69 = .ok (.aload_n 0, 1) := by decide +kernel
theorem dX1_addToGroup_70 : decode cX1_addToGroup 70 = .ok (.getfield 11, 3) := by decide +kernel
theorem dX1_addToGroup_73 : decode cX1_addToGroup 73 = .ok (.iload_n 1, 1) := by decide +kernel
theorem dX1_addToGroup_74 : decode cX1_addToGroup 74 = .ok (.aaload, 1) := by decide +kernel
theorem dX1_addToGroup_75 : decode cX1_addToGroup 75 = .ok (.aload_n 0, 1) := by decide +kernel
theorem dX1_addToGroup_76 : decode cX1_addToGroup 76 = .ok (.getfield 16, 3) := by decide +kernel
theorem dX1_addToGroup_79 : decode cX1_addToGroup 79 = .ok (.iload_n 1, 1) := by decide +kernel
theorem dX1_addToGroup_80 : decode cX1_addToGroup 80 = .ok (.iaload, 1) := by decide +kernel
theorem dX1_addToGroup_81 : decode cX1_addToGroup 81 = .ok (.iload_n 3, 1) := by decide +kernel
theorem dX1_addToGroup_82 : decode cX1_addToGroup 82 = .ok (.sipush 512, 3) := by decide +kernel
theorem dX1_addToGroup_85 : decode cX1_addToGroup 85 = .ok (.iadd, 1) := by decide +kernel
theorem dX1_addToGroup_86 : decode cX1_addToGroup 86 = .ok (.iastore, 1) := by decide +kernel
theorem dX1_addToGroup_87 : decode cX1_addToGroup 87 = .ok (.aload_n 0, 1) := by decide +kernel
theorem dX1_addToGroup_88 : decode cX1_addToGroup 88 = .ok (.getfield 16, 3) := by decide +kernel
theorem dX1_addToGroup_91 : decode cX1_addToGroup 91 = .ok (.iload_n 1, 1) := by decide +kernel
theorem dX1_addToGroup_92 : decode cX1_addToGroup 92 = .ok (.dup2, 1) := by decide +kernel
theorem dX1_addToGroup_93 : decode cX1_addToGroup 93 = .ok (.iaload, 1) := by decide +kernel
theorem dX1_addToGroup_94 : decode cX1_addToGroup 94 = .ok (.iconst 1, 1) := by decide +kernel
theorem dX1_addToGroup_95 : decode cX1_addToGroup 95 = .ok (.iadd, 1) := by decide +kernel
theorem dX1_addToGroup_96 : decode cX1_addToGroup 96 = .ok (.iastore, 1) := by decide +kernel
theorem dX1_addToGroup_97 : decode cX1_addToGroup 97 = .ok (.return_, 1) := by decide +kernel
theorem dX2_init_0 : decode cX2_init 0 = .ok (.aload_n 0, 1) := by decide +kernel
theorem dX2_init_1 : decode cX2_init 1 = .ok (.invokespecial 3, 3) := by decide +kernel
theorem dX2_init_4 : decode cX2_init 4 = .ok (.aload_n 0, 1) := by decide +kernel
theorem dX2_init_5 : decode cX2_init 5 = .ok (.bipush 10, 2) := by decide +kernel
theorem dX2_init_7 : decode cX2_init 7 = .ok (.newarray .int, 2) := by decide +kernel
theorem dX2_init_9 : decode cX2_init 9 = .ok (.putfield 9, 3) := by decide +kernel
theorem dX2_init_12 : decode cX2_init 12 = .ok (.aload_n 0, 1) := by decide +kernel
theorem dX2_init_13 : decode cX2_init 13 = .ok (.bipush 10, 2) := by decide +kernel
theorem dX2_init_15 : decode cX2_init 15 = .ok (.newarray .int, 2) := by decide +kernel
theorem dX2_init_17 : decode cX2_init 17 = .ok (.putfield 15, 3) := by decide +kernel
theorem dX2_init_20 : decode cX2_init 20 = .ok (.aload_n 0, 1) := by decide +kernel
theorem dX2_init_21 : decode cX2_init 21 = .ok (.bipush 10, 2) := by decide +kernel
theorem dX2_init_23 : decode cX2_init 23 = .ok (.newarray .int, 2) := by decide +kernel
theorem dX2_init_25 : decode cX2_init 25 = .ok (.putfield 18, 3) := by decide +kernel
theorem dX2_init_28 : decode cX2_init 28 = .ok (.aload_n 0, 1) := by decide +kernel
theorem dX2_init_29 : decode cX2_init 29 = .ok (.iconst 0, 1) := by decide +kernel
theorem dX2_init_30 : decode cX2_init 30 = .ok (.putfield 21, 3) := by decide +kernel
theorem dX2_init_33 : decode cX2_init 33 = .ok (.return_, 1) := by decide +kernel
theorem dX2_setOne_0 : decode cX2_setOne 0 = .ok (.aload_n 0, 1) := by decide +kernel
theorem dX2_setOne_1 : decode cX2_setOne 1 = .ok (.getfield 9, 3) := by decide +kernel
theorem dX2_setOne_4 : decode cX2_setOne 4 = .ok (.iconst 0, 1) := by decide +kernel
theorem dX2_setOne_5 : decode cX2_setOne 5 = .ok (.iload_n 1, 1) := by decide +kernel
theorem dX2_setOne_6 : decode cX2_setOne 6 = .ok (.iastore, 1) := by decide +kernel
theorem dX2_setOne_7 : decode cX2_setOne 7 = .ok (.aload_n 0, 1) := by decide +kernel
theorem dX2_setOne_8 : decode cX2_setOne 8 = .ok (.getfield 15, 3) := by decide +kernel
theorem dX2_setOne_11 : decode cX2_setOne 11 = .ok (.iconst 0, 1) := by decide +kernel
theorem dX2_setOne_12 : decode cX2_setOne 12 = .ok (.iload_n 2, 1) := by decide +kernel
theorem dX2_setOne_13 : decode cX2_setOne 13 = .ok (.iastore, 1) := by decide +kernel
theorem dX2_setOne_14 : decode cX2_setOne 14 = .ok (.aload_n 0, 1) := by decide +kernel
theorem dX2_setOne_15 : decode cX2_setOne 15 = .ok (.iconst 1, 1) := by decide +kernel
theorem dX2_setOne_16 : decode cX2_setOne 16 = .ok (.putfield 21, 3) := by decide +kernel
theorem dX2_setOne_19 : decode cX2_setOne 19 = .ok (.return_, 1) := by decide +kernel
theorem dX2_setNone_0 : decode cX2_setNone 0 = .ok (.aload_n 0, 1) := by decide +kernel
theorem dX2_setNone_1 : decode cX2_setNone 1 = .ok (.iconst 0, 1) := by decide +kernel
theorem dX2_setNone_2 : decode cX2_setNone 2 = .ok (.putfield 21, 3) := by decide +kernel
theorem dX2_setNone_5 : decode cX2_setNone 5 = .ok (.aload_n 0, 1) := by decide +kernel
theorem dX2_setNone_6 : decode cX2_setNone 6 = .ok (.getfield 18, 3) := by decide +kernel
theorem dX2_setNone_9 : decode cX2_setNone 9 = .ok (.iconst 0, 1) := by decide +kernel
theorem dX2_setNone_10 : decode cX2_setNone 10 = .ok (.invokestatic 25, 3) := by decide +kernel
theorem dX2_setNone_13 : decode cX2_setNone 13 = .ok (.return_, 1) := by decide +kernel
theorem dX2_gather_0 : decode cX2_gather 0 = .ok (.aload_n 0, 1) := by decide +kernel
theorem dX2_gather_1 : decode cX2_gather 1 = .ok (.iconst 0, 1) := by decide +kernel
theorem dX2_gather_2 : decode cX2_gather 2 = .ok (.putfield 21, 3) := by decide +kernel
theorem dX2_gather_5 : decode cX2_gather 5 = .ok (.iconst 0, 1) := by decide +kernel
theorem dX2_gather_6 : decode cX2_gather 6 = .ok (.istore_n 3, 1) := by decide +kernel
theorem dX2_gather_7 : decode cX2_gather 7 = .ok (.iload_n 3, 1) := by decide +kernel
theorem dX2_gather_8 : decode cX2_gather 8 = .ok (.aload_n 1, 1) := by decide +kernel
theorem dX2_gather_9 : decode cX2_gather 9 = .ok (.getfield 31, 3) := by decide +kernel
theorem dX2_gather_12 : decode cX2_gather 12 = .ok (.if_icmp .ge 39, 3) := by decide +kernel
theorem dX2_gather_15 : decode cX2_gather 15 = .ok (.aload_n 0, 1) := by decide +kernel
theorem dX2_gather_16 : decode cX2_gather 16 = .ok (.getfield 18, 3) := by decide +kernel
theorem dX2_gather_19 : decode cX2_gather 19 = .ok (.iload_n 3, 1) := by decide +kernel
theorem dX2_gather_20 : decode cX2_gather 20 = .ok (.aload_n 0, 1) := by decide +kernel
theorem dX2_gather_21 : decode cX2_gather 21 = .ok (.aload_n 1, 1) := by decide +kernel
theorem dX2_gather_22 : decode cX2_gather 22 = .ok (.getfield 34, 3) := by decide +kernel
theorem dX2_gather_25 : decode cX2_gather 25 = .ok (.iload_n 3, 1) := by decide +kernel
theorem dX2_gather_26 : decode cX2_gather 26 = .ok (.iaload, 1) := by decide +kernel
theorem dX2_gather_27 : decode cX2_gather 27 = .ok (.iload_n 2, 1) := by decide +kernel
theorem dX2_gather_28 : decode cX2_gather 28 = .ok (.ifCond .eq 12, 3) := by decide +kernel
theorem dX2_gather_31 : decode cX2_gather 31 = .ok (.aload_n 1, 1) := by decide +kernel
theorem dX2_gather_32 : decode cX2_gather 32 = .ok (.getfield 35, 3) := by decide +kernel
theorem dX2_gather_35 : decode cX2_gather 35 = .ok (.iload_n 3, 1) := by decide +kernel
theorem dX2_gather_36 : decode cX2_gather 36 = .ok (.iaload, 1) := by decide +kernel
theorem dX2_gather_37 : decode cX2_gather 37 = .ok (.goto 4, 3) := by decide +kernel
theorem dX2_gather_40 : decode cX2_gather 40 = .ok (.iconst (-1), 1) := by decide +kernel
theorem dX2_gather_41 : decode cX2_gather 41 = .ok (.invokevirtual 36, 3) := by decide +kernel
theorem dX2_gather_44 : decode cX2_gather 44 = .ok (.iastore, 1) := by decide +kernel
theorem dX2_gather_45 : decode cX2_gather 45 = .ok (.iinc 3 1, 3) := by decide +kernel
theorem dX2_gather_48 : decode cX2_gather 48 = .ok (.goto (-41), 3) := by decide +kernel
theorem dX2_gather_51 : decode cX2_gather 51 = .ok (.return_, 1) := by decide +kernel
theorem dX2_keyAt_0 : decode cX2_keyAt 0 = .ok (.iload_n 1, 1) := by decide +kernel
theorem dX2_keyAt_1 : decode cX2_keyAt 1 = .ok (.ifCond .lt 20, 3) := by decide +kernel
theorem dX2_keyAt_4 : decode cX2_keyAt 4 = .ok (.iload_n 1, 1) := by decide +kernel
theorem dX2_keyAt_5 : decode cX2_keyAt 5 = .ok (.aload_n 0, 1) := by decide +kernel
theorem dX2_keyAt_6 : decode cX2_keyAt 6 = .ok (.getfield 21, 3) := by decide +kernel
theorem dX2_keyAt_9 : decode cX2_keyAt 9 = .ok (.if_icmp .ge 12, 3) := by decide +kernel
theorem dX2_keyAt_12 : decode cX2_keyAt 12 = .ok (.aload_n 0, 1) := by decide +kernel
theorem dX2_keyAt_13 : decode cX2_keyAt 13 = .ok (.getfield 9, 3) := by decide +kernel
theorem dX2_keyAt_16 : decode cX2_keyAt 16 = .ok (.iload_n 1, 1) := by decide +kernel
theorem dX2_keyAt_17 : decode cX2_keyAt 17 = .ok (.iaload, 1) := by decide +kernel
theorem dX2_keyAt_18 : decode cX2_keyAt 18 = .ok (.goto 4, 3) := by decide +kernel
theorem dX2_keyAt_21 : decode cX2_keyAt 21 = .ok (.iconst (-1), 1) := by decide +kernel
theorem dX2_keyAt_22 : decode cX2_keyAt 22 = .ok (.ireturn, 1) := by decide +kernel
theorem dX2_valueAt_0 : decode cX2_valueAt 0 = .ok (.iload_n 1, 1) := by decide +kernel
theorem dX2_valueAt_1 : decode cX2_valueAt 1 = .ok (.ifCond .lt 20, 3) := by decide +kernel
theorem dX2_valueAt_4 : decode cX2_valueAt 4 = .ok (.iload_n 1, 1) := by decide +kernel
theorem dX2_valueAt_5 : decode cX2_valueAt 5 = .ok (.aload_n 0, 1) := by decide +kernel
theorem dX2_valueAt_6 : decode cX2_valueAt 6 = .ok (.getfield 21, 3) := by decide +kernel
theorem dX2_valueAt_9 : decode cX2_valueAt 9 = .ok (.if_icmp .ge 12, 3) := by decide +kernel
theorem dX2_valueAt_12 : decode cX2_valueAt 12 = .ok (.aload_n 0, 1) := by decide +kernel
theorem dX2_valueAt_13 : decode cX2_valueAt 13 = .ok (.getfield 15, 3) := by decide +kernel
theorem dX2_valueAt_16 : decode cX2_valueAt 16 = .ok (.iload_n 1, 1) := by decide +kernel
theorem dX2_valueAt_17 : decode cX2_valueAt 17 = .ok (.iaload, 1) := by decide +kernel
theorem dX2_valueAt_18 : decode cX2_valueAt 18 = .ok (.goto 4, 3) := by decide +kernel
theorem dX2_valueAt_21 : decode cX2_valueAt 21 = .ok (.iconst (-1), 1) := by decide +kernel
theorem dX2_valueAt_22 : decode cX2_valueAt 22 = .ok (.ireturn, 1) := by decide +kernel
theorem dX2_placeOf_0 : decode cX2_placeOf 0 = .ok (.iconst 0, 1) := by decide +kernel
theorem dX2_placeOf_1 : decode cX2_placeOf 1 = .ok (.istore_n 3, 1) := by decide +kernel
theorem dX2_placeOf_2 : decode cX2_placeOf 2 = .ok (.iload_n 3, 1) := by decide +kernel
theorem dX2_placeOf_3 : decode cX2_placeOf 3 = .ok (.aload_n 0, 1) := by decide +kernel
theorem dX2_placeOf_4 : decode cX2_placeOf 4 = .ok (.getfield 21, 3) := by decide +kernel
theorem dX2_placeOf_7 : decode cX2_placeOf 7 = .ok (.if_icmp .ge 31, 3) := by decide +kernel
theorem dX2_placeOf_10 : decode cX2_placeOf 10 = .ok (.aload_n 0, 1) := by decide +kernel
theorem dX2_placeOf_11 : decode cX2_placeOf 11 = .ok (.getfield 9, 3) := by decide +kernel
theorem dX2_placeOf_14 : decode cX2_placeOf 14 = .ok (.iload_n 3, 1) := by decide +kernel
theorem dX2_placeOf_15 : decode cX2_placeOf 15 = .ok (.iaload, 1) := by decide +kernel
theorem dX2_placeOf_16 : decode cX2_placeOf 16 = .ok (.iload_n 1, 1) := by decide +kernel
theorem dX2_placeOf_17 : decode cX2_placeOf 17 = .ok (.if_icmp .ne 15, 3) := by decide +kernel
theorem dX2_placeOf_20 : decode cX2_placeOf 20 = .ok (.aload_n 0, 1) := by decide +kernel
theorem dX2_placeOf_21 : decode cX2_placeOf 21 = .ok (.getfield 15, 3) := by decide +kernel
theorem dX2_placeOf_24 : decode cX2_placeOf 24 = .ok (.iload_n 3, 1) := by decide +kernel
theorem dX2_placeOf_25 : decode cX2_placeOf 25 = .ok (.iaload, 1) := by decide +kernel
theorem dX2_placeOf_26 : decode cX2_placeOf 26 = .ok (.iload_n 2, 1) := by decide +kernel
theorem dX2_placeOf_27 : decode cX2_placeOf 27 = .ok (.if_icmp .ne 5, 3) := by decide +kernel
theorem dX2_placeOf_30 : decode cX2_placeOf 30 = .ok (.iload_n 3, 1) := by decide +kernel
theorem dX2_placeOf_31 : decode cX2_placeOf 31 = .ok (.ireturn, 1) := by decide +kernel
theorem dX2_placeOf_32 : decode cX2_placeOf 32 = .ok (.iinc 3 1, 3) := by decide +kernel
theorem dX2_placeOf_35 : decode cX2_placeOf 35 = .ok (.goto (-33), 3) := by decide +kernel
theorem dX2_placeOf_38 : decode cX2_placeOf 38 = .ok (.aload_n 0, 1) := by decide +kernel
theorem dX2_placeOf_39 : decode cX2_placeOf 39 = .ok (.getfield 21, 3) := by decide +kernel
theorem dX2_placeOf_42 : decode cX2_placeOf 42 = .ok (.bipush 10, 2) := by decide +kernel
theorem dX2_placeOf_44 : decode cX2_placeOf 44 = .ok (.if_icmp .lt 5, 3) := by decide +kernel
theorem dX2_placeOf_47 : decode cX2_placeOf 47 = .ok (.iconst 0, 1) := by decide +kernel
theorem dX2_placeOf_48 : decode cX2_placeOf 48 = .ok (.ireturn, 1) := by decide +kernel
theorem dX2_placeOf_49 : decode cX2_placeOf 49 = .ok (.aload_n 0, 1) := by decide +kernel
theorem dX2_placeOf_50 : decode cX2_placeOf 50 = .ok (.getfield 9, 3) := by decide +kernel
theorem dX2_placeOf_53 : decode cX2_placeOf 53 = .ok (.aload_n 0, 1) := by decide +kernel
theorem dX2_placeOf_54 : decode cX2_placeOf 54 = .ok (.getfield 21, 3) := by decide +kernel
theorem dX2_placeOf_57 : decode cX2_placeOf 57 = .ok (.iload_n 1, 1) := by decide +kernel
theorem dX2_placeOf_58 : decode cX2_placeOf 58 = .ok (.iastore, 1) := by decide +kernel
theorem dX2_placeOf_59 : decode cX2_placeOf 59 = .ok (.aload_n 0, 1) := by decide +kernel
theorem dX2_placeOf_60 : decode cX2_placeOf 60 = .ok (.getfield 15, 3) := by decide +kernel
theorem dX2_placeOf_63 : decode cX2_placeOf 63 = .ok (.aload_n 0, 1) := by decide +kernel
theorem dX2_placeOf_64 : decode cX2_placeOf 64 = .ok (.getfield 21, 3) := by decide +kernel
theorem dX2_placeOf_67 : decode cX2_placeOf 67 = .ok (.iload_n 2, 1) := by decide +kernel
theorem dX2_placeOf_68 : decode cX2_placeOf 68 = .ok (.iastore, 1) := by decide +kernel
theorem dX2_placeOf_69 : decode cX2_placeOf 69 = .ok (.aload_n 0, 1) := by decide +kernel
theorem dX2_placeOf_70 : decode cX2_placeOf 70 = .ok (.dup, 1) := by decide +kernel
theorem dX2_placeOf_71 : decode cX2_placeOf 71 = .ok (.getfield 21, 3) := by decide +kernel
theorem dX2_placeOf_74 : decode cX2_placeOf 74 = .ok (.iconst 1, 1) := by decide +kernel
theorem dX2_placeOf_75 : decode cX2_placeOf 75 = .ok (.iadd, 1) := by decide +kernel
theorem dX2_placeOf_76 : decode cX2_placeOf 76 = .ok (.putfield 21, 3) := by decide +kernel
theorem dX2_placeOf_79 : decode cX2_placeOf 79 = .ok (.aload_n 0, 1) := by decide +kernel
theorem dX2_placeOf_80 : decode cX2_placeOf 80 = .ok (.getfield 21, 3) := by decide +kernel
theorem dX2_placeOf_83 : decode cX2_placeOf 83 = .ok (.iconst 1, 1) := by decide +kernel
theorem dX2_placeOf_84 : decode cX2_placeOf 84 = .ok (.isub, 1) := by decide +kernel
theorem dX2_placeOf_85 : decode cX2_placeOf 85 = .ok (.ireturn, 1) := by decide +kernel
theorem dX3_init_0 : decode cX3_init 0 = .ok (.aload_n 0, 1) := by decide +kernel
theorem dX3_init_1 : decode cX3_init 1 = .ok (.invokespecial 1, 3) := by decide +kernel
theorem dX3_init_4 : decode cX3_init 4 = .ok (.aload_n 0, 1) := by decide +kernel
theorem dX3_init_5 : decode cX3_init 5 = .ok (.new 7, 3) := by decide +kernel
theorem dX3_init_8 : decode cX3_init 8 = .ok (.dup, 1) := by decide +kernel
theorem dX3_init_9 : decode cX3_init 9 = .ok (.invokespecial 9, 3) := by decide +kernel
theorem dX3_init_12 : decode cX3_init 12 = .ok (.putfield 10, 3) := by decide +kernel
theorem dX3_init_15 : decode cX3_init 15 = .ok (.aload_n 0, 1) := by decide +kernel
theorem dX3_init_16 : decode cX3_init 16 = .ok (.new 7, 3) := by decide +kernel
theorem dX3_init_19 : decode cX3_init 19 = .ok (.dup, 1) := by decide +kernel
theorem dX3_init_20 : decode cX3_init 20 = .ok (.invokespecial 9, 3) := by decide +kernel
theorem dX3_init_23 : decode cX3_init 23 = .ok (.putfield 16, 3) := by decide +kernel
theorem dX3_init_26 : decode cX3_init 26 = .ok (.aload_n 0, 1) := by decide +kernel
theorem dX3_init_27 : decode cX3_init 27 = .ok (.new 19, 3) := by decide +kernel
theorem dX3_init_30 : decode cX3_init 30 = .ok (.dup, 1) := by decide +kernel
theorem dX3_init_31 : decode cX3_init 31 = .ok (.invokespecial 21, 3) := by decide +kernel
theorem dX3_init_34 : decode cX3_init 34 = .ok (.putfield 22, 3) := by decide +kernel
theorem dX3_init_37 : decode cX3_init 37 = .ok (.return_, 1) := by decide +kernel
theorem dX4_init_0 : decode cX4_init 0 = .ok (.aload_n 0, 1) := by decide +kernel
theorem dX4_init_1 : decode cX4_init 1 = .ok (.invokespecial 3, 3) := by decide +kernel
theorem dX4_init_4 : decode cX4_init 4 = .ok (.aload_n 0, 1) := by decide +kernel
theorem dX4_init_5 : decode cX4_init 5 = .ok (.bipush 10, 2) := by decide +kernel
theorem dX4_init_7 : decode cX4_init 7 = .ok (.newarray .int, 2) := by decide +kernel
theorem dX4_init_9 : decode cX4_init 9 = .ok (.putfield 9, 3) := by decide +kernel
theorem dX4_init_12 : decode cX4_init 12 = .ok (.aload_n 0, 1) := by decide +kernel
theorem dX4_init_13 : decode cX4_init 13 = .ok (.bipush 10, 2) := by decide +kernel
theorem dX4_init_15 : decode cX4_init 15 = .ok (.newarray .float, 2) := by decide +kernel
theorem dX4_init_17 : decode cX4_init 17 = .ok (.putfield 15, 3) := by decide +kernel
theorem dX4_init_20 : decode cX4_init 20 = .ok (.aload_n 0, 1) := by decide +kernel
theorem dX4_init_21 : decode cX4_init 21 = .ok (.sipush 200, 3) := by decide +kernel
theorem dX4_init_24 : decode cX4_init 24 = .ok (.newarray .int, 2) := by decide +kernel
theorem dX4_init_26 : decode cX4_init 26 = .ok (.putfield 19, 3) := by decide +kernel
theorem dX4_init_29 : decode cX4_init 29 = .ok (.aload_n 0, 1) := by decide +kernel
theorem dX4_init_30 : decode cX4_init 30 = .ok (.iconst 0, 1) := by decide +kernel
theorem dX4_init_31 : decode cX4_init 31 = .ok (.putfield 22, 3) := by decide +kernel
theorem dX4_init_34 : decode cX4_init 34 = .ok (.aload_n 0, 1) := by decide +kernel
theorem dX4_init_35 : decode cX4_init 35 = .ok (.iconst (-1), 1) := by decide +kernel
theorem dX4_init_36 : decode cX4_init 36 = .ok (.putfield 26, 3) := by decide +kernel
theorem dX4_init_39 : decode cX4_init 39 = .ok (.aload_n 0, 1) := by decide +kernel
theorem dX4_init_40 : decode cX4_init 40 = .ok (.iconst 0, 1) := by decide +kernel
theorem dX4_init_41 : decode cX4_init 41 = .ok (.putfield 29, 3) := by decide +kernel
theorem dX4_init_44 : decode cX4_init 44 = .ok (.aload_n 0, 1) := by decide +kernel
theorem dX4_init_45 : decode cX4_init 45 = .ok (.iconst 0, 1) := by decide +kernel
theorem dX4_init_46 : decode cX4_init 46 = .ok (.putfield 32, 3) := by decide +kernel
theorem dX4_init_49 : decode cX4_init 49 = .ok (.aload_n 0, 1) := by decide +kernel
theorem dX4_init_50 : decode cX4_init 50 = .ok (.iconst 0, 1) := by decide +kernel
theorem dX4_init_51 : decode cX4_init 51 = .ok (.putfield 35, 3) := by decide +kernel
theorem dX4_init_54 : decode cX4_init 54 = .ok (.aload_n 0, 1) := by decide +kernel
theorem dX4_init_55 : decode cX4_init 55 = .ok (.iconst 0, 1) := by decide +kernel
theorem dX4_init_56 : decode cX4_init 56 = .ok (.putfield 38, 3) := by decide +kernel
theorem dX4_init_59 : decode cX4_init 59 = .ok (.aload_n 0, 1) := by decide +kernel
theorem dX4_init_60 : decode cX4_init 60 = .ok (.iconst 0, 1) := by decide +kernel
theorem dX4_init_61 : decode cX4_init 61 = .ok (.putfield 41, 3) := by decide +kernel
theorem dX4_init_64 : decode cX4_init 64 = .ok (.return_, 1) := by decide +kernel
theorem dX4_clear_0 : decode cX4_clear 0 = .ok (.aload_n 0, 1) := by decide +kernel
theorem dX4_clear_1 : decode cX4_clear 1 = .ok (.iconst 0, 1) := by decide +kernel
theorem dX4_clear_2 : decode cX4_clear 2 = .ok (.putfield 22, 3) := by decide +kernel
theorem dX4_clear_5 : decode cX4_clear 5 = .ok (.aload_n 0, 1) := by decide +kernel
theorem dX4_clear_6 : decode cX4_clear 6 = .ok (.iconst (-1), 1) := by decide +kernel
theorem dX4_clear_7 : decode cX4_clear 7 = .ok (.putfield 26, 3) := by decide +kernel
theorem dX4_clear_10 : decode cX4_clear 10 = .ok (.aload_n 0, 1) := by decide +kernel
theorem dX4_clear_11 : decode cX4_clear 11 = .ok (.iconst 0, 1) := by decide +kernel
theorem dX4_clear_12 : decode cX4_clear 12 = .ok (.putfield 29, 3) := by decide +kernel
theorem dX4_clear_15 : decode cX4_clear 15 = .ok (.aload_n 0, 1) := by decide +kernel
theorem dX4_clear_16 : decode cX4_clear 16 = .ok (.iconst 0, 1) := by decide +kernel
theorem dX4_clear_17 : decode cX4_clear 17 = .ok (.putfield 32, 3) := by decide +kernel
theorem dX4_clear_20 : decode cX4_clear 20 = .ok (.aload_n 0, 1) := by decide +kernel
theorem dX4_clear_21 : decode cX4_clear 21 = .ok (.iconst 0, 1) := by decide +kernel
theorem dX4_clear_22 : decode cX4_clear 22 = .ok (.putfield 35, 3) := by decide +kernel
theorem dX4_clear_25 : decode cX4_clear 25 = .ok (.aload_n 0, 1) := by decide +kernel
theorem dX4_clear_26 : decode cX4_clear 26 = .ok (.iconst 0, 1) := by decide +kernel
theorem dX4_clear_27 : decode cX4_clear 27 = .ok (.putfield 38, 3) := by decide +kernel
theorem dX4_clear_30 : decode cX4_clear 30 = .ok (.aload_n 0, 1) := by decide +kernel
theorem dX4_clear_31 : decode cX4_clear 31 = .ok (.iconst 0, 1) := by decide +kernel
theorem dX4_clear_32 : decode cX4_clear 32 = .ok (.putfield 41, 3) := by decide +kernel
theorem dX4_clear_35 : decode cX4_clear 35 = .ok (.return_, 1) := by decide +kernel
theorem dX4_openAll_0 : decode cX4_openAll 0 = .ok (.iconst 0, 1) := by decide +kernel
theorem dX4_openAll_1 : decode cX4_openAll 1 = .ok (.istore_n 2, 1) := by decide +kernel
theorem dX4_openAll_2 : decode cX4_openAll 2 = .ok (.iload_n 2, 1) := by decide +kernel
theorem dX4_openAll_3 : decode cX4_openAll 3 = .ok (.aload_n 1, 1) := by decide +kernel
theorem dX4_openAll_4 : decode cX4_openAll 4 = .ok (.getfield 44, 3) := by decide +kernel
theorem dX4_openAll_7 : decode cX4_openAll 7 = .ok (.if_icmp .ge 54, 3) := by decide +kernel
theorem dX4_openAll_10 : decode cX4_openAll 10 = .ok (.aload_n 0, 1) := by decide +kernel
theorem dX4_openAll_11 : decode cX4_openAll 11 = .ok (.dup, 1) := by decide +kernel
theorem dX4_openAll_12 : decode cX4_openAll 12 = .ok (.getfield 35, 3) := by decide +kernel
theorem dX4_openAll_15 : decode cX4_openAll 15 = .ok (.iconst 1, 1) := by decide +kernel
theorem dX4_openAll_16 : decode cX4_openAll 16 = .ok (.iadd, 1) := by decide +kernel
theorem dX4_openAll_17 : decode cX4_openAll 17 = .ok (.putfield 35, 3) := by decide +kernel
theorem dX4_openAll_20 : decode cX4_openAll 20 = .ok (.aload_n 0, 1) := by decide +kernel
theorem dX4_openAll_21 : decode cX4_openAll 21 = .ok (.dup, 1) := by decide +kernel
theorem dX4_openAll_22 : decode cX4_openAll 22 = .ok (.getfield 38, 3) := by decide +kernel
theorem dX4_openAll_25 : decode cX4_openAll 25 = .ok (.iconst 1, 1) := by decide +kernel
theorem dX4_openAll_26 : decode cX4_openAll 26 = .ok (.iadd, 1) := by decide +kernel
theorem dX4_openAll_27 : decode cX4_openAll 27 = .ok (.putfield 38, 3) := by decide +kernel
theorem dX4_openAll_30 : decode cX4_openAll 30 = .ok (.aload_n 0, 1) := by decide +kernel
theorem dX4_openAll_31 : decode cX4_openAll 31 = .ok (.aload_n 0, 1) := by decide +kernel
theorem dX4_openAll_32 : decode cX4_openAll 32 = .ok (.getfield 41, 3) := by decide +kernel
theorem dX4_openAll_35 : decode cX4_openAll 35 = .ok (.aload_n 0, 1) := by decide +kernel
theorem dX4_openAll_36 : decode cX4_openAll 36 = .ok (.getfield 38, 3) := by decide +kernel
theorem dX4_openAll_39 : decode cX4_openAll 39 = .ok (.invokestatic 49, 3) := by decide +kernel
theorem dX4_openAll_42 : decode cX4_openAll 42 = .ok (.putfield 41, 3) := by decide +kernel
theorem dX4_openAll_45 : decode cX4_openAll 45 = .ok (.aload_n 0, 1) := by decide +kernel
theorem dX4_openAll_46 : decode cX4_openAll 46 = .ok (.aload_n 1, 1) := by decide +kernel
theorem dX4_openAll_47 : decode cX4_openAll 47 = .ok (.getfield 55, 3) := by decide +kernel
theorem dX4_openAll_50 : decode cX4_openAll 50 = .ok (.iload_n 2, 1) := by decide +kernel
theorem dX4_openAll_51 : decode cX4_openAll 51 = .ok (.iaload, 1) := by decide +kernel
theorem dX4_openAll_52 : decode cX4_openAll 52 = .ok (.invokevirtual 58, 3) := by decide +kernel
theorem dX4_openAll_55 : decode cX4_openAll 55 = .ok (.iinc 2 1, 3) := by decide +kernel
theorem dX4_openAll_58 : decode cX4_openAll 58 = .ok (.goto (-56), 3) := by decide +kernel
theorem dX4_openAll_61 : decode cX4_openAll 61 = .ok (.return_, 1) := by decide +kernel
theorem dX4_shutAll_0 : decode cX4_shutAll 0 = .ok (.aload_n 1, 1) := by decide +kernel
theorem dX4_shutAll_1 : decode cX4_shutAll 1 = .ok (.getfield 44, 3) := by decide +kernel
theorem dX4_shutAll_4 : decode cX4_shutAll 4 = .ok (.iconst 1, 1) := by decide +kernel
theorem dX4_shutAll_5 : decode cX4_shutAll 5 = .ok (.isub, 1) := by decide +kernel
theorem dX4_shutAll_6 : decode cX4_shutAll 6 = .ok (.istore_n 2, 1) := by decide +kernel
theorem dX4_shutAll_7 : decode cX4_shutAll 7 = .ok (.iload_n 2, 1) := by decide +kernel
theorem dX4_shutAll_8 : decode cX4_shutAll 8 = .ok (.ifCond .lt 32, 3) := by decide +kernel
theorem dX4_shutAll_11 : decode cX4_shutAll 11 = .ok (.aload_n 0, 1) := by decide +kernel
theorem dX4_shutAll_12 : decode cX4_shutAll 12 = .ok (.dup, 1) := by decide +kernel
theorem dX4_shutAll_13 : decode cX4_shutAll 13 = .ok (.getfield 38, 3) := by decide +kernel
theorem dX4_shutAll_16 : decode cX4_shutAll 16 = .ok (.iconst 1, 1) := by decide +kernel
theorem dX4_shutAll_17 : decode cX4_shutAll 17 = .ok (.isub, 1) := by decide +kernel
theorem dX4_shutAll_18 : decode cX4_shutAll 18 = .ok (.putfield 38, 3) := by decide +kernel
theorem dX4_shutAll_21 : decode cX4_shutAll 21 = .ok (.aload_n 0, 1) := by decide +kernel
theorem dX4_shutAll_22 : decode cX4_shutAll 22 = .ok (.bipush 10, 2) := by decide +kernel
theorem dX4_shutAll_24 : decode cX4_shutAll 24 = .ok (.aload_n 1, 1) := by decide +kernel
theorem dX4_shutAll_25 : decode cX4_shutAll 25 = .ok (.getfield 55, 3) := by decide +kernel
theorem dX4_shutAll_28 : decode cX4_shutAll 28 = .ok (.iload_n 2, 1) := by decide +kernel
theorem dX4_shutAll_29 : decode cX4_shutAll 29 = .ok (.iaload, 1) := by decide +kernel
theorem dX4_shutAll_30 : decode cX4_shutAll 30 = .ok (.iadd, 1) := by decide +kernel
theorem dX4_shutAll_31 : decode cX4_shutAll 31 = .ok (.invokevirtual 58, 3) := by decide +kernel
theorem dX4_shutAll_34 : decode cX4_shutAll 34 = .ok (.iinc 2 (-1), 3) := by decide +kernel
theorem dX4_shutAll_37 : decode cX4_shutAll 37 = .ok (.goto (-30), 3) := by decide +kernel
theorem dX4_shutAll_40 : decode cX4_shutAll 40 = .ok (.return_, 1) := by decide +kernel
theorem dX4_tell_0 : decode cX4_tell 0 = .ok (.aload_n 0, 1) := by decide +kernel
theorem dX4_tell_1 : decode cX4_tell 1 = .ok (.getfield 22, 3) := by decide +kernel
theorem dX4_tell_4 : decode cX4_tell 4 = .ok (.sipush 200, 3) := by decide +kernel
theorem dX4_tell_7 : decode cX4_tell 7 = .ok (.if_icmp .ge 23, 3) := by decide +kernel
theorem dX4_tell_10 : decode cX4_tell 10 = .ok (.aload_n 0, 1) := by decide +kernel
theorem dX4_tell_11 : decode cX4_tell 11 = .ok (.getfield 19, 3) := by decide +kernel
theorem dX4_tell_14 : decode cX4_tell 14 = .ok (.aload_n 0, 1) := by decide +kernel
theorem dX4_tell_15 : decode cX4_tell 15 = .ok (.getfield 22, 3) := by decide +kernel
theorem dX4_tell_18 : decode cX4_tell 18 = .ok (.iload_n 1, 1) := by decide +kernel
theorem dX4_tell_19 : decode cX4_tell 19 = .ok (.iastore, 1) := by decide +kernel
theorem dX4_tell_20 : decode cX4_tell 20 = .ok (.aload_n 0, 1) := by decide +kernel
theorem dX4_tell_21 : decode cX4_tell 21 = .ok (.dup, 1) := by decide +kernel
theorem dX4_tell_22 : decode cX4_tell 22 = .ok (.getfield 22, 3) := by decide +kernel
theorem dX4_tell_25 : decode cX4_tell 25 = .ok (.iconst 1, 1) := by decide +kernel
theorem dX4_tell_26 : decode cX4_tell 26 = .ok (.iadd, 1) := by decide +kernel
theorem dX4_tell_27 : decode cX4_tell 27 = .ok (.putfield 22, 3) := by decide +kernel
theorem dX4_tell_30 : decode cX4_tell 30 = .ok (.return_, 1) := by decide +kernel
theorem dX4_settle_0 : decode cX4_settle 0 = .ok (.aload_n 2, 1) := by decide +kernel
theorem dX4_settle_1 : decode cX4_settle 1 = .ok (.iload_n 3, 1) := by decide +kernel
theorem dX4_settle_2 : decode cX4_settle 2 = .ok (.invokevirtual 62, 3) := by decide +kernel
theorem dX4_settle_5 : decode cX4_settle 5 = .ok (.ifCond .eq 11, 3) := by decide +kernel
theorem dX4_settle_8 : decode cX4_settle 8 = .ok (.aload_n 0, 1) := by decide +kernel
theorem dX4_settle_9 : decode cX4_settle 9 = .ok (.iload_n 1, 1) := by decide +kernel
theorem dX4_settle_10 : decode cX4_settle 10 = .ok (.putfield 26, 3) := by decide +kernel
theorem dX4_settle_13 : decode cX4_settle 13 = .ok (.goto 26, 3) := by decide +kernel
theorem dX4_settle_16 : decode cX4_settle 16 = .ok (.aload_n 0, 1) := by decide +kernel
theorem dX4_settle_17 : decode cX4_settle 17 = .ok (.getfield 9, 3) := by decide +kernel
theorem dX4_settle_20 : decode cX4_settle 20 = .ok (.iload_n 1, 1) := by decide +kernel
theorem dX4_settle_21 : decode cX4_settle 21 = .ok (.aload_n 2, 1) := by decide +kernel
theorem dX4_settle_22 : decode cX4_settle 22 = .ok (.iload_n 3, 1) := by decide +kernel
theorem dX4_settle_23 : decode cX4_settle 23 = .ok (.iload 4, 2) := by decide +kernel
theorem dX4_settle_25 : decode cX4_settle 25 = .ok (.invokevirtual 68, 3) := by decide +kernel
theorem dX4_settle_28 : decode cX4_settle 28 = .ok (.iastore, 1) := by decide +kernel
theorem dX4_settle_29 : decode cX4_settle 29 = .ok (.aload_n 0, 1) := by decide +kernel
theorem dX4_settle_30 : decode cX4_settle 30 = .ok (.getfield 15, 3) := by decide +kernel
theorem dX4_settle_33 : decode cX4_settle 33 = .ok (.iload_n 1, 1) := by decide +kernel
theorem dX4_settle_34 : decode cX4_settle 34 = .ok (.aload_n 2, 1) := by decide +kernel
theorem dX4_settle_35 : decode cX4_settle 35 = .ok (.invokevirtual 71, 3) := by decide +kernel
theorem dX4_settle_38 : decode cX4_settle 38 = .ok (.fastore, 1) := by decide +kernel
theorem dX4_settle_39 : decode cX4_settle 39 = .ok (.return_, 1) := by decide +kernel
theorem dX4_answerOf_0 : decode cX4_answerOf 0 = .ok (.aload_n 0, 1) := by decide +kernel
theorem dX4_answerOf_1 : decode cX4_answerOf 1 = .ok (.getfield 26, 3) := by decide +kernel
theorem dX4_answerOf_4 : decode cX4_answerOf 4 = .ok (.iconst (-1), 1) := by decide +kernel
theorem dX4_answerOf_5 : decode cX4_answerOf 5 = .ok (.if_icmp .ne 12, 3) := by decide +kernel
theorem dX4_answerOf_8 : decode cX4_answerOf 8 = .ok (.aload_n 0, 1) := by decide +kernel
theorem dX4_answerOf_9 : decode cX4_answerOf 9 = .ok (.getfield 9, 3) := by decide +kernel
theorem dX4_answerOf_12 : decode cX4_answerOf 12 = .ok (.iload_n 1, 1) := by decide +kernel
theorem dX4_answerOf_13 : decode cX4_answerOf 13 = .ok (.iaload, 1) := by decide +kernel
theorem dX4_answerOf_14 : decode cX4_answerOf 14 = .ok (.goto 5, 3) := by decide +kernel
theorem dX4_answerOf_17 : decode cX4_answerOf 17 = .ok (.bipush (-3), 2) := by decide +kernel
theorem dX4_answerOf_19 : decode cX4_answerOf 19 = .ok (.ireturn, 1) := by decide +kernel
theorem dX4_loggedAt_0 : decode cX4_loggedAt 0 = .ok (.iload_n 1, 1) := by decide +kernel
theorem dX4_loggedAt_1 : decode cX4_loggedAt 1 = .ok (.aload_n 0, 1) := by decide +kernel
theorem dX4_loggedAt_2 : decode cX4_loggedAt 2 = .ok (.getfield 22, 3) := by decide +kernel
theorem dX4_loggedAt_5 : decode cX4_loggedAt 5 = .ok (.invokestatic 75, 3) := by decide +kernel
theorem dX4_loggedAt_8 : decode cX4_loggedAt 8 = .ok (.ifCond .eq 12, 3) := by decide +kernel
theorem dX4_loggedAt_11 : decode cX4_loggedAt 11 = .ok (.aload_n 0, 1) := by decide +kernel
theorem dX4_loggedAt_12 : decode cX4_loggedAt 12 = .ok (.getfield 19, 3) := by decide +kernel
theorem dX4_loggedAt_15 : decode cX4_loggedAt 15 = .ok (.iload_n 1, 1) := by decide +kernel
theorem dX4_loggedAt_16 : decode cX4_loggedAt 16 = .ok (.iaload, 1) := by decide +kernel
theorem dX4_loggedAt_17 : decode cX4_loggedAt 17 = .ok (.goto 4, 3) := by decide +kernel
theorem dX4_loggedAt_20 : decode cX4_loggedAt 20 = .ok (.iconst (-1), 1) := by decide +kernel
theorem dX4_loggedAt_21 : decode cX4_loggedAt 21 = .ok (.ireturn, 1) := by decide +kernel
theorem dX4_costOf_0 : decode cX4_costOf 0 = .ok (.iload_n 1, 1) := by decide +kernel
theorem dX4_costOf_1 : decode cX4_costOf 1 = .ok (.tableswitch 51 0 3 #[31, 36, 41, 46], 31) := by decide +kernel
theorem dX4_costOf_32 : decode cX4_costOf 32 = .ok (.aload_n 0, 1) := by decide +kernel
theorem dX4_costOf_33 : decode cX4_costOf 33 = .ok (.getfield 29, 3) := by decide +kernel
theorem dX4_costOf_36 : decode cX4_costOf 36 = .ok (.ireturn, 1) := by decide +kernel
theorem dX4_costOf_37 : decode cX4_costOf 37 = .ok (.aload_n 0, 1) := by decide +kernel
theorem dX4_costOf_38 : decode cX4_costOf 38 = .ok (.getfield 32, 3) := by decide +kernel
theorem dX4_costOf_41 : decode cX4_costOf 41 = .ok (.ireturn, 1) := by decide +kernel
theorem dX4_costOf_42 : decode cX4_costOf 42 = .ok (.aload_n 0, 1) := by decide +kernel
theorem dX4_costOf_43 : decode cX4_costOf 43 = .ok (.getfield 35, 3) := by decide +kernel
theorem dX4_costOf_46 : decode cX4_costOf 46 = .ok (.ireturn, 1) := by decide +kernel
theorem dX4_costOf_47 : decode cX4_costOf 47 = .ok (.aload_n 0, 1) := by decide +kernel
theorem dX4_costOf_48 : decode cX4_costOf 48 = .ok (.getfield 41, 3) := by decide +kernel
theorem dX4_costOf_51 : decode cX4_costOf 51 = .ok (.ireturn, 1) := by decide +kernel
theorem dX4_costOf_52 : decode cX4_costOf 52 = .ok (.aload_n 0, 1) := by decide +kernel
theorem dX4_costOf_53 : decode cX4_costOf 53 = .ok (.getfield 38, 3) := by decide +kernel
theorem dX4_costOf_56 : decode cX4_costOf 56 = .ok (.ireturn, 1) := by decide +kernel
theorem dX4_isLike_0 : decode cX4_isLike 0 = .ok (.aload_n 0, 1) := by decide +kernel
theorem dX4_isLike_1 : decode cX4_isLike 1 = .ok (.getfield 26, 3) := by decide +kernel
theorem dX4_isLike_4 : decode cX4_isLike 4 = .ok (.iconst (-1), 1) := by decide +kernel
theorem dX4_isLike_5 : decode cX4_isLike 5 = .ok (.if_icmp .ne 11, 3) := by decide +kernel
theorem dX4_isLike_8 : decode cX4_isLike 8 = .ok (.aload_n 1, 1) := by decide +kernel
theorem dX4_isLike_9 : decode cX4_isLike 9 = .ok (.getfield 26, 3) := by decide +kernel
theorem dX4_isLike_12 : decode cX4_isLike 12 = .ok (.iconst (-1), 1) := by decide +kernel
theorem dX4_isLike_13 : decode cX4_isLike 13 = .ok (.if_icmp .eq 20, 3) := by decide +kernel
theorem dX4_isLike_16 : decode cX4_isLike 16 = .ok (.aload_n 0, 1) := by decide +kernel
theorem dX4_isLike_17 : decode cX4_isLike 17 = .ok (.getfield 26, 3) := by decide +kernel
theorem dX4_isLike_20 : decode cX4_isLike 20 = .ok (.aload_n 1, 1) := by decide +kernel
theorem dX4_isLike_21 : decode cX4_isLike 21 = .ok (.getfield 26, 3) := by decide +kernel
theorem dX4_isLike_24 : decode cX4_isLike 24 = .ok (.if_icmp .ne 7, 3) := by decide +kernel
theorem dX4_isLike_27 : decode cX4_isLike 27 = .ok (.iconst 1, 1) := by decide +kernel
theorem dX4_isLike_28 : decode cX4_isLike 28 = .ok (.goto 4, 3) := by decide +kernel
theorem dX4_isLike_31 : decode cX4_isLike 31 = .ok (.iconst 0, 1) := by decide +kernel
theorem dX4_isLike_32 : decode cX4_isLike 32 = .ok (.ireturn, 1) := by decide +kernel
theorem dX4_isLike_33 : decode cX4_isLike 33 = .ok (.iconst 0, 1) := by decide +kernel
theorem dX4_isLike_34 : decode cX4_isLike 34 = .ok (.istore_n 3, 1) := by decide +kernel
theorem dX4_isLike_35 : decode cX4_isLike 35 = .ok (.iload_n 3, 1) := by decide +kernel
theorem dX4_isLike_36 : decode cX4_isLike 36 = .ok (.iload_n 2, 1) := by decide +kernel
theorem dX4_isLike_37 : decode cX4_isLike 37 = .ok (.if_icmp .ge 26, 3) := by decide +kernel
theorem dX4_isLike_40 : decode cX4_isLike 40 = .ok (.aload_n 0, 1) := by decide +kernel
theorem dX4_isLike_41 : decode cX4_isLike 41 = .ok (.getfield 9, 3) := by decide +kernel
theorem dX4_isLike_44 : decode cX4_isLike 44 = .ok (.iload_n 3, 1) := by decide +kernel
theorem dX4_isLike_45 : decode cX4_isLike 45 = .ok (.iaload, 1) := by decide +kernel
theorem dX4_isLike_46 : decode cX4_isLike 46 = .ok (.aload_n 1, 1) := by decide +kernel
theorem dX4_isLike_47 : decode cX4_isLike 47 = .ok (.getfield 9, 3) := by decide +kernel
theorem dX4_isLike_50 : decode cX4_isLike 50 = .ok (.iload_n 3, 1) := by decide +kernel
theorem dX4_isLike_51 : decode cX4_isLike 51 = .ok (.iaload, 1) := by decide +kernel
theorem dX4_isLike_52 : decode cX4_isLike 52 = .ok (.if_icmp .eq 5, 3) := by decide +kernel
theorem dX4_isLike_55 : decode cX4_isLike 55 = .ok (.iconst 0, 1) := by decide +kernel
theorem dX4_isLike_56 : decode cX4_isLike 56 = .ok (.ireturn, 1) := by decide +kernel
theorem dX4_isLike_57 : decode cX4_isLike 57 = .ok (.iinc 3 1, 3) := by decide +kernel
theorem dX4_isLike_60 : decode cX4_isLike 60 = .ok (.goto (-25), 3) := by decide +kernel
theorem dX4_isLike_63 : decode cX4_isLike 63 = .ok (.iconst 1, 1) := by decide +kernel
theorem dX4_isLike_64 : decode cX4_isLike 64 = .ok (.ireturn, 1) := by decide +kernel
theorem dX4_together_0 : decode cX4_together 0 = .ok (.aload_n 0, 1) := by decide +kernel
theorem dX4_together_1 : decode cX4_together 1 = .ok (.getfield 26, 3) := by decide +kernel
theorem dX4_together_4 : decode cX4_together 4 = .ok (.iconst (-1), 1) := by decide +kernel
theorem dX4_together_5 : decode cX4_together 5 = .ok (.if_icmp .eq 6, 3) := by decide +kernel
theorem dX4_together_8 : decode cX4_together 8 = .ok (.bipush (-3), 2) := by decide +kernel
theorem dX4_together_10 : decode cX4_together 10 = .ok (.ireturn, 1) := by decide +kernel
theorem dX4_together_11 : decode cX4_together 11 = .ok (.iconst 0, 1) := by decide +kernel
theorem dX4_together_12 : decode cX4_together 12 = .ok (.istore_n 3, 1) := by decide +kernel
theorem dX4_together_13 : decode cX4_together 13 = .ok (.fconst 0, 1) := by decide +kernel
theorem dX4_together_14 : decode cX4_together 14 = .ok (.fstore 4, 2) := by decide +kernel
theorem dX4_together_16 : decode cX4_together 16 = .ok (.iconst 0, 1) := by decide +kernel
theorem dX4_together_17 : decode cX4_together 17 = .ok (.istore 5, 2) := by decide +kernel
theorem dX4_together_19 : decode cX4_together 19 = .ok (.iload 5, 2) := by decide +kernel
theorem dX4_together_21 : decode cX4_together 21 = .ok (.iload_n 2, 1) := by decide +kernel
theorem dX4_together_22 : decode cX4_together 22 = .ok (.if_icmp .ge 42, 3) := by decide +kernel
theorem dX4_together_25 : decode cX4_together 25 = .ok (.aload_n 0, 1) := by decide +kernel
theorem dX4_together_26 : decode cX4_together 26 = .ok (.getfield 9, 3) := by decide +kernel
theorem dX4_together_29 : decode cX4_together 29 = .ok (.iload 5, 2) := by decide +kernel
theorem dX4_together_31 : decode cX4_together 31 = .ok (.iaload, 1) := by decide +kernel
theorem dX4_together_32 : decode cX4_together 32 = .ok (.iconst (-1), 1) := by decide +kernel
theorem dX4_together_33 : decode cX4_together 33 = .ok (.if_icmp .eq 25, 3) := by decide +kernel
theorem dX4_together_36 : decode cX4_together 36 = .ok (.iload_n 3, 1) := by decide +kernel
theorem dX4_together_37 : decode cX4_together 37 = .ok (.aload_n 0, 1) := by decide +kernel
theorem dX4_together_38 : decode cX4_together 38 = .ok (.getfield 9, 3) := by decide +kernel
theorem dX4_together_41 : decode cX4_together 41 = .ok (.iload 5, 2) := by decide +kernel
theorem dX4_together_43 : decode cX4_together 43 = .ok (.iaload, 1) := by decide +kernel
theorem dX4_together_44 : decode cX4_together 44 = .ok (.iadd, 1) := by decide +kernel
theorem dX4_together_45 : decode cX4_together 45 = .ok (.istore_n 3, 1) := by decide +kernel
theorem dX4_together_46 : decode cX4_together 46 = .ok (.fload 4, 2) := by decide +kernel
theorem dX4_together_48 : decode cX4_together 48 = .ok (.aload_n 0, 1) := by decide +kernel
theorem dX4_together_49 : decode cX4_together 49 = .ok (.getfield 15, 3) := by decide +kernel
theorem dX4_together_52 : decode cX4_together 52 = .ok (.iload 5, 2) := by decide +kernel
theorem dX4_together_54 : decode cX4_together 54 = .ok (.faload, 1) := by decide +kernel
theorem dX4_together_55 : decode cX4_together 55 = .ok (.fadd, 1) := by decide +kernel
theorem dX4_together_56 : decode cX4_together 56 = .ok (.fstore 4, 2) := by decide +kernel
theorem dX4_together_58 : decode cX4_together 58 = .ok (.iinc 5 1, 3) := by decide +kernel
theorem dX4_together_61 : decode cX4_together 61 = .ok (.goto (-42), 3) := by decide +kernel
theorem dX4_together_64 : decode cX4_together 64 = .ok (.iload_n 1, 1) := by decide +kernel
theorem dX4_together_65 : decode cX4_together 65 = .ok (.iconst 4, 1) := by decide +kernel
theorem dX4_together_66 : decode cX4_together 66 = .ok (.if_icmp .ne 11, 3) := by decide +kernel
theorem dX4_together_69 : decode cX4_together 69 = .ok (.fload 4, 2) := by decide +kernel
theorem dX4_together_71 : decode cX4_together 71 = .ok (.invokestatic 79, 3) := by decide +kernel
theorem dX4_together_74 : decode cX4_together 74 = .ok (.goto 4, 3) := by decide +kernel
theorem dX4_together_77 : decode cX4_together 77 = .ok (.iload_n 3, 1) := by decide +kernel
theorem dX4_together_78 : decode cX4_together 78 = .ok (.ireturn, 1) := by decide +kernel
theorem dX5_init_0 : decode cX5_init 0 = .ok (.aload_n 0, 1) := by decide +kernel
theorem dX5_init_1 : decode cX5_init 1 = .ok (.invokespecial 3, 3) := by decide +kernel
theorem dX5_init_4 : decode cX5_init 4 = .ok (.aload_n 0, 1) := by decide +kernel
theorem dX5_init_5 : decode cX5_init 5 = .ok (.new 9, 3) := by decide +kernel
theorem dX5_init_8 : decode cX5_init 8 = .ok (.dup, 1) := by decide +kernel
theorem dX5_init_9 : decode cX5_init 9 = .ok (.invokespecial 11, 3) := by decide +kernel
theorem dX5_init_12 : decode cX5_init 12 = .ok (.putfield 12, 3) := by decide +kernel
theorem dX5_init_15 : decode cX5_init 15 = .ok (.aload_n 0, 1) := by decide +kernel
theorem dX5_init_16 : decode cX5_init 16 = .ok (.new 18, 3) := by decide +kernel
theorem dX5_init_19 : decode cX5_init 19 = .ok (.dup, 1) := by decide +kernel
theorem dX5_init_20 : decode cX5_init 20 = .ok (.invokespecial 20, 3) := by decide +kernel
theorem dX5_init_23 : decode cX5_init 23 = .ok (.putfield 21, 3) := by decide +kernel
theorem dX5_init_26 : decode cX5_init 26 = .ok (.aload_n 0, 1) := by decide +kernel
theorem dX5_init_27 : decode cX5_init 27 = .ok (.new 25, 3) := by decide +kernel
theorem dX5_init_30 : decode cX5_init 30 = .ok (.dup, 1) := by decide +kernel
theorem dX5_init_31 : decode cX5_init 31 = .ok (.invokespecial 27, 3) := by decide +kernel
theorem dX5_init_34 : decode cX5_init 34 = .ok (.putfield 28, 3) := by decide +kernel
theorem dX5_init_37 : decode cX5_init 37 = .ok (.aload_n 0, 1) := by decide +kernel
theorem dX5_init_38 : decode cX5_init 38 = .ok (.ldc 32, 2) := by decide +kernel
theorem dX5_init_40 : decode cX5_init 40 = .ok (.putfield 33, 3) := by decide +kernel
theorem dX5_init_43 : decode cX5_init 43 = .ok (.aload_n 0, 1) := by decide +kernel
theorem dX5_init_44 : decode cX5_init 44 = .ok (.iconst 0, 1) := by decide +kernel
theorem dX5_init_45 : decode cX5_init 45 = .ok (.putfield 37, 3) := by decide +kernel
theorem dX5_init_48 : decode cX5_init 48 = .ok (.aload_n 0, 1) := by decide +kernel
theorem dX5_init_49 : decode cX5_init 49 = .ok (.aload_n 1, 1) := by decide +kernel
theorem dX5_init_50 : decode cX5_init 50 = .ok (.putfield 40, 3) := by decide +kernel
theorem dX5_init_53 : decode cX5_init 53 = .ok (.return_, 1) := by decide +kernel
theorem dX5_askRowByRow_0 : decode cX5_askRowByRow 0 = .ok (.aload_n 1, 1) := by decide +kernel
theorem dX5_askRowByRow_1 : decode cX5_askRowByRow 1 = .ok (.getfield 44, 3) := by decide +kernel
theorem dX5_askRowByRow_4 : decode cX5_askRowByRow 4 = .ok (.astore 4, 2) := by decide +kernel
theorem dX5_askRowByRow_6 : decode cX5_askRowByRow 6 = .ok (.aload_n 0, 1) := by decide +kernel
theorem dX5_askRowByRow_7 : decode cX5_askRowByRow 7 = .ok (.getfield 12, 3) := by decide +kernel
theorem dX5_askRowByRow_10 : decode cX5_askRowByRow 10 = .ok (.aload_n 1, 1) := by decide +kernel
theorem dX5_askRowByRow_11 : decode cX5_askRowByRow 11 = .ok (.getfield 50, 3) := by decide +kernel
theorem dX5_askRowByRow_14 : decode cX5_askRowByRow 14 = .ok (.iload_n 3, 1) := by decide +kernel
theorem dX5_askRowByRow_15 : decode cX5_askRowByRow 15 = .ok (.invokevirtual 54, 3) := by decide +kernel
theorem dX5_askRowByRow_18 : decode cX5_askRowByRow 18 = .ok (.aload_n 0, 1) := by decide +kernel
theorem dX5_askRowByRow_19 : decode cX5_askRowByRow 19 = .ok (.getfield 28, 3) := by decide +kernel
theorem dX5_askRowByRow_22 : decode cX5_askRowByRow 22 = .ok (.invokevirtual 58, 3) := by decide +kernel
theorem dX5_askRowByRow_25 : decode cX5_askRowByRow 25 = .ok (.aload_n 0, 1) := by decide +kernel
theorem dX5_askRowByRow_26 : decode cX5_askRowByRow 26 = .ok (.iload_n 2, 1) := by decide +kernel
theorem dX5_askRowByRow_27 : decode cX5_askRowByRow 27 = .ok (.iconst 5, 1) := by decide +kernel
theorem dX5_askRowByRow_28 : decode cX5_askRowByRow 28 = .ok (.if_icmp .ne 7, 3) := by decide +kernel
theorem dX5_askRowByRow_31 : decode cX5_askRowByRow 31 = .ok (.iconst 2, 1) := by decide +kernel
theorem dX5_askRowByRow_32 : decode cX5_askRowByRow 32 = .ok (.goto 15, 3) := by decide +kernel
theorem dX5_askRowByRow_35 : decode cX5_askRowByRow 35 = .ok (.iload_n 2, 1) := by decide +kernel
theorem dX5_askRowByRow_36 : decode cX5_askRowByRow 36 = .ok (.bipush 6, 2) := by decide +kernel
theorem dX5_askRowByRow_38 : decode cX5_askRowByRow 38 = .ok (.if_icmp .ne 7, 3) := by decide +kernel
theorem dX5_askRowByRow_41 : decode cX5_askRowByRow 41 = .ok (.iconst 1, 1) := by decide +kernel
theorem dX5_askRowByRow_42 : decode cX5_askRowByRow 42 = .ok (.goto 5, 3) := by decide +kernel
theorem dX5_askRowByRow_45 : decode cX5_askRowByRow 45 = .ok (.ldc 32, 2) := by decide +kernel
theorem dX5_askRowByRow_47 : decode cX5_askRowByRow 47 = .ok (.putfield 33, 3) := by decide +kernel
theorem dX5_askRowByRow_50 : decode cX5_askRowByRow 50 = .ok (.iconst 0, 1) := by decide +kernel
theorem dX5_askRowByRow_51 : decode cX5_askRowByRow 51 = .ok (.istore 5, 2) := by decide +kernel
theorem dX5_askRowByRow_53 : decode cX5_askRowByRow 53 = .ok (.iload 5, 2) := by decide +kernel
theorem dX5_askRowByRow_55 : decode cX5_askRowByRow 55 = .ok (.aload 4, 2) := by decide +kernel
theorem dX5_askRowByRow_57 : decode cX5_askRowByRow 57 = .ok (.getfield 61, 3) := by decide +kernel
theorem dX5_askRowByRow_60 : decode cX5_askRowByRow 60 = .ok (.if_icmp .ge 97, 3) := by decide +kernel
theorem dX5_askRowByRow_63 : decode cX5_askRowByRow 63 = .ok (.aload_n 0, 1) := by decide +kernel
theorem dX5_askRowByRow_64 : decode cX5_askRowByRow 64 = .ok (.getfield 28, 3) := by decide +kernel
theorem dX5_askRowByRow_67 : decode cX5_askRowByRow 67 = .ok (.getfield 66, 3) := by decide +kernel
theorem dX5_askRowByRow_70 : decode cX5_askRowByRow 70 = .ok (.iconst (-1), 1) := by decide +kernel
theorem dX5_askRowByRow_71 : decode cX5_askRowByRow 71 = .ok (.if_icmp .ne 86, 3) := by decide +kernel
theorem dX5_askRowByRow_74 : decode cX5_askRowByRow 74 = .ok (.aload_n 0, 1) := by decide +kernel
theorem dX5_askRowByRow_75 : decode cX5_askRowByRow 75 = .ok (.getfield 21, 3) := by decide +kernel
theorem dX5_askRowByRow_78 : decode cX5_askRowByRow 78 = .ok (.aload 4, 2) := by decide +kernel
theorem dX5_askRowByRow_80 : decode cX5_askRowByRow 80 = .ok (.getfield 69, 3) := by decide +kernel
theorem dX5_askRowByRow_83 : decode cX5_askRowByRow 83 = .ok (.iload 5, 2) := by decide +kernel
theorem dX5_askRowByRow_85 : decode cX5_askRowByRow 85 = .ok (.iaload, 1) := by decide +kernel
theorem dX5_askRowByRow_86 : decode cX5_askRowByRow 86 = .ok (.aload 4, 2) := by decide +kernel
theorem dX5_askRowByRow_88 : decode cX5_askRowByRow 88 = .ok (.getfield 73, 3) := by decide +kernel
theorem dX5_askRowByRow_91 : decode cX5_askRowByRow 91 = .ok (.iload 5, 2) := by decide +kernel
theorem dX5_askRowByRow_93 : decode cX5_askRowByRow 93 = .ok (.iaload, 1) := by decide +kernel
theorem dX5_askRowByRow_94 : decode cX5_askRowByRow 94 = .ok (.invokevirtual 76, 3) := by decide +kernel
theorem dX5_askRowByRow_97 : decode cX5_askRowByRow 97 = .ok (.aload_n 0, 1) := by decide +kernel
theorem dX5_askRowByRow_98 : decode cX5_askRowByRow 98 = .ok (.invokevirtual 80, 3) := by decide +kernel
theorem dX5_askRowByRow_101 : decode cX5_askRowByRow 101 = .ok (.aload_n 0, 1) := by decide +kernel
theorem dX5_askRowByRow_102 : decode cX5_askRowByRow 102 = .ok (.aload_n 1, 1) := by decide +kernel
theorem dX5_askRowByRow_103 : decode cX5_askRowByRow 103 = .ok (.getfield 83, 3) := by decide +kernel
theorem dX5_askRowByRow_106 : decode cX5_askRowByRow 106 = .ok (.invokevirtual 86, 3) := by decide +kernel
theorem dX5_askRowByRow_109 : decode cX5_askRowByRow 109 = .ok (.aload_n 0, 1) := by decide +kernel
theorem dX5_askRowByRow_110 : decode cX5_askRowByRow 110 = .ok (.invokevirtual 90, 3) := by decide +kernel
theorem dX5_askRowByRow_113 : decode cX5_askRowByRow 113 = .ok (.aload_n 0, 1) := by decide +kernel
theorem dX5_askRowByRow_114 : decode cX5_askRowByRow 114 = .ok (.getfield 28, 3) := by decide +kernel
theorem dX5_askRowByRow_117 : decode cX5_askRowByRow 117 = .ok (.iload 5, 2) := by decide +kernel
theorem dX5_askRowByRow_119 : decode cX5_askRowByRow 119 = .ok (.aload_n 0, 1) := by decide +kernel
theorem dX5_askRowByRow_120 : decode cX5_askRowByRow 120 = .ok (.getfield 40, 3) := by decide +kernel
theorem dX5_askRowByRow_123 : decode cX5_askRowByRow 123 = .ok (.getfield 93, 3) := by decide +kernel
theorem dX5_askRowByRow_126 : decode cX5_askRowByRow 126 = .ok (.iconst 0, 1) := by decide +kernel
theorem dX5_askRowByRow_127 : decode cX5_askRowByRow 127 = .ok (.aaload, 1) := by decide +kernel
theorem dX5_askRowByRow_128 : decode cX5_askRowByRow 128 = .ok (.iload_n 2, 1) := by decide +kernel
theorem dX5_askRowByRow_129 : decode cX5_askRowByRow 129 = .ok (.aload 4, 2) := by decide +kernel
theorem dX5_askRowByRow_131 : decode cX5_askRowByRow 131 = .ok (.getfield 73, 3) := by decide +kernel
theorem dX5_askRowByRow_134 : decode cX5_askRowByRow 134 = .ok (.iload 5, 2) := by decide +kernel
theorem dX5_askRowByRow_136 : decode cX5_askRowByRow 136 = .ok (.iaload, 1) := by decide +kernel
theorem dX5_askRowByRow_137 : decode cX5_askRowByRow 137 = .ok (.invokevirtual 99, 3) := by decide +kernel
theorem dX5_askRowByRow_140 : decode cX5_askRowByRow 140 = .ok (.aload_n 0, 1) := by decide +kernel
theorem dX5_askRowByRow_141 : decode cX5_askRowByRow 141 = .ok (.getfield 28, 3) := by decide +kernel
theorem dX5_askRowByRow_144 : decode cX5_askRowByRow 144 = .ok (.aload_n 0, 1) := by decide +kernel
theorem dX5_askRowByRow_145 : decode cX5_askRowByRow 145 = .ok (.getfield 12, 3) := by decide +kernel
theorem dX5_askRowByRow_148 : decode cX5_askRowByRow 148 = .ok (.invokevirtual 103, 3) := by decide +kernel
theorem dX5_askRowByRow_151 : decode cX5_askRowByRow 151 = .ok (.iinc 5 1, 3) := by decide +kernel
theorem dX5_askRowByRow_154 : decode cX5_askRowByRow 154 = .ok (.goto (-101), 3) := by decide +kernel
theorem dX5_askRowByRow_157 : decode cX5_askRowByRow 157 = .ok (.return_, 1) := by decide +kernel
theorem dX5_askFree_0 : decode cX5_askFree 0 = .ok (.aload_n 1, 1) := by decide +kernel
theorem dX5_askFree_1 : decode cX5_askFree 1 = .ok (.getfield 44, 3) := by decide +kernel
theorem dX5_askFree_4 : decode cX5_askFree 4 = .ok (.astore_n 3, 1) := by decide +kernel
theorem dX5_askFree_5 : decode cX5_askFree 5 = .ok (.aload_n 0, 1) := by decide +kernel
theorem dX5_askFree_6 : decode cX5_askFree 6 = .ok (.getfield 12, 3) := by decide +kernel
theorem dX5_askFree_9 : decode cX5_askFree 9 = .ok (.aload_n 1, 1) := by decide +kernel
theorem dX5_askFree_10 : decode cX5_askFree 10 = .ok (.getfield 50, 3) := by decide +kernel
theorem dX5_askFree_13 : decode cX5_askFree 13 = .ok (.iload_n 2, 1) := by decide +kernel
theorem dX5_askFree_14 : decode cX5_askFree 14 = .ok (.invokevirtual 107, 3) := by decide +kernel
theorem dX5_askFree_17 : decode cX5_askFree 17 = .ok (.aload_n 0, 1) := by decide +kernel
theorem dX5_askFree_18 : decode cX5_askFree 18 = .ok (.getfield 28, 3) := by decide +kernel
theorem dX5_askFree_21 : decode cX5_askFree 21 = .ok (.invokevirtual 58, 3) := by decide +kernel
theorem dX5_askFree_24 : decode cX5_askFree 24 = .ok (.aload_n 0, 1) := by decide +kernel
theorem dX5_askFree_25 : decode cX5_askFree 25 = .ok (.ldc 32, 2) := by decide +kernel
theorem dX5_askFree_27 : decode cX5_askFree 27 = .ok (.putfield 33, 3) := by decide +kernel
theorem dX5_askFree_30 : decode cX5_askFree 30 = .ok (.aload_n 0, 1) := by decide +kernel
theorem dX5_askFree_31 : decode cX5_askFree 31 = .ok (.getfield 12, 3) := by decide +kernel
theorem dX5_askFree_34 : decode cX5_askFree 34 = .ok (.getfield 110, 3) := by decide +kernel
theorem dX5_askFree_37 : decode cX5_askFree 37 = .ok (.iconst (-1), 1) := by decide +kernel
theorem dX5_askFree_38 : decode cX5_askFree 38 = .ok (.if_icmp .ne 13, 3) := by decide +kernel
theorem dX5_askFree_41 : decode cX5_askFree 41 = .ok (.aload_n 0, 1) := by decide +kernel
theorem dX5_askFree_42 : decode cX5_askFree 42 = .ok (.getfield 21, 3) := by decide +kernel
theorem dX5_askFree_45 : decode cX5_askFree 45 = .ok (.invokevirtual 113, 3) := by decide +kernel
theorem dX5_askFree_48 : decode cX5_askFree 48 = .ok (.goto 33, 3) := by decide +kernel
theorem dX5_askFree_51 : decode cX5_askFree 51 = .ok (.aload_n 0, 1) := by decide +kernel
theorem dX5_askFree_52 : decode cX5_askFree 52 = .ok (.getfield 21, 3) := by decide +kernel
theorem dX5_askFree_55 : decode cX5_askFree 55 = .ok (.aload_n 3, 1) := by decide +kernel
theorem dX5_askFree_56 : decode cX5_askFree 56 = .ok (.iload_n 2, 1) := by decide +kernel
theorem dX5_askFree_57 : decode cX5_askFree 57 = .ok (.invokestatic 116, 3) := by decide +kernel
theorem dX5_askFree_60 : decode cX5_askFree 60 = .ok (.ifCond .ne 13, 3) := by decide +kernel
theorem dX5_askFree_63 : decode cX5_askFree 63 = .ok (.aload_n 1, 1) := by decide +kernel
theorem dX5_askFree_64 : decode cX5_askFree 64 = .ok (.getfield 50, 3) := by decide +kernel
theorem dX5_askFree_67 : decode cX5_askFree 67 = .ok (.invokevirtual 120, 3) := by decide +kernel
theorem dX5_askFree_70 : decode cX5_askFree 70 = .ok (.ifCond .eq 7, 3) := by decide +kernel
theorem dX5_askFree_73 : decode cX5_askFree 73 = .ok (.iconst 1, 1) := by decide +kernel
theorem dX5_askFree_74 : decode cX5_askFree 74 = .ok (.goto 4, 3) := by decide +kernel
theorem dX5_askFree_77 : decode cX5_askFree 77 = .ok (.iconst 0, 1) := by decide +kernel
theorem dX5_askFree_78 : decode cX5_askFree 78 = .ok (.invokevirtual 126, 3) := by decide +kernel
theorem dX5_askFree_81 : decode cX5_askFree 81 = .ok (.aload_n 0, 1) := by decide +kernel
theorem dX5_askFree_82 : decode cX5_askFree 82 = .ok (.invokevirtual 80, 3) := by decide +kernel
theorem dX5_askFree_85 : decode cX5_askFree 85 = .ok (.aload_n 0, 1) := by decide +kernel
theorem dX5_askFree_86 : decode cX5_askFree 86 = .ok (.aload_n 1, 1) := by decide +kernel
theorem dX5_askFree_87 : decode cX5_askFree 87 = .ok (.getfield 83, 3) := by decide +kernel
theorem dX5_askFree_90 : decode cX5_askFree 90 = .ok (.invokevirtual 86, 3) := by decide +kernel
theorem dX5_askFree_93 : decode cX5_askFree 93 = .ok (.aload_n 0, 1) := by decide +kernel
theorem dX5_askFree_94 : decode cX5_askFree 94 = .ok (.invokevirtual 90, 3) := by decide +kernel
theorem dX5_askFree_97 : decode cX5_askFree 97 = .ok (.iconst 0, 1) := by decide +kernel
theorem dX5_askFree_98 : decode cX5_askFree 98 = .ok (.istore 4, 2) := by decide +kernel
theorem dX5_askFree_100 : decode cX5_askFree 100 = .ok (.iload 4, 2) := by decide +kernel
theorem dX5_askFree_102 : decode cX5_askFree 102 = .ok (.aload_n 3, 1) := by decide +kernel
theorem dX5_askFree_103 : decode cX5_askFree 103 = .ok (.getfield 61, 3) := by decide +kernel
theorem dX5_askFree_106 : decode cX5_askFree 106 = .ok (.if_icmp .ge 55, 3) := by decide +kernel
theorem dX5_askFree_109 : decode cX5_askFree 109 = .ok (.aload_n 0, 1) := by decide +kernel
theorem dX5_askFree_110 : decode cX5_askFree 110 = .ok (.getfield 28, 3) := by decide +kernel
theorem dX5_askFree_113 : decode cX5_askFree 113 = .ok (.getfield 66, 3) := by decide +kernel
theorem dX5_askFree_116 : decode cX5_askFree 116 = .ok (.iconst (-1), 1) := by decide +kernel
theorem dX5_askFree_117 : decode cX5_askFree 117 = .ok (.if_icmp .ne 44, 3) := by decide +kernel
theorem dX5_askFree_120 : decode cX5_askFree 120 = .ok (.aload_n 0, 1) := by decide +kernel
theorem dX5_askFree_121 : decode cX5_askFree 121 = .ok (.getfield 28, 3) := by decide +kernel
theorem dX5_askFree_124 : decode cX5_askFree 124 = .ok (.iload 4, 2) := by decide +kernel
theorem dX5_askFree_126 : decode cX5_askFree 126 = .ok (.aload_n 0, 1) := by decide +kernel
theorem dX5_askFree_127 : decode cX5_askFree 127 = .ok (.getfield 40, 3) := by decide +kernel
theorem dX5_askFree_130 : decode cX5_askFree 130 = .ok (.getfield 93, 3) := by decide +kernel
theorem dX5_askFree_133 : decode cX5_askFree 133 = .ok (.aload_n 0, 1) := by decide +kernel
theorem dX5_askFree_134 : decode cX5_askFree 134 = .ok (.getfield 21, 3) := by decide +kernel
theorem dX5_askFree_137 : decode cX5_askFree 137 = .ok (.getfield 130, 3) := by decide +kernel
theorem dX5_askFree_140 : decode cX5_askFree 140 = .ok (.iload 4, 2) := by decide +kernel
theorem dX5_askFree_142 : decode cX5_askFree 142 = .ok (.iaload, 1) := by decide +kernel
theorem dX5_askFree_143 : decode cX5_askFree 143 = .ok (.aaload, 1) := by decide +kernel
theorem dX5_askFree_144 : decode cX5_askFree 144 = .ok (.iload_n 2, 1) := by decide +kernel
theorem dX5_askFree_145 : decode cX5_askFree 145 = .ok (.aload_n 3, 1) := by decide +kernel
theorem dX5_askFree_146 : decode cX5_askFree 146 = .ok (.getfield 73, 3) := by decide +kernel
theorem dX5_askFree_149 : decode cX5_askFree 149 = .ok (.iload 4, 2) := by decide +kernel
theorem dX5_askFree_151 : decode cX5_askFree 151 = .ok (.iaload, 1) := by decide +kernel
theorem dX5_askFree_152 : decode cX5_askFree 152 = .ok (.invokevirtual 99, 3) := by decide +kernel
theorem dX5_askFree_155 : decode cX5_askFree 155 = .ok (.iinc 4 1, 3) := by decide +kernel
theorem dX5_askFree_158 : decode cX5_askFree 158 = .ok (.goto (-58), 3) := by decide +kernel
theorem dX5_askFree_161 : decode cX5_askFree 161 = .ok (.aload_n 0, 1) := by decide +kernel
theorem dX5_askFree_162 : decode cX5_askFree 162 = .ok (.getfield 28, 3) := by decide +kernel
theorem dX5_askFree_165 : decode cX5_askFree 165 = .ok (.aload_n 0, 1) := by decide +kernel
theorem dX5_askFree_166 : decode cX5_askFree 166 = .ok (.getfield 12, 3) := by decide +kernel
theorem dX5_askFree_169 : decode cX5_askFree 169 = .ok (.invokevirtual 103, 3) := by decide +kernel
theorem dX5_askFree_172 : decode cX5_askFree 172 = .ok (.return_, 1) := by decide +kernel
theorem dX5_begin_0 : decode cX5_begin 0 = .ok (.aload_n 0, 1) := by decide +kernel
theorem dX5_begin_1 : decode cX5_begin 1 = .ok (.iconst 0, 1) := by decide +kernel
theorem dX5_begin_2 : decode cX5_begin 2 = .ok (.putfield 37, 3) := by decide +kernel
theorem dX5_begin_5 : decode cX5_begin 5 = .ok (.aload_n 0, 1) := by decide +kernel
theorem dX5_begin_6 : decode cX5_begin 6 = .ok (.getfield 40, 3) := by decide +kernel
theorem dX5_begin_9 : decode cX5_begin 9 = .ok (.invokevirtual 133, 3) := by decide +kernel
theorem dX5_begin_12 : decode cX5_begin 12 = .ok (.aload_n 0, 1) := by decide +kernel
theorem dX5_begin_13 : decode cX5_begin 13 = .ok (.getfield 28, 3) := by decide +kernel
theorem dX5_begin_16 : decode cX5_begin 16 = .ok (.aload_n 0, 1) := by decide +kernel
theorem dX5_begin_17 : decode cX5_begin 17 = .ok (.getfield 12, 3) := by decide +kernel
theorem dX5_begin_20 : decode cX5_begin 20 = .ok (.invokevirtual 134, 3) := by decide +kernel
theorem dX5_begin_23 : decode cX5_begin 23 = .ok (.return_, 1) := by decide +kernel
theorem dX5_readInner_0 : decode cX5_readInner 0 = .ok (.iconst 0, 1) := by decide +kernel
theorem dX5_readInner_1 : decode cX5_readInner 1 = .ok (.istore_n 2, 1) := by decide +kernel
theorem dX5_readInner_2 : decode cX5_readInner 2 = .ok (.iload_n 2, 1) := by decide +kernel
theorem dX5_readInner_3 : decode cX5_readInner 3 = .ok (.aload_n 1, 1) := by decide +kernel
theorem dX5_readInner_4 : decode cX5_readInner 4 = .ok (.getfield 61, 3) := by decide +kernel
theorem dX5_readInner_7 : decode cX5_readInner 7 = .ok (.if_icmp .ge 67, 3) := by decide +kernel
theorem dX5_readInner_10 : decode cX5_readInner 10 = .ok (.aload_n 0, 1) := by decide +kernel
theorem dX5_readInner_11 : decode cX5_readInner 11 = .ok (.getfield 37, 3) := by decide +kernel
theorem dX5_readInner_14 : decode cX5_readInner 14 = .ok (.aload_n 0, 1) := by decide +kernel
theorem dX5_readInner_15 : decode cX5_readInner 15 = .ok (.getfield 33, 3) := by decide +kernel
theorem dX5_readInner_18 : decode cX5_readInner 18 = .ok (.if_icmp .ge 56, 3) := by decide +kernel
theorem dX5_readInner_21 : decode cX5_readInner 21 = .ok (.aload_n 0, 1) := by decide +kernel
theorem dX5_readInner_22 : decode cX5_readInner 22 = .ok (.getfield 28, 3) := by decide +kernel
theorem dX5_readInner_25 : decode cX5_readInner 25 = .ok (.dup, 1) := by decide +kernel
theorem dX5_readInner_26 : decode cX5_readInner 26 = .ok (.getfield 137, 3) := by decide +kernel
theorem dX5_readInner_29 : decode cX5_readInner 29 = .ok (.iconst 1, 1) := by decide +kernel
theorem dX5_readInner_30 : decode cX5_readInner 30 = .ok (.iadd, 1) := by decide +kernel
theorem dX5_readInner_31 : decode cX5_readInner 31 = .ok (.putfield 137, 3) := by decide +kernel
theorem dX5_readInner_34 : decode cX5_readInner 34 = .ok (.aload_n 0, 1) := by decide +kernel
theorem dX5_readInner_35 : decode cX5_readInner 35 = .ok (.getfield 28, 3) := by decide +kernel
theorem dX5_readInner_38 : decode cX5_readInner 38 = .ok (.dup, 1) := by decide +kernel
theorem dX5_readInner_39 : decode cX5_readInner 39 = .ok (.getfield 140, 3) := by decide +kernel
theorem dX5_readInner_42 : decode cX5_readInner 42 = .ok (.iconst 1, 1) := by decide +kernel
theorem dX5_readInner_43 : decode cX5_readInner 43 = .ok (.iadd, 1) := by decide +kernel
theorem dX5_readInner_44 : decode cX5_readInner 44 = .ok (.putfield 140, 3) := by decide +kernel
theorem dX5_readInner_47 : decode cX5_readInner 47 = .ok (.aload_n 0, 1) := by decide +kernel
theorem dX5_readInner_48 : decode cX5_readInner 48 = .ok (.aload_n 1, 1) := by decide +kernel
theorem dX5_readInner_49 : decode cX5_readInner 49 = .ok (.getfield 69, 3) := by decide +kernel
theorem dX5_readInner_52 : decode cX5_readInner 52 = .ok (.iload_n 2, 1) := by decide +kernel
theorem dX5_readInner_53 : decode cX5_readInner 53 = .ok (.iaload, 1) := by decide +kernel
theorem dX5_readInner_54 : decode cX5_readInner 54 = .ok (.aload_n 1, 1) := by decide +kernel
theorem dX5_readInner_55 : decode cX5_readInner 55 = .ok (.getfield 73, 3) := by decide +kernel
theorem dX5_readInner_58 : decode cX5_readInner 58 = .ok (.iload_n 2, 1) := by decide +kernel
theorem dX5_readInner_59 : decode cX5_readInner 59 = .ok (.iaload, 1) := by decide +kernel
theorem dX5_readInner_60 : decode cX5_readInner 60 = .ok (.iconst 0, 1) := by decide +kernel
theorem dX5_readInner_61 : decode cX5_readInner 61 = .ok (.invokestatic 143, 3) := by decide +kernel
theorem dX5_readInner_64 : decode cX5_readInner 64 = .ok (.iconst 1, 1) := by decide +kernel
theorem dX5_readInner_65 : decode cX5_readInner 65 = .ok (.invokevirtual 147, 3) := by decide +kernel
theorem dX5_readInner_68 : decode cX5_readInner 68 = .ok (.iinc 2 1, 3) := by decide +kernel
theorem dX5_readInner_71 : decode cX5_readInner 71 = .ok (.goto (-69), 3) := by decide +kernel
theorem dX5_readInner_74 : decode cX5_readInner 74 = .ok (.return_, 1) := by decide +kernel
theorem dX5_handOnKept_0 : decode cX5_handOnKept 0 = .ok (.iconst 1, 1) := by decide +kernel
theorem dX5_handOnKept_1 : decode cX5_handOnKept 1 = .ok (.istore_n 1, 1) := by decide +kernel
theorem dX5_handOnKept_2 : decode cX5_handOnKept 2 = .ok (.iload_n 1, 1) := by decide +kernel
theorem dX5_handOnKept_3 : decode cX5_handOnKept 3 = .ok (.aload_n 0, 1) := by decide +kernel
theorem dX5_handOnKept_4 : decode cX5_handOnKept 4 = .ok (.getfield 12, 3) := by decide +kernel
theorem dX5_handOnKept_7 : decode cX5_handOnKept 7 = .ok (.getfield 150, 3) := by decide +kernel
theorem dX5_handOnKept_10 : decode cX5_handOnKept 10 = .ok (.if_icmp .ge 165, 3) := by decide +kernel
theorem dX5_handOnKept_13 : decode cX5_handOnKept 13 = .ok (.aload_n 0, 1) := by decide +kernel
theorem dX5_handOnKept_14 : decode cX5_handOnKept 14 = .ok (.getfield 12, 3) := by decide +kernel
theorem dX5_handOnKept_17 : decode cX5_handOnKept 17 = .ok (.getfield 151, 3) := by decide +kernel
theorem dX5_handOnKept_20 : decode cX5_handOnKept 20 = .ok (.iload_n 1, 1) := by decide +kernel
theorem dX5_handOnKept_21 : decode cX5_handOnKept 21 = .ok (.iaload, 1) := by decide +kernel
theorem dX5_handOnKept_22 : decode cX5_handOnKept 22 = .ok (.istore_n 2, 1) := by decide +kernel
theorem dX5_handOnKept_23 : decode cX5_handOnKept 23 = .ok (.iconst 0, 1) := by decide +kernel
theorem dX5_handOnKept_24 : decode cX5_handOnKept 24 = .ok (.istore_n 3, 1) := by decide +kernel
theorem dX5_handOnKept_25 : decode cX5_handOnKept 25 = .ok (.iload_n 2, 1) := by decide +kernel
theorem dX5_handOnKept_26 : decode cX5_handOnKept 26 = .ok (.iconst 4, 1) := by decide +kernel
theorem dX5_handOnKept_27 : decode cX5_handOnKept 27 = .ok (.if_icmp .ne 73, 3) := by decide +kernel
theorem dX5_handOnKept_30 : decode cX5_handOnKept 30 = .ok (.iload_n 3, 1) := by decide +kernel
theorem dX5_handOnKept_31 : decode cX5_handOnKept 31 = .ok (.aload_n 0, 1) := by decide +kernel
theorem dX5_handOnKept_32 : decode cX5_handOnKept 32 = .ok (.getfield 21, 3) := by decide +kernel
theorem dX5_handOnKept_35 : decode cX5_handOnKept 35 = .ok (.getfield 154, 3) := by decide +kernel
theorem dX5_handOnKept_38 : decode cX5_handOnKept 38 = .ok (.if_icmp .ge 62, 3) := by decide +kernel
theorem dX5_handOnKept_41 : decode cX5_handOnKept 41 = .ok (.aload_n 0, 1) := by decide +kernel
theorem dX5_handOnKept_42 : decode cX5_handOnKept 42 = .ok (.getfield 37, 3) := by decide +kernel
theorem dX5_handOnKept_45 : decode cX5_handOnKept 45 = .ok (.aload_n 0, 1) := by decide +kernel
theorem dX5_handOnKept_46 : decode cX5_handOnKept 46 = .ok (.getfield 33, 3) := by decide +kernel
theorem dX5_handOnKept_49 : decode cX5_handOnKept 49 = .ok (.if_icmp .ge 51, 3) := by decide +kernel
theorem dX5_handOnKept_52 : decode cX5_handOnKept 52 = .ok (.aload_n 0, 1) := by decide +kernel
theorem dX5_handOnKept_53 : decode cX5_handOnKept 53 = .ok (.getfield 28, 3) := by decide +kernel
theorem dX5_handOnKept_56 : decode cX5_handOnKept 56 = .ok (.dup, 1) := by decide +kernel
theorem dX5_handOnKept_57 : decode cX5_handOnKept 57 = .ok (.getfield 140, 3) := by decide +kernel
theorem dX5_handOnKept_60 : decode cX5_handOnKept 60 = .ok (.iconst 1, 1) := by decide +kernel
theorem dX5_handOnKept_61 : decode cX5_handOnKept 61 = .ok (.iadd, 1) := by decide +kernel
theorem dX5_handOnKept_62 : decode cX5_handOnKept 62 = .ok (.putfield 140, 3) := by decide +kernel
theorem dX5_handOnKept_65 : decode cX5_handOnKept 65 = .ok (.aload_n 0, 1) := by decide +kernel
theorem dX5_handOnKept_66 : decode cX5_handOnKept 66 = .ok (.aload_n 0, 1) := by decide +kernel
theorem dX5_handOnKept_67 : decode cX5_handOnKept 67 = .ok (.getfield 21, 3) := by decide +kernel
theorem dX5_handOnKept_70 : decode cX5_handOnKept 70 = .ok (.getfield 155, 3) := by decide +kernel
theorem dX5_handOnKept_73 : decode cX5_handOnKept 73 = .ok (.iload_n 3, 1) := by decide +kernel
theorem dX5_handOnKept_74 : decode cX5_handOnKept 74 = .ok (.iaload, 1) := by decide +kernel
theorem dX5_handOnKept_75 : decode cX5_handOnKept 75 = .ok (.aload_n 0, 1) := by decide +kernel
theorem dX5_handOnKept_76 : decode cX5_handOnKept 76 = .ok (.getfield 21, 3) := by decide +kernel
theorem dX5_handOnKept_79 : decode cX5_handOnKept 79 = .ok (.getfield 156, 3) := by decide +kernel
theorem dX5_handOnKept_82 : decode cX5_handOnKept 82 = .ok (.iload_n 3, 1) := by decide +kernel
theorem dX5_handOnKept_83 : decode cX5_handOnKept 83 = .ok (.iaload, 1) := by decide +kernel
theorem dX5_handOnKept_84 : decode cX5_handOnKept 84 = .ok (.iload_n 3, 1) := by decide +kernel
theorem dX5_handOnKept_85 : decode cX5_handOnKept 85 = .ok (.invokestatic 143, 3) := by decide +kernel
theorem dX5_handOnKept_88 : decode cX5_handOnKept 88 = .ok (.iload_n 1, 1) := by decide +kernel
theorem dX5_handOnKept_89 : decode cX5_handOnKept 89 = .ok (.iconst 1, 1) := by decide +kernel
theorem dX5_handOnKept_90 : decode cX5_handOnKept 90 = .ok (.iadd, 1) := by decide +kernel
theorem dX5_handOnKept_91 : decode cX5_handOnKept 91 = .ok (.invokevirtual 147, 3) := by decide +kernel
theorem dX5_handOnKept_94 : decode cX5_handOnKept 94 = .ok (.iinc 3 1, 3) := by decide +kernel
theorem dX5_handOnKept_97 : decode cX5_handOnKept 97 = .ok (.goto (-72), 3) := by decide +kernel
theorem dX5_handOnKept_100 : decode cX5_handOnKept 100 = .ok (.iconst 0, 1) := by decide +kernel
theorem dX5_handOnKept_101 : decode cX5_handOnKept 101 = .ok (.istore_n 3, 1) := by decide +kernel
theorem dX5_handOnKept_102 : decode cX5_handOnKept 102 = .ok (.iload_n 2, 1) := by decide +kernel
theorem dX5_handOnKept_103 : decode cX5_handOnKept 103 = .ok (.bipush 6, 2) := by decide +kernel
theorem dX5_handOnKept_105 : decode cX5_handOnKept 105 = .ok (.if_icmp .ne 64, 3) := by decide +kernel
theorem dX5_handOnKept_108 : decode cX5_handOnKept 108 = .ok (.iload_n 3, 1) := by decide +kernel
theorem dX5_handOnKept_109 : decode cX5_handOnKept 109 = .ok (.aload_n 0, 1) := by decide +kernel
theorem dX5_handOnKept_110 : decode cX5_handOnKept 110 = .ok (.getfield 40, 3) := by decide +kernel
theorem dX5_handOnKept_113 : decode cX5_handOnKept 113 = .ok (.getfield 157, 3) := by decide +kernel
theorem dX5_handOnKept_116 : decode cX5_handOnKept 116 = .ok (.iload_n 1, 1) := by decide +kernel
theorem dX5_handOnKept_117 : decode cX5_handOnKept 117 = .ok (.iaload, 1) := by decide +kernel
theorem dX5_handOnKept_118 : decode cX5_handOnKept 118 = .ok (.if_icmp .ge 51, 3) := by decide +kernel
theorem dX5_handOnKept_121 : decode cX5_handOnKept 121 = .ok (.aload_n 0, 1) := by decide +kernel
theorem dX5_handOnKept_122 : decode cX5_handOnKept 122 = .ok (.getfield 37, 3) := by decide +kernel
theorem dX5_handOnKept_125 : decode cX5_handOnKept 125 = .ok (.aload_n 0, 1) := by decide +kernel
theorem dX5_handOnKept_126 : decode cX5_handOnKept 126 = .ok (.getfield 33, 3) := by decide +kernel
theorem dX5_handOnKept_129 : decode cX5_handOnKept 129 = .ok (.if_icmp .ge 40, 3) := by decide +kernel
theorem dX5_handOnKept_132 : decode cX5_handOnKept 132 = .ok (.aload_n 0, 1) := by decide +kernel
theorem dX5_handOnKept_133 : decode cX5_handOnKept 133 = .ok (.getfield 28, 3) := by decide +kernel
theorem dX5_handOnKept_136 : decode cX5_handOnKept 136 = .ok (.dup, 1) := by decide +kernel
theorem dX5_handOnKept_137 : decode cX5_handOnKept 137 = .ok (.getfield 140, 3) := by decide +kernel
theorem dX5_handOnKept_140 : decode cX5_handOnKept 140 = .ok (.iconst 1, 1) := by decide +kernel
theorem dX5_handOnKept_141 : decode cX5_handOnKept 141 = .ok (.iadd, 1) := by decide +kernel
theorem dX5_handOnKept_142 : decode cX5_handOnKept 142 = .ok (.putfield 140, 3) := by decide +kernel
theorem dX5_handOnKept_145 : decode cX5_handOnKept 145 = .ok (.aload_n 0, 1) := by decide +kernel
theorem dX5_handOnKept_146 : decode cX5_handOnKept 146 = .ok (.aload_n 0, 1) := by decide +kernel
theorem dX5_handOnKept_147 : decode cX5_handOnKept 147 = .ok (.getfield 40, 3) := by decide +kernel
theorem dX5_handOnKept_150 : decode cX5_handOnKept 150 = .ok (.getfield 160, 3) := by decide +kernel
theorem dX5_handOnKept_153 : decode cX5_handOnKept 153 = .ok (.iload_n 1, 1) := by decide +kernel
theorem dX5_handOnKept_154 : decode cX5_handOnKept 154 = .ok (.aaload, 1) := by decide +kernel
theorem dX5_handOnKept_155 : decode cX5_handOnKept 155 = .ok (.iload_n 3, 1) := by decide +kernel
theorem dX5_handOnKept_156 : decode cX5_handOnKept 156 = .ok (.iaload, 1) := by decide +kernel
theorem dX5_handOnKept_157 : decode cX5_handOnKept 157 = .ok (.iload_n 1, 1) := by decide +kernel
theorem dX5_handOnKept_158 : decode cX5_handOnKept 158 = .ok (.iconst 1, 1) := by decide +kernel
theorem dX5_handOnKept_159 : decode cX5_handOnKept 159 = .ok (.iadd, 1) := by decide +kernel
theorem dX5_handOnKept_160 : decode cX5_handOnKept 160 = .ok (.invokevirtual 147, 3) := by decide +kernel
theorem dX5_handOnKept_163 : decode cX5_handOnKept 163 = .ok (.iinc 3 1, 3) := by decide +kernel
theorem dX5_handOnKept_166 : decode cX5_handOnKept 166 = .ok (.goto (-64), 3) := by decide +kernel
theorem dX5_handOnKept_169 : decode cX5_handOnKept 169 = .ok (.iinc 1 1, 3) := by decide +kernel
theorem dX5_handOnKept_172 : decode cX5_handOnKept 172 = .ok (.goto (-170), 3) := by decide +kernel
theorem dX5_handOnKept_175 : decode cX5_handOnKept 175 = .ok (.return_, 1) := by decide +kernel
theorem dX5_feed_0 : decode cX5_feed 0 = .ok (.aload_n 0, 1) := by decide +kernel
theorem dX5_feed_1 : decode cX5_feed 1 = .ok (.getfield 12, 3) := by decide +kernel
theorem dX5_feed_4 : decode cX5_feed 4 = .ok (.getfield 110, 3) := by decide +kernel
theorem dX5_feed_7 : decode cX5_feed 7 = .ok (.iload_n 2, 1) := by decide +kernel
theorem dX5_feed_8 : decode cX5_feed 8 = .ok (.if_icmp .ge 21, 3) := by decide +kernel
theorem dX5_feed_11 : decode cX5_feed 11 = .ok (.aload_n 0, 1) := by decide +kernel
theorem dX5_feed_12 : decode cX5_feed 12 = .ok (.aload_n 0, 1) := by decide +kernel
theorem dX5_feed_13 : decode cX5_feed 13 = .ok (.iload_n 1, 1) := by decide +kernel
theorem dX5_feed_14 : decode cX5_feed 14 = .ok (.iload_n 2, 1) := by decide +kernel
theorem dX5_feed_15 : decode cX5_feed 15 = .ok (.aload_n 0, 1) := by decide +kernel
theorem dX5_feed_16 : decode cX5_feed 16 = .ok (.getfield 12, 3) := by decide +kernel
theorem dX5_feed_19 : decode cX5_feed 19 = .ok (.getfield 150, 3) := by decide +kernel
theorem dX5_feed_22 : decode cX5_feed 22 = .ok (.invokevirtual 164, 3) := by decide +kernel
theorem dX5_feed_25 : decode cX5_feed 25 = .ok (.invokevirtual 167, 3) := by decide +kernel
theorem dX5_feed_28 : decode cX5_feed 28 = .ok (.return_, 1) := by decide +kernel
theorem dX5_feed_29 : decode cX5_feed 29 = .ok (.aload_n 0, 1) := by decide +kernel
theorem dX5_feed_30 : decode cX5_feed 30 = .ok (.iload_n 1, 1) := by decide +kernel
theorem dX5_feed_31 : decode cX5_feed 31 = .ok (.iload_n 2, 1) := by decide +kernel
theorem dX5_feed_32 : decode cX5_feed 32 = .ok (.aload_n 0, 1) := by decide +kernel
theorem dX5_feed_33 : decode cX5_feed 33 = .ok (.getfield 12, 3) := by decide +kernel
theorem dX5_feed_36 : decode cX5_feed 36 = .ok (.getfield 110, 3) := by decide +kernel
theorem dX5_feed_39 : decode cX5_feed 39 = .ok (.invokevirtual 164, 3) := by decide +kernel
theorem dX5_feed_42 : decode cX5_feed 42 = .ok (.istore_n 3, 1) := by decide +kernel
theorem dX5_feed_43 : decode cX5_feed 43 = .ok (.iconst 0, 1) := by decide +kernel
theorem dX5_feed_44 : decode cX5_feed 44 = .ok (.istore 4, 2) := by decide +kernel
theorem dX5_feed_46 : decode cX5_feed 46 = .ok (.iload 4, 2) := by decide +kernel
theorem dX5_feed_48 : decode cX5_feed 48 = .ok (.aload_n 0, 1) := by decide +kernel
theorem dX5_feed_49 : decode cX5_feed 49 = .ok (.getfield 21, 3) := by decide +kernel
theorem dX5_feed_52 : decode cX5_feed 52 = .ok (.getfield 154, 3) := by decide +kernel
theorem dX5_feed_55 : decode cX5_feed 55 = .ok (.if_icmp .ge 68, 3) := by decide +kernel
theorem dX5_feed_58 : decode cX5_feed 58 = .ok (.iload_n 3, 1) := by decide +kernel
theorem dX5_feed_59 : decode cX5_feed 59 = .ok (.iconst (-1), 1) := by decide +kernel
theorem dX5_feed_60 : decode cX5_feed 60 = .ok (.if_icmp .eq 63, 3) := by decide +kernel
theorem dX5_feed_63 : decode cX5_feed 63 = .ok (.aload_n 0, 1) := by decide +kernel
theorem dX5_feed_64 : decode cX5_feed 64 = .ok (.iload_n 3, 1) := by decide +kernel
theorem dX5_feed_65 : decode cX5_feed 65 = .ok (.iload 4, 2) := by decide +kernel
theorem dX5_feed_67 : decode cX5_feed 67 = .ok (.invokevirtual 171, 3) := by decide +kernel
theorem dX5_feed_70 : decode cX5_feed 70 = .ok (.ifCond .eq 47, 3) := by decide +kernel
theorem dX5_feed_73 : decode cX5_feed 73 = .ok (.aload_n 0, 1) := by decide +kernel
theorem dX5_feed_74 : decode cX5_feed 74 = .ok (.getfield 28, 3) := by decide +kernel
theorem dX5_feed_77 : decode cX5_feed 77 = .ok (.dup, 1) := by decide +kernel
theorem dX5_feed_78 : decode cX5_feed 78 = .ok (.getfield 140, 3) := by decide +kernel
theorem dX5_feed_81 : decode cX5_feed 81 = .ok (.iconst 1, 1) := by decide +kernel
theorem dX5_feed_82 : decode cX5_feed 82 = .ok (.iadd, 1) := by decide +kernel
theorem dX5_feed_83 : decode cX5_feed 83 = .ok (.putfield 140, 3) := by decide +kernel
theorem dX5_feed_86 : decode cX5_feed 86 = .ok (.aload_n 0, 1) := by decide +kernel
theorem dX5_feed_87 : decode cX5_feed 87 = .ok (.aload_n 0, 1) := by decide +kernel
theorem dX5_feed_88 : decode cX5_feed 88 = .ok (.iload_n 3, 1) := by decide +kernel
theorem dX5_feed_89 : decode cX5_feed 89 = .ok (.iload 4, 2) := by decide +kernel
theorem dX5_feed_91 : decode cX5_feed 91 = .ok (.bipush 20, 2) := by decide +kernel
theorem dX5_feed_93 : decode cX5_feed 93 = .ok (.ishl, 1) := by decide +kernel
theorem dX5_feed_94 : decode cX5_feed 94 = .ok (.ior, 1) := by decide +kernel
theorem dX5_feed_95 : decode cX5_feed 95 = .ok (.aload_n 0, 1) := by decide +kernel
theorem dX5_feed_96 : decode cX5_feed 96 = .ok (.getfield 12, 3) := by decide +kernel
theorem dX5_feed_99 : decode cX5_feed 99 = .ok (.getfield 110, 3) := by decide +kernel
theorem dX5_feed_102 : decode cX5_feed 102 = .ok (.iconst 1, 1) := by decide +kernel
theorem dX5_feed_103 : decode cX5_feed 103 = .ok (.iadd, 1) := by decide +kernel
theorem dX5_feed_104 : decode cX5_feed 104 = .ok (.aload_n 0, 1) := by decide +kernel
theorem dX5_feed_105 : decode cX5_feed 105 = .ok (.getfield 12, 3) := by decide +kernel
theorem dX5_feed_108 : decode cX5_feed 108 = .ok (.getfield 150, 3) := by decide +kernel
theorem dX5_feed_111 : decode cX5_feed 111 = .ok (.invokevirtual 164, 3) := by decide +kernel
theorem dX5_feed_114 : decode cX5_feed 114 = .ok (.invokevirtual 167, 3) := by decide +kernel
theorem dX5_feed_117 : decode cX5_feed 117 = .ok (.iinc 4 1, 3) := by decide +kernel
theorem dX5_feed_120 : decode cX5_feed 120 = .ok (.goto (-74), 3) := by decide +kernel
theorem dX5_feed_123 : decode cX5_feed 123 = .ok (.return_, 1) := by decide +kernel
theorem dX5_joins_0 : decode cX5_joins 0 = .ok (.iload_n 1, 1) := by decide +kernel
theorem dX5_joins_1 : decode cX5_joins 1 = .ok (.invokestatic 175, 3) := by decide +kernel
theorem dX5_joins_4 : decode cX5_joins 4 = .ok (.istore_n 3, 1) := by decide +kernel
theorem dX5_joins_5 : decode cX5_joins 5 = .ok (.aload_n 0, 1) := by decide +kernel
theorem dX5_joins_6 : decode cX5_joins 6 = .ok (.getfield 12, 3) := by decide +kernel
theorem dX5_joins_9 : decode cX5_joins 9 = .ok (.getfield 151, 3) := by decide +kernel
theorem dX5_joins_12 : decode cX5_joins 12 = .ok (.aload_n 0, 1) := by decide +kernel
theorem dX5_joins_13 : decode cX5_joins 13 = .ok (.getfield 12, 3) := by decide +kernel
theorem dX5_joins_16 : decode cX5_joins 16 = .ok (.getfield 110, 3) := by decide +kernel
theorem dX5_joins_19 : decode cX5_joins 19 = .ok (.iaload, 1) := by decide +kernel
theorem dX5_joins_20 : decode cX5_joins 20 = .ok (.bipush 8, 2) := by decide +kernel
theorem dX5_joins_22 : decode cX5_joins 22 = .ok (.if_icmp .eq 21, 3) := by decide +kernel
theorem dX5_joins_25 : decode cX5_joins 25 = .ok (.iload_n 3, 1) := by decide +kernel
theorem dX5_joins_26 : decode cX5_joins 26 = .ok (.iconst (-1), 1) := by decide +kernel
theorem dX5_joins_27 : decode cX5_joins 27 = .ok (.if_icmp .eq 20, 3) := by decide +kernel
theorem dX5_joins_30 : decode cX5_joins 30 = .ok (.iload_n 3, 1) := by decide +kernel
theorem dX5_joins_31 : decode cX5_joins 31 = .ok (.aload_n 0, 1) := by decide +kernel
theorem dX5_joins_32 : decode cX5_joins 32 = .ok (.getfield 21, 3) := by decide +kernel
theorem dX5_joins_35 : decode cX5_joins 35 = .ok (.getfield 155, 3) := by decide +kernel
theorem dX5_joins_38 : decode cX5_joins 38 = .ok (.iload_n 2, 1) := by decide +kernel
theorem dX5_joins_39 : decode cX5_joins 39 = .ok (.iaload, 1) := by decide +kernel
theorem dX5_joins_40 : decode cX5_joins 40 = .ok (.if_icmp .ne 7, 3) := by decide +kernel
theorem dX5_joins_43 : decode cX5_joins 43 = .ok (.iconst 1, 1) := by decide +kernel
theorem dX5_joins_44 : decode cX5_joins 44 = .ok (.goto 4, 3) := by decide +kernel
theorem dX5_joins_47 : decode cX5_joins 47 = .ok (.iconst 0, 1) := by decide +kernel
theorem dX5_joins_48 : decode cX5_joins 48 = .ok (.ireturn, 1) := by decide +kernel
theorem dX5_pass_0 : decode cX5_pass 0 = .ok (.iload_n 1, 1) := by decide +kernel
theorem dX5_pass_1 : decode cX5_pass 1 = .ok (.istore 4, 2) := by decide +kernel
theorem dX5_pass_3 : decode cX5_pass 3 = .ok (.iload_n 2, 1) := by decide +kernel
theorem dX5_pass_4 : decode cX5_pass 4 = .ok (.istore 5, 2) := by decide +kernel
theorem dX5_pass_6 : decode cX5_pass 6 = .ok (.iload 5, 2) := by decide +kernel
theorem dX5_pass_8 : decode cX5_pass 8 = .ok (.iload_n 3, 1) := by decide +kernel
theorem dX5_pass_9 : decode cX5_pass 9 = .ok (.if_icmp .ge 44, 3) := by decide +kernel
theorem dX5_pass_12 : decode cX5_pass 12 = .ok (.iload 4, 2) := by decide +kernel
theorem dX5_pass_14 : decode cX5_pass 14 = .ok (.iconst (-1), 1) := by decide +kernel
theorem dX5_pass_15 : decode cX5_pass 15 = .ok (.if_icmp .eq 38, 3) := by decide +kernel
theorem dX5_pass_18 : decode cX5_pass 18 = .ok (.aload_n 0, 1) := by decide +kernel
theorem dX5_pass_19 : decode cX5_pass 19 = .ok (.iload 5, 2) := by decide +kernel
theorem dX5_pass_21 : decode cX5_pass 21 = .ok (.iload 4, 2) := by decide +kernel
theorem dX5_pass_23 : decode cX5_pass 23 = .ok (.invokevirtual 179, 3) := by decide +kernel
theorem dX5_pass_26 : decode cX5_pass 26 = .ok (.istore 4, 2) := by decide +kernel
theorem dX5_pass_28 : decode cX5_pass 28 = .ok (.iload 4, 2) := by decide +kernel
theorem dX5_pass_30 : decode cX5_pass 30 = .ok (.iconst (-1), 1) := by decide +kernel
theorem dX5_pass_31 : decode cX5_pass 31 = .ok (.if_icmp .eq 16, 3) := by decide +kernel
theorem dX5_pass_34 : decode cX5_pass 34 = .ok (.aload_n 0, 1) := by decide +kernel
theorem dX5_pass_35 : decode cX5_pass 35 = .ok (.getfield 28, 3) := by decide +kernel
theorem dX5_pass_38 : decode cX5_pass 38 = .ok (.dup, 1) := by decide +kernel
theorem dX5_pass_39 : decode cX5_pass 39 = .ok (.getfield 140, 3) := by decide +kernel
theorem dX5_pass_42 : decode cX5_pass 42 = .ok (.iconst 1, 1) := by decide +kernel
theorem dX5_pass_43 : decode cX5_pass 43 = .ok (.iadd, 1) := by decide +kernel
theorem dX5_pass_44 : decode cX5_pass 44 = .ok (.putfield 140, 3) := by decide +kernel
theorem dX5_pass_47 : decode cX5_pass 47 = .ok (.iinc 5 1, 3) := by decide +kernel
theorem dX5_pass_50 : decode cX5_pass 50 = .ok (.goto (-44), 3) := by decide +kernel
theorem dX5_pass_53 : decode cX5_pass 53 = .ok (.iload 4, 2) := by decide +kernel
theorem dX5_pass_55 : decode cX5_pass 55 = .ok (.ireturn, 1) := by decide +kernel
theorem dX5_through_0 : decode cX5_through 0 = .ok (.iload_n 2, 1) := by decide +kernel
theorem dX5_through_1 : decode cX5_through 1 = .ok (.invokestatic 175, 3) := by decide +kernel
theorem dX5_through_4 : decode cX5_through 4 = .ok (.istore_n 3, 1) := by decide +kernel
theorem dX5_through_5 : decode cX5_through 5 = .ok (.iload_n 2, 1) := by decide +kernel
theorem dX5_through_6 : decode cX5_through 6 = .ok (.invokestatic 183, 3) := by decide +kernel
theorem dX5_through_9 : decode cX5_through 9 = .ok (.istore 4, 2) := by decide +kernel
theorem dX5_through_11 : decode cX5_through 11 = .ok (.aload_n 0, 1) := by decide +kernel
theorem dX5_through_12 : decode cX5_through 12 = .ok (.getfield 21, 3) := by decide +kernel
theorem dX5_through_15 : decode cX5_through 15 = .ok (.iload_n 2, 1) := by decide +kernel
theorem dX5_through_16 : decode cX5_through 16 = .ok (.bipush 20, 2) := by decide +kernel
theorem dX5_through_18 : decode cX5_through 18 = .ok (.ishr, 1) := by decide +kernel
theorem dX5_through_19 : decode cX5_through 19 = .ok (.invokevirtual 186, 3) := by decide +kernel
theorem dX5_through_22 : decode cX5_through 22 = .ok (.istore 5, 2) := by decide +kernel
theorem dX5_through_24 : decode cX5_through 24 = .ok (.aload_n 0, 1) := by decide +kernel
theorem dX5_through_25 : decode cX5_through 25 = .ok (.getfield 12, 3) := by decide +kernel
theorem dX5_through_28 : decode cX5_through 28 = .ok (.getfield 151, 3) := by decide +kernel
theorem dX5_through_31 : decode cX5_through 31 = .ok (.iload_n 1, 1) := by decide +kernel
theorem dX5_through_32 : decode cX5_through 32 = .ok (.iaload, 1) := by decide +kernel
theorem dX5_through_33 : decode cX5_through 33 = .ok (.tableswitch 162 1 7 #[43, 60, 77, 162, 107, 125, 136], 43) := by decide +kernel
theorem dX5_through_76 : decode cX5_through 76 = .ok (.iload_n 3, 1) := by decide +kernel
theorem dX5_through_77 : decode cX5_through 77 = .ok (.iconst (-1), 1) := by decide +kernel
theorem dX5_through_78 : decode cX5_through 78 = .ok (.if_icmp .eq 13, 3) := by decide +kernel
theorem dX5_through_81 : decode cX5_through 81 = .ok (.iload_n 3, 1) := by decide +kernel
theorem dX5_through_82 : decode cX5_through 82 = .ok (.iload 5, 2) := by decide +kernel
theorem dX5_through_84 : decode cX5_through 84 = .ok (.if_icmp .ne 7, 3) := by decide +kernel
theorem dX5_through_87 : decode cX5_through 87 = .ok (.iload_n 2, 1) := by decide +kernel
theorem dX5_through_88 : decode cX5_through 88 = .ok (.goto 4, 3) := by decide +kernel
theorem dX5_through_91 : decode cX5_through 91 = .ok (.iconst (-1), 1) := by decide +kernel
theorem dX5_through_92 : decode cX5_through 92 = .ok (.ireturn, 1) := by decide +kernel
theorem dX5_through_93 : decode cX5_through 93 = .ok (.iload_n 3, 1) := by decide +kernel
theorem dX5_through_94 : decode cX5_through 94 = .ok (.iconst (-1), 1) := by decide +kernel
theorem dX5_through_95 : decode cX5_through 95 = .ok (.if_icmp .eq 13, 3) := by decide +kernel
theorem dX5_through_98 : decode cX5_through 98 = .ok (.iload_n 3, 1) := by decide +kernel
theorem dX5_through_99 : decode cX5_through 99 = .ok (.iload 5, 2) := by decide +kernel
theorem dX5_through_101 : decode cX5_through 101 = .ok (.if_icmp .ge 7, 3) := by decide +kernel
theorem dX5_through_104 : decode cX5_through 104 = .ok (.iload_n 2, 1) := by decide +kernel
theorem dX5_through_105 : decode cX5_through 105 = .ok (.goto 4, 3) := by decide +kernel
theorem dX5_through_108 : decode cX5_through 108 = .ok (.iconst (-1), 1) := by decide +kernel
theorem dX5_through_109 : decode cX5_through 109 = .ok (.ireturn, 1) := by decide +kernel
theorem dX5_through_110 : decode cX5_through 110 = .ok (.iload_n 3, 1) := by decide +kernel
theorem dX5_through_111 : decode cX5_through 111 = .ok (.iload 4, 2) := by decide +kernel
theorem dX5_through_113 : decode cX5_through 113 = .ok (.iconst (-1), 1) := by decide +kernel
theorem dX5_through_114 : decode cX5_through 114 = .ok (.if_icmp .eq 9, 3) := by decide +kernel
theorem dX5_through_117 : decode cX5_through 117 = .ok (.iload 5, 2) := by decide +kernel
theorem dX5_through_119 : decode cX5_through 119 = .ok (.iconst (-1), 1) := by decide +kernel
theorem dX5_through_120 : decode cX5_through 120 = .ok (.if_icmp .ne 7, 3) := by decide +kernel
theorem dX5_through_123 : decode cX5_through 123 = .ok (.iconst (-1), 1) := by decide +kernel
theorem dX5_through_124 : decode cX5_through 124 = .ok (.goto 8, 3) := by decide +kernel
theorem dX5_through_127 : decode cX5_through 127 = .ok (.iload 4, 2) := by decide +kernel
theorem dX5_through_129 : decode cX5_through 129 = .ok (.iload 5, 2) := by decide +kernel
theorem dX5_through_131 : decode cX5_through 131 = .ok (.iadd, 1) := by decide +kernel
theorem dX5_through_132 : decode cX5_through 132 = .ok (.iload_n 2, 1) := by decide +kernel
theorem dX5_through_133 : decode cX5_through 133 = .ok (.bipush 20, 2) := by decide +kernel
theorem dX5_through_135 : decode cX5_through 135 = .ok (.ishr, 1) := by decide +kernel
theorem dX5_through_136 : decode cX5_through 136 = .ok (.invokestatic 143, 3) := by decide +kernel
theorem dX5_through_139 : decode cX5_through 139 = .ok (.ireturn, 1) := by decide +kernel
theorem dX5_through_140 : decode cX5_through 140 = .ok (.aload_n 0, 1) := by decide +kernel
theorem dX5_through_141 : decode cX5_through 141 = .ok (.getfield 40, 3) := by decide +kernel
theorem dX5_through_144 : decode cX5_through 144 = .ok (.iload_n 1, 1) := by decide +kernel
theorem dX5_through_145 : decode cX5_through 145 = .ok (.iload_n 2, 1) := by decide +kernel
theorem dX5_through_146 : decode cX5_through 146 = .ok (.invokevirtual 189, 3) := by decide +kernel
theorem dX5_through_149 : decode cX5_through 149 = .ok (.ifCond .eq 7, 3) := by decide +kernel
theorem dX5_through_152 : decode cX5_through 152 = .ok (.iload_n 2, 1) := by decide +kernel
theorem dX5_through_153 : decode cX5_through 153 = .ok (.goto 4, 3) := by decide +kernel
theorem dX5_through_156 : decode cX5_through 156 = .ok (.iconst (-1), 1) := by decide +kernel
theorem dX5_through_157 : decode cX5_through 157 = .ok (.ireturn, 1) := by decide +kernel
theorem dX5_through_158 : decode cX5_through 158 = .ok (.aload_n 0, 1) := by decide +kernel
theorem dX5_through_159 : decode cX5_through 159 = .ok (.getfield 40, 3) := by decide +kernel
theorem dX5_through_162 : decode cX5_through 162 = .ok (.iload_n 1, 1) := by decide +kernel
theorem dX5_through_163 : decode cX5_through 163 = .ok (.iload_n 2, 1) := by decide +kernel
theorem dX5_through_164 : decode cX5_through 164 = .ok (.invokevirtual 192, 3) := by decide +kernel
theorem dX5_through_167 : decode cX5_through 167 = .ok (.iconst (-1), 1) := by decide +kernel
theorem dX5_through_168 : decode cX5_through 168 = .ok (.ireturn, 1) := by decide +kernel
theorem dX5_through_169 : decode cX5_through 169 = .ok (.iload 4, 2) := by decide +kernel
theorem dX5_through_171 : decode cX5_through 171 = .ok (.iconst (-1), 1) := by decide +kernel
theorem dX5_through_172 : decode cX5_through 172 = .ok (.if_icmp .eq 21, 3) := by decide +kernel
theorem dX5_through_175 : decode cX5_through 175 = .ok (.iload 4, 2) := by decide +kernel
theorem dX5_through_177 : decode cX5_through 177 = .ok (.aload_n 0, 1) := by decide +kernel
theorem dX5_through_178 : decode cX5_through 178 = .ok (.getfield 12, 3) := by decide +kernel
theorem dX5_through_181 : decode cX5_through 181 = .ok (.getfield 195, 3) := by decide +kernel
theorem dX5_through_184 : decode cX5_through 184 = .ok (.iload_n 1, 1) := by decide +kernel
theorem dX5_through_185 : decode cX5_through 185 = .ok (.iaload, 1) := by decide +kernel
theorem dX5_through_186 : decode cX5_through 186 = .ok (.if_icmp .lt 7, 3) := by decide +kernel
theorem dX5_through_189 : decode cX5_through 189 = .ok (.iload_n 2, 1) := by decide +kernel
theorem dX5_through_190 : decode cX5_through 190 = .ok (.goto 4, 3) := by decide +kernel
theorem dX5_through_193 : decode cX5_through 193 = .ok (.iconst (-1), 1) := by decide +kernel
theorem dX5_through_194 : decode cX5_through 194 = .ok (.ireturn, 1) := by decide +kernel
theorem dX5_through_195 : decode cX5_through 195 = .ok (.iload_n 2, 1) := by decide +kernel
theorem dX5_through_196 : decode cX5_through 196 = .ok (.ireturn, 1) := by decide +kernel
theorem dX5_arrive_0 : decode cX5_arrive 0 = .ok (.iload_n 1, 1) := by decide +kernel
theorem dX5_arrive_1 : decode cX5_arrive 1 = .ok (.bipush 20, 2) := by decide +kernel
theorem dX5_arrive_3 : decode cX5_arrive 3 = .ok (.ishr, 1) := by decide +kernel
theorem dX5_arrive_4 : decode cX5_arrive 4 = .ok (.istore_n 2, 1) := by decide +kernel
end
section
theorem dX5_arrive_5 : decode cX5_arrive 5 = .ok (.iload_n 1, 1) := by decide +kernel
theorem dX5_arrive_6 : decode cX5_arrive 6 = .ok (.iconst (-1), 1) := by decide +kernel
theorem dX5_arrive_7 : decode cX5_arrive 7 = .ok (.if_icmp .eq 46, 3) := by decide +kernel
theorem dX5_arrive_10 : decode cX5_arrive 10 = .ok (.iload_n 2, 1) := by decide +kernel
theorem dX5_arrive_11 : decode cX5_arrive 11 = .ok (.bipush 10, 2) := by decide +kernel
theorem dX5_arrive_13 : decode cX5_arrive 13 = .ok (.invokestatic 198, 3) := by decide +kernel
theorem dX5_arrive_16 : decode cX5_arrive 16 = .ok (.ifCond .eq 37, 3) := by decide +kernel
theorem dX5_arrive_19 : decode cX5_arrive 19 = .ok (.aload_n 0, 1) := by decide +kernel
theorem dX5_arrive_20 : decode cX5_arrive 20 = .ok (.dup, 1) := by decide +kernel
theorem dX5_arrive_21 : decode cX5_arrive 21 = .ok (.getfield 37, 3) := by decide +kernel
theorem dX5_arrive_24 : decode cX5_arrive 24 = .ok (.iconst 1, 1) := by decide +kernel
theorem dX5_arrive_25 : decode cX5_arrive 25 = .ok (.iadd, 1) := by decide +kernel
theorem dX5_arrive_26 : decode cX5_arrive 26 = .ok (.putfield 37, 3) := by decide +kernel
theorem dX5_arrive_29 : decode cX5_arrive 29 = .ok (.aload_n 0, 1) := by decide +kernel
theorem dX5_arrive_30 : decode cX5_arrive 30 = .ok (.getfield 40, 3) := by decide +kernel
theorem dX5_arrive_33 : decode cX5_arrive 33 = .ok (.getfield 93, 3) := by decide +kernel
theorem dX5_arrive_36 : decode cX5_arrive 36 = .ok (.iload_n 2, 1) := by decide +kernel
theorem dX5_arrive_37 : decode cX5_arrive 37 = .ok (.aaload, 1) := by decide +kernel
theorem dX5_arrive_38 : decode cX5_arrive 38 = .ok (.iload_n 1, 1) := by decide +kernel
theorem dX5_arrive_39 : decode cX5_arrive 39 = .ok (.invokestatic 183, 3) := by decide +kernel
theorem dX5_arrive_42 : decode cX5_arrive 42 = .ok (.aload_n 0, 1) := by decide +kernel
theorem dX5_arrive_43 : decode cX5_arrive 43 = .ok (.getfield 21, 3) := by decide +kernel
theorem dX5_arrive_46 : decode cX5_arrive 46 = .ok (.iload_n 2, 1) := by decide +kernel
theorem dX5_arrive_47 : decode cX5_arrive 47 = .ok (.invokevirtual 201, 3) := by decide +kernel
theorem dX5_arrive_50 : decode cX5_arrive 50 = .ok (.invokevirtual 204, 3) := by decide +kernel
theorem dX5_arrive_53 : decode cX5_arrive 53 = .ok (.return_, 1) := by decide +kernel
theorem dX5_packed_0 : decode cX5_packed 0 = .ok (.iload_n 2, 1) := by decide +kernel
theorem dX5_packed_1 : decode cX5_packed 1 = .ok (.bipush 20, 2) := by decide +kernel
theorem dX5_packed_3 : decode cX5_packed 3 = .ok (.ishl, 1) := by decide +kernel
theorem dX5_packed_4 : decode cX5_packed 4 = .ok (.iload_n 1, 1) := by decide +kernel
theorem dX5_packed_5 : decode cX5_packed 5 = .ok (.iconst 1, 1) := by decide +kernel
theorem dX5_packed_6 : decode cX5_packed 6 = .ok (.iadd, 1) := by decide +kernel
theorem dX5_packed_7 : decode cX5_packed 7 = .ok (.bipush 8, 2) := by decide +kernel
theorem dX5_packed_9 : decode cX5_packed 9 = .ok (.ishl, 1) := by decide +kernel
theorem dX5_packed_10 : decode cX5_packed 10 = .ok (.ior, 1) := by decide +kernel
theorem dX5_packed_11 : decode cX5_packed 11 = .ok (.iload_n 0, 1) := by decide +kernel
theorem dX5_packed_12 : decode cX5_packed 12 = .ok (.iconst 1, 1) := by decide +kernel
theorem dX5_packed_13 : decode cX5_packed 13 = .ok (.iadd, 1) := by decide +kernel
theorem dX5_packed_14 : decode cX5_packed 14 = .ok (.ior, 1) := by decide +kernel
theorem dX5_packed_15 : decode cX5_packed 15 = .ok (.ireturn, 1) := by decide +kernel
theorem dX5_keyOf_0 : decode cX5_keyOf 0 = .ok (.iload_n 0, 1) := by decide +kernel
theorem dX5_keyOf_1 : decode cX5_keyOf 1 = .ok (.sipush 255, 3) := by decide +kernel
theorem dX5_keyOf_4 : decode cX5_keyOf 4 = .ok (.iand, 1) := by decide +kernel
theorem dX5_keyOf_5 : decode cX5_keyOf 5 = .ok (.iconst 1, 1) := by decide +kernel
theorem dX5_keyOf_6 : decode cX5_keyOf 6 = .ok (.isub, 1) := by decide +kernel
theorem dX5_keyOf_7 : decode cX5_keyOf 7 = .ok (.ireturn, 1) := by decide +kernel
theorem dX5_valueOf_0 : decode cX5_valueOf 0 = .ok (.iload_n 0, 1) := by decide +kernel
theorem dX5_valueOf_1 : decode cX5_valueOf 1 = .ok (.bipush 8, 2) := by decide +kernel
theorem dX5_valueOf_3 : decode cX5_valueOf 3 = .ok (.ishr, 1) := by decide +kernel
theorem dX5_valueOf_4 : decode cX5_valueOf 4 = .ok (.sipush 4095, 3) := by decide +kernel
theorem dX5_valueOf_7 : decode cX5_valueOf 7 = .ok (.iand, 1) := by decide +kernel
theorem dX5_valueOf_8 : decode cX5_valueOf 8 = .ok (.iconst 1, 1) := by decide +kernel
theorem dX5_valueOf_9 : decode cX5_valueOf 9 = .ok (.isub, 1) := by decide +kernel
theorem dX5_valueOf_10 : decode cX5_valueOf 10 = .ok (.ireturn, 1) := by decide +kernel
theorem dX6_init_0 : decode cX6_init 0 = .ok (.aload_n 0, 1) := by decide +kernel
theorem dX6_init_1 : decode cX6_init 1 = .ok (.invokespecial 3, 3) := by decide +kernel
theorem dX6_init_4 : decode cX6_init 4 = .ok (.aload_n 0, 1) := by decide +kernel
theorem dX6_init_5 : decode cX6_init 5 = .ok (.bipush 60, 2) := by decide +kernel
theorem dX6_init_7 : decode cX6_init 7 = .ok (.newarray .int, 2) := by decide +kernel
theorem dX6_init_9 : decode cX6_init 9 = .ok (.putfield 9, 3) := by decide +kernel
theorem dX6_init_12 : decode cX6_init 12 = .ok (.aload_n 0, 1) := by decide +kernel
theorem dX6_init_13 : decode cX6_init 13 = .ok (.iconst (-1), 1) := by decide +kernel
theorem dX6_init_14 : decode cX6_init 14 = .ok (.putfield 15, 3) := by decide +kernel
theorem dX6_init_17 : decode cX6_init 17 = .ok (.aload_n 0, 1) := by decide +kernel
theorem dX6_init_18 : decode cX6_init 18 = .ok (.iconst 0, 1) := by decide +kernel
theorem dX6_init_19 : decode cX6_init 19 = .ok (.putfield 19, 3) := by decide +kernel
theorem dX6_init_22 : decode cX6_init 22 = .ok (.return_, 1) := by decide +kernel
theorem dX6_isLost_0 : decode cX6_isLost 0 = .ok (.aload_n 0, 1) := by decide +kernel
theorem dX6_isLost_1 : decode cX6_isLost 1 = .ok (.getfield 15, 3) := by decide +kernel
theorem dX6_isLost_4 : decode cX6_isLost 4 = .ok (.iconst (-1), 1) := by decide +kernel
theorem dX6_isLost_5 : decode cX6_isLost 5 = .ok (.if_icmp .ne 7, 3) := by decide +kernel
theorem dX6_isLost_8 : decode cX6_isLost 8 = .ok (.iconst 1, 1) := by decide +kernel
theorem dX6_isLost_9 : decode cX6_isLost 9 = .ok (.goto 4, 3) := by decide +kernel
theorem dX6_isLost_12 : decode cX6_isLost 12 = .ok (.iconst 0, 1) := by decide +kernel
theorem dX6_isLost_13 : decode cX6_isLost 13 = .ok (.ireturn, 1) := by decide +kernel
theorem dX6_forget_0 : decode cX6_forget 0 = .ok (.aload_n 0, 1) := by decide +kernel
theorem dX6_forget_1 : decode cX6_forget 1 = .ok (.iconst (-1), 1) := by decide +kernel
theorem dX6_forget_2 : decode cX6_forget 2 = .ok (.putfield 15, 3) := by decide +kernel
theorem dX6_forget_5 : decode cX6_forget 5 = .ok (.aload_n 0, 1) := by decide +kernel
theorem dX6_forget_6 : decode cX6_forget 6 = .ok (.iconst 0, 1) := by decide +kernel
theorem dX6_forget_7 : decode cX6_forget 7 = .ok (.putfield 19, 3) := by decide +kernel
theorem dX6_forget_10 : decode cX6_forget 10 = .ok (.return_, 1) := by decide +kernel
theorem dX6_renew_0 : decode cX6_renew 0 = .ok (.aload_n 0, 1) := by decide +kernel
theorem dX6_renew_1 : decode cX6_renew 1 = .ok (.iload_n 1, 1) := by decide +kernel
theorem dX6_renew_2 : decode cX6_renew 2 = .ok (.putfield 15, 3) := by decide +kernel
theorem dX6_renew_5 : decode cX6_renew 5 = .ok (.aload_n 0, 1) := by decide +kernel
theorem dX6_renew_6 : decode cX6_renew 6 = .ok (.iload_n 2, 1) := by decide +kernel
theorem dX6_renew_7 : decode cX6_renew 7 = .ok (.putfield 19, 3) := by decide +kernel
theorem dX6_renew_10 : decode cX6_renew 10 = .ok (.aload_n 0, 1) := by decide +kernel
theorem dX6_renew_11 : decode cX6_renew 11 = .ok (.getfield 9, 3) := by decide +kernel
theorem dX6_renew_14 : decode cX6_renew 14 = .ok (.iconst 0, 1) := by decide +kernel
theorem dX6_renew_15 : decode cX6_renew 15 = .ok (.invokestatic 22, 3) := by decide +kernel
theorem dX6_renew_18 : decode cX6_renew 18 = .ok (.return_, 1) := by decide +kernel
theorem dX6_findingAt_0 : decode cX6_findingAt 0 = .ok (.aload_n 0, 1) := by decide +kernel
theorem dX6_findingAt_1 : decode cX6_findingAt 1 = .ok (.invokevirtual 28, 3) := by decide +kernel
theorem dX6_findingAt_4 : decode cX6_findingAt 4 = .ok (.ifCond .eq 5, 3) := by decide +kernel
theorem dX6_findingAt_7 : decode cX6_findingAt 7 = .ok (.iconst 1, 1) := by decide +kernel
theorem dX6_findingAt_8 : decode cX6_findingAt 8 = .ok (.ireturn, 1) := by decide +kernel
theorem dX6_findingAt_9 : decode cX6_findingAt 9 = .ok (.aload_n 0, 1) := by decide +kernel
theorem dX6_findingAt_10 : decode cX6_findingAt 10 = .ok (.getfield 15, 3) := by decide +kernel
theorem dX6_findingAt_13 : decode cX6_findingAt 13 = .ok (.iload_n 1, 1) := by decide +kernel
theorem dX6_findingAt_14 : decode cX6_findingAt 14 = .ok (.if_icmp .eq 5, 3) := by decide +kernel
theorem dX6_findingAt_17 : decode cX6_findingAt 17 = .ok (.iconst 3, 1) := by decide +kernel
theorem dX6_findingAt_18 : decode cX6_findingAt 18 = .ok (.ireturn, 1) := by decide +kernel
theorem dX6_findingAt_19 : decode cX6_findingAt 19 = .ok (.iload_n 2, 1) := by decide +kernel
theorem dX6_findingAt_20 : decode cX6_findingAt 20 = .ok (.aload_n 0, 1) := by decide +kernel
theorem dX6_findingAt_21 : decode cX6_findingAt 21 = .ok (.getfield 19, 3) := by decide +kernel
theorem dX6_findingAt_24 : decode cX6_findingAt 24 = .ok (.invokestatic 32, 3) := by decide +kernel
theorem dX6_findingAt_27 : decode cX6_findingAt 27 = .ok (.ifCond .eq 7, 3) := by decide +kernel
theorem dX6_findingAt_30 : decode cX6_findingAt 30 = .ok (.iconst 0, 1) := by decide +kernel
theorem dX6_findingAt_31 : decode cX6_findingAt 31 = .ok (.goto 4, 3) := by decide +kernel
theorem dX6_findingAt_34 : decode cX6_findingAt 34 = .ok (.iconst 2, 1) := by decide +kernel
theorem dX6_findingAt_35 : decode cX6_findingAt 35 = .ok (.ireturn, 1) := by decide +kernel
theorem dX6_hasRange_0 : decode cX6_hasRange 0 = .ok (.iload_n 1, 1) := by decide +kernel
theorem dX6_hasRange_1 : decode cX6_hasRange 1 = .ok (.ifCond .lt 21, 3) := by decide +kernel
theorem dX6_hasRange_4 : decode cX6_hasRange 4 = .ok (.iload_n 2, 1) := by decide +kernel
theorem dX6_hasRange_5 : decode cX6_hasRange 5 = .ok (.ifCond .lt 17, 3) := by decide +kernel
theorem dX6_hasRange_8 : decode cX6_hasRange 8 = .ok (.iload_n 1, 1) := by decide +kernel
theorem dX6_hasRange_9 : decode cX6_hasRange 9 = .ok (.aload_n 0, 1) := by decide +kernel
theorem dX6_hasRange_10 : decode cX6_hasRange 10 = .ok (.getfield 19, 3) := by decide +kernel
theorem dX6_hasRange_13 : decode cX6_hasRange 13 = .ok (.iload_n 2, 1) := by decide +kernel
theorem dX6_hasRange_14 : decode cX6_hasRange 14 = .ok (.isub, 1) := by decide +kernel
theorem dX6_hasRange_15 : decode cX6_hasRange 15 = .ok (.if_icmp .gt 7, 3) := by decide +kernel
theorem dX6_hasRange_18 : decode cX6_hasRange 18 = .ok (.iconst 1, 1) := by decide +kernel
theorem dX6_hasRange_19 : decode cX6_hasRange 19 = .ok (.goto 4, 3) := by decide +kernel
theorem dX6_hasRange_22 : decode cX6_hasRange 22 = .ok (.iconst 0, 1) := by decide +kernel
theorem dX6_hasRange_23 : decode cX6_hasRange 23 = .ok (.ireturn, 1) := by decide +kernel
theorem dX6_assign_0 : decode cX6_assign 0 = .ok (.aload_n 0, 1) := by decide +kernel
theorem dX6_assign_1 : decode cX6_assign 1 = .ok (.getfield 9, 3) := by decide +kernel
theorem dX6_assign_4 : decode cX6_assign 4 = .ok (.iload_n 1, 1) := by decide +kernel
theorem dX6_assign_5 : decode cX6_assign 5 = .ok (.aload_n 0, 1) := by decide +kernel
theorem dX6_assign_6 : decode cX6_assign 6 = .ok (.getfield 15, 3) := by decide +kernel
theorem dX6_assign_9 : decode cX6_assign 9 = .ok (.ifCond .ne 8, 3) := by decide +kernel
theorem dX6_assign_12 : decode cX6_assign 12 = .ok (.iload_n 2, 1) := by decide +kernel
theorem dX6_assign_13 : decode cX6_assign 13 = .ok (.i2b, 1) := by decide +kernel
theorem dX6_assign_14 : decode cX6_assign 14 = .ok (.goto 17, 3) := by decide +kernel
theorem dX6_assign_17 : decode cX6_assign 17 = .ok (.aload_n 0, 1) := by decide +kernel
theorem dX6_assign_18 : decode cX6_assign 18 = .ok (.getfield 15, 3) := by decide +kernel
theorem dX6_assign_21 : decode cX6_assign 21 = .ok (.iconst 1, 1) := by decide +kernel
theorem dX6_assign_22 : decode cX6_assign 22 = .ok (.if_icmp .ne 8, 3) := by decide +kernel
theorem dX6_assign_25 : decode cX6_assign 25 = .ok (.iload_n 2, 1) := by decide +kernel
theorem dX6_assign_26 : decode cX6_assign 26 = .ok (.i2s, 1) := by decide +kernel
theorem dX6_assign_27 : decode cX6_assign 27 = .ok (.goto 4, 3) := by decide +kernel
theorem dX6_assign_30 : decode cX6_assign 30 = .ok (.iload_n 2, 1) := by decide +kernel
theorem dX6_assign_31 : decode cX6_assign 31 = .ok (.iastore, 1) := by decide +kernel
theorem dX6_assign_32 : decode cX6_assign 32 = .ok (.return_, 1) := by decide +kernel
theorem dX7_init_0 : decode cX7_init 0 = .ok (.aload_n 0, 1) := by decide +kernel
theorem dX7_init_1 : decode cX7_init 1 = .ok (.invokespecial 3, 3) := by decide +kernel
theorem dX7_init_4 : decode cX7_init 4 = .ok (.aload_n 0, 1) := by decide +kernel
theorem dX7_init_5 : decode cX7_init 5 = .ok (.bipush 12, 2) := by decide +kernel
theorem dX7_init_7 : decode cX7_init 7 = .ok (.newarray .int, 2) := by decide +kernel
theorem dX7_init_9 : decode cX7_init 9 = .ok (.putfield 9, 3) := by decide +kernel
theorem dX7_init_12 : decode cX7_init 12 = .ok (.aload_n 0, 1) := by decide +kernel
theorem dX7_init_13 : decode cX7_init 13 = .ok (.bipush 12, 2) := by decide +kernel
theorem dX7_init_15 : decode cX7_init 15 = .ok (.newarray .int, 2) := by decide +kernel
theorem dX7_init_17 : decode cX7_init 17 = .ok (.putfield 15, 3) := by decide +kernel
theorem dX7_init_20 : decode cX7_init 20 = .ok (.aload_n 0, 1) := by decide +kernel
theorem dX7_init_21 : decode cX7_init 21 = .ok (.iconst 0, 1) := by decide +kernel
theorem dX7_init_22 : decode cX7_init 22 = .ok (.putfield 18, 3) := by decide +kernel
theorem dX7_init_25 : decode cX7_init 25 = .ok (.aload_n 0, 1) := by decide +kernel
theorem dX7_init_26 : decode cX7_init 26 = .ok (.iconst (-1), 1) := by decide +kernel
theorem dX7_init_27 : decode cX7_init 27 = .ok (.putfield 22, 3) := by decide +kernel
theorem dX7_init_30 : decode cX7_init 30 = .ok (.return_, 1) := by decide +kernel
theorem dX7_parse_0 : decode cX7_parse 0 = .ok (.aload_n 0, 1) := by decide +kernel
theorem dX7_parse_1 : decode cX7_parse 1 = .ok (.iconst 0, 1) := by decide +kernel
theorem dX7_parse_2 : decode cX7_parse 2 = .ok (.putfield 18, 3) := by decide +kernel
theorem dX7_parse_5 : decode cX7_parse 5 = .ok (.aload_n 0, 1) := by decide +kernel
theorem dX7_parse_6 : decode cX7_parse 6 = .ok (.iconst (-1), 1) := by decide +kernel
theorem dX7_parse_7 : decode cX7_parse 7 = .ok (.putfield 22, 3) := by decide +kernel
theorem dX7_parse_10 : decode cX7_parse 10 = .ok (.iconst 0, 1) := by decide +kernel
theorem dX7_parse_11 : decode cX7_parse 11 = .ok (.istore_n 2, 1) := by decide +kernel
theorem dX7_parse_12 : decode cX7_parse 12 = .ok (.iload_n 2, 1) := by decide +kernel
theorem dX7_parse_13 : decode cX7_parse 13 = .ok (.aload_n 1, 1) := by decide +kernel
theorem dX7_parse_14 : decode cX7_parse 14 = .ok (.getfield 25, 3) := by decide +kernel
theorem dX7_parse_17 : decode cX7_parse 17 = .ok (.if_icmp .ge 100, 3) := by decide +kernel
theorem dX7_parse_20 : decode cX7_parse 20 = .ok (.aload_n 0, 1) := by decide +kernel
theorem dX7_parse_21 : decode cX7_parse 21 = .ok (.getfield 22, 3) := by decide +kernel
theorem dX7_parse_24 : decode cX7_parse 24 = .ok (.iconst (-1), 1) := by decide +kernel
theorem dX7_parse_25 : decode cX7_parse 25 = .ok (.if_icmp .ne 92, 3) := by decide +kernel
theorem dX7_parse_28 : decode cX7_parse 28 = .ok (.aload_n 1, 1) := by decide +kernel
theorem dX7_parse_29 : decode cX7_parse 29 = .ok (.getfield 28, 3) := by decide +kernel
theorem dX7_parse_32 : decode cX7_parse 32 = .ok (.iload_n 2, 1) := by decide +kernel
theorem dX7_parse_33 : decode cX7_parse 33 = .ok (.iaload, 1) := by decide +kernel
theorem dX7_parse_34 : decode cX7_parse 34 = .ok (.invokestatic 31, 3) := by decide +kernel
theorem dX7_parse_37 : decode cX7_parse 37 = .ok (.istore_n 3, 1) := by decide +kernel
theorem dX7_parse_38 : decode cX7_parse 38 = .ok (.iload_n 3, 1) := by decide +kernel
theorem dX7_parse_39 : decode cX7_parse 39 = .ok (.iconst (-1), 1) := by decide +kernel
theorem dX7_parse_40 : decode cX7_parse 40 = .ok (.if_icmp .ne 11, 3) := by decide +kernel
theorem dX7_parse_43 : decode cX7_parse 43 = .ok (.aload_n 0, 1) := by decide +kernel
theorem dX7_parse_44 : decode cX7_parse 44 = .ok (.iload_n 2, 1) := by decide +kernel
theorem dX7_parse_45 : decode cX7_parse 45 = .ok (.putfield 22, 3) := by decide +kernel
theorem dX7_parse_48 : decode cX7_parse 48 = .ok (.goto 63, 3) := by decide +kernel
theorem dX7_parse_51 : decode cX7_parse 51 = .ok (.iload_n 3, 1) := by decide +kernel
theorem dX7_parse_52 : decode cX7_parse 52 = .ok (.bipush 7, 2) := by decide +kernel
theorem dX7_parse_54 : decode cX7_parse 54 = .ok (.if_icmp .eq 12, 3) := by decide +kernel
theorem dX7_parse_57 : decode cX7_parse 57 = .ok (.aload_n 0, 1) := by decide +kernel
theorem dX7_parse_58 : decode cX7_parse 58 = .ok (.iload_n 3, 1) := by decide +kernel
theorem dX7_parse_59 : decode cX7_parse 59 = .ok (.iconst (-1), 1) := by decide +kernel
theorem dX7_parse_60 : decode cX7_parse 60 = .ok (.invokevirtual 35, 3) := by decide +kernel
theorem dX7_parse_63 : decode cX7_parse 63 = .ok (.goto 48, 3) := by decide +kernel
theorem dX7_parse_66 : decode cX7_parse 66 = .ok (.iinc 2 1, 3) := by decide +kernel
theorem dX7_parse_69 : decode cX7_parse 69 = .ok (.iload_n 2, 1) := by decide +kernel
theorem dX7_parse_70 : decode cX7_parse 70 = .ok (.aload_n 1, 1) := by decide +kernel
theorem dX7_parse_71 : decode cX7_parse 71 = .ok (.getfield 25, 3) := by decide +kernel
theorem dX7_parse_74 : decode cX7_parse 74 = .ok (.if_icmp .ge 32, 3) := by decide +kernel
theorem dX7_parse_77 : decode cX7_parse 77 = .ok (.aload_n 1, 1) := by decide +kernel
theorem dX7_parse_78 : decode cX7_parse 78 = .ok (.getfield 28, 3) := by decide +kernel
theorem dX7_parse_81 : decode cX7_parse 81 = .ok (.iload_n 2, 1) := by decide +kernel
theorem dX7_parse_82 : decode cX7_parse 82 = .ok (.iaload, 1) := by decide +kernel
theorem dX7_parse_83 : decode cX7_parse 83 = .ok (.invokestatic 39, 3) := by decide +kernel
theorem dX7_parse_86 : decode cX7_parse 86 = .ok (.ifCond .eq 20, 3) := by decide +kernel
theorem dX7_parse_89 : decode cX7_parse 89 = .ok (.aload_n 0, 1) := by decide +kernel
theorem dX7_parse_90 : decode cX7_parse 90 = .ok (.iload_n 3, 1) := by decide +kernel
theorem dX7_parse_91 : decode cX7_parse 91 = .ok (.aload_n 1, 1) := by decide +kernel
theorem dX7_parse_92 : decode cX7_parse 92 = .ok (.getfield 28, 3) := by decide +kernel
theorem dX7_parse_95 : decode cX7_parse 95 = .ok (.iload_n 2, 1) := by decide +kernel
theorem dX7_parse_96 : decode cX7_parse 96 = .ok (.iaload, 1) := by decide +kernel
theorem dX7_parse_97 : decode cX7_parse 97 = .ok (.bipush 48, 2) := by decide +kernel
theorem dX7_parse_99 : decode cX7_parse 99 = .ok (.isub, 1) := by decide +kernel
theorem dX7_parse_100 : decode cX7_parse 100 = .ok (.invokevirtual 35, 3) := by decide +kernel
theorem dX7_parse_103 : decode cX7_parse 103 = .ok (.goto 8, 3) := by decide +kernel
theorem dX7_parse_106 : decode cX7_parse 106 = .ok (.aload_n 0, 1) := by decide +kernel
theorem dX7_parse_107 : decode cX7_parse 107 = .ok (.iload_n 2, 1) := by decide +kernel
theorem dX7_parse_108 : decode cX7_parse 108 = .ok (.putfield 22, 3) := by decide +kernel
theorem dX7_parse_111 : decode cX7_parse 111 = .ok (.iinc 2 1, 3) := by decide +kernel
theorem dX7_parse_114 : decode cX7_parse 114 = .ok (.goto (-102), 3) := by decide +kernel
theorem dX7_parse_117 : decode cX7_parse 117 = .ok (.aload_n 0, 1) := by decide +kernel
theorem dX7_parse_118 : decode cX7_parse 118 = .ok (.getfield 22, 3) := by decide +kernel
theorem dX7_parse_121 : decode cX7_parse 121 = .ok (.iconst (-1), 1) := by decide +kernel
theorem dX7_parse_122 : decode cX7_parse 122 = .ok (.if_icmp .eq 8, 3) := by decide +kernel
theorem dX7_parse_125 : decode cX7_parse 125 = .ok (.aload_n 0, 1) := by decide +kernel
theorem dX7_parse_126 : decode cX7_parse 126 = .ok (.iconst 0, 1) := by decide +kernel
theorem dX7_parse_127 : decode cX7_parse 127 = .ok (.putfield 18, 3) := by decide +kernel
theorem dX7_parse_130 : decode cX7_parse 130 = .ok (.return_, 1) := by decide +kernel
theorem dX7_add_0 : decode cX7_add 0 = .ok (.aload_n 0, 1) := by decide +kernel
theorem dX7_add_1 : decode cX7_add 1 = .ok (.getfield 18, 3) := by decide +kernel
theorem dX7_add_4 : decode cX7_add 4 = .ok (.bipush 12, 2) := by decide +kernel
theorem dX7_add_6 : decode cX7_add 6 = .ok (.if_icmp .ge 33, 3) := by decide +kernel
theorem dX7_add_9 : decode cX7_add 9 = .ok (.aload_n 0, 1) := by decide +kernel
theorem dX7_add_10 : decode cX7_add 10 = .ok (.getfield 9, 3) := by decide +kernel
theorem dX7_add_13 : decode cX7_add 13 = .ok (.aload_n 0, 1) := by decide +kernel
theorem dX7_add_14 : decode cX7_add 14 = .ok (.getfield 18, 3) := by decide +kernel
theorem dX7_add_17 : decode cX7_add 17 = .ok (.iload_n 1, 1) := by decide +kernel
theorem dX7_add_18 : decode cX7_add 18 = .ok (.iastore, 1) := by decide +kernel
theorem dX7_add_19 : decode cX7_add 19 = .ok (.aload_n 0, 1) := by decide +kernel
theorem dX7_add_20 : decode cX7_add 20 = .ok (.getfield 15, 3) := by decide +kernel
theorem dX7_add_23 : decode cX7_add 23 = .ok (.aload_n 0, 1) := by decide +kernel
theorem dX7_add_24 : decode cX7_add 24 = .ok (.getfield 18, 3) := by decide +kernel
theorem dX7_add_27 : decode cX7_add 27 = .ok (.iload_n 2, 1) := by decide +kernel
theorem dX7_add_28 : decode cX7_add 28 = .ok (.iastore, 1) := by decide +kernel
theorem dX7_add_29 : decode cX7_add 29 = .ok (.aload_n 0, 1) := by decide +kernel
theorem dX7_add_30 : decode cX7_add 30 = .ok (.dup, 1) := by decide +kernel
theorem dX7_add_31 : decode cX7_add 31 = .ok (.getfield 18, 3) := by decide +kernel
theorem dX7_add_34 : decode cX7_add 34 = .ok (.iconst 1, 1) := by decide +kernel
theorem dX7_add_35 : decode cX7_add 35 = .ok (.iadd, 1) := by decide +kernel
theorem dX7_add_36 : decode cX7_add 36 = .ok (.putfield 18, 3) := by decide +kernel
theorem dX7_add_39 : decode cX7_add 39 = .ok (.return_, 1) := by decide +kernel
theorem dX7_codeOf_0 : decode cX7_codeOf 0 = .ok (.iload_n 0, 1) := by decide +kernel
theorem dX7_codeOf_1 : decode cX7_codeOf 1 = .ok (.tableswitch 103 100 117 #[95, 87, 100, 97, 103, 103, 103, 103, 89, 91, 103, 103, 103, 103, 103, 103, 103, 93], 87) := by decide +kernel
theorem dX7_codeOf_88 : decode cX7_codeOf 88 = .ok (.iconst 1, 1) := by decide +kernel
theorem dX7_codeOf_89 : decode cX7_codeOf 89 = .ok (.ireturn, 1) := by decide +kernel
theorem dX7_codeOf_90 : decode cX7_codeOf 90 = .ok (.iconst 2, 1) := by decide +kernel
theorem dX7_codeOf_91 : decode cX7_codeOf 91 = .ok (.ireturn, 1) := by decide +kernel
theorem dX7_codeOf_92 : decode cX7_codeOf 92 = .ok (.iconst 3, 1) := by decide +kernel
theorem dX7_codeOf_93 : decode cX7_codeOf 93 = .ok (.ireturn, 1) := by decide +kernel
theorem dX7_codeOf_94 : decode cX7_codeOf 94 = .ok (.iconst 4, 1) := by decide +kernel
theorem dX7_codeOf_95 : decode cX7_codeOf 95 = .ok (.ireturn, 1) := by decide +kernel
theorem dX7_codeOf_96 : decode cX7_codeOf 96 = .ok (.iconst 5, 1) := by decide +kernel
theorem dX7_codeOf_97 : decode cX7_codeOf 97 = .ok (.ireturn, 1) := by decide +kernel
theorem dX7_codeOf_98 : decode cX7_codeOf 98 = .ok (.bipush 6, 2) := by decide +kernel
theorem dX7_codeOf_100 : decode cX7_codeOf 100 = .ok (.ireturn, 1) := by decide +kernel
theorem dX7_codeOf_101 : decode cX7_codeOf 101 = .ok (.bipush 7, 2) := by decide +kernel
theorem dX7_codeOf_103 : decode cX7_codeOf 103 = .ok (.ireturn, 1) := by decide +kernel
theorem dX7_codeOf_104 : decode cX7_codeOf 104 = .ok (.iconst (-1), 1) := by decide +kernel
theorem dX7_codeOf_105 : decode cX7_codeOf 105 = .ok (.ireturn, 1) := by decide +kernel
theorem dX7_speaksAt_0 : decode cX7_speaksAt 0 = .ok (.aload_n 0, 1) := by decide +kernel
theorem dX7_speaksAt_1 : decode cX7_speaksAt 1 = .ok (.getfield 9, 3) := by decide +kernel
theorem dX7_speaksAt_4 : decode cX7_speaksAt 4 = .ok (.iload_n 1, 1) := by decide +kernel
theorem dX7_speaksAt_5 : decode cX7_speaksAt 5 = .ok (.iaload, 1) := by decide +kernel
theorem dX7_speaksAt_6 : decode cX7_speaksAt 6 = .ok (.iconst 4, 1) := by decide +kernel
theorem dX7_speaksAt_7 : decode cX7_speaksAt 7 = .ok (.if_icmp .gt 7, 3) := by decide +kernel
theorem dX7_speaksAt_10 : decode cX7_speaksAt 10 = .ok (.iconst 1, 1) := by decide +kernel
theorem dX7_speaksAt_11 : decode cX7_speaksAt 11 = .ok (.goto 4, 3) := by decide +kernel
theorem dX7_speaksAt_14 : decode cX7_speaksAt 14 = .ok (.iconst 0, 1) := by decide +kernel
theorem dX7_speaksAt_15 : decode cX7_speaksAt 15 = .ok (.ireturn, 1) := by decide +kernel
theorem dX7_speakingBits_0 : decode cX7_speakingBits 0 = .ok (.iconst 0, 1) := by decide +kernel
theorem dX7_speakingBits_1 : decode cX7_speakingBits 1 = .ok (.istore_n 1, 1) := by decide +kernel
theorem dX7_speakingBits_2 : decode cX7_speakingBits 2 = .ok (.iconst 0, 1) := by decide +kernel
theorem dX7_speakingBits_3 : decode cX7_speakingBits 3 = .ok (.istore_n 2, 1) := by decide +kernel
theorem dX7_speakingBits_4 : decode cX7_speakingBits 4 = .ok (.iload_n 2, 1) := by decide +kernel
theorem dX7_speakingBits_5 : decode cX7_speakingBits 5 = .ok (.aload_n 0, 1) := by decide +kernel
theorem dX7_speakingBits_6 : decode cX7_speakingBits 6 = .ok (.getfield 18, 3) := by decide +kernel
theorem dX7_speakingBits_9 : decode cX7_speakingBits 9 = .ok (.if_icmp .ge 23, 3) := by decide +kernel
theorem dX7_speakingBits_12 : decode cX7_speakingBits 12 = .ok (.aload_n 0, 1) := by decide +kernel
theorem dX7_speakingBits_13 : decode cX7_speakingBits 13 = .ok (.iload_n 2, 1) := by decide +kernel
theorem dX7_speakingBits_14 : decode cX7_speakingBits 14 = .ok (.invokevirtual 43, 3) := by decide +kernel
theorem dX7_speakingBits_17 : decode cX7_speakingBits 17 = .ok (.ifCond .eq 9, 3) := by decide +kernel
theorem dX7_speakingBits_20 : decode cX7_speakingBits 20 = .ok (.iload_n 1, 1) := by decide +kernel
theorem dX7_speakingBits_21 : decode cX7_speakingBits 21 = .ok (.iconst 1, 1) := by decide +kernel
theorem dX7_speakingBits_22 : decode cX7_speakingBits 22 = .ok (.iload_n 2, 1) := by decide +kernel
theorem dX7_speakingBits_23 : decode cX7_speakingBits 23 = .ok (.ishl, 1) := by decide +kernel
theorem dX7_speakingBits_24 : decode cX7_speakingBits 24 = .ok (.ior, 1) := by decide +kernel
theorem dX7_speakingBits_25 : decode cX7_speakingBits 25 = .ok (.istore_n 1, 1) := by decide +kernel
theorem dX7_speakingBits_26 : decode cX7_speakingBits 26 = .ok (.iinc 2 1, 3) := by decide +kernel
theorem dX7_speakingBits_29 : decode cX7_speakingBits 29 = .ok (.goto (-25), 3) := by decide +kernel
theorem dX7_speakingBits_32 : decode cX7_speakingBits 32 = .ok (.iload_n 1, 1) := by decide +kernel
theorem dX7_speakingBits_33 : decode cX7_speakingBits 33 = .ok (.ireturn, 1) := by decide +kernel
theorem dX7_firstSpeaking_0 : decode cX7_firstSpeaking 0 = .ok (.iconst 0, 1) := by decide +kernel
theorem dX7_firstSpeaking_1 : decode cX7_firstSpeaking 1 = .ok (.istore_n 1, 1) := by decide +kernel
theorem dX7_firstSpeaking_2 : decode cX7_firstSpeaking 2 = .ok (.iload_n 1, 1) := by decide +kernel
theorem dX7_firstSpeaking_3 : decode cX7_firstSpeaking 3 = .ok (.aload_n 0, 1) := by decide +kernel
theorem dX7_firstSpeaking_4 : decode cX7_firstSpeaking 4 = .ok (.getfield 18, 3) := by decide +kernel
theorem dX7_firstSpeaking_7 : decode cX7_firstSpeaking 7 = .ok (.if_icmp .ge 19, 3) := by decide +kernel
theorem dX7_firstSpeaking_10 : decode cX7_firstSpeaking 10 = .ok (.aload_n 0, 1) := by decide +kernel
theorem dX7_firstSpeaking_11 : decode cX7_firstSpeaking 11 = .ok (.iload_n 1, 1) := by decide +kernel
theorem dX7_firstSpeaking_12 : decode cX7_firstSpeaking 12 = .ok (.invokevirtual 43, 3) := by decide +kernel
theorem dX7_firstSpeaking_15 : decode cX7_firstSpeaking 15 = .ok (.ifCond .eq 5, 3) := by decide +kernel
theorem dX7_firstSpeaking_18 : decode cX7_firstSpeaking 18 = .ok (.iload_n 1, 1) := by decide +kernel
theorem dX7_firstSpeaking_19 : decode cX7_firstSpeaking 19 = .ok (.ireturn, 1) := by decide +kernel
theorem dX7_firstSpeaking_20 : decode cX7_firstSpeaking 20 = .ok (.iinc 1 1, 3) := by decide +kernel
theorem dX7_firstSpeaking_23 : decode cX7_firstSpeaking 23 = .ok (.goto (-21), 3) := by decide +kernel
theorem dX7_firstSpeaking_26 : decode cX7_firstSpeaking 26 = .ok (.iconst (-1), 1) := by decide +kernel
theorem dX7_firstSpeaking_27 : decode cX7_firstSpeaking 27 = .ok (.ireturn, 1) := by decide +kernel
theorem dX7_hasUnion_0 : decode cX7_hasUnion 0 = .ok (.iconst 0, 1) := by decide +kernel
theorem dX7_hasUnion_1 : decode cX7_hasUnion 1 = .ok (.istore_n 1, 1) := by decide +kernel
theorem dX7_hasUnion_2 : decode cX7_hasUnion 2 = .ok (.iload_n 1, 1) := by decide +kernel
theorem dX7_hasUnion_3 : decode cX7_hasUnion 3 = .ok (.aload_n 0, 1) := by decide +kernel
theorem dX7_hasUnion_4 : decode cX7_hasUnion 4 = .ok (.getfield 18, 3) := by decide +kernel
theorem dX7_hasUnion_7 : decode cX7_hasUnion 7 = .ok (.if_icmp .ge 21, 3) := by decide +kernel
theorem dX7_hasUnion_10 : decode cX7_hasUnion 10 = .ok (.aload_n 0, 1) := by decide +kernel
theorem dX7_hasUnion_11 : decode cX7_hasUnion 11 = .ok (.getfield 9, 3) := by decide +kernel
theorem dX7_hasUnion_14 : decode cX7_hasUnion 14 = .ok (.iload_n 1, 1) := by decide +kernel
theorem dX7_hasUnion_15 : decode cX7_hasUnion 15 = .ok (.iaload, 1) := by decide +kernel
theorem dX7_hasUnion_16 : decode cX7_hasUnion 16 = .ok (.iconst 4, 1) := by decide +kernel
theorem dX7_hasUnion_17 : decode cX7_hasUnion 17 = .ok (.if_icmp .ne 5, 3) := by decide +kernel
theorem dX7_hasUnion_20 : decode cX7_hasUnion 20 = .ok (.iconst 1, 1) := by decide +kernel
theorem dX7_hasUnion_21 : decode cX7_hasUnion 21 = .ok (.ireturn, 1) := by decide +kernel
theorem dX7_hasUnion_22 : decode cX7_hasUnion 22 = .ok (.iinc 1 1, 3) := by decide +kernel
theorem dX7_hasUnion_25 : decode cX7_hasUnion 25 = .ok (.goto (-23), 3) := by decide +kernel
theorem dX7_hasUnion_28 : decode cX7_hasUnion 28 = .ok (.iconst 0, 1) := by decide +kernel
theorem dX7_hasUnion_29 : decode cX7_hasUnion 29 = .ok (.ireturn, 1) := by decide +kernel
theorem dX8_init_0 : decode cX8_init 0 = .ok (.aload_n 0, 1) := by decide +kernel
theorem dX8_init_1 : decode cX8_init 1 = .ok (.invokespecial 3, 3) := by decide +kernel
theorem dX8_init_4 : decode cX8_init 4 = .ok (.aload_n 0, 1) := by decide +kernel
theorem dX8_init_5 : decode cX8_init 5 = .ok (.bipush 10, 2) := by decide +kernel
theorem dX8_init_7 : decode cX8_init 7 = .ok (.newarray .int, 2) := by decide +kernel
theorem dX8_init_9 : decode cX8_init 9 = .ok (.putfield 9, 3) := by decide +kernel
theorem dX8_init_12 : decode cX8_init 12 = .ok (.aload_n 0, 1) := by decide +kernel
theorem dX8_init_13 : decode cX8_init 13 = .ok (.bipush 10, 2) := by decide +kernel
theorem dX8_init_15 : decode cX8_init 15 = .ok (.newarray .int, 2) := by decide +kernel
theorem dX8_init_17 : decode cX8_init 17 = .ok (.putfield 15, 3) := by decide +kernel
theorem dX8_init_20 : decode cX8_init 20 = .ok (.aload_n 0, 1) := by decide +kernel
theorem dX8_init_21 : decode cX8_init 21 = .ok (.iconst 0, 1) := by decide +kernel
theorem dX8_init_22 : decode cX8_init 22 = .ok (.putfield 18, 3) := by decide +kernel
theorem dX8_init_25 : decode cX8_init 25 = .ok (.aload_n 0, 1) := by decide +kernel
theorem dX8_init_26 : decode cX8_init 26 = .ok (.iconst (-1), 1) := by decide +kernel
theorem dX8_init_27 : decode cX8_init 27 = .ok (.putfield 22, 3) := by decide +kernel
theorem dX8_init_30 : decode cX8_init 30 = .ok (.return_, 1) := by decide +kernel
theorem dX8_parse_0 : decode cX8_parse 0 = .ok (.aload_n 0, 1) := by decide +kernel
theorem dX8_parse_1 : decode cX8_parse 1 = .ok (.aload_n 1, 1) := by decide +kernel
theorem dX8_parse_2 : decode cX8_parse 2 = .ok (.invokestatic 25, 3) := by decide +kernel
theorem dX8_parse_5 : decode cX8_parse 5 = .ok (.putfield 22, 3) := by decide +kernel
theorem dX8_parse_8 : decode cX8_parse 8 = .ok (.aload_n 0, 1) := by decide +kernel
theorem dX8_parse_9 : decode cX8_parse 9 = .ok (.aload_n 0, 1) := by decide +kernel
theorem dX8_parse_10 : decode cX8_parse 10 = .ok (.getfield 22, 3) := by decide +kernel
theorem dX8_parse_13 : decode cX8_parse 13 = .ok (.iconst (-1), 1) := by decide +kernel
theorem dX8_parse_14 : decode cX8_parse 14 = .ok (.if_icmp .ne 14, 3) := by decide +kernel
theorem dX8_parse_17 : decode cX8_parse 17 = .ok (.aload_n 1, 1) := by decide +kernel
theorem dX8_parse_18 : decode cX8_parse 18 = .ok (.getfield 29, 3) := by decide +kernel
theorem dX8_parse_21 : decode cX8_parse 21 = .ok (.iconst 1, 1) := by decide +kernel
theorem dX8_parse_22 : decode cX8_parse 22 = .ok (.iadd, 1) := by decide +kernel
theorem dX8_parse_23 : decode cX8_parse 23 = .ok (.iconst 3, 1) := by decide +kernel
theorem dX8_parse_24 : decode cX8_parse 24 = .ok (.idiv, 1) := by decide +kernel
theorem dX8_parse_25 : decode cX8_parse 25 = .ok (.goto 4, 3) := by decide +kernel
theorem dX8_parse_28 : decode cX8_parse 28 = .ok (.iconst 0, 1) := by decide +kernel
theorem dX8_parse_29 : decode cX8_parse 29 = .ok (.putfield 18, 3) := by decide +kernel
theorem dX8_parse_32 : decode cX8_parse 32 = .ok (.iconst 0, 1) := by decide +kernel
theorem dX8_parse_33 : decode cX8_parse 33 = .ok (.istore_n 2, 1) := by decide +kernel
theorem dX8_parse_34 : decode cX8_parse 34 = .ok (.iload_n 2, 1) := by decide +kernel
theorem dX8_parse_35 : decode cX8_parse 35 = .ok (.aload_n 0, 1) := by decide +kernel
theorem dX8_parse_36 : decode cX8_parse 36 = .ok (.getfield 18, 3) := by decide +kernel
theorem dX8_parse_39 : decode cX8_parse 39 = .ok (.if_icmp .ge 45, 3) := by decide +kernel
theorem dX8_parse_42 : decode cX8_parse 42 = .ok (.aload_n 0, 1) := by decide +kernel
theorem dX8_parse_43 : decode cX8_parse 43 = .ok (.getfield 9, 3) := by decide +kernel
theorem dX8_parse_46 : decode cX8_parse 46 = .ok (.iload_n 2, 1) := by decide +kernel
theorem dX8_parse_47 : decode cX8_parse 47 = .ok (.aload_n 1, 1) := by decide +kernel
theorem dX8_parse_48 : decode cX8_parse 48 = .ok (.getfield 32, 3) := by decide +kernel
theorem dX8_parse_51 : decode cX8_parse 51 = .ok (.iconst 3, 1) := by decide +kernel
theorem dX8_parse_52 : decode cX8_parse 52 = .ok (.iload_n 2, 1) := by decide +kernel
theorem dX8_parse_53 : decode cX8_parse 53 = .ok (.imul, 1) := by decide +kernel
theorem dX8_parse_54 : decode cX8_parse 54 = .ok (.iaload, 1) := by decide +kernel
theorem dX8_parse_55 : decode cX8_parse 55 = .ok (.invokestatic 35, 3) := by decide +kernel
theorem dX8_parse_58 : decode cX8_parse 58 = .ok (.iastore, 1) := by decide +kernel
theorem dX8_parse_59 : decode cX8_parse 59 = .ok (.aload_n 0, 1) := by decide +kernel
theorem dX8_parse_60 : decode cX8_parse 60 = .ok (.getfield 15, 3) := by decide +kernel
theorem dX8_parse_63 : decode cX8_parse 63 = .ok (.iload_n 2, 1) := by decide +kernel
theorem dX8_parse_64 : decode cX8_parse 64 = .ok (.aload_n 1, 1) := by decide +kernel
theorem dX8_parse_65 : decode cX8_parse 65 = .ok (.getfield 32, 3) := by decide +kernel
theorem dX8_parse_68 : decode cX8_parse 68 = .ok (.iconst 3, 1) := by decide +kernel
theorem dX8_parse_69 : decode cX8_parse 69 = .ok (.iload_n 2, 1) := by decide +kernel
theorem dX8_parse_70 : decode cX8_parse 70 = .ok (.imul, 1) := by decide +kernel
theorem dX8_parse_71 : decode cX8_parse 71 = .ok (.iconst 1, 1) := by decide +kernel
theorem dX8_parse_72 : decode cX8_parse 72 = .ok (.iadd, 1) := by decide +kernel
theorem dX8_parse_73 : decode cX8_parse 73 = .ok (.iaload, 1) := by decide +kernel
theorem dX8_parse_74 : decode cX8_parse 74 = .ok (.invokestatic 35, 3) := by decide +kernel
theorem dX8_parse_77 : decode cX8_parse 77 = .ok (.iastore, 1) := by decide +kernel
theorem dX8_parse_78 : decode cX8_parse 78 = .ok (.iinc 2 1, 3) := by decide +kernel
theorem dX8_parse_81 : decode cX8_parse 81 = .ok (.goto (-47), 3) := by decide +kernel
theorem dX8_parse_84 : decode cX8_parse 84 = .ok (.return_, 1) := by decide +kernel
theorem dX8_firstWrong_0 : decode cX8_firstWrong 0 = .ok (.iconst 0, 1) := by decide +kernel
theorem dX8_firstWrong_1 : decode cX8_firstWrong 1 = .ok (.istore_n 1, 1) := by decide +kernel
theorem dX8_firstWrong_2 : decode cX8_firstWrong 2 = .ok (.iload_n 1, 1) := by decide +kernel
theorem dX8_firstWrong_3 : decode cX8_firstWrong 3 = .ok (.aload_n 0, 1) := by decide +kernel
theorem dX8_firstWrong_4 : decode cX8_firstWrong 4 = .ok (.getfield 29, 3) := by decide +kernel
theorem dX8_firstWrong_7 : decode cX8_firstWrong 7 = .ok (.if_icmp .ge 70, 3) := by decide +kernel
theorem dX8_firstWrong_10 : decode cX8_firstWrong 10 = .ok (.aload_n 0, 1) := by decide +kernel
theorem dX8_firstWrong_11 : decode cX8_firstWrong 11 = .ok (.getfield 32, 3) := by decide +kernel
theorem dX8_firstWrong_14 : decode cX8_firstWrong 14 = .ok (.iload_n 1, 1) := by decide +kernel
theorem dX8_firstWrong_15 : decode cX8_firstWrong 15 = .ok (.iaload, 1) := by decide +kernel
theorem dX8_firstWrong_16 : decode cX8_firstWrong 16 = .ok (.istore_n 2, 1) := by decide +kernel
theorem dX8_firstWrong_17 : decode cX8_firstWrong 17 = .ok (.iload_n 1, 1) := by decide +kernel
theorem dX8_firstWrong_18 : decode cX8_firstWrong 18 = .ok (.iconst 3, 1) := by decide +kernel
theorem dX8_firstWrong_19 : decode cX8_firstWrong 19 = .ok (.irem, 1) := by decide +kernel
theorem dX8_firstWrong_20 : decode cX8_firstWrong 20 = .ok (.iconst 2, 1) := by decide +kernel
theorem dX8_firstWrong_21 : decode cX8_firstWrong 21 = .ok (.if_icmp .ne 17, 3) := by decide +kernel
theorem dX8_firstWrong_24 : decode cX8_firstWrong 24 = .ok (.iload_n 2, 1) := by decide +kernel
theorem dX8_firstWrong_25 : decode cX8_firstWrong 25 = .ok (.bipush 59, 2) := by decide +kernel
theorem dX8_firstWrong_27 : decode cX8_firstWrong 27 = .ok (.if_icmp .ne 7, 3) := by decide +kernel
theorem dX8_firstWrong_30 : decode cX8_firstWrong 30 = .ok (.iconst 1, 1) := by decide +kernel
theorem dX8_firstWrong_31 : decode cX8_firstWrong 31 = .ok (.goto 25, 3) := by decide +kernel
theorem dX8_firstWrong_34 : decode cX8_firstWrong 34 = .ok (.iconst 0, 1) := by decide +kernel
theorem dX8_firstWrong_35 : decode cX8_firstWrong 35 = .ok (.goto 21, 3) := by decide +kernel
theorem dX8_firstWrong_38 : decode cX8_firstWrong 38 = .ok (.iload_n 2, 1) := by decide +kernel
theorem dX8_firstWrong_39 : decode cX8_firstWrong 39 = .ok (.invokestatic 39, 3) := by decide +kernel
theorem dX8_firstWrong_42 : decode cX8_firstWrong 42 = .ok (.ifCond .ne 9, 3) := by decide +kernel
theorem dX8_firstWrong_45 : decode cX8_firstWrong 45 = .ok (.iload_n 2, 1) := by decide +kernel
theorem dX8_firstWrong_46 : decode cX8_firstWrong 46 = .ok (.bipush 45, 2) := by decide +kernel
theorem dX8_firstWrong_48 : decode cX8_firstWrong 48 = .ok (.if_icmp .ne 7, 3) := by decide +kernel
theorem dX8_firstWrong_51 : decode cX8_firstWrong 51 = .ok (.iconst 1, 1) := by decide +kernel
theorem dX8_firstWrong_52 : decode cX8_firstWrong 52 = .ok (.goto 4, 3) := by decide +kernel
theorem dX8_firstWrong_55 : decode cX8_firstWrong 55 = .ok (.iconst 0, 1) := by decide +kernel
theorem dX8_firstWrong_56 : decode cX8_firstWrong 56 = .ok (.istore_n 3, 1) := by decide +kernel
theorem dX8_firstWrong_57 : decode cX8_firstWrong 57 = .ok (.iload_n 3, 1) := by decide +kernel
theorem dX8_firstWrong_58 : decode cX8_firstWrong 58 = .ok (.ifCond .eq 11, 3) := by decide +kernel
theorem dX8_firstWrong_61 : decode cX8_firstWrong 61 = .ok (.iload_n 1, 1) := by decide +kernel
theorem dX8_firstWrong_62 : decode cX8_firstWrong 62 = .ok (.iconst 3, 1) := by decide +kernel
theorem dX8_firstWrong_63 : decode cX8_firstWrong 63 = .ok (.idiv, 1) := by decide +kernel
theorem dX8_firstWrong_64 : decode cX8_firstWrong 64 = .ok (.bipush 10, 2) := by decide +kernel
theorem dX8_firstWrong_66 : decode cX8_firstWrong 66 = .ok (.if_icmp .lt 5, 3) := by decide +kernel
theorem dX8_firstWrong_69 : decode cX8_firstWrong 69 = .ok (.iload_n 1, 1) := by decide +kernel
theorem dX8_firstWrong_70 : decode cX8_firstWrong 70 = .ok (.ireturn, 1) := by decide +kernel
theorem dX8_firstWrong_71 : decode cX8_firstWrong 71 = .ok (.iinc 1 1, 3) := by decide +kernel
theorem dX8_firstWrong_74 : decode cX8_firstWrong 74 = .ok (.goto (-72), 3) := by decide +kernel
theorem dX8_firstWrong_77 : decode cX8_firstWrong 77 = .ok (.aload_n 0, 1) := by decide +kernel
theorem dX8_firstWrong_78 : decode cX8_firstWrong 78 = .ok (.getfield 29, 3) := by decide +kernel
theorem dX8_firstWrong_81 : decode cX8_firstWrong 81 = .ok (.ifCond .eq 13, 3) := by decide +kernel
theorem dX8_firstWrong_84 : decode cX8_firstWrong 84 = .ok (.aload_n 0, 1) := by decide +kernel
theorem dX8_firstWrong_85 : decode cX8_firstWrong 85 = .ok (.getfield 29, 3) := by decide +kernel
theorem dX8_firstWrong_88 : decode cX8_firstWrong 88 = .ok (.iconst 3, 1) := by decide +kernel
theorem dX8_firstWrong_89 : decode cX8_firstWrong 89 = .ok (.irem, 1) := by decide +kernel
theorem dX8_firstWrong_90 : decode cX8_firstWrong 90 = .ok (.iconst 2, 1) := by decide +kernel
theorem dX8_firstWrong_91 : decode cX8_firstWrong 91 = .ok (.if_icmp .ne 7, 3) := by decide +kernel
theorem dX8_firstWrong_94 : decode cX8_firstWrong 94 = .ok (.iconst (-1), 1) := by decide +kernel
theorem dX8_firstWrong_95 : decode cX8_firstWrong 95 = .ok (.goto 7, 3) := by decide +kernel
theorem dX8_firstWrong_98 : decode cX8_firstWrong 98 = .ok (.aload_n 0, 1) := by decide +kernel
theorem dX8_firstWrong_99 : decode cX8_firstWrong 99 = .ok (.getfield 29, 3) := by decide +kernel
theorem dX8_firstWrong_102 : decode cX8_firstWrong 102 = .ok (.ireturn, 1) := by decide +kernel
theorem dX8_valueOf_0 : decode cX8_valueOf 0 = .ok (.iload_n 0, 1) := by decide +kernel
theorem dX8_valueOf_1 : decode cX8_valueOf 1 = .ok (.bipush 45, 2) := by decide +kernel
theorem dX8_valueOf_3 : decode cX8_valueOf 3 = .ok (.if_icmp .ne 7, 3) := by decide +kernel
theorem dX8_valueOf_6 : decode cX8_valueOf 6 = .ok (.iconst (-1), 1) := by decide +kernel
theorem dX8_valueOf_7 : decode cX8_valueOf 7 = .ok (.goto 7, 3) := by decide +kernel
theorem dX8_valueOf_10 : decode cX8_valueOf 10 = .ok (.iload_n 0, 1) := by decide +kernel
theorem dX8_valueOf_11 : decode cX8_valueOf 11 = .ok (.bipush 48, 2) := by decide +kernel
theorem dX8_valueOf_13 : decode cX8_valueOf 13 = .ok (.isub, 1) := by decide +kernel
theorem dX8_valueOf_14 : decode cX8_valueOf 14 = .ok (.ireturn, 1) := by decide +kernel
theorem dX9_init_0 : decode cX9_init 0 = .ok (.aload_n 0, 1) := by decide +kernel
theorem dX9_init_1 : decode cX9_init 1 = .ok (.invokespecial 3, 3) := by decide +kernel
theorem dX9_init_4 : decode cX9_init 4 = .ok (.return_, 1) := by decide +kernel
theorem dX9_clear_0 : decode cX9_clear 0 = .ok (.aload_n 0, 1) := by decide +kernel
theorem dX9_clear_1 : decode cX9_clear 1 = .ok (.iconst 0, 1) := by decide +kernel
theorem dX9_clear_2 : decode cX9_clear 2 = .ok (.putfield 9, 3) := by decide +kernel
theorem dX9_clear_5 : decode cX9_clear 5 = .ok (.aload_n 0, 1) := by decide +kernel
theorem dX9_clear_6 : decode cX9_clear 6 = .ok (.iconst 0, 1) := by decide +kernel
theorem dX9_clear_7 : decode cX9_clear 7 = .ok (.putfield 15, 3) := by decide +kernel
theorem dX9_clear_10 : decode cX9_clear 10 = .ok (.aload_n 0, 1) := by decide +kernel
theorem dX9_clear_11 : decode cX9_clear 11 = .ok (.iconst 0, 1) := by decide +kernel
theorem dX9_clear_12 : decode cX9_clear 12 = .ok (.putfield 18, 3) := by decide +kernel
theorem dX9_clear_15 : decode cX9_clear 15 = .ok (.aload_n 0, 1) := by decide +kernel
theorem dX9_clear_16 : decode cX9_clear 16 = .ok (.iconst (-1), 1) := by decide +kernel
theorem dX9_clear_17 : decode cX9_clear 17 = .ok (.putfield 21, 3) := by decide +kernel
theorem dX9_clear_20 : decode cX9_clear 20 = .ok (.aload_n 0, 1) := by decide +kernel
theorem dX9_clear_21 : decode cX9_clear 21 = .ok (.iconst (-1), 1) := by decide +kernel
theorem dX9_clear_22 : decode cX9_clear 22 = .ok (.putfield 24, 3) := by decide +kernel
theorem dX9_clear_25 : decode cX9_clear 25 = .ok (.aload_n 0, 1) := by decide +kernel
theorem dX9_clear_26 : decode cX9_clear 26 = .ok (.iconst 0, 1) := by decide +kernel
theorem dX9_clear_27 : decode cX9_clear 27 = .ok (.putfield 27, 3) := by decide +kernel
theorem dX9_clear_30 : decode cX9_clear 30 = .ok (.return_, 1) := by decide +kernel
theorem dX9_take_0 : decode cX9_take 0 = .ok (.aload_n 0, 1) := by decide +kernel
theorem dX9_take_1 : decode cX9_take 1 = .ok (.dup, 1) := by decide +kernel
theorem dX9_take_2 : decode cX9_take 2 = .ok (.getfield 9, 3) := by decide +kernel
theorem dX9_take_5 : decode cX9_take 5 = .ok (.iconst 1, 1) := by decide +kernel
theorem dX9_take_6 : decode cX9_take 6 = .ok (.iadd, 1) := by decide +kernel
theorem dX9_take_7 : decode cX9_take 7 = .ok (.putfield 9, 3) := by decide +kernel
theorem dX9_take_10 : decode cX9_take 10 = .ok (.iload_n 1, 1) := by decide +kernel
theorem dX9_take_11 : decode cX9_take 11 = .ok (.iconst (-1), 1) := by decide +kernel
theorem dX9_take_12 : decode cX9_take 12 = .ok (.if_icmp .ne 4, 3) := by decide +kernel
theorem dX9_take_15 : decode cX9_take 15 = .ok (.return_, 1) := by decide +kernel
theorem dX9_take_16 : decode cX9_take 16 = .ok (.aload_n 0, 1) := by decide +kernel
theorem dX9_take_17 : decode cX9_take 17 = .ok (.dup, 1) := by decide +kernel
theorem dX9_take_18 : decode cX9_take 18 = .ok (.getfield 15, 3) := by decide +kernel
theorem dX9_take_21 : decode cX9_take 21 = .ok (.iconst 1, 1) := by decide +kernel
theorem dX9_take_22 : decode cX9_take 22 = .ok (.iadd, 1) := by decide +kernel
theorem dX9_take_23 : decode cX9_take 23 = .ok (.putfield 15, 3) := by decide +kernel
theorem dX9_take_26 : decode cX9_take 26 = .ok (.aload_n 0, 1) := by decide +kernel
theorem dX9_take_27 : decode cX9_take 27 = .ok (.dup, 1) := by decide +kernel
theorem dX9_take_28 : decode cX9_take 28 = .ok (.getfield 18, 3) := by decide +kernel
theorem dX9_take_31 : decode cX9_take 31 = .ok (.iload_n 1, 1) := by decide +kernel
theorem dX9_take_32 : decode cX9_take 32 = .ok (.iadd, 1) := by decide +kernel
theorem dX9_take_33 : decode cX9_take 33 = .ok (.putfield 18, 3) := by decide +kernel
theorem dX9_take_36 : decode cX9_take 36 = .ok (.aload_n 0, 1) := by decide +kernel
theorem dX9_take_37 : decode cX9_take 37 = .ok (.aload_n 0, 1) := by decide +kernel
theorem dX9_take_38 : decode cX9_take 38 = .ok (.getfield 21, 3) := by decide +kernel
theorem dX9_take_41 : decode cX9_take 41 = .ok (.iconst (-1), 1) := by decide +kernel
theorem dX9_take_42 : decode cX9_take 42 = .ok (.if_icmp .eq 11, 3) := by decide +kernel
theorem dX9_take_45 : decode cX9_take 45 = .ok (.iload_n 1, 1) := by decide +kernel
theorem dX9_take_46 : decode cX9_take 46 = .ok (.aload_n 0, 1) := by decide +kernel
theorem dX9_take_47 : decode cX9_take 47 = .ok (.getfield 21, 3) := by decide +kernel
theorem dX9_take_50 : decode cX9_take 50 = .ok (.if_icmp .ge 7, 3) := by decide +kernel
theorem dX9_take_53 : decode cX9_take 53 = .ok (.iload_n 1, 1) := by decide +kernel
theorem dX9_take_54 : decode cX9_take 54 = .ok (.goto 7, 3) := by decide +kernel
theorem dX9_take_57 : decode cX9_take 57 = .ok (.aload_n 0, 1) := by decide +kernel
theorem dX9_take_58 : decode cX9_take 58 = .ok (.getfield 21, 3) := by decide +kernel
theorem dX9_take_61 : decode cX9_take 61 = .ok (.putfield 21, 3) := by decide +kernel
theorem dX9_take_64 : decode cX9_take 64 = .ok (.aload_n 0, 1) := by decide +kernel
theorem dX9_take_65 : decode cX9_take 65 = .ok (.iload_n 1, 1) := by decide +kernel
theorem dX9_take_66 : decode cX9_take 66 = .ok (.aload_n 0, 1) := by decide +kernel
theorem dX9_take_67 : decode cX9_take 67 = .ok (.getfield 24, 3) := by decide +kernel
theorem dX9_take_70 : decode cX9_take 70 = .ok (.if_icmp .le 7, 3) := by decide +kernel
theorem dX9_take_73 : decode cX9_take 73 = .ok (.iload_n 1, 1) := by decide +kernel
theorem dX9_take_74 : decode cX9_take 74 = .ok (.goto 7, 3) := by decide +kernel
theorem dX9_take_77 : decode cX9_take 77 = .ok (.aload_n 0, 1) := by decide +kernel
theorem dX9_take_78 : decode cX9_take 78 = .ok (.getfield 24, 3) := by decide +kernel
theorem dX9_take_81 : decode cX9_take 81 = .ok (.putfield 24, 3) := by decide +kernel
theorem dX9_take_84 : decode cX9_take 84 = .ok (.aload_n 0, 1) := by decide +kernel
theorem dX9_take_85 : decode cX9_take 85 = .ok (.aload_n 0, 1) := by decide +kernel
theorem dX9_take_86 : decode cX9_take 86 = .ok (.getfield 27, 3) := by decide +kernel
theorem dX9_take_89 : decode cX9_take 89 = .ok (.ifCond .ne 8, 3) := by decide +kernel
theorem dX9_take_92 : decode cX9_take 92 = .ok (.iload_n 1, 1) := by decide +kernel
theorem dX9_take_93 : decode cX9_take 93 = .ok (.iload_n 2, 1) := by decide +kernel
theorem dX9_take_94 : decode cX9_take 94 = .ok (.if_icmp .ne 7, 3) := by decide +kernel
theorem dX9_take_97 : decode cX9_take 97 = .ok (.iconst 1, 1) := by decide +kernel
theorem dX9_take_98 : decode cX9_take 98 = .ok (.goto 4, 3) := by decide +kernel
theorem dX9_take_101 : decode cX9_take 101 = .ok (.iconst 0, 1) := by decide +kernel
theorem dX9_take_102 : decode cX9_take 102 = .ok (.putfield 27, 3) := by decide +kernel
theorem dX9_take_105 : decode cX9_take 105 = .ok (.return_, 1) := by decide +kernel
theorem dX9_isError_0 : decode cX9_isError 0 = .ok (.iload_n 1, 1) := by decide +kernel
theorem dX9_isError_1 : decode cX9_isError 1 = .ok (.iconst 5, 1) := by decide +kernel
theorem dX9_isError_2 : decode cX9_isError 2 = .ok (.if_icmp .ne 15, 3) := by decide +kernel
theorem dX9_isError_5 : decode cX9_isError 5 = .ok (.aload_n 0, 1) := by decide +kernel
theorem dX9_isError_6 : decode cX9_isError 6 = .ok (.getfield 9, 3) := by decide +kernel
theorem dX9_isError_9 : decode cX9_isError 9 = .ok (.iconst 1, 1) := by decide +kernel
theorem dX9_isError_10 : decode cX9_isError 10 = .ok (.if_icmp .le 7, 3) := by decide +kernel
theorem dX9_isError_13 : decode cX9_isError 13 = .ok (.iconst 1, 1) := by decide +kernel
theorem dX9_isError_14 : decode cX9_isError 14 = .ok (.goto 4, 3) := by decide +kernel
theorem dX9_isError_17 : decode cX9_isError 17 = .ok (.iconst 0, 1) := by decide +kernel
theorem dX9_isError_18 : decode cX9_isError 18 = .ok (.ireturn, 1) := by decide +kernel
theorem dX9_mean_0 : decode cX9_mean 0 = .ok (.aload_n 0, 1) := by decide +kernel
theorem dX9_mean_1 : decode cX9_mean 1 = .ok (.getfield 15, 3) := by decide +kernel
theorem dX9_mean_4 : decode cX9_mean 4 = .ok (.ifCond .le 17, 3) := by decide +kernel
theorem dX9_mean_7 : decode cX9_mean 7 = .ok (.aload_n 0, 1) := by decide +kernel
theorem dX9_mean_8 : decode cX9_mean 8 = .ok (.getfield 18, 3) := by decide +kernel
theorem dX9_mean_11 : decode cX9_mean 11 = .ok (.i2f, 1) := by decide +kernel
theorem dX9_mean_12 : decode cX9_mean 12 = .ok (.aload_n 0, 1) := by decide +kernel
theorem dX9_mean_13 : decode cX9_mean 13 = .ok (.getfield 15, 3) := by decide +kernel
theorem dX9_mean_16 : decode cX9_mean 16 = .ok (.i2f, 1) := by decide +kernel
theorem dX9_mean_17 : decode cX9_mean 17 = .ok (.fdiv, 1) := by decide +kernel
theorem dX9_mean_18 : decode cX9_mean 18 = .ok (.goto 4, 3) := by decide +kernel
theorem dX9_mean_21 : decode cX9_mean 21 = .ok (.fconst 0, 1) := by decide +kernel
theorem dX9_mean_22 : decode cX9_mean 22 = .ok (.freturn, 1) := by decide +kernel
theorem dX9_outcome_0 : decode cX9_outcome 0 = .ok (.iload_n 1, 1) := by decide +kernel
theorem dX9_outcome_1 : decode cX9_outcome 1 = .ok (.tableswitch 132 0 7 #[47, 52, 68, 73, 78, 97, 113, 126], 47) := by decide +kernel
theorem dX9_outcome_48 : decode cX9_outcome 48 = .ok (.aload_n 0, 1) := by decide +kernel
theorem dX9_outcome_49 : decode cX9_outcome 49 = .ok (.getfield 9, 3) := by decide +kernel
theorem dX9_outcome_52 : decode cX9_outcome 52 = .ok (.ireturn, 1) := by decide +kernel
theorem dX9_outcome_53 : decode cX9_outcome 53 = .ok (.aload_n 0, 1) := by decide +kernel
theorem dX9_outcome_54 : decode cX9_outcome 54 = .ok (.getfield 15, 3) := by decide +kernel
theorem dX9_outcome_57 : decode cX9_outcome 57 = .ok (.ifCond .le 10, 3) := by decide +kernel
theorem dX9_outcome_60 : decode cX9_outcome 60 = .ok (.aload_n 0, 1) := by decide +kernel
theorem dX9_outcome_61 : decode cX9_outcome 61 = .ok (.getfield 18, 3) := by decide +kernel
theorem dX9_outcome_64 : decode cX9_outcome 64 = .ok (.goto 4, 3) := by decide +kernel
theorem dX9_outcome_67 : decode cX9_outcome 67 = .ok (.iconst (-1), 1) := by decide +kernel
theorem dX9_outcome_68 : decode cX9_outcome 68 = .ok (.ireturn, 1) := by decide +kernel
theorem dX9_outcome_69 : decode cX9_outcome 69 = .ok (.aload_n 0, 1) := by decide +kernel
theorem dX9_outcome_70 : decode cX9_outcome 70 = .ok (.getfield 21, 3) := by decide +kernel
theorem dX9_outcome_73 : decode cX9_outcome 73 = .ok (.ireturn, 1) := by decide +kernel
theorem dX9_outcome_74 : decode cX9_outcome 74 = .ok (.aload_n 0, 1) := by decide +kernel
theorem dX9_outcome_75 : decode cX9_outcome 75 = .ok (.getfield 24, 3) := by decide +kernel
theorem dX9_outcome_78 : decode cX9_outcome 78 = .ok (.ireturn, 1) := by decide +kernel
theorem dX9_outcome_79 : decode cX9_outcome 79 = .ok (.aload_n 0, 1) := by decide +kernel
theorem dX9_outcome_80 : decode cX9_outcome 80 = .ok (.getfield 15, 3) := by decide +kernel
theorem dX9_outcome_83 : decode cX9_outcome 83 = .ok (.ifCond .le 13, 3) := by decide +kernel
theorem dX9_outcome_86 : decode cX9_outcome 86 = .ok (.aload_n 0, 1) := by decide +kernel
theorem dX9_outcome_87 : decode cX9_outcome 87 = .ok (.invokevirtual 31, 3) := by decide +kernel
theorem dX9_outcome_90 : decode cX9_outcome 90 = .ok (.invokestatic 35, 3) := by decide +kernel
theorem dX9_outcome_93 : decode cX9_outcome 93 = .ok (.goto 4, 3) := by decide +kernel
theorem dX9_outcome_96 : decode cX9_outcome 96 = .ok (.iconst (-1), 1) := by decide +kernel
theorem dX9_outcome_97 : decode cX9_outcome 97 = .ok (.ireturn, 1) := by decide +kernel
theorem dX9_outcome_98 : decode cX9_outcome 98 = .ok (.aload_n 0, 1) := by decide +kernel
theorem dX9_outcome_99 : decode cX9_outcome 99 = .ok (.getfield 15, 3) := by decide +kernel
theorem dX9_outcome_102 : decode cX9_outcome 102 = .ok (.ifCond .le 10, 3) := by decide +kernel
theorem dX9_outcome_105 : decode cX9_outcome 105 = .ok (.aload_n 0, 1) := by decide +kernel
theorem dX9_outcome_106 : decode cX9_outcome 106 = .ok (.getfield 18, 3) := by decide +kernel
theorem dX9_outcome_109 : decode cX9_outcome 109 = .ok (.goto 4, 3) := by decide +kernel
theorem dX9_outcome_112 : decode cX9_outcome 112 = .ok (.iconst (-1), 1) := by decide +kernel
theorem dX9_outcome_113 : decode cX9_outcome 113 = .ok (.ireturn, 1) := by decide +kernel
theorem dX9_outcome_114 : decode cX9_outcome 114 = .ok (.aload_n 0, 1) := by decide +kernel
theorem dX9_outcome_115 : decode cX9_outcome 115 = .ok (.getfield 9, 3) := by decide +kernel
theorem dX9_outcome_118 : decode cX9_outcome 118 = .ok (.ifCond .le 7, 3) := by decide +kernel
theorem dX9_outcome_121 : decode cX9_outcome 121 = .ok (.iconst 1, 1) := by decide +kernel
theorem dX9_outcome_122 : decode cX9_outcome 122 = .ok (.goto 4, 3) := by decide +kernel
theorem dX9_outcome_125 : decode cX9_outcome 125 = .ok (.iconst 0, 1) := by decide +kernel
theorem dX9_outcome_126 : decode cX9_outcome 126 = .ok (.ireturn, 1) := by decide +kernel
theorem dX9_outcome_127 : decode cX9_outcome 127 = .ok (.aload_n 0, 1) := by decide +kernel
theorem dX9_outcome_128 : decode cX9_outcome 128 = .ok (.iload_n 2, 1) := by decide +kernel
theorem dX9_outcome_129 : decode cX9_outcome 129 = .ok (.invokevirtual 39, 3) := by decide +kernel
theorem dX9_outcome_132 : decode cX9_outcome 132 = .ok (.ireturn, 1) := by decide +kernel
theorem dX9_outcome_133 : decode cX9_outcome 133 = .ok (.aload_n 0, 1) := by decide +kernel
theorem dX9_outcome_134 : decode cX9_outcome 134 = .ok (.iload_n 2, 1) := by decide +kernel
theorem dX9_outcome_135 : decode cX9_outcome 135 = .ok (.invokevirtual 39, 3) := by decide +kernel
theorem dX9_outcome_138 : decode cX9_outcome 138 = .ok (.iconst (-1), 1) := by decide +kernel
theorem dX9_outcome_139 : decode cX9_outcome 139 = .ok (.if_icmp .ne 7, 3) := by decide +kernel
theorem dX9_outcome_142 : decode cX9_outcome 142 = .ok (.iconst (-1), 1) := by decide +kernel
theorem dX9_outcome_143 : decode cX9_outcome 143 = .ok (.goto 10, 3) := by decide +kernel
theorem dX9_outcome_146 : decode cX9_outcome 146 = .ok (.iconst 1, 1) := by decide +kernel
theorem dX9_outcome_147 : decode cX9_outcome 147 = .ok (.aload_n 0, 1) := by decide +kernel
theorem dX9_outcome_148 : decode cX9_outcome 148 = .ok (.iload_n 2, 1) := by decide +kernel
theorem dX9_outcome_149 : decode cX9_outcome 149 = .ok (.invokevirtual 39, 3) := by decide +kernel
theorem dX9_outcome_152 : decode cX9_outcome 152 = .ok (.isub, 1) := by decide +kernel
theorem dX9_outcome_153 : decode cX9_outcome 153 = .ok (.ireturn, 1) := by decide +kernel
theorem dX9_isIn_0 : decode cX9_isIn 0 = .ok (.aload_n 0, 1) := by decide +kernel
theorem dX9_isIn_1 : decode cX9_isIn 1 = .ok (.getfield 27, 3) := by decide +kernel
theorem dX9_isIn_4 : decode cX9_isIn 4 = .ok (.ifCond .eq 5, 3) := by decide +kernel
theorem dX9_isIn_7 : decode cX9_isIn 7 = .ok (.iconst 1, 1) := by decide +kernel
theorem dX9_isIn_8 : decode cX9_isIn 8 = .ok (.ireturn, 1) := by decide +kernel
theorem dX9_isIn_9 : decode cX9_isIn 9 = .ok (.aload_n 0, 1) := by decide +kernel
theorem dX9_isIn_10 : decode cX9_isIn 10 = .ok (.getfield 9, 3) := by decide +kernel
theorem dX9_isIn_13 : decode cX9_isIn 13 = .ok (.ifCond .eq 19, 3) := by decide +kernel
theorem dX9_isIn_16 : decode cX9_isIn 16 = .ok (.iload_n 1, 1) := by decide +kernel
theorem dX9_isIn_17 : decode cX9_isIn 17 = .ok (.iconst (-1), 1) := by decide +kernel
theorem dX9_isIn_18 : decode cX9_isIn 18 = .ok (.if_icmp .eq 18, 3) := by decide +kernel
theorem dX9_isIn_21 : decode cX9_isIn 21 = .ok (.aload_n 0, 1) := by decide +kernel
theorem dX9_isIn_22 : decode cX9_isIn 22 = .ok (.getfield 15, 3) := by decide +kernel
theorem dX9_isIn_25 : decode cX9_isIn 25 = .ok (.aload_n 0, 1) := by decide +kernel
theorem dX9_isIn_26 : decode cX9_isIn 26 = .ok (.getfield 9, 3) := by decide +kernel
theorem dX9_isIn_29 : decode cX9_isIn 29 = .ok (.if_icmp .ne 7, 3) := by decide +kernel
theorem dX9_isIn_32 : decode cX9_isIn 32 = .ok (.iconst 0, 1) := by decide +kernel
theorem dX9_isIn_33 : decode cX9_isIn 33 = .ok (.goto 4, 3) := by decide +kernel
theorem dX9_isIn_36 : decode cX9_isIn 36 = .ok (.iconst (-1), 1) := by decide +kernel
theorem dX9_isIn_37 : decode cX9_isIn 37 = .ok (.ireturn, 1) := by decide +kernel
theorem dX10_init_0 : decode cX10_init 0 = .ok (.aload_n 0, 1) := by decide +kernel
theorem dX10_init_1 : decode cX10_init 1 = .ok (.invokespecial 1, 3) := by decide +kernel
theorem dX10_init_4 : decode cX10_init 4 = .ok (.aload_n 0, 1) := by decide +kernel
theorem dX10_init_5 : decode cX10_init 5 = .ok (.iconst 0, 1) := by decide +kernel
theorem dX10_init_6 : decode cX10_init 6 = .ok (.putfield 7, 3) := by decide +kernel
theorem dX10_init_9 : decode cX10_init 9 = .ok (.aload_n 0, 1) := by decide +kernel
theorem dX10_init_10 : decode cX10_init 10 = .ok (.iload_n 1, 1) := by decide +kernel
theorem dX10_init_11 : decode cX10_init 11 = .ok (.newarray .int, 2) := by decide +kernel
theorem dX10_init_13 : decode cX10_init 13 = .ok (.putfield 13, 3) := by decide +kernel
theorem dX10_init_16 : decode cX10_init 16 = .ok (.return_, 1) := by decide +kernel
theorem dX10_append_0 : decode cX10_append 0 = .ok (.aload_n 0, 1) := by decide +kernel
theorem dX10_append_1 : decode cX10_append 1 = .ok (.getfield 7, 3) := by decide +kernel
theorem dX10_append_4 : decode cX10_append 4 = .ok (.aload_n 0, 1) := by decide +kernel
theorem dX10_append_5 : decode cX10_append 5 = .ok (.getfield 13, 3) := by decide +kernel
theorem dX10_append_8 : decode cX10_append 8 = .ok (.arraylength, 1) := by decide +kernel
theorem dX10_append_9 : decode cX10_append 9 = .ok (.if_icmp .lt 5, 3) := by decide +kernel
theorem dX10_append_12 : decode cX10_append 12 = .ok (.iconst 0, 1) := by decide +kernel
theorem dX10_append_13 : decode cX10_append 13 = .ok (.ireturn, 1) := by decide +kernel
theorem dX10_append_14 : decode cX10_append 14 = .ok (.aload_n 0, 1) := by decide +kernel
theorem dX10_append_15 : decode cX10_append 15 = .ok (.getfield 13, 3) := by decide +kernel
theorem dX10_append_18 : decode cX10_append 18 = .ok (.aload_n 0, 1) := by decide +kernel
theorem dX10_append_19 : decode cX10_append 19 = .ok (.getfield 7, 3) := by decide +kernel
theorem dX10_append_22 : decode cX10_append 22 = .ok (.iload_n 1, 1) := by decide +kernel
theorem dX10_append_23 : decode cX10_append 23 = .ok (.iastore, 1) := by decide +kernel
theorem dX10_append_24 : decode cX10_append 24 = .ok (.aload_n 0, 1) := by decide +kernel
theorem dX10_append_25 : decode cX10_append 25 = .ok (.dup, 1) := by decide +kernel
theorem dX10_append_26 : decode cX10_append 26 = .ok (.getfield 7, 3) := by decide +kernel
theorem dX10_append_29 : decode cX10_append 29 = .ok (.iconst 1, 1) := by decide +kernel
theorem dX10_append_30 : decode cX10_append 30 = .ok (.iadd, 1) := by decide +kernel
theorem dX10_append_31 : decode cX10_append 31 = .ok (.putfield 7, 3) := by decide +kernel
theorem dX10_append_34 : decode cX10_append 34 = .ok (.iconst 1, 1) := by decide +kernel
theorem dX10_append_35 : decode cX10_append 35 = .ok (.ireturn, 1) := by decide +kernel
theorem dX10_appendFrom_0 : decode cX10_appendFrom 0 = .ok (.iconst 0, 1) := by decide +kernel
theorem dX10_appendFrom_1 : decode cX10_appendFrom 1 = .ok (.istore_n 2, 1) := by decide +kernel
theorem dX10_appendFrom_2 : decode cX10_appendFrom 2 = .ok (.iload_n 2, 1) := by decide +kernel
theorem dX10_appendFrom_3 : decode cX10_appendFrom 3 = .ok (.aload_n 1, 1) := by decide +kernel
theorem dX10_appendFrom_4 : decode cX10_appendFrom 4 = .ok (.getfield 17, 3) := by decide +kernel
theorem dX10_appendFrom_7 : decode cX10_appendFrom 7 = .ok (.if_icmp .ge 36, 3) := by decide +kernel
theorem dX10_appendFrom_10 : decode cX10_appendFrom 10 = .ok (.aload_n 1, 1) := by decide +kernel
theorem dX10_appendFrom_11 : decode cX10_appendFrom 11 = .ok (.getfield 20, 3) := by decide +kernel
theorem dX10_appendFrom_14 : decode cX10_appendFrom 14 = .ok (.iload_n 2, 1) := by decide +kernel
theorem dX10_appendFrom_15 : decode cX10_appendFrom 15 = .ok (.iaload, 1) := by decide +kernel
theorem dX10_appendFrom_16 : decode cX10_appendFrom 16 = .ok (.invokestatic 23, 3) := by decide +kernel
theorem dX10_appendFrom_19 : decode cX10_appendFrom 19 = .ok (.ifCond .eq 16, 3) := by decide +kernel
theorem dX10_appendFrom_22 : decode cX10_appendFrom 22 = .ok (.aload_n 0, 1) := by decide +kernel
theorem dX10_appendFrom_23 : decode cX10_appendFrom 23 = .ok (.aload_n 1, 1) := by decide +kernel
theorem dX10_appendFrom_24 : decode cX10_appendFrom 24 = .ok (.getfield 20, 3) := by decide +kernel
theorem dX10_appendFrom_27 : decode cX10_appendFrom 27 = .ok (.iload_n 2, 1) := by decide +kernel
theorem dX10_appendFrom_28 : decode cX10_appendFrom 28 = .ok (.iaload, 1) := by decide +kernel
theorem dX10_appendFrom_29 : decode cX10_appendFrom 29 = .ok (.invokevirtual 29, 3) := by decide +kernel
theorem dX10_appendFrom_32 : decode cX10_appendFrom 32 = .ok (.ifCond .ne 5, 3) := by decide +kernel
theorem dX10_appendFrom_35 : decode cX10_appendFrom 35 = .ok (.iload_n 2, 1) := by decide +kernel
theorem dX10_appendFrom_36 : decode cX10_appendFrom 36 = .ok (.ireturn, 1) := by decide +kernel
theorem dX10_appendFrom_37 : decode cX10_appendFrom 37 = .ok (.iinc 2 1, 3) := by decide +kernel
theorem dX10_appendFrom_40 : decode cX10_appendFrom 40 = .ok (.goto (-38), 3) := by decide +kernel
theorem dX10_appendFrom_43 : decode cX10_appendFrom 43 = .ok (.aload_n 1, 1) := by decide +kernel
theorem dX10_appendFrom_44 : decode cX10_appendFrom 44 = .ok (.getfield 17, 3) := by decide +kernel
theorem dX10_appendFrom_47 : decode cX10_appendFrom 47 = .ok (.ireturn, 1) := by decide +kernel
theorem dX11_init_0 : decode cX11_init 0 = .ok (.aload_n 0, 1) := by decide +kernel
theorem dX11_init_1 : decode cX11_init 1 = .ok (.invokespecial 3, 3) := by decide +kernel
theorem dX11_init_4 : decode cX11_init 4 = .ok (.aload_n 0, 1) := by decide +kernel
theorem dX11_init_5 : decode cX11_init 5 = .ok (.iconst 3, 1) := by decide +kernel
theorem dX11_init_6 : decode cX11_init 6 = .ok (.anewarray 9, 3) := by decide +kernel
theorem dX11_init_9 : decode cX11_init 9 = .ok (.putfield 11, 3) := by decide +kernel
theorem dX11_init_12 : decode cX11_init 12 = .ok (.aload_n 0, 1) := by decide +kernel
theorem dX11_init_13 : decode cX11_init 13 = .ok (.iconst 4, 1) := by decide +kernel
theorem dX11_init_14 : decode cX11_init 14 = .ok (.anewarray 15, 3) := by decide +kernel
theorem dX11_init_17 : decode cX11_init 17 = .ok (.putfield 17, 3) := by decide +kernel
theorem dX11_init_20 : decode cX11_init 20 = .ok (.aload_n 0, 1) := by decide +kernel
theorem dX11_init_21 : decode cX11_init 21 = .ok (.new 21, 3) := by decide +kernel
theorem dX11_init_24 : decode cX11_init 24 = .ok (.dup, 1) := by decide +kernel
theorem dX11_init_25 : decode cX11_init 25 = .ok (.invokespecial 23, 3) := by decide +kernel
theorem dX11_init_28 : decode cX11_init 28 = .ok (.putfield 24, 3) := by decide +kernel
theorem dX11_init_31 : decode cX11_init 31 = .ok (.aload_n 0, 1) := by decide +kernel
theorem dX11_init_32 : decode cX11_init 32 = .ok (.iconst 0, 1) := by decide +kernel
theorem dX11_init_33 : decode cX11_init 33 = .ok (.putfield 28, 3) := by decide +kernel
theorem dX11_init_36 : decode cX11_init 36 = .ok (.aload_n 0, 1) := by decide +kernel
theorem dX11_init_37 : decode cX11_init 37 = .ok (.iconst 0, 1) := by decide +kernel
theorem dX11_init_38 : decode cX11_init 38 = .ok (.putfield 32, 3) := by decide +kernel
theorem dX11_init_41 : decode cX11_init 41 = .ok (.aload_n 0, 1) := by decide +kernel
theorem dX11_init_42 : decode cX11_init 42 = .ok (.iconst 1, 1) := by decide +kernel
theorem dX11_init_43 : decode cX11_init 43 = .ok (.putfield 35, 3) := by decide +kernel
theorem dX11_init_46 : decode cX11_init 46 = .ok (.aload_n 0, 1) := by decide +kernel
theorem dX11_init_47 : decode cX11_init 47 = .ok (.getfield 11, 3) := by decide +kernel
theorem dX11_init_50 : decode cX11_init 50 = .ok (.iconst 0, 1) := by decide +kernel
theorem dX11_init_51 : decode cX11_init 51 = .ok (.new 9, 3) := by decide +kernel
theorem dX11_init_54 : decode cX11_init 54 = .ok (.dup, 1) := by decide +kernel
theorem dX11_init_55 : decode cX11_init 55 = .ok (.bipush 29, 2) := by decide +kernel
theorem dX11_init_57 : decode cX11_init 57 = .ok (.invokespecial 39, 3) := by decide +kernel
theorem dX11_init_60 : decode cX11_init 60 = .ok (.aastore, 1) := by decide +kernel
theorem dX11_init_61 : decode cX11_init 61 = .ok (.aload_n 0, 1) := by decide +kernel
theorem dX11_init_62 : decode cX11_init 62 = .ok (.getfield 11, 3) := by decide +kernel
theorem dX11_init_65 : decode cX11_init 65 = .ok (.iconst 1, 1) := by decide +kernel
theorem dX11_init_66 : decode cX11_init 66 = .ok (.new 9, 3) := by decide +kernel
theorem dX11_init_69 : decode cX11_init 69 = .ok (.dup, 1) := by decide +kernel
theorem dX11_init_70 : decode cX11_init 70 = .ok (.bipush 29, 2) := by decide +kernel
theorem dX11_init_72 : decode cX11_init 72 = .ok (.invokespecial 39, 3) := by decide +kernel
theorem dX11_init_75 : decode cX11_init 75 = .ok (.aastore, 1) := by decide +kernel
theorem dX11_init_76 : decode cX11_init 76 = .ok (.aload_n 0, 1) := by decide +kernel
theorem dX11_init_77 : decode cX11_init 77 = .ok (.getfield 11, 3) := by decide +kernel
theorem dX11_init_80 : decode cX11_init 80 = .ok (.iconst 2, 1) := by decide +kernel
theorem dX11_init_81 : decode cX11_init 81 = .ok (.new 9, 3) := by decide +kernel
theorem dX11_init_84 : decode cX11_init 84 = .ok (.dup, 1) := by decide +kernel
theorem dX11_init_85 : decode cX11_init 85 = .ok (.bipush 12, 2) := by decide +kernel
theorem dX11_init_87 : decode cX11_init 87 = .ok (.invokespecial 39, 3) := by decide +kernel
theorem dX11_init_90 : decode cX11_init 90 = .ok (.aastore, 1) := by decide +kernel
theorem dX11_init_91 : decode cX11_init 91 = .ok (.iconst 0, 1) := by decide +kernel
theorem dX11_init_92 : decode cX11_init 92 = .ok (.istore_n 1, 1) := by decide +kernel
theorem dX11_init_93 : decode cX11_init 93 = .ok (.iload_n 1, 1) := by decide +kernel
theorem dX11_init_94 : decode cX11_init 94 = .ok (.iconst 4, 1) := by decide +kernel
theorem dX11_init_95 : decode cX11_init 95 = .ok (.if_icmp .ge 22, 3) := by decide +kernel
theorem dX11_init_98 : decode cX11_init 98 = .ok (.aload_n 0, 1) := by decide +kernel
theorem dX11_init_99 : decode cX11_init 99 = .ok (.getfield 17, 3) := by decide +kernel
theorem dX11_init_102 : decode cX11_init 102 = .ok (.iload_n 1, 1) := by decide +kernel
theorem dX11_init_103 : decode cX11_init 103 = .ok (.new 15, 3) := by decide +kernel
theorem dX11_init_106 : decode cX11_init 106 = .ok (.dup, 1) := by decide +kernel
theorem dX11_init_107 : decode cX11_init 107 = .ok (.invokespecial 42, 3) := by decide +kernel
theorem dX11_init_110 : decode cX11_init 110 = .ok (.aastore, 1) := by decide +kernel
theorem dX11_init_111 : decode cX11_init 111 = .ok (.iinc 1 1, 3) := by decide +kernel
theorem dX11_init_114 : decode cX11_init 114 = .ok (.goto (-21), 3) := by decide +kernel
theorem dX11_init_117 : decode cX11_init 117 = .ok (.new 43, 3) := by decide +kernel
theorem dX11_init_120 : decode cX11_init 120 = .ok (.dup, 1) := by decide +kernel
theorem dX11_init_121 : decode cX11_init 121 = .ok (.invokespecial 45, 3) := by decide +kernel
theorem dX11_init_124 : decode cX11_init 124 = .ok (.astore_n 1, 1) := by decide +kernel
theorem dX11_init_125 : decode cX11_init 125 = .ok (.aload_n 0, 1) := by decide +kernel
theorem dX11_init_126 : decode cX11_init 126 = .ok (.new 46, 3) := by decide +kernel
theorem dX11_init_129 : decode cX11_init 129 = .ok (.dup, 1) := by decide +kernel
theorem dX11_init_130 : decode cX11_init 130 = .ok (.aload_n 1, 1) := by decide +kernel
theorem dX11_init_131 : decode cX11_init 131 = .ok (.invokespecial 48, 3) := by decide +kernel
theorem dX11_init_134 : decode cX11_init 134 = .ok (.putfield 51, 3) := by decide +kernel
theorem dX11_init_137 : decode cX11_init 137 = .ok (.aload_n 0, 1) := by decide +kernel
theorem dX11_init_138 : decode cX11_init 138 = .ok (.new 46, 3) := by decide +kernel
theorem dX11_init_141 : decode cX11_init 141 = .ok (.dup, 1) := by decide +kernel
theorem dX11_init_142 : decode cX11_init 142 = .ok (.aload_n 1, 1) := by decide +kernel
theorem dX11_init_143 : decode cX11_init 143 = .ok (.invokespecial 48, 3) := by decide +kernel
theorem dX11_init_146 : decode cX11_init 146 = .ok (.putfield 55, 3) := by decide +kernel
theorem dX11_init_149 : decode cX11_init 149 = .ok (.aload_n 0, 1) := by decide +kernel
theorem dX11_init_150 : decode cX11_init 150 = .ok (.new 46, 3) := by decide +kernel
theorem dX11_init_153 : decode cX11_init 153 = .ok (.dup, 1) := by decide +kernel
theorem dX11_init_154 : decode cX11_init 154 = .ok (.aload_n 1, 1) := by decide +kernel
theorem dX11_init_155 : decode cX11_init 155 = .ok (.invokespecial 48, 3) := by decide +kernel
theorem dX11_init_158 : decode cX11_init 158 = .ok (.putfield 58, 3) := by decide +kernel
theorem dX11_init_161 : decode cX11_init 161 = .ok (.return_, 1) := by decide +kernel
theorem dX11_type_0 : decode cX11_type 0 = .ok (.iload_n 1, 1) := by decide +kernel
theorem dX11_type_1 : decode cX11_type 1 = .ok (.iconst 3, 1) := by decide +kernel
theorem dX11_type_2 : decode cX11_type 2 = .ok (.invokestatic 61, 3) := by decide +kernel
theorem dX11_type_5 : decode cX11_type 5 = .ok (.ifCond .eq 10, 3) := by decide +kernel
theorem dX11_type_8 : decode cX11_type 8 = .ok (.iload_n 2, 1) := by decide +kernel
theorem dX11_type_9 : decode cX11_type 9 = .ok (.invokestatic 65, 3) := by decide +kernel
theorem dX11_type_12 : decode cX11_type 12 = .ok (.ifCond .ne 6, 3) := by decide +kernel
theorem dX11_type_15 : decode cX11_type 15 = .ok (.bipush (-2), 2) := by decide +kernel
theorem dX11_type_17 : decode cX11_type 17 = .ok (.ireturn, 1) := by decide +kernel
theorem dX11_type_18 : decode cX11_type 18 = .ok (.aload_n 0, 1) := by decide +kernel
theorem dX11_type_19 : decode cX11_type 19 = .ok (.getfield 11, 3) := by decide +kernel
theorem dX11_type_22 : decode cX11_type 22 = .ok (.iload_n 1, 1) := by decide +kernel
theorem dX11_type_23 : decode cX11_type 23 = .ok (.aaload, 1) := by decide +kernel
theorem dX11_type_24 : decode cX11_type 24 = .ok (.iload_n 2, 1) := by decide +kernel
theorem dX11_type_25 : decode cX11_type 25 = .ok (.invokevirtual 69, 3) := by decide +kernel
theorem dX11_type_28 : decode cX11_type 28 = .ok (.ifCond .ne 6, 3) := by decide +kernel
theorem dX11_type_31 : decode cX11_type 31 = .ok (.bipush (-4), 2) := by decide +kernel
theorem dX11_type_33 : decode cX11_type 33 = .ok (.ireturn, 1) := by decide +kernel
theorem dX11_type_34 : decode cX11_type 34 = .ok (.aload_n 0, 1) := by decide +kernel
theorem dX11_type_35 : decode cX11_type 35 = .ok (.iload_n 1, 1) := by decide +kernel
theorem dX11_type_36 : decode cX11_type 36 = .ok (.invokevirtual 72, 3) := by decide +kernel
theorem dX11_type_39 : decode cX11_type 39 = .ok (.aload_n 0, 1) := by decide +kernel
theorem dX11_type_40 : decode cX11_type 40 = .ok (.getfield 11, 3) := by decide +kernel
theorem dX11_type_43 : decode cX11_type 43 = .ok (.iload_n 1, 1) := by decide +kernel
theorem dX11_type_44 : decode cX11_type 44 = .ok (.aaload, 1) := by decide +kernel
theorem dX11_type_45 : decode cX11_type 45 = .ok (.getfield 75, 3) := by decide +kernel
theorem dX11_type_48 : decode cX11_type 48 = .ok (.ireturn, 1) := by decide +kernel
theorem dX11_wipe_0 : decode cX11_wipe 0 = .ok (.iload_n 1, 1) := by decide +kernel
theorem dX11_wipe_1 : decode cX11_wipe 1 = .ok (.iconst 3, 1) := by decide +kernel
theorem dX11_wipe_2 : decode cX11_wipe 2 = .ok (.invokestatic 61, 3) := by decide +kernel
theorem dX11_wipe_5 : decode cX11_wipe 5 = .ok (.ifCond .ne 6, 3) := by decide +kernel
theorem dX11_wipe_8 : decode cX11_wipe 8 = .ok (.bipush (-2), 2) := by decide +kernel
theorem dX11_wipe_10 : decode cX11_wipe 10 = .ok (.ireturn, 1) := by decide +kernel
theorem dX11_wipe_11 : decode cX11_wipe 11 = .ok (.aload_n 0, 1) := by decide +kernel
theorem dX11_wipe_12 : decode cX11_wipe 12 = .ok (.getfield 11, 3) := by decide +kernel
theorem dX11_wipe_15 : decode cX11_wipe 15 = .ok (.iload_n 1, 1) := by decide +kernel
theorem dX11_wipe_16 : decode cX11_wipe 16 = .ok (.aaload, 1) := by decide +kernel
theorem dX11_wipe_17 : decode cX11_wipe 17 = .ok (.getfield 75, 3) := by decide +kernel
theorem dX11_wipe_20 : decode cX11_wipe 20 = .ok (.istore_n 2, 1) := by decide +kernel
theorem dX11_wipe_21 : decode cX11_wipe 21 = .ok (.aload_n 0, 1) := by decide +kernel
theorem dX11_wipe_22 : decode cX11_wipe 22 = .ok (.getfield 11, 3) := by decide +kernel
theorem dX11_wipe_25 : decode cX11_wipe 25 = .ok (.iload_n 1, 1) := by decide +kernel
theorem dX11_wipe_26 : decode cX11_wipe 26 = .ok (.aaload, 1) := by decide +kernel
theorem dX11_wipe_27 : decode cX11_wipe 27 = .ok (.iconst 0, 1) := by decide +kernel
theorem dX11_wipe_28 : decode cX11_wipe 28 = .ok (.putfield 75, 3) := by decide +kernel
theorem dX11_wipe_31 : decode cX11_wipe 31 = .ok (.aload_n 0, 1) := by decide +kernel
theorem dX11_wipe_32 : decode cX11_wipe 32 = .ok (.iload_n 1, 1) := by decide +kernel
theorem dX11_wipe_33 : decode cX11_wipe 33 = .ok (.invokevirtual 72, 3) := by decide +kernel
theorem dX11_wipe_36 : decode cX11_wipe 36 = .ok (.iload_n 2, 1) := by decide +kernel
theorem dX11_wipe_37 : decode cX11_wipe 37 = .ok (.ireturn, 1) := by decide +kernel
theorem dX11_undo_0 : decode cX11_undo 0 = .ok (.iload_n 1, 1) := by decide +kernel
theorem dX11_undo_1 : decode cX11_undo 1 = .ok (.iconst 3, 1) := by decide +kernel
theorem dX11_undo_2 : decode cX11_undo 2 = .ok (.invokestatic 61, 3) := by decide +kernel
theorem dX11_undo_5 : decode cX11_undo 5 = .ok (.ifCond .ne 6, 3) := by decide +kernel
theorem dX11_undo_8 : decode cX11_undo 8 = .ok (.bipush (-2), 2) := by decide +kernel
theorem dX11_undo_10 : decode cX11_undo 10 = .ok (.ireturn, 1) := by decide +kernel
theorem dX11_undo_11 : decode cX11_undo 11 = .ok (.aload_n 0, 1) := by decide +kernel
theorem dX11_undo_12 : decode cX11_undo 12 = .ok (.getfield 11, 3) := by decide +kernel
theorem dX11_undo_15 : decode cX11_undo 15 = .ok (.iload_n 1, 1) := by decide +kernel
theorem dX11_undo_16 : decode cX11_undo 16 = .ok (.aaload, 1) := by decide +kernel
theorem dX11_undo_17 : decode cX11_undo 17 = .ok (.getfield 75, 3) := by decide +kernel
theorem dX11_undo_20 : decode cX11_undo 20 = .ok (.ifCond .ne 6, 3) := by decide +kernel
theorem dX11_undo_23 : decode cX11_undo 23 = .ok (.bipush (-3), 2) := by decide +kernel
theorem dX11_undo_25 : decode cX11_undo 25 = .ok (.ireturn, 1) := by decide +kernel
theorem dX11_undo_26 : decode cX11_undo 26 = .ok (.aload_n 0, 1) := by decide +kernel
theorem dX11_undo_27 : decode cX11_undo 27 = .ok (.getfield 11, 3) := by decide +kernel
theorem dX11_undo_30 : decode cX11_undo 30 = .ok (.iload_n 1, 1) := by decide +kernel
theorem dX11_undo_31 : decode cX11_undo 31 = .ok (.aaload, 1) := by decide +kernel
theorem dX11_undo_32 : decode cX11_undo 32 = .ok (.dup, 1) := by decide +kernel
theorem dX11_undo_33 : decode cX11_undo 33 = .ok (.getfield 75, 3) := by decide +kernel
theorem dX11_undo_36 : decode cX11_undo 36 = .ok (.iconst 1, 1) := by decide +kernel
theorem dX11_undo_37 : decode cX11_undo 37 = .ok (.isub, 1) := by decide +kernel
theorem dX11_undo_38 : decode cX11_undo 38 = .ok (.putfield 75, 3) := by decide +kernel
theorem dX11_undo_41 : decode cX11_undo 41 = .ok (.aload_n 0, 1) := by decide +kernel
theorem dX11_undo_42 : decode cX11_undo 42 = .ok (.iload_n 1, 1) := by decide +kernel
theorem dX11_undo_43 : decode cX11_undo 43 = .ok (.invokevirtual 72, 3) := by decide +kernel
theorem dX11_undo_46 : decode cX11_undo 46 = .ok (.aload_n 0, 1) := by decide +kernel
theorem dX11_undo_47 : decode cX11_undo 47 = .ok (.getfield 11, 3) := by decide +kernel
theorem dX11_undo_50 : decode cX11_undo 50 = .ok (.iload_n 1, 1) := by decide +kernel
theorem dX11_undo_51 : decode cX11_undo 51 = .ok (.aaload, 1) := by decide +kernel
theorem dX11_undo_52 : decode cX11_undo 52 = .ok (.getfield 75, 3) := by decide +kernel
theorem dX11_undo_55 : decode cX11_undo 55 = .ok (.ireturn, 1) := by decide +kernel
theorem dX11_fault_0 : decode cX11_fault 0 = .ok (.iload_n 1, 1) := by decide +kernel
theorem dX11_fault_1 : decode cX11_fault 1 = .ok (.iconst 3, 1) := by decide +kernel
theorem dX11_fault_2 : decode cX11_fault 2 = .ok (.invokestatic 61, 3) := by decide +kernel
theorem dX11_fault_5 : decode cX11_fault 5 = .ok (.ifCond .ne 6, 3) := by decide +kernel
theorem dX11_fault_8 : decode cX11_fault 8 = .ok (.bipush (-2), 2) := by decide +kernel
theorem dX11_fault_10 : decode cX11_fault 10 = .ok (.ireturn, 1) := by decide +kernel
theorem dX11_fault_11 : decode cX11_fault 11 = .ok (.iload_n 1, 1) := by decide +kernel
theorem dX11_fault_12 : decode cX11_fault 12 = .ok (.iconst 2, 1) := by decide +kernel
theorem dX11_fault_13 : decode cX11_fault 13 = .ok (.if_icmp .ne 16, 3) := by decide +kernel
theorem dX11_fault_16 : decode cX11_fault 16 = .ok (.aload_n 0, 1) := by decide +kernel
theorem dX11_fault_17 : decode cX11_fault 17 = .ok (.getfield 24, 3) := by decide +kernel
theorem dX11_fault_20 : decode cX11_fault 20 = .ok (.getfield 78, 3) := by decide +kernel
theorem dX11_fault_23 : decode cX11_fault 23 = .ok (.getfield 82, 3) := by decide +kernel
theorem dX11_fault_26 : decode cX11_fault 26 = .ok (.goto 11, 3) := by decide +kernel
theorem dX11_fault_29 : decode cX11_fault 29 = .ok (.aload_n 0, 1) := by decide +kernel
theorem dX11_fault_30 : decode cX11_fault 30 = .ok (.iload_n 1, 1) := by decide +kernel
theorem dX11_fault_31 : decode cX11_fault 31 = .ok (.invokevirtual 87, 3) := by decide +kernel
theorem dX11_fault_34 : decode cX11_fault 34 = .ok (.getfield 91, 3) := by decide +kernel
theorem dX11_fault_37 : decode cX11_fault 37 = .ok (.ireturn, 1) := by decide +kernel
theorem dX11_row_0 : decode cX11_row 0 = .ok (.iload_n 1, 1) := by decide +kernel
theorem dX11_row_1 : decode cX11_row 1 = .ok (.iconst 2, 1) := by decide +kernel
theorem dX11_row_2 : decode cX11_row 2 = .ok (.invokestatic 61, 3) := by decide +kernel
theorem dX11_row_5 : decode cX11_row 5 = .ok (.ifCond .eq 26, 3) := by decide +kernel
theorem dX11_row_8 : decode cX11_row 8 = .ok (.iload_n 3, 1) := by decide +kernel
theorem dX11_row_9 : decode cX11_row 9 = .ok (.iconst 2, 1) := by decide +kernel
theorem dX11_row_10 : decode cX11_row 10 = .ok (.invokestatic 61, 3) := by decide +kernel
theorem dX11_row_13 : decode cX11_row 13 = .ok (.ifCond .eq 18, 3) := by decide +kernel
theorem dX11_row_16 : decode cX11_row 16 = .ok (.iload_n 2, 1) := by decide +kernel
theorem dX11_row_17 : decode cX11_row 17 = .ok (.aload_n 0, 1) := by decide +kernel
theorem dX11_row_18 : decode cX11_row 18 = .ok (.iload_n 1, 1) := by decide +kernel
theorem dX11_row_19 : decode cX11_row 19 = .ok (.invokevirtual 87, 3) := by decide +kernel
theorem dX11_row_22 : decode cX11_row 22 = .ok (.getfield 94, 3) := by decide +kernel
theorem dX11_row_25 : decode cX11_row 25 = .ok (.invokestatic 61, 3) := by decide +kernel
theorem dX11_row_28 : decode cX11_row 28 = .ok (.ifCond .ne 6, 3) := by decide +kernel
theorem dX11_row_31 : decode cX11_row 31 = .ok (.bipush (-2), 2) := by decide +kernel
theorem dX11_row_33 : decode cX11_row 33 = .ok (.ireturn, 1) := by decide +kernel
theorem dX11_row_34 : decode cX11_row 34 = .ok (.iload_n 3, 1) := by decide +kernel
theorem dX11_row_35 : decode cX11_row 35 = .ok (.ifCond .ne 16, 3) := by decide +kernel
theorem dX11_row_38 : decode cX11_row 38 = .ok (.aload_n 0, 1) := by decide +kernel
theorem dX11_row_39 : decode cX11_row 39 = .ok (.iload_n 1, 1) := by decide +kernel
theorem dX11_row_40 : decode cX11_row 40 = .ok (.invokevirtual 87, 3) := by decide +kernel
theorem dX11_row_43 : decode cX11_row 43 = .ok (.getfield 95, 3) := by decide +kernel
theorem dX11_row_46 : decode cX11_row 46 = .ok (.iload_n 2, 1) := by decide +kernel
theorem dX11_row_47 : decode cX11_row 47 = .ok (.iaload, 1) := by decide +kernel
theorem dX11_row_48 : decode cX11_row 48 = .ok (.goto 13, 3) := by decide +kernel
theorem dX11_row_51 : decode cX11_row 51 = .ok (.aload_n 0, 1) := by decide +kernel
theorem dX11_row_52 : decode cX11_row 52 = .ok (.iload_n 1, 1) := by decide +kernel
theorem dX11_row_53 : decode cX11_row 53 = .ok (.invokevirtual 87, 3) := by decide +kernel
theorem dX11_row_56 : decode cX11_row 56 = .ok (.getfield 99, 3) := by decide +kernel
theorem dX11_row_59 : decode cX11_row 59 = .ok (.iload_n 2, 1) := by decide +kernel
theorem dX11_row_60 : decode cX11_row 60 = .ok (.iaload, 1) := by decide +kernel
theorem dX11_row_61 : decode cX11_row 61 = .ok (.ireturn, 1) := by decide +kernel
theorem dX11_step_0 : decode cX11_step 0 = .ok (.iload_n 2, 1) := by decide +kernel
theorem dX11_step_1 : decode cX11_step 1 = .ok (.iconst 2, 1) := by decide +kernel
theorem dX11_step_2 : decode cX11_step 2 = .ok (.invokestatic 61, 3) := by decide +kernel
theorem dX11_step_5 : decode cX11_step 5 = .ok (.ifCond .eq 20, 3) := by decide +kernel
theorem dX11_step_8 : decode cX11_step 8 = .ok (.iload_n 1, 1) := by decide +kernel
theorem dX11_step_9 : decode cX11_step 9 = .ok (.aload_n 0, 1) := by decide +kernel
theorem dX11_step_10 : decode cX11_step 10 = .ok (.getfield 24, 3) := by decide +kernel
theorem dX11_step_13 : decode cX11_step 13 = .ok (.getfield 78, 3) := by decide +kernel
theorem dX11_step_16 : decode cX11_step 16 = .ok (.getfield 102, 3) := by decide +kernel
theorem dX11_step_19 : decode cX11_step 19 = .ok (.invokestatic 61, 3) := by decide +kernel
theorem dX11_step_22 : decode cX11_step 22 = .ok (.ifCond .ne 6, 3) := by decide +kernel
theorem dX11_step_25 : decode cX11_step 25 = .ok (.bipush (-2), 2) := by decide +kernel
theorem dX11_step_27 : decode cX11_step 27 = .ok (.ireturn, 1) := by decide +kernel
theorem dX11_step_28 : decode cX11_step 28 = .ok (.iload_n 2, 1) := by decide +kernel
theorem dX11_step_29 : decode cX11_step 29 = .ok (.ifCond .ne 18, 3) := by decide +kernel
theorem dX11_step_32 : decode cX11_step 32 = .ok (.aload_n 0, 1) := by decide +kernel
theorem dX11_step_33 : decode cX11_step 33 = .ok (.getfield 24, 3) := by decide +kernel
theorem dX11_step_36 : decode cX11_step 36 = .ok (.getfield 78, 3) := by decide +kernel
theorem dX11_step_39 : decode cX11_step 39 = .ok (.getfield 103, 3) := by decide +kernel
theorem dX11_step_42 : decode cX11_step 42 = .ok (.iload_n 1, 1) := by decide +kernel
theorem dX11_step_43 : decode cX11_step 43 = .ok (.iaload, 1) := by decide +kernel
theorem dX11_step_44 : decode cX11_step 44 = .ok (.goto 15, 3) := by decide +kernel
theorem dX11_step_47 : decode cX11_step 47 = .ok (.aload_n 0, 1) := by decide +kernel
theorem dX11_step_48 : decode cX11_step 48 = .ok (.getfield 24, 3) := by decide +kernel
theorem dX11_step_51 : decode cX11_step 51 = .ok (.getfield 78, 3) := by decide +kernel
theorem dX11_step_54 : decode cX11_step 54 = .ok (.getfield 106, 3) := by decide +kernel
theorem dX11_step_57 : decode cX11_step 57 = .ok (.iload_n 1, 1) := by decide +kernel
theorem dX11_step_58 : decode cX11_step 58 = .ok (.iaload, 1) := by decide +kernel
theorem dX11_step_59 : decode cX11_step 59 = .ok (.ireturn, 1) := by decide +kernel
theorem dX11_end_0 : decode cX11_end 0 = .ok (.iload_n 1, 1) := by decide +kernel
theorem dX11_end_1 : decode cX11_end 1 = .ok (.bipush 9, 2) := by decide +kernel
theorem dX11_end_3 : decode cX11_end 3 = .ok (.invokestatic 61, 3) := by decide +kernel
theorem dX11_end_6 : decode cX11_end 6 = .ok (.ifCond .ne 6, 3) := by decide +kernel
theorem dX11_end_9 : decode cX11_end 9 = .ok (.bipush (-2), 2) := by decide +kernel
theorem dX11_end_11 : decode cX11_end 11 = .ok (.ireturn, 1) := by decide +kernel
theorem dX11_end_12 : decode cX11_end 12 = .ok (.aload_n 0, 1) := by decide +kernel
theorem dX11_end_13 : decode cX11_end 13 = .ok (.getfield 28, 3) := by decide +kernel
theorem dX11_end_16 : decode cX11_end 16 = .ok (.istore_n 2, 1) := by decide +kernel
theorem dX11_end_17 : decode cX11_end 17 = .ok (.aload_n 0, 1) := by decide +kernel
theorem dX11_end_18 : decode cX11_end 18 = .ok (.iload_n 1, 1) := by decide +kernel
theorem dX11_end_19 : decode cX11_end 19 = .ok (.putfield 28, 3) := by decide +kernel
theorem dX11_end_22 : decode cX11_end 22 = .ok (.aload_n 0, 1) := by decide +kernel
theorem dX11_end_23 : decode cX11_end 23 = .ok (.iconst 1, 1) := by decide +kernel
theorem dX11_end_24 : decode cX11_end 24 = .ok (.putfield 35, 3) := by decide +kernel
theorem dX11_end_27 : decode cX11_end 27 = .ok (.iload_n 2, 1) := by decide +kernel
theorem dX11_end_28 : decode cX11_end 28 = .ok (.ireturn, 1) := by decide +kernel
theorem dX11_error_0 : decode cX11_error 0 = .ok (.iload_n 1, 1) := by decide +kernel
theorem dX11_error_1 : decode cX11_error 1 = .ok (.invokestatic 109, 3) := by decide +kernel
theorem dX11_error_4 : decode cX11_error 4 = .ok (.ifCond .ne 6, 3) := by decide +kernel
theorem dX11_error_7 : decode cX11_error 7 = .ok (.bipush (-2), 2) := by decide +kernel
theorem dX11_error_9 : decode cX11_error 9 = .ok (.ireturn, 1) := by decide +kernel
theorem dX11_error_10 : decode cX11_error 10 = .ok (.aload_n 0, 1) := by decide +kernel
theorem dX11_error_11 : decode cX11_error 11 = .ok (.invokevirtual 112, 3) := by decide +kernel
theorem dX11_error_14 : decode cX11_error 14 = .ok (.aload_n 0, 1) := by decide +kernel
theorem dX11_error_15 : decode cX11_error 15 = .ok (.iload_n 1, 1) := by decide +kernel
theorem dX11_error_16 : decode cX11_error 16 = .ok (.invokevirtual 115, 3) := by decide +kernel
theorem dX11_error_19 : decode cX11_error 19 = .ok (.getfield 119, 3) := by decide +kernel
theorem dX11_error_22 : decode cX11_error 22 = .ok (.getfield 123, 3) := by decide +kernel
theorem dX11_error_25 : decode cX11_error 25 = .ok (.ireturn, 1) := by decide +kernel
theorem dX11_answer_0 : decode cX11_answer 0 = .ok (.iload_n 1, 1) := by decide +kernel
theorem dX11_answer_1 : decode cX11_answer 1 = .ok (.invokestatic 109, 3) := by decide +kernel
theorem dX11_answer_4 : decode cX11_answer 4 = .ok (.ifCond .eq 14, 3) := by decide +kernel
theorem dX11_answer_7 : decode cX11_answer 7 = .ok (.iload_n 2, 1) := by decide +kernel
theorem dX11_answer_8 : decode cX11_answer 8 = .ok (.aload_n 0, 1) := by decide +kernel
theorem dX11_answer_9 : decode cX11_answer 9 = .ok (.invokevirtual 128, 3) := by decide +kernel
theorem dX11_answer_12 : decode cX11_answer 12 = .ok (.invokestatic 61, 3) := by decide +kernel
theorem dX11_answer_15 : decode cX11_answer 15 = .ok (.ifCond .ne 6, 3) := by decide +kernel
theorem dX11_answer_18 : decode cX11_answer 18 = .ok (.bipush (-2), 2) := by decide +kernel
theorem dX11_answer_20 : decode cX11_answer 20 = .ok (.ireturn, 1) := by decide +kernel
theorem dX11_answer_21 : decode cX11_answer 21 = .ok (.aload_n 0, 1) := by decide +kernel
theorem dX11_answer_22 : decode cX11_answer 22 = .ok (.invokevirtual 112, 3) := by decide +kernel
theorem dX11_answer_25 : decode cX11_answer 25 = .ok (.aload_n 0, 1) := by decide +kernel
theorem dX11_answer_26 : decode cX11_answer 26 = .ok (.iload_n 1, 1) := by decide +kernel
theorem dX11_answer_27 : decode cX11_answer 27 = .ok (.invokevirtual 115, 3) := by decide +kernel
theorem dX11_answer_30 : decode cX11_answer 30 = .ok (.getfield 119, 3) := by decide +kernel
theorem dX11_answer_33 : decode cX11_answer 33 = .ok (.iload_n 2, 1) := by decide +kernel
theorem dX11_answer_34 : decode cX11_answer 34 = .ok (.invokevirtual 132, 3) := by decide +kernel
theorem dX11_answer_37 : decode cX11_answer 37 = .ok (.ireturn, 1) := by decide +kernel
theorem dX11_same_0 : decode cX11_same 0 = .ok (.aload_n 0, 1) := by decide +kernel
theorem dX11_same_1 : decode cX11_same 1 = .ok (.invokevirtual 112, 3) := by decide +kernel
theorem dX11_same_4 : decode cX11_same 4 = .ok (.aload_n 0, 1) := by decide +kernel
theorem dX11_same_5 : decode cX11_same 5 = .ok (.invokevirtual 136, 3) := by decide +kernel
theorem dX11_same_8 : decode cX11_same 8 = .ok (.ireturn, 1) := by decide +kernel
theorem dX11_total_0 : decode cX11_total 0 = .ok (.aload_n 0, 1) := by decide +kernel
theorem dX11_total_1 : decode cX11_total 1 = .ok (.invokevirtual 112, 3) := by decide +kernel
theorem dX11_total_4 : decode cX11_total 4 = .ok (.aload_n 0, 1) := by decide +kernel
theorem dX11_total_5 : decode cX11_total 5 = .ok (.getfield 51, 3) := by decide +kernel
theorem dX11_total_8 : decode cX11_total 8 = .ok (.getfield 119, 3) := by decide +kernel
theorem dX11_total_11 : decode cX11_total 11 = .ok (.aload_n 0, 1) := by decide +kernel
theorem dX11_total_12 : decode cX11_total 12 = .ok (.getfield 28, 3) := by decide +kernel
theorem dX11_total_15 : decode cX11_total 15 = .ok (.aload_n 0, 1) := by decide +kernel
theorem dX11_total_16 : decode cX11_total 16 = .ok (.invokevirtual 128, 3) := by decide +kernel
theorem dX11_total_19 : decode cX11_total 19 = .ok (.invokevirtual 139, 3) := by decide +kernel
theorem dX11_total_22 : decode cX11_total 22 = .ok (.ireturn, 1) := by decide +kernel
theorem dX11_speaks_0 : decode cX11_speaks 0 = .ok (.aload_n 0, 1) := by decide +kernel
theorem dX11_speaks_1 : decode cX11_speaks 1 = .ok (.getfield 24, 3) := by decide +kernel
theorem dX11_speaks_4 : decode cX11_speaks 4 = .ok (.getfield 78, 3) := by decide +kernel
theorem dX11_speaks_7 : decode cX11_speaks 7 = .ok (.invokevirtual 143, 3) := by decide +kernel
theorem dX11_speaks_10 : decode cX11_speaks 10 = .ok (.aload_n 0, 1) := by decide +kernel
theorem dX11_speaks_11 : decode cX11_speaks 11 = .ok (.getfield 28, 3) := by decide +kernel
theorem dX11_speaks_14 : decode cX11_speaks 14 = .ok (.invokestatic 146, 3) := by decide +kernel
theorem dX11_speaks_17 : decode cX11_speaks 17 = .ok (.ifCond .eq 9, 3) := by decide +kernel
theorem dX11_speaks_20 : decode cX11_speaks 20 = .ok (.sipush 4096, 3) := by decide +kernel
theorem dX11_speaks_23 : decode cX11_speaks 23 = .ok (.goto 4, 3) := by decide +kernel
theorem dX11_speaks_26 : decode cX11_speaks 26 = .ok (.iconst 0, 1) := by decide +kernel
theorem dX11_speaks_27 : decode cX11_speaks 27 = .ok (.ior, 1) := by decide +kernel
theorem dX11_speaks_28 : decode cX11_speaks 28 = .ok (.ireturn, 1) := by decide +kernel
theorem dX11_domain_0 : decode cX11_domain 0 = .ok (.iload_n 1, 1) := by decide +kernel
theorem dX11_domain_1 : decode cX11_domain 1 = .ok (.iconst (-1), 1) := by decide +kernel
theorem dX11_domain_2 : decode cX11_domain 2 = .ok (.if_icmp .lt 17, 3) := by decide +kernel
theorem dX11_domain_5 : decode cX11_domain 5 = .ok (.iload_n 1, 1) := by decide +kernel
theorem dX11_domain_6 : decode cX11_domain 6 = .ok (.bipush 10, 2) := by decide +kernel
theorem dX11_domain_8 : decode cX11_domain 8 = .ok (.if_icmp .ge 11, 3) := by decide +kernel
theorem dX11_domain_11 : decode cX11_domain 11 = .ok (.iload_n 2, 1) := by decide +kernel
theorem dX11_domain_12 : decode cX11_domain 12 = .ok (.iconst 2, 1) := by decide +kernel
theorem dX11_domain_13 : decode cX11_domain 13 = .ok (.invokestatic 61, 3) := by decide +kernel
theorem dX11_domain_16 : decode cX11_domain 16 = .ok (.ifCond .ne 6, 3) := by decide +kernel
theorem dX11_domain_19 : decode cX11_domain 19 = .ok (.bipush (-2), 2) := by decide +kernel
theorem dX11_domain_21 : decode cX11_domain 21 = .ok (.ireturn, 1) := by decide +kernel
theorem dX11_domain_22 : decode cX11_domain 22 = .ok (.aload_n 0, 1) := by decide +kernel
theorem dX11_domain_23 : decode cX11_domain 23 = .ok (.invokevirtual 112, 3) := by decide +kernel
theorem dX11_domain_26 : decode cX11_domain 26 = .ok (.iload_n 1, 1) := by decide +kernel
theorem dX11_domain_27 : decode cX11_domain 27 = .ok (.iconst (-1), 1) := by decide +kernel
theorem dX11_domain_28 : decode cX11_domain 28 = .ok (.if_icmp .ne 16, 3) := by decide +kernel
theorem dX11_domain_31 : decode cX11_domain 31 = .ok (.aload_n 0, 1) := by decide +kernel
theorem dX11_domain_32 : decode cX11_domain 32 = .ok (.getfield 55, 3) := by decide +kernel
theorem dX11_domain_35 : decode cX11_domain 35 = .ok (.getfield 149, 3) := by decide +kernel
theorem dX11_domain_38 : decode cX11_domain 38 = .ok (.getfield 153, 3) := by decide +kernel
theorem dX11_domain_41 : decode cX11_domain 41 = .ok (.goto 9, 3) := by decide +kernel
theorem dX11_domain_44 : decode cX11_domain 44 = .ok (.aload_n 0, 1) := by decide +kernel
theorem dX11_domain_45 : decode cX11_domain 45 = .ok (.iload_n 1, 1) := by decide +kernel
theorem dX11_domain_46 : decode cX11_domain 46 = .ok (.iload_n 2, 1) := by decide +kernel
theorem dX11_domain_47 : decode cX11_domain 47 = .ok (.invokevirtual 156, 3) := by decide +kernel
theorem dX11_domain_50 : decode cX11_domain 50 = .ok (.ireturn, 1) := by decide +kernel
theorem dX11_plan_0 : decode cX11_plan 0 = .ok (.iload_n 1, 1) := by decide +kernel
theorem dX11_plan_1 : decode cX11_plan 1 = .ok (.bipush 20, 2) := by decide +kernel
theorem dX11_plan_3 : decode cX11_plan 3 = .ok (.invokestatic 61, 3) := by decide +kernel
theorem dX11_plan_6 : decode cX11_plan 6 = .ok (.ifCond .ne 6, 3) := by decide +kernel
theorem dX11_plan_9 : decode cX11_plan 9 = .ok (.bipush (-2), 2) := by decide +kernel
theorem dX11_plan_11 : decode cX11_plan 11 = .ok (.ireturn, 1) := by decide +kernel
theorem dX11_plan_12 : decode cX11_plan 12 = .ok (.aload_n 0, 1) := by decide +kernel
theorem dX11_plan_13 : decode cX11_plan 13 = .ok (.invokevirtual 112, 3) := by decide +kernel
theorem dX11_plan_16 : decode cX11_plan 16 = .ok (.aload_n 0, 1) := by decide +kernel
theorem dX11_plan_17 : decode cX11_plan 17 = .ok (.getfield 55, 3) := by decide +kernel
theorem dX11_plan_20 : decode cX11_plan 20 = .ok (.getfield 159, 3) := by decide +kernel
theorem dX11_plan_23 : decode cX11_plan 23 = .ok (.iload_n 1, 1) := by decide +kernel
theorem dX11_plan_24 : decode cX11_plan 24 = .ok (.invokevirtual 163, 3) := by decide +kernel
theorem dX11_plan_27 : decode cX11_plan 27 = .ok (.ireturn, 1) := by decide +kernel
theorem dX11_cost_0 : decode cX11_cost 0 = .ok (.iload_n 1, 1) := by decide +kernel
theorem dX11_cost_1 : decode cX11_cost 1 = .ok (.invokestatic 109, 3) := by decide +kernel
theorem dX11_cost_4 : decode cX11_cost 4 = .ok (.ifCond .eq 11, 3) := by decide +kernel
theorem dX11_cost_7 : decode cX11_cost 7 = .ok (.iload_n 2, 1) := by decide +kernel
theorem dX11_cost_8 : decode cX11_cost 8 = .ok (.iconst 5, 1) := by decide +kernel
theorem dX11_cost_9 : decode cX11_cost 9 = .ok (.invokestatic 61, 3) := by decide +kernel
theorem dX11_cost_12 : decode cX11_cost 12 = .ok (.ifCond .ne 6, 3) := by decide +kernel
theorem dX11_cost_15 : decode cX11_cost 15 = .ok (.bipush (-2), 2) := by decide +kernel
theorem dX11_cost_17 : decode cX11_cost 17 = .ok (.ireturn, 1) := by decide +kernel
theorem dX11_cost_18 : decode cX11_cost 18 = .ok (.aload_n 0, 1) := by decide +kernel
theorem dX11_cost_19 : decode cX11_cost 19 = .ok (.invokevirtual 112, 3) := by decide +kernel
theorem dX11_cost_22 : decode cX11_cost 22 = .ok (.aload_n 0, 1) := by decide +kernel
theorem dX11_cost_23 : decode cX11_cost 23 = .ok (.iload_n 1, 1) := by decide +kernel
theorem dX11_cost_24 : decode cX11_cost 24 = .ok (.invokevirtual 115, 3) := by decide +kernel
theorem dX11_cost_27 : decode cX11_cost 27 = .ok (.getfield 119, 3) := by decide +kernel
theorem dX11_cost_30 : decode cX11_cost 30 = .ok (.iload_n 2, 1) := by decide +kernel
theorem dX11_cost_31 : decode cX11_cost 31 = .ok (.invokevirtual 168, 3) := by decide +kernel
theorem dX11_cost_34 : decode cX11_cost 34 = .ok (.ireturn, 1) := by decide +kernel
theorem dX11_log_0 : decode cX11_log 0 = .ok (.iload_n 1, 1) := by decide +kernel
theorem dX11_log_1 : decode cX11_log 1 = .ok (.invokestatic 109, 3) := by decide +kernel
theorem dX11_log_4 : decode cX11_log 4 = .ok (.ifCond .eq 13, 3) := by decide +kernel
theorem dX11_log_7 : decode cX11_log 7 = .ok (.iload_n 2, 1) := by decide +kernel
theorem dX11_log_8 : decode cX11_log 8 = .ok (.sipush 200, 3) := by decide +kernel
theorem dX11_log_11 : decode cX11_log 11 = .ok (.invokestatic 61, 3) := by decide +kernel
theorem dX11_log_14 : decode cX11_log 14 = .ok (.ifCond .ne 6, 3) := by decide +kernel
theorem dX11_log_17 : decode cX11_log 17 = .ok (.bipush (-2), 2) := by decide +kernel
theorem dX11_log_19 : decode cX11_log 19 = .ok (.ireturn, 1) := by decide +kernel
theorem dX11_log_20 : decode cX11_log 20 = .ok (.aload_n 0, 1) := by decide +kernel
theorem dX11_log_21 : decode cX11_log 21 = .ok (.invokevirtual 112, 3) := by decide +kernel
theorem dX11_log_24 : decode cX11_log 24 = .ok (.aload_n 0, 1) := by decide +kernel
theorem dX11_log_25 : decode cX11_log 25 = .ok (.iload_n 1, 1) := by decide +kernel
theorem dX11_log_26 : decode cX11_log 26 = .ok (.invokevirtual 115, 3) := by decide +kernel
theorem dX11_log_29 : decode cX11_log 29 = .ok (.getfield 119, 3) := by decide +kernel
theorem dX11_log_32 : decode cX11_log 32 = .ok (.iload_n 2, 1) := by decide +kernel
theorem dX11_log_33 : decode cX11_log 33 = .ok (.invokevirtual 171, 3) := by decide +kernel
theorem dX11_log_36 : decode cX11_log 36 = .ok (.ireturn, 1) := by decide +kernel
theorem dX11_spare_0 : decode cX11_spare 0 = .ok (.aload_n 0, 1) := by decide +kernel
theorem dX11_spare_1 : decode cX11_spare 1 = .ok (.invokevirtual 112, 3) := by decide +kernel
theorem dX11_spare_4 : decode cX11_spare 4 = .ok (.aload_n 0, 1) := by decide +kernel
theorem dX11_spare_5 : decode cX11_spare 5 = .ok (.invokevirtual 174, 3) := by decide +kernel
theorem dX11_spare_8 : decode cX11_spare 8 = .ok (.ireturn, 1) := by decide +kernel
theorem dX11_sheet_0 : decode cX11_sheet 0 = .ok (.iload_n 1, 1) := by decide +kernel
theorem dX11_sheet_1 : decode cX11_sheet 1 = .ok (.iconst 4, 1) := by decide +kernel
theorem dX11_sheet_2 : decode cX11_sheet 2 = .ok (.invokestatic 61, 3) := by decide +kernel
theorem dX11_sheet_5 : decode cX11_sheet 5 = .ok (.ifCond .eq 17, 3) := by decide +kernel
theorem dX11_sheet_8 : decode cX11_sheet 8 = .ok (.iload_n 2, 1) := by decide +kernel
theorem dX11_sheet_9 : decode cX11_sheet 9 = .ok (.iconst 3, 1) := by decide +kernel
theorem dX11_sheet_10 : decode cX11_sheet 10 = .ok (.invokestatic 61, 3) := by decide +kernel
theorem dX11_sheet_13 : decode cX11_sheet 13 = .ok (.ifCond .eq 9, 3) := by decide +kernel
theorem dX11_sheet_16 : decode cX11_sheet 16 = .ok (.iload_n 3, 1) := by decide +kernel
theorem dX11_sheet_17 : decode cX11_sheet 17 = .ok (.bipush 60, 2) := by decide +kernel
theorem dX11_sheet_19 : decode cX11_sheet 19 = .ok (.if_icmp .le 6, 3) := by decide +kernel
theorem dX11_sheet_22 : decode cX11_sheet 22 = .ok (.bipush (-2), 2) := by decide +kernel
theorem dX11_sheet_24 : decode cX11_sheet 24 = .ok (.ireturn, 1) := by decide +kernel
theorem dX11_sheet_25 : decode cX11_sheet 25 = .ok (.iload_n 3, 1) := by decide +kernel
theorem dX11_sheet_26 : decode cX11_sheet 26 = .ok (.ifCond .ge 9, 3) := by decide +kernel
theorem dX11_sheet_29 : decode cX11_sheet 29 = .ok (.aload_n 0, 1) := by decide +kernel
theorem dX11_sheet_30 : decode cX11_sheet 30 = .ok (.iconst 5, 1) := by decide +kernel
theorem dX11_sheet_31 : decode cX11_sheet 31 = .ok (.invokevirtual 177, 3) := by decide +kernel
theorem dX11_sheet_34 : decode cX11_sheet 34 = .ok (.ireturn, 1) := by decide +kernel
theorem dX11_sheet_35 : decode cX11_sheet 35 = .ok (.aload_n 0, 1) := by decide +kernel
theorem dX11_sheet_36 : decode cX11_sheet 36 = .ok (.getfield 17, 3) := by decide +kernel
theorem dX11_sheet_39 : decode cX11_sheet 39 = .ok (.iload_n 1, 1) := by decide +kernel
theorem dX11_sheet_40 : decode cX11_sheet 40 = .ok (.aaload, 1) := by decide +kernel
theorem dX11_sheet_41 : decode cX11_sheet 41 = .ok (.iload_n 2, 1) := by decide +kernel
theorem dX11_sheet_42 : decode cX11_sheet 42 = .ok (.iload_n 3, 1) := by decide +kernel
theorem dX11_sheet_43 : decode cX11_sheet 43 = .ok (.invokevirtual 180, 3) := by decide +kernel
theorem dX11_sheet_46 : decode cX11_sheet 46 = .ok (.iload_n 3, 1) := by decide +kernel
theorem dX11_sheet_47 : decode cX11_sheet 47 = .ok (.ireturn, 1) := by decide +kernel
theorem dX11_lose_0 : decode cX11_lose 0 = .ok (.iload_n 1, 1) := by decide +kernel
theorem dX11_lose_1 : decode cX11_lose 1 = .ok (.iconst 4, 1) := by decide +kernel
theorem dX11_lose_2 : decode cX11_lose 2 = .ok (.invokestatic 61, 3) := by decide +kernel
theorem dX11_lose_5 : decode cX11_lose 5 = .ok (.ifCond .ne 6, 3) := by decide +kernel
theorem dX11_lose_8 : decode cX11_lose 8 = .ok (.bipush (-2), 2) := by decide +kernel
theorem dX11_lose_10 : decode cX11_lose 10 = .ok (.ireturn, 1) := by decide +kernel
theorem dX11_lose_11 : decode cX11_lose 11 = .ok (.aload_n 0, 1) := by decide +kernel
theorem dX11_lose_12 : decode cX11_lose 12 = .ok (.getfield 17, 3) := by decide +kernel
theorem dX11_lose_15 : decode cX11_lose 15 = .ok (.iload_n 1, 1) := by decide +kernel
theorem dX11_lose_16 : decode cX11_lose 16 = .ok (.aaload, 1) := by decide +kernel
theorem dX11_lose_17 : decode cX11_lose 17 = .ok (.invokevirtual 184, 3) := by decide +kernel
theorem dX11_lose_20 : decode cX11_lose 20 = .ok (.ifCond .eq 9, 3) := by decide +kernel
theorem dX11_lose_23 : decode cX11_lose 23 = .ok (.aload_n 0, 1) := by decide +kernel
theorem dX11_lose_24 : decode cX11_lose 24 = .ok (.iconst 1, 1) := by decide +kernel
theorem dX11_lose_25 : decode cX11_lose 25 = .ok (.invokevirtual 177, 3) := by decide +kernel
theorem dX11_lose_28 : decode cX11_lose 28 = .ok (.ireturn, 1) := by decide +kernel
theorem dX11_lose_29 : decode cX11_lose 29 = .ok (.aload_n 0, 1) := by decide +kernel
theorem dX11_lose_30 : decode cX11_lose 30 = .ok (.getfield 17, 3) := by decide +kernel
theorem dX11_lose_33 : decode cX11_lose 33 = .ok (.iload_n 1, 1) := by decide +kernel
theorem dX11_lose_34 : decode cX11_lose 34 = .ok (.aaload, 1) := by decide +kernel
theorem dX11_lose_35 : decode cX11_lose 35 = .ok (.getfield 188, 3) := by decide +kernel
theorem dX11_lose_38 : decode cX11_lose 38 = .ok (.istore_n 2, 1) := by decide +kernel
theorem dX11_lose_39 : decode cX11_lose 39 = .ok (.aload_n 0, 1) := by decide +kernel
theorem dX11_lose_40 : decode cX11_lose 40 = .ok (.getfield 17, 3) := by decide +kernel
theorem dX11_lose_43 : decode cX11_lose 43 = .ok (.iload_n 1, 1) := by decide +kernel
theorem dX11_lose_44 : decode cX11_lose 44 = .ok (.aaload, 1) := by decide +kernel
theorem dX11_lose_45 : decode cX11_lose 45 = .ok (.invokevirtual 189, 3) := by decide +kernel
theorem dX11_lose_48 : decode cX11_lose 48 = .ok (.iload_n 2, 1) := by decide +kernel
theorem dX11_lose_49 : decode cX11_lose 49 = .ok (.ireturn, 1) := by decide +kernel
theorem dX11_put_0 : decode cX11_put 0 = .ok (.iload_n 1, 1) := by decide +kernel
theorem dX11_put_1 : decode cX11_put 1 = .ok (.iconst 4, 1) := by decide +kernel
theorem dX11_put_2 : decode cX11_put 2 = .ok (.invokestatic 61, 3) := by decide +kernel
theorem dX11_put_5 : decode cX11_put 5 = .ok (.ifCond .eq 11, 3) := by decide +kernel
theorem dX11_put_8 : decode cX11_put 8 = .ok (.iload_n 2, 1) := by decide +kernel
theorem dX11_put_9 : decode cX11_put 9 = .ok (.iconst 3, 1) := by decide +kernel
theorem dX11_put_10 : decode cX11_put 10 = .ok (.invokestatic 61, 3) := by decide +kernel
theorem dX11_put_13 : decode cX11_put 13 = .ok (.ifCond .ne 6, 3) := by decide +kernel
theorem dX11_put_16 : decode cX11_put 16 = .ok (.bipush (-2), 2) := by decide +kernel
theorem dX11_put_18 : decode cX11_put 18 = .ok (.ireturn, 1) := by decide +kernel
theorem dX11_put_19 : decode cX11_put 19 = .ok (.aload_n 0, 1) := by decide +kernel
theorem dX11_put_20 : decode cX11_put 20 = .ok (.getfield 17, 3) := by decide +kernel
theorem dX11_put_23 : decode cX11_put 23 = .ok (.iload_n 1, 1) := by decide +kernel
theorem dX11_put_24 : decode cX11_put 24 = .ok (.aaload, 1) := by decide +kernel
theorem dX11_put_25 : decode cX11_put 25 = .ok (.iload_n 2, 1) := by decide +kernel
theorem dX11_put_26 : decode cX11_put 26 = .ok (.iload_n 3, 1) := by decide +kernel
theorem dX11_put_27 : decode cX11_put 27 = .ok (.invokevirtual 192, 3) := by decide +kernel
theorem dX11_put_30 : decode cX11_put 30 = .ok (.istore 5, 2) := by decide +kernel
theorem dX11_put_32 : decode cX11_put 32 = .ok (.iload 5, 2) := by decide +kernel
theorem dX11_put_34 : decode cX11_put 34 = .ok (.ifCond .eq 10, 3) := by decide +kernel
theorem dX11_put_37 : decode cX11_put 37 = .ok (.aload_n 0, 1) := by decide +kernel
theorem dX11_put_38 : decode cX11_put 38 = .ok (.iload 5, 2) := by decide +kernel
theorem dX11_put_40 : decode cX11_put 40 = .ok (.invokevirtual 177, 3) := by decide +kernel
theorem dX11_put_43 : decode cX11_put 43 = .ok (.ireturn, 1) := by decide +kernel
theorem dX11_put_44 : decode cX11_put 44 = .ok (.aload_n 0, 1) := by decide +kernel
theorem dX11_put_45 : decode cX11_put 45 = .ok (.getfield 17, 3) := by decide +kernel
theorem dX11_put_48 : decode cX11_put 48 = .ok (.iload_n 1, 1) := by decide +kernel
theorem dX11_put_49 : decode cX11_put 49 = .ok (.aaload, 1) := by decide +kernel
theorem dX11_put_50 : decode cX11_put 50 = .ok (.iload_n 3, 1) := by decide +kernel
theorem dX11_put_51 : decode cX11_put 51 = .ok (.iload 4, 2) := by decide +kernel
theorem dX11_put_53 : decode cX11_put 53 = .ok (.invokevirtual 195, 3) := by decide +kernel
theorem dX11_put_56 : decode cX11_put 56 = .ok (.iconst 1, 1) := by decide +kernel
theorem dX11_put_57 : decode cX11_put 57 = .ok (.ireturn, 1) := by decide +kernel
theorem dX11_get_0 : decode cX11_get 0 = .ok (.iload_n 1, 1) := by decide +kernel
theorem dX11_get_1 : decode cX11_get 1 = .ok (.iconst 4, 1) := by decide +kernel
theorem dX11_get_2 : decode cX11_get 2 = .ok (.invokestatic 61, 3) := by decide +kernel
theorem dX11_get_5 : decode cX11_get 5 = .ok (.ifCond .eq 11, 3) := by decide +kernel
theorem dX11_get_8 : decode cX11_get 8 = .ok (.iload_n 2, 1) := by decide +kernel
theorem dX11_get_9 : decode cX11_get 9 = .ok (.iconst 3, 1) := by decide +kernel
theorem dX11_get_10 : decode cX11_get 10 = .ok (.invokestatic 61, 3) := by decide +kernel
theorem dX11_get_13 : decode cX11_get 13 = .ok (.ifCond .ne 6, 3) := by decide +kernel
theorem dX11_get_16 : decode cX11_get 16 = .ok (.ldc 198, 2) := by decide +kernel
theorem dX11_get_18 : decode cX11_get 18 = .ok (.ireturn, 1) := by decide +kernel
theorem dX11_get_19 : decode cX11_get 19 = .ok (.aload_n 0, 1) := by decide +kernel
theorem dX11_get_20 : decode cX11_get 20 = .ok (.getfield 17, 3) := by decide +kernel
theorem dX11_get_23 : decode cX11_get 23 = .ok (.iload_n 1, 1) := by decide +kernel
theorem dX11_get_24 : decode cX11_get 24 = .ok (.aaload, 1) := by decide +kernel
theorem dX11_get_25 : decode cX11_get 25 = .ok (.iload_n 2, 1) := by decide +kernel
theorem dX11_get_26 : decode cX11_get 26 = .ok (.iload_n 3, 1) := by decide +kernel
theorem dX11_get_27 : decode cX11_get 27 = .ok (.invokevirtual 192, 3) := by decide +kernel
theorem dX11_get_30 : decode cX11_get 30 = .ok (.istore 4, 2) := by decide +kernel
theorem dX11_get_32 : decode cX11_get 32 = .ok (.iload 4, 2) := by decide +kernel
theorem dX11_get_34 : decode cX11_get 34 = .ok (.ifCond .eq 12, 3) := by decide +kernel
theorem dX11_get_37 : decode cX11_get 37 = .ok (.aload_n 0, 1) := by decide +kernel
theorem dX11_get_38 : decode cX11_get 38 = .ok (.iload 4, 2) := by decide +kernel
theorem dX11_get_40 : decode cX11_get 40 = .ok (.putfield 32, 3) := by decide +kernel
theorem dX11_get_43 : decode cX11_get 43 = .ok (.ldc 198, 2) := by decide +kernel
theorem dX11_get_45 : decode cX11_get 45 = .ok (.ireturn, 1) := by decide +kernel
theorem dX11_get_46 : decode cX11_get 46 = .ok (.aload_n 0, 1) := by decide +kernel
theorem dX11_get_47 : decode cX11_get 47 = .ok (.getfield 17, 3) := by decide +kernel
theorem dX11_get_50 : decode cX11_get 50 = .ok (.iload_n 1, 1) := by decide +kernel
theorem dX11_get_51 : decode cX11_get 51 = .ok (.aaload, 1) := by decide +kernel
theorem dX11_get_52 : decode cX11_get 52 = .ok (.getfield 199, 3) := by decide +kernel
theorem dX11_get_55 : decode cX11_get 55 = .ok (.iload_n 3, 1) := by decide +kernel
theorem dX11_get_56 : decode cX11_get 56 = .ok (.iaload, 1) := by decide +kernel
theorem dX11_get_57 : decode cX11_get 57 = .ok (.ireturn, 1) := by decide +kernel
theorem dX11_copy_0 : decode cX11_copy 0 = .ok (.iload_n 1, 1) := by decide +kernel
theorem dX11_copy_1 : decode cX11_copy 1 = .ok (.iconst 4, 1) := by decide +kernel
theorem dX11_copy_2 : decode cX11_copy 2 = .ok (.invokestatic 61, 3) := by decide +kernel
theorem dX11_copy_5 : decode cX11_copy 5 = .ok (.ifCond .eq 11, 3) := by decide +kernel
theorem dX11_copy_8 : decode cX11_copy 8 = .ok (.iload_n 3, 1) := by decide +kernel
theorem dX11_copy_9 : decode cX11_copy 9 = .ok (.iconst 4, 1) := by decide +kernel
theorem dX11_copy_10 : decode cX11_copy 10 = .ok (.invokestatic 61, 3) := by decide +kernel
theorem dX11_copy_13 : decode cX11_copy 13 = .ok (.ifCond .ne 6, 3) := by decide +kernel
theorem dX11_copy_16 : decode cX11_copy 16 = .ok (.bipush (-2), 2) := by decide +kernel
theorem dX11_copy_18 : decode cX11_copy 18 = .ok (.ireturn, 1) := by decide +kernel
theorem dX11_copy_19 : decode cX11_copy 19 = .ok (.aload_n 0, 1) := by decide +kernel
theorem dX11_copy_20 : decode cX11_copy 20 = .ok (.getfield 17, 3) := by decide +kernel
theorem dX11_copy_23 : decode cX11_copy 23 = .ok (.iload_n 1, 1) := by decide +kernel
theorem dX11_copy_24 : decode cX11_copy 24 = .ok (.aaload, 1) := by decide +kernel
theorem dX11_copy_25 : decode cX11_copy 25 = .ok (.invokevirtual 184, 3) := by decide +kernel
theorem dX11_copy_28 : decode cX11_copy 28 = .ok (.ifCond .ne 15, 3) := by decide +kernel
theorem dX11_copy_31 : decode cX11_copy 31 = .ok (.aload_n 0, 1) := by decide +kernel
theorem dX11_copy_32 : decode cX11_copy 32 = .ok (.getfield 17, 3) := by decide +kernel
theorem dX11_copy_35 : decode cX11_copy 35 = .ok (.iload_n 3, 1) := by decide +kernel
theorem dX11_copy_36 : decode cX11_copy 36 = .ok (.aaload, 1) := by decide +kernel
theorem dX11_copy_37 : decode cX11_copy 37 = .ok (.invokevirtual 184, 3) := by decide +kernel
theorem dX11_copy_40 : decode cX11_copy 40 = .ok (.ifCond .eq 9, 3) := by decide +kernel
theorem dX11_copy_43 : decode cX11_copy 43 = .ok (.aload_n 0, 1) := by decide +kernel
theorem dX11_copy_44 : decode cX11_copy 44 = .ok (.iconst 1, 1) := by decide +kernel
theorem dX11_copy_45 : decode cX11_copy 45 = .ok (.invokevirtual 177, 3) := by decide +kernel
theorem dX11_copy_48 : decode cX11_copy 48 = .ok (.ireturn, 1) := by decide +kernel
theorem dX11_copy_49 : decode cX11_copy 49 = .ok (.aload_n 0, 1) := by decide +kernel
theorem dX11_copy_50 : decode cX11_copy 50 = .ok (.getfield 17, 3) := by decide +kernel
theorem dX11_copy_53 : decode cX11_copy 53 = .ok (.iload_n 1, 1) := by decide +kernel
theorem dX11_copy_54 : decode cX11_copy 54 = .ok (.aaload, 1) := by decide +kernel
theorem dX11_copy_55 : decode cX11_copy 55 = .ok (.getfield 202, 3) := by decide +kernel
theorem dX11_copy_58 : decode cX11_copy 58 = .ok (.aload_n 0, 1) := by decide +kernel
theorem dX11_copy_59 : decode cX11_copy 59 = .ok (.getfield 17, 3) := by decide +kernel
theorem dX11_copy_62 : decode cX11_copy 62 = .ok (.iload_n 3, 1) := by decide +kernel
theorem dX11_copy_63 : decode cX11_copy 63 = .ok (.aaload, 1) := by decide +kernel
theorem dX11_copy_64 : decode cX11_copy 64 = .ok (.getfield 202, 3) := by decide +kernel
theorem dX11_copy_67 : decode cX11_copy 67 = .ok (.if_icmp .eq 9, 3) := by decide +kernel
theorem dX11_copy_70 : decode cX11_copy 70 = .ok (.aload_n 0, 1) := by decide +kernel
theorem dX11_copy_71 : decode cX11_copy 71 = .ok (.iconst 4, 1) := by decide +kernel
theorem dX11_copy_72 : decode cX11_copy 72 = .ok (.invokevirtual 177, 3) := by decide +kernel
theorem dX11_copy_75 : decode cX11_copy 75 = .ok (.ireturn, 1) := by decide +kernel
theorem dX11_copy_76 : decode cX11_copy 76 = .ok (.aload_n 0, 1) := by decide +kernel
theorem dX11_copy_77 : decode cX11_copy 77 = .ok (.getfield 17, 3) := by decide +kernel
theorem dX11_copy_80 : decode cX11_copy 80 = .ok (.iload_n 1, 1) := by decide +kernel
theorem dX11_copy_81 : decode cX11_copy 81 = .ok (.aaload, 1) := by decide +kernel
theorem dX11_copy_82 : decode cX11_copy 82 = .ok (.iload_n 2, 1) := by decide +kernel
theorem dX11_copy_83 : decode cX11_copy 83 = .ok (.iload 5, 2) := by decide +kernel
theorem dX11_copy_85 : decode cX11_copy 85 = .ok (.invokevirtual 205, 3) := by decide +kernel
theorem dX11_copy_88 : decode cX11_copy 88 = .ok (.ifCond .eq 19, 3) := by decide +kernel
theorem dX11_copy_91 : decode cX11_copy 91 = .ok (.aload_n 0, 1) := by decide +kernel
theorem dX11_copy_92 : decode cX11_copy 92 = .ok (.getfield 17, 3) := by decide +kernel
end
section
theorem dX11_copy_95 : decode cX11_copy 95 = .ok (.iload_n 3, 1) := by decide +kernel
theorem dX11_copy_96 : decode cX11_copy 96 = .ok (.aaload, 1) := by decide +kernel
theorem dX11_copy_97 : decode cX11_copy 97 = .ok (.iload 4, 2) := by decide +kernel
theorem dX11_copy_99 : decode cX11_copy 99 = .ok (.iload 5, 2) := by decide +kernel
theorem dX11_copy_101 : decode cX11_copy 101 = .ok (.invokevirtual 205, 3) := by decide +kernel
theorem dX11_copy_104 : decode cX11_copy 104 = .ok (.ifCond .ne 9, 3) := by decide +kernel
theorem dX11_copy_107 : decode cX11_copy 107 = .ok (.aload_n 0, 1) := by decide +kernel
theorem dX11_copy_108 : decode cX11_copy 108 = .ok (.iconst 2, 1) := by decide +kernel
theorem dX11_copy_109 : decode cX11_copy 109 = .ok (.invokevirtual 177, 3) := by decide +kernel
theorem dX11_copy_112 : decode cX11_copy 112 = .ok (.ireturn, 1) := by decide +kernel
theorem dX11_copy_113 : decode cX11_copy 113 = .ok (.aload_n 0, 1) := by decide +kernel
theorem dX11_copy_114 : decode cX11_copy 114 = .ok (.getfield 17, 3) := by decide +kernel
theorem dX11_copy_117 : decode cX11_copy 117 = .ok (.iload_n 1, 1) := by decide +kernel
theorem dX11_copy_118 : decode cX11_copy 118 = .ok (.aaload, 1) := by decide +kernel
theorem dX11_copy_119 : decode cX11_copy 119 = .ok (.getfield 199, 3) := by decide +kernel
theorem dX11_copy_122 : decode cX11_copy 122 = .ok (.iload_n 2, 1) := by decide +kernel
theorem dX11_copy_123 : decode cX11_copy 123 = .ok (.aload_n 0, 1) := by decide +kernel
theorem dX11_copy_124 : decode cX11_copy 124 = .ok (.getfield 17, 3) := by decide +kernel
theorem dX11_copy_127 : decode cX11_copy 127 = .ok (.iload_n 3, 1) := by decide +kernel
theorem dX11_copy_128 : decode cX11_copy 128 = .ok (.aaload, 1) := by decide +kernel
theorem dX11_copy_129 : decode cX11_copy 129 = .ok (.getfield 199, 3) := by decide +kernel
theorem dX11_copy_132 : decode cX11_copy 132 = .ok (.iload 4, 2) := by decide +kernel
theorem dX11_copy_134 : decode cX11_copy 134 = .ok (.iload 5, 2) := by decide +kernel
theorem dX11_copy_136 : decode cX11_copy 136 = .ok (.invokestatic 208, 3) := by decide +kernel
theorem dX11_copy_139 : decode cX11_copy 139 = .ok (.iconst 1, 1) := by decide +kernel
theorem dX11_copy_140 : decode cX11_copy 140 = .ok (.ireturn, 1) := by decide +kernel
theorem dX11_write_0 : decode cX11_write 0 = .ok (.iload_n 1, 1) := by decide +kernel
theorem dX11_write_1 : decode cX11_write 1 = .ok (.invokestatic 109, 3) := by decide +kernel
theorem dX11_write_4 : decode cX11_write 4 = .ok (.ifCond .eq 11, 3) := by decide +kernel
theorem dX11_write_7 : decode cX11_write 7 = .ok (.iload_n 2, 1) := by decide +kernel
theorem dX11_write_8 : decode cX11_write 8 = .ok (.iconst 4, 1) := by decide +kernel
theorem dX11_write_9 : decode cX11_write 9 = .ok (.invokestatic 61, 3) := by decide +kernel
theorem dX11_write_12 : decode cX11_write 12 = .ok (.ifCond .ne 6, 3) := by decide +kernel
theorem dX11_write_15 : decode cX11_write 15 = .ok (.bipush (-2), 2) := by decide +kernel
theorem dX11_write_17 : decode cX11_write 17 = .ok (.ireturn, 1) := by decide +kernel
theorem dX11_write_18 : decode cX11_write 18 = .ok (.aload_n 0, 1) := by decide +kernel
theorem dX11_write_19 : decode cX11_write 19 = .ok (.getfield 17, 3) := by decide +kernel
theorem dX11_write_22 : decode cX11_write 22 = .ok (.iload_n 2, 1) := by decide +kernel
theorem dX11_write_23 : decode cX11_write 23 = .ok (.aaload, 1) := by decide +kernel
theorem dX11_write_24 : decode cX11_write 24 = .ok (.invokevirtual 184, 3) := by decide +kernel
theorem dX11_write_27 : decode cX11_write 27 = .ok (.ifCond .eq 9, 3) := by decide +kernel
theorem dX11_write_30 : decode cX11_write 30 = .ok (.aload_n 0, 1) := by decide +kernel
theorem dX11_write_31 : decode cX11_write 31 = .ok (.iconst 1, 1) := by decide +kernel
theorem dX11_write_32 : decode cX11_write 32 = .ok (.invokevirtual 177, 3) := by decide +kernel
theorem dX11_write_35 : decode cX11_write 35 = .ok (.ireturn, 1) := by decide +kernel
theorem dX11_write_36 : decode cX11_write 36 = .ok (.aload_n 0, 1) := by decide +kernel
theorem dX11_write_37 : decode cX11_write 37 = .ok (.invokevirtual 112, 3) := by decide +kernel
theorem dX11_write_40 : decode cX11_write 40 = .ok (.aload_n 0, 1) := by decide +kernel
theorem dX11_write_41 : decode cX11_write 41 = .ok (.iload_n 1, 1) := by decide +kernel
theorem dX11_write_42 : decode cX11_write 42 = .ok (.invokevirtual 115, 3) := by decide +kernel
theorem dX11_write_45 : decode cX11_write 45 = .ok (.getfield 119, 3) := by decide +kernel
theorem dX11_write_48 : decode cX11_write 48 = .ok (.astore_n 3, 1) := by decide +kernel
theorem dX11_write_49 : decode cX11_write 49 = .ok (.aload_n 3, 1) := by decide +kernel
theorem dX11_write_50 : decode cX11_write 50 = .ok (.getfield 123, 3) := by decide +kernel
theorem dX11_write_53 : decode cX11_write 53 = .ok (.iconst (-1), 1) := by decide +kernel
theorem dX11_write_54 : decode cX11_write 54 = .ok (.if_icmp .eq 6, 3) := by decide +kernel
theorem dX11_write_57 : decode cX11_write 57 = .ok (.bipush (-3), 2) := by decide +kernel
theorem dX11_write_59 : decode cX11_write 59 = .ok (.ireturn, 1) := by decide +kernel
theorem dX11_write_60 : decode cX11_write 60 = .ok (.aload_n 0, 1) := by decide +kernel
theorem dX11_write_61 : decode cX11_write 61 = .ok (.getfield 17, 3) := by decide +kernel
theorem dX11_write_64 : decode cX11_write 64 = .ok (.iload_n 2, 1) := by decide +kernel
theorem dX11_write_65 : decode cX11_write 65 = .ok (.aaload, 1) := by decide +kernel
theorem dX11_write_66 : decode cX11_write 66 = .ok (.getfield 188, 3) := by decide +kernel
theorem dX11_write_69 : decode cX11_write 69 = .ok (.aload_n 0, 1) := by decide +kernel
theorem dX11_write_70 : decode cX11_write 70 = .ok (.invokevirtual 128, 3) := by decide +kernel
theorem dX11_write_73 : decode cX11_write 73 = .ok (.invokestatic 214, 3) := by decide +kernel
theorem dX11_write_76 : decode cX11_write 76 = .ok (.istore 4, 2) := by decide +kernel
theorem dX11_write_78 : decode cX11_write 78 = .ok (.iconst 0, 1) := by decide +kernel
theorem dX11_write_79 : decode cX11_write 79 = .ok (.istore 5, 2) := by decide +kernel
theorem dX11_write_81 : decode cX11_write 81 = .ok (.iload 5, 2) := by decide +kernel
theorem dX11_write_83 : decode cX11_write 83 = .ok (.iload 4, 2) := by decide +kernel
theorem dX11_write_85 : decode cX11_write 85 = .ok (.if_icmp .ge 26, 3) := by decide +kernel
theorem dX11_write_88 : decode cX11_write 88 = .ok (.aload_n 0, 1) := by decide +kernel
theorem dX11_write_89 : decode cX11_write 89 = .ok (.getfield 17, 3) := by decide +kernel
theorem dX11_write_92 : decode cX11_write 92 = .ok (.iload_n 2, 1) := by decide +kernel
theorem dX11_write_93 : decode cX11_write 93 = .ok (.aaload, 1) := by decide +kernel
theorem dX11_write_94 : decode cX11_write 94 = .ok (.iload 5, 2) := by decide +kernel
theorem dX11_write_96 : decode cX11_write 96 = .ok (.aload_n 3, 1) := by decide +kernel
theorem dX11_write_97 : decode cX11_write 97 = .ok (.iload 5, 2) := by decide +kernel
theorem dX11_write_99 : decode cX11_write 99 = .ok (.invokevirtual 132, 3) := by decide +kernel
theorem dX11_write_102 : decode cX11_write 102 = .ok (.invokevirtual 195, 3) := by decide +kernel
theorem dX11_write_105 : decode cX11_write 105 = .ok (.iinc 5 1, 3) := by decide +kernel
theorem dX11_write_108 : decode cX11_write 108 = .ok (.goto (-27), 3) := by decide +kernel
theorem dX11_write_111 : decode cX11_write 111 = .ok (.iload 4, 2) := by decide +kernel
theorem dX11_write_113 : decode cX11_write 113 = .ok (.ireturn, 1) := by decide +kernel
theorem dX11_read_0 : decode cX11_read 0 = .ok (.iload_n 1, 1) := by decide +kernel
theorem dX11_read_1 : decode cX11_read 1 = .ok (.iconst 3, 1) := by decide +kernel
theorem dX11_read_2 : decode cX11_read 2 = .ok (.invokestatic 61, 3) := by decide +kernel
theorem dX11_read_5 : decode cX11_read 5 = .ok (.ifCond .eq 11, 3) := by decide +kernel
theorem dX11_read_8 : decode cX11_read 8 = .ok (.iload_n 2, 1) := by decide +kernel
theorem dX11_read_9 : decode cX11_read 9 = .ok (.iconst 4, 1) := by decide +kernel
theorem dX11_read_10 : decode cX11_read 10 = .ok (.invokestatic 61, 3) := by decide +kernel
theorem dX11_read_13 : decode cX11_read 13 = .ok (.ifCond .ne 6, 3) := by decide +kernel
theorem dX11_read_16 : decode cX11_read 16 = .ok (.bipush (-2), 2) := by decide +kernel
theorem dX11_read_18 : decode cX11_read 18 = .ok (.ireturn, 1) := by decide +kernel
theorem dX11_read_19 : decode cX11_read 19 = .ok (.aload_n 0, 1) := by decide +kernel
theorem dX11_read_20 : decode cX11_read 20 = .ok (.getfield 17, 3) := by decide +kernel
theorem dX11_read_23 : decode cX11_read 23 = .ok (.iload_n 2, 1) := by decide +kernel
theorem dX11_read_24 : decode cX11_read 24 = .ok (.aaload, 1) := by decide +kernel
theorem dX11_read_25 : decode cX11_read 25 = .ok (.invokevirtual 184, 3) := by decide +kernel
theorem dX11_read_28 : decode cX11_read 28 = .ok (.ifCond .eq 9, 3) := by decide +kernel
theorem dX11_read_31 : decode cX11_read 31 = .ok (.aload_n 0, 1) := by decide +kernel
theorem dX11_read_32 : decode cX11_read 32 = .ok (.iconst 1, 1) := by decide +kernel
theorem dX11_read_33 : decode cX11_read 33 = .ok (.invokevirtual 177, 3) := by decide +kernel
theorem dX11_read_36 : decode cX11_read 36 = .ok (.ireturn, 1) := by decide +kernel
theorem dX11_read_37 : decode cX11_read 37 = .ok (.aload_n 0, 1) := by decide +kernel
theorem dX11_read_38 : decode cX11_read 38 = .ok (.getfield 11, 3) := by decide +kernel
theorem dX11_read_41 : decode cX11_read 41 = .ok (.iload_n 1, 1) := by decide +kernel
theorem dX11_read_42 : decode cX11_read 42 = .ok (.aaload, 1) := by decide +kernel
theorem dX11_read_43 : decode cX11_read 43 = .ok (.aload_n 0, 1) := by decide +kernel
theorem dX11_read_44 : decode cX11_read 44 = .ok (.getfield 17, 3) := by decide +kernel
theorem dX11_read_47 : decode cX11_read 47 = .ok (.iload_n 2, 1) := by decide +kernel
theorem dX11_read_48 : decode cX11_read 48 = .ok (.aaload, 1) := by decide +kernel
theorem dX11_read_49 : decode cX11_read 49 = .ok (.invokevirtual 219, 3) := by decide +kernel
theorem dX11_read_52 : decode cX11_read 52 = .ok (.istore_n 3, 1) := by decide +kernel
theorem dX11_read_53 : decode cX11_read 53 = .ok (.aload_n 0, 1) := by decide +kernel
theorem dX11_read_54 : decode cX11_read 54 = .ok (.iload_n 1, 1) := by decide +kernel
theorem dX11_read_55 : decode cX11_read 55 = .ok (.invokevirtual 72, 3) := by decide +kernel
theorem dX11_read_58 : decode cX11_read 58 = .ok (.iload_n 3, 1) := by decide +kernel
theorem dX11_read_59 : decode cX11_read 59 = .ok (.ireturn, 1) := by decide +kernel
theorem dX11_count_0 : decode cX11_count 0 = .ok (.iload_n 1, 1) := by decide +kernel
theorem dX11_count_1 : decode cX11_count 1 = .ok (.bipush 8, 2) := by decide +kernel
theorem dX11_count_3 : decode cX11_count 3 = .ok (.if_icmp .ne 8, 3) := by decide +kernel
theorem dX11_count_6 : decode cX11_count 6 = .ok (.aload_n 0, 1) := by decide +kernel
theorem dX11_count_7 : decode cX11_count 7 = .ok (.getfield 32, 3) := by decide +kernel
theorem dX11_count_10 : decode cX11_count 10 = .ok (.ireturn, 1) := by decide +kernel
theorem dX11_count_11 : decode cX11_count 11 = .ok (.iload_n 1, 1) := by decide +kernel
theorem dX11_count_12 : decode cX11_count 12 = .ok (.bipush 8, 2) := by decide +kernel
theorem dX11_count_14 : decode cX11_count 14 = .ok (.invokestatic 61, 3) := by decide +kernel
theorem dX11_count_17 : decode cX11_count 17 = .ok (.ifCond .ne 6, 3) := by decide +kernel
theorem dX11_count_20 : decode cX11_count 20 = .ok (.bipush (-2), 2) := by decide +kernel
theorem dX11_count_22 : decode cX11_count 22 = .ok (.ireturn, 1) := by decide +kernel
theorem dX11_count_23 : decode cX11_count 23 = .ok (.aload_n 0, 1) := by decide +kernel
theorem dX11_count_24 : decode cX11_count 24 = .ok (.invokevirtual 112, 3) := by decide +kernel
theorem dX11_count_27 : decode cX11_count 27 = .ok (.aload_n 0, 1) := by decide +kernel
theorem dX11_count_28 : decode cX11_count 28 = .ok (.iload_n 1, 1) := by decide +kernel
theorem dX11_count_29 : decode cX11_count 29 = .ok (.invokevirtual 223, 3) := by decide +kernel
theorem dX11_count_32 : decode cX11_count 32 = .ok (.ireturn, 1) := by decide +kernel
theorem dX11_digest_0 : decode cX11_digest 0 = .ok (.aload_n 0, 1) := by decide +kernel
theorem dX11_digest_1 : decode cX11_digest 1 = .ok (.invokevirtual 112, 3) := by decide +kernel
theorem dX11_digest_4 : decode cX11_digest 4 = .ok (.ldc2_w 226, 3) := by decide +kernel
theorem dX11_digest_7 : decode cX11_digest 7 = .ok (.lstore_n 1, 1) := by decide +kernel
theorem dX11_digest_8 : decode cX11_digest 8 = .ok (.iconst 0, 1) := by decide +kernel
theorem dX11_digest_9 : decode cX11_digest 9 = .ok (.istore_n 3, 1) := by decide +kernel
theorem dX11_digest_10 : decode cX11_digest 10 = .ok (.iload_n 3, 1) := by decide +kernel
theorem dX11_digest_11 : decode cX11_digest 11 = .ok (.bipush 8, 2) := by decide +kernel
theorem dX11_digest_13 : decode cX11_digest 13 = .ok (.if_icmp .ge 19, 3) := by decide +kernel
theorem dX11_digest_16 : decode cX11_digest 16 = .ok (.lload_n 1, 1) := by decide +kernel
theorem dX11_digest_17 : decode cX11_digest 17 = .ok (.aload_n 0, 1) := by decide +kernel
theorem dX11_digest_18 : decode cX11_digest 18 = .ok (.iload_n 3, 1) := by decide +kernel
theorem dX11_digest_19 : decode cX11_digest 19 = .ok (.invokevirtual 223, 3) := by decide +kernel
theorem dX11_digest_22 : decode cX11_digest 22 = .ok (.invokestatic 228, 3) := by decide +kernel
theorem dX11_digest_25 : decode cX11_digest 25 = .ok (.lstore_n 1, 1) := by decide +kernel
theorem dX11_digest_26 : decode cX11_digest 26 = .ok (.iinc 3 1, 3) := by decide +kernel
theorem dX11_digest_29 : decode cX11_digest 29 = .ok (.goto (-19), 3) := by decide +kernel
theorem dX11_digest_32 : decode cX11_digest 32 = .ok (.aload_n 0, 1) := by decide +kernel
theorem dX11_digest_33 : decode cX11_digest 33 = .ok (.lload_n 1, 1) := by decide +kernel
theorem dX11_digest_34 : decode cX11_digest 34 = .ok (.invokevirtual 232, 3) := by decide +kernel
theorem dX11_digest_37 : decode cX11_digest 37 = .ok (.lstore_n 1, 1) := by decide +kernel
theorem dX11_digest_38 : decode cX11_digest 38 = .ok (.lload_n 1, 1) := by decide +kernel
theorem dX11_digest_39 : decode cX11_digest 39 = .ok (.aload_n 0, 1) := by decide +kernel
theorem dX11_digest_40 : decode cX11_digest 40 = .ok (.invokevirtual 236, 3) := by decide +kernel
theorem dX11_digest_43 : decode cX11_digest 43 = .ok (.invokestatic 228, 3) := by decide +kernel
theorem dX11_digest_46 : decode cX11_digest 46 = .ok (.lstore_n 1, 1) := by decide +kernel
theorem dX11_digest_47 : decode cX11_digest 47 = .ok (.lload_n 1, 1) := by decide +kernel
theorem dX11_digest_48 : decode cX11_digest 48 = .ok (.aload_n 0, 1) := by decide +kernel
theorem dX11_digest_49 : decode cX11_digest 49 = .ok (.getfield 55, 3) := by decide +kernel
theorem dX11_digest_52 : decode cX11_digest 52 = .ok (.getfield 149, 3) := by decide +kernel
theorem dX11_digest_55 : decode cX11_digest 55 = .ok (.getfield 153, 3) := by decide +kernel
theorem dX11_digest_58 : decode cX11_digest 58 = .ok (.invokestatic 228, 3) := by decide +kernel
theorem dX11_digest_61 : decode cX11_digest 61 = .ok (.lstore_n 1, 1) := by decide +kernel
theorem dX11_digest_62 : decode cX11_digest 62 = .ok (.lload_n 1, 1) := by decide +kernel
theorem dX11_digest_63 : decode cX11_digest 63 = .ok (.aload_n 0, 1) := by decide +kernel
theorem dX11_digest_64 : decode cX11_digest 64 = .ok (.invokevirtual 136, 3) := by decide +kernel
theorem dX11_digest_67 : decode cX11_digest 67 = .ok (.invokestatic 228, 3) := by decide +kernel
theorem dX11_digest_70 : decode cX11_digest 70 = .ok (.lstore_n 1, 1) := by decide +kernel
theorem dX11_digest_71 : decode cX11_digest 71 = .ok (.lload_n 1, 1) := by decide +kernel
theorem dX11_digest_72 : decode cX11_digest 72 = .ok (.aload_n 0, 1) := by decide +kernel
theorem dX11_digest_73 : decode cX11_digest 73 = .ok (.getfield 51, 3) := by decide +kernel
theorem dX11_digest_76 : decode cX11_digest 76 = .ok (.getfield 119, 3) := by decide +kernel
theorem dX11_digest_79 : decode cX11_digest 79 = .ok (.aload_n 0, 1) := by decide +kernel
theorem dX11_digest_80 : decode cX11_digest 80 = .ok (.getfield 28, 3) := by decide +kernel
theorem dX11_digest_83 : decode cX11_digest 83 = .ok (.aload_n 0, 1) := by decide +kernel
theorem dX11_digest_84 : decode cX11_digest 84 = .ok (.invokevirtual 128, 3) := by decide +kernel
theorem dX11_digest_87 : decode cX11_digest 87 = .ok (.invokevirtual 139, 3) := by decide +kernel
theorem dX11_digest_90 : decode cX11_digest 90 = .ok (.invokestatic 228, 3) := by decide +kernel
theorem dX11_digest_93 : decode cX11_digest 93 = .ok (.lstore_n 1, 1) := by decide +kernel
theorem dX11_digest_94 : decode cX11_digest 94 = .ok (.lload_n 1, 1) := by decide +kernel
theorem dX11_digest_95 : decode cX11_digest 95 = .ok (.aload_n 0, 1) := by decide +kernel
theorem dX11_digest_96 : decode cX11_digest 96 = .ok (.invokevirtual 174, 3) := by decide +kernel
theorem dX11_digest_99 : decode cX11_digest 99 = .ok (.invokestatic 228, 3) := by decide +kernel
theorem dX11_digest_102 : decode cX11_digest 102 = .ok (.lstore_n 1, 1) := by decide +kernel
theorem dX11_digest_103 : decode cX11_digest 103 = .ok (.aload_n 0, 1) := by decide +kernel
theorem dX11_digest_104 : decode cX11_digest 104 = .ok (.lload_n 1, 1) := by decide +kernel
theorem dX11_digest_105 : decode cX11_digest 105 = .ok (.aload_n 0, 1) := by decide +kernel
theorem dX11_digest_106 : decode cX11_digest 106 = .ok (.getfield 51, 3) := by decide +kernel
theorem dX11_digest_109 : decode cX11_digest 109 = .ok (.getfield 119, 3) := by decide +kernel
theorem dX11_digest_112 : decode cX11_digest 112 = .ok (.invokevirtual 239, 3) := by decide +kernel
theorem dX11_digest_115 : decode cX11_digest 115 = .ok (.lstore_n 1, 1) := by decide +kernel
theorem dX11_digest_116 : decode cX11_digest 116 = .ok (.aload_n 0, 1) := by decide +kernel
theorem dX11_digest_117 : decode cX11_digest 117 = .ok (.lload_n 1, 1) := by decide +kernel
theorem dX11_digest_118 : decode cX11_digest 118 = .ok (.aload_n 0, 1) := by decide +kernel
theorem dX11_digest_119 : decode cX11_digest 119 = .ok (.getfield 55, 3) := by decide +kernel
theorem dX11_digest_122 : decode cX11_digest 122 = .ok (.getfield 119, 3) := by decide +kernel
theorem dX11_digest_125 : decode cX11_digest 125 = .ok (.invokevirtual 239, 3) := by decide +kernel
theorem dX11_digest_128 : decode cX11_digest 128 = .ok (.lstore_n 1, 1) := by decide +kernel
theorem dX11_digest_129 : decode cX11_digest 129 = .ok (.iconst 0, 1) := by decide +kernel
theorem dX11_digest_130 : decode cX11_digest 130 = .ok (.istore_n 3, 1) := by decide +kernel
theorem dX11_digest_131 : decode cX11_digest 131 = .ok (.iload_n 3, 1) := by decide +kernel
theorem dX11_digest_132 : decode cX11_digest 132 = .ok (.bipush 10, 2) := by decide +kernel
theorem dX11_digest_134 : decode cX11_digest 134 = .ok (.if_icmp .ge 31, 3) := by decide +kernel
theorem dX11_digest_137 : decode cX11_digest 137 = .ok (.lload_n 1, 1) := by decide +kernel
theorem dX11_digest_138 : decode cX11_digest 138 = .ok (.aload_n 0, 1) := by decide +kernel
theorem dX11_digest_139 : decode cX11_digest 139 = .ok (.iload_n 3, 1) := by decide +kernel
theorem dX11_digest_140 : decode cX11_digest 140 = .ok (.iconst 0, 1) := by decide +kernel
theorem dX11_digest_141 : decode cX11_digest 141 = .ok (.invokevirtual 156, 3) := by decide +kernel
theorem dX11_digest_144 : decode cX11_digest 144 = .ok (.invokestatic 228, 3) := by decide +kernel
theorem dX11_digest_147 : decode cX11_digest 147 = .ok (.lstore_n 1, 1) := by decide +kernel
theorem dX11_digest_148 : decode cX11_digest 148 = .ok (.lload_n 1, 1) := by decide +kernel
theorem dX11_digest_149 : decode cX11_digest 149 = .ok (.aload_n 0, 1) := by decide +kernel
theorem dX11_digest_150 : decode cX11_digest 150 = .ok (.iload_n 3, 1) := by decide +kernel
theorem dX11_digest_151 : decode cX11_digest 151 = .ok (.iconst 1, 1) := by decide +kernel
theorem dX11_digest_152 : decode cX11_digest 152 = .ok (.invokevirtual 156, 3) := by decide +kernel
theorem dX11_digest_155 : decode cX11_digest 155 = .ok (.invokestatic 228, 3) := by decide +kernel
theorem dX11_digest_158 : decode cX11_digest 158 = .ok (.lstore_n 1, 1) := by decide +kernel
theorem dX11_digest_159 : decode cX11_digest 159 = .ok (.iinc 3 1, 3) := by decide +kernel
theorem dX11_digest_162 : decode cX11_digest 162 = .ok (.goto (-31), 3) := by decide +kernel
theorem dX11_digest_165 : decode cX11_digest 165 = .ok (.aload_n 0, 1) := by decide +kernel
theorem dX11_digest_166 : decode cX11_digest 166 = .ok (.lload_n 1, 1) := by decide +kernel
theorem dX11_digest_167 : decode cX11_digest 167 = .ok (.invokevirtual 243, 3) := by decide +kernel
theorem dX11_digest_170 : decode cX11_digest 170 = .ok (.lreturn, 1) := by decide +kernel
theorem dX11_within_0 : decode cX11_within 0 = .ok (.iload_n 0, 1) := by decide +kernel
theorem dX11_within_1 : decode cX11_within 1 = .ok (.ifCond .lt 12, 3) := by decide +kernel
theorem dX11_within_4 : decode cX11_within 4 = .ok (.iload_n 0, 1) := by decide +kernel
theorem dX11_within_5 : decode cX11_within 5 = .ok (.iload_n 1, 1) := by decide +kernel
theorem dX11_within_6 : decode cX11_within 6 = .ok (.if_icmp .ge 7, 3) := by decide +kernel
theorem dX11_within_9 : decode cX11_within 9 = .ok (.iconst 1, 1) := by decide +kernel
theorem dX11_within_10 : decode cX11_within 10 = .ok (.goto 4, 3) := by decide +kernel
theorem dX11_within_13 : decode cX11_within 13 = .ok (.iconst 0, 1) := by decide +kernel
theorem dX11_within_14 : decode cX11_within 14 = .ok (.ireturn, 1) := by decide +kernel
theorem dX11_isByte_0 : decode cX11_isByte 0 = .ok (.iload_n 0, 1) := by decide +kernel
theorem dX11_isByte_1 : decode cX11_isByte 1 = .ok (.ifCond .lt 14, 3) := by decide +kernel
theorem dX11_isByte_4 : decode cX11_isByte 4 = .ok (.iload_n 0, 1) := by decide +kernel
theorem dX11_isByte_5 : decode cX11_isByte 5 = .ok (.sipush 255, 3) := by decide +kernel
theorem dX11_isByte_8 : decode cX11_isByte 8 = .ok (.if_icmp .gt 7, 3) := by decide +kernel
theorem dX11_isByte_11 : decode cX11_isByte 11 = .ok (.iconst 1, 1) := by decide +kernel
theorem dX11_isByte_12 : decode cX11_isByte 12 = .ok (.goto 4, 3) := by decide +kernel
theorem dX11_isByte_15 : decode cX11_isByte 15 = .ok (.iconst 0, 1) := by decide +kernel
theorem dX11_isByte_16 : decode cX11_isByte 16 = .ok (.ireturn, 1) := by decide +kernel
theorem dX11_isPlan_0 : decode cX11_isPlan 0 = .ok (.iload_n 0, 1) := by decide +kernel
theorem dX11_isPlan_1 : decode cX11_isPlan 1 = .ok (.ifCond .eq 8, 3) := by decide +kernel
theorem dX11_isPlan_4 : decode cX11_isPlan 4 = .ok (.iload_n 0, 1) := by decide +kernel
theorem dX11_isPlan_5 : decode cX11_isPlan 5 = .ok (.iconst 1, 1) := by decide +kernel
theorem dX11_isPlan_6 : decode cX11_isPlan 6 = .ok (.if_icmp .ne 7, 3) := by decide +kernel
theorem dX11_isPlan_9 : decode cX11_isPlan 9 = .ok (.iconst 1, 1) := by decide +kernel
theorem dX11_isPlan_10 : decode cX11_isPlan 10 = .ok (.goto 4, 3) := by decide +kernel
theorem dX11_isPlan_13 : decode cX11_isPlan 13 = .ok (.iconst 0, 1) := by decide +kernel
theorem dX11_isPlan_14 : decode cX11_isPlan 14 = .ok (.ireturn, 1) := by decide +kernel
theorem dX11_runOf_0 : decode cX11_runOf 0 = .ok (.iload_n 1, 1) := by decide +kernel
theorem dX11_runOf_1 : decode cX11_runOf 1 = .ok (.ifCond .ne 10, 3) := by decide +kernel
theorem dX11_runOf_4 : decode cX11_runOf 4 = .ok (.aload_n 0, 1) := by decide +kernel
theorem dX11_runOf_5 : decode cX11_runOf 5 = .ok (.getfield 51, 3) := by decide +kernel
theorem dX11_runOf_8 : decode cX11_runOf 8 = .ok (.goto 7, 3) := by decide +kernel
theorem dX11_runOf_11 : decode cX11_runOf 11 = .ok (.aload_n 0, 1) := by decide +kernel
theorem dX11_runOf_12 : decode cX11_runOf 12 = .ok (.getfield 55, 3) := by decide +kernel
theorem dX11_runOf_15 : decode cX11_runOf 15 = .ok (.areturn, 1) := by decide +kernel
theorem dX11_tableOf_0 : decode cX11_tableOf 0 = .ok (.iload_n 1, 1) := by decide +kernel
theorem dX11_tableOf_1 : decode cX11_tableOf 1 = .ok (.ifCond .ne 13, 3) := by decide +kernel
theorem dX11_tableOf_4 : decode cX11_tableOf 4 = .ok (.aload_n 0, 1) := by decide +kernel
theorem dX11_tableOf_5 : decode cX11_tableOf 5 = .ok (.getfield 24, 3) := by decide +kernel
theorem dX11_tableOf_8 : decode cX11_tableOf 8 = .ok (.getfield 246, 3) := by decide +kernel
theorem dX11_tableOf_11 : decode cX11_tableOf 11 = .ok (.goto 10, 3) := by decide +kernel
theorem dX11_tableOf_14 : decode cX11_tableOf 14 = .ok (.aload_n 0, 1) := by decide +kernel
theorem dX11_tableOf_15 : decode cX11_tableOf 15 = .ok (.getfield 24, 3) := by decide +kernel
theorem dX11_tableOf_18 : decode cX11_tableOf 18 = .ok (.getfield 250, 3) := by decide +kernel
theorem dX11_tableOf_21 : decode cX11_tableOf 21 = .ok (.areturn, 1) := by decide +kernel
theorem dX11_hosts_0 : decode cX11_hosts 0 = .ok (.aload_n 0, 1) := by decide +kernel
theorem dX11_hosts_1 : decode cX11_hosts 1 = .ok (.getfield 24, 3) := by decide +kernel
theorem dX11_hosts_4 : decode cX11_hosts 4 = .ok (.getfield 246, 3) := by decide +kernel
theorem dX11_hosts_7 : decode cX11_hosts 7 = .ok (.getfield 94, 3) := by decide +kernel
theorem dX11_hosts_10 : decode cX11_hosts 10 = .ok (.ireturn, 1) := by decide +kernel
theorem dX11_found_0 : decode cX11_found 0 = .ok (.aload_n 0, 1) := by decide +kernel
theorem dX11_found_1 : decode cX11_found 1 = .ok (.iload_n 1, 1) := by decide +kernel
theorem dX11_found_2 : decode cX11_found 2 = .ok (.putfield 32, 3) := by decide +kernel
theorem dX11_found_5 : decode cX11_found 5 = .ok (.bipush (-10), 2) := by decide +kernel
theorem dX11_found_7 : decode cX11_found 7 = .ok (.iload_n 1, 1) := by decide +kernel
theorem dX11_found_8 : decode cX11_found 8 = .ok (.isub, 1) := by decide +kernel
theorem dX11_found_9 : decode cX11_found 9 = .ok (.ireturn, 1) := by decide +kernel
theorem dX11_understand_0 : decode cX11_understand 0 = .ok (.iload_n 1, 1) := by decide +kernel
theorem dX11_understand_1 : decode cX11_understand 1 = .ok (.iconst 2, 1) := by decide +kernel
theorem dX11_understand_2 : decode cX11_understand 2 = .ok (.if_icmp .ne 22, 3) := by decide +kernel
theorem dX11_understand_5 : decode cX11_understand 5 = .ok (.aload_n 0, 1) := by decide +kernel
theorem dX11_understand_6 : decode cX11_understand 6 = .ok (.getfield 24, 3) := by decide +kernel
theorem dX11_understand_9 : decode cX11_understand 9 = .ok (.getfield 78, 3) := by decide +kernel
theorem dX11_understand_12 : decode cX11_understand 12 = .ok (.aload_n 0, 1) := by decide +kernel
theorem dX11_understand_13 : decode cX11_understand 13 = .ok (.getfield 11, 3) := by decide +kernel
theorem dX11_understand_16 : decode cX11_understand 16 = .ok (.iload_n 1, 1) := by decide +kernel
theorem dX11_understand_17 : decode cX11_understand 17 = .ok (.aaload, 1) := by decide +kernel
theorem dX11_understand_18 : decode cX11_understand 18 = .ok (.invokevirtual 253, 3) := by decide +kernel
theorem dX11_understand_21 : decode cX11_understand 21 = .ok (.goto 17, 3) := by decide +kernel
theorem dX11_understand_24 : decode cX11_understand 24 = .ok (.aload_n 0, 1) := by decide +kernel
theorem dX11_understand_25 : decode cX11_understand 25 = .ok (.iload_n 1, 1) := by decide +kernel
theorem dX11_understand_26 : decode cX11_understand 26 = .ok (.invokevirtual 87, 3) := by decide +kernel
theorem dX11_understand_29 : decode cX11_understand 29 = .ok (.aload_n 0, 1) := by decide +kernel
theorem dX11_understand_30 : decode cX11_understand 30 = .ok (.getfield 11, 3) := by decide +kernel
theorem dX11_understand_33 : decode cX11_understand 33 = .ok (.iload_n 1, 1) := by decide +kernel
theorem dX11_understand_34 : decode cX11_understand 34 = .ok (.aaload, 1) := by decide +kernel
theorem dX11_understand_35 : decode cX11_understand 35 = .ok (.invokevirtual 257, 3) := by decide +kernel
theorem dX11_understand_38 : decode cX11_understand 38 = .ok (.aload_n 0, 1) := by decide +kernel
theorem dX11_understand_39 : decode cX11_understand 39 = .ok (.iconst 1, 1) := by decide +kernel
theorem dX11_understand_40 : decode cX11_understand 40 = .ok (.putfield 35, 3) := by decide +kernel
theorem dX11_understand_43 : decode cX11_understand 43 = .ok (.return_, 1) := by decide +kernel
theorem dX11_refresh_0 : decode cX11_refresh 0 = .ok (.aload_n 0, 1) := by decide +kernel
theorem dX11_refresh_1 : decode cX11_refresh 1 = .ok (.getfield 35, 3) := by decide +kernel
theorem dX11_refresh_4 : decode cX11_refresh 4 = .ok (.ifCond .eq 39, 3) := by decide +kernel
theorem dX11_refresh_7 : decode cX11_refresh 7 = .ok (.aload_n 0, 1) := by decide +kernel
theorem dX11_refresh_8 : decode cX11_refresh 8 = .ok (.getfield 51, 3) := by decide +kernel
theorem dX11_refresh_11 : decode cX11_refresh 11 = .ok (.aload_n 0, 1) := by decide +kernel
theorem dX11_refresh_12 : decode cX11_refresh 12 = .ok (.getfield 24, 3) := by decide +kernel
theorem dX11_refresh_15 : decode cX11_refresh 15 = .ok (.aload_n 0, 1) := by decide +kernel
theorem dX11_refresh_16 : decode cX11_refresh 16 = .ok (.getfield 28, 3) := by decide +kernel
theorem dX11_refresh_19 : decode cX11_refresh 19 = .ok (.iconst (-1), 1) := by decide +kernel
theorem dX11_refresh_20 : decode cX11_refresh 20 = .ok (.invokevirtual 258, 3) := by decide +kernel
theorem dX11_refresh_23 : decode cX11_refresh 23 = .ok (.aload_n 0, 1) := by decide +kernel
theorem dX11_refresh_24 : decode cX11_refresh 24 = .ok (.getfield 55, 3) := by decide +kernel
theorem dX11_refresh_27 : decode cX11_refresh 27 = .ok (.aload_n 0, 1) := by decide +kernel
theorem dX11_refresh_28 : decode cX11_refresh 28 = .ok (.getfield 24, 3) := by decide +kernel
theorem dX11_refresh_31 : decode cX11_refresh 31 = .ok (.aload_n 0, 1) := by decide +kernel
theorem dX11_refresh_32 : decode cX11_refresh 32 = .ok (.getfield 28, 3) := by decide +kernel
theorem dX11_refresh_35 : decode cX11_refresh 35 = .ok (.invokevirtual 262, 3) := by decide +kernel
theorem dX11_refresh_38 : decode cX11_refresh 38 = .ok (.aload_n 0, 1) := by decide +kernel
theorem dX11_refresh_39 : decode cX11_refresh 39 = .ok (.iconst 0, 1) := by decide +kernel
theorem dX11_refresh_40 : decode cX11_refresh 40 = .ok (.putfield 35, 3) := by decide +kernel
theorem dX11_refresh_43 : decode cX11_refresh 43 = .ok (.return_, 1) := by decide +kernel
theorem dX11_sameBit_0 : decode cX11_sameBit 0 = .ok (.aload_n 0, 1) := by decide +kernel
theorem dX11_sameBit_1 : decode cX11_sameBit 1 = .ok (.getfield 51, 3) := by decide +kernel
theorem dX11_sameBit_4 : decode cX11_sameBit 4 = .ok (.getfield 119, 3) := by decide +kernel
theorem dX11_sameBit_7 : decode cX11_sameBit 7 = .ok (.aload_n 0, 1) := by decide +kernel
theorem dX11_sameBit_8 : decode cX11_sameBit 8 = .ok (.getfield 55, 3) := by decide +kernel
theorem dX11_sameBit_11 : decode cX11_sameBit 11 = .ok (.getfield 119, 3) := by decide +kernel
theorem dX11_sameBit_14 : decode cX11_sameBit 14 = .ok (.aload_n 0, 1) := by decide +kernel
theorem dX11_sameBit_15 : decode cX11_sameBit 15 = .ok (.invokevirtual 128, 3) := by decide +kernel
theorem dX11_sameBit_18 : decode cX11_sameBit 18 = .ok (.invokevirtual 266, 3) := by decide +kernel
theorem dX11_sameBit_21 : decode cX11_sameBit 21 = .ok (.ifCond .eq 7, 3) := by decide +kernel
theorem dX11_sameBit_24 : decode cX11_sameBit 24 = .ok (.iconst 1, 1) := by decide +kernel
theorem dX11_sameBit_25 : decode cX11_sameBit 25 = .ok (.goto 4, 3) := by decide +kernel
theorem dX11_sameBit_28 : decode cX11_sameBit 28 = .ok (.iconst 0, 1) := by decide +kernel
theorem dX11_sameBit_29 : decode cX11_sameBit 29 = .ok (.ireturn, 1) := by decide +kernel
theorem dX11_pairPart_0 : decode cX11_pairPart 0 = .ok (.iload_n 1, 1) := by decide +kernel
theorem dX11_pairPart_1 : decode cX11_pairPart 1 = .ok (.aload_n 0, 1) := by decide +kernel
theorem dX11_pairPart_2 : decode cX11_pairPart 2 = .ok (.getfield 55, 3) := by decide +kernel
theorem dX11_pairPart_5 : decode cX11_pairPart 5 = .ok (.getfield 149, 3) := by decide +kernel
theorem dX11_pairPart_8 : decode cX11_pairPart 8 = .ok (.getfield 153, 3) := by decide +kernel
theorem dX11_pairPart_11 : decode cX11_pairPart 11 = .ok (.invokestatic 61, 3) := by decide +kernel
theorem dX11_pairPart_14 : decode cX11_pairPart 14 = .ok (.ifCond .ne 6, 3) := by decide +kernel
theorem dX11_pairPart_17 : decode cX11_pairPart 17 = .ok (.bipush (-3), 2) := by decide +kernel
theorem dX11_pairPart_19 : decode cX11_pairPart 19 = .ok (.ireturn, 1) := by decide +kernel
theorem dX11_pairPart_20 : decode cX11_pairPart 20 = .ok (.iload_n 2, 1) := by decide +kernel
theorem dX11_pairPart_21 : decode cX11_pairPart 21 = .ok (.ifCond .ne 18, 3) := by decide +kernel
theorem dX11_pairPart_24 : decode cX11_pairPart 24 = .ok (.aload_n 0, 1) := by decide +kernel
theorem dX11_pairPart_25 : decode cX11_pairPart 25 = .ok (.getfield 55, 3) := by decide +kernel
theorem dX11_pairPart_28 : decode cX11_pairPart 28 = .ok (.getfield 149, 3) := by decide +kernel
theorem dX11_pairPart_31 : decode cX11_pairPart 31 = .ok (.getfield 270, 3) := by decide +kernel
theorem dX11_pairPart_34 : decode cX11_pairPart 34 = .ok (.iload_n 1, 1) := by decide +kernel
theorem dX11_pairPart_35 : decode cX11_pairPart 35 = .ok (.iaload, 1) := by decide +kernel
theorem dX11_pairPart_36 : decode cX11_pairPart 36 = .ok (.goto 15, 3) := by decide +kernel
theorem dX11_pairPart_39 : decode cX11_pairPart 39 = .ok (.aload_n 0, 1) := by decide +kernel
theorem dX11_pairPart_40 : decode cX11_pairPart 40 = .ok (.getfield 55, 3) := by decide +kernel
theorem dX11_pairPart_43 : decode cX11_pairPart 43 = .ok (.getfield 149, 3) := by decide +kernel
theorem dX11_pairPart_46 : decode cX11_pairPart 46 = .ok (.getfield 271, 3) := by decide +kernel
theorem dX11_pairPart_49 : decode cX11_pairPart 49 = .ok (.iload_n 1, 1) := by decide +kernel
theorem dX11_pairPart_50 : decode cX11_pairPart 50 = .ok (.iaload, 1) := by decide +kernel
theorem dX11_pairPart_51 : decode cX11_pairPart 51 = .ok (.ireturn, 1) := by decide +kernel
theorem dX11_spareBits_0 : decode cX11_spareBits 0 = .ok (.iconst 0, 1) := by decide +kernel
theorem dX11_spareBits_1 : decode cX11_spareBits 1 = .ok (.istore_n 1, 1) := by decide +kernel
theorem dX11_spareBits_2 : decode cX11_spareBits 2 = .ok (.iconst 0, 1) := by decide +kernel
theorem dX11_spareBits_3 : decode cX11_spareBits 3 = .ok (.istore_n 2, 1) := by decide +kernel
theorem dX11_spareBits_4 : decode cX11_spareBits 4 = .ok (.iload_n 2, 1) := by decide +kernel
theorem dX11_spareBits_5 : decode cX11_spareBits 5 = .ok (.aload_n 0, 1) := by decide +kernel
theorem dX11_spareBits_6 : decode cX11_spareBits 6 = .ok (.getfield 24, 3) := by decide +kernel
theorem dX11_spareBits_9 : decode cX11_spareBits 9 = .ok (.getfield 78, 3) := by decide +kernel
theorem dX11_spareBits_12 : decode cX11_spareBits 12 = .ok (.getfield 102, 3) := by decide +kernel
theorem dX11_spareBits_15 : decode cX11_spareBits 15 = .ok (.if_icmp .ge 55, 3) := by decide +kernel
theorem dX11_spareBits_18 : decode cX11_spareBits 18 = .ok (.aload_n 0, 1) := by decide +kernel
theorem dX11_spareBits_19 : decode cX11_spareBits 19 = .ok (.getfield 58, 3) := by decide +kernel
theorem dX11_spareBits_22 : decode cX11_spareBits 22 = .ok (.aload_n 0, 1) := by decide +kernel
theorem dX11_spareBits_23 : decode cX11_spareBits 23 = .ok (.getfield 24, 3) := by decide +kernel
theorem dX11_spareBits_26 : decode cX11_spareBits 26 = .ok (.aload_n 0, 1) := by decide +kernel
theorem dX11_spareBits_27 : decode cX11_spareBits 27 = .ok (.getfield 28, 3) := by decide +kernel
theorem dX11_spareBits_30 : decode cX11_spareBits 30 = .ok (.iload_n 2, 1) := by decide +kernel
theorem dX11_spareBits_31 : decode cX11_spareBits 31 = .ok (.invokevirtual 258, 3) := by decide +kernel
theorem dX11_spareBits_34 : decode cX11_spareBits 34 = .ok (.aload_n 0, 1) := by decide +kernel
theorem dX11_spareBits_35 : decode cX11_spareBits 35 = .ok (.getfield 58, 3) := by decide +kernel
theorem dX11_spareBits_38 : decode cX11_spareBits 38 = .ok (.getfield 119, 3) := by decide +kernel
theorem dX11_spareBits_41 : decode cX11_spareBits 41 = .ok (.aload_n 0, 1) := by decide +kernel
theorem dX11_spareBits_42 : decode cX11_spareBits 42 = .ok (.getfield 51, 3) := by decide +kernel
theorem dX11_spareBits_45 : decode cX11_spareBits 45 = .ok (.getfield 119, 3) := by decide +kernel
theorem dX11_spareBits_48 : decode cX11_spareBits 48 = .ok (.aload_n 0, 1) := by decide +kernel
theorem dX11_spareBits_49 : decode cX11_spareBits 49 = .ok (.invokevirtual 128, 3) := by decide +kernel
theorem dX11_spareBits_52 : decode cX11_spareBits 52 = .ok (.invokevirtual 266, 3) := by decide +kernel
theorem dX11_spareBits_55 : decode cX11_spareBits 55 = .ok (.ifCond .eq 9, 3) := by decide +kernel
theorem dX11_spareBits_58 : decode cX11_spareBits 58 = .ok (.iload_n 1, 1) := by decide +kernel
theorem dX11_spareBits_59 : decode cX11_spareBits 59 = .ok (.iconst 1, 1) := by decide +kernel
theorem dX11_spareBits_60 : decode cX11_spareBits 60 = .ok (.iload_n 2, 1) := by decide +kernel
theorem dX11_spareBits_61 : decode cX11_spareBits 61 = .ok (.ishl, 1) := by decide +kernel
theorem dX11_spareBits_62 : decode cX11_spareBits 62 = .ok (.ior, 1) := by decide +kernel
theorem dX11_spareBits_63 : decode cX11_spareBits 63 = .ok (.istore_n 1, 1) := by decide +kernel
theorem dX11_spareBits_64 : decode cX11_spareBits 64 = .ok (.iinc 2 1, 3) := by decide +kernel
theorem dX11_spareBits_67 : decode cX11_spareBits 67 = .ok (.goto (-63), 3) := by decide +kernel
theorem dX11_spareBits_70 : decode cX11_spareBits 70 = .ok (.iload_n 1, 1) := by decide +kernel
theorem dX11_spareBits_71 : decode cX11_spareBits 71 = .ok (.ireturn, 1) := by decide +kernel
theorem dX11_counted_0 : decode cX11_counted 0 = .ok (.iload_n 1, 1) := by decide +kernel
theorem dX11_counted_1 : decode cX11_counted 1 = .ok (.tableswitch 133 0 6 #[43, 54, 65, 76, 81, 111, 122], 43) := by decide +kernel
theorem dX11_counted_44 : decode cX11_counted 44 = .ok (.aload_n 0, 1) := by decide +kernel
theorem dX11_counted_45 : decode cX11_counted 45 = .ok (.getfield 24, 3) := by decide +kernel
theorem dX11_counted_48 : decode cX11_counted 48 = .ok (.getfield 246, 3) := by decide +kernel
theorem dX11_counted_51 : decode cX11_counted 51 = .ok (.getfield 94, 3) := by decide +kernel
theorem dX11_counted_54 : decode cX11_counted 54 = .ok (.ireturn, 1) := by decide +kernel
theorem dX11_counted_55 : decode cX11_counted 55 = .ok (.aload_n 0, 1) := by decide +kernel
theorem dX11_counted_56 : decode cX11_counted 56 = .ok (.getfield 24, 3) := by decide +kernel
theorem dX11_counted_59 : decode cX11_counted 59 = .ok (.getfield 250, 3) := by decide +kernel
theorem dX11_counted_62 : decode cX11_counted 62 = .ok (.getfield 94, 3) := by decide +kernel
theorem dX11_counted_65 : decode cX11_counted 65 = .ok (.ireturn, 1) := by decide +kernel
theorem dX11_counted_66 : decode cX11_counted 66 = .ok (.aload_n 0, 1) := by decide +kernel
theorem dX11_counted_67 : decode cX11_counted 67 = .ok (.getfield 24, 3) := by decide +kernel
theorem dX11_counted_70 : decode cX11_counted 70 = .ok (.getfield 78, 3) := by decide +kernel
theorem dX11_counted_73 : decode cX11_counted 73 = .ok (.getfield 102, 3) := by decide +kernel
theorem dX11_counted_76 : decode cX11_counted 76 = .ok (.ireturn, 1) := by decide +kernel
theorem dX11_counted_77 : decode cX11_counted 77 = .ok (.aload_n 0, 1) := by decide +kernel
theorem dX11_counted_78 : decode cX11_counted 78 = .ok (.getfield 28, 3) := by decide +kernel
theorem dX11_counted_81 : decode cX11_counted 81 = .ok (.ireturn, 1) := by decide +kernel
theorem dX11_counted_82 : decode cX11_counted 82 = .ok (.aload_n 0, 1) := by decide +kernel
theorem dX11_counted_83 : decode cX11_counted 83 = .ok (.getfield 11, 3) := by decide +kernel
theorem dX11_counted_86 : decode cX11_counted 86 = .ok (.iconst 0, 1) := by decide +kernel
theorem dX11_counted_87 : decode cX11_counted 87 = .ok (.aaload, 1) := by decide +kernel
theorem dX11_counted_88 : decode cX11_counted 88 = .ok (.getfield 75, 3) := by decide +kernel
theorem dX11_counted_91 : decode cX11_counted 91 = .ok (.aload_n 0, 1) := by decide +kernel
theorem dX11_counted_92 : decode cX11_counted 92 = .ok (.getfield 11, 3) := by decide +kernel
theorem dX11_counted_95 : decode cX11_counted 95 = .ok (.iconst 1, 1) := by decide +kernel
theorem dX11_counted_96 : decode cX11_counted 96 = .ok (.aaload, 1) := by decide +kernel
theorem dX11_counted_97 : decode cX11_counted 97 = .ok (.getfield 75, 3) := by decide +kernel
theorem dX11_counted_100 : decode cX11_counted 100 = .ok (.iadd, 1) := by decide +kernel
theorem dX11_counted_101 : decode cX11_counted 101 = .ok (.aload_n 0, 1) := by decide +kernel
theorem dX11_counted_102 : decode cX11_counted 102 = .ok (.getfield 11, 3) := by decide +kernel
theorem dX11_counted_105 : decode cX11_counted 105 = .ok (.iconst 2, 1) := by decide +kernel
theorem dX11_counted_106 : decode cX11_counted 106 = .ok (.aaload, 1) := by decide +kernel
theorem dX11_counted_107 : decode cX11_counted 107 = .ok (.getfield 75, 3) := by decide +kernel
theorem dX11_counted_110 : decode cX11_counted 110 = .ok (.iadd, 1) := by decide +kernel
theorem dX11_counted_111 : decode cX11_counted 111 = .ok (.ireturn, 1) := by decide +kernel
theorem dX11_counted_112 : decode cX11_counted 112 = .ok (.aload_n 0, 1) := by decide +kernel
theorem dX11_counted_113 : decode cX11_counted 113 = .ok (.getfield 55, 3) := by decide +kernel
theorem dX11_counted_116 : decode cX11_counted 116 = .ok (.getfield 149, 3) := by decide +kernel
theorem dX11_counted_119 : decode cX11_counted 119 = .ok (.getfield 153, 3) := by decide +kernel
theorem dX11_counted_122 : decode cX11_counted 122 = .ok (.ireturn, 1) := by decide +kernel
theorem dX11_counted_123 : decode cX11_counted 123 = .ok (.aload_n 0, 1) := by decide +kernel
theorem dX11_counted_124 : decode cX11_counted 124 = .ok (.getfield 55, 3) := by decide +kernel
theorem dX11_counted_127 : decode cX11_counted 127 = .ok (.getfield 159, 3) := by decide +kernel
theorem dX11_counted_130 : decode cX11_counted 130 = .ok (.getfield 272, 3) := by decide +kernel
theorem dX11_counted_133 : decode cX11_counted 133 = .ok (.ireturn, 1) := by decide +kernel
theorem dX11_counted_134 : decode cX11_counted 134 = .ok (.aload_n 0, 1) := by decide +kernel
theorem dX11_counted_135 : decode cX11_counted 135 = .ok (.getfield 51, 3) := by decide +kernel
theorem dX11_counted_138 : decode cX11_counted 138 = .ok (.getfield 119, 3) := by decide +kernel
theorem dX11_counted_141 : decode cX11_counted 141 = .ok (.getfield 273, 3) := by decide +kernel
theorem dX11_counted_144 : decode cX11_counted 144 = .ok (.ireturn, 1) := by decide +kernel
theorem dX11_mix_0 : decode cX11_mix 0 = .ok (.ldc2_w 276, 3) := by decide +kernel
theorem dX11_mix_3 : decode cX11_mix 3 = .ok (.lload_n 0, 1) := by decide +kernel
theorem dX11_mix_4 : decode cX11_mix 4 = .ok (.lmul, 1) := by decide +kernel
theorem dX11_mix_5 : decode cX11_mix 5 = .ok (.iload_n 2, 1) := by decide +kernel
theorem dX11_mix_6 : decode cX11_mix 6 = .ok (.i2l, 1) := by decide +kernel
theorem dX11_mix_7 : decode cX11_mix 7 = .ok (.ladd, 1) := by decide +kernel
theorem dX11_mix_8 : decode cX11_mix 8 = .ok (.lreturn, 1) := by decide +kernel
theorem dX11_mixTexts_0 : decode cX11_mixTexts 0 = .ok (.lload_n 1, 1) := by decide +kernel
theorem dX11_mixTexts_1 : decode cX11_mixTexts 1 = .ok (.lstore_n 3, 1) := by decide +kernel
theorem dX11_mixTexts_2 : decode cX11_mixTexts 2 = .ok (.iconst 0, 1) := by decide +kernel
theorem dX11_mixTexts_3 : decode cX11_mixTexts 3 = .ok (.istore 5, 2) := by decide +kernel
theorem dX11_mixTexts_5 : decode cX11_mixTexts 5 = .ok (.iload 5, 2) := by decide +kernel
theorem dX11_mixTexts_7 : decode cX11_mixTexts 7 = .ok (.iconst 3, 1) := by decide +kernel
theorem dX11_mixTexts_8 : decode cX11_mixTexts 8 = .ok (.if_icmp .ge 20, 3) := by decide +kernel
theorem dX11_mixTexts_11 : decode cX11_mixTexts 11 = .ok (.lload_n 3, 1) := by decide +kernel
theorem dX11_mixTexts_12 : decode cX11_mixTexts 12 = .ok (.aload_n 0, 1) := by decide +kernel
theorem dX11_mixTexts_13 : decode cX11_mixTexts 13 = .ok (.iload 5, 2) := by decide +kernel
theorem dX11_mixTexts_15 : decode cX11_mixTexts 15 = .ok (.invokevirtual 278, 3) := by decide +kernel
theorem dX11_mixTexts_18 : decode cX11_mixTexts 18 = .ok (.invokestatic 228, 3) := by decide +kernel
theorem dX11_mixTexts_21 : decode cX11_mixTexts 21 = .ok (.lstore_n 3, 1) := by decide +kernel
theorem dX11_mixTexts_22 : decode cX11_mixTexts 22 = .ok (.iinc 5 1, 3) := by decide +kernel
theorem dX11_mixTexts_25 : decode cX11_mixTexts 25 = .ok (.goto (-20), 3) := by decide +kernel
theorem dX11_mixTexts_28 : decode cX11_mixTexts 28 = .ok (.iconst 0, 1) := by decide +kernel
theorem dX11_mixTexts_29 : decode cX11_mixTexts 29 = .ok (.istore 5, 2) := by decide +kernel
theorem dX11_mixTexts_31 : decode cX11_mixTexts 31 = .ok (.iload 5, 2) := by decide +kernel
theorem dX11_mixTexts_33 : decode cX11_mixTexts 33 = .ok (.bipush 10, 2) := by decide +kernel
theorem dX11_mixTexts_35 : decode cX11_mixTexts 35 = .ok (.if_icmp .ge 57, 3) := by decide +kernel
theorem dX11_mixTexts_38 : decode cX11_mixTexts 38 = .ok (.lload_n 3, 1) := by decide +kernel
theorem dX11_mixTexts_39 : decode cX11_mixTexts 39 = .ok (.aload_n 0, 1) := by decide +kernel
theorem dX11_mixTexts_40 : decode cX11_mixTexts 40 = .ok (.iconst 0, 1) := by decide +kernel
theorem dX11_mixTexts_41 : decode cX11_mixTexts 41 = .ok (.iload 5, 2) := by decide +kernel
theorem dX11_mixTexts_43 : decode cX11_mixTexts 43 = .ok (.iconst 0, 1) := by decide +kernel
theorem dX11_mixTexts_44 : decode cX11_mixTexts 44 = .ok (.invokevirtual 280, 3) := by decide +kernel
theorem dX11_mixTexts_47 : decode cX11_mixTexts 47 = .ok (.invokestatic 228, 3) := by decide +kernel
theorem dX11_mixTexts_50 : decode cX11_mixTexts 50 = .ok (.aload_n 0, 1) := by decide +kernel
theorem dX11_mixTexts_51 : decode cX11_mixTexts 51 = .ok (.iconst 0, 1) := by decide +kernel
theorem dX11_mixTexts_52 : decode cX11_mixTexts 52 = .ok (.iload 5, 2) := by decide +kernel
theorem dX11_mixTexts_54 : decode cX11_mixTexts 54 = .ok (.iconst 1, 1) := by decide +kernel
theorem dX11_mixTexts_55 : decode cX11_mixTexts 55 = .ok (.invokevirtual 280, 3) := by decide +kernel
theorem dX11_mixTexts_58 : decode cX11_mixTexts 58 = .ok (.invokestatic 228, 3) := by decide +kernel
theorem dX11_mixTexts_61 : decode cX11_mixTexts 61 = .ok (.lstore_n 3, 1) := by decide +kernel
theorem dX11_mixTexts_62 : decode cX11_mixTexts 62 = .ok (.lload_n 3, 1) := by decide +kernel
theorem dX11_mixTexts_63 : decode cX11_mixTexts 63 = .ok (.aload_n 0, 1) := by decide +kernel
theorem dX11_mixTexts_64 : decode cX11_mixTexts 64 = .ok (.iconst 1, 1) := by decide +kernel
theorem dX11_mixTexts_65 : decode cX11_mixTexts 65 = .ok (.iload 5, 2) := by decide +kernel
theorem dX11_mixTexts_67 : decode cX11_mixTexts 67 = .ok (.iconst 0, 1) := by decide +kernel
theorem dX11_mixTexts_68 : decode cX11_mixTexts 68 = .ok (.invokevirtual 280, 3) := by decide +kernel
theorem dX11_mixTexts_71 : decode cX11_mixTexts 71 = .ok (.invokestatic 228, 3) := by decide +kernel
theorem dX11_mixTexts_74 : decode cX11_mixTexts 74 = .ok (.aload_n 0, 1) := by decide +kernel
theorem dX11_mixTexts_75 : decode cX11_mixTexts 75 = .ok (.iconst 1, 1) := by decide +kernel
theorem dX11_mixTexts_76 : decode cX11_mixTexts 76 = .ok (.iload 5, 2) := by decide +kernel
theorem dX11_mixTexts_78 : decode cX11_mixTexts 78 = .ok (.iconst 1, 1) := by decide +kernel
theorem dX11_mixTexts_79 : decode cX11_mixTexts 79 = .ok (.invokevirtual 280, 3) := by decide +kernel
theorem dX11_mixTexts_82 : decode cX11_mixTexts 82 = .ok (.invokestatic 228, 3) := by decide +kernel
theorem dX11_mixTexts_85 : decode cX11_mixTexts 85 = .ok (.lstore_n 3, 1) := by decide +kernel
theorem dX11_mixTexts_86 : decode cX11_mixTexts 86 = .ok (.iinc 5 1, 3) := by decide +kernel
theorem dX11_mixTexts_89 : decode cX11_mixTexts 89 = .ok (.goto (-58), 3) := by decide +kernel
theorem dX11_mixTexts_92 : decode cX11_mixTexts 92 = .ok (.iconst 0, 1) := by decide +kernel
theorem dX11_mixTexts_93 : decode cX11_mixTexts 93 = .ok (.istore 5, 2) := by decide +kernel
theorem dX11_mixTexts_95 : decode cX11_mixTexts 95 = .ok (.iload 5, 2) := by decide +kernel
theorem dX11_mixTexts_97 : decode cX11_mixTexts 97 = .ok (.bipush 12, 2) := by decide +kernel
theorem dX11_mixTexts_99 : decode cX11_mixTexts 99 = .ok (.if_icmp .ge 48, 3) := by decide +kernel
theorem dX11_mixTexts_102 : decode cX11_mixTexts 102 = .ok (.lload_n 3, 1) := by decide +kernel
theorem dX11_mixTexts_103 : decode cX11_mixTexts 103 = .ok (.aload_n 0, 1) := by decide +kernel
theorem dX11_mixTexts_104 : decode cX11_mixTexts 104 = .ok (.iload 5, 2) := by decide +kernel
theorem dX11_mixTexts_106 : decode cX11_mixTexts 106 = .ok (.iconst 0, 1) := by decide +kernel
theorem dX11_mixTexts_107 : decode cX11_mixTexts 107 = .ok (.invokevirtual 284, 3) := by decide +kernel
theorem dX11_mixTexts_110 : decode cX11_mixTexts 110 = .ok (.invokestatic 228, 3) := by decide +kernel
theorem dX11_mixTexts_113 : decode cX11_mixTexts 113 = .ok (.aload_n 0, 1) := by decide +kernel
theorem dX11_mixTexts_114 : decode cX11_mixTexts 114 = .ok (.iload 5, 2) := by decide +kernel
theorem dX11_mixTexts_116 : decode cX11_mixTexts 116 = .ok (.iconst 1, 1) := by decide +kernel
theorem dX11_mixTexts_117 : decode cX11_mixTexts 117 = .ok (.invokevirtual 284, 3) := by decide +kernel
theorem dX11_mixTexts_120 : decode cX11_mixTexts 120 = .ok (.invokestatic 228, 3) := by decide +kernel
theorem dX11_mixTexts_123 : decode cX11_mixTexts 123 = .ok (.lstore_n 3, 1) := by decide +kernel
theorem dX11_mixTexts_124 : decode cX11_mixTexts 124 = .ok (.lload_n 3, 1) := by decide +kernel
theorem dX11_mixTexts_125 : decode cX11_mixTexts 125 = .ok (.aload_n 0, 1) := by decide +kernel
theorem dX11_mixTexts_126 : decode cX11_mixTexts 126 = .ok (.getfield 55, 3) := by decide +kernel
theorem dX11_mixTexts_129 : decode cX11_mixTexts 129 = .ok (.getfield 159, 3) := by decide +kernel
theorem dX11_mixTexts_132 : decode cX11_mixTexts 132 = .ok (.iload 5, 2) := by decide +kernel
theorem dX11_mixTexts_134 : decode cX11_mixTexts 134 = .ok (.invokevirtual 163, 3) := by decide +kernel
theorem dX11_mixTexts_137 : decode cX11_mixTexts 137 = .ok (.invokestatic 228, 3) := by decide +kernel
theorem dX11_mixTexts_140 : decode cX11_mixTexts 140 = .ok (.lstore_n 3, 1) := by decide +kernel
theorem dX11_mixTexts_141 : decode cX11_mixTexts 141 = .ok (.iinc 5 1, 3) := by decide +kernel
theorem dX11_mixTexts_144 : decode cX11_mixTexts 144 = .ok (.goto (-49), 3) := by decide +kernel
theorem dX11_mixTexts_147 : decode cX11_mixTexts 147 = .ok (.lload_n 3, 1) := by decide +kernel
theorem dX11_mixTexts_148 : decode cX11_mixTexts 148 = .ok (.lreturn, 1) := by decide +kernel
theorem dX11_mixReport_0 : decode cX11_mixReport 0 = .ok (.aload_n 0, 1) := by decide +kernel
theorem dX11_mixReport_1 : decode cX11_mixReport 1 = .ok (.lload_n 1, 1) := by decide +kernel
theorem dX11_mixReport_2 : decode cX11_mixReport 2 = .ok (.aload_n 3, 1) := by decide +kernel
theorem dX11_mixReport_3 : decode cX11_mixReport 3 = .ok (.invokevirtual 287, 3) := by decide +kernel
theorem dX11_mixReport_6 : decode cX11_mixReport 6 = .ok (.lstore 4, 2) := by decide +kernel
theorem dX11_mixReport_8 : decode cX11_mixReport 8 = .ok (.iconst 0, 1) := by decide +kernel
theorem dX11_mixReport_9 : decode cX11_mixReport 9 = .ok (.istore 6, 2) := by decide +kernel
theorem dX11_mixReport_11 : decode cX11_mixReport 11 = .ok (.iload 6, 2) := by decide +kernel
theorem dX11_mixReport_13 : decode cX11_mixReport 13 = .ok (.iconst 5, 1) := by decide +kernel
theorem dX11_mixReport_14 : decode cX11_mixReport 14 = .ok (.if_icmp .ge 22, 3) := by decide +kernel
theorem dX11_mixReport_17 : decode cX11_mixReport 17 = .ok (.lload 4, 2) := by decide +kernel
theorem dX11_mixReport_19 : decode cX11_mixReport 19 = .ok (.aload_n 3, 1) := by decide +kernel
theorem dX11_mixReport_20 : decode cX11_mixReport 20 = .ok (.iload 6, 2) := by decide +kernel
theorem dX11_mixReport_22 : decode cX11_mixReport 22 = .ok (.invokevirtual 168, 3) := by decide +kernel
theorem dX11_mixReport_25 : decode cX11_mixReport 25 = .ok (.invokestatic 228, 3) := by decide +kernel
theorem dX11_mixReport_28 : decode cX11_mixReport 28 = .ok (.lstore 4, 2) := by decide +kernel
theorem dX11_mixReport_30 : decode cX11_mixReport 30 = .ok (.iinc 6 1, 3) := by decide +kernel
theorem dX11_mixReport_33 : decode cX11_mixReport 33 = .ok (.goto (-22), 3) := by decide +kernel
theorem dX11_mixReport_36 : decode cX11_mixReport 36 = .ok (.iconst 0, 1) := by decide +kernel
theorem dX11_mixReport_37 : decode cX11_mixReport 37 = .ok (.istore 6, 2) := by decide +kernel
theorem dX11_mixReport_39 : decode cX11_mixReport 39 = .ok (.iload 6, 2) := by decide +kernel
theorem dX11_mixReport_41 : decode cX11_mixReport 41 = .ok (.bipush 60, 2) := by decide +kernel
theorem dX11_mixReport_43 : decode cX11_mixReport 43 = .ok (.if_icmp .ge 22, 3) := by decide +kernel
theorem dX11_mixReport_46 : decode cX11_mixReport 46 = .ok (.lload 4, 2) := by decide +kernel
theorem dX11_mixReport_48 : decode cX11_mixReport 48 = .ok (.aload_n 3, 1) := by decide +kernel
theorem dX11_mixReport_49 : decode cX11_mixReport 49 = .ok (.iload 6, 2) := by decide +kernel
theorem dX11_mixReport_51 : decode cX11_mixReport 51 = .ok (.invokevirtual 171, 3) := by decide +kernel
theorem dX11_mixReport_54 : decode cX11_mixReport 54 = .ok (.invokestatic 228, 3) := by decide +kernel
theorem dX11_mixReport_57 : decode cX11_mixReport 57 = .ok (.lstore 4, 2) := by decide +kernel
theorem dX11_mixReport_59 : decode cX11_mixReport 59 = .ok (.iinc 6 1, 3) := by decide +kernel
theorem dX11_mixReport_62 : decode cX11_mixReport 62 = .ok (.goto (-23), 3) := by decide +kernel
theorem dX11_mixReport_65 : decode cX11_mixReport 65 = .ok (.lload 4, 2) := by decide +kernel
theorem dX11_mixReport_67 : decode cX11_mixReport 67 = .ok (.lreturn, 1) := by decide +kernel
theorem dX11_mixAnswers_0 : decode cX11_mixAnswers 0 = .ok (.lload_n 1, 1) := by decide +kernel
theorem dX11_mixAnswers_1 : decode cX11_mixAnswers 1 = .ok (.aload_n 3, 1) := by decide +kernel
theorem dX11_mixAnswers_2 : decode cX11_mixAnswers 2 = .ok (.getfield 123, 3) := by decide +kernel
theorem dX11_mixAnswers_5 : decode cX11_mixAnswers 5 = .ok (.invokestatic 228, 3) := by decide +kernel
theorem dX11_mixAnswers_8 : decode cX11_mixAnswers 8 = .ok (.lstore 4, 2) := by decide +kernel
theorem dX11_mixAnswers_10 : decode cX11_mixAnswers 10 = .ok (.iconst 0, 1) := by decide +kernel
theorem dX11_mixAnswers_11 : decode cX11_mixAnswers 11 = .ok (.istore 6, 2) := by decide +kernel
theorem dX11_mixAnswers_13 : decode cX11_mixAnswers 13 = .ok (.iload 6, 2) := by decide +kernel
theorem dX11_mixAnswers_15 : decode cX11_mixAnswers 15 = .ok (.aload_n 0, 1) := by decide +kernel
theorem dX11_mixAnswers_16 : decode cX11_mixAnswers 16 = .ok (.invokevirtual 128, 3) := by decide +kernel
theorem dX11_mixAnswers_19 : decode cX11_mixAnswers 19 = .ok (.if_icmp .ge 22, 3) := by decide +kernel
theorem dX11_mixAnswers_22 : decode cX11_mixAnswers 22 = .ok (.lload 4, 2) := by decide +kernel
theorem dX11_mixAnswers_24 : decode cX11_mixAnswers 24 = .ok (.aload_n 3, 1) := by decide +kernel
theorem dX11_mixAnswers_25 : decode cX11_mixAnswers 25 = .ok (.iload 6, 2) := by decide +kernel
theorem dX11_mixAnswers_27 : decode cX11_mixAnswers 27 = .ok (.invokevirtual 132, 3) := by decide +kernel
theorem dX11_mixAnswers_30 : decode cX11_mixAnswers 30 = .ok (.invokestatic 228, 3) := by decide +kernel
theorem dX11_mixAnswers_33 : decode cX11_mixAnswers 33 = .ok (.lstore 4, 2) := by decide +kernel
theorem dX11_mixAnswers_35 : decode cX11_mixAnswers 35 = .ok (.iinc 6 1, 3) := by decide +kernel
theorem dX11_mixAnswers_38 : decode cX11_mixAnswers 38 = .ok (.goto (-25), 3) := by decide +kernel
theorem dX11_mixAnswers_41 : decode cX11_mixAnswers 41 = .ok (.lload 4, 2) := by decide +kernel
theorem dX11_mixAnswers_43 : decode cX11_mixAnswers 43 = .ok (.lreturn, 1) := by decide +kernel
theorem dX11_mixEnds_0 : decode cX11_mixEnds 0 = .ok (.lload_n 1, 1) := by decide +kernel
theorem dX11_mixEnds_1 : decode cX11_mixEnds 1 = .ok (.lstore_n 3, 1) := by decide +kernel
theorem dX11_mixEnds_2 : decode cX11_mixEnds 2 = .ok (.iconst 0, 1) := by decide +kernel
theorem dX11_mixEnds_3 : decode cX11_mixEnds 3 = .ok (.istore 5, 2) := by decide +kernel
theorem dX11_mixEnds_5 : decode cX11_mixEnds 5 = .ok (.iload 5, 2) := by decide +kernel
theorem dX11_mixEnds_7 : decode cX11_mixEnds 7 = .ok (.bipush 9, 2) := by decide +kernel
theorem dX11_mixEnds_9 : decode cX11_mixEnds 9 = .ok (.if_icmp .ge 62, 3) := by decide +kernel
theorem dX11_mixEnds_12 : decode cX11_mixEnds 12 = .ok (.aload_n 0, 1) := by decide +kernel
theorem dX11_mixEnds_13 : decode cX11_mixEnds 13 = .ok (.getfield 58, 3) := by decide +kernel
theorem dX11_mixEnds_16 : decode cX11_mixEnds 16 = .ok (.aload_n 0, 1) := by decide +kernel
theorem dX11_mixEnds_17 : decode cX11_mixEnds 17 = .ok (.getfield 24, 3) := by decide +kernel
theorem dX11_mixEnds_20 : decode cX11_mixEnds 20 = .ok (.iload 5, 2) := by decide +kernel
theorem dX11_mixEnds_22 : decode cX11_mixEnds 22 = .ok (.iconst (-1), 1) := by decide +kernel
theorem dX11_mixEnds_23 : decode cX11_mixEnds 23 = .ok (.invokevirtual 258, 3) := by decide +kernel
theorem dX11_mixEnds_26 : decode cX11_mixEnds 26 = .ok (.aload_n 0, 1) := by decide +kernel
theorem dX11_mixEnds_27 : decode cX11_mixEnds 27 = .ok (.lload_n 3, 1) := by decide +kernel
theorem dX11_mixEnds_28 : decode cX11_mixEnds 28 = .ok (.aload_n 0, 1) := by decide +kernel
theorem dX11_mixEnds_29 : decode cX11_mixEnds 29 = .ok (.getfield 58, 3) := by decide +kernel
theorem dX11_mixEnds_32 : decode cX11_mixEnds 32 = .ok (.getfield 119, 3) := by decide +kernel
theorem dX11_mixEnds_35 : decode cX11_mixEnds 35 = .ok (.invokevirtual 287, 3) := by decide +kernel
theorem dX11_mixEnds_38 : decode cX11_mixEnds 38 = .ok (.lstore_n 3, 1) := by decide +kernel
theorem dX11_mixEnds_39 : decode cX11_mixEnds 39 = .ok (.aload_n 0, 1) := by decide +kernel
theorem dX11_mixEnds_40 : decode cX11_mixEnds 40 = .ok (.getfield 58, 3) := by decide +kernel
theorem dX11_mixEnds_43 : decode cX11_mixEnds 43 = .ok (.aload_n 0, 1) := by decide +kernel
theorem dX11_mixEnds_44 : decode cX11_mixEnds 44 = .ok (.getfield 24, 3) := by decide +kernel
theorem dX11_mixEnds_47 : decode cX11_mixEnds 47 = .ok (.iload 5, 2) := by decide +kernel
theorem dX11_mixEnds_49 : decode cX11_mixEnds 49 = .ok (.invokevirtual 262, 3) := by decide +kernel
theorem dX11_mixEnds_52 : decode cX11_mixEnds 52 = .ok (.aload_n 0, 1) := by decide +kernel
theorem dX11_mixEnds_53 : decode cX11_mixEnds 53 = .ok (.lload_n 3, 1) := by decide +kernel
theorem dX11_mixEnds_54 : decode cX11_mixEnds 54 = .ok (.aload_n 0, 1) := by decide +kernel
theorem dX11_mixEnds_55 : decode cX11_mixEnds 55 = .ok (.getfield 58, 3) := by decide +kernel
theorem dX11_mixEnds_58 : decode cX11_mixEnds 58 = .ok (.getfield 119, 3) := by decide +kernel
theorem dX11_mixEnds_61 : decode cX11_mixEnds 61 = .ok (.invokevirtual 287, 3) := by decide +kernel
theorem dX11_mixEnds_64 : decode cX11_mixEnds 64 = .ok (.lstore_n 3, 1) := by decide +kernel
theorem dX11_mixEnds_65 : decode cX11_mixEnds 65 = .ok (.iinc 5 1, 3) := by decide +kernel
theorem dX11_mixEnds_68 : decode cX11_mixEnds 68 = .ok (.goto (-63), 3) := by decide +kernel
theorem dX11_mixEnds_71 : decode cX11_mixEnds 71 = .ok (.lload_n 3, 1) := by decide +kernel
theorem dX11_mixEnds_72 : decode cX11_mixEnds 72 = .ok (.lreturn, 1) := by decide +kernel
theorem dX11_endSpeaks_0 : decode cX11_endSpeaks 0 = .ok (.iload_n 0, 1) := by decide +kernel
theorem dX11_endSpeaks_1 : decode cX11_endSpeaks 1 = .ok (.bipush 7, 2) := by decide +kernel
theorem dX11_endSpeaks_3 : decode cX11_endSpeaks 3 = .ok (.if_icmp .eq 9, 3) := by decide +kernel
theorem dX11_endSpeaks_6 : decode cX11_endSpeaks 6 = .ok (.iload_n 0, 1) := by decide +kernel
theorem dX11_endSpeaks_7 : decode cX11_endSpeaks 7 = .ok (.bipush 8, 2) := by decide +kernel
theorem dX11_endSpeaks_9 : decode cX11_endSpeaks 9 = .ok (.if_icmp .ne 7, 3) := by decide +kernel
theorem dX11_endSpeaks_12 : decode cX11_endSpeaks 12 = .ok (.iconst 1, 1) := by decide +kernel
theorem dX11_endSpeaks_13 : decode cX11_endSpeaks 13 = .ok (.goto 4, 3) := by decide +kernel
theorem dX11_endSpeaks_16 : decode cX11_endSpeaks 16 = .ok (.iconst 0, 1) := by decide +kernel
theorem dX11_endSpeaks_17 : decode cX11_endSpeaks 17 = .ok (.ireturn, 1) := by decide +kernel
theorem dX11_isFigure_0 : decode cX11_isFigure 0 = .ok (.iload_n 0, 1) := by decide +kernel
theorem dX11_isFigure_1 : decode cX11_isFigure 1 = .ok (.bipush 48, 2) := by decide +kernel
theorem dX11_isFigure_3 : decode cX11_isFigure 3 = .ok (.if_icmp .lt 13, 3) := by decide +kernel
theorem dX11_isFigure_6 : decode cX11_isFigure 6 = .ok (.iload_n 0, 1) := by decide +kernel
theorem dX11_isFigure_7 : decode cX11_isFigure 7 = .ok (.bipush 57, 2) := by decide +kernel
theorem dX11_isFigure_9 : decode cX11_isFigure 9 = .ok (.if_icmp .gt 7, 3) := by decide +kernel
theorem dX11_isFigure_12 : decode cX11_isFigure 12 = .ok (.iconst 1, 1) := by decide +kernel
theorem dX11_isFigure_13 : decode cX11_isFigure 13 = .ok (.goto 4, 3) := by decide +kernel
theorem dX11_isFigure_16 : decode cX11_isFigure 16 = .ok (.iconst 0, 1) := by decide +kernel
theorem dX11_isFigure_17 : decode cX11_isFigure 17 = .ok (.ireturn, 1) := by decide +kernel
theorem dX11_bitsOf_0 : decode cX11_bitsOf 0 = .ok (.fload_n 0, 1) := by decide +kernel
theorem dX11_bitsOf_1 : decode cX11_bitsOf 1 = .ok (.fconst 0, 1) := by decide +kernel
theorem dX11_bitsOf_2 : decode cX11_bitsOf 2 = .ok (.fcmp .l, 1) := by decide +kernel
theorem dX11_bitsOf_3 : decode cX11_bitsOf 3 = .ok (.ifCond .gt 5, 3) := by decide +kernel
theorem dX11_bitsOf_6 : decode cX11_bitsOf 6 = .ok (.iconst 0, 1) := by decide +kernel
theorem dX11_bitsOf_7 : decode cX11_bitsOf 7 = .ok (.ireturn, 1) := by decide +kernel
theorem dX11_bitsOf_8 : decode cX11_bitsOf 8 = .ok (.bipush 127, 2) := by decide +kernel
theorem dX11_bitsOf_10 : decode cX11_bitsOf 10 = .ok (.istore_n 1, 1) := by decide +kernel
theorem dX11_bitsOf_11 : decode cX11_bitsOf 11 = .ok (.fload_n 0, 1) := by decide +kernel
theorem dX11_bitsOf_12 : decode cX11_bitsOf 12 = .ok (.fstore_n 2, 1) := by decide +kernel
theorem dX11_bitsOf_13 : decode cX11_bitsOf 13 = .ok (.iconst 0, 1) := by decide +kernel
theorem dX11_bitsOf_14 : decode cX11_bitsOf 14 = .ok (.istore_n 3, 1) := by decide +kernel
theorem dX11_bitsOf_15 : decode cX11_bitsOf 15 = .ok (.iload_n 3, 1) := by decide +kernel
theorem dX11_bitsOf_16 : decode cX11_bitsOf 16 = .ok (.bipush 127, 2) := by decide +kernel
theorem dX11_bitsOf_18 : decode cX11_bitsOf 18 = .ok (.if_icmp .ge 22, 3) := by decide +kernel
theorem dX11_bitsOf_21 : decode cX11_bitsOf 21 = .ok (.fload_n 2, 1) := by decide +kernel
theorem dX11_bitsOf_22 : decode cX11_bitsOf 22 = .ok (.fconst 2, 1) := by decide +kernel
theorem dX11_bitsOf_23 : decode cX11_bitsOf 23 = .ok (.fcmp .l, 1) := by decide +kernel
theorem dX11_bitsOf_24 : decode cX11_bitsOf 24 = .ok (.ifCond .lt 16, 3) := by decide +kernel
theorem dX11_bitsOf_27 : decode cX11_bitsOf 27 = .ok (.fload_n 2, 1) := by decide +kernel
theorem dX11_bitsOf_28 : decode cX11_bitsOf 28 = .ok (.fconst 2, 1) := by decide +kernel
theorem dX11_bitsOf_29 : decode cX11_bitsOf 29 = .ok (.fdiv, 1) := by decide +kernel
theorem dX11_bitsOf_30 : decode cX11_bitsOf 30 = .ok (.fstore_n 2, 1) := by decide +kernel
theorem dX11_bitsOf_31 : decode cX11_bitsOf 31 = .ok (.iinc 1 1, 3) := by decide +kernel
theorem dX11_bitsOf_34 : decode cX11_bitsOf 34 = .ok (.iinc 3 1, 3) := by decide +kernel
theorem dX11_bitsOf_37 : decode cX11_bitsOf 37 = .ok (.goto (-22), 3) := by decide +kernel
theorem dX11_bitsOf_40 : decode cX11_bitsOf 40 = .ok (.iconst 0, 1) := by decide +kernel
theorem dX11_bitsOf_41 : decode cX11_bitsOf 41 = .ok (.istore_n 3, 1) := by decide +kernel
theorem dX11_bitsOf_42 : decode cX11_bitsOf 42 = .ok (.iload_n 3, 1) := by decide +kernel
theorem dX11_bitsOf_43 : decode cX11_bitsOf 43 = .ok (.bipush 126, 2) := by decide +kernel
theorem dX11_bitsOf_45 : decode cX11_bitsOf 45 = .ok (.if_icmp .ge 22, 3) := by decide +kernel
theorem dX11_bitsOf_48 : decode cX11_bitsOf 48 = .ok (.fload_n 2, 1) := by decide +kernel
theorem dX11_bitsOf_49 : decode cX11_bitsOf 49 = .ok (.fconst 1, 1) := by decide +kernel
theorem dX11_bitsOf_50 : decode cX11_bitsOf 50 = .ok (.fcmp .g, 1) := by decide +kernel
theorem dX11_bitsOf_51 : decode cX11_bitsOf 51 = .ok (.ifCond .ge 16, 3) := by decide +kernel
theorem dX11_bitsOf_54 : decode cX11_bitsOf 54 = .ok (.fload_n 2, 1) := by decide +kernel
theorem dX11_bitsOf_55 : decode cX11_bitsOf 55 = .ok (.fconst 2, 1) := by decide +kernel
theorem dX11_bitsOf_56 : decode cX11_bitsOf 56 = .ok (.fmul, 1) := by decide +kernel
theorem dX11_bitsOf_57 : decode cX11_bitsOf 57 = .ok (.fstore_n 2, 1) := by decide +kernel
theorem dX11_bitsOf_58 : decode cX11_bitsOf 58 = .ok (.iinc 1 (-1), 3) := by decide +kernel
theorem dX11_bitsOf_61 : decode cX11_bitsOf 61 = .ok (.iinc 3 1, 3) := by decide +kernel
theorem dX11_bitsOf_64 : decode cX11_bitsOf 64 = .ok (.goto (-22), 3) := by decide +kernel
theorem dX11_bitsOf_67 : decode cX11_bitsOf 67 = .ok (.iload_n 1, 1) := by decide +kernel
theorem dX11_bitsOf_68 : decode cX11_bitsOf 68 = .ok (.bipush 23, 2) := by decide +kernel
theorem dX11_bitsOf_70 : decode cX11_bitsOf 70 = .ok (.ishl, 1) := by decide +kernel
theorem dX11_bitsOf_71 : decode cX11_bitsOf 71 = .ok (.fload_n 2, 1) := by decide +kernel
theorem dX11_bitsOf_72 : decode cX11_bitsOf 72 = .ok (.fconst 1, 1) := by decide +kernel
theorem dX11_bitsOf_73 : decode cX11_bitsOf 73 = .ok (.fsub, 1) := by decide +kernel
theorem dX11_bitsOf_74 : decode cX11_bitsOf 74 = .ok (.ldc_w 290, 3) := by decide +kernel
theorem dX11_bitsOf_77 : decode cX11_bitsOf 77 = .ok (.fmul, 1) := by decide +kernel
theorem dX11_bitsOf_78 : decode cX11_bitsOf 78 = .ok (.f2i, 1) := by decide +kernel
theorem dX11_bitsOf_79 : decode cX11_bitsOf 79 = .ok (.ior, 1) := by decide +kernel
theorem dX11_bitsOf_80 : decode cX11_bitsOf 80 = .ok (.ireturn, 1) := by decide +kernel
theorem dX12_init_0 : decode cX12_init 0 = .ok (.aload_n 0, 1) := by decide +kernel
theorem dX12_init_1 : decode cX12_init 1 = .ok (.invokespecial 1, 3) := by decide +kernel
theorem dX12_init_4 : decode cX12_init 4 = .ok (.aload_n 0, 1) := by decide +kernel
theorem dX12_init_5 : decode cX12_init 5 = .ok (.iconst 3, 1) := by decide +kernel
theorem dX12_init_6 : decode cX12_init 6 = .ok (.newarray .int, 2) := by decide +kernel
theorem dX12_init_8 : decode cX12_init 8 = .ok (.putfield 7, 3) := by decide +kernel
theorem dX12_init_11 : decode cX12_init 11 = .ok (.aload_n 0, 1) := by decide +kernel
theorem dX12_init_12 : decode cX12_init 12 = .ok (.bipush 90, 2) := by decide +kernel
theorem dX12_init_14 : decode cX12_init 14 = .ok (.newarray .int, 2) := by decide +kernel
theorem dX12_init_16 : decode cX12_init 16 = .ok (.putfield 13, 3) := by decide +kernel
theorem dX12_init_19 : decode cX12_init 19 = .ok (.aload_n 0, 1) := by decide +kernel
theorem dX12_init_20 : decode cX12_init 20 = .ok (.iconst 3, 1) := by decide +kernel
theorem dX12_init_21 : decode cX12_init 21 = .ok (.newarray .int, 2) := by decide +kernel
theorem dX12_init_23 : decode cX12_init 23 = .ok (.putfield 16, 3) := by decide +kernel
theorem dX12_init_26 : decode cX12_init 26 = .ok (.aload_n 0, 1) := by decide +kernel
theorem dX12_init_27 : decode cX12_init 27 = .ok (.iconst 2, 1) := by decide +kernel
theorem dX12_init_28 : decode cX12_init 28 = .ok (.newarray .int, 2) := by decide +kernel
theorem dX12_init_30 : decode cX12_init 30 = .ok (.putfield 19, 3) := by decide +kernel
theorem dX12_init_33 : decode cX12_init 33 = .ok (.aload_n 0, 1) := by decide +kernel
theorem dX12_init_34 : decode cX12_init 34 = .ok (.bipush 20, 2) := by decide +kernel
theorem dX12_init_36 : decode cX12_init 36 = .ok (.newarray .int, 2) := by decide +kernel
theorem dX12_init_38 : decode cX12_init 38 = .ok (.putfield 22, 3) := by decide +kernel
theorem dX12_init_41 : decode cX12_init 41 = .ok (.aload_n 0, 1) := by decide +kernel
theorem dX12_init_42 : decode cX12_init 42 = .ok (.bipush 20, 2) := by decide +kernel
theorem dX12_init_44 : decode cX12_init 44 = .ok (.newarray .int, 2) := by decide +kernel
theorem dX12_init_46 : decode cX12_init 46 = .ok (.putfield 25, 3) := by decide +kernel
theorem dX12_init_49 : decode cX12_init 49 = .ok (.aload_n 0, 1) := by decide +kernel
theorem dX12_init_50 : decode cX12_init 50 = .ok (.bipush 12, 2) := by decide +kernel
theorem dX12_init_52 : decode cX12_init 52 = .ok (.newarray .int, 2) := by decide +kernel
theorem dX12_init_54 : decode cX12_init 54 = .ok (.putfield 28, 3) := by decide +kernel
theorem dX12_init_57 : decode cX12_init 57 = .ok (.aload_n 0, 1) := by decide +kernel
theorem dX12_init_58 : decode cX12_init 58 = .ok (.bipush 12, 2) := by decide +kernel
theorem dX12_init_60 : decode cX12_init 60 = .ok (.newarray .int, 2) := by decide +kernel
theorem dX12_init_62 : decode cX12_init 62 = .ok (.putfield 31, 3) := by decide +kernel
theorem dX12_init_65 : decode cX12_init 65 = .ok (.aload_n 0, 1) := by decide +kernel
theorem dX12_init_66 : decode cX12_init 66 = .ok (.iconst 2, 1) := by decide +kernel
theorem dX12_init_67 : decode cX12_init 67 = .ok (.newarray .int, 2) := by decide +kernel
theorem dX12_init_69 : decode cX12_init 69 = .ok (.putfield 34, 3) := by decide +kernel
theorem dX12_init_72 : decode cX12_init 72 = .ok (.aload_n 0, 1) := by decide +kernel
theorem dX12_init_73 : decode cX12_init 73 = .ok (.bipush 20, 2) := by decide +kernel
theorem dX12_init_75 : decode cX12_init 75 = .ok (.newarray .int, 2) := by decide +kernel
theorem dX12_init_77 : decode cX12_init 77 = .ok (.putfield 37, 3) := by decide +kernel
theorem dX12_init_80 : decode cX12_init 80 = .ok (.aload_n 0, 1) := by decide +kernel
theorem dX12_init_81 : decode cX12_init 81 = .ok (.bipush 10, 2) := by decide +kernel
theorem dX12_init_83 : decode cX12_init 83 = .ok (.newarray .int, 2) := by decide +kernel
theorem dX12_init_85 : decode cX12_init 85 = .ok (.putfield 40, 3) := by decide +kernel
theorem dX12_init_88 : decode cX12_init 88 = .ok (.aload_n 0, 1) := by decide +kernel
theorem dX12_init_89 : decode cX12_init 89 = .ok (.iconst 2, 1) := by decide +kernel
theorem dX12_init_90 : decode cX12_init 90 = .ok (.newarray .int, 2) := by decide +kernel
theorem dX12_init_92 : decode cX12_init 92 = .ok (.putfield 43, 3) := by decide +kernel
theorem dX12_init_95 : decode cX12_init 95 = .ok (.aload_n 0, 1) := by decide +kernel
theorem dX12_init_96 : decode cX12_init 96 = .ok (.sipush 400, 3) := by decide +kernel
theorem dX12_init_99 : decode cX12_init 99 = .ok (.newarray .int, 2) := by decide +kernel
theorem dX12_init_101 : decode cX12_init 101 = .ok (.putfield 46, 3) := by decide +kernel
theorem dX12_init_104 : decode cX12_init 104 = .ok (.aload_n 0, 1) := by decide +kernel
theorem dX12_init_105 : decode cX12_init 105 = .ok (.sipush 300, 3) := by decide +kernel
theorem dX12_init_108 : decode cX12_init 108 = .ok (.newarray .int, 2) := by decide +kernel
theorem dX12_init_110 : decode cX12_init 110 = .ok (.putfield 49, 3) := by decide +kernel
theorem dX12_init_113 : decode cX12_init 113 = .ok (.aload_n 0, 1) := by decide +kernel
theorem dX12_init_114 : decode cX12_init 114 = .ok (.sipush 300, 3) := by decide +kernel
theorem dX12_init_117 : decode cX12_init 117 = .ok (.newarray .int, 2) := by decide +kernel
theorem dX12_init_119 : decode cX12_init 119 = .ok (.putfield 52, 3) := by decide +kernel
theorem dX12_init_122 : decode cX12_init 122 = .ok (.aload_n 0, 1) := by decide +kernel
theorem dX12_init_123 : decode cX12_init 123 = .ok (.sipush 300, 3) := by decide +kernel
theorem dX12_init_126 : decode cX12_init 126 = .ok (.newarray .int, 2) := by decide +kernel
theorem dX12_init_128 : decode cX12_init 128 = .ok (.putfield 55, 3) := by decide +kernel
theorem dX12_init_131 : decode cX12_init 131 = .ok (.aload_n 0, 1) := by decide +kernel
theorem dX12_init_132 : decode cX12_init 132 = .ok (.sipush 300, 3) := by decide +kernel
theorem dX12_init_135 : decode cX12_init 135 = .ok (.newarray .int, 2) := by decide +kernel
theorem dX12_init_137 : decode cX12_init 137 = .ok (.putfield 58, 3) := by decide +kernel
theorem dX12_init_140 : decode cX12_init 140 = .ok (.aload_n 0, 1) := by decide +kernel
theorem dX12_init_141 : decode cX12_init 141 = .ok (.sipush 300, 3) := by decide +kernel
theorem dX12_init_144 : decode cX12_init 144 = .ok (.newarray .int, 2) := by decide +kernel
theorem dX12_init_146 : decode cX12_init 146 = .ok (.putfield 61, 3) := by decide +kernel
theorem dX12_init_149 : decode cX12_init 149 = .ok (.aload_n 0, 1) := by decide +kernel
theorem dX12_init_150 : decode cX12_init 150 = .ok (.sipush 300, 3) := by decide +kernel
theorem dX12_init_153 : decode cX12_init 153 = .ok (.newarray .int, 2) := by decide +kernel
theorem dX12_init_155 : decode cX12_init 155 = .ok (.putfield 64, 3) := by decide +kernel
theorem dX12_init_158 : decode cX12_init 158 = .ok (.aload_n 0, 1) := by decide +kernel
theorem dX12_init_159 : decode cX12_init 159 = .ok (.bipush 12, 2) := by decide +kernel
theorem dX12_init_161 : decode cX12_init 161 = .ok (.newarray .int, 2) := by decide +kernel
theorem dX12_init_163 : decode cX12_init 163 = .ok (.putfield 67, 3) := by decide +kernel
theorem dX12_init_166 : decode cX12_init 166 = .ok (.aload_n 0, 1) := by decide +kernel
theorem dX12_init_167 : decode cX12_init 167 = .ok (.sipush 480, 3) := by decide +kernel
theorem dX12_init_170 : decode cX12_init 170 = .ok (.newarray .int, 2) := by decide +kernel
theorem dX12_init_172 : decode cX12_init 172 = .ok (.putfield 70, 3) := by decide +kernel
theorem dX12_init_175 : decode cX12_init 175 = .ok (.aload_n 0, 1) := by decide +kernel
theorem dX12_init_176 : decode cX12_init 176 = .ok (.sipush 480, 3) := by decide +kernel
theorem dX12_init_179 : decode cX12_init 179 = .ok (.newarray .int, 2) := by decide +kernel
theorem dX12_init_181 : decode cX12_init 181 = .ok (.putfield 73, 3) := by decide +kernel
theorem dX12_init_184 : decode cX12_init 184 = .ok (.aload_n 0, 1) := by decide +kernel
theorem dX12_init_185 : decode cX12_init 185 = .ok (.bipush 10, 2) := by decide +kernel
theorem dX12_init_187 : decode cX12_init 187 = .ok (.newarray .int, 2) := by decide +kernel
theorem dX12_init_189 : decode cX12_init 189 = .ok (.putfield 76, 3) := by decide +kernel
theorem dX12_init_192 : decode cX12_init 192 = .ok (.aload_n 0, 1) := by decide +kernel
theorem dX12_init_193 : decode cX12_init 193 = .ok (.bipush 10, 2) := by decide +kernel
theorem dX12_init_195 : decode cX12_init 195 = .ok (.newarray .int, 2) := by decide +kernel
theorem dX12_init_197 : decode cX12_init 197 = .ok (.putfield 79, 3) := by decide +kernel
theorem dX12_init_200 : decode cX12_init 200 = .ok (.aload_n 0, 1) := by decide +kernel
theorem dX12_init_201 : decode cX12_init 201 = .ok (.bipush 10, 2) := by decide +kernel
theorem dX12_init_203 : decode cX12_init 203 = .ok (.newarray .int, 2) := by decide +kernel
theorem dX12_init_205 : decode cX12_init 205 = .ok (.putfield 82, 3) := by decide +kernel
theorem dX12_init_208 : decode cX12_init 208 = .ok (.aload_n 0, 1) := by decide +kernel
theorem dX12_init_209 : decode cX12_init 209 = .ok (.bipush 20, 2) := by decide +kernel
theorem dX12_init_211 : decode cX12_init 211 = .ok (.newarray .int, 2) := by decide +kernel
theorem dX12_init_213 : decode cX12_init 213 = .ok (.putfield 85, 3) := by decide +kernel
theorem dX12_init_216 : decode cX12_init 216 = .ok (.aload_n 0, 1) := by decide +kernel
theorem dX12_init_217 : decode cX12_init 217 = .ok (.bipush 10, 2) := by decide +kernel
theorem dX12_init_219 : decode cX12_init 219 = .ok (.newarray .int, 2) := by decide +kernel
theorem dX12_init_221 : decode cX12_init 221 = .ok (.putfield 88, 3) := by decide +kernel
theorem dX12_init_224 : decode cX12_init 224 = .ok (.aload_n 0, 1) := by decide +kernel
theorem dX12_init_225 : decode cX12_init 225 = .ok (.iconst 4, 1) := by decide +kernel
theorem dX12_init_226 : decode cX12_init 226 = .ok (.newarray .boolean, 2) := by decide +kernel
theorem dX12_init_228 : decode cX12_init 228 = .ok (.putfield 91, 3) := by decide +kernel
theorem dX12_init_231 : decode cX12_init 231 = .ok (.aload_n 0, 1) := by decide +kernel
theorem dX12_init_232 : decode cX12_init 232 = .ok (.iconst 4, 1) := by decide +kernel
theorem dX12_init_233 : decode cX12_init 233 = .ok (.newarray .int, 2) := by decide +kernel
theorem dX12_init_235 : decode cX12_init 235 = .ok (.putfield 95, 3) := by decide +kernel
theorem dX12_init_238 : decode cX12_init 238 = .ok (.aload_n 0, 1) := by decide +kernel
theorem dX12_init_239 : decode cX12_init 239 = .ok (.iconst 4, 1) := by decide +kernel
theorem dX12_init_240 : decode cX12_init 240 = .ok (.newarray .int, 2) := by decide +kernel
theorem dX12_init_242 : decode cX12_init 242 = .ok (.putfield 98, 3) := by decide +kernel
theorem dX12_init_245 : decode cX12_init 245 = .ok (.aload_n 0, 1) := by decide +kernel
theorem dX12_init_246 : decode cX12_init 246 = .ok (.sipush 240, 3) := by decide +kernel
theorem dX12_init_249 : decode cX12_init 249 = .ok (.newarray .int, 2) := by decide +kernel
theorem dX12_init_251 : decode cX12_init 251 = .ok (.putfield 101, 3) := by decide +kernel
theorem dX12_init_254 : decode cX12_init 254 = .ok (.aload_n 0, 1) := by decide +kernel
theorem dX12_init_255 : decode cX12_init 255 = .ok (.bipush 60, 2) := by decide +kernel
theorem dX12_init_257 : decode cX12_init 257 = .ok (.newarray .int, 2) := by decide +kernel
theorem dX12_init_259 : decode cX12_init 259 = .ok (.putfield 104, 3) := by decide +kernel
theorem dX12_init_262 : decode cX12_init 262 = .ok (.return_, 1) := by decide +kernel
theorem dX12_in_0 : decode cX12_in 0 = .ok (.iload_n 0, 1) := by decide +kernel
theorem dX12_in_1 : decode cX12_in 1 = .ok (.iload_n 1, 1) := by decide +kernel
theorem dX12_in_2 : decode cX12_in 2 = .ok (.if_icmp .lt 12, 3) := by decide +kernel
theorem dX12_in_5 : decode cX12_in 5 = .ok (.iload_n 0, 1) := by decide +kernel
theorem dX12_in_6 : decode cX12_in 6 = .ok (.iload_n 2, 1) := by decide +kernel
theorem dX12_in_7 : decode cX12_in 7 = .ok (.if_icmp .gt 7, 3) := by decide +kernel
theorem dX12_in_10 : decode cX12_in 10 = .ok (.iconst 1, 1) := by decide +kernel
theorem dX12_in_11 : decode cX12_in 11 = .ok (.goto 4, 3) := by decide +kernel
theorem dX12_in_14 : decode cX12_in 14 = .ok (.iconst 0, 1) := by decide +kernel
theorem dX12_in_15 : decode cX12_in 15 = .ok (.ireturn, 1) := by decide +kernel
theorem dX12_isIn_0 : decode cX12_isIn 0 = .ok (.iload_n 0, 1) := by decide +kernel
theorem dX12_isIn_1 : decode cX12_isIn 1 = .ok (.iload_n 1, 1) := by decide +kernel
theorem dX12_isIn_2 : decode cX12_isIn 2 = .ok (.ishr, 1) := by decide +kernel
theorem dX12_isIn_3 : decode cX12_isIn 3 = .ok (.iconst 1, 1) := by decide +kernel
theorem dX12_isIn_4 : decode cX12_isIn 4 = .ok (.iand, 1) := by decide +kernel
theorem dX12_isIn_5 : decode cX12_isIn 5 = .ok (.iconst 1, 1) := by decide +kernel
theorem dX12_isIn_6 : decode cX12_isIn 6 = .ok (.if_icmp .ne 7, 3) := by decide +kernel
theorem dX12_isIn_9 : decode cX12_isIn 9 = .ok (.iconst 1, 1) := by decide +kernel
theorem dX12_isIn_10 : decode cX12_isIn 10 = .ok (.goto 4, 3) := by decide +kernel
theorem dX12_isIn_13 : decode cX12_isIn 13 = .ok (.iconst 0, 1) := by decide +kernel
theorem dX12_isIn_14 : decode cX12_isIn 14 = .ok (.ireturn, 1) := by decide +kernel
theorem dX12_isTwo_0 : decode cX12_isTwo 0 = .ok (.iload_n 0, 1) := by decide +kernel
theorem dX12_isTwo_1 : decode cX12_isTwo 1 = .ok (.iconst 0, 1) := by decide +kernel
theorem dX12_isTwo_2 : decode cX12_isTwo 2 = .ok (.iconst 1, 1) := by decide +kernel
theorem dX12_isTwo_3 : decode cX12_isTwo 3 = .ok (.invokestatic 107, 3) := by decide +kernel
theorem dX12_isTwo_6 : decode cX12_isTwo 6 = .ok (.ireturn, 1) := by decide +kernel
theorem dX12_bitsOf_0 : decode cX12_bitsOf 0 = .ok (.lload_n 0, 1) := by decide +kernel
theorem dX12_bitsOf_1 : decode cX12_bitsOf 1 = .ok (.lstore_n 3, 1) := by decide +kernel
theorem dX12_bitsOf_2 : decode cX12_bitsOf 2 = .ok (.iload_n 2, 1) := by decide +kernel
theorem dX12_bitsOf_3 : decode cX12_bitsOf 3 = .ok (.istore 5, 2) := by decide +kernel
theorem dX12_bitsOf_5 : decode cX12_bitsOf 5 = .ok (.lload_n 0, 1) := by decide +kernel
theorem dX12_bitsOf_6 : decode cX12_bitsOf 6 = .ok (.lconst 0, 1) := by decide +kernel
theorem dX12_bitsOf_7 : decode cX12_bitsOf 7 = .ok (.lcmp, 1) := by decide +kernel
theorem dX12_bitsOf_8 : decode cX12_bitsOf 8 = .ok (.ifCond .ne 5, 3) := by decide +kernel
theorem dX12_bitsOf_11 : decode cX12_bitsOf 11 = .ok (.iconst 0, 1) := by decide +kernel
theorem dX12_bitsOf_12 : decode cX12_bitsOf 12 = .ok (.ireturn, 1) := by decide +kernel
theorem dX12_bitsOf_13 : decode cX12_bitsOf 13 = .ok (.iconst 0, 1) := by decide +kernel
theorem dX12_bitsOf_14 : decode cX12_bitsOf 14 = .ok (.istore 6, 2) := by decide +kernel
theorem dX12_bitsOf_16 : decode cX12_bitsOf 16 = .ok (.lload_n 3, 1) := by decide +kernel
theorem dX12_bitsOf_17 : decode cX12_bitsOf 17 = .ok (.iload 6, 2) := by decide +kernel
theorem dX12_bitsOf_19 : decode cX12_bitsOf 19 = .ok (.lshr, 1) := by decide +kernel
theorem dX12_bitsOf_20 : decode cX12_bitsOf 20 = .ok (.ldc2_w 111, 3) := by decide +kernel
theorem dX12_bitsOf_23 : decode cX12_bitsOf 23 = .ok (.lcmp, 1) := by decide +kernel
theorem dX12_bitsOf_24 : decode cX12_bitsOf 24 = .ok (.ifCond .lt 9, 3) := by decide +kernel
theorem dX12_bitsOf_27 : decode cX12_bitsOf 27 = .ok (.iinc 6 1, 3) := by decide +kernel
theorem dX12_bitsOf_30 : decode cX12_bitsOf 30 = .ok (.goto (-14), 3) := by decide +kernel
theorem dX12_bitsOf_33 : decode cX12_bitsOf 33 = .ok (.lload_n 3, 1) := by decide +kernel
theorem dX12_bitsOf_34 : decode cX12_bitsOf 34 = .ok (.lload_n 3, 1) := by decide +kernel
theorem dX12_bitsOf_35 : decode cX12_bitsOf 35 = .ok (.iload 6, 2) := by decide +kernel
theorem dX12_bitsOf_37 : decode cX12_bitsOf 37 = .ok (.lshr, 1) := by decide +kernel
theorem dX12_bitsOf_38 : decode cX12_bitsOf 38 = .ok (.iload 6, 2) := by decide +kernel
theorem dX12_bitsOf_40 : decode cX12_bitsOf 40 = .ok (.lshl, 1) := by decide +kernel
theorem dX12_bitsOf_41 : decode cX12_bitsOf 41 = .ok (.lsub, 1) := by decide +kernel
theorem dX12_bitsOf_42 : decode cX12_bitsOf 42 = .ok (.lstore 7, 2) := by decide +kernel
theorem dX12_bitsOf_44 : decode cX12_bitsOf 44 = .ok (.iload 6, 2) := by decide +kernel
theorem dX12_bitsOf_46 : decode cX12_bitsOf 46 = .ok (.ifCond .ne 7, 3) := by decide +kernel
theorem dX12_bitsOf_49 : decode cX12_bitsOf 49 = .ok (.lconst 1, 1) := by decide +kernel
theorem dX12_bitsOf_50 : decode cX12_bitsOf 50 = .ok (.goto 9, 3) := by decide +kernel
theorem dX12_bitsOf_53 : decode cX12_bitsOf 53 = .ok (.lconst 1, 1) := by decide +kernel
theorem dX12_bitsOf_54 : decode cX12_bitsOf 54 = .ok (.iload 6, 2) := by decide +kernel
theorem dX12_bitsOf_56 : decode cX12_bitsOf 56 = .ok (.iconst 1, 1) := by decide +kernel
theorem dX12_bitsOf_57 : decode cX12_bitsOf 57 = .ok (.isub, 1) := by decide +kernel
theorem dX12_bitsOf_58 : decode cX12_bitsOf 58 = .ok (.lshl, 1) := by decide +kernel
theorem dX12_bitsOf_59 : decode cX12_bitsOf 59 = .ok (.lstore 9, 2) := by decide +kernel
theorem dX12_bitsOf_61 : decode cX12_bitsOf 61 = .ok (.lload_n 3, 1) := by decide +kernel
theorem dX12_bitsOf_62 : decode cX12_bitsOf 62 = .ok (.iload 6, 2) := by decide +kernel
theorem dX12_bitsOf_64 : decode cX12_bitsOf 64 = .ok (.lshr, 1) := by decide +kernel
theorem dX12_bitsOf_65 : decode cX12_bitsOf 65 = .ok (.lstore_n 3, 1) := by decide +kernel
theorem dX12_bitsOf_66 : decode cX12_bitsOf 66 = .ok (.iload 5, 2) := by decide +kernel
theorem dX12_bitsOf_68 : decode cX12_bitsOf 68 = .ok (.iload 6, 2) := by decide +kernel
theorem dX12_bitsOf_70 : decode cX12_bitsOf 70 = .ok (.iadd, 1) := by decide +kernel
theorem dX12_bitsOf_71 : decode cX12_bitsOf 71 = .ok (.istore 5, 2) := by decide +kernel
theorem dX12_bitsOf_73 : decode cX12_bitsOf 73 = .ok (.lload_n 3, 1) := by decide +kernel
theorem dX12_bitsOf_74 : decode cX12_bitsOf 74 = .ok (.lload 7, 2) := by decide +kernel
theorem dX12_bitsOf_76 : decode cX12_bitsOf 76 = .ok (.lload 9, 2) := by decide +kernel
theorem dX12_bitsOf_78 : decode cX12_bitsOf 78 = .ok (.lcmp, 1) := by decide +kernel
theorem dX12_bitsOf_79 : decode cX12_bitsOf 79 = .ok (.ifCond .gt 19, 3) := by decide +kernel
theorem dX12_bitsOf_82 : decode cX12_bitsOf 82 = .ok (.lload 7, 2) := by decide +kernel
theorem dX12_bitsOf_84 : decode cX12_bitsOf 84 = .ok (.lload 9, 2) := by decide +kernel
theorem dX12_bitsOf_86 : decode cX12_bitsOf 86 = .ok (.lcmp, 1) := by decide +kernel
theorem dX12_bitsOf_87 : decode cX12_bitsOf 87 = .ok (.ifCond .ne 15, 3) := by decide +kernel
theorem dX12_bitsOf_90 : decode cX12_bitsOf 90 = .ok (.lload_n 3, 1) := by decide +kernel
theorem dX12_bitsOf_91 : decode cX12_bitsOf 91 = .ok (.lconst 1, 1) := by decide +kernel
theorem dX12_bitsOf_92 : decode cX12_bitsOf 92 = .ok (.land, 1) := by decide +kernel
theorem dX12_bitsOf_93 : decode cX12_bitsOf 93 = .ok (.lconst 1, 1) := by decide +kernel
theorem dX12_bitsOf_94 : decode cX12_bitsOf 94 = .ok (.lcmp, 1) := by decide +kernel
theorem dX12_bitsOf_95 : decode cX12_bitsOf 95 = .ok (.ifCond .ne 7, 3) := by decide +kernel
theorem dX12_bitsOf_98 : decode cX12_bitsOf 98 = .ok (.lconst 1, 1) := by decide +kernel
theorem dX12_bitsOf_99 : decode cX12_bitsOf 99 = .ok (.goto 4, 3) := by decide +kernel
theorem dX12_bitsOf_102 : decode cX12_bitsOf 102 = .ok (.lconst 0, 1) := by decide +kernel
theorem dX12_bitsOf_103 : decode cX12_bitsOf 103 = .ok (.ladd, 1) := by decide +kernel
theorem dX12_bitsOf_104 : decode cX12_bitsOf 104 = .ok (.lstore_n 3, 1) := by decide +kernel
theorem dX12_bitsOf_105 : decode cX12_bitsOf 105 = .ok (.lload_n 3, 1) := by decide +kernel
theorem dX12_bitsOf_106 : decode cX12_bitsOf 106 = .ok (.ldc2_w 111, 3) := by decide +kernel
theorem dX12_bitsOf_109 : decode cX12_bitsOf 109 = .ok (.lcmp, 1) := by decide +kernel
theorem dX12_bitsOf_110 : decode cX12_bitsOf 110 = .ok (.ifCond .ne 10, 3) := by decide +kernel
theorem dX12_bitsOf_113 : decode cX12_bitsOf 113 = .ok (.lload_n 3, 1) := by decide +kernel
theorem dX12_bitsOf_114 : decode cX12_bitsOf 114 = .ok (.iconst 1, 1) := by decide +kernel
theorem dX12_bitsOf_115 : decode cX12_bitsOf 115 = .ok (.lshr, 1) := by decide +kernel
theorem dX12_bitsOf_116 : decode cX12_bitsOf 116 = .ok (.lstore_n 3, 1) := by decide +kernel
theorem dX12_bitsOf_117 : decode cX12_bitsOf 117 = .ok (.iinc 5 1, 3) := by decide +kernel
theorem dX12_bitsOf_120 : decode cX12_bitsOf 120 = .ok (.lload_n 3, 1) := by decide +kernel
theorem dX12_bitsOf_121 : decode cX12_bitsOf 121 = .ok (.ldc2_w 113, 3) := by decide +kernel
theorem dX12_bitsOf_124 : decode cX12_bitsOf 124 = .ok (.lcmp, 1) := by decide +kernel
theorem dX12_bitsOf_125 : decode cX12_bitsOf 125 = .ok (.ifCond .ge 13, 3) := by decide +kernel
theorem dX12_bitsOf_128 : decode cX12_bitsOf 128 = .ok (.lload_n 3, 1) := by decide +kernel
theorem dX12_bitsOf_129 : decode cX12_bitsOf 129 = .ok (.iconst 1, 1) := by decide +kernel
theorem dX12_bitsOf_130 : decode cX12_bitsOf 130 = .ok (.lshl, 1) := by decide +kernel
theorem dX12_bitsOf_131 : decode cX12_bitsOf 131 = .ok (.lstore_n 3, 1) := by decide +kernel
theorem dX12_bitsOf_132 : decode cX12_bitsOf 132 = .ok (.iinc 5 (-1), 3) := by decide +kernel
theorem dX12_bitsOf_135 : decode cX12_bitsOf 135 = .ok (.goto (-15), 3) := by decide +kernel
theorem dX12_bitsOf_138 : decode cX12_bitsOf 138 = .ok (.iload 5, 2) := by decide +kernel
theorem dX12_bitsOf_140 : decode cX12_bitsOf 140 = .ok (.sipush 150, 3) := by decide +kernel
theorem dX12_bitsOf_143 : decode cX12_bitsOf 143 = .ok (.iadd, 1) := by decide +kernel
theorem dX12_bitsOf_144 : decode cX12_bitsOf 144 = .ok (.bipush 23, 2) := by decide +kernel
theorem dX12_bitsOf_146 : decode cX12_bitsOf 146 = .ok (.ishl, 1) := by decide +kernel
theorem dX12_bitsOf_147 : decode cX12_bitsOf 147 = .ok (.lload_n 3, 1) := by decide +kernel
theorem dX12_bitsOf_148 : decode cX12_bitsOf 148 = .ok (.l2i, 1) := by decide +kernel
theorem dX12_bitsOf_149 : decode cX12_bitsOf 149 = .ok (.ldc 115, 2) := by decide +kernel
theorem dX12_bitsOf_151 : decode cX12_bitsOf 151 = .ok (.iand, 1) := by decide +kernel
theorem dX12_bitsOf_152 : decode cX12_bitsOf 152 = .ok (.ior, 1) := by decide +kernel
theorem dX12_bitsOf_153 : decode cX12_bitsOf 153 = .ok (.ireturn, 1) := by decide +kernel
theorem dX12_divided_0 : decode cX12_divided 0 = .ok (.iload_n 0, 1) := by decide +kernel
theorem dX12_divided_1 : decode cX12_divided 1 = .ok (.i2l, 1) := by decide +kernel
theorem dX12_divided_2 : decode cX12_divided 2 = .ok (.bipush 40, 2) := by decide +kernel
theorem dX12_divided_4 : decode cX12_divided 4 = .ok (.lshl, 1) := by decide +kernel
theorem dX12_divided_5 : decode cX12_divided 5 = .ok (.iload_n 1, 1) := by decide +kernel
theorem dX12_divided_6 : decode cX12_divided 6 = .ok (.i2l, 1) := by decide +kernel
theorem dX12_divided_7 : decode cX12_divided 7 = .ok (.ldiv, 1) := by decide +kernel
theorem dX12_divided_8 : decode cX12_divided 8 = .ok (.lstore_n 2, 1) := by decide +kernel
theorem dX12_divided_9 : decode cX12_divided 9 = .ok (.lload_n 2, 1) := by decide +kernel
theorem dX12_divided_10 : decode cX12_divided 10 = .ok (.iload_n 1, 1) := by decide +kernel
theorem dX12_divided_11 : decode cX12_divided 11 = .ok (.i2l, 1) := by decide +kernel
theorem dX12_divided_12 : decode cX12_divided 12 = .ok (.lmul, 1) := by decide +kernel
theorem dX12_divided_13 : decode cX12_divided 13 = .ok (.iload_n 0, 1) := by decide +kernel
theorem dX12_divided_14 : decode cX12_divided 14 = .ok (.i2l, 1) := by decide +kernel
theorem dX12_divided_15 : decode cX12_divided 15 = .ok (.bipush 40, 2) := by decide +kernel
theorem dX12_divided_17 : decode cX12_divided 17 = .ok (.lshl, 1) := by decide +kernel
theorem dX12_divided_18 : decode cX12_divided 18 = .ok (.lcmp, 1) := by decide +kernel
theorem dX12_divided_19 : decode cX12_divided 19 = .ok (.ifCond .eq 7, 3) := by decide +kernel
theorem dX12_divided_22 : decode cX12_divided 22 = .ok (.iconst 1, 1) := by decide +kernel
theorem dX12_divided_23 : decode cX12_divided 23 = .ok (.goto 4, 3) := by decide +kernel
theorem dX12_divided_26 : decode cX12_divided 26 = .ok (.iconst 0, 1) := by decide +kernel
theorem dX12_divided_27 : decode cX12_divided 27 = .ok (.istore 4, 2) := by decide +kernel
theorem dX12_divided_29 : decode cX12_divided 29 = .ok (.iload 4, 2) := by decide +kernel
theorem dX12_divided_31 : decode cX12_divided 31 = .ok (.ifCond .eq 9, 3) := by decide +kernel
theorem dX12_divided_34 : decode cX12_divided 34 = .ok (.lload_n 2, 1) := by decide +kernel
theorem dX12_divided_35 : decode cX12_divided 35 = .ok (.lconst 1, 1) := by decide +kernel
theorem dX12_divided_36 : decode cX12_divided 36 = .ok (.lor, 1) := by decide +kernel
theorem dX12_divided_37 : decode cX12_divided 37 = .ok (.goto 4, 3) := by decide +kernel
theorem dX12_divided_40 : decode cX12_divided 40 = .ok (.lload_n 2, 1) := by decide +kernel
theorem dX12_divided_41 : decode cX12_divided 41 = .ok (.bipush (-40), 2) := by decide +kernel
theorem dX12_divided_43 : decode cX12_divided 43 = .ok (.invokestatic 116, 3) := by decide +kernel
theorem dX12_divided_46 : decode cX12_divided 46 = .ok (.ireturn, 1) := by decide +kernel
theorem dX12_added_0 : decode cX12_added 0 = .ok (.iload_n 0, 1) := by decide +kernel
theorem dX12_added_1 : decode cX12_added 1 = .ok (.iload_n 1, 1) := by decide +kernel
theorem dX12_added_2 : decode cX12_added 2 = .ok (.if_icmp .le 7, 3) := by decide +kernel
theorem dX12_added_5 : decode cX12_added 5 = .ok (.iload_n 0, 1) := by decide +kernel
theorem dX12_added_6 : decode cX12_added 6 = .ok (.goto 4, 3) := by decide +kernel
theorem dX12_added_9 : decode cX12_added 9 = .ok (.iload_n 1, 1) := by decide +kernel
theorem dX12_added_10 : decode cX12_added 10 = .ok (.istore_n 2, 1) := by decide +kernel
theorem dX12_added_11 : decode cX12_added 11 = .ok (.iload_n 0, 1) := by decide +kernel
theorem dX12_added_12 : decode cX12_added 12 = .ok (.iload_n 1, 1) := by decide +kernel
theorem dX12_added_13 : decode cX12_added 13 = .ok (.if_icmp .le 7, 3) := by decide +kernel
theorem dX12_added_16 : decode cX12_added 16 = .ok (.iload_n 1, 1) := by decide +kernel
theorem dX12_added_17 : decode cX12_added 17 = .ok (.goto 4, 3) := by decide +kernel
theorem dX12_added_20 : decode cX12_added 20 = .ok (.iload_n 0, 1) := by decide +kernel
theorem dX12_added_21 : decode cX12_added 21 = .ok (.istore_n 3, 1) := by decide +kernel
theorem dX12_added_22 : decode cX12_added 22 = .ok (.iload_n 2, 1) := by decide +kernel
theorem dX12_added_23 : decode cX12_added 23 = .ok (.bipush 23, 2) := by decide +kernel
theorem dX12_added_25 : decode cX12_added 25 = .ok (.ishr, 1) := by decide +kernel
theorem dX12_added_26 : decode cX12_added 26 = .ok (.iload_n 3, 1) := by decide +kernel
theorem dX12_added_27 : decode cX12_added 27 = .ok (.bipush 23, 2) := by decide +kernel
theorem dX12_added_29 : decode cX12_added 29 = .ok (.ishr, 1) := by decide +kernel
theorem dX12_added_30 : decode cX12_added 30 = .ok (.isub, 1) := by decide +kernel
theorem dX12_added_31 : decode cX12_added 31 = .ok (.istore 4, 2) := by decide +kernel
theorem dX12_added_33 : decode cX12_added 33 = .ok (.iload_n 3, 1) := by decide +kernel
theorem dX12_added_34 : decode cX12_added 34 = .ok (.ifCond .eq 10, 3) := by decide +kernel
theorem dX12_added_37 : decode cX12_added 37 = .ok (.iload 4, 2) := by decide +kernel
theorem dX12_added_39 : decode cX12_added 39 = .ok (.bipush 26, 2) := by decide +kernel
theorem dX12_added_41 : decode cX12_added 41 = .ok (.if_icmp .le 5, 3) := by decide +kernel
theorem dX12_added_44 : decode cX12_added 44 = .ok (.iload_n 2, 1) := by decide +kernel
theorem dX12_added_45 : decode cX12_added 45 = .ok (.ireturn, 1) := by decide +kernel
theorem dX12_added_46 : decode cX12_added 46 = .ok (.iload_n 2, 1) := by decide +kernel
theorem dX12_added_47 : decode cX12_added 47 = .ok (.ldc 115, 2) := by decide +kernel
theorem dX12_added_49 : decode cX12_added 49 = .ok (.iand, 1) := by decide +kernel
theorem dX12_added_50 : decode cX12_added 50 = .ok (.ldc 120, 2) := by decide +kernel
theorem dX12_added_52 : decode cX12_added 52 = .ok (.ior, 1) := by decide +kernel
theorem dX12_added_53 : decode cX12_added 53 = .ok (.i2l, 1) := by decide +kernel
theorem dX12_added_54 : decode cX12_added 54 = .ok (.lstore 5, 2) := by decide +kernel
theorem dX12_added_56 : decode cX12_added 56 = .ok (.iload_n 3, 1) := by decide +kernel
theorem dX12_added_57 : decode cX12_added 57 = .ok (.ldc 115, 2) := by decide +kernel
theorem dX12_added_59 : decode cX12_added 59 = .ok (.iand, 1) := by decide +kernel
theorem dX12_added_60 : decode cX12_added 60 = .ok (.ldc 120, 2) := by decide +kernel
theorem dX12_added_62 : decode cX12_added 62 = .ok (.ior, 1) := by decide +kernel
theorem dX12_added_63 : decode cX12_added 63 = .ok (.i2l, 1) := by decide +kernel
theorem dX12_added_64 : decode cX12_added 64 = .ok (.lstore 7, 2) := by decide +kernel
theorem dX12_added_66 : decode cX12_added 66 = .ok (.lload 5, 2) := by decide +kernel
theorem dX12_added_68 : decode cX12_added 68 = .ok (.iload 4, 2) := by decide +kernel
theorem dX12_added_70 : decode cX12_added 70 = .ok (.lshl, 1) := by decide +kernel
theorem dX12_added_71 : decode cX12_added 71 = .ok (.lload 7, 2) := by decide +kernel
theorem dX12_added_73 : decode cX12_added 73 = .ok (.ladd, 1) := by decide +kernel
theorem dX12_added_74 : decode cX12_added 74 = .ok (.iload_n 3, 1) := by decide +kernel
theorem dX12_added_75 : decode cX12_added 75 = .ok (.bipush 23, 2) := by decide +kernel
theorem dX12_added_77 : decode cX12_added 77 = .ok (.ishr, 1) := by decide +kernel
theorem dX12_added_78 : decode cX12_added 78 = .ok (.sipush 150, 3) := by decide +kernel
theorem dX12_added_81 : decode cX12_added 81 = .ok (.isub, 1) := by decide +kernel
theorem dX12_added_82 : decode cX12_added 82 = .ok (.invokestatic 116, 3) := by decide +kernel
theorem dX12_added_85 : decode cX12_added 85 = .ok (.ireturn, 1) := by decide +kernel
theorem dX12_isText_0 : decode cX12_isText 0 = .ok (.iload_n 0, 1) := by decide +kernel
theorem dX12_isText_1 : decode cX12_isText 1 = .ok (.iconst 0, 1) := by decide +kernel
theorem dX12_isText_2 : decode cX12_isText 2 = .ok (.iconst 2, 1) := by decide +kernel
theorem dX12_isText_3 : decode cX12_isText 3 = .ok (.invokestatic 107, 3) := by decide +kernel
theorem dX12_isText_6 : decode cX12_isText 6 = .ok (.ireturn, 1) := by decide +kernel
theorem dX12_roomOf_0 : decode cX12_roomOf 0 = .ok (.iload_n 0, 1) := by decide +kernel
theorem dX12_roomOf_1 : decode cX12_roomOf 1 = .ok (.iconst 2, 1) := by decide +kernel
theorem dX12_roomOf_2 : decode cX12_roomOf 2 = .ok (.if_icmp .ne 8, 3) := by decide +kernel
theorem dX12_roomOf_5 : decode cX12_roomOf 5 = .ok (.bipush 12, 2) := by decide +kernel
theorem dX12_roomOf_7 : decode cX12_roomOf 7 = .ok (.goto 5, 3) := by decide +kernel
theorem dX12_roomOf_10 : decode cX12_roomOf 10 = .ok (.bipush 29, 2) := by decide +kernel
theorem dX12_roomOf_12 : decode cX12_roomOf 12 = .ok (.ireturn, 1) := by decide +kernel
theorem dX12_type_0 : decode cX12_type 0 = .ok (.iload_n 1, 1) := by decide +kernel
theorem dX12_type_1 : decode cX12_type 1 = .ok (.invokestatic 121, 3) := by decide +kernel
theorem dX12_type_4 : decode cX12_type 4 = .ok (.ifCond .eq 14, 3) := by decide +kernel
theorem dX12_type_7 : decode cX12_type 7 = .ok (.iload_n 2, 1) := by decide +kernel
theorem dX12_type_8 : decode cX12_type 8 = .ok (.iconst 0, 1) := by decide +kernel
theorem dX12_type_9 : decode cX12_type 9 = .ok (.sipush 255, 3) := by decide +kernel
theorem dX12_type_12 : decode cX12_type 12 = .ok (.invokestatic 107, 3) := by decide +kernel
theorem dX12_type_15 : decode cX12_type 15 = .ok (.ifCond .ne 6, 3) := by decide +kernel
theorem dX12_type_18 : decode cX12_type 18 = .ok (.bipush (-2), 2) := by decide +kernel
theorem dX12_type_20 : decode cX12_type 20 = .ok (.ireturn, 1) := by decide +kernel
theorem dX12_type_21 : decode cX12_type 21 = .ok (.aload_n 0, 1) := by decide +kernel
theorem dX12_type_22 : decode cX12_type 22 = .ok (.getfield 7, 3) := by decide +kernel
theorem dX12_type_25 : decode cX12_type 25 = .ok (.iload_n 1, 1) := by decide +kernel
theorem dX12_type_26 : decode cX12_type 26 = .ok (.iaload, 1) := by decide +kernel
theorem dX12_type_27 : decode cX12_type 27 = .ok (.iload_n 1, 1) := by decide +kernel
theorem dX12_type_28 : decode cX12_type 28 = .ok (.invokestatic 125, 3) := by decide +kernel
theorem dX12_type_31 : decode cX12_type 31 = .ok (.if_icmp .ne 6, 3) := by decide +kernel
theorem dX12_type_34 : decode cX12_type 34 = .ok (.bipush (-4), 2) := by decide +kernel
theorem dX12_type_36 : decode cX12_type 36 = .ok (.ireturn, 1) := by decide +kernel
theorem dX12_type_37 : decode cX12_type 37 = .ok (.aload_n 0, 1) := by decide +kernel
theorem dX12_type_38 : decode cX12_type 38 = .ok (.getfield 13, 3) := by decide +kernel
theorem dX12_type_41 : decode cX12_type 41 = .ok (.bipush 30, 2) := by decide +kernel
theorem dX12_type_43 : decode cX12_type 43 = .ok (.iload_n 1, 1) := by decide +kernel
theorem dX12_type_44 : decode cX12_type 44 = .ok (.imul, 1) := by decide +kernel
theorem dX12_type_45 : decode cX12_type 45 = .ok (.aload_n 0, 1) := by decide +kernel
theorem dX12_type_46 : decode cX12_type 46 = .ok (.getfield 7, 3) := by decide +kernel
theorem dX12_type_49 : decode cX12_type 49 = .ok (.iload_n 1, 1) := by decide +kernel
theorem dX12_type_50 : decode cX12_type 50 = .ok (.iaload, 1) := by decide +kernel
theorem dX12_type_51 : decode cX12_type 51 = .ok (.iadd, 1) := by decide +kernel
theorem dX12_type_52 : decode cX12_type 52 = .ok (.iload_n 2, 1) := by decide +kernel
theorem dX12_type_53 : decode cX12_type 53 = .ok (.iastore, 1) := by decide +kernel
theorem dX12_type_54 : decode cX12_type 54 = .ok (.aload_n 0, 1) := by decide +kernel
theorem dX12_type_55 : decode cX12_type 55 = .ok (.getfield 7, 3) := by decide +kernel
theorem dX12_type_58 : decode cX12_type 58 = .ok (.iload_n 1, 1) := by decide +kernel
theorem dX12_type_59 : decode cX12_type 59 = .ok (.dup2, 1) := by decide +kernel
theorem dX12_type_60 : decode cX12_type 60 = .ok (.iaload, 1) := by decide +kernel
theorem dX12_type_61 : decode cX12_type 61 = .ok (.iconst 1, 1) := by decide +kernel
theorem dX12_type_62 : decode cX12_type 62 = .ok (.iadd, 1) := by decide +kernel
theorem dX12_type_63 : decode cX12_type 63 = .ok (.iastore, 1) := by decide +kernel
theorem dX12_type_64 : decode cX12_type 64 = .ok (.aload_n 0, 1) := by decide +kernel
theorem dX12_type_65 : decode cX12_type 65 = .ok (.getfield 7, 3) := by decide +kernel
theorem dX12_type_68 : decode cX12_type 68 = .ok (.iload_n 1, 1) := by decide +kernel
theorem dX12_type_69 : decode cX12_type 69 = .ok (.iaload, 1) := by decide +kernel
theorem dX12_type_70 : decode cX12_type 70 = .ok (.ireturn, 1) := by decide +kernel
theorem dX12_wipe_0 : decode cX12_wipe 0 = .ok (.iload_n 1, 1) := by decide +kernel
theorem dX12_wipe_1 : decode cX12_wipe 1 = .ok (.invokestatic 121, 3) := by decide +kernel
theorem dX12_wipe_4 : decode cX12_wipe 4 = .ok (.ifCond .ne 6, 3) := by decide +kernel
theorem dX12_wipe_7 : decode cX12_wipe 7 = .ok (.bipush (-2), 2) := by decide +kernel
theorem dX12_wipe_9 : decode cX12_wipe 9 = .ok (.ireturn, 1) := by decide +kernel
theorem dX12_wipe_10 : decode cX12_wipe 10 = .ok (.aload_n 0, 1) := by decide +kernel
theorem dX12_wipe_11 : decode cX12_wipe 11 = .ok (.getfield 7, 3) := by decide +kernel
theorem dX12_wipe_14 : decode cX12_wipe 14 = .ok (.iload_n 1, 1) := by decide +kernel
theorem dX12_wipe_15 : decode cX12_wipe 15 = .ok (.iaload, 1) := by decide +kernel
theorem dX12_wipe_16 : decode cX12_wipe 16 = .ok (.istore_n 2, 1) := by decide +kernel
theorem dX12_wipe_17 : decode cX12_wipe 17 = .ok (.aload_n 0, 1) := by decide +kernel
theorem dX12_wipe_18 : decode cX12_wipe 18 = .ok (.getfield 7, 3) := by decide +kernel
theorem dX12_wipe_21 : decode cX12_wipe 21 = .ok (.iload_n 1, 1) := by decide +kernel
theorem dX12_wipe_22 : decode cX12_wipe 22 = .ok (.iconst 0, 1) := by decide +kernel
theorem dX12_wipe_23 : decode cX12_wipe 23 = .ok (.iastore, 1) := by decide +kernel
theorem dX12_wipe_24 : decode cX12_wipe 24 = .ok (.iload_n 2, 1) := by decide +kernel
theorem dX12_wipe_25 : decode cX12_wipe 25 = .ok (.ireturn, 1) := by decide +kernel
theorem dX12_undo_0 : decode cX12_undo 0 = .ok (.iload_n 1, 1) := by decide +kernel
theorem dX12_undo_1 : decode cX12_undo 1 = .ok (.invokestatic 121, 3) := by decide +kernel
theorem dX12_undo_4 : decode cX12_undo 4 = .ok (.ifCond .ne 6, 3) := by decide +kernel
theorem dX12_undo_7 : decode cX12_undo 7 = .ok (.bipush (-2), 2) := by decide +kernel
theorem dX12_undo_9 : decode cX12_undo 9 = .ok (.ireturn, 1) := by decide +kernel
theorem dX12_undo_10 : decode cX12_undo 10 = .ok (.aload_n 0, 1) := by decide +kernel
theorem dX12_undo_11 : decode cX12_undo 11 = .ok (.getfield 7, 3) := by decide +kernel
theorem dX12_undo_14 : decode cX12_undo 14 = .ok (.iload_n 1, 1) := by decide +kernel
theorem dX12_undo_15 : decode cX12_undo 15 = .ok (.iaload, 1) := by decide +kernel
theorem dX12_undo_16 : decode cX12_undo 16 = .ok (.ifCond .ne 6, 3) := by decide +kernel
theorem dX12_undo_19 : decode cX12_undo 19 = .ok (.bipush (-3), 2) := by decide +kernel
theorem dX12_undo_21 : decode cX12_undo 21 = .ok (.ireturn, 1) := by decide +kernel
theorem dX12_undo_22 : decode cX12_undo 22 = .ok (.aload_n 0, 1) := by decide +kernel
theorem dX12_undo_23 : decode cX12_undo 23 = .ok (.getfield 7, 3) := by decide +kernel
theorem dX12_undo_26 : decode cX12_undo 26 = .ok (.iload_n 1, 1) := by decide +kernel
theorem dX12_undo_27 : decode cX12_undo 27 = .ok (.dup2, 1) := by decide +kernel
theorem dX12_undo_28 : decode cX12_undo 28 = .ok (.iaload, 1) := by decide +kernel
theorem dX12_undo_29 : decode cX12_undo 29 = .ok (.iconst 1, 1) := by decide +kernel
theorem dX12_undo_30 : decode cX12_undo 30 = .ok (.isub, 1) := by decide +kernel
theorem dX12_undo_31 : decode cX12_undo 31 = .ok (.iastore, 1) := by decide +kernel
theorem dX12_undo_32 : decode cX12_undo 32 = .ok (.aload_n 0, 1) := by decide +kernel
theorem dX12_undo_33 : decode cX12_undo 33 = .ok (.getfield 7, 3) := by decide +kernel
theorem dX12_undo_36 : decode cX12_undo 36 = .ok (.iload_n 1, 1) := by decide +kernel
theorem dX12_undo_37 : decode cX12_undo 37 = .ok (.iaload, 1) := by decide +kernel
theorem dX12_undo_38 : decode cX12_undo 38 = .ok (.ireturn, 1) := by decide +kernel
theorem dX12_read_0 : decode cX12_read 0 = .ok (.iload_n 1, 1) := by decide +kernel
theorem dX12_read_1 : decode cX12_read 1 = .ok (.invokestatic 121, 3) := by decide +kernel
theorem dX12_read_4 : decode cX12_read 4 = .ok (.ifCond .eq 10, 3) := by decide +kernel
theorem dX12_read_7 : decode cX12_read 7 = .ok (.iload_n 2, 1) := by decide +kernel
theorem dX12_read_8 : decode cX12_read 8 = .ok (.invokestatic 129, 3) := by decide +kernel
theorem dX12_read_11 : decode cX12_read 11 = .ok (.ifCond .ne 6, 3) := by decide +kernel
theorem dX12_read_14 : decode cX12_read 14 = .ok (.bipush (-2), 2) := by decide +kernel
theorem dX12_read_16 : decode cX12_read 16 = .ok (.ireturn, 1) := by decide +kernel
theorem dX12_read_17 : decode cX12_read 17 = .ok (.aload_n 0, 1) := by decide +kernel
theorem dX12_read_18 : decode cX12_read 18 = .ok (.getfield 91, 3) := by decide +kernel
theorem dX12_read_21 : decode cX12_read 21 = .ok (.iload_n 2, 1) := by decide +kernel
theorem dX12_read_22 : decode cX12_read 22 = .ok (.baload, 1) := by decide +kernel
theorem dX12_read_23 : decode cX12_read 23 = .ok (.ifCond .ne 9, 3) := by decide +kernel
theorem dX12_read_26 : decode cX12_read 26 = .ok (.aload_n 0, 1) := by decide +kernel
theorem dX12_read_27 : decode cX12_read 27 = .ok (.iconst 1, 1) := by decide +kernel
theorem dX12_read_28 : decode cX12_read 28 = .ok (.invokevirtual 132, 3) := by decide +kernel
theorem dX12_read_31 : decode cX12_read 31 = .ok (.ireturn, 1) := by decide +kernel
theorem dX12_read_32 : decode cX12_read 32 = .ok (.iconst 0, 1) := by decide +kernel
theorem dX12_read_33 : decode cX12_read 33 = .ok (.istore_n 3, 1) := by decide +kernel
theorem dX12_read_34 : decode cX12_read 34 = .ok (.iload_n 3, 1) := by decide +kernel
theorem dX12_read_35 : decode cX12_read 35 = .ok (.aload_n 0, 1) := by decide +kernel
theorem dX12_read_36 : decode cX12_read 36 = .ok (.getfield 98, 3) := by decide +kernel
theorem dX12_read_39 : decode cX12_read 39 = .ok (.iload_n 2, 1) := by decide +kernel
theorem dX12_read_40 : decode cX12_read 40 = .ok (.iaload, 1) := by decide +kernel
theorem dX12_read_41 : decode cX12_read 41 = .ok (.if_icmp .ge 28, 3) := by decide +kernel
theorem dX12_read_44 : decode cX12_read 44 = .ok (.aload_n 0, 1) := by decide +kernel
theorem dX12_read_45 : decode cX12_read 45 = .ok (.iload_n 1, 1) := by decide +kernel
theorem dX12_read_46 : decode cX12_read 46 = .ok (.aload_n 0, 1) := by decide +kernel
theorem dX12_read_47 : decode cX12_read 47 = .ok (.getfield 101, 3) := by decide +kernel
theorem dX12_read_50 : decode cX12_read 50 = .ok (.bipush 60, 2) := by decide +kernel
theorem dX12_read_52 : decode cX12_read 52 = .ok (.iload_n 2, 1) := by decide +kernel
theorem dX12_read_53 : decode cX12_read 53 = .ok (.imul, 1) := by decide +kernel
theorem dX12_read_54 : decode cX12_read 54 = .ok (.iload_n 3, 1) := by decide +kernel
theorem dX12_read_55 : decode cX12_read 55 = .ok (.iadd, 1) := by decide +kernel
theorem dX12_read_56 : decode cX12_read 56 = .ok (.iaload, 1) := by decide +kernel
theorem dX12_read_57 : decode cX12_read 57 = .ok (.invokevirtual 135, 3) := by decide +kernel
theorem dX12_read_60 : decode cX12_read 60 = .ok (.ifCond .le 9, 3) := by decide +kernel
theorem dX12_read_63 : decode cX12_read 63 = .ok (.iinc 3 1, 3) := by decide +kernel
theorem dX12_read_66 : decode cX12_read 66 = .ok (.goto (-32), 3) := by decide +kernel
theorem dX12_read_69 : decode cX12_read 69 = .ok (.iload_n 3, 1) := by decide +kernel
theorem dX12_read_70 : decode cX12_read 70 = .ok (.ireturn, 1) := by decide +kernel
theorem dX12_byteAt_0 : decode cX12_byteAt 0 = .ok (.iload_n 2, 1) := by decide +kernel
theorem dX12_byteAt_1 : decode cX12_byteAt 1 = .ok (.aload_n 0, 1) := by decide +kernel
theorem dX12_byteAt_2 : decode cX12_byteAt 2 = .ok (.getfield 7, 3) := by decide +kernel
theorem dX12_byteAt_5 : decode cX12_byteAt 5 = .ok (.iload_n 1, 1) := by decide +kernel
theorem dX12_byteAt_6 : decode cX12_byteAt 6 = .ok (.iaload, 1) := by decide +kernel
theorem dX12_byteAt_7 : decode cX12_byteAt 7 = .ok (.if_icmp .ge 17, 3) := by decide +kernel
theorem dX12_byteAt_10 : decode cX12_byteAt 10 = .ok (.aload_n 0, 1) := by decide +kernel
theorem dX12_byteAt_11 : decode cX12_byteAt 11 = .ok (.getfield 13, 3) := by decide +kernel
theorem dX12_byteAt_14 : decode cX12_byteAt 14 = .ok (.bipush 30, 2) := by decide +kernel
theorem dX12_byteAt_16 : decode cX12_byteAt 16 = .ok (.iload_n 1, 1) := by decide +kernel
theorem dX12_byteAt_17 : decode cX12_byteAt 17 = .ok (.imul, 1) := by decide +kernel
theorem dX12_byteAt_18 : decode cX12_byteAt 18 = .ok (.iload_n 2, 1) := by decide +kernel
theorem dX12_byteAt_19 : decode cX12_byteAt 19 = .ok (.iadd, 1) := by decide +kernel
theorem dX12_byteAt_20 : decode cX12_byteAt 20 = .ok (.iaload, 1) := by decide +kernel
theorem dX12_byteAt_21 : decode cX12_byteAt 21 = .ok (.goto 4, 3) := by decide +kernel
theorem dX12_byteAt_24 : decode cX12_byteAt 24 = .ok (.iconst (-1), 1) := by decide +kernel
theorem dX12_byteAt_25 : decode cX12_byteAt 25 = .ok (.ireturn, 1) := by decide +kernel
theorem dX12_valueAt_0 : decode cX12_valueAt 0 = .ok (.aload_n 0, 1) := by decide +kernel
theorem dX12_valueAt_1 : decode cX12_valueAt 1 = .ok (.iload_n 1, 1) := by decide +kernel
theorem dX12_valueAt_2 : decode cX12_valueAt 2 = .ok (.iload_n 2, 1) := by decide +kernel
theorem dX12_valueAt_3 : decode cX12_valueAt 3 = .ok (.invokevirtual 139, 3) := by decide +kernel
theorem dX12_valueAt_6 : decode cX12_valueAt 6 = .ok (.istore_n 3, 1) := by decide +kernel
theorem dX12_valueAt_7 : decode cX12_valueAt 7 = .ok (.iload_n 3, 1) := by decide +kernel
theorem dX12_valueAt_8 : decode cX12_valueAt 8 = .ok (.bipush 45, 2) := by decide +kernel
theorem dX12_valueAt_10 : decode cX12_valueAt 10 = .ok (.if_icmp .ne 7, 3) := by decide +kernel
theorem dX12_valueAt_13 : decode cX12_valueAt 13 = .ok (.iconst (-1), 1) := by decide +kernel
theorem dX12_valueAt_14 : decode cX12_valueAt 14 = .ok (.goto 23, 3) := by decide +kernel
theorem dX12_valueAt_17 : decode cX12_valueAt 17 = .ok (.iload_n 3, 1) := by decide +kernel
theorem dX12_valueAt_18 : decode cX12_valueAt 18 = .ok (.bipush 48, 2) := by decide +kernel
theorem dX12_valueAt_20 : decode cX12_valueAt 20 = .ok (.bipush 57, 2) := by decide +kernel
theorem dX12_valueAt_22 : decode cX12_valueAt 22 = .ok (.invokestatic 107, 3) := by decide +kernel
theorem dX12_valueAt_25 : decode cX12_valueAt 25 = .ok (.ifCond .eq 10, 3) := by decide +kernel
theorem dX12_valueAt_28 : decode cX12_valueAt 28 = .ok (.iload_n 3, 1) := by decide +kernel
theorem dX12_valueAt_29 : decode cX12_valueAt 29 = .ok (.bipush 48, 2) := by decide +kernel
theorem dX12_valueAt_31 : decode cX12_valueAt 31 = .ok (.isub, 1) := by decide +kernel
theorem dX12_valueAt_32 : decode cX12_valueAt 32 = .ok (.goto 5, 3) := by decide +kernel
theorem dX12_valueAt_35 : decode cX12_valueAt 35 = .ok (.bipush (-2), 2) := by decide +kernel
theorem dX12_valueAt_37 : decode cX12_valueAt 37 = .ok (.ireturn, 1) := by decide +kernel
theorem dX12_readsTable_0 : decode cX12_readsTable 0 = .ok (.aload_n 0, 1) := by decide +kernel
theorem dX12_readsTable_1 : decode cX12_readsTable 1 = .ok (.getfield 19, 3) := by decide +kernel
theorem dX12_readsTable_4 : decode cX12_readsTable 4 = .ok (.iload_n 1, 1) := by decide +kernel
theorem dX12_readsTable_5 : decode cX12_readsTable 5 = .ok (.iconst 0, 1) := by decide +kernel
theorem dX12_readsTable_6 : decode cX12_readsTable 6 = .ok (.iastore, 1) := by decide +kernel
theorem dX12_readsTable_7 : decode cX12_readsTable 7 = .ok (.iconst 0, 1) := by decide +kernel
theorem dX12_readsTable_8 : decode cX12_readsTable 8 = .ok (.istore_n 2, 1) := by decide +kernel
theorem dX12_readsTable_9 : decode cX12_readsTable 9 = .ok (.iconst 0, 1) := by decide +kernel
theorem dX12_readsTable_10 : decode cX12_readsTable 10 = .ok (.istore_n 3, 1) := by decide +kernel
theorem dX12_readsTable_11 : decode cX12_readsTable 11 = .ok (.iload_n 3, 1) := by decide +kernel
theorem dX12_readsTable_12 : decode cX12_readsTable 12 = .ok (.aload_n 0, 1) := by decide +kernel
theorem dX12_readsTable_13 : decode cX12_readsTable 13 = .ok (.getfield 7, 3) := by decide +kernel
theorem dX12_readsTable_16 : decode cX12_readsTable 16 = .ok (.iload_n 1, 1) := by decide +kernel
theorem dX12_readsTable_17 : decode cX12_readsTable 17 = .ok (.iaload, 1) := by decide +kernel
theorem dX12_readsTable_18 : decode cX12_readsTable 18 = .ok (.if_icmp .lt 7, 3) := by decide +kernel
theorem dX12_readsTable_21 : decode cX12_readsTable 21 = .ok (.iload_n 3, 1) := by decide +kernel
theorem dX12_readsTable_22 : decode cX12_readsTable 22 = .ok (.ifCond .le 117, 3) := by decide +kernel
theorem dX12_readsTable_25 : decode cX12_readsTable 25 = .ok (.aload_n 0, 1) := by decide +kernel
theorem dX12_readsTable_26 : decode cX12_readsTable 26 = .ok (.iload_n 1, 1) := by decide +kernel
theorem dX12_readsTable_27 : decode cX12_readsTable 27 = .ok (.iload_n 3, 1) := by decide +kernel
theorem dX12_readsTable_28 : decode cX12_readsTable 28 = .ok (.invokevirtual 142, 3) := by decide +kernel
theorem dX12_readsTable_31 : decode cX12_readsTable 31 = .ok (.istore 4, 2) := by decide +kernel
theorem dX12_readsTable_33 : decode cX12_readsTable 33 = .ok (.aload_n 0, 1) := by decide +kernel
theorem dX12_readsTable_34 : decode cX12_readsTable 34 = .ok (.iload_n 1, 1) := by decide +kernel
theorem dX12_readsTable_35 : decode cX12_readsTable 35 = .ok (.iload_n 3, 1) := by decide +kernel
theorem dX12_readsTable_36 : decode cX12_readsTable 36 = .ok (.iconst 1, 1) := by decide +kernel
theorem dX12_readsTable_37 : decode cX12_readsTable 37 = .ok (.iadd, 1) := by decide +kernel
theorem dX12_readsTable_38 : decode cX12_readsTable 38 = .ok (.invokevirtual 142, 3) := by decide +kernel
theorem dX12_readsTable_41 : decode cX12_readsTable 41 = .ok (.istore 5, 2) := by decide +kernel
theorem dX12_readsTable_43 : decode cX12_readsTable 43 = .ok (.iload_n 2, 1) := by decide +kernel
theorem dX12_readsTable_44 : decode cX12_readsTable 44 = .ok (.bipush 10, 2) := by decide +kernel
theorem dX12_readsTable_46 : decode cX12_readsTable 46 = .ok (.if_icmp .eq 10, 3) := by decide +kernel
theorem dX12_readsTable_49 : decode cX12_readsTable 49 = .ok (.iload 4, 2) := by decide +kernel
theorem dX12_readsTable_51 : decode cX12_readsTable 51 = .ok (.bipush (-2), 2) := by decide +kernel
theorem dX12_readsTable_53 : decode cX12_readsTable 53 = .ok (.if_icmp .ne 5, 3) := by decide +kernel
theorem dX12_readsTable_56 : decode cX12_readsTable 56 = .ok (.iload_n 3, 1) := by decide +kernel
theorem dX12_readsTable_57 : decode cX12_readsTable 57 = .ok (.ireturn, 1) := by decide +kernel
theorem dX12_readsTable_58 : decode cX12_readsTable 58 = .ok (.iload 5, 2) := by decide +kernel
theorem dX12_readsTable_60 : decode cX12_readsTable 60 = .ok (.bipush (-2), 2) := by decide +kernel
theorem dX12_readsTable_62 : decode cX12_readsTable 62 = .ok (.if_icmp .ne 7, 3) := by decide +kernel
theorem dX12_readsTable_65 : decode cX12_readsTable 65 = .ok (.iload_n 3, 1) := by decide +kernel
theorem dX12_readsTable_66 : decode cX12_readsTable 66 = .ok (.iconst 1, 1) := by decide +kernel
theorem dX12_readsTable_67 : decode cX12_readsTable 67 = .ok (.iadd, 1) := by decide +kernel
theorem dX12_readsTable_68 : decode cX12_readsTable 68 = .ok (.ireturn, 1) := by decide +kernel
theorem dX12_readsTable_69 : decode cX12_readsTable 69 = .ok (.aload_n 0, 1) := by decide +kernel
theorem dX12_readsTable_70 : decode cX12_readsTable 70 = .ok (.getfield 22, 3) := by decide +kernel
theorem dX12_readsTable_73 : decode cX12_readsTable 73 = .ok (.bipush 10, 2) := by decide +kernel
theorem dX12_readsTable_75 : decode cX12_readsTable 75 = .ok (.iload_n 1, 1) := by decide +kernel
theorem dX12_readsTable_76 : decode cX12_readsTable 76 = .ok (.imul, 1) := by decide +kernel
theorem dX12_readsTable_77 : decode cX12_readsTable 77 = .ok (.iload_n 2, 1) := by decide +kernel
theorem dX12_readsTable_78 : decode cX12_readsTable 78 = .ok (.iadd, 1) := by decide +kernel
theorem dX12_readsTable_79 : decode cX12_readsTable 79 = .ok (.iload 4, 2) := by decide +kernel
theorem dX12_readsTable_81 : decode cX12_readsTable 81 = .ok (.iastore, 1) := by decide +kernel
theorem dX12_readsTable_82 : decode cX12_readsTable 82 = .ok (.aload_n 0, 1) := by decide +kernel
theorem dX12_readsTable_83 : decode cX12_readsTable 83 = .ok (.getfield 25, 3) := by decide +kernel
theorem dX12_readsTable_86 : decode cX12_readsTable 86 = .ok (.bipush 10, 2) := by decide +kernel
theorem dX12_readsTable_88 : decode cX12_readsTable 88 = .ok (.iload_n 1, 1) := by decide +kernel
theorem dX12_readsTable_89 : decode cX12_readsTable 89 = .ok (.imul, 1) := by decide +kernel
theorem dX12_readsTable_90 : decode cX12_readsTable 90 = .ok (.iload_n 2, 1) := by decide +kernel
theorem dX12_readsTable_91 : decode cX12_readsTable 91 = .ok (.iadd, 1) := by decide +kernel
theorem dX12_readsTable_92 : decode cX12_readsTable 92 = .ok (.iload 5, 2) := by decide +kernel
theorem dX12_readsTable_94 : decode cX12_readsTable 94 = .ok (.iastore, 1) := by decide +kernel
theorem dX12_readsTable_95 : decode cX12_readsTable 95 = .ok (.iinc 2 1, 3) := by decide +kernel
theorem dX12_readsTable_98 : decode cX12_readsTable 98 = .ok (.iinc 3 2, 3) := by decide +kernel
theorem dX12_readsTable_101 : decode cX12_readsTable 101 = .ok (.iload_n 3, 1) := by decide +kernel
theorem dX12_readsTable_102 : decode cX12_readsTable 102 = .ok (.aload_n 0, 1) := by decide +kernel
theorem dX12_readsTable_103 : decode cX12_readsTable 103 = .ok (.getfield 7, 3) := by decide +kernel
theorem dX12_readsTable_106 : decode cX12_readsTable 106 = .ok (.iload_n 1, 1) := by decide +kernel
end
section
theorem dX12_readsTable_107 : decode cX12_readsTable 107 = .ok (.iaload, 1) := by decide +kernel
theorem dX12_readsTable_108 : decode cX12_readsTable 108 = .ok (.if_icmp .ne 12, 3) := by decide +kernel
theorem dX12_readsTable_111 : decode cX12_readsTable 111 = .ok (.aload_n 0, 1) := by decide +kernel
theorem dX12_readsTable_112 : decode cX12_readsTable 112 = .ok (.getfield 19, 3) := by decide +kernel
theorem dX12_readsTable_115 : decode cX12_readsTable 115 = .ok (.iload_n 1, 1) := by decide +kernel
theorem dX12_readsTable_116 : decode cX12_readsTable 116 = .ok (.iload_n 2, 1) := by decide +kernel
theorem dX12_readsTable_117 : decode cX12_readsTable 117 = .ok (.iastore, 1) := by decide +kernel
theorem dX12_readsTable_118 : decode cX12_readsTable 118 = .ok (.iconst (-1), 1) := by decide +kernel
theorem dX12_readsTable_119 : decode cX12_readsTable 119 = .ok (.ireturn, 1) := by decide +kernel
theorem dX12_readsTable_120 : decode cX12_readsTable 120 = .ok (.aload_n 0, 1) := by decide +kernel
theorem dX12_readsTable_121 : decode cX12_readsTable 121 = .ok (.iload_n 1, 1) := by decide +kernel
theorem dX12_readsTable_122 : decode cX12_readsTable 122 = .ok (.iload_n 3, 1) := by decide +kernel
theorem dX12_readsTable_123 : decode cX12_readsTable 123 = .ok (.invokevirtual 139, 3) := by decide +kernel
theorem dX12_readsTable_126 : decode cX12_readsTable 126 = .ok (.bipush 59, 2) := by decide +kernel
theorem dX12_readsTable_128 : decode cX12_readsTable 128 = .ok (.if_icmp .eq 5, 3) := by decide +kernel
theorem dX12_readsTable_131 : decode cX12_readsTable 131 = .ok (.iload_n 3, 1) := by decide +kernel
theorem dX12_readsTable_132 : decode cX12_readsTable 132 = .ok (.ireturn, 1) := by decide +kernel
theorem dX12_readsTable_133 : decode cX12_readsTable 133 = .ok (.iinc 3 1, 3) := by decide +kernel
theorem dX12_readsTable_136 : decode cX12_readsTable 136 = .ok (.goto (-125), 3) := by decide +kernel
theorem dX12_readsTable_139 : decode cX12_readsTable 139 = .ok (.iconst (-1), 1) := by decide +kernel
theorem dX12_readsTable_140 : decode cX12_readsTable 140 = .ok (.ireturn, 1) := by decide +kernel
theorem dX12_kindOf_0 : decode cX12_kindOf 0 = .ok (.iload_n 0, 1) := by decide +kernel
theorem dX12_kindOf_1 : decode cX12_kindOf 1 = .ok (.bipush 101, 2) := by decide +kernel
theorem dX12_kindOf_3 : decode cX12_kindOf 3 = .ok (.if_icmp .ne 7, 3) := by decide +kernel
theorem dX12_kindOf_6 : decode cX12_kindOf 6 = .ok (.iconst 1, 1) := by decide +kernel
theorem dX12_kindOf_7 : decode cX12_kindOf 7 = .ok (.goto 66, 3) := by decide +kernel
theorem dX12_kindOf_10 : decode cX12_kindOf 10 = .ok (.iload_n 0, 1) := by decide +kernel
theorem dX12_kindOf_11 : decode cX12_kindOf 11 = .ok (.bipush 108, 2) := by decide +kernel
theorem dX12_kindOf_13 : decode cX12_kindOf 13 = .ok (.if_icmp .ne 7, 3) := by decide +kernel
theorem dX12_kindOf_16 : decode cX12_kindOf 16 = .ok (.iconst 2, 1) := by decide +kernel
theorem dX12_kindOf_17 : decode cX12_kindOf 17 = .ok (.goto 56, 3) := by decide +kernel
theorem dX12_kindOf_20 : decode cX12_kindOf 20 = .ok (.iload_n 0, 1) := by decide +kernel
theorem dX12_kindOf_21 : decode cX12_kindOf 21 = .ok (.bipush 109, 2) := by decide +kernel
theorem dX12_kindOf_23 : decode cX12_kindOf 23 = .ok (.if_icmp .ne 7, 3) := by decide +kernel
theorem dX12_kindOf_26 : decode cX12_kindOf 26 = .ok (.iconst 3, 1) := by decide +kernel
theorem dX12_kindOf_27 : decode cX12_kindOf 27 = .ok (.goto 46, 3) := by decide +kernel
theorem dX12_kindOf_30 : decode cX12_kindOf 30 = .ok (.iload_n 0, 1) := by decide +kernel
theorem dX12_kindOf_31 : decode cX12_kindOf 31 = .ok (.bipush 117, 2) := by decide +kernel
theorem dX12_kindOf_33 : decode cX12_kindOf 33 = .ok (.if_icmp .ne 7, 3) := by decide +kernel
theorem dX12_kindOf_36 : decode cX12_kindOf 36 = .ok (.iconst 4, 1) := by decide +kernel
theorem dX12_kindOf_37 : decode cX12_kindOf 37 = .ok (.goto 36, 3) := by decide +kernel
theorem dX12_kindOf_40 : decode cX12_kindOf 40 = .ok (.iload_n 0, 1) := by decide +kernel
theorem dX12_kindOf_41 : decode cX12_kindOf 41 = .ok (.bipush 100, 2) := by decide +kernel
theorem dX12_kindOf_43 : decode cX12_kindOf 43 = .ok (.if_icmp .ne 7, 3) := by decide +kernel
theorem dX12_kindOf_46 : decode cX12_kindOf 46 = .ok (.iconst 5, 1) := by decide +kernel
theorem dX12_kindOf_47 : decode cX12_kindOf 47 = .ok (.goto 26, 3) := by decide +kernel
theorem dX12_kindOf_50 : decode cX12_kindOf 50 = .ok (.iload_n 0, 1) := by decide +kernel
theorem dX12_kindOf_51 : decode cX12_kindOf 51 = .ok (.bipush 103, 2) := by decide +kernel
theorem dX12_kindOf_53 : decode cX12_kindOf 53 = .ok (.if_icmp .ne 8, 3) := by decide +kernel
theorem dX12_kindOf_56 : decode cX12_kindOf 56 = .ok (.bipush 6, 2) := by decide +kernel
theorem dX12_kindOf_58 : decode cX12_kindOf 58 = .ok (.goto 15, 3) := by decide +kernel
theorem dX12_kindOf_61 : decode cX12_kindOf 61 = .ok (.iload_n 0, 1) := by decide +kernel
theorem dX12_kindOf_62 : decode cX12_kindOf 62 = .ok (.bipush 102, 2) := by decide +kernel
theorem dX12_kindOf_64 : decode cX12_kindOf 64 = .ok (.if_icmp .ne 8, 3) := by decide +kernel
theorem dX12_kindOf_67 : decode cX12_kindOf 67 = .ok (.bipush 7, 2) := by decide +kernel
theorem dX12_kindOf_69 : decode cX12_kindOf 69 = .ok (.goto 4, 3) := by decide +kernel
theorem dX12_kindOf_72 : decode cX12_kindOf 72 = .ok (.iconst (-1), 1) := by decide +kernel
theorem dX12_kindOf_73 : decode cX12_kindOf 73 = .ok (.ireturn, 1) := by decide +kernel
theorem dX12_readsSteps_0 : decode cX12_readsSteps 0 = .ok (.aload_n 0, 1) := by decide +kernel
theorem dX12_readsSteps_1 : decode cX12_readsSteps 1 = .ok (.iconst 0, 1) := by decide +kernel
theorem dX12_readsSteps_2 : decode cX12_readsSteps 2 = .ok (.putfield 145, 3) := by decide +kernel
theorem dX12_readsSteps_5 : decode cX12_readsSteps 5 = .ok (.iconst 0, 1) := by decide +kernel
theorem dX12_readsSteps_6 : decode cX12_readsSteps 6 = .ok (.istore_n 1, 1) := by decide +kernel
theorem dX12_readsSteps_7 : decode cX12_readsSteps 7 = .ok (.iconst 0, 1) := by decide +kernel
theorem dX12_readsSteps_8 : decode cX12_readsSteps 8 = .ok (.istore_n 2, 1) := by decide +kernel
theorem dX12_readsSteps_9 : decode cX12_readsSteps 9 = .ok (.iload_n 2, 1) := by decide +kernel
theorem dX12_readsSteps_10 : decode cX12_readsSteps 10 = .ok (.aload_n 0, 1) := by decide +kernel
theorem dX12_readsSteps_11 : decode cX12_readsSteps 11 = .ok (.getfield 7, 3) := by decide +kernel
theorem dX12_readsSteps_14 : decode cX12_readsSteps 14 = .ok (.iconst 2, 1) := by decide +kernel
theorem dX12_readsSteps_15 : decode cX12_readsSteps 15 = .ok (.iaload, 1) := by decide +kernel
theorem dX12_readsSteps_16 : decode cX12_readsSteps 16 = .ok (.if_icmp .ge 87, 3) := by decide +kernel
theorem dX12_readsSteps_19 : decode cX12_readsSteps 19 = .ok (.aload_n 0, 1) := by decide +kernel
theorem dX12_readsSteps_20 : decode cX12_readsSteps 20 = .ok (.iconst 2, 1) := by decide +kernel
theorem dX12_readsSteps_21 : decode cX12_readsSteps 21 = .ok (.iload_n 2, 1) := by decide +kernel
theorem dX12_readsSteps_22 : decode cX12_readsSteps 22 = .ok (.invokevirtual 139, 3) := by decide +kernel
theorem dX12_readsSteps_25 : decode cX12_readsSteps 25 = .ok (.invokestatic 149, 3) := by decide +kernel
theorem dX12_readsSteps_28 : decode cX12_readsSteps 28 = .ok (.istore_n 3, 1) := by decide +kernel
theorem dX12_readsSteps_29 : decode cX12_readsSteps 29 = .ok (.iload_n 3, 1) := by decide +kernel
theorem dX12_readsSteps_30 : decode cX12_readsSteps 30 = .ok (.iconst (-1), 1) := by decide +kernel
theorem dX12_readsSteps_31 : decode cX12_readsSteps 31 = .ok (.if_icmp .ne 5, 3) := by decide +kernel
theorem dX12_readsSteps_34 : decode cX12_readsSteps 34 = .ok (.iload_n 2, 1) := by decide +kernel
theorem dX12_readsSteps_35 : decode cX12_readsSteps 35 = .ok (.ireturn, 1) := by decide +kernel
theorem dX12_readsSteps_36 : decode cX12_readsSteps 36 = .ok (.iinc 2 1, 3) := by decide +kernel
theorem dX12_readsSteps_39 : decode cX12_readsSteps 39 = .ok (.iload_n 3, 1) := by decide +kernel
theorem dX12_readsSteps_40 : decode cX12_readsSteps 40 = .ok (.bipush 7, 2) := by decide +kernel
theorem dX12_readsSteps_42 : decode cX12_readsSteps 42 = .ok (.if_icmp .ne 15, 3) := by decide +kernel
theorem dX12_readsSteps_45 : decode cX12_readsSteps 45 = .ok (.aload_n 0, 1) := by decide +kernel
theorem dX12_readsSteps_46 : decode cX12_readsSteps 46 = .ok (.iconst 2, 1) := by decide +kernel
theorem dX12_readsSteps_47 : decode cX12_readsSteps 47 = .ok (.iload_n 2, 1) := by decide +kernel
theorem dX12_readsSteps_48 : decode cX12_readsSteps 48 = .ok (.invokevirtual 139, 3) := by decide +kernel
theorem dX12_readsSteps_51 : decode cX12_readsSteps 51 = .ok (.bipush 48, 2) := by decide +kernel
theorem dX12_readsSteps_53 : decode cX12_readsSteps 53 = .ok (.isub, 1) := by decide +kernel
theorem dX12_readsSteps_54 : decode cX12_readsSteps 54 = .ok (.goto 4, 3) := by decide +kernel
theorem dX12_readsSteps_57 : decode cX12_readsSteps 57 = .ok (.iconst (-1), 1) := by decide +kernel
theorem dX12_readsSteps_58 : decode cX12_readsSteps 58 = .ok (.istore 4, 2) := by decide +kernel
theorem dX12_readsSteps_60 : decode cX12_readsSteps 60 = .ok (.iload_n 3, 1) := by decide +kernel
theorem dX12_readsSteps_61 : decode cX12_readsSteps 61 = .ok (.bipush 7, 2) := by decide +kernel
theorem dX12_readsSteps_63 : decode cX12_readsSteps 63 = .ok (.if_icmp .ne 19, 3) := by decide +kernel
theorem dX12_readsSteps_66 : decode cX12_readsSteps 66 = .ok (.iload 4, 2) := by decide +kernel
theorem dX12_readsSteps_68 : decode cX12_readsSteps 68 = .ok (.iconst 0, 1) := by decide +kernel
theorem dX12_readsSteps_69 : decode cX12_readsSteps 69 = .ok (.bipush 9, 2) := by decide +kernel
theorem dX12_readsSteps_71 : decode cX12_readsSteps 71 = .ok (.invokestatic 107, 3) := by decide +kernel
theorem dX12_readsSteps_74 : decode cX12_readsSteps 74 = .ok (.ifCond .ne 5, 3) := by decide +kernel
theorem dX12_readsSteps_77 : decode cX12_readsSteps 77 = .ok (.iload_n 2, 1) := by decide +kernel
theorem dX12_readsSteps_78 : decode cX12_readsSteps 78 = .ok (.ireturn, 1) := by decide +kernel
theorem dX12_readsSteps_79 : decode cX12_readsSteps 79 = .ok (.iinc 2 1, 3) := by decide +kernel
theorem dX12_readsSteps_82 : decode cX12_readsSteps 82 = .ok (.aload_n 0, 1) := by decide +kernel
theorem dX12_readsSteps_83 : decode cX12_readsSteps 83 = .ok (.getfield 28, 3) := by decide +kernel
theorem dX12_readsSteps_86 : decode cX12_readsSteps 86 = .ok (.iload_n 1, 1) := by decide +kernel
theorem dX12_readsSteps_87 : decode cX12_readsSteps 87 = .ok (.iload_n 3, 1) := by decide +kernel
theorem dX12_readsSteps_88 : decode cX12_readsSteps 88 = .ok (.iastore, 1) := by decide +kernel
theorem dX12_readsSteps_89 : decode cX12_readsSteps 89 = .ok (.aload_n 0, 1) := by decide +kernel
theorem dX12_readsSteps_90 : decode cX12_readsSteps 90 = .ok (.getfield 31, 3) := by decide +kernel
theorem dX12_readsSteps_93 : decode cX12_readsSteps 93 = .ok (.iload_n 1, 1) := by decide +kernel
theorem dX12_readsSteps_94 : decode cX12_readsSteps 94 = .ok (.iload 4, 2) := by decide +kernel
theorem dX12_readsSteps_96 : decode cX12_readsSteps 96 = .ok (.iastore, 1) := by decide +kernel
theorem dX12_readsSteps_97 : decode cX12_readsSteps 97 = .ok (.iinc 1 1, 3) := by decide +kernel
theorem dX12_readsSteps_100 : decode cX12_readsSteps 100 = .ok (.goto (-91), 3) := by decide +kernel
theorem dX12_readsSteps_103 : decode cX12_readsSteps 103 = .ok (.aload_n 0, 1) := by decide +kernel
theorem dX12_readsSteps_104 : decode cX12_readsSteps 104 = .ok (.iload_n 1, 1) := by decide +kernel
theorem dX12_readsSteps_105 : decode cX12_readsSteps 105 = .ok (.putfield 145, 3) := by decide +kernel
theorem dX12_readsSteps_108 : decode cX12_readsSteps 108 = .ok (.iconst (-1), 1) := by decide +kernel
theorem dX12_readsSteps_109 : decode cX12_readsSteps 109 = .ok (.ireturn, 1) := by decide +kernel
theorem dX12_reads_0 : decode cX12_reads 0 = .ok (.aload_n 0, 1) := by decide +kernel
theorem dX12_reads_1 : decode cX12_reads 1 = .ok (.getfield 16, 3) := by decide +kernel
theorem dX12_reads_4 : decode cX12_reads 4 = .ok (.iconst 0, 1) := by decide +kernel
theorem dX12_reads_5 : decode cX12_reads 5 = .ok (.aload_n 0, 1) := by decide +kernel
theorem dX12_reads_6 : decode cX12_reads 6 = .ok (.iconst 0, 1) := by decide +kernel
theorem dX12_reads_7 : decode cX12_reads 7 = .ok (.invokevirtual 152, 3) := by decide +kernel
theorem dX12_reads_10 : decode cX12_reads 10 = .ok (.iastore, 1) := by decide +kernel
theorem dX12_reads_11 : decode cX12_reads 11 = .ok (.aload_n 0, 1) := by decide +kernel
theorem dX12_reads_12 : decode cX12_reads 12 = .ok (.getfield 16, 3) := by decide +kernel
theorem dX12_reads_15 : decode cX12_reads 15 = .ok (.iconst 1, 1) := by decide +kernel
theorem dX12_reads_16 : decode cX12_reads 16 = .ok (.aload_n 0, 1) := by decide +kernel
theorem dX12_reads_17 : decode cX12_reads 17 = .ok (.iconst 1, 1) := by decide +kernel
theorem dX12_reads_18 : decode cX12_reads 18 = .ok (.invokevirtual 152, 3) := by decide +kernel
theorem dX12_reads_21 : decode cX12_reads 21 = .ok (.iastore, 1) := by decide +kernel
theorem dX12_reads_22 : decode cX12_reads 22 = .ok (.aload_n 0, 1) := by decide +kernel
theorem dX12_reads_23 : decode cX12_reads 23 = .ok (.getfield 16, 3) := by decide +kernel
theorem dX12_reads_26 : decode cX12_reads 26 = .ok (.iconst 2, 1) := by decide +kernel
theorem dX12_reads_27 : decode cX12_reads 27 = .ok (.aload_n 0, 1) := by decide +kernel
theorem dX12_reads_28 : decode cX12_reads 28 = .ok (.invokevirtual 155, 3) := by decide +kernel
theorem dX12_reads_31 : decode cX12_reads 31 = .ok (.iastore, 1) := by decide +kernel
theorem dX12_reads_32 : decode cX12_reads 32 = .ok (.return_, 1) := by decide +kernel
theorem dX12_faultOf_0 : decode cX12_faultOf 0 = .ok (.aload_n 0, 1) := by decide +kernel
theorem dX12_faultOf_1 : decode cX12_faultOf 1 = .ok (.invokevirtual 159, 3) := by decide +kernel
theorem dX12_faultOf_4 : decode cX12_faultOf 4 = .ok (.aload_n 0, 1) := by decide +kernel
theorem dX12_faultOf_5 : decode cX12_faultOf 5 = .ok (.getfield 16, 3) := by decide +kernel
theorem dX12_faultOf_8 : decode cX12_faultOf 8 = .ok (.iload_n 1, 1) := by decide +kernel
theorem dX12_faultOf_9 : decode cX12_faultOf 9 = .ok (.iaload, 1) := by decide +kernel
theorem dX12_faultOf_10 : decode cX12_faultOf 10 = .ok (.ireturn, 1) := by decide +kernel
theorem dX12_fault_0 : decode cX12_fault 0 = .ok (.iload_n 1, 1) := by decide +kernel
theorem dX12_fault_1 : decode cX12_fault 1 = .ok (.invokestatic 121, 3) := by decide +kernel
theorem dX12_fault_4 : decode cX12_fault 4 = .ok (.ifCond .eq 11, 3) := by decide +kernel
theorem dX12_fault_7 : decode cX12_fault 7 = .ok (.aload_n 0, 1) := by decide +kernel
theorem dX12_fault_8 : decode cX12_fault 8 = .ok (.iload_n 1, 1) := by decide +kernel
theorem dX12_fault_9 : decode cX12_fault 9 = .ok (.invokevirtual 162, 3) := by decide +kernel
theorem dX12_fault_12 : decode cX12_fault 12 = .ok (.goto 5, 3) := by decide +kernel
theorem dX12_fault_15 : decode cX12_fault 15 = .ok (.bipush (-2), 2) := by decide +kernel
theorem dX12_fault_17 : decode cX12_fault 17 = .ok (.ireturn, 1) := by decide +kernel
theorem dX12_rowOf_0 : decode cX12_rowOf 0 = .ok (.aload_n 0, 1) := by decide +kernel
theorem dX12_rowOf_1 : decode cX12_rowOf 1 = .ok (.invokevirtual 159, 3) := by decide +kernel
theorem dX12_rowOf_4 : decode cX12_rowOf 4 = .ok (.iload_n 2, 1) := by decide +kernel
theorem dX12_rowOf_5 : decode cX12_rowOf 5 = .ok (.aload_n 0, 1) := by decide +kernel
theorem dX12_rowOf_6 : decode cX12_rowOf 6 = .ok (.getfield 19, 3) := by decide +kernel
theorem dX12_rowOf_9 : decode cX12_rowOf 9 = .ok (.iload_n 1, 1) := by decide +kernel
theorem dX12_rowOf_10 : decode cX12_rowOf 10 = .ok (.iaload, 1) := by decide +kernel
theorem dX12_rowOf_11 : decode cX12_rowOf 11 = .ok (.if_icmp .lt 8, 3) := by decide +kernel
theorem dX12_rowOf_14 : decode cX12_rowOf 14 = .ok (.bipush (-2), 2) := by decide +kernel
theorem dX12_rowOf_16 : decode cX12_rowOf 16 = .ok (.goto 32, 3) := by decide +kernel
theorem dX12_rowOf_19 : decode cX12_rowOf 19 = .ok (.iload_n 3, 1) := by decide +kernel
theorem dX12_rowOf_20 : decode cX12_rowOf 20 = .ok (.ifCond .ne 17, 3) := by decide +kernel
theorem dX12_rowOf_23 : decode cX12_rowOf 23 = .ok (.aload_n 0, 1) := by decide +kernel
theorem dX12_rowOf_24 : decode cX12_rowOf 24 = .ok (.getfield 22, 3) := by decide +kernel
theorem dX12_rowOf_27 : decode cX12_rowOf 27 = .ok (.bipush 10, 2) := by decide +kernel
theorem dX12_rowOf_29 : decode cX12_rowOf 29 = .ok (.iload_n 1, 1) := by decide +kernel
theorem dX12_rowOf_30 : decode cX12_rowOf 30 = .ok (.imul, 1) := by decide +kernel
theorem dX12_rowOf_31 : decode cX12_rowOf 31 = .ok (.iload_n 2, 1) := by decide +kernel
theorem dX12_rowOf_32 : decode cX12_rowOf 32 = .ok (.iadd, 1) := by decide +kernel
theorem dX12_rowOf_33 : decode cX12_rowOf 33 = .ok (.iaload, 1) := by decide +kernel
theorem dX12_rowOf_34 : decode cX12_rowOf 34 = .ok (.goto 14, 3) := by decide +kernel
theorem dX12_rowOf_37 : decode cX12_rowOf 37 = .ok (.aload_n 0, 1) := by decide +kernel
theorem dX12_rowOf_38 : decode cX12_rowOf 38 = .ok (.getfield 25, 3) := by decide +kernel
theorem dX12_rowOf_41 : decode cX12_rowOf 41 = .ok (.bipush 10, 2) := by decide +kernel
theorem dX12_rowOf_43 : decode cX12_rowOf 43 = .ok (.iload_n 1, 1) := by decide +kernel
theorem dX12_rowOf_44 : decode cX12_rowOf 44 = .ok (.imul, 1) := by decide +kernel
theorem dX12_rowOf_45 : decode cX12_rowOf 45 = .ok (.iload_n 2, 1) := by decide +kernel
theorem dX12_rowOf_46 : decode cX12_rowOf 46 = .ok (.iadd, 1) := by decide +kernel
theorem dX12_rowOf_47 : decode cX12_rowOf 47 = .ok (.iaload, 1) := by decide +kernel
theorem dX12_rowOf_48 : decode cX12_rowOf 48 = .ok (.ireturn, 1) := by decide +kernel
theorem dX12_row_0 : decode cX12_row 0 = .ok (.iload_n 1, 1) := by decide +kernel
theorem dX12_row_1 : decode cX12_row 1 = .ok (.invokestatic 165, 3) := by decide +kernel
theorem dX12_row_4 : decode cX12_row 4 = .ok (.ifCond .eq 30, 3) := by decide +kernel
theorem dX12_row_7 : decode cX12_row 7 = .ok (.iload_n 2, 1) := by decide +kernel
theorem dX12_row_8 : decode cX12_row 8 = .ok (.iconst 0, 1) := by decide +kernel
theorem dX12_row_9 : decode cX12_row 9 = .ok (.bipush 9, 2) := by decide +kernel
theorem dX12_row_11 : decode cX12_row 11 = .ok (.invokestatic 107, 3) := by decide +kernel
theorem dX12_row_14 : decode cX12_row 14 = .ok (.ifCond .eq 20, 3) := by decide +kernel
theorem dX12_row_17 : decode cX12_row 17 = .ok (.iload_n 3, 1) := by decide +kernel
theorem dX12_row_18 : decode cX12_row 18 = .ok (.invokestatic 165, 3) := by decide +kernel
theorem dX12_row_21 : decode cX12_row 21 = .ok (.ifCond .eq 13, 3) := by decide +kernel
theorem dX12_row_24 : decode cX12_row 24 = .ok (.aload_n 0, 1) := by decide +kernel
theorem dX12_row_25 : decode cX12_row 25 = .ok (.iload_n 1, 1) := by decide +kernel
theorem dX12_row_26 : decode cX12_row 26 = .ok (.iload_n 2, 1) := by decide +kernel
theorem dX12_row_27 : decode cX12_row 27 = .ok (.iload_n 3, 1) := by decide +kernel
theorem dX12_row_28 : decode cX12_row 28 = .ok (.invokevirtual 168, 3) := by decide +kernel
theorem dX12_row_31 : decode cX12_row 31 = .ok (.goto 5, 3) := by decide +kernel
theorem dX12_row_34 : decode cX12_row 34 = .ok (.bipush (-2), 2) := by decide +kernel
theorem dX12_row_36 : decode cX12_row 36 = .ok (.ireturn, 1) := by decide +kernel
theorem dX12_stepOf_0 : decode cX12_stepOf 0 = .ok (.aload_n 0, 1) := by decide +kernel
theorem dX12_stepOf_1 : decode cX12_stepOf 1 = .ok (.invokevirtual 159, 3) := by decide +kernel
theorem dX12_stepOf_4 : decode cX12_stepOf 4 = .ok (.iload_n 1, 1) := by decide +kernel
theorem dX12_stepOf_5 : decode cX12_stepOf 5 = .ok (.aload_n 0, 1) := by decide +kernel
theorem dX12_stepOf_6 : decode cX12_stepOf 6 = .ok (.getfield 145, 3) := by decide +kernel
theorem dX12_stepOf_9 : decode cX12_stepOf 9 = .ok (.if_icmp .lt 8, 3) := by decide +kernel
theorem dX12_stepOf_12 : decode cX12_stepOf 12 = .ok (.bipush (-2), 2) := by decide +kernel
theorem dX12_stepOf_14 : decode cX12_stepOf 14 = .ok (.goto 22, 3) := by decide +kernel
theorem dX12_stepOf_17 : decode cX12_stepOf 17 = .ok (.iload_n 2, 1) := by decide +kernel
theorem dX12_stepOf_18 : decode cX12_stepOf 18 = .ok (.ifCond .ne 12, 3) := by decide +kernel
theorem dX12_stepOf_21 : decode cX12_stepOf 21 = .ok (.aload_n 0, 1) := by decide +kernel
theorem dX12_stepOf_22 : decode cX12_stepOf 22 = .ok (.getfield 28, 3) := by decide +kernel
theorem dX12_stepOf_25 : decode cX12_stepOf 25 = .ok (.iload_n 1, 1) := by decide +kernel
theorem dX12_stepOf_26 : decode cX12_stepOf 26 = .ok (.iaload, 1) := by decide +kernel
theorem dX12_stepOf_27 : decode cX12_stepOf 27 = .ok (.goto 9, 3) := by decide +kernel
theorem dX12_stepOf_30 : decode cX12_stepOf 30 = .ok (.aload_n 0, 1) := by decide +kernel
theorem dX12_stepOf_31 : decode cX12_stepOf 31 = .ok (.getfield 31, 3) := by decide +kernel
theorem dX12_stepOf_34 : decode cX12_stepOf 34 = .ok (.iload_n 1, 1) := by decide +kernel
theorem dX12_stepOf_35 : decode cX12_stepOf 35 = .ok (.iaload, 1) := by decide +kernel
theorem dX12_stepOf_36 : decode cX12_stepOf 36 = .ok (.ireturn, 1) := by decide +kernel
theorem dX12_step_0 : decode cX12_step 0 = .ok (.iload_n 1, 1) := by decide +kernel
theorem dX12_step_1 : decode cX12_step 1 = .ok (.iconst 0, 1) := by decide +kernel
theorem dX12_step_2 : decode cX12_step 2 = .ok (.bipush 11, 2) := by decide +kernel
theorem dX12_step_4 : decode cX12_step 4 = .ok (.invokestatic 107, 3) := by decide +kernel
theorem dX12_step_7 : decode cX12_step 7 = .ok (.ifCond .eq 19, 3) := by decide +kernel
theorem dX12_step_10 : decode cX12_step 10 = .ok (.iload_n 2, 1) := by decide +kernel
theorem dX12_step_11 : decode cX12_step 11 = .ok (.invokestatic 165, 3) := by decide +kernel
theorem dX12_step_14 : decode cX12_step 14 = .ok (.ifCond .eq 12, 3) := by decide +kernel
theorem dX12_step_17 : decode cX12_step 17 = .ok (.aload_n 0, 1) := by decide +kernel
theorem dX12_step_18 : decode cX12_step 18 = .ok (.iload_n 1, 1) := by decide +kernel
theorem dX12_step_19 : decode cX12_step 19 = .ok (.iload_n 2, 1) := by decide +kernel
theorem dX12_step_20 : decode cX12_step 20 = .ok (.invokevirtual 172, 3) := by decide +kernel
theorem dX12_step_23 : decode cX12_step 23 = .ok (.goto 5, 3) := by decide +kernel
theorem dX12_step_26 : decode cX12_step 26 = .ok (.bipush (-2), 2) := by decide +kernel
theorem dX12_step_28 : decode cX12_step 28 = .ok (.ireturn, 1) := by decide +kernel
theorem dX12_end_0 : decode cX12_end 0 = .ok (.iload_n 1, 1) := by decide +kernel
theorem dX12_end_1 : decode cX12_end 1 = .ok (.iconst 0, 1) := by decide +kernel
theorem dX12_end_2 : decode cX12_end 2 = .ok (.bipush 8, 2) := by decide +kernel
theorem dX12_end_4 : decode cX12_end 4 = .ok (.invokestatic 107, 3) := by decide +kernel
theorem dX12_end_7 : decode cX12_end 7 = .ok (.ifCond .ne 6, 3) := by decide +kernel
theorem dX12_end_10 : decode cX12_end 10 = .ok (.bipush (-2), 2) := by decide +kernel
theorem dX12_end_12 : decode cX12_end 12 = .ok (.ireturn, 1) := by decide +kernel
theorem dX12_end_13 : decode cX12_end 13 = .ok (.aload_n 0, 1) := by decide +kernel
theorem dX12_end_14 : decode cX12_end 14 = .ok (.getfield 175, 3) := by decide +kernel
theorem dX12_end_17 : decode cX12_end 17 = .ok (.istore_n 2, 1) := by decide +kernel
theorem dX12_end_18 : decode cX12_end 18 = .ok (.aload_n 0, 1) := by decide +kernel
theorem dX12_end_19 : decode cX12_end 19 = .ok (.iload_n 1, 1) := by decide +kernel
theorem dX12_end_20 : decode cX12_end 20 = .ok (.putfield 175, 3) := by decide +kernel
theorem dX12_end_23 : decode cX12_end 23 = .ok (.iload_n 2, 1) := by decide +kernel
theorem dX12_end_24 : decode cX12_end 24 = .ok (.ireturn, 1) := by decide +kernel
theorem dX12_logs_0 : decode cX12_logs 0 = .ok (.aload_n 0, 1) := by decide +kernel
theorem dX12_logs_1 : decode cX12_logs 1 = .ok (.getfield 43, 3) := by decide +kernel
theorem dX12_logs_4 : decode cX12_logs 4 = .ok (.iload_n 1, 1) := by decide +kernel
theorem dX12_logs_5 : decode cX12_logs 5 = .ok (.iaload, 1) := by decide +kernel
theorem dX12_logs_6 : decode cX12_logs 6 = .ok (.sipush 200, 3) := by decide +kernel
theorem dX12_logs_9 : decode cX12_logs 9 = .ok (.if_icmp .ge 31, 3) := by decide +kernel
theorem dX12_logs_12 : decode cX12_logs 12 = .ok (.aload_n 0, 1) := by decide +kernel
theorem dX12_logs_13 : decode cX12_logs 13 = .ok (.getfield 46, 3) := by decide +kernel
theorem dX12_logs_16 : decode cX12_logs 16 = .ok (.sipush 200, 3) := by decide +kernel
theorem dX12_logs_19 : decode cX12_logs 19 = .ok (.iload_n 1, 1) := by decide +kernel
theorem dX12_logs_20 : decode cX12_logs 20 = .ok (.imul, 1) := by decide +kernel
theorem dX12_logs_21 : decode cX12_logs 21 = .ok (.aload_n 0, 1) := by decide +kernel
theorem dX12_logs_22 : decode cX12_logs 22 = .ok (.getfield 43, 3) := by decide +kernel
theorem dX12_logs_25 : decode cX12_logs 25 = .ok (.iload_n 1, 1) := by decide +kernel
theorem dX12_logs_26 : decode cX12_logs 26 = .ok (.iaload, 1) := by decide +kernel
theorem dX12_logs_27 : decode cX12_logs 27 = .ok (.iadd, 1) := by decide +kernel
theorem dX12_logs_28 : decode cX12_logs 28 = .ok (.iload_n 2, 1) := by decide +kernel
theorem dX12_logs_29 : decode cX12_logs 29 = .ok (.iastore, 1) := by decide +kernel
theorem dX12_logs_30 : decode cX12_logs 30 = .ok (.aload_n 0, 1) := by decide +kernel
theorem dX12_logs_31 : decode cX12_logs 31 = .ok (.getfield 43, 3) := by decide +kernel
theorem dX12_logs_34 : decode cX12_logs 34 = .ok (.iload_n 1, 1) := by decide +kernel
theorem dX12_logs_35 : decode cX12_logs 35 = .ok (.dup2, 1) := by decide +kernel
theorem dX12_logs_36 : decode cX12_logs 36 = .ok (.iaload, 1) := by decide +kernel
theorem dX12_logs_37 : decode cX12_logs 37 = .ok (.iconst 1, 1) := by decide +kernel
theorem dX12_logs_38 : decode cX12_logs 38 = .ok (.iadd, 1) := by decide +kernel
theorem dX12_logs_39 : decode cX12_logs 39 = .ok (.iastore, 1) := by decide +kernel
theorem dX12_logs_40 : decode cX12_logs 40 = .ok (.return_, 1) := by decide +kernel
theorem dX12_puts_0 : decode cX12_puts 0 = .ok (.aload_n 0, 1) := by decide +kernel
theorem dX12_puts_1 : decode cX12_puts 1 = .ok (.getfield 58, 3) := by decide +kernel
theorem dX12_puts_4 : decode cX12_puts 4 = .ok (.aload_n 0, 1) := by decide +kernel
theorem dX12_puts_5 : decode cX12_puts 5 = .ok (.getfield 178, 3) := by decide +kernel
theorem dX12_puts_8 : decode cX12_puts 8 = .ok (.iload_n 1, 1) := by decide +kernel
theorem dX12_puts_9 : decode cX12_puts 9 = .ok (.iastore, 1) := by decide +kernel
theorem dX12_puts_10 : decode cX12_puts 10 = .ok (.aload_n 0, 1) := by decide +kernel
theorem dX12_puts_11 : decode cX12_puts 11 = .ok (.getfield 61, 3) := by decide +kernel
theorem dX12_puts_14 : decode cX12_puts 14 = .ok (.aload_n 0, 1) := by decide +kernel
theorem dX12_puts_15 : decode cX12_puts 15 = .ok (.getfield 178, 3) := by decide +kernel
theorem dX12_puts_18 : decode cX12_puts 18 = .ok (.iload_n 2, 1) := by decide +kernel
theorem dX12_puts_19 : decode cX12_puts 19 = .ok (.iastore, 1) := by decide +kernel
theorem dX12_puts_20 : decode cX12_puts 20 = .ok (.aload_n 0, 1) := by decide +kernel
theorem dX12_puts_21 : decode cX12_puts 21 = .ok (.getfield 64, 3) := by decide +kernel
theorem dX12_puts_24 : decode cX12_puts 24 = .ok (.aload_n 0, 1) := by decide +kernel
theorem dX12_puts_25 : decode cX12_puts 25 = .ok (.getfield 178, 3) := by decide +kernel
theorem dX12_puts_28 : decode cX12_puts 28 = .ok (.iload_n 3, 1) := by decide +kernel
theorem dX12_puts_29 : decode cX12_puts 29 = .ok (.iastore, 1) := by decide +kernel
theorem dX12_puts_30 : decode cX12_puts 30 = .ok (.aload_n 0, 1) := by decide +kernel
theorem dX12_puts_31 : decode cX12_puts 31 = .ok (.dup, 1) := by decide +kernel
theorem dX12_puts_32 : decode cX12_puts 32 = .ok (.getfield 178, 3) := by decide +kernel
theorem dX12_puts_35 : decode cX12_puts 35 = .ok (.iconst 1, 1) := by decide +kernel
theorem dX12_puts_36 : decode cX12_puts 36 = .ok (.iadd, 1) := by decide +kernel
theorem dX12_puts_37 : decode cX12_puts 37 = .ok (.putfield 178, 3) := by decide +kernel
theorem dX12_puts_40 : decode cX12_puts 40 = .ok (.return_, 1) := by decide +kernel
theorem dX12_comesIn_0 : decode cX12_comesIn 0 = .ok (.aload_n 0, 1) := by decide +kernel
theorem dX12_comesIn_1 : decode cX12_comesIn 1 = .ok (.aload_n 0, 1) := by decide +kernel
theorem dX12_comesIn_2 : decode cX12_comesIn 2 = .ok (.getfield 178, 3) := by decide +kernel
theorem dX12_comesIn_5 : decode cX12_comesIn 5 = .ok (.putfield 181, 3) := by decide +kernel
theorem dX12_comesIn_8 : decode cX12_comesIn 8 = .ok (.iconst 0, 1) := by decide +kernel
theorem dX12_comesIn_9 : decode cX12_comesIn 9 = .ok (.istore_n 1, 1) := by decide +kernel
theorem dX12_comesIn_10 : decode cX12_comesIn 10 = .ok (.iload_n 1, 1) := by decide +kernel
theorem dX12_comesIn_11 : decode cX12_comesIn 11 = .ok (.aload_n 0, 1) := by decide +kernel
theorem dX12_comesIn_12 : decode cX12_comesIn 12 = .ok (.getfield 181, 3) := by decide +kernel
theorem dX12_comesIn_15 : decode cX12_comesIn 15 = .ok (.if_icmp .ge 45, 3) := by decide +kernel
theorem dX12_comesIn_18 : decode cX12_comesIn 18 = .ok (.aload_n 0, 1) := by decide +kernel
theorem dX12_comesIn_19 : decode cX12_comesIn 19 = .ok (.getfield 49, 3) := by decide +kernel
theorem dX12_comesIn_22 : decode cX12_comesIn 22 = .ok (.iload_n 1, 1) := by decide +kernel
theorem dX12_comesIn_23 : decode cX12_comesIn 23 = .ok (.aload_n 0, 1) := by decide +kernel
theorem dX12_comesIn_24 : decode cX12_comesIn 24 = .ok (.getfield 58, 3) := by decide +kernel
theorem dX12_comesIn_27 : decode cX12_comesIn 27 = .ok (.iload_n 1, 1) := by decide +kernel
theorem dX12_comesIn_28 : decode cX12_comesIn 28 = .ok (.iaload, 1) := by decide +kernel
theorem dX12_comesIn_29 : decode cX12_comesIn 29 = .ok (.iastore, 1) := by decide +kernel
theorem dX12_comesIn_30 : decode cX12_comesIn 30 = .ok (.aload_n 0, 1) := by decide +kernel
theorem dX12_comesIn_31 : decode cX12_comesIn 31 = .ok (.getfield 52, 3) := by decide +kernel
theorem dX12_comesIn_34 : decode cX12_comesIn 34 = .ok (.iload_n 1, 1) := by decide +kernel
theorem dX12_comesIn_35 : decode cX12_comesIn 35 = .ok (.aload_n 0, 1) := by decide +kernel
theorem dX12_comesIn_36 : decode cX12_comesIn 36 = .ok (.getfield 61, 3) := by decide +kernel
theorem dX12_comesIn_39 : decode cX12_comesIn 39 = .ok (.iload_n 1, 1) := by decide +kernel
theorem dX12_comesIn_40 : decode cX12_comesIn 40 = .ok (.iaload, 1) := by decide +kernel
theorem dX12_comesIn_41 : decode cX12_comesIn 41 = .ok (.iastore, 1) := by decide +kernel
theorem dX12_comesIn_42 : decode cX12_comesIn 42 = .ok (.aload_n 0, 1) := by decide +kernel
theorem dX12_comesIn_43 : decode cX12_comesIn 43 = .ok (.getfield 55, 3) := by decide +kernel
theorem dX12_comesIn_46 : decode cX12_comesIn 46 = .ok (.iload_n 1, 1) := by decide +kernel
theorem dX12_comesIn_47 : decode cX12_comesIn 47 = .ok (.aload_n 0, 1) := by decide +kernel
theorem dX12_comesIn_48 : decode cX12_comesIn 48 = .ok (.getfield 64, 3) := by decide +kernel
theorem dX12_comesIn_51 : decode cX12_comesIn 51 = .ok (.iload_n 1, 1) := by decide +kernel
theorem dX12_comesIn_52 : decode cX12_comesIn 52 = .ok (.iaload, 1) := by decide +kernel
theorem dX12_comesIn_53 : decode cX12_comesIn 53 = .ok (.iastore, 1) := by decide +kernel
theorem dX12_comesIn_54 : decode cX12_comesIn 54 = .ok (.iinc 1 1, 3) := by decide +kernel
theorem dX12_comesIn_57 : decode cX12_comesIn 57 = .ok (.goto (-47), 3) := by decide +kernel
theorem dX12_comesIn_60 : decode cX12_comesIn 60 = .ok (.aload_n 0, 1) := by decide +kernel
theorem dX12_comesIn_61 : decode cX12_comesIn 61 = .ok (.iconst 0, 1) := by decide +kernel
theorem dX12_comesIn_62 : decode cX12_comesIn 62 = .ok (.putfield 178, 3) := by decide +kernel
theorem dX12_comesIn_65 : decode cX12_comesIn 65 = .ok (.return_, 1) := by decide +kernel
theorem dX12_comesOfInner_0 : decode cX12_comesOfInner 0 = .ok (.aload_n 0, 1) := by decide +kernel
theorem dX12_comesOfInner_1 : decode cX12_comesOfInner 1 = .ok (.aload_n 0, 1) := by decide +kernel
theorem dX12_comesOfInner_2 : decode cX12_comesOfInner 2 = .ok (.getfield 19, 3) := by decide +kernel
theorem dX12_comesOfInner_5 : decode cX12_comesOfInner 5 = .ok (.iconst 1, 1) := by decide +kernel
theorem dX12_comesOfInner_6 : decode cX12_comesOfInner 6 = .ok (.iaload, 1) := by decide +kernel
theorem dX12_comesOfInner_7 : decode cX12_comesOfInner 7 = .ok (.putfield 181, 3) := by decide +kernel
theorem dX12_comesOfInner_10 : decode cX12_comesOfInner 10 = .ok (.aload_n 0, 1) := by decide +kernel
theorem dX12_comesOfInner_11 : decode cX12_comesOfInner 11 = .ok (.iconst 0, 1) := by decide +kernel
theorem dX12_comesOfInner_12 : decode cX12_comesOfInner 12 = .ok (.putfield 178, 3) := by decide +kernel
theorem dX12_comesOfInner_15 : decode cX12_comesOfInner 15 = .ok (.iconst 0, 1) := by decide +kernel
theorem dX12_comesOfInner_16 : decode cX12_comesOfInner 16 = .ok (.istore_n 1, 1) := by decide +kernel
theorem dX12_comesOfInner_17 : decode cX12_comesOfInner 17 = .ok (.iload_n 1, 1) := by decide +kernel
theorem dX12_comesOfInner_18 : decode cX12_comesOfInner 18 = .ok (.aload_n 0, 1) := by decide +kernel
theorem dX12_comesOfInner_19 : decode cX12_comesOfInner 19 = .ok (.getfield 181, 3) := by decide +kernel
theorem dX12_comesOfInner_22 : decode cX12_comesOfInner 22 = .ok (.if_icmp .ge 46, 3) := by decide +kernel
theorem dX12_comesOfInner_25 : decode cX12_comesOfInner 25 = .ok (.aload_n 0, 1) := by decide +kernel
theorem dX12_comesOfInner_26 : decode cX12_comesOfInner 26 = .ok (.getfield 49, 3) := by decide +kernel
theorem dX12_comesOfInner_29 : decode cX12_comesOfInner 29 = .ok (.iload_n 1, 1) := by decide +kernel
theorem dX12_comesOfInner_30 : decode cX12_comesOfInner 30 = .ok (.aload_n 0, 1) := by decide +kernel
theorem dX12_comesOfInner_31 : decode cX12_comesOfInner 31 = .ok (.getfield 22, 3) := by decide +kernel
theorem dX12_comesOfInner_34 : decode cX12_comesOfInner 34 = .ok (.bipush 10, 2) := by decide +kernel
theorem dX12_comesOfInner_36 : decode cX12_comesOfInner 36 = .ok (.iload_n 1, 1) := by decide +kernel
theorem dX12_comesOfInner_37 : decode cX12_comesOfInner 37 = .ok (.iadd, 1) := by decide +kernel
theorem dX12_comesOfInner_38 : decode cX12_comesOfInner 38 = .ok (.iaload, 1) := by decide +kernel
theorem dX12_comesOfInner_39 : decode cX12_comesOfInner 39 = .ok (.iastore, 1) := by decide +kernel
theorem dX12_comesOfInner_40 : decode cX12_comesOfInner 40 = .ok (.aload_n 0, 1) := by decide +kernel
theorem dX12_comesOfInner_41 : decode cX12_comesOfInner 41 = .ok (.getfield 52, 3) := by decide +kernel
theorem dX12_comesOfInner_44 : decode cX12_comesOfInner 44 = .ok (.iload_n 1, 1) := by decide +kernel
theorem dX12_comesOfInner_45 : decode cX12_comesOfInner 45 = .ok (.aload_n 0, 1) := by decide +kernel
theorem dX12_comesOfInner_46 : decode cX12_comesOfInner 46 = .ok (.getfield 25, 3) := by decide +kernel
theorem dX12_comesOfInner_49 : decode cX12_comesOfInner 49 = .ok (.bipush 10, 2) := by decide +kernel
theorem dX12_comesOfInner_51 : decode cX12_comesOfInner 51 = .ok (.iload_n 1, 1) := by decide +kernel
theorem dX12_comesOfInner_52 : decode cX12_comesOfInner 52 = .ok (.iadd, 1) := by decide +kernel
theorem dX12_comesOfInner_53 : decode cX12_comesOfInner 53 = .ok (.iaload, 1) := by decide +kernel
theorem dX12_comesOfInner_54 : decode cX12_comesOfInner 54 = .ok (.iastore, 1) := by decide +kernel
theorem dX12_comesOfInner_55 : decode cX12_comesOfInner 55 = .ok (.aload_n 0, 1) := by decide +kernel
theorem dX12_comesOfInner_56 : decode cX12_comesOfInner 56 = .ok (.getfield 55, 3) := by decide +kernel
theorem dX12_comesOfInner_59 : decode cX12_comesOfInner 59 = .ok (.iload_n 1, 1) := by decide +kernel
theorem dX12_comesOfInner_60 : decode cX12_comesOfInner 60 = .ok (.iconst (-1), 1) := by decide +kernel
theorem dX12_comesOfInner_61 : decode cX12_comesOfInner 61 = .ok (.iastore, 1) := by decide +kernel
theorem dX12_comesOfInner_62 : decode cX12_comesOfInner 62 = .ok (.iinc 1 1, 3) := by decide +kernel
theorem dX12_comesOfInner_65 : decode cX12_comesOfInner 65 = .ok (.goto (-48), 3) := by decide +kernel
theorem dX12_comesOfInner_68 : decode cX12_comesOfInner 68 = .ok (.return_, 1) := by decide +kernel
theorem dX12_stays_0 : decode cX12_stays 0 = .ok (.iload_n 2, 1) := by decide +kernel
theorem dX12_stays_1 : decode cX12_stays 1 = .ok (.iconst (-1), 1) := by decide +kernel
theorem dX12_stays_2 : decode cX12_stays 2 = .ok (.if_icmp .eq 13, 3) := by decide +kernel
theorem dX12_stays_5 : decode cX12_stays 5 = .ok (.iload 4, 2) := by decide +kernel
theorem dX12_stays_7 : decode cX12_stays 7 = .ok (.iconst (-1), 1) := by decide +kernel
theorem dX12_stays_8 : decode cX12_stays 8 = .ok (.if_icmp .eq 7, 3) := by decide +kernel
theorem dX12_stays_11 : decode cX12_stays 11 = .ok (.iconst 1, 1) := by decide +kernel
theorem dX12_stays_12 : decode cX12_stays 12 = .ok (.goto 4, 3) := by decide +kernel
theorem dX12_stays_15 : decode cX12_stays 15 = .ok (.iconst 0, 1) := by decide +kernel
theorem dX12_stays_16 : decode cX12_stays 16 = .ok (.istore 5, 2) := by decide +kernel
theorem dX12_stays_18 : decode cX12_stays 18 = .ok (.iload_n 0, 1) := by decide +kernel
theorem dX12_stays_19 : decode cX12_stays 19 = .ok (.tableswitch 114 1 7 #[41, 59, 77, 114, 114, 114, 97], 41) := by decide +kernel
theorem dX12_stays_60 : decode cX12_stays 60 = .ok (.iload 5, 2) := by decide +kernel
theorem dX12_stays_62 : decode cX12_stays 62 = .ok (.ifCond .eq 13, 3) := by decide +kernel
theorem dX12_stays_65 : decode cX12_stays 65 = .ok (.iload_n 2, 1) := by decide +kernel
theorem dX12_stays_66 : decode cX12_stays 66 = .ok (.iload 4, 2) := by decide +kernel
theorem dX12_stays_68 : decode cX12_stays 68 = .ok (.if_icmp .ne 7, 3) := by decide +kernel
theorem dX12_stays_71 : decode cX12_stays 71 = .ok (.iload_n 3, 1) := by decide +kernel
theorem dX12_stays_72 : decode cX12_stays 72 = .ok (.goto 5, 3) := by decide +kernel
theorem dX12_stays_75 : decode cX12_stays 75 = .ok (.bipush (-2), 2) := by decide +kernel
theorem dX12_stays_77 : decode cX12_stays 77 = .ok (.ireturn, 1) := by decide +kernel
theorem dX12_stays_78 : decode cX12_stays 78 = .ok (.iload 5, 2) := by decide +kernel
theorem dX12_stays_80 : decode cX12_stays 80 = .ok (.ifCond .eq 13, 3) := by decide +kernel
theorem dX12_stays_83 : decode cX12_stays 83 = .ok (.iload_n 2, 1) := by decide +kernel
theorem dX12_stays_84 : decode cX12_stays 84 = .ok (.iload 4, 2) := by decide +kernel
theorem dX12_stays_86 : decode cX12_stays 86 = .ok (.if_icmp .ge 7, 3) := by decide +kernel
theorem dX12_stays_89 : decode cX12_stays 89 = .ok (.iload_n 3, 1) := by decide +kernel
theorem dX12_stays_90 : decode cX12_stays 90 = .ok (.goto 5, 3) := by decide +kernel
theorem dX12_stays_93 : decode cX12_stays 93 = .ok (.bipush (-2), 2) := by decide +kernel
theorem dX12_stays_95 : decode cX12_stays 95 = .ok (.ireturn, 1) := by decide +kernel
theorem dX12_stays_96 : decode cX12_stays 96 = .ok (.iload_n 3, 1) := by decide +kernel
theorem dX12_stays_97 : decode cX12_stays 97 = .ok (.iconst (-1), 1) := by decide +kernel
theorem dX12_stays_98 : decode cX12_stays 98 = .ok (.if_icmp .eq 16, 3) := by decide +kernel
theorem dX12_stays_101 : decode cX12_stays 101 = .ok (.iload 4, 2) := by decide +kernel
theorem dX12_stays_103 : decode cX12_stays 103 = .ok (.iconst (-1), 1) := by decide +kernel
theorem dX12_stays_104 : decode cX12_stays 104 = .ok (.if_icmp .eq 10, 3) := by decide +kernel
theorem dX12_stays_107 : decode cX12_stays 107 = .ok (.iload_n 3, 1) := by decide +kernel
theorem dX12_stays_108 : decode cX12_stays 108 = .ok (.iload 4, 2) := by decide +kernel
theorem dX12_stays_110 : decode cX12_stays 110 = .ok (.iadd, 1) := by decide +kernel
theorem dX12_stays_111 : decode cX12_stays 111 = .ok (.goto 4, 3) := by decide +kernel
theorem dX12_stays_114 : decode cX12_stays 114 = .ok (.iconst (-1), 1) := by decide +kernel
theorem dX12_stays_115 : decode cX12_stays 115 = .ok (.ireturn, 1) := by decide +kernel
theorem dX12_stays_116 : decode cX12_stays 116 = .ok (.iload_n 3, 1) := by decide +kernel
theorem dX12_stays_117 : decode cX12_stays 117 = .ok (.iconst (-1), 1) := by decide +kernel
theorem dX12_stays_118 : decode cX12_stays 118 = .ok (.if_icmp .eq 12, 3) := by decide +kernel
theorem dX12_stays_121 : decode cX12_stays 121 = .ok (.iload_n 3, 1) := by decide +kernel
theorem dX12_stays_122 : decode cX12_stays 122 = .ok (.iload_n 1, 1) := by decide +kernel
theorem dX12_stays_123 : decode cX12_stays 123 = .ok (.if_icmp .lt 7, 3) := by decide +kernel
theorem dX12_stays_126 : decode cX12_stays 126 = .ok (.iload_n 3, 1) := by decide +kernel
theorem dX12_stays_127 : decode cX12_stays 127 = .ok (.goto 5, 3) := by decide +kernel
theorem dX12_stays_130 : decode cX12_stays 130 = .ok (.bipush (-2), 2) := by decide +kernel
theorem dX12_stays_132 : decode cX12_stays 132 = .ok (.ireturn, 1) := by decide +kernel
theorem dX12_stays_133 : decode cX12_stays 133 = .ok (.iload_n 3, 1) := by decide +kernel
theorem dX12_stays_134 : decode cX12_stays 134 = .ok (.ireturn, 1) := by decide +kernel
theorem dX12_groups_0 : decode cX12_groups 0 = .ok (.aload_n 0, 1) := by decide +kernel
theorem dX12_groups_1 : decode cX12_groups 1 = .ok (.iconst 0, 1) := by decide +kernel
theorem dX12_groups_2 : decode cX12_groups 2 = .ok (.putfield 181, 3) := by decide +kernel
theorem dX12_groups_5 : decode cX12_groups 5 = .ok (.iconst 0, 1) := by decide +kernel
theorem dX12_groups_6 : decode cX12_groups 6 = .ok (.istore_n 1, 1) := by decide +kernel
theorem dX12_groups_7 : decode cX12_groups 7 = .ok (.iload_n 1, 1) := by decide +kernel
theorem dX12_groups_8 : decode cX12_groups 8 = .ok (.aload_n 0, 1) := by decide +kernel
theorem dX12_groups_9 : decode cX12_groups 9 = .ok (.getfield 178, 3) := by decide +kernel
theorem dX12_groups_12 : decode cX12_groups 12 = .ok (.if_icmp .ge 114, 3) := by decide +kernel
theorem dX12_groups_15 : decode cX12_groups 15 = .ok (.iconst 0, 1) := by decide +kernel
theorem dX12_groups_16 : decode cX12_groups 16 = .ok (.istore_n 2, 1) := by decide +kernel
theorem dX12_groups_17 : decode cX12_groups 17 = .ok (.iload_n 2, 1) := by decide +kernel
theorem dX12_groups_18 : decode cX12_groups 18 = .ok (.aload_n 0, 1) := by decide +kernel
theorem dX12_groups_19 : decode cX12_groups 19 = .ok (.getfield 181, 3) := by decide +kernel
theorem dX12_groups_22 : decode cX12_groups 22 = .ok (.if_icmp .ge 39, 3) := by decide +kernel
theorem dX12_groups_25 : decode cX12_groups 25 = .ok (.aload_n 0, 1) := by decide +kernel
theorem dX12_groups_26 : decode cX12_groups 26 = .ok (.getfield 49, 3) := by decide +kernel
theorem dX12_groups_29 : decode cX12_groups 29 = .ok (.iload_n 2, 1) := by decide +kernel
theorem dX12_groups_30 : decode cX12_groups 30 = .ok (.iaload, 1) := by decide +kernel
theorem dX12_groups_31 : decode cX12_groups 31 = .ok (.aload_n 0, 1) := by decide +kernel
theorem dX12_groups_32 : decode cX12_groups 32 = .ok (.getfield 58, 3) := by decide +kernel
theorem dX12_groups_35 : decode cX12_groups 35 = .ok (.iload_n 1, 1) := by decide +kernel
theorem dX12_groups_36 : decode cX12_groups 36 = .ok (.iaload, 1) := by decide +kernel
theorem dX12_groups_37 : decode cX12_groups 37 = .ok (.if_icmp .ne 18, 3) := by decide +kernel
theorem dX12_groups_40 : decode cX12_groups 40 = .ok (.aload_n 0, 1) := by decide +kernel
theorem dX12_groups_41 : decode cX12_groups 41 = .ok (.getfield 55, 3) := by decide +kernel
theorem dX12_groups_44 : decode cX12_groups 44 = .ok (.iload_n 2, 1) := by decide +kernel
theorem dX12_groups_45 : decode cX12_groups 45 = .ok (.iaload, 1) := by decide +kernel
theorem dX12_groups_46 : decode cX12_groups 46 = .ok (.aload_n 0, 1) := by decide +kernel
theorem dX12_groups_47 : decode cX12_groups 47 = .ok (.getfield 64, 3) := by decide +kernel
theorem dX12_groups_50 : decode cX12_groups 50 = .ok (.iload_n 1, 1) := by decide +kernel
theorem dX12_groups_51 : decode cX12_groups 51 = .ok (.iaload, 1) := by decide +kernel
theorem dX12_groups_52 : decode cX12_groups 52 = .ok (.if_icmp .eq 9, 3) := by decide +kernel
theorem dX12_groups_55 : decode cX12_groups 55 = .ok (.iinc 2 1, 3) := by decide +kernel
theorem dX12_groups_58 : decode cX12_groups 58 = .ok (.goto (-41), 3) := by decide +kernel
theorem dX12_groups_61 : decode cX12_groups 61 = .ok (.iload_n 2, 1) := by decide +kernel
theorem dX12_groups_62 : decode cX12_groups 62 = .ok (.aload_n 0, 1) := by decide +kernel
theorem dX12_groups_63 : decode cX12_groups 63 = .ok (.getfield 181, 3) := by decide +kernel
theorem dX12_groups_66 : decode cX12_groups 66 = .ok (.if_icmp .ne 44, 3) := by decide +kernel
theorem dX12_groups_69 : decode cX12_groups 69 = .ok (.aload_n 0, 1) := by decide +kernel
theorem dX12_groups_70 : decode cX12_groups 70 = .ok (.getfield 49, 3) := by decide +kernel
theorem dX12_groups_73 : decode cX12_groups 73 = .ok (.iload_n 2, 1) := by decide +kernel
theorem dX12_groups_74 : decode cX12_groups 74 = .ok (.aload_n 0, 1) := by decide +kernel
theorem dX12_groups_75 : decode cX12_groups 75 = .ok (.getfield 58, 3) := by decide +kernel
theorem dX12_groups_78 : decode cX12_groups 78 = .ok (.iload_n 1, 1) := by decide +kernel
theorem dX12_groups_79 : decode cX12_groups 79 = .ok (.iaload, 1) := by decide +kernel
theorem dX12_groups_80 : decode cX12_groups 80 = .ok (.iastore, 1) := by decide +kernel
theorem dX12_groups_81 : decode cX12_groups 81 = .ok (.aload_n 0, 1) := by decide +kernel
theorem dX12_groups_82 : decode cX12_groups 82 = .ok (.getfield 55, 3) := by decide +kernel
theorem dX12_groups_85 : decode cX12_groups 85 = .ok (.iload_n 2, 1) := by decide +kernel
theorem dX12_groups_86 : decode cX12_groups 86 = .ok (.aload_n 0, 1) := by decide +kernel
theorem dX12_groups_87 : decode cX12_groups 87 = .ok (.getfield 64, 3) := by decide +kernel
theorem dX12_groups_90 : decode cX12_groups 90 = .ok (.iload_n 1, 1) := by decide +kernel
theorem dX12_groups_91 : decode cX12_groups 91 = .ok (.iaload, 1) := by decide +kernel
theorem dX12_groups_92 : decode cX12_groups 92 = .ok (.iastore, 1) := by decide +kernel
theorem dX12_groups_93 : decode cX12_groups 93 = .ok (.aload_n 0, 1) := by decide +kernel
theorem dX12_groups_94 : decode cX12_groups 94 = .ok (.getfield 52, 3) := by decide +kernel
theorem dX12_groups_97 : decode cX12_groups 97 = .ok (.iload_n 2, 1) := by decide +kernel
theorem dX12_groups_98 : decode cX12_groups 98 = .ok (.iconst 0, 1) := by decide +kernel
theorem dX12_groups_99 : decode cX12_groups 99 = .ok (.iastore, 1) := by decide +kernel
theorem dX12_groups_100 : decode cX12_groups 100 = .ok (.aload_n 0, 1) := by decide +kernel
theorem dX12_groups_101 : decode cX12_groups 101 = .ok (.dup, 1) := by decide +kernel
theorem dX12_groups_102 : decode cX12_groups 102 = .ok (.getfield 181, 3) := by decide +kernel
theorem dX12_groups_105 : decode cX12_groups 105 = .ok (.iconst 1, 1) := by decide +kernel
theorem dX12_groups_106 : decode cX12_groups 106 = .ok (.iadd, 1) := by decide +kernel
theorem dX12_groups_107 : decode cX12_groups 107 = .ok (.putfield 181, 3) := by decide +kernel
theorem dX12_groups_110 : decode cX12_groups 110 = .ok (.aload_n 0, 1) := by decide +kernel
theorem dX12_groups_111 : decode cX12_groups 111 = .ok (.getfield 52, 3) := by decide +kernel
theorem dX12_groups_114 : decode cX12_groups 114 = .ok (.iload_n 2, 1) := by decide +kernel
theorem dX12_groups_115 : decode cX12_groups 115 = .ok (.dup2, 1) := by decide +kernel
theorem dX12_groups_116 : decode cX12_groups 116 = .ok (.iaload, 1) := by decide +kernel
theorem dX12_groups_117 : decode cX12_groups 117 = .ok (.iconst 1, 1) := by decide +kernel
theorem dX12_groups_118 : decode cX12_groups 118 = .ok (.iadd, 1) := by decide +kernel
theorem dX12_groups_119 : decode cX12_groups 119 = .ok (.iastore, 1) := by decide +kernel
theorem dX12_groups_120 : decode cX12_groups 120 = .ok (.iinc 1 1, 3) := by decide +kernel
theorem dX12_groups_123 : decode cX12_groups 123 = .ok (.goto (-116), 3) := by decide +kernel
theorem dX12_groups_126 : decode cX12_groups 126 = .ok (.aload_n 0, 1) := by decide +kernel
theorem dX12_groups_127 : decode cX12_groups 127 = .ok (.iconst 0, 1) := by decide +kernel
theorem dX12_groups_128 : decode cX12_groups 128 = .ok (.putfield 178, 3) := by decide +kernel
theorem dX12_groups_131 : decode cX12_groups 131 = .ok (.return_, 1) := by decide +kernel
theorem dX12_answerOf_0 : decode cX12_answerOf 0 = .ok (.iconst 0, 1) := by decide +kernel
theorem dX12_answerOf_1 : decode cX12_answerOf 1 = .ok (.istore_n 3, 1) := by decide +kernel
theorem dX12_answerOf_2 : decode cX12_answerOf 2 = .ok (.iconst 0, 1) := by decide +kernel
theorem dX12_answerOf_3 : decode cX12_answerOf 3 = .ok (.istore 4, 2) := by decide +kernel
theorem dX12_answerOf_5 : decode cX12_answerOf 5 = .ok (.iconst 0, 1) := by decide +kernel
theorem dX12_answerOf_6 : decode cX12_answerOf 6 = .ok (.istore 5, 2) := by decide +kernel
theorem dX12_answerOf_8 : decode cX12_answerOf 8 = .ok (.iconst (-1), 1) := by decide +kernel
theorem dX12_answerOf_9 : decode cX12_answerOf 9 = .ok (.istore 6, 2) := by decide +kernel
theorem dX12_answerOf_11 : decode cX12_answerOf 11 = .ok (.iconst (-1), 1) := by decide +kernel
theorem dX12_answerOf_12 : decode cX12_answerOf 12 = .ok (.istore 7, 2) := by decide +kernel
theorem dX12_answerOf_14 : decode cX12_answerOf 14 = .ok (.iconst (-1), 1) := by decide +kernel
theorem dX12_answerOf_15 : decode cX12_answerOf 15 = .ok (.istore 8, 2) := by decide +kernel
theorem dX12_answerOf_17 : decode cX12_answerOf 17 = .ok (.iconst 0, 1) := by decide +kernel
theorem dX12_answerOf_18 : decode cX12_answerOf 18 = .ok (.istore 9, 2) := by decide +kernel
theorem dX12_answerOf_20 : decode cX12_answerOf 20 = .ok (.iconst 0, 1) := by decide +kernel
theorem dX12_answerOf_21 : decode cX12_answerOf 21 = .ok (.istore 10, 2) := by decide +kernel
theorem dX12_answerOf_23 : decode cX12_answerOf 23 = .ok (.iload 10, 2) := by decide +kernel
theorem dX12_answerOf_25 : decode cX12_answerOf 25 = .ok (.aload_n 0, 1) := by decide +kernel
theorem dX12_answerOf_26 : decode cX12_answerOf 26 = .ok (.getfield 178, 3) := by decide +kernel
theorem dX12_answerOf_29 : decode cX12_answerOf 29 = .ok (.if_icmp .ge 135, 3) := by decide +kernel
theorem dX12_answerOf_32 : decode cX12_answerOf 32 = .ok (.aload_n 0, 1) := by decide +kernel
theorem dX12_answerOf_33 : decode cX12_answerOf 33 = .ok (.getfield 64, 3) := by decide +kernel
theorem dX12_answerOf_36 : decode cX12_answerOf 36 = .ok (.iload 10, 2) := by decide +kernel
theorem dX12_answerOf_38 : decode cX12_answerOf 38 = .ok (.iaload, 1) := by decide +kernel
theorem dX12_answerOf_39 : decode cX12_answerOf 39 = .ok (.iload_n 1, 1) := by decide +kernel
theorem dX12_answerOf_40 : decode cX12_answerOf 40 = .ok (.if_icmp .ne 118, 3) := by decide +kernel
theorem dX12_answerOf_43 : decode cX12_answerOf 43 = .ok (.aload_n 0, 1) := by decide +kernel
theorem dX12_answerOf_44 : decode cX12_answerOf 44 = .ok (.getfield 61, 3) := by decide +kernel
theorem dX12_answerOf_47 : decode cX12_answerOf 47 = .ok (.iload 10, 2) := by decide +kernel
theorem dX12_answerOf_49 : decode cX12_answerOf 49 = .ok (.iaload, 1) := by decide +kernel
theorem dX12_answerOf_50 : decode cX12_answerOf 50 = .ok (.istore 11, 2) := by decide +kernel
theorem dX12_answerOf_52 : decode cX12_answerOf 52 = .ok (.iinc 3 1, 3) := by decide +kernel
theorem dX12_answerOf_55 : decode cX12_answerOf 55 = .ok (.iload 11, 2) := by decide +kernel
theorem dX12_answerOf_57 : decode cX12_answerOf 57 = .ok (.istore 8, 2) := by decide +kernel
theorem dX12_answerOf_59 : decode cX12_answerOf 59 = .ok (.iload 4, 2) := by decide +kernel
theorem dX12_answerOf_61 : decode cX12_answerOf 61 = .ok (.iload 11, 2) := by decide +kernel
theorem dX12_answerOf_63 : decode cX12_answerOf 63 = .ok (.iconst (-1), 1) := by decide +kernel
theorem dX12_answerOf_64 : decode cX12_answerOf 64 = .ok (.if_icmp .ne 7, 3) := by decide +kernel
theorem dX12_answerOf_67 : decode cX12_answerOf 67 = .ok (.iconst 0, 1) := by decide +kernel
theorem dX12_answerOf_68 : decode cX12_answerOf 68 = .ok (.goto 4, 3) := by decide +kernel
theorem dX12_answerOf_71 : decode cX12_answerOf 71 = .ok (.iconst 1, 1) := by decide +kernel
theorem dX12_answerOf_72 : decode cX12_answerOf 72 = .ok (.iadd, 1) := by decide +kernel
theorem dX12_answerOf_73 : decode cX12_answerOf 73 = .ok (.istore 4, 2) := by decide +kernel
theorem dX12_answerOf_75 : decode cX12_answerOf 75 = .ok (.iload 5, 2) := by decide +kernel
theorem dX12_answerOf_77 : decode cX12_answerOf 77 = .ok (.iload 11, 2) := by decide +kernel
theorem dX12_answerOf_79 : decode cX12_answerOf 79 = .ok (.iconst (-1), 1) := by decide +kernel
theorem dX12_answerOf_80 : decode cX12_answerOf 80 = .ok (.if_icmp .ne 7, 3) := by decide +kernel
theorem dX12_answerOf_83 : decode cX12_answerOf 83 = .ok (.iconst 0, 1) := by decide +kernel
theorem dX12_answerOf_84 : decode cX12_answerOf 84 = .ok (.goto 5, 3) := by decide +kernel
theorem dX12_answerOf_87 : decode cX12_answerOf 87 = .ok (.iload 11, 2) := by decide +kernel
theorem dX12_answerOf_89 : decode cX12_answerOf 89 = .ok (.iadd, 1) := by decide +kernel
theorem dX12_answerOf_90 : decode cX12_answerOf 90 = .ok (.istore 5, 2) := by decide +kernel
theorem dX12_answerOf_92 : decode cX12_answerOf 92 = .ok (.iload 11, 2) := by decide +kernel
theorem dX12_answerOf_94 : decode cX12_answerOf 94 = .ok (.iconst (-1), 1) := by decide +kernel
theorem dX12_answerOf_95 : decode cX12_answerOf 95 = .ok (.if_icmp .eq 21, 3) := by decide +kernel
theorem dX12_answerOf_98 : decode cX12_answerOf 98 = .ok (.iload 6, 2) := by decide +kernel
theorem dX12_answerOf_100 : decode cX12_answerOf 100 = .ok (.iconst (-1), 1) := by decide +kernel
theorem dX12_answerOf_101 : decode cX12_answerOf 101 = .ok (.if_icmp .eq 10, 3) := by decide +kernel
theorem dX12_answerOf_104 : decode cX12_answerOf 104 = .ok (.iload 11, 2) := by decide +kernel
theorem dX12_answerOf_106 : decode cX12_answerOf 106 = .ok (.iload 6, 2) := by decide +kernel
theorem dX12_answerOf_108 : decode cX12_answerOf 108 = .ok (.if_icmp .ge 8, 3) := by decide +kernel
theorem dX12_answerOf_111 : decode cX12_answerOf 111 = .ok (.iload 11, 2) := by decide +kernel
theorem dX12_answerOf_113 : decode cX12_answerOf 113 = .ok (.goto 5, 3) := by decide +kernel
theorem dX12_answerOf_116 : decode cX12_answerOf 116 = .ok (.iload 6, 2) := by decide +kernel
theorem dX12_answerOf_118 : decode cX12_answerOf 118 = .ok (.istore 6, 2) := by decide +kernel
theorem dX12_answerOf_120 : decode cX12_answerOf 120 = .ok (.iload 11, 2) := by decide +kernel
theorem dX12_answerOf_122 : decode cX12_answerOf 122 = .ok (.iload 7, 2) := by decide +kernel
theorem dX12_answerOf_124 : decode cX12_answerOf 124 = .ok (.if_icmp .le 8, 3) := by decide +kernel
theorem dX12_answerOf_127 : decode cX12_answerOf 127 = .ok (.iload 11, 2) := by decide +kernel
theorem dX12_answerOf_129 : decode cX12_answerOf 129 = .ok (.goto 5, 3) := by decide +kernel
theorem dX12_answerOf_132 : decode cX12_answerOf 132 = .ok (.iload 7, 2) := by decide +kernel
theorem dX12_answerOf_134 : decode cX12_answerOf 134 = .ok (.istore 7, 2) := by decide +kernel
theorem dX12_answerOf_136 : decode cX12_answerOf 136 = .ok (.iload 9, 2) := by decide +kernel
theorem dX12_answerOf_138 : decode cX12_answerOf 138 = .ok (.iload 11, 2) := by decide +kernel
theorem dX12_answerOf_140 : decode cX12_answerOf 140 = .ok (.iconst (-1), 1) := by decide +kernel
theorem dX12_answerOf_141 : decode cX12_answerOf 141 = .ok (.if_icmp .eq 13, 3) := by decide +kernel
theorem dX12_answerOf_144 : decode cX12_answerOf 144 = .ok (.iload 11, 2) := by decide +kernel
theorem dX12_answerOf_146 : decode cX12_answerOf 146 = .ok (.iload_n 2, 1) := by decide +kernel
theorem dX12_answerOf_147 : decode cX12_answerOf 147 = .ok (.if_icmp .ne 7, 3) := by decide +kernel
theorem dX12_answerOf_150 : decode cX12_answerOf 150 = .ok (.iconst 1, 1) := by decide +kernel
theorem dX12_answerOf_151 : decode cX12_answerOf 151 = .ok (.goto 4, 3) := by decide +kernel
theorem dX12_answerOf_154 : decode cX12_answerOf 154 = .ok (.iconst 0, 1) := by decide +kernel
theorem dX12_answerOf_155 : decode cX12_answerOf 155 = .ok (.iadd, 1) := by decide +kernel
theorem dX12_answerOf_156 : decode cX12_answerOf 156 = .ok (.istore 9, 2) := by decide +kernel
theorem dX12_answerOf_158 : decode cX12_answerOf 158 = .ok (.iinc 10 1, 3) := by decide +kernel
theorem dX12_answerOf_161 : decode cX12_answerOf 161 = .ok (.goto (-138), 3) := by decide +kernel
theorem dX12_answerOf_164 : decode cX12_answerOf 164 = .ok (.iload 9, 2) := by decide +kernel
theorem dX12_answerOf_166 : decode cX12_answerOf 166 = .ok (.ifCond .le 7, 3) := by decide +kernel
theorem dX12_answerOf_169 : decode cX12_answerOf 169 = .ok (.iconst 1, 1) := by decide +kernel
theorem dX12_answerOf_170 : decode cX12_answerOf 170 = .ok (.goto 23, 3) := by decide +kernel
theorem dX12_answerOf_173 : decode cX12_answerOf 173 = .ok (.iload_n 3, 1) := by decide +kernel
theorem dX12_answerOf_174 : decode cX12_answerOf 174 = .ok (.ifCond .eq 14, 3) := by decide +kernel
theorem dX12_answerOf_177 : decode cX12_answerOf 177 = .ok (.iload_n 2, 1) := by decide +kernel
theorem dX12_answerOf_178 : decode cX12_answerOf 178 = .ok (.iconst (-1), 1) := by decide +kernel
theorem dX12_answerOf_179 : decode cX12_answerOf 179 = .ok (.if_icmp .eq 13, 3) := by decide +kernel
theorem dX12_answerOf_182 : decode cX12_answerOf 182 = .ok (.iload 4, 2) := by decide +kernel
theorem dX12_answerOf_184 : decode cX12_answerOf 184 = .ok (.iload_n 3, 1) := by decide +kernel
theorem dX12_answerOf_185 : decode cX12_answerOf 185 = .ok (.if_icmp .ne 7, 3) := by decide +kernel
theorem dX12_answerOf_188 : decode cX12_answerOf 188 = .ok (.iconst 0, 1) := by decide +kernel
theorem dX12_answerOf_189 : decode cX12_answerOf 189 = .ok (.goto 4, 3) := by decide +kernel
theorem dX12_answerOf_192 : decode cX12_answerOf 192 = .ok (.iconst (-1), 1) := by decide +kernel
theorem dX12_answerOf_193 : decode cX12_answerOf 193 = .ok (.istore 10, 2) := by decide +kernel
theorem dX12_answerOf_195 : decode cX12_answerOf 195 = .ok (.aload_n 0, 1) := by decide +kernel
theorem dX12_answerOf_196 : decode cX12_answerOf 196 = .ok (.getfield 184, 3) := by decide +kernel
theorem dX12_answerOf_199 : decode cX12_answerOf 199 = .ok (.tableswitch 108 0 7 #[45, 47, 59, 62, 65, 82, 95, 105], 45) := by decide +kernel
theorem dX12_answerOf_244 : decode cX12_answerOf 244 = .ok (.iload_n 3, 1) := by decide +kernel
theorem dX12_answerOf_245 : decode cX12_answerOf 245 = .ok (.ireturn, 1) := by decide +kernel
theorem dX12_answerOf_246 : decode cX12_answerOf 246 = .ok (.iload 4, 2) := by decide +kernel
theorem dX12_answerOf_248 : decode cX12_answerOf 248 = .ok (.ifCond .ne 7, 3) := by decide +kernel
theorem dX12_answerOf_251 : decode cX12_answerOf 251 = .ok (.iconst (-1), 1) := by decide +kernel
theorem dX12_answerOf_252 : decode cX12_answerOf 252 = .ok (.goto 5, 3) := by decide +kernel
theorem dX12_answerOf_255 : decode cX12_answerOf 255 = .ok (.iload 5, 2) := by decide +kernel
theorem dX12_answerOf_257 : decode cX12_answerOf 257 = .ok (.ireturn, 1) := by decide +kernel
theorem dX12_answerOf_258 : decode cX12_answerOf 258 = .ok (.iload 6, 2) := by decide +kernel
theorem dX12_answerOf_260 : decode cX12_answerOf 260 = .ok (.ireturn, 1) := by decide +kernel
theorem dX12_answerOf_261 : decode cX12_answerOf 261 = .ok (.iload 7, 2) := by decide +kernel
theorem dX12_answerOf_263 : decode cX12_answerOf 263 = .ok (.ireturn, 1) := by decide +kernel
theorem dX12_answerOf_264 : decode cX12_answerOf 264 = .ok (.iload 4, 2) := by decide +kernel
theorem dX12_answerOf_266 : decode cX12_answerOf 266 = .ok (.ifCond .ne 7, 3) := by decide +kernel
theorem dX12_answerOf_269 : decode cX12_answerOf 269 = .ok (.iconst (-1), 1) := by decide +kernel
theorem dX12_answerOf_270 : decode cX12_answerOf 270 = .ok (.goto 10, 3) := by decide +kernel
theorem dX12_answerOf_273 : decode cX12_answerOf 273 = .ok (.iload 5, 2) := by decide +kernel
theorem dX12_answerOf_275 : decode cX12_answerOf 275 = .ok (.iload 4, 2) := by decide +kernel
theorem dX12_answerOf_277 : decode cX12_answerOf 277 = .ok (.invokestatic 187, 3) := by decide +kernel
theorem dX12_answerOf_280 : decode cX12_answerOf 280 = .ok (.ireturn, 1) := by decide +kernel
theorem dX12_answerOf_281 : decode cX12_answerOf 281 = .ok (.iload_n 3, 1) := by decide +kernel
theorem dX12_answerOf_282 : decode cX12_answerOf 282 = .ok (.iconst 1, 1) := by decide +kernel
theorem dX12_answerOf_283 : decode cX12_answerOf 283 = .ok (.if_icmp .le 8, 3) := by decide +kernel
theorem dX12_answerOf_286 : decode cX12_answerOf 286 = .ok (.bipush (-2), 2) := by decide +kernel
theorem dX12_answerOf_288 : decode cX12_answerOf 288 = .ok (.goto 5, 3) := by decide +kernel
theorem dX12_answerOf_291 : decode cX12_answerOf 291 = .ok (.iload 8, 2) := by decide +kernel
theorem dX12_answerOf_293 : decode cX12_answerOf 293 = .ok (.ireturn, 1) := by decide +kernel
theorem dX12_answerOf_294 : decode cX12_answerOf 294 = .ok (.iload_n 3, 1) := by decide +kernel
theorem dX12_answerOf_295 : decode cX12_answerOf 295 = .ok (.ifCond .le 7, 3) := by decide +kernel
theorem dX12_answerOf_298 : decode cX12_answerOf 298 = .ok (.iconst 1, 1) := by decide +kernel
theorem dX12_answerOf_299 : decode cX12_answerOf 299 = .ok (.goto 4, 3) := by decide +kernel
theorem dX12_answerOf_302 : decode cX12_answerOf 302 = .ok (.iconst 0, 1) := by decide +kernel
theorem dX12_answerOf_303 : decode cX12_answerOf 303 = .ok (.ireturn, 1) := by decide +kernel
theorem dX12_answerOf_304 : decode cX12_answerOf 304 = .ok (.iload 10, 2) := by decide +kernel
theorem dX12_answerOf_306 : decode cX12_answerOf 306 = .ok (.ireturn, 1) := by decide +kernel
theorem dX12_answerOf_307 : decode cX12_answerOf 307 = .ok (.iload 10, 2) := by decide +kernel
theorem dX12_answerOf_309 : decode cX12_answerOf 309 = .ok (.iconst (-1), 1) := by decide +kernel
theorem dX12_answerOf_310 : decode cX12_answerOf 310 = .ok (.if_icmp .ne 7, 3) := by decide +kernel
theorem dX12_answerOf_313 : decode cX12_answerOf 313 = .ok (.iconst (-1), 1) := by decide +kernel
theorem dX12_answerOf_314 : decode cX12_answerOf 314 = .ok (.goto 7, 3) := by decide +kernel
theorem dX12_answerOf_317 : decode cX12_answerOf 317 = .ok (.iconst 1, 1) := by decide +kernel
theorem dX12_answerOf_318 : decode cX12_answerOf 318 = .ok (.iload 10, 2) := by decide +kernel
theorem dX12_answerOf_320 : decode cX12_answerOf 320 = .ok (.isub, 1) := by decide +kernel
theorem dX12_answerOf_321 : decode cX12_answerOf 321 = .ok (.ireturn, 1) := by decide +kernel
theorem dX12_isNew_0 : decode cX12_isNew 0 = .ok (.bipush 40, 2) := by decide +kernel
theorem dX12_isNew_2 : decode cX12_isNew 2 = .ok (.iload_n 1, 1) := by decide +kernel
theorem dX12_isNew_3 : decode cX12_isNew 3 = .ok (.imul, 1) := by decide +kernel
theorem dX12_isNew_4 : decode cX12_isNew 4 = .ok (.istore 4, 2) := by decide +kernel
theorem dX12_isNew_6 : decode cX12_isNew 6 = .ok (.iconst 1, 1) := by decide +kernel
theorem dX12_isNew_7 : decode cX12_isNew 7 = .ok (.istore 5, 2) := by decide +kernel
theorem dX12_isNew_9 : decode cX12_isNew 9 = .ok (.iconst 0, 1) := by decide +kernel
theorem dX12_isNew_10 : decode cX12_isNew 10 = .ok (.istore 6, 2) := by decide +kernel
theorem dX12_isNew_12 : decode cX12_isNew 12 = .ok (.iload 6, 2) := by decide +kernel
theorem dX12_isNew_14 : decode cX12_isNew 14 = .ok (.aload_n 0, 1) := by decide +kernel
theorem dX12_isNew_15 : decode cX12_isNew 15 = .ok (.getfield 67, 3) := by decide +kernel
theorem dX12_isNew_18 : decode cX12_isNew 18 = .ok (.iload_n 1, 1) := by decide +kernel
theorem dX12_isNew_19 : decode cX12_isNew 19 = .ok (.iaload, 1) := by decide +kernel
theorem dX12_isNew_20 : decode cX12_isNew 20 = .ok (.if_icmp .ge 49, 3) := by decide +kernel
theorem dX12_isNew_23 : decode cX12_isNew 23 = .ok (.iload 5, 2) := by decide +kernel
theorem dX12_isNew_25 : decode cX12_isNew 25 = .ok (.ifCond .eq 35, 3) := by decide +kernel
theorem dX12_isNew_28 : decode cX12_isNew 28 = .ok (.aload_n 0, 1) := by decide +kernel
theorem dX12_isNew_29 : decode cX12_isNew 29 = .ok (.getfield 70, 3) := by decide +kernel
theorem dX12_isNew_32 : decode cX12_isNew 32 = .ok (.iload 4, 2) := by decide +kernel
theorem dX12_isNew_34 : decode cX12_isNew 34 = .ok (.iload 6, 2) := by decide +kernel
theorem dX12_isNew_36 : decode cX12_isNew 36 = .ok (.iadd, 1) := by decide +kernel
theorem dX12_isNew_37 : decode cX12_isNew 37 = .ok (.iaload, 1) := by decide +kernel
theorem dX12_isNew_38 : decode cX12_isNew 38 = .ok (.iload_n 2, 1) := by decide +kernel
theorem dX12_isNew_39 : decode cX12_isNew 39 = .ok (.if_icmp .ne 17, 3) := by decide +kernel
theorem dX12_isNew_42 : decode cX12_isNew 42 = .ok (.aload_n 0, 1) := by decide +kernel
theorem dX12_isNew_43 : decode cX12_isNew 43 = .ok (.getfield 73, 3) := by decide +kernel
theorem dX12_isNew_46 : decode cX12_isNew 46 = .ok (.iload 4, 2) := by decide +kernel
theorem dX12_isNew_48 : decode cX12_isNew 48 = .ok (.iload 6, 2) := by decide +kernel
theorem dX12_isNew_50 : decode cX12_isNew 50 = .ok (.iadd, 1) := by decide +kernel
theorem dX12_isNew_51 : decode cX12_isNew 51 = .ok (.iaload, 1) := by decide +kernel
theorem dX12_isNew_52 : decode cX12_isNew 52 = .ok (.iload_n 3, 1) := by decide +kernel
theorem dX12_isNew_53 : decode cX12_isNew 53 = .ok (.if_icmp .eq 7, 3) := by decide +kernel
theorem dX12_isNew_56 : decode cX12_isNew 56 = .ok (.iconst 1, 1) := by decide +kernel
theorem dX12_isNew_57 : decode cX12_isNew 57 = .ok (.goto 4, 3) := by decide +kernel
theorem dX12_isNew_60 : decode cX12_isNew 60 = .ok (.iconst 0, 1) := by decide +kernel
theorem dX12_isNew_61 : decode cX12_isNew 61 = .ok (.istore 5, 2) := by decide +kernel
theorem dX12_isNew_63 : decode cX12_isNew 63 = .ok (.iinc 6 1, 3) := by decide +kernel
theorem dX12_isNew_66 : decode cX12_isNew 66 = .ok (.goto (-54), 3) := by decide +kernel
theorem dX12_isNew_69 : decode cX12_isNew 69 = .ok (.iload 5, 2) := by decide +kernel
theorem dX12_isNew_71 : decode cX12_isNew 71 = .ok (.ifCond .eq 43, 3) := by decide +kernel
theorem dX12_isNew_74 : decode cX12_isNew 74 = .ok (.aload_n 0, 1) := by decide +kernel
theorem dX12_isNew_75 : decode cX12_isNew 75 = .ok (.getfield 70, 3) := by decide +kernel
theorem dX12_isNew_78 : decode cX12_isNew 78 = .ok (.iload 4, 2) := by decide +kernel
theorem dX12_isNew_80 : decode cX12_isNew 80 = .ok (.aload_n 0, 1) := by decide +kernel
theorem dX12_isNew_81 : decode cX12_isNew 81 = .ok (.getfield 67, 3) := by decide +kernel
theorem dX12_isNew_84 : decode cX12_isNew 84 = .ok (.iload_n 1, 1) := by decide +kernel
theorem dX12_isNew_85 : decode cX12_isNew 85 = .ok (.iaload, 1) := by decide +kernel
theorem dX12_isNew_86 : decode cX12_isNew 86 = .ok (.iadd, 1) := by decide +kernel
theorem dX12_isNew_87 : decode cX12_isNew 87 = .ok (.iload_n 2, 1) := by decide +kernel
theorem dX12_isNew_88 : decode cX12_isNew 88 = .ok (.iastore, 1) := by decide +kernel
theorem dX12_isNew_89 : decode cX12_isNew 89 = .ok (.aload_n 0, 1) := by decide +kernel
theorem dX12_isNew_90 : decode cX12_isNew 90 = .ok (.getfield 73, 3) := by decide +kernel
theorem dX12_isNew_93 : decode cX12_isNew 93 = .ok (.iload 4, 2) := by decide +kernel
theorem dX12_isNew_95 : decode cX12_isNew 95 = .ok (.aload_n 0, 1) := by decide +kernel
theorem dX12_isNew_96 : decode cX12_isNew 96 = .ok (.getfield 67, 3) := by decide +kernel
theorem dX12_isNew_99 : decode cX12_isNew 99 = .ok (.iload_n 1, 1) := by decide +kernel
theorem dX12_isNew_100 : decode cX12_isNew 100 = .ok (.iaload, 1) := by decide +kernel
theorem dX12_isNew_101 : decode cX12_isNew 101 = .ok (.iadd, 1) := by decide +kernel
theorem dX12_isNew_102 : decode cX12_isNew 102 = .ok (.iload_n 3, 1) := by decide +kernel
theorem dX12_isNew_103 : decode cX12_isNew 103 = .ok (.iastore, 1) := by decide +kernel
theorem dX12_isNew_104 : decode cX12_isNew 104 = .ok (.aload_n 0, 1) := by decide +kernel
theorem dX12_isNew_105 : decode cX12_isNew 105 = .ok (.getfield 67, 3) := by decide +kernel
theorem dX12_isNew_108 : decode cX12_isNew 108 = .ok (.iload_n 1, 1) := by decide +kernel
theorem dX12_isNew_109 : decode cX12_isNew 109 = .ok (.dup2, 1) := by decide +kernel
theorem dX12_isNew_110 : decode cX12_isNew 110 = .ok (.iaload, 1) := by decide +kernel
theorem dX12_isNew_111 : decode cX12_isNew 111 = .ok (.iconst 1, 1) := by decide +kernel
theorem dX12_isNew_112 : decode cX12_isNew 112 = .ok (.iadd, 1) := by decide +kernel
theorem dX12_isNew_113 : decode cX12_isNew 113 = .ok (.iastore, 1) := by decide +kernel
theorem dX12_isNew_114 : decode cX12_isNew 114 = .ok (.iload 5, 2) := by decide +kernel
theorem dX12_isNew_116 : decode cX12_isNew 116 = .ok (.ireturn, 1) := by decide +kernel
theorem dX12_goes_0 : decode cX12_goes 0 = .ok (.iload 4, 2) := by decide +kernel
theorem dX12_goes_2 : decode cX12_goes 2 = .ok (.istore 7, 2) := by decide +kernel
theorem dX12_goes_4 : decode cX12_goes 4 = .ok (.iload_n 1, 1) := by decide +kernel
theorem dX12_goes_5 : decode cX12_goes 5 = .ok (.istore 8, 2) := by decide +kernel
theorem dX12_goes_7 : decode cX12_goes 7 = .ok (.iload 8, 2) := by decide +kernel
theorem dX12_goes_9 : decode cX12_goes 9 = .ok (.iload_n 2, 1) := by decide +kernel
theorem dX12_goes_10 : decode cX12_goes 10 = .ok (.if_icmp .ge 88, 3) := by decide +kernel
theorem dX12_goes_13 : decode cX12_goes 13 = .ok (.iload 8, 2) := by decide +kernel
theorem dX12_goes_15 : decode cX12_goes 15 = .ok (.aload_n 0, 1) := by decide +kernel
theorem dX12_goes_16 : decode cX12_goes 16 = .ok (.getfield 190, 3) := by decide +kernel
theorem dX12_goes_19 : decode cX12_goes 19 = .ok (.if_icmp .eq 73, 3) := by decide +kernel
theorem dX12_goes_22 : decode cX12_goes 22 = .ok (.aload_n 0, 1) := by decide +kernel
theorem dX12_goes_23 : decode cX12_goes 23 = .ok (.getfield 28, 3) := by decide +kernel
theorem dX12_goes_26 : decode cX12_goes 26 = .ok (.iload 8, 2) := by decide +kernel
theorem dX12_goes_28 : decode cX12_goes 28 = .ok (.iaload, 1) := by decide +kernel
theorem dX12_goes_29 : decode cX12_goes 29 = .ok (.aload_n 0, 1) := by decide +kernel
theorem dX12_goes_30 : decode cX12_goes 30 = .ok (.getfield 31, 3) := by decide +kernel
theorem dX12_goes_33 : decode cX12_goes 33 = .ok (.iload 8, 2) := by decide +kernel
theorem dX12_goes_35 : decode cX12_goes 35 = .ok (.iaload, 1) := by decide +kernel
theorem dX12_goes_36 : decode cX12_goes 36 = .ok (.iload_n 3, 1) := by decide +kernel
theorem dX12_goes_37 : decode cX12_goes 37 = .ok (.iload 7, 2) := by decide +kernel
theorem dX12_goes_39 : decode cX12_goes 39 = .ok (.aload_n 0, 1) := by decide +kernel
theorem dX12_goes_40 : decode cX12_goes 40 = .ok (.getfield 22, 3) := by decide +kernel
theorem dX12_goes_43 : decode cX12_goes 43 = .ok (.iload 5, 2) := by decide +kernel
theorem dX12_goes_45 : decode cX12_goes 45 = .ok (.iaload, 1) := by decide +kernel
theorem dX12_goes_46 : decode cX12_goes 46 = .ok (.invokestatic 193, 3) := by decide +kernel
theorem dX12_goes_49 : decode cX12_goes 49 = .ok (.istore 7, 2) := by decide +kernel
theorem dX12_goes_51 : decode cX12_goes 51 = .ok (.iload 7, 2) := by decide +kernel
theorem dX12_goes_53 : decode cX12_goes 53 = .ok (.bipush (-2), 2) := by decide +kernel
theorem dX12_goes_55 : decode cX12_goes 55 = .ok (.if_icmp .eq 26, 3) := by decide +kernel
theorem dX12_goes_58 : decode cX12_goes 58 = .ok (.aload_n 0, 1) := by decide +kernel
theorem dX12_goes_59 : decode cX12_goes 59 = .ok (.getfield 28, 3) := by decide +kernel
theorem dX12_goes_62 : decode cX12_goes 62 = .ok (.iload 8, 2) := by decide +kernel
theorem dX12_goes_64 : decode cX12_goes 64 = .ok (.iaload, 1) := by decide +kernel
theorem dX12_goes_65 : decode cX12_goes 65 = .ok (.iconst 5, 1) := by decide +kernel
theorem dX12_goes_66 : decode cX12_goes 66 = .ok (.if_icmp .ne 16, 3) := by decide +kernel
theorem dX12_goes_69 : decode cX12_goes 69 = .ok (.aload_n 0, 1) := by decide +kernel
theorem dX12_goes_70 : decode cX12_goes 70 = .ok (.iload 8, 2) := by decide +kernel
theorem dX12_goes_72 : decode cX12_goes 72 = .ok (.iload_n 3, 1) := by decide +kernel
theorem dX12_goes_73 : decode cX12_goes 73 = .ok (.iload 7, 2) := by decide +kernel
theorem dX12_goes_75 : decode cX12_goes 75 = .ok (.invokevirtual 197, 3) := by decide +kernel
theorem dX12_goes_78 : decode cX12_goes 78 = .ok (.ifCond .ne 4, 3) := by decide +kernel
theorem dX12_goes_81 : decode cX12_goes 81 = .ok (.return_, 1) := by decide +kernel
theorem dX12_goes_82 : decode cX12_goes 82 = .ok (.aload_n 0, 1) := by decide +kernel
theorem dX12_goes_83 : decode cX12_goes 83 = .ok (.dup, 1) := by decide +kernel
theorem dX12_goes_84 : decode cX12_goes 84 = .ok (.getfield 200, 3) := by decide +kernel
theorem dX12_goes_87 : decode cX12_goes 87 = .ok (.iconst 1, 1) := by decide +kernel
theorem dX12_goes_88 : decode cX12_goes 88 = .ok (.iadd, 1) := by decide +kernel
theorem dX12_goes_89 : decode cX12_goes 89 = .ok (.putfield 200, 3) := by decide +kernel
theorem dX12_goes_92 : decode cX12_goes 92 = .ok (.iinc 8 1, 3) := by decide +kernel
theorem dX12_goes_95 : decode cX12_goes 95 = .ok (.goto (-88), 3) := by decide +kernel
theorem dX12_goes_98 : decode cX12_goes 98 = .ok (.aload_n 0, 1) := by decide +kernel
theorem dX12_goes_99 : decode cX12_goes 99 = .ok (.iload_n 3, 1) := by decide +kernel
theorem dX12_goes_100 : decode cX12_goes 100 = .ok (.iload 7, 2) := by decide +kernel
theorem dX12_goes_102 : decode cX12_goes 102 = .ok (.iconst (-1), 1) := by decide +kernel
theorem dX12_goes_103 : decode cX12_goes 103 = .ok (.invokevirtual 203, 3) := by decide +kernel
theorem dX12_goes_106 : decode cX12_goes 106 = .ok (.aload_n 0, 1) := by decide +kernel
theorem dX12_goes_107 : decode cX12_goes 107 = .ok (.aload_n 0, 1) := by decide +kernel
theorem dX12_goes_108 : decode cX12_goes 108 = .ok (.getfield 178, 3) := by decide +kernel
theorem dX12_goes_111 : decode cX12_goes 111 = .ok (.iload 6, 2) := by decide +kernel
theorem dX12_goes_113 : decode cX12_goes 113 = .ok (.if_icmp .ne 7, 3) := by decide +kernel
theorem dX12_goes_116 : decode cX12_goes 116 = .ok (.iconst 1, 1) := by decide +kernel
theorem dX12_goes_117 : decode cX12_goes 117 = .ok (.goto 4, 3) := by decide +kernel
theorem dX12_goes_120 : decode cX12_goes 120 = .ok (.iconst 0, 1) := by decide +kernel
theorem dX12_goes_121 : decode cX12_goes 121 = .ok (.putfield 207, 3) := by decide +kernel
theorem dX12_goes_124 : decode cX12_goes 124 = .ok (.return_, 1) := by decide +kernel
theorem dX12_goThrough_0 : decode cX12_goThrough 0 = .ok (.aload_n 0, 1) := by decide +kernel
theorem dX12_goThrough_1 : decode cX12_goThrough 1 = .ok (.iconst 0, 1) := by decide +kernel
theorem dX12_goThrough_2 : decode cX12_goThrough 2 = .ok (.putfield 178, 3) := by decide +kernel
theorem dX12_goThrough_5 : decode cX12_goThrough 5 = .ok (.iconst 0, 1) := by decide +kernel
theorem dX12_goThrough_6 : decode cX12_goThrough 6 = .ok (.istore 5, 2) := by decide +kernel
theorem dX12_goThrough_8 : decode cX12_goThrough 8 = .ok (.iload 5, 2) := by decide +kernel
theorem dX12_goThrough_10 : decode cX12_goThrough 10 = .ok (.aload_n 0, 1) := by decide +kernel
theorem dX12_goThrough_11 : decode cX12_goThrough 11 = .ok (.getfield 181, 3) := by decide +kernel
theorem dX12_goThrough_14 : decode cX12_goThrough 14 = .ok (.if_icmp .ge 67, 3) := by decide +kernel
theorem dX12_goThrough_17 : decode cX12_goThrough 17 = .ok (.aload_n 0, 1) := by decide +kernel
theorem dX12_goThrough_18 : decode cX12_goThrough 18 = .ok (.getfield 207, 3) := by decide +kernel
theorem dX12_goThrough_21 : decode cX12_goThrough 21 = .ok (.ifCond .ne 60, 3) := by decide +kernel
theorem dX12_goThrough_24 : decode cX12_goThrough 24 = .ok (.aload_n 0, 1) := by decide +kernel
theorem dX12_goThrough_25 : decode cX12_goThrough 25 = .ok (.dup, 1) := by decide +kernel
theorem dX12_goThrough_26 : decode cX12_goThrough 26 = .ok (.getfield 200, 3) := by decide +kernel
theorem dX12_goThrough_29 : decode cX12_goThrough 29 = .ok (.iconst 1, 1) := by decide +kernel
theorem dX12_goThrough_30 : decode cX12_goThrough 30 = .ok (.iadd, 1) := by decide +kernel
theorem dX12_goThrough_31 : decode cX12_goThrough 31 = .ok (.putfield 200, 3) := by decide +kernel
theorem dX12_goThrough_34 : decode cX12_goThrough 34 = .ok (.aload_n 0, 1) := by decide +kernel
theorem dX12_goThrough_35 : decode cX12_goThrough 35 = .ok (.dup, 1) := by decide +kernel
theorem dX12_goThrough_36 : decode cX12_goThrough 36 = .ok (.getfield 211, 3) := by decide +kernel
theorem dX12_goThrough_39 : decode cX12_goThrough 39 = .ok (.iload_n 1, 1) := by decide +kernel
theorem dX12_goThrough_40 : decode cX12_goThrough 40 = .ok (.ifCond .ne 7, 3) := by decide +kernel
theorem dX12_goThrough_43 : decode cX12_goThrough 43 = .ok (.iconst 1, 1) := by decide +kernel
theorem dX12_goThrough_44 : decode cX12_goThrough 44 = .ok (.goto 4, 3) := by decide +kernel
theorem dX12_goThrough_47 : decode cX12_goThrough 47 = .ok (.iconst 0, 1) := by decide +kernel
theorem dX12_goThrough_48 : decode cX12_goThrough 48 = .ok (.iadd, 1) := by decide +kernel
theorem dX12_goThrough_49 : decode cX12_goThrough 49 = .ok (.putfield 211, 3) := by decide +kernel
theorem dX12_goThrough_52 : decode cX12_goThrough 52 = .ok (.aload_n 0, 1) := by decide +kernel
theorem dX12_goThrough_53 : decode cX12_goThrough 53 = .ok (.iload_n 1, 1) := by decide +kernel
theorem dX12_goThrough_54 : decode cX12_goThrough 54 = .ok (.iload_n 2, 1) := by decide +kernel
theorem dX12_goThrough_55 : decode cX12_goThrough 55 = .ok (.aload_n 0, 1) := by decide +kernel
theorem dX12_goThrough_56 : decode cX12_goThrough 56 = .ok (.getfield 49, 3) := by decide +kernel
theorem dX12_goThrough_59 : decode cX12_goThrough 59 = .ok (.iload 5, 2) := by decide +kernel
theorem dX12_goThrough_61 : decode cX12_goThrough 61 = .ok (.iaload, 1) := by decide +kernel
theorem dX12_goThrough_62 : decode cX12_goThrough 62 = .ok (.aload_n 0, 1) := by decide +kernel
theorem dX12_goThrough_63 : decode cX12_goThrough 63 = .ok (.getfield 52, 3) := by decide +kernel
theorem dX12_goThrough_66 : decode cX12_goThrough 66 = .ok (.iload 5, 2) := by decide +kernel
theorem dX12_goThrough_68 : decode cX12_goThrough 68 = .ok (.iaload, 1) := by decide +kernel
theorem dX12_goThrough_69 : decode cX12_goThrough 69 = .ok (.iload_n 3, 1) := by decide +kernel
theorem dX12_goThrough_70 : decode cX12_goThrough 70 = .ok (.iload 4, 2) := by decide +kernel
theorem dX12_goThrough_72 : decode cX12_goThrough 72 = .ok (.invokevirtual 214, 3) := by decide +kernel
theorem dX12_goThrough_75 : decode cX12_goThrough 75 = .ok (.iinc 5 1, 3) := by decide +kernel
theorem dX12_goThrough_78 : decode cX12_goThrough 78 = .ok (.goto (-70), 3) := by decide +kernel
theorem dX12_goThrough_81 : decode cX12_goThrough 81 = .ok (.iload_n 1, 1) := by decide +kernel
theorem dX12_goThrough_82 : decode cX12_goThrough 82 = .ok (.istore 5, 2) := by decide +kernel
theorem dX12_goThrough_84 : decode cX12_goThrough 84 = .ok (.iload 5, 2) := by decide +kernel
theorem dX12_goThrough_86 : decode cX12_goThrough 86 = .ok (.iload_n 2, 1) := by decide +kernel
theorem dX12_goThrough_87 : decode cX12_goThrough 87 = .ok (.if_icmp .ge 70, 3) := by decide +kernel
theorem dX12_goThrough_90 : decode cX12_goThrough 90 = .ok (.aload_n 0, 1) := by decide +kernel
theorem dX12_goThrough_91 : decode cX12_goThrough 91 = .ok (.getfield 207, 3) := by decide +kernel
theorem dX12_goThrough_94 : decode cX12_goThrough 94 = .ok (.ifCond .ne 63, 3) := by decide +kernel
theorem dX12_goThrough_97 : decode cX12_goThrough 97 = .ok (.aload_n 0, 1) := by decide +kernel
theorem dX12_goThrough_98 : decode cX12_goThrough 98 = .ok (.getfield 28, 3) := by decide +kernel
theorem dX12_goThrough_101 : decode cX12_goThrough 101 = .ok (.iload 5, 2) := by decide +kernel
theorem dX12_goThrough_103 : decode cX12_goThrough 103 = .ok (.iaload, 1) := by decide +kernel
theorem dX12_goThrough_104 : decode cX12_goThrough 104 = .ok (.iconst 4, 1) := by decide +kernel
theorem dX12_goThrough_105 : decode cX12_goThrough 105 = .ok (.if_icmp .ne 46, 3) := by decide +kernel
theorem dX12_goThrough_108 : decode cX12_goThrough 108 = .ok (.iload 5, 2) := by decide +kernel
theorem dX12_goThrough_110 : decode cX12_goThrough 110 = .ok (.aload_n 0, 1) := by decide +kernel
theorem dX12_goThrough_111 : decode cX12_goThrough 111 = .ok (.getfield 190, 3) := by decide +kernel
theorem dX12_goThrough_114 : decode cX12_goThrough 114 = .ok (.if_icmp .eq 37, 3) := by decide +kernel
theorem dX12_goThrough_117 : decode cX12_goThrough 117 = .ok (.aload_n 0, 1) := by decide +kernel
theorem dX12_goThrough_118 : decode cX12_goThrough 118 = .ok (.dup, 1) := by decide +kernel
theorem dX12_goThrough_119 : decode cX12_goThrough 119 = .ok (.getfield 200, 3) := by decide +kernel
theorem dX12_goThrough_122 : decode cX12_goThrough 122 = .ok (.iconst 1, 1) := by decide +kernel
theorem dX12_goThrough_123 : decode cX12_goThrough 123 = .ok (.iadd, 1) := by decide +kernel
theorem dX12_goThrough_124 : decode cX12_goThrough 124 = .ok (.putfield 200, 3) := by decide +kernel
theorem dX12_goThrough_127 : decode cX12_goThrough 127 = .ok (.aload_n 0, 1) := by decide +kernel
theorem dX12_goThrough_128 : decode cX12_goThrough 128 = .ok (.iload 5, 2) := by decide +kernel
theorem dX12_goThrough_130 : decode cX12_goThrough 130 = .ok (.iconst 1, 1) := by decide +kernel
theorem dX12_goThrough_131 : decode cX12_goThrough 131 = .ok (.iadd, 1) := by decide +kernel
theorem dX12_goThrough_132 : decode cX12_goThrough 132 = .ok (.iload_n 2, 1) := by decide +kernel
theorem dX12_goThrough_133 : decode cX12_goThrough 133 = .ok (.aload_n 0, 1) := by decide +kernel
theorem dX12_goThrough_134 : decode cX12_goThrough 134 = .ok (.getfield 22, 3) := by decide +kernel
theorem dX12_goThrough_137 : decode cX12_goThrough 137 = .ok (.iload_n 3, 1) := by decide +kernel
theorem dX12_goThrough_138 : decode cX12_goThrough 138 = .ok (.iaload, 1) := by decide +kernel
theorem dX12_goThrough_139 : decode cX12_goThrough 139 = .ok (.aload_n 0, 1) := by decide +kernel
theorem dX12_goThrough_140 : decode cX12_goThrough 140 = .ok (.getfield 25, 3) := by decide +kernel
theorem dX12_goThrough_143 : decode cX12_goThrough 143 = .ok (.iload_n 3, 1) := by decide +kernel
theorem dX12_goThrough_144 : decode cX12_goThrough 144 = .ok (.iaload, 1) := by decide +kernel
theorem dX12_goThrough_145 : decode cX12_goThrough 145 = .ok (.iload_n 3, 1) := by decide +kernel
theorem dX12_goThrough_146 : decode cX12_goThrough 146 = .ok (.iload 4, 2) := by decide +kernel
theorem dX12_goThrough_148 : decode cX12_goThrough 148 = .ok (.invokevirtual 214, 3) := by decide +kernel
theorem dX12_goThrough_151 : decode cX12_goThrough 151 = .ok (.iinc 5 1, 3) := by decide +kernel
theorem dX12_goThrough_154 : decode cX12_goThrough 154 = .ok (.goto (-70), 3) := by decide +kernel
theorem dX12_goThrough_157 : decode cX12_goThrough 157 = .ok (.return_, 1) := by decide +kernel
theorem dX12_asksFor_0 : decode cX12_asksFor 0 = .ok (.iconst 0, 1) := by decide +kernel
theorem dX12_asksFor_1 : decode cX12_asksFor 1 = .ok (.istore_n 2, 1) := by decide +kernel
theorem dX12_asksFor_2 : decode cX12_asksFor 2 = .ok (.aload_n 0, 1) := by decide +kernel
theorem dX12_asksFor_3 : decode cX12_asksFor 3 = .ok (.iconst 0, 1) := by decide +kernel
theorem dX12_asksFor_4 : decode cX12_asksFor 4 = .ok (.putfield 207, 3) := by decide +kernel
theorem dX12_asksFor_7 : decode cX12_asksFor 7 = .ok (.aload_n 0, 1) := by decide +kernel
theorem dX12_asksFor_8 : decode cX12_asksFor 8 = .ok (.invokevirtual 218, 3) := by decide +kernel
theorem dX12_asksFor_11 : decode cX12_asksFor 11 = .ok (.iconst 0, 1) := by decide +kernel
theorem dX12_asksFor_12 : decode cX12_asksFor 12 = .ok (.istore_n 3, 1) := by decide +kernel
theorem dX12_asksFor_13 : decode cX12_asksFor 13 = .ok (.iload_n 3, 1) := by decide +kernel
theorem dX12_asksFor_14 : decode cX12_asksFor 14 = .ok (.bipush 12, 2) := by decide +kernel
theorem dX12_asksFor_16 : decode cX12_asksFor 16 = .ok (.if_icmp .ge 16, 3) := by decide +kernel
theorem dX12_asksFor_19 : decode cX12_asksFor 19 = .ok (.aload_n 0, 1) := by decide +kernel
theorem dX12_asksFor_20 : decode cX12_asksFor 20 = .ok (.getfield 67, 3) := by decide +kernel
theorem dX12_asksFor_23 : decode cX12_asksFor 23 = .ok (.iload_n 3, 1) := by decide +kernel
theorem dX12_asksFor_24 : decode cX12_asksFor 24 = .ok (.iconst 0, 1) := by decide +kernel
theorem dX12_asksFor_25 : decode cX12_asksFor 25 = .ok (.iastore, 1) := by decide +kernel
theorem dX12_asksFor_26 : decode cX12_asksFor 26 = .ok (.iinc 3 1, 3) := by decide +kernel
theorem dX12_asksFor_29 : decode cX12_asksFor 29 = .ok (.goto (-16), 3) := by decide +kernel
theorem dX12_asksFor_32 : decode cX12_asksFor 32 = .ok (.iconst 0, 1) := by decide +kernel
theorem dX12_asksFor_33 : decode cX12_asksFor 33 = .ok (.istore_n 3, 1) := by decide +kernel
theorem dX12_asksFor_34 : decode cX12_asksFor 34 = .ok (.iload_n 3, 1) := by decide +kernel
theorem dX12_asksFor_35 : decode cX12_asksFor 35 = .ok (.aload_n 0, 1) := by decide +kernel
theorem dX12_asksFor_36 : decode cX12_asksFor 36 = .ok (.getfield 145, 3) := by decide +kernel
theorem dX12_asksFor_39 : decode cX12_asksFor 39 = .ok (.if_icmp .ge 44, 3) := by decide +kernel
theorem dX12_asksFor_42 : decode cX12_asksFor 42 = .ok (.aload_n 0, 1) := by decide +kernel
theorem dX12_asksFor_43 : decode cX12_asksFor 43 = .ok (.getfield 28, 3) := by decide +kernel
theorem dX12_asksFor_46 : decode cX12_asksFor 46 = .ok (.iload_n 3, 1) := by decide +kernel
theorem dX12_asksFor_47 : decode cX12_asksFor 47 = .ok (.iaload, 1) := by decide +kernel
theorem dX12_asksFor_48 : decode cX12_asksFor 48 = .ok (.bipush 6, 2) := by decide +kernel
theorem dX12_asksFor_50 : decode cX12_asksFor 50 = .ok (.if_icmp .ne 27, 3) := by decide +kernel
theorem dX12_asksFor_53 : decode cX12_asksFor 53 = .ok (.iload_n 3, 1) := by decide +kernel
theorem dX12_asksFor_54 : decode cX12_asksFor 54 = .ok (.aload_n 0, 1) := by decide +kernel
theorem dX12_asksFor_55 : decode cX12_asksFor 55 = .ok (.getfield 190, 3) := by decide +kernel
theorem dX12_asksFor_58 : decode cX12_asksFor 58 = .ok (.if_icmp .eq 19, 3) := by decide +kernel
theorem dX12_asksFor_61 : decode cX12_asksFor 61 = .ok (.aload_n 0, 1) := by decide +kernel
theorem dX12_asksFor_62 : decode cX12_asksFor 62 = .ok (.iload_n 2, 1) := by decide +kernel
theorem dX12_asksFor_63 : decode cX12_asksFor 63 = .ok (.iload_n 3, 1) := by decide +kernel
theorem dX12_asksFor_64 : decode cX12_asksFor 64 = .ok (.iload_n 1, 1) := by decide +kernel
theorem dX12_asksFor_65 : decode cX12_asksFor 65 = .ok (.iconst (-1), 1) := by decide +kernel
theorem dX12_asksFor_66 : decode cX12_asksFor 66 = .ok (.invokevirtual 221, 3) := by decide +kernel
theorem dX12_asksFor_69 : decode cX12_asksFor 69 = .ok (.aload_n 0, 1) := by decide +kernel
theorem dX12_asksFor_70 : decode cX12_asksFor 70 = .ok (.invokevirtual 225, 3) := by decide +kernel
theorem dX12_asksFor_73 : decode cX12_asksFor 73 = .ok (.iload_n 3, 1) := by decide +kernel
theorem dX12_asksFor_74 : decode cX12_asksFor 74 = .ok (.iconst 1, 1) := by decide +kernel
theorem dX12_asksFor_75 : decode cX12_asksFor 75 = .ok (.iadd, 1) := by decide +kernel
theorem dX12_asksFor_76 : decode cX12_asksFor 76 = .ok (.istore_n 2, 1) := by decide +kernel
theorem dX12_asksFor_77 : decode cX12_asksFor 77 = .ok (.iinc 3 1, 3) := by decide +kernel
theorem dX12_asksFor_80 : decode cX12_asksFor 80 = .ok (.goto (-46), 3) := by decide +kernel
theorem dX12_asksFor_83 : decode cX12_asksFor 83 = .ok (.aload_n 0, 1) := by decide +kernel
theorem dX12_asksFor_84 : decode cX12_asksFor 84 = .ok (.iload_n 2, 1) := by decide +kernel
theorem dX12_asksFor_85 : decode cX12_asksFor 85 = .ok (.aload_n 0, 1) := by decide +kernel
theorem dX12_asksFor_86 : decode cX12_asksFor 86 = .ok (.getfield 145, 3) := by decide +kernel
theorem dX12_asksFor_89 : decode cX12_asksFor 89 = .ok (.iload_n 1, 1) := by decide +kernel
theorem dX12_asksFor_90 : decode cX12_asksFor 90 = .ok (.aload_n 0, 1) := by decide +kernel
theorem dX12_asksFor_91 : decode cX12_asksFor 91 = .ok (.getfield 184, 3) := by decide +kernel
theorem dX12_asksFor_94 : decode cX12_asksFor 94 = .ok (.bipush 6, 2) := by decide +kernel
theorem dX12_asksFor_96 : decode cX12_asksFor 96 = .ok (.if_icmp .ne 7, 3) := by decide +kernel
theorem dX12_asksFor_99 : decode cX12_asksFor 99 = .ok (.iconst 1, 1) := by decide +kernel
theorem dX12_asksFor_100 : decode cX12_asksFor 100 = .ok (.goto 16, 3) := by decide +kernel
theorem dX12_asksFor_103 : decode cX12_asksFor 103 = .ok (.aload_n 0, 1) := by decide +kernel
theorem dX12_asksFor_104 : decode cX12_asksFor 104 = .ok (.getfield 184, 3) := by decide +kernel
theorem dX12_asksFor_107 : decode cX12_asksFor 107 = .ok (.iconst 5, 1) := by decide +kernel
theorem dX12_asksFor_108 : decode cX12_asksFor 108 = .ok (.if_icmp .ne 7, 3) := by decide +kernel
theorem dX12_asksFor_111 : decode cX12_asksFor 111 = .ok (.iconst 2, 1) := by decide +kernel
theorem dX12_asksFor_112 : decode cX12_asksFor 112 = .ok (.goto 4, 3) := by decide +kernel
theorem dX12_asksFor_115 : decode cX12_asksFor 115 = .ok (.iconst (-1), 1) := by decide +kernel
theorem dX12_asksFor_116 : decode cX12_asksFor 116 = .ok (.invokevirtual 221, 3) := by decide +kernel
theorem dX12_asksFor_119 : decode cX12_asksFor 119 = .ok (.return_, 1) := by decide +kernel
theorem dX12_opens_0 : decode cX12_opens 0 = .ok (.aload_n 0, 1) := by decide +kernel
theorem dX12_opens_1 : decode cX12_opens 1 = .ok (.iload_n 1, 1) := by decide +kernel
theorem dX12_opens_2 : decode cX12_opens 2 = .ok (.iload_n 2, 1) := by decide +kernel
theorem dX12_opens_3 : decode cX12_opens 3 = .ok (.invokevirtual 228, 3) := by decide +kernel
theorem dX12_opens_6 : decode cX12_opens 6 = .ok (.aload_n 0, 1) := by decide +kernel
theorem dX12_opens_7 : decode cX12_opens 7 = .ok (.getfield 40, 3) := by decide +kernel
theorem dX12_opens_10 : decode cX12_opens 10 = .ok (.iconst 5, 1) := by decide +kernel
theorem dX12_opens_11 : decode cX12_opens 11 = .ok (.iload_n 1, 1) := by decide +kernel
theorem dX12_opens_12 : decode cX12_opens 12 = .ok (.imul, 1) := by decide +kernel
theorem dX12_opens_13 : decode cX12_opens 13 = .ok (.iconst 2, 1) := by decide +kernel
theorem dX12_opens_14 : decode cX12_opens 14 = .ok (.iadd, 1) := by decide +kernel
theorem dX12_opens_15 : decode cX12_opens 15 = .ok (.dup2, 1) := by decide +kernel
theorem dX12_opens_16 : decode cX12_opens 16 = .ok (.iaload, 1) := by decide +kernel
theorem dX12_opens_17 : decode cX12_opens 17 = .ok (.iconst 1, 1) := by decide +kernel
theorem dX12_opens_18 : decode cX12_opens 18 = .ok (.iadd, 1) := by decide +kernel
theorem dX12_opens_19 : decode cX12_opens 19 = .ok (.iastore, 1) := by decide +kernel
theorem dX12_opens_20 : decode cX12_opens 20 = .ok (.return_, 1) := by decide +kernel
theorem dX12_begins_0 : decode cX12_begins 0 = .ok (.aload_n 0, 1) := by decide +kernel
theorem dX12_begins_1 : decode cX12_begins 1 = .ok (.getfield 43, 3) := by decide +kernel
theorem dX12_begins_4 : decode cX12_begins 4 = .ok (.iload_n 1, 1) := by decide +kernel
theorem dX12_begins_5 : decode cX12_begins 5 = .ok (.iconst 0, 1) := by decide +kernel
theorem dX12_begins_6 : decode cX12_begins 6 = .ok (.iastore, 1) := by decide +kernel
theorem dX12_begins_7 : decode cX12_begins 7 = .ok (.aload_n 0, 1) := by decide +kernel
theorem dX12_begins_8 : decode cX12_begins 8 = .ok (.getfield 34, 3) := by decide +kernel
theorem dX12_begins_11 : decode cX12_begins 11 = .ok (.iload_n 1, 1) := by decide +kernel
theorem dX12_begins_12 : decode cX12_begins 12 = .ok (.iconst (-1), 1) := by decide +kernel
theorem dX12_begins_13 : decode cX12_begins 13 = .ok (.iastore, 1) := by decide +kernel
theorem dX12_begins_14 : decode cX12_begins 14 = .ok (.iconst 0, 1) := by decide +kernel
theorem dX12_begins_15 : decode cX12_begins 15 = .ok (.istore_n 2, 1) := by decide +kernel
theorem dX12_begins_16 : decode cX12_begins 16 = .ok (.iload_n 2, 1) := by decide +kernel
theorem dX12_begins_17 : decode cX12_begins 17 = .ok (.iconst 5, 1) := by decide +kernel
theorem dX12_begins_18 : decode cX12_begins 18 = .ok (.if_icmp .ge 20, 3) := by decide +kernel
theorem dX12_begins_21 : decode cX12_begins 21 = .ok (.aload_n 0, 1) := by decide +kernel
theorem dX12_begins_22 : decode cX12_begins 22 = .ok (.getfield 40, 3) := by decide +kernel
theorem dX12_begins_25 : decode cX12_begins 25 = .ok (.iconst 5, 1) := by decide +kernel
theorem dX12_begins_26 : decode cX12_begins 26 = .ok (.iload_n 1, 1) := by decide +kernel
theorem dX12_begins_27 : decode cX12_begins 27 = .ok (.imul, 1) := by decide +kernel
theorem dX12_begins_28 : decode cX12_begins 28 = .ok (.iload_n 2, 1) := by decide +kernel
theorem dX12_begins_29 : decode cX12_begins 29 = .ok (.iadd, 1) := by decide +kernel
theorem dX12_begins_30 : decode cX12_begins 30 = .ok (.iconst 0, 1) := by decide +kernel
theorem dX12_begins_31 : decode cX12_begins 31 = .ok (.iastore, 1) := by decide +kernel
theorem dX12_begins_32 : decode cX12_begins 32 = .ok (.iinc 2 1, 3) := by decide +kernel
theorem dX12_begins_35 : decode cX12_begins 35 = .ok (.goto (-19), 3) := by decide +kernel
theorem dX12_begins_38 : decode cX12_begins 38 = .ok (.aload_n 0, 1) := by decide +kernel
theorem dX12_begins_39 : decode cX12_begins 39 = .ok (.iconst 0, 1) := by decide +kernel
theorem dX12_begins_40 : decode cX12_begins 40 = .ok (.putfield 200, 3) := by decide +kernel
theorem dX12_begins_43 : decode cX12_begins 43 = .ok (.aload_n 0, 1) := by decide +kernel
theorem dX12_begins_44 : decode cX12_begins 44 = .ok (.iconst 0, 1) := by decide +kernel
theorem dX12_begins_45 : decode cX12_begins 45 = .ok (.putfield 211, 3) := by decide +kernel
theorem dX12_begins_48 : decode cX12_begins 48 = .ok (.return_, 1) := by decide +kernel
theorem dX12_rowByRow_0 : decode cX12_rowByRow 0 = .ok (.aload_n 0, 1) := by decide +kernel
theorem dX12_rowByRow_1 : decode cX12_rowByRow 1 = .ok (.iconst 0, 1) := by decide +kernel
theorem dX12_rowByRow_2 : decode cX12_rowByRow 2 = .ok (.invokevirtual 231, 3) := by decide +kernel
theorem dX12_rowByRow_5 : decode cX12_rowByRow 5 = .ok (.iconst 0, 1) := by decide +kernel
theorem dX12_rowByRow_6 : decode cX12_rowByRow 6 = .ok (.istore_n 1, 1) := by decide +kernel
theorem dX12_rowByRow_7 : decode cX12_rowByRow 7 = .ok (.iload_n 1, 1) := by decide +kernel
theorem dX12_rowByRow_8 : decode cX12_rowByRow 8 = .ok (.aload_n 0, 1) := by decide +kernel
theorem dX12_rowByRow_9 : decode cX12_rowByRow 9 = .ok (.getfield 19, 3) := by decide +kernel
theorem dX12_rowByRow_12 : decode cX12_rowByRow 12 = .ok (.iconst 0, 1) := by decide +kernel
theorem dX12_rowByRow_13 : decode cX12_rowByRow 13 = .ok (.iaload, 1) := by decide +kernel
theorem dX12_rowByRow_14 : decode cX12_rowByRow 14 = .ok (.if_icmp .ge 146, 3) := by decide +kernel
theorem dX12_rowByRow_17 : decode cX12_rowByRow 17 = .ok (.aload_n 0, 1) := by decide +kernel
theorem dX12_rowByRow_18 : decode cX12_rowByRow 18 = .ok (.getfield 34, 3) := by decide +kernel
theorem dX12_rowByRow_21 : decode cX12_rowByRow 21 = .ok (.iconst 0, 1) := by decide +kernel
theorem dX12_rowByRow_22 : decode cX12_rowByRow 22 = .ok (.iaload, 1) := by decide +kernel
theorem dX12_rowByRow_23 : decode cX12_rowByRow 23 = .ok (.iconst (-1), 1) := by decide +kernel
theorem dX12_rowByRow_24 : decode cX12_rowByRow 24 = .ok (.if_icmp .ne 136, 3) := by decide +kernel
theorem dX12_rowByRow_27 : decode cX12_rowByRow 27 = .ok (.aload_n 0, 1) := by decide +kernel
theorem dX12_rowByRow_28 : decode cX12_rowByRow 28 = .ok (.iconst 0, 1) := by decide +kernel
theorem dX12_rowByRow_29 : decode cX12_rowByRow 29 = .ok (.iconst 0, 1) := by decide +kernel
theorem dX12_rowByRow_30 : decode cX12_rowByRow 30 = .ok (.invokevirtual 235, 3) := by decide +kernel
theorem dX12_rowByRow_33 : decode cX12_rowByRow 33 = .ok (.iconst 0, 1) := by decide +kernel
theorem dX12_rowByRow_34 : decode cX12_rowByRow 34 = .ok (.istore_n 2, 1) := by decide +kernel
theorem dX12_rowByRow_35 : decode cX12_rowByRow 35 = .ok (.iload_n 2, 1) := by decide +kernel
theorem dX12_rowByRow_36 : decode cX12_rowByRow 36 = .ok (.aload_n 0, 1) := by decide +kernel
theorem dX12_rowByRow_37 : decode cX12_rowByRow 37 = .ok (.getfield 145, 3) := by decide +kernel
theorem dX12_rowByRow_40 : decode cX12_rowByRow 40 = .ok (.if_icmp .ge 20, 3) := by decide +kernel
theorem dX12_rowByRow_43 : decode cX12_rowByRow 43 = .ok (.aload_n 0, 1) := by decide +kernel
theorem dX12_rowByRow_44 : decode cX12_rowByRow 44 = .ok (.iconst 0, 1) := by decide +kernel
theorem dX12_rowByRow_45 : decode cX12_rowByRow 45 = .ok (.aload_n 0, 1) := by decide +kernel
theorem dX12_rowByRow_46 : decode cX12_rowByRow 46 = .ok (.getfield 28, 3) := by decide +kernel
theorem dX12_rowByRow_49 : decode cX12_rowByRow 49 = .ok (.iload_n 2, 1) := by decide +kernel
theorem dX12_rowByRow_50 : decode cX12_rowByRow 50 = .ok (.iaload, 1) := by decide +kernel
theorem dX12_rowByRow_51 : decode cX12_rowByRow 51 = .ok (.invokevirtual 235, 3) := by decide +kernel
theorem dX12_rowByRow_54 : decode cX12_rowByRow 54 = .ok (.iinc 2 1, 3) := by decide +kernel
theorem dX12_rowByRow_57 : decode cX12_rowByRow 57 = .ok (.goto (-22), 3) := by decide +kernel
theorem dX12_rowByRow_60 : decode cX12_rowByRow 60 = .ok (.aload_n 0, 1) := by decide +kernel
theorem dX12_rowByRow_61 : decode cX12_rowByRow 61 = .ok (.iload_n 1, 1) := by decide +kernel
theorem dX12_rowByRow_62 : decode cX12_rowByRow 62 = .ok (.invokevirtual 238, 3) := by decide +kernel
theorem dX12_rowByRow_65 : decode cX12_rowByRow 65 = .ok (.aload_n 0, 1) := by decide +kernel
theorem dX12_rowByRow_66 : decode cX12_rowByRow 66 = .ok (.getfield 37, 3) := by decide +kernel
theorem dX12_rowByRow_69 : decode cX12_rowByRow 69 = .ok (.iload_n 1, 1) := by decide +kernel
theorem dX12_rowByRow_70 : decode cX12_rowByRow 70 = .ok (.aload_n 0, 1) := by decide +kernel
theorem dX12_rowByRow_71 : decode cX12_rowByRow 71 = .ok (.iconst (-1), 1) := by decide +kernel
theorem dX12_rowByRow_72 : decode cX12_rowByRow 72 = .ok (.aload_n 0, 1) := by decide +kernel
theorem dX12_rowByRow_73 : decode cX12_rowByRow 73 = .ok (.getfield 25, 3) := by decide +kernel
theorem dX12_rowByRow_76 : decode cX12_rowByRow 76 = .ok (.iload_n 1, 1) := by decide +kernel
theorem dX12_rowByRow_77 : decode cX12_rowByRow 77 = .ok (.iaload, 1) := by decide +kernel
theorem dX12_rowByRow_78 : decode cX12_rowByRow 78 = .ok (.invokevirtual 241, 3) := by decide +kernel
theorem dX12_rowByRow_81 : decode cX12_rowByRow 81 = .ok (.iastore, 1) := by decide +kernel
theorem dX12_rowByRow_82 : decode cX12_rowByRow 82 = .ok (.aload_n 0, 1) := by decide +kernel
theorem dX12_rowByRow_83 : decode cX12_rowByRow 83 = .ok (.getfield 34, 3) := by decide +kernel
theorem dX12_rowByRow_86 : decode cX12_rowByRow 86 = .ok (.iconst 0, 1) := by decide +kernel
theorem dX12_rowByRow_87 : decode cX12_rowByRow 87 = .ok (.aload_n 0, 1) := by decide +kernel
theorem dX12_rowByRow_88 : decode cX12_rowByRow 88 = .ok (.getfield 37, 3) := by decide +kernel
theorem dX12_rowByRow_91 : decode cX12_rowByRow 91 = .ok (.iload_n 1, 1) := by decide +kernel
theorem dX12_rowByRow_92 : decode cX12_rowByRow 92 = .ok (.iaload, 1) := by decide +kernel
theorem dX12_rowByRow_93 : decode cX12_rowByRow 93 = .ok (.bipush (-2), 2) := by decide +kernel
theorem dX12_rowByRow_95 : decode cX12_rowByRow 95 = .ok (.if_icmp .ne 7, 3) := by decide +kernel
theorem dX12_rowByRow_98 : decode cX12_rowByRow 98 = .ok (.iload_n 1, 1) := by decide +kernel
theorem dX12_rowByRow_99 : decode cX12_rowByRow 99 = .ok (.goto 4, 3) := by decide +kernel
theorem dX12_rowByRow_102 : decode cX12_rowByRow 102 = .ok (.iconst (-1), 1) := by decide +kernel
theorem dX12_rowByRow_103 : decode cX12_rowByRow 103 = .ok (.iastore, 1) := by decide +kernel
theorem dX12_rowByRow_104 : decode cX12_rowByRow 104 = .ok (.aload_n 0, 1) := by decide +kernel
theorem dX12_rowByRow_105 : decode cX12_rowByRow 105 = .ok (.getfield 145, 3) := by decide +kernel
theorem dX12_rowByRow_108 : decode cX12_rowByRow 108 = .ok (.iconst 1, 1) := by decide +kernel
theorem dX12_rowByRow_109 : decode cX12_rowByRow 109 = .ok (.isub, 1) := by decide +kernel
theorem dX12_rowByRow_110 : decode cX12_rowByRow 110 = .ok (.istore_n 2, 1) := by decide +kernel
theorem dX12_rowByRow_111 : decode cX12_rowByRow 111 = .ok (.iload_n 2, 1) := by decide +kernel
theorem dX12_rowByRow_112 : decode cX12_rowByRow 112 = .ok (.ifCond .lt 23, 3) := by decide +kernel
theorem dX12_rowByRow_115 : decode cX12_rowByRow 115 = .ok (.aload_n 0, 1) := by decide +kernel
theorem dX12_rowByRow_116 : decode cX12_rowByRow 116 = .ok (.iconst 0, 1) := by decide +kernel
theorem dX12_rowByRow_117 : decode cX12_rowByRow 117 = .ok (.bipush 10, 2) := by decide +kernel
theorem dX12_rowByRow_119 : decode cX12_rowByRow 119 = .ok (.aload_n 0, 1) := by decide +kernel
theorem dX12_rowByRow_120 : decode cX12_rowByRow 120 = .ok (.getfield 28, 3) := by decide +kernel
theorem dX12_rowByRow_123 : decode cX12_rowByRow 123 = .ok (.iload_n 2, 1) := by decide +kernel
theorem dX12_rowByRow_124 : decode cX12_rowByRow 124 = .ok (.iaload, 1) := by decide +kernel
theorem dX12_rowByRow_125 : decode cX12_rowByRow 125 = .ok (.iadd, 1) := by decide +kernel
theorem dX12_rowByRow_126 : decode cX12_rowByRow 126 = .ok (.invokevirtual 228, 3) := by decide +kernel
theorem dX12_rowByRow_129 : decode cX12_rowByRow 129 = .ok (.iinc 2 (-1), 3) := by decide +kernel
theorem dX12_rowByRow_132 : decode cX12_rowByRow 132 = .ok (.goto (-21), 3) := by decide +kernel
theorem dX12_rowByRow_135 : decode cX12_rowByRow 135 = .ok (.aload_n 0, 1) := by decide +kernel
theorem dX12_rowByRow_136 : decode cX12_rowByRow 136 = .ok (.iconst 0, 1) := by decide +kernel
theorem dX12_rowByRow_137 : decode cX12_rowByRow 137 = .ok (.bipush 10, 2) := by decide +kernel
theorem dX12_rowByRow_139 : decode cX12_rowByRow 139 = .ok (.invokevirtual 228, 3) := by decide +kernel
theorem dX12_rowByRow_142 : decode cX12_rowByRow 142 = .ok (.aload_n 0, 1) := by decide +kernel
theorem dX12_rowByRow_143 : decode cX12_rowByRow 143 = .ok (.getfield 40, 3) := by decide +kernel
theorem dX12_rowByRow_146 : decode cX12_rowByRow 146 = .ok (.iconst 3, 1) := by decide +kernel
theorem dX12_rowByRow_147 : decode cX12_rowByRow 147 = .ok (.aload_n 0, 1) := by decide +kernel
theorem dX12_rowByRow_148 : decode cX12_rowByRow 148 = .ok (.getfield 145, 3) := by decide +kernel
theorem dX12_rowByRow_151 : decode cX12_rowByRow 151 = .ok (.iconst 1, 1) := by decide +kernel
theorem dX12_rowByRow_152 : decode cX12_rowByRow 152 = .ok (.iadd, 1) := by decide +kernel
theorem dX12_rowByRow_153 : decode cX12_rowByRow 153 = .ok (.iastore, 1) := by decide +kernel
theorem dX12_rowByRow_154 : decode cX12_rowByRow 154 = .ok (.iinc 1 1, 3) := by decide +kernel
theorem dX12_rowByRow_157 : decode cX12_rowByRow 157 = .ok (.goto (-150), 3) := by decide +kernel
theorem dX12_rowByRow_160 : decode cX12_rowByRow 160 = .ok (.aload_n 0, 1) := by decide +kernel
theorem dX12_rowByRow_161 : decode cX12_rowByRow 161 = .ok (.getfield 40, 3) := by decide +kernel
theorem dX12_rowByRow_164 : decode cX12_rowByRow 164 = .ok (.iconst 0, 1) := by decide +kernel
theorem dX12_rowByRow_165 : decode cX12_rowByRow 165 = .ok (.aload_n 0, 1) := by decide +kernel
theorem dX12_rowByRow_166 : decode cX12_rowByRow 166 = .ok (.getfield 211, 3) := by decide +kernel
theorem dX12_rowByRow_169 : decode cX12_rowByRow 169 = .ok (.iastore, 1) := by decide +kernel
theorem dX12_rowByRow_170 : decode cX12_rowByRow 170 = .ok (.aload_n 0, 1) := by decide +kernel
theorem dX12_rowByRow_171 : decode cX12_rowByRow 171 = .ok (.getfield 40, 3) := by decide +kernel
theorem dX12_rowByRow_174 : decode cX12_rowByRow 174 = .ok (.iconst 1, 1) := by decide +kernel
theorem dX12_rowByRow_175 : decode cX12_rowByRow 175 = .ok (.aload_n 0, 1) := by decide +kernel
theorem dX12_rowByRow_176 : decode cX12_rowByRow 176 = .ok (.getfield 200, 3) := by decide +kernel
theorem dX12_rowByRow_179 : decode cX12_rowByRow 179 = .ok (.iastore, 1) := by decide +kernel
theorem dX12_rowByRow_180 : decode cX12_rowByRow 180 = .ok (.return_, 1) := by decide +kernel
theorem dX12_speaksNow_0 : decode cX12_speaksNow 0 = .ok (.aload_n 0, 1) := by decide +kernel
theorem dX12_speaksNow_1 : decode cX12_speaksNow 1 = .ok (.getfield 184, 3) := by decide +kernel
theorem dX12_speaksNow_4 : decode cX12_speaksNow 4 = .ok (.bipush 7, 2) := by decide +kernel
theorem dX12_speaksNow_6 : decode cX12_speaksNow 6 = .ok (.if_icmp .eq 12, 3) := by decide +kernel
theorem dX12_speaksNow_9 : decode cX12_speaksNow 9 = .ok (.aload_n 0, 1) := by decide +kernel
theorem dX12_speaksNow_10 : decode cX12_speaksNow 10 = .ok (.getfield 184, 3) := by decide +kernel
theorem dX12_speaksNow_13 : decode cX12_speaksNow 13 = .ok (.bipush 8, 2) := by decide +kernel
theorem dX12_speaksNow_15 : decode cX12_speaksNow 15 = .ok (.if_icmp .ne 9, 3) := by decide +kernel
theorem dX12_speaksNow_18 : decode cX12_speaksNow 18 = .ok (.sipush 4096, 3) := by decide +kernel
theorem dX12_speaksNow_21 : decode cX12_speaksNow 21 = .ok (.goto 4, 3) := by decide +kernel
theorem dX12_speaksNow_24 : decode cX12_speaksNow 24 = .ok (.iconst 0, 1) := by decide +kernel
theorem dX12_speaksNow_25 : decode cX12_speaksNow 25 = .ok (.istore_n 1, 1) := by decide +kernel
theorem dX12_speaksNow_26 : decode cX12_speaksNow 26 = .ok (.iconst 0, 1) := by decide +kernel
theorem dX12_speaksNow_27 : decode cX12_speaksNow 27 = .ok (.istore_n 2, 1) := by decide +kernel
theorem dX12_speaksNow_28 : decode cX12_speaksNow 28 = .ok (.iload_n 2, 1) := by decide +kernel
theorem dX12_speaksNow_29 : decode cX12_speaksNow 29 = .ok (.aload_n 0, 1) := by decide +kernel
theorem dX12_speaksNow_30 : decode cX12_speaksNow 30 = .ok (.getfield 145, 3) := by decide +kernel
theorem dX12_speaksNow_33 : decode cX12_speaksNow 33 = .ok (.if_icmp .ge 33, 3) := by decide +kernel
theorem dX12_speaksNow_36 : decode cX12_speaksNow 36 = .ok (.iload_n 1, 1) := by decide +kernel
theorem dX12_speaksNow_37 : decode cX12_speaksNow 37 = .ok (.aload_n 0, 1) := by decide +kernel
theorem dX12_speaksNow_38 : decode cX12_speaksNow 38 = .ok (.getfield 28, 3) := by decide +kernel
theorem dX12_speaksNow_41 : decode cX12_speaksNow 41 = .ok (.iload_n 2, 1) := by decide +kernel
theorem dX12_speaksNow_42 : decode cX12_speaksNow 42 = .ok (.iaload, 1) := by decide +kernel
theorem dX12_speaksNow_43 : decode cX12_speaksNow 43 = .ok (.iconst 1, 1) := by decide +kernel
theorem dX12_speaksNow_44 : decode cX12_speaksNow 44 = .ok (.iconst 4, 1) := by decide +kernel
theorem dX12_speaksNow_45 : decode cX12_speaksNow 45 = .ok (.invokestatic 107, 3) := by decide +kernel
theorem dX12_speaksNow_48 : decode cX12_speaksNow 48 = .ok (.ifCond .eq 9, 3) := by decide +kernel
theorem dX12_speaksNow_51 : decode cX12_speaksNow 51 = .ok (.iconst 1, 1) := by decide +kernel
theorem dX12_speaksNow_52 : decode cX12_speaksNow 52 = .ok (.iload_n 2, 1) := by decide +kernel
theorem dX12_speaksNow_53 : decode cX12_speaksNow 53 = .ok (.ishl, 1) := by decide +kernel
theorem dX12_speaksNow_54 : decode cX12_speaksNow 54 = .ok (.goto 4, 3) := by decide +kernel
theorem dX12_speaksNow_57 : decode cX12_speaksNow 57 = .ok (.iconst 0, 1) := by decide +kernel
theorem dX12_speaksNow_58 : decode cX12_speaksNow 58 = .ok (.ior, 1) := by decide +kernel
theorem dX12_speaksNow_59 : decode cX12_speaksNow 59 = .ok (.istore_n 1, 1) := by decide +kernel
theorem dX12_speaksNow_60 : decode cX12_speaksNow 60 = .ok (.iinc 2 1, 3) := by decide +kernel
theorem dX12_speaksNow_63 : decode cX12_speaksNow 63 = .ok (.goto (-35), 3) := by decide +kernel
theorem dX12_speaksNow_66 : decode cX12_speaksNow 66 = .ok (.iload_n 1, 1) := by decide +kernel
theorem dX12_speaksNow_67 : decode cX12_speaksNow 67 = .ok (.ireturn, 1) := by decide +kernel
theorem dX12_isOfV_0 : decode cX12_isOfV 0 = .ok (.aload_n 0, 1) := by decide +kernel
theorem dX12_isOfV_1 : decode cX12_isOfV 1 = .ok (.getfield 184, 3) := by decide +kernel
theorem dX12_isOfV_4 : decode cX12_isOfV 4 = .ok (.bipush 7, 2) := by decide +kernel
theorem dX12_isOfV_6 : decode cX12_isOfV 6 = .ok (.if_icmp .eq 12, 3) := by decide +kernel
theorem dX12_isOfV_9 : decode cX12_isOfV 9 = .ok (.aload_n 0, 1) := by decide +kernel
theorem dX12_isOfV_10 : decode cX12_isOfV 10 = .ok (.getfield 184, 3) := by decide +kernel
theorem dX12_isOfV_13 : decode cX12_isOfV 13 = .ok (.bipush 8, 2) := by decide +kernel
theorem dX12_isOfV_15 : decode cX12_isOfV 15 = .ok (.if_icmp .ne 7, 3) := by decide +kernel
theorem dX12_isOfV_18 : decode cX12_isOfV 18 = .ok (.iconst 1, 1) := by decide +kernel
theorem dX12_isOfV_19 : decode cX12_isOfV 19 = .ok (.goto 4, 3) := by decide +kernel
theorem dX12_isOfV_22 : decode cX12_isOfV 22 = .ok (.iconst 0, 1) := by decide +kernel
theorem dX12_isOfV_23 : decode cX12_isOfV 23 = .ok (.istore_n 1, 1) := by decide +kernel
theorem dX12_isOfV_24 : decode cX12_isOfV 24 = .ok (.iconst 0, 1) := by decide +kernel
theorem dX12_isOfV_25 : decode cX12_isOfV 25 = .ok (.istore_n 2, 1) := by decide +kernel
theorem dX12_isOfV_26 : decode cX12_isOfV 26 = .ok (.iload_n 2, 1) := by decide +kernel
theorem dX12_isOfV_27 : decode cX12_isOfV 27 = .ok (.aload_n 0, 1) := by decide +kernel
theorem dX12_isOfV_28 : decode cX12_isOfV 28 = .ok (.getfield 145, 3) := by decide +kernel
theorem dX12_isOfV_31 : decode cX12_isOfV 31 = .ok (.if_icmp .ge 29, 3) := by decide +kernel
theorem dX12_isOfV_34 : decode cX12_isOfV 34 = .ok (.iload_n 1, 1) := by decide +kernel
theorem dX12_isOfV_35 : decode cX12_isOfV 35 = .ok (.ifCond .ne 13, 3) := by decide +kernel
theorem dX12_isOfV_38 : decode cX12_isOfV 38 = .ok (.aload_n 0, 1) := by decide +kernel
theorem dX12_isOfV_39 : decode cX12_isOfV 39 = .ok (.getfield 28, 3) := by decide +kernel
theorem dX12_isOfV_42 : decode cX12_isOfV 42 = .ok (.iload_n 2, 1) := by decide +kernel
theorem dX12_isOfV_43 : decode cX12_isOfV 43 = .ok (.iaload, 1) := by decide +kernel
theorem dX12_isOfV_44 : decode cX12_isOfV 44 = .ok (.iconst 4, 1) := by decide +kernel
theorem dX12_isOfV_45 : decode cX12_isOfV 45 = .ok (.if_icmp .ne 7, 3) := by decide +kernel
theorem dX12_isOfV_48 : decode cX12_isOfV 48 = .ok (.iconst 1, 1) := by decide +kernel
theorem dX12_isOfV_49 : decode cX12_isOfV 49 = .ok (.goto 4, 3) := by decide +kernel
theorem dX12_isOfV_52 : decode cX12_isOfV 52 = .ok (.iconst 0, 1) := by decide +kernel
theorem dX12_isOfV_53 : decode cX12_isOfV 53 = .ok (.istore_n 1, 1) := by decide +kernel
theorem dX12_isOfV_54 : decode cX12_isOfV 54 = .ok (.iinc 2 1, 3) := by decide +kernel
theorem dX12_isOfV_57 : decode cX12_isOfV 57 = .ok (.goto (-31), 3) := by decide +kernel
theorem dX12_isOfV_60 : decode cX12_isOfV 60 = .ok (.iload_n 1, 1) := by decide +kernel
theorem dX12_isOfV_61 : decode cX12_isOfV 61 = .ok (.ireturn, 1) := by decide +kernel
theorem dX12_findsDomain_0 : decode cX12_findsDomain 0 = .ok (.aload_n 0, 1) := by decide +kernel
theorem dX12_findsDomain_1 : decode cX12_findsDomain 1 = .ok (.iconst 0, 1) := by decide +kernel
theorem dX12_findsDomain_2 : decode cX12_findsDomain 2 = .ok (.putfield 244, 3) := by decide +kernel
theorem dX12_findsDomain_5 : decode cX12_findsDomain 5 = .ok (.iconst 0, 1) := by decide +kernel
theorem dX12_findsDomain_6 : decode cX12_findsDomain 6 = .ok (.istore_n 1, 1) := by decide +kernel
theorem dX12_findsDomain_7 : decode cX12_findsDomain 7 = .ok (.iload_n 1, 1) := by decide +kernel
theorem dX12_findsDomain_8 : decode cX12_findsDomain 8 = .ok (.aload_n 0, 1) := by decide +kernel
theorem dX12_findsDomain_9 : decode cX12_findsDomain 9 = .ok (.getfield 19, 3) := by decide +kernel
theorem dX12_findsDomain_12 : decode cX12_findsDomain 12 = .ok (.iconst 0, 1) := by decide +kernel
theorem dX12_findsDomain_13 : decode cX12_findsDomain 13 = .ok (.iaload, 1) := by decide +kernel
theorem dX12_findsDomain_14 : decode cX12_findsDomain 14 = .ok (.if_icmp .ge 119, 3) := by decide +kernel
theorem dX12_findsDomain_17 : decode cX12_findsDomain 17 = .ok (.aload_n 0, 1) := by decide +kernel
theorem dX12_findsDomain_18 : decode cX12_findsDomain 18 = .ok (.invokevirtual 247, 3) := by decide +kernel
theorem dX12_findsDomain_21 : decode cX12_findsDomain 21 = .ok (.ifCond .eq 112, 3) := by decide +kernel
theorem dX12_findsDomain_24 : decode cX12_findsDomain 24 = .ok (.aload_n 0, 1) := by decide +kernel
theorem dX12_findsDomain_25 : decode cX12_findsDomain 25 = .ok (.invokevirtual 250, 3) := by decide +kernel
theorem dX12_findsDomain_28 : decode cX12_findsDomain 28 = .ok (.ifCond .eq 12, 3) := by decide +kernel
theorem dX12_findsDomain_31 : decode cX12_findsDomain 31 = .ok (.aload_n 0, 1) := by decide +kernel
theorem dX12_findsDomain_32 : decode cX12_findsDomain 32 = .ok (.getfield 25, 3) := by decide +kernel
theorem dX12_findsDomain_35 : decode cX12_findsDomain 35 = .ok (.iload_n 1, 1) := by decide +kernel
theorem dX12_findsDomain_36 : decode cX12_findsDomain 36 = .ok (.iaload, 1) := by decide +kernel
theorem dX12_findsDomain_37 : decode cX12_findsDomain 37 = .ok (.goto 4, 3) := by decide +kernel
theorem dX12_findsDomain_40 : decode cX12_findsDomain 40 = .ok (.iconst (-1), 1) := by decide +kernel
theorem dX12_findsDomain_41 : decode cX12_findsDomain 41 = .ok (.istore_n 2, 1) := by decide +kernel
theorem dX12_findsDomain_42 : decode cX12_findsDomain 42 = .ok (.iconst 0, 1) := by decide +kernel
theorem dX12_findsDomain_43 : decode cX12_findsDomain 43 = .ok (.istore_n 3, 1) := by decide +kernel
theorem dX12_findsDomain_44 : decode cX12_findsDomain 44 = .ok (.iload_n 3, 1) := by decide +kernel
theorem dX12_findsDomain_45 : decode cX12_findsDomain 45 = .ok (.aload_n 0, 1) := by decide +kernel
theorem dX12_findsDomain_46 : decode cX12_findsDomain 46 = .ok (.getfield 244, 3) := by decide +kernel
theorem dX12_findsDomain_49 : decode cX12_findsDomain 49 = .ok (.if_icmp .ge 34, 3) := by decide +kernel
theorem dX12_findsDomain_52 : decode cX12_findsDomain 52 = .ok (.aload_n 0, 1) := by decide +kernel
theorem dX12_findsDomain_53 : decode cX12_findsDomain 53 = .ok (.getfield 76, 3) := by decide +kernel
theorem dX12_findsDomain_56 : decode cX12_findsDomain 56 = .ok (.iload_n 3, 1) := by decide +kernel
theorem dX12_findsDomain_57 : decode cX12_findsDomain 57 = .ok (.iaload, 1) := by decide +kernel
theorem dX12_findsDomain_58 : decode cX12_findsDomain 58 = .ok (.aload_n 0, 1) := by decide +kernel
theorem dX12_findsDomain_59 : decode cX12_findsDomain 59 = .ok (.getfield 22, 3) := by decide +kernel
theorem dX12_findsDomain_62 : decode cX12_findsDomain 62 = .ok (.iload_n 1, 1) := by decide +kernel
theorem dX12_findsDomain_63 : decode cX12_findsDomain 63 = .ok (.iaload, 1) := by decide +kernel
theorem dX12_findsDomain_64 : decode cX12_findsDomain 64 = .ok (.if_icmp .ne 13, 3) := by decide +kernel
theorem dX12_findsDomain_67 : decode cX12_findsDomain 67 = .ok (.aload_n 0, 1) := by decide +kernel
theorem dX12_findsDomain_68 : decode cX12_findsDomain 68 = .ok (.getfield 79, 3) := by decide +kernel
theorem dX12_findsDomain_71 : decode cX12_findsDomain 71 = .ok (.iload_n 3, 1) := by decide +kernel
theorem dX12_findsDomain_72 : decode cX12_findsDomain 72 = .ok (.iaload, 1) := by decide +kernel
theorem dX12_findsDomain_73 : decode cX12_findsDomain 73 = .ok (.iload_n 2, 1) := by decide +kernel
theorem dX12_findsDomain_74 : decode cX12_findsDomain 74 = .ok (.if_icmp .eq 9, 3) := by decide +kernel
theorem dX12_findsDomain_77 : decode cX12_findsDomain 77 = .ok (.iinc 3 1, 3) := by decide +kernel
theorem dX12_findsDomain_80 : decode cX12_findsDomain 80 = .ok (.goto (-36), 3) := by decide +kernel
theorem dX12_findsDomain_83 : decode cX12_findsDomain 83 = .ok (.iload_n 3, 1) := by decide +kernel
theorem dX12_findsDomain_84 : decode cX12_findsDomain 84 = .ok (.aload_n 0, 1) := by decide +kernel
theorem dX12_findsDomain_85 : decode cX12_findsDomain 85 = .ok (.getfield 244, 3) := by decide +kernel
theorem dX12_findsDomain_88 : decode cX12_findsDomain 88 = .ok (.if_icmp .ne 32, 3) := by decide +kernel
theorem dX12_findsDomain_91 : decode cX12_findsDomain 91 = .ok (.aload_n 0, 1) := by decide +kernel
theorem dX12_findsDomain_92 : decode cX12_findsDomain 92 = .ok (.getfield 76, 3) := by decide +kernel
theorem dX12_findsDomain_95 : decode cX12_findsDomain 95 = .ok (.iload_n 3, 1) := by decide +kernel
theorem dX12_findsDomain_96 : decode cX12_findsDomain 96 = .ok (.aload_n 0, 1) := by decide +kernel
theorem dX12_findsDomain_97 : decode cX12_findsDomain 97 = .ok (.getfield 22, 3) := by decide +kernel
theorem dX12_findsDomain_100 : decode cX12_findsDomain 100 = .ok (.iload_n 1, 1) := by decide +kernel
theorem dX12_findsDomain_101 : decode cX12_findsDomain 101 = .ok (.iaload, 1) := by decide +kernel
theorem dX12_findsDomain_102 : decode cX12_findsDomain 102 = .ok (.iastore, 1) := by decide +kernel
theorem dX12_findsDomain_103 : decode cX12_findsDomain 103 = .ok (.aload_n 0, 1) := by decide +kernel
theorem dX12_findsDomain_104 : decode cX12_findsDomain 104 = .ok (.getfield 79, 3) := by decide +kernel
theorem dX12_findsDomain_107 : decode cX12_findsDomain 107 = .ok (.iload_n 3, 1) := by decide +kernel
theorem dX12_findsDomain_108 : decode cX12_findsDomain 108 = .ok (.iload_n 2, 1) := by decide +kernel
theorem dX12_findsDomain_109 : decode cX12_findsDomain 109 = .ok (.iastore, 1) := by decide +kernel
theorem dX12_findsDomain_110 : decode cX12_findsDomain 110 = .ok (.aload_n 0, 1) := by decide +kernel
theorem dX12_findsDomain_111 : decode cX12_findsDomain 111 = .ok (.dup, 1) := by decide +kernel
theorem dX12_findsDomain_112 : decode cX12_findsDomain 112 = .ok (.getfield 244, 3) := by decide +kernel
theorem dX12_findsDomain_115 : decode cX12_findsDomain 115 = .ok (.iconst 1, 1) := by decide +kernel
theorem dX12_findsDomain_116 : decode cX12_findsDomain 116 = .ok (.iadd, 1) := by decide +kernel
theorem dX12_findsDomain_117 : decode cX12_findsDomain 117 = .ok (.putfield 244, 3) := by decide +kernel
theorem dX12_findsDomain_120 : decode cX12_findsDomain 120 = .ok (.aload_n 0, 1) := by decide +kernel
theorem dX12_findsDomain_121 : decode cX12_findsDomain 121 = .ok (.getfield 82, 3) := by decide +kernel
theorem dX12_findsDomain_124 : decode cX12_findsDomain 124 = .ok (.iload_n 1, 1) := by decide +kernel
theorem dX12_findsDomain_125 : decode cX12_findsDomain 125 = .ok (.iload_n 3, 1) := by decide +kernel
theorem dX12_findsDomain_126 : decode cX12_findsDomain 126 = .ok (.iastore, 1) := by decide +kernel
theorem dX12_findsDomain_127 : decode cX12_findsDomain 127 = .ok (.iinc 1 1, 3) := by decide +kernel
theorem dX12_findsDomain_130 : decode cX12_findsDomain 130 = .ok (.goto (-123), 3) := by decide +kernel
theorem dX12_findsDomain_133 : decode cX12_findsDomain 133 = .ok (.return_, 1) := by decide +kernel
theorem dX12_joinAt_0 : decode cX12_joinAt 0 = .ok (.aload_n 0, 1) := by decide +kernel
theorem dX12_joinAt_1 : decode cX12_joinAt 1 = .ok (.invokevirtual 247, 3) := by decide +kernel
theorem dX12_joinAt_4 : decode cX12_joinAt 4 = .ok (.istore_n 1, 1) := by decide +kernel
theorem dX12_joinAt_5 : decode cX12_joinAt 5 = .ok (.iconst 0, 1) := by decide +kernel
theorem dX12_joinAt_6 : decode cX12_joinAt 6 = .ok (.istore_n 2, 1) := by decide +kernel
theorem dX12_joinAt_7 : decode cX12_joinAt 7 = .ok (.iload_n 2, 1) := by decide +kernel
theorem dX12_joinAt_8 : decode cX12_joinAt 8 = .ok (.aload_n 0, 1) := by decide +kernel
theorem dX12_joinAt_9 : decode cX12_joinAt 9 = .ok (.getfield 145, 3) := by decide +kernel
theorem dX12_joinAt_12 : decode cX12_joinAt 12 = .ok (.if_icmp .ge 17, 3) := by decide +kernel
theorem dX12_joinAt_15 : decode cX12_joinAt 15 = .ok (.iload_n 1, 1) := by decide +kernel
theorem dX12_joinAt_16 : decode cX12_joinAt 16 = .ok (.iload_n 2, 1) := by decide +kernel
theorem dX12_joinAt_17 : decode cX12_joinAt 17 = .ok (.invokestatic 254, 3) := by decide +kernel
theorem dX12_joinAt_20 : decode cX12_joinAt 20 = .ok (.ifCond .ne 9, 3) := by decide +kernel
theorem dX12_joinAt_23 : decode cX12_joinAt 23 = .ok (.iinc 2 1, 3) := by decide +kernel
theorem dX12_joinAt_26 : decode cX12_joinAt 26 = .ok (.goto (-19), 3) := by decide +kernel
theorem dX12_joinAt_29 : decode cX12_joinAt 29 = .ok (.iload_n 1, 1) := by decide +kernel
theorem dX12_joinAt_30 : decode cX12_joinAt 30 = .ok (.ifCond .ne 7, 3) := by decide +kernel
theorem dX12_joinAt_33 : decode cX12_joinAt 33 = .ok (.iconst (-1), 1) := by decide +kernel
theorem dX12_joinAt_34 : decode cX12_joinAt 34 = .ok (.goto 4, 3) := by decide +kernel
theorem dX12_joinAt_37 : decode cX12_joinAt 37 = .ok (.iload_n 2, 1) := by decide +kernel
theorem dX12_joinAt_38 : decode cX12_joinAt 38 = .ok (.ireturn, 1) := by decide +kernel
theorem dX12_plans_0 : decode cX12_plans 0 = .ok (.aload_n 0, 1) := by decide +kernel
theorem dX12_plans_1 : decode cX12_plans 1 = .ok (.invokevirtual 258, 3) := by decide +kernel
end
section
theorem dX12_plans_4 : decode cX12_plans 4 = .ok (.istore_n 1, 1) := by decide +kernel
theorem dX12_plans_5 : decode cX12_plans 5 = .ok (.aload_n 0, 1) := by decide +kernel
theorem dX12_plans_6 : decode cX12_plans 6 = .ok (.iconst 0, 1) := by decide +kernel
theorem dX12_plans_7 : decode cX12_plans 7 = .ok (.putfield 261, 3) := by decide +kernel
theorem dX12_plans_10 : decode cX12_plans 10 = .ok (.aload_n 0, 1) := by decide +kernel
theorem dX12_plans_11 : decode cX12_plans 11 = .ok (.getfield 85, 3) := by decide +kernel
theorem dX12_plans_14 : decode cX12_plans 14 = .ok (.aload_n 0, 1) := by decide +kernel
theorem dX12_plans_15 : decode cX12_plans 15 = .ok (.getfield 261, 3) := by decide +kernel
theorem dX12_plans_18 : decode cX12_plans 18 = .ok (.iconst 0, 1) := by decide +kernel
theorem dX12_plans_19 : decode cX12_plans 19 = .ok (.iastore, 1) := by decide +kernel
theorem dX12_plans_20 : decode cX12_plans 20 = .ok (.aload_n 0, 1) := by decide +kernel
theorem dX12_plans_21 : decode cX12_plans 21 = .ok (.dup, 1) := by decide +kernel
theorem dX12_plans_22 : decode cX12_plans 22 = .ok (.getfield 261, 3) := by decide +kernel
theorem dX12_plans_25 : decode cX12_plans 25 = .ok (.iconst 1, 1) := by decide +kernel
theorem dX12_plans_26 : decode cX12_plans 26 = .ok (.iadd, 1) := by decide +kernel
theorem dX12_plans_27 : decode cX12_plans 27 = .ok (.putfield 261, 3) := by decide +kernel
theorem dX12_plans_30 : decode cX12_plans 30 = .ok (.iconst 0, 1) := by decide +kernel
theorem dX12_plans_31 : decode cX12_plans 31 = .ok (.istore_n 2, 1) := by decide +kernel
theorem dX12_plans_32 : decode cX12_plans 32 = .ok (.iload_n 2, 1) := by decide +kernel
theorem dX12_plans_33 : decode cX12_plans 33 = .ok (.aload_n 0, 1) := by decide +kernel
theorem dX12_plans_34 : decode cX12_plans 34 = .ok (.getfield 145, 3) := by decide +kernel
theorem dX12_plans_37 : decode cX12_plans 37 = .ok (.if_icmp .gt 110, 3) := by decide +kernel
theorem dX12_plans_40 : decode cX12_plans 40 = .ok (.iload_n 2, 1) := by decide +kernel
theorem dX12_plans_41 : decode cX12_plans 41 = .ok (.aload_n 0, 1) := by decide +kernel
theorem dX12_plans_42 : decode cX12_plans 42 = .ok (.getfield 145, 3) := by decide +kernel
theorem dX12_plans_45 : decode cX12_plans 45 = .ok (.if_icmp .ge 17, 3) := by decide +kernel
theorem dX12_plans_48 : decode cX12_plans 48 = .ok (.aload_n 0, 1) := by decide +kernel
theorem dX12_plans_49 : decode cX12_plans 49 = .ok (.getfield 28, 3) := by decide +kernel
theorem dX12_plans_52 : decode cX12_plans 52 = .ok (.iload_n 2, 1) := by decide +kernel
theorem dX12_plans_53 : decode cX12_plans 53 = .ok (.iaload, 1) := by decide +kernel
theorem dX12_plans_54 : decode cX12_plans 54 = .ok (.iconst 1, 1) := by decide +kernel
theorem dX12_plans_55 : decode cX12_plans 55 = .ok (.if_icmp .ne 7, 3) := by decide +kernel
theorem dX12_plans_58 : decode cX12_plans 58 = .ok (.iconst 1, 1) := by decide +kernel
theorem dX12_plans_59 : decode cX12_plans 59 = .ok (.goto 4, 3) := by decide +kernel
theorem dX12_plans_62 : decode cX12_plans 62 = .ok (.iconst 0, 1) := by decide +kernel
theorem dX12_plans_63 : decode cX12_plans 63 = .ok (.istore_n 3, 1) := by decide +kernel
theorem dX12_plans_64 : decode cX12_plans 64 = .ok (.iload_n 2, 1) := by decide +kernel
theorem dX12_plans_65 : decode cX12_plans 65 = .ok (.iload_n 1, 1) := by decide +kernel
theorem dX12_plans_66 : decode cX12_plans 66 = .ok (.if_icmp .ne 28, 3) := by decide +kernel
theorem dX12_plans_69 : decode cX12_plans 69 = .ok (.iload_n 3, 1) := by decide +kernel
theorem dX12_plans_70 : decode cX12_plans 70 = .ok (.ifCond .ne 24, 3) := by decide +kernel
theorem dX12_plans_73 : decode cX12_plans 73 = .ok (.aload_n 0, 1) := by decide +kernel
theorem dX12_plans_74 : decode cX12_plans 74 = .ok (.getfield 85, 3) := by decide +kernel
theorem dX12_plans_77 : decode cX12_plans 77 = .ok (.aload_n 0, 1) := by decide +kernel
theorem dX12_plans_78 : decode cX12_plans 78 = .ok (.getfield 261, 3) := by decide +kernel
theorem dX12_plans_81 : decode cX12_plans 81 = .ok (.bipush 8, 2) := by decide +kernel
theorem dX12_plans_83 : decode cX12_plans 83 = .ok (.iastore, 1) := by decide +kernel
theorem dX12_plans_84 : decode cX12_plans 84 = .ok (.aload_n 0, 1) := by decide +kernel
theorem dX12_plans_85 : decode cX12_plans 85 = .ok (.dup, 1) := by decide +kernel
theorem dX12_plans_86 : decode cX12_plans 86 = .ok (.getfield 261, 3) := by decide +kernel
theorem dX12_plans_89 : decode cX12_plans 89 = .ok (.iconst 1, 1) := by decide +kernel
theorem dX12_plans_90 : decode cX12_plans 90 = .ok (.iadd, 1) := by decide +kernel
theorem dX12_plans_91 : decode cX12_plans 91 = .ok (.putfield 261, 3) := by decide +kernel
theorem dX12_plans_94 : decode cX12_plans 94 = .ok (.iload_n 2, 1) := by decide +kernel
theorem dX12_plans_95 : decode cX12_plans 95 = .ok (.aload_n 0, 1) := by decide +kernel
theorem dX12_plans_96 : decode cX12_plans 96 = .ok (.getfield 145, 3) := by decide +kernel
theorem dX12_plans_99 : decode cX12_plans 99 = .ok (.if_icmp .ge 42, 3) := by decide +kernel
theorem dX12_plans_102 : decode cX12_plans 102 = .ok (.aload_n 0, 1) := by decide +kernel
theorem dX12_plans_103 : decode cX12_plans 103 = .ok (.getfield 85, 3) := by decide +kernel
theorem dX12_plans_106 : decode cX12_plans 106 = .ok (.aload_n 0, 1) := by decide +kernel
theorem dX12_plans_107 : decode cX12_plans 107 = .ok (.getfield 261, 3) := by decide +kernel
theorem dX12_plans_110 : decode cX12_plans 110 = .ok (.iload_n 2, 1) := by decide +kernel
theorem dX12_plans_111 : decode cX12_plans 111 = .ok (.iload_n 1, 1) := by decide +kernel
theorem dX12_plans_112 : decode cX12_plans 112 = .ok (.if_icmp .ne 12, 3) := by decide +kernel
theorem dX12_plans_115 : decode cX12_plans 115 = .ok (.iload_n 3, 1) := by decide +kernel
theorem dX12_plans_116 : decode cX12_plans 116 = .ok (.ifCond .eq 8, 3) := by decide +kernel
theorem dX12_plans_119 : decode cX12_plans 119 = .ok (.bipush 9, 2) := by decide +kernel
theorem dX12_plans_121 : decode cX12_plans 121 = .ok (.goto 9, 3) := by decide +kernel
theorem dX12_plans_124 : decode cX12_plans 124 = .ok (.aload_n 0, 1) := by decide +kernel
theorem dX12_plans_125 : decode cX12_plans 125 = .ok (.getfield 28, 3) := by decide +kernel
theorem dX12_plans_128 : decode cX12_plans 128 = .ok (.iload_n 2, 1) := by decide +kernel
theorem dX12_plans_129 : decode cX12_plans 129 = .ok (.iaload, 1) := by decide +kernel
theorem dX12_plans_130 : decode cX12_plans 130 = .ok (.iastore, 1) := by decide +kernel
theorem dX12_plans_131 : decode cX12_plans 131 = .ok (.aload_n 0, 1) := by decide +kernel
theorem dX12_plans_132 : decode cX12_plans 132 = .ok (.dup, 1) := by decide +kernel
theorem dX12_plans_133 : decode cX12_plans 133 = .ok (.getfield 261, 3) := by decide +kernel
theorem dX12_plans_136 : decode cX12_plans 136 = .ok (.iconst 1, 1) := by decide +kernel
theorem dX12_plans_137 : decode cX12_plans 137 = .ok (.iadd, 1) := by decide +kernel
theorem dX12_plans_138 : decode cX12_plans 138 = .ok (.putfield 261, 3) := by decide +kernel
theorem dX12_plans_141 : decode cX12_plans 141 = .ok (.iinc 2 1, 3) := by decide +kernel
theorem dX12_plans_144 : decode cX12_plans 144 = .ok (.goto (-112), 3) := by decide +kernel
theorem dX12_plans_147 : decode cX12_plans 147 = .ok (.return_, 1) := by decide +kernel
theorem dX12_isLike_0 : decode cX12_isLike 0 = .ok (.iconst 0, 1) := by decide +kernel
theorem dX12_isLike_1 : decode cX12_isLike 1 = .ok (.istore_n 2, 1) := by decide +kernel
theorem dX12_isLike_2 : decode cX12_isLike 2 = .ok (.iconst 0, 1) := by decide +kernel
theorem dX12_isLike_3 : decode cX12_isLike 3 = .ok (.istore_n 3, 1) := by decide +kernel
theorem dX12_isLike_4 : decode cX12_isLike 4 = .ok (.iload_n 3, 1) := by decide +kernel
theorem dX12_isLike_5 : decode cX12_isLike 5 = .ok (.aload_n 0, 1) := by decide +kernel
theorem dX12_isLike_6 : decode cX12_isLike 6 = .ok (.getfield 178, 3) := by decide +kernel
theorem dX12_isLike_9 : decode cX12_isLike 9 = .ok (.if_icmp .ge 64, 3) := by decide +kernel
theorem dX12_isLike_12 : decode cX12_isLike 12 = .ok (.iload_n 2, 1) := by decide +kernel
theorem dX12_isLike_13 : decode cX12_isLike 13 = .ok (.ifCond .ne 48, 3) := by decide +kernel
theorem dX12_isLike_16 : decode cX12_isLike 16 = .ok (.aload_n 0, 1) := by decide +kernel
theorem dX12_isLike_17 : decode cX12_isLike 17 = .ok (.getfield 58, 3) := by decide +kernel
theorem dX12_isLike_20 : decode cX12_isLike 20 = .ok (.iload_n 3, 1) := by decide +kernel
theorem dX12_isLike_21 : decode cX12_isLike 21 = .ok (.iaload, 1) := by decide +kernel
theorem dX12_isLike_22 : decode cX12_isLike 22 = .ok (.aload_n 0, 1) := by decide +kernel
theorem dX12_isLike_23 : decode cX12_isLike 23 = .ok (.getfield 49, 3) := by decide +kernel
theorem dX12_isLike_26 : decode cX12_isLike 26 = .ok (.iload_n 1, 1) := by decide +kernel
theorem dX12_isLike_27 : decode cX12_isLike 27 = .ok (.iaload, 1) := by decide +kernel
theorem dX12_isLike_28 : decode cX12_isLike 28 = .ok (.if_icmp .ne 37, 3) := by decide +kernel
theorem dX12_isLike_31 : decode cX12_isLike 31 = .ok (.aload_n 0, 1) := by decide +kernel
theorem dX12_isLike_32 : decode cX12_isLike 32 = .ok (.getfield 61, 3) := by decide +kernel
theorem dX12_isLike_35 : decode cX12_isLike 35 = .ok (.iload_n 3, 1) := by decide +kernel
theorem dX12_isLike_36 : decode cX12_isLike 36 = .ok (.iaload, 1) := by decide +kernel
theorem dX12_isLike_37 : decode cX12_isLike 37 = .ok (.aload_n 0, 1) := by decide +kernel
theorem dX12_isLike_38 : decode cX12_isLike 38 = .ok (.getfield 52, 3) := by decide +kernel
theorem dX12_isLike_41 : decode cX12_isLike 41 = .ok (.iload_n 1, 1) := by decide +kernel
theorem dX12_isLike_42 : decode cX12_isLike 42 = .ok (.iaload, 1) := by decide +kernel
theorem dX12_isLike_43 : decode cX12_isLike 43 = .ok (.if_icmp .ne 22, 3) := by decide +kernel
theorem dX12_isLike_46 : decode cX12_isLike 46 = .ok (.aload_n 0, 1) := by decide +kernel
theorem dX12_isLike_47 : decode cX12_isLike 47 = .ok (.getfield 64, 3) := by decide +kernel
theorem dX12_isLike_50 : decode cX12_isLike 50 = .ok (.iload_n 3, 1) := by decide +kernel
theorem dX12_isLike_51 : decode cX12_isLike 51 = .ok (.iaload, 1) := by decide +kernel
theorem dX12_isLike_52 : decode cX12_isLike 52 = .ok (.aload_n 0, 1) := by decide +kernel
theorem dX12_isLike_53 : decode cX12_isLike 53 = .ok (.getfield 55, 3) := by decide +kernel
theorem dX12_isLike_56 : decode cX12_isLike 56 = .ok (.iload_n 1, 1) := by decide +kernel
theorem dX12_isLike_57 : decode cX12_isLike 57 = .ok (.iaload, 1) := by decide +kernel
theorem dX12_isLike_58 : decode cX12_isLike 58 = .ok (.if_icmp .ne 7, 3) := by decide +kernel
theorem dX12_isLike_61 : decode cX12_isLike 61 = .ok (.iconst 1, 1) := by decide +kernel
theorem dX12_isLike_62 : decode cX12_isLike 62 = .ok (.goto 4, 3) := by decide +kernel
theorem dX12_isLike_65 : decode cX12_isLike 65 = .ok (.iconst 0, 1) := by decide +kernel
theorem dX12_isLike_66 : decode cX12_isLike 66 = .ok (.istore_n 2, 1) := by decide +kernel
theorem dX12_isLike_67 : decode cX12_isLike 67 = .ok (.iinc 3 1, 3) := by decide +kernel
theorem dX12_isLike_70 : decode cX12_isLike 70 = .ok (.goto (-66), 3) := by decide +kernel
theorem dX12_isLike_73 : decode cX12_isLike 73 = .ok (.iload_n 2, 1) := by decide +kernel
theorem dX12_isLike_74 : decode cX12_isLike 74 = .ok (.ireturn, 1) := by decide +kernel
theorem dX12_joins_0 : decode cX12_joins 0 = .ok (.iconst 0, 1) := by decide +kernel
theorem dX12_joins_1 : decode cX12_joins 1 = .ok (.istore_n 2, 1) := by decide +kernel
theorem dX12_joins_2 : decode cX12_joins 2 = .ok (.iload_n 2, 1) := by decide +kernel
theorem dX12_joins_3 : decode cX12_joins 3 = .ok (.aload_n 0, 1) := by decide +kernel
theorem dX12_joins_4 : decode cX12_joins 4 = .ok (.getfield 181, 3) := by decide +kernel
theorem dX12_joins_7 : decode cX12_joins 7 = .ok (.if_icmp .ge 69, 3) := by decide +kernel
theorem dX12_joins_10 : decode cX12_joins 10 = .ok (.iconst 0, 1) := by decide +kernel
theorem dX12_joins_11 : decode cX12_joins 11 = .ok (.istore_n 3, 1) := by decide +kernel
theorem dX12_joins_12 : decode cX12_joins 12 = .ok (.iload_n 3, 1) := by decide +kernel
theorem dX12_joins_13 : decode cX12_joins 13 = .ok (.aload_n 0, 1) := by decide +kernel
theorem dX12_joins_14 : decode cX12_joins 14 = .ok (.getfield 244, 3) := by decide +kernel
theorem dX12_joins_17 : decode cX12_joins 17 = .ok (.if_icmp .ge 53, 3) := by decide +kernel
theorem dX12_joins_20 : decode cX12_joins 20 = .ok (.iload_n 1, 1) := by decide +kernel
theorem dX12_joins_21 : decode cX12_joins 21 = .ok (.ifCond .eq 26, 3) := by decide +kernel
theorem dX12_joins_24 : decode cX12_joins 24 = .ok (.iconst 1, 1) := by decide +kernel
theorem dX12_joins_25 : decode cX12_joins 25 = .ok (.iconst 0, 1) := by decide +kernel
theorem dX12_joins_26 : decode cX12_joins 26 = .ok (.aload_n 0, 1) := by decide +kernel
theorem dX12_joins_27 : decode cX12_joins 27 = .ok (.getfield 49, 3) := by decide +kernel
theorem dX12_joins_30 : decode cX12_joins 30 = .ok (.iload_n 2, 1) := by decide +kernel
theorem dX12_joins_31 : decode cX12_joins 31 = .ok (.iaload, 1) := by decide +kernel
theorem dX12_joins_32 : decode cX12_joins 32 = .ok (.iconst 0, 1) := by decide +kernel
theorem dX12_joins_33 : decode cX12_joins 33 = .ok (.aload_n 0, 1) := by decide +kernel
theorem dX12_joins_34 : decode cX12_joins 34 = .ok (.getfield 76, 3) := by decide +kernel
theorem dX12_joins_37 : decode cX12_joins 37 = .ok (.iload_n 3, 1) := by decide +kernel
theorem dX12_joins_38 : decode cX12_joins 38 = .ok (.iaload, 1) := by decide +kernel
theorem dX12_joins_39 : decode cX12_joins 39 = .ok (.invokestatic 193, 3) := by decide +kernel
theorem dX12_joins_42 : decode cX12_joins 42 = .ok (.bipush (-2), 2) := by decide +kernel
theorem dX12_joins_44 : decode cX12_joins 44 = .ok (.if_icmp .eq 20, 3) := by decide +kernel
theorem dX12_joins_47 : decode cX12_joins 47 = .ok (.aload_n 0, 1) := by decide +kernel
theorem dX12_joins_48 : decode cX12_joins 48 = .ok (.aload_n 0, 1) := by decide +kernel
theorem dX12_joins_49 : decode cX12_joins 49 = .ok (.getfield 49, 3) := by decide +kernel
theorem dX12_joins_52 : decode cX12_joins 52 = .ok (.iload_n 2, 1) := by decide +kernel
theorem dX12_joins_53 : decode cX12_joins 53 = .ok (.iaload, 1) := by decide +kernel
theorem dX12_joins_54 : decode cX12_joins 54 = .ok (.aload_n 0, 1) := by decide +kernel
theorem dX12_joins_55 : decode cX12_joins 55 = .ok (.getfield 52, 3) := by decide +kernel
theorem dX12_joins_58 : decode cX12_joins 58 = .ok (.iload_n 2, 1) := by decide +kernel
theorem dX12_joins_59 : decode cX12_joins 59 = .ok (.iaload, 1) := by decide +kernel
theorem dX12_joins_60 : decode cX12_joins 60 = .ok (.iload_n 3, 1) := by decide +kernel
theorem dX12_joins_61 : decode cX12_joins 61 = .ok (.invokevirtual 203, 3) := by decide +kernel
theorem dX12_joins_64 : decode cX12_joins 64 = .ok (.iinc 3 1, 3) := by decide +kernel
theorem dX12_joins_67 : decode cX12_joins 67 = .ok (.goto (-55), 3) := by decide +kernel
theorem dX12_joins_70 : decode cX12_joins 70 = .ok (.iinc 2 1, 3) := by decide +kernel
theorem dX12_joins_73 : decode cX12_joins 73 = .ok (.goto (-71), 3) := by decide +kernel
theorem dX12_joins_76 : decode cX12_joins 76 = .ok (.aload_n 0, 1) := by decide +kernel
theorem dX12_joins_77 : decode cX12_joins 77 = .ok (.dup, 1) := by decide +kernel
theorem dX12_joins_78 : decode cX12_joins 78 = .ok (.getfield 200, 3) := by decide +kernel
theorem dX12_joins_81 : decode cX12_joins 81 = .ok (.aload_n 0, 1) := by decide +kernel
theorem dX12_joins_82 : decode cX12_joins 82 = .ok (.getfield 178, 3) := by decide +kernel
theorem dX12_joins_85 : decode cX12_joins 85 = .ok (.iadd, 1) := by decide +kernel
theorem dX12_joins_86 : decode cX12_joins 86 = .ok (.putfield 200, 3) := by decide +kernel
theorem dX12_joins_89 : decode cX12_joins 89 = .ok (.return_, 1) := by decide +kernel
theorem dX12_does_0 : decode cX12_does 0 = .ok (.aload_n 0, 1) := by decide +kernel
theorem dX12_does_1 : decode cX12_does 1 = .ok (.getfield 28, 3) := by decide +kernel
theorem dX12_does_4 : decode cX12_does 4 = .ok (.iload_n 1, 1) := by decide +kernel
theorem dX12_does_5 : decode cX12_does 5 = .ok (.iaload, 1) := by decide +kernel
theorem dX12_does_6 : decode cX12_does 6 = .ok (.istore_n 2, 1) := by decide +kernel
theorem dX12_does_7 : decode cX12_does 7 = .ok (.iconst 0, 1) := by decide +kernel
theorem dX12_does_8 : decode cX12_does 8 = .ok (.istore_n 3, 1) := by decide +kernel
theorem dX12_does_9 : decode cX12_does 9 = .ok (.iload_n 3, 1) := by decide +kernel
theorem dX12_does_10 : decode cX12_does 10 = .ok (.aload_n 0, 1) := by decide +kernel
theorem dX12_does_11 : decode cX12_does 11 = .ok (.getfield 181, 3) := by decide +kernel
theorem dX12_does_14 : decode cX12_does 14 = .ok (.if_icmp .ge 100, 3) := by decide +kernel
theorem dX12_does_17 : decode cX12_does 17 = .ok (.aload_n 0, 1) := by decide +kernel
theorem dX12_does_18 : decode cX12_does 18 = .ok (.getfield 55, 3) := by decide +kernel
theorem dX12_does_21 : decode cX12_does 21 = .ok (.iload_n 3, 1) := by decide +kernel
theorem dX12_does_22 : decode cX12_does 22 = .ok (.iaload, 1) := by decide +kernel
theorem dX12_does_23 : decode cX12_does 23 = .ok (.iconst (-1), 1) := by decide +kernel
theorem dX12_does_24 : decode cX12_does 24 = .ok (.if_icmp .ne 7, 3) := by decide +kernel
theorem dX12_does_27 : decode cX12_does 27 = .ok (.iconst (-1), 1) := by decide +kernel
theorem dX12_does_28 : decode cX12_does 28 = .ok (.goto 14, 3) := by decide +kernel
theorem dX12_does_31 : decode cX12_does 31 = .ok (.aload_n 0, 1) := by decide +kernel
theorem dX12_does_32 : decode cX12_does 32 = .ok (.getfield 76, 3) := by decide +kernel
theorem dX12_does_35 : decode cX12_does 35 = .ok (.aload_n 0, 1) := by decide +kernel
theorem dX12_does_36 : decode cX12_does 36 = .ok (.getfield 55, 3) := by decide +kernel
theorem dX12_does_39 : decode cX12_does 39 = .ok (.iload_n 3, 1) := by decide +kernel
theorem dX12_does_40 : decode cX12_does 40 = .ok (.iaload, 1) := by decide +kernel
theorem dX12_does_41 : decode cX12_does 41 = .ok (.iaload, 1) := by decide +kernel
theorem dX12_does_42 : decode cX12_does 42 = .ok (.istore 4, 2) := by decide +kernel
theorem dX12_does_44 : decode cX12_does 44 = .ok (.iload_n 2, 1) := by decide +kernel
theorem dX12_does_45 : decode cX12_does 45 = .ok (.aload_n 0, 1) := by decide +kernel
theorem dX12_does_46 : decode cX12_does 46 = .ok (.getfield 31, 3) := by decide +kernel
theorem dX12_does_49 : decode cX12_does 49 = .ok (.iload_n 1, 1) := by decide +kernel
theorem dX12_does_50 : decode cX12_does 50 = .ok (.iaload, 1) := by decide +kernel
theorem dX12_does_51 : decode cX12_does 51 = .ok (.aload_n 0, 1) := by decide +kernel
theorem dX12_does_52 : decode cX12_does 52 = .ok (.getfield 49, 3) := by decide +kernel
theorem dX12_does_55 : decode cX12_does 55 = .ok (.iload_n 3, 1) := by decide +kernel
theorem dX12_does_56 : decode cX12_does 56 = .ok (.iaload, 1) := by decide +kernel
theorem dX12_does_57 : decode cX12_does 57 = .ok (.aload_n 0, 1) := by decide +kernel
theorem dX12_does_58 : decode cX12_does 58 = .ok (.getfield 52, 3) := by decide +kernel
theorem dX12_does_61 : decode cX12_does 61 = .ok (.iload_n 3, 1) := by decide +kernel
theorem dX12_does_62 : decode cX12_does 62 = .ok (.iaload, 1) := by decide +kernel
theorem dX12_does_63 : decode cX12_does 63 = .ok (.iload 4, 2) := by decide +kernel
theorem dX12_does_65 : decode cX12_does 65 = .ok (.invokestatic 193, 3) := by decide +kernel
theorem dX12_does_68 : decode cX12_does 68 = .ok (.istore 5, 2) := by decide +kernel
theorem dX12_does_70 : decode cX12_does 70 = .ok (.iload 5, 2) := by decide +kernel
theorem dX12_does_72 : decode cX12_does 72 = .ok (.bipush (-2), 2) := by decide +kernel
theorem dX12_does_74 : decode cX12_does 74 = .ok (.if_icmp .eq 34, 3) := by decide +kernel
theorem dX12_does_77 : decode cX12_does 77 = .ok (.iload_n 2, 1) := by decide +kernel
theorem dX12_does_78 : decode cX12_does 78 = .ok (.iconst 5, 1) := by decide +kernel
theorem dX12_does_79 : decode cX12_does 79 = .ok (.if_icmp .ne 11, 3) := by decide +kernel
theorem dX12_does_82 : decode cX12_does 82 = .ok (.aload_n 0, 1) := by decide +kernel
theorem dX12_does_83 : decode cX12_does 83 = .ok (.iload_n 3, 1) := by decide +kernel
theorem dX12_does_84 : decode cX12_does 84 = .ok (.invokevirtual 264, 3) := by decide +kernel
theorem dX12_does_87 : decode cX12_does 87 = .ok (.ifCond .ne 21, 3) := by decide +kernel
theorem dX12_does_90 : decode cX12_does 90 = .ok (.aload_n 0, 1) := by decide +kernel
theorem dX12_does_91 : decode cX12_does 91 = .ok (.aload_n 0, 1) := by decide +kernel
theorem dX12_does_92 : decode cX12_does 92 = .ok (.getfield 49, 3) := by decide +kernel
theorem dX12_does_95 : decode cX12_does 95 = .ok (.iload_n 3, 1) := by decide +kernel
theorem dX12_does_96 : decode cX12_does 96 = .ok (.iaload, 1) := by decide +kernel
theorem dX12_does_97 : decode cX12_does 97 = .ok (.iload 5, 2) := by decide +kernel
theorem dX12_does_99 : decode cX12_does 99 = .ok (.aload_n 0, 1) := by decide +kernel
theorem dX12_does_100 : decode cX12_does 100 = .ok (.getfield 55, 3) := by decide +kernel
theorem dX12_does_103 : decode cX12_does 103 = .ok (.iload_n 3, 1) := by decide +kernel
theorem dX12_does_104 : decode cX12_does 104 = .ok (.iaload, 1) := by decide +kernel
theorem dX12_does_105 : decode cX12_does 105 = .ok (.invokevirtual 203, 3) := by decide +kernel
theorem dX12_does_108 : decode cX12_does 108 = .ok (.iinc 3 1, 3) := by decide +kernel
theorem dX12_does_111 : decode cX12_does 111 = .ok (.goto (-102), 3) := by decide +kernel
theorem dX12_does_114 : decode cX12_does 114 = .ok (.iconst 0, 1) := by decide +kernel
theorem dX12_does_115 : decode cX12_does 115 = .ok (.istore_n 3, 1) := by decide +kernel
theorem dX12_does_116 : decode cX12_does 116 = .ok (.iload_n 3, 1) := by decide +kernel
theorem dX12_does_117 : decode cX12_does 117 = .ok (.aload_n 0, 1) := by decide +kernel
theorem dX12_does_118 : decode cX12_does 118 = .ok (.getfield 244, 3) := by decide +kernel
theorem dX12_does_121 : decode cX12_does 121 = .ok (.if_icmp .ge 31, 3) := by decide +kernel
theorem dX12_does_124 : decode cX12_does 124 = .ok (.iload_n 2, 1) := by decide +kernel
theorem dX12_does_125 : decode cX12_does 125 = .ok (.iconst 4, 1) := by decide +kernel
theorem dX12_does_126 : decode cX12_does 126 = .ok (.if_icmp .ne 26, 3) := by decide +kernel
theorem dX12_does_129 : decode cX12_does 129 = .ok (.aload_n 0, 1) := by decide +kernel
theorem dX12_does_130 : decode cX12_does 130 = .ok (.aload_n 0, 1) := by decide +kernel
theorem dX12_does_131 : decode cX12_does 131 = .ok (.getfield 76, 3) := by decide +kernel
theorem dX12_does_134 : decode cX12_does 134 = .ok (.iload_n 3, 1) := by decide +kernel
theorem dX12_does_135 : decode cX12_does 135 = .ok (.iaload, 1) := by decide +kernel
theorem dX12_does_136 : decode cX12_does 136 = .ok (.aload_n 0, 1) := by decide +kernel
theorem dX12_does_137 : decode cX12_does 137 = .ok (.getfield 79, 3) := by decide +kernel
theorem dX12_does_140 : decode cX12_does 140 = .ok (.iload_n 3, 1) := by decide +kernel
theorem dX12_does_141 : decode cX12_does 141 = .ok (.iaload, 1) := by decide +kernel
theorem dX12_does_142 : decode cX12_does 142 = .ok (.iload_n 3, 1) := by decide +kernel
theorem dX12_does_143 : decode cX12_does 143 = .ok (.invokevirtual 203, 3) := by decide +kernel
theorem dX12_does_146 : decode cX12_does 146 = .ok (.iinc 3 1, 3) := by decide +kernel
theorem dX12_does_149 : decode cX12_does 149 = .ok (.goto (-33), 3) := by decide +kernel
theorem dX12_does_152 : decode cX12_does 152 = .ok (.iload_n 2, 1) := by decide +kernel
theorem dX12_does_153 : decode cX12_does 153 = .ok (.bipush 6, 2) := by decide +kernel
theorem dX12_does_155 : decode cX12_does 155 = .ok (.if_icmp .ne 45, 3) := by decide +kernel
theorem dX12_does_158 : decode cX12_does 158 = .ok (.aload_n 0, 1) := by decide +kernel
theorem dX12_does_159 : decode cX12_does 159 = .ok (.invokevirtual 225, 3) := by decide +kernel
theorem dX12_does_162 : decode cX12_does 162 = .ok (.iconst 0, 1) := by decide +kernel
theorem dX12_does_163 : decode cX12_does 163 = .ok (.istore_n 3, 1) := by decide +kernel
theorem dX12_does_164 : decode cX12_does 164 = .ok (.iload_n 3, 1) := by decide +kernel
theorem dX12_does_165 : decode cX12_does 165 = .ok (.aload_n 0, 1) := by decide +kernel
theorem dX12_does_166 : decode cX12_does 166 = .ok (.getfield 181, 3) := by decide +kernel
theorem dX12_does_169 : decode cX12_does 169 = .ok (.if_icmp .ge 31, 3) := by decide +kernel
theorem dX12_does_172 : decode cX12_does 172 = .ok (.aload_n 0, 1) := by decide +kernel
theorem dX12_does_173 : decode cX12_does 173 = .ok (.aload_n 0, 1) := by decide +kernel
theorem dX12_does_174 : decode cX12_does 174 = .ok (.getfield 49, 3) := by decide +kernel
theorem dX12_does_177 : decode cX12_does 177 = .ok (.iload_n 3, 1) := by decide +kernel
theorem dX12_does_178 : decode cX12_does 178 = .ok (.iaload, 1) := by decide +kernel
theorem dX12_does_179 : decode cX12_does 179 = .ok (.aload_n 0, 1) := by decide +kernel
theorem dX12_does_180 : decode cX12_does 180 = .ok (.getfield 52, 3) := by decide +kernel
theorem dX12_does_183 : decode cX12_does 183 = .ok (.iload_n 3, 1) := by decide +kernel
theorem dX12_does_184 : decode cX12_does 184 = .ok (.iaload, 1) := by decide +kernel
theorem dX12_does_185 : decode cX12_does 185 = .ok (.aload_n 0, 1) := by decide +kernel
theorem dX12_does_186 : decode cX12_does 186 = .ok (.getfield 55, 3) := by decide +kernel
theorem dX12_does_189 : decode cX12_does 189 = .ok (.iload_n 3, 1) := by decide +kernel
theorem dX12_does_190 : decode cX12_does 190 = .ok (.iaload, 1) := by decide +kernel
theorem dX12_does_191 : decode cX12_does 191 = .ok (.invokevirtual 203, 3) := by decide +kernel
theorem dX12_does_194 : decode cX12_does 194 = .ok (.iinc 3 1, 3) := by decide +kernel
theorem dX12_does_197 : decode cX12_does 197 = .ok (.goto (-33), 3) := by decide +kernel
theorem dX12_does_200 : decode cX12_does 200 = .ok (.aload_n 0, 1) := by decide +kernel
theorem dX12_does_201 : decode cX12_does 201 = .ok (.dup, 1) := by decide +kernel
theorem dX12_does_202 : decode cX12_does 202 = .ok (.getfield 200, 3) := by decide +kernel
theorem dX12_does_205 : decode cX12_does 205 = .ok (.aload_n 0, 1) := by decide +kernel
theorem dX12_does_206 : decode cX12_does 206 = .ok (.getfield 178, 3) := by decide +kernel
theorem dX12_does_209 : decode cX12_does 209 = .ok (.iadd, 1) := by decide +kernel
theorem dX12_does_210 : decode cX12_does 210 = .ok (.putfield 200, 3) := by decide +kernel
theorem dX12_does_213 : decode cX12_does 213 = .ok (.return_, 1) := by decide +kernel
theorem dX12_free_0 : decode cX12_free 0 = .ok (.aload_n 0, 1) := by decide +kernel
theorem dX12_free_1 : decode cX12_free 1 = .ok (.iconst 1, 1) := by decide +kernel
theorem dX12_free_2 : decode cX12_free 2 = .ok (.invokevirtual 231, 3) := by decide +kernel
theorem dX12_free_5 : decode cX12_free 5 = .ok (.aload_n 0, 1) := by decide +kernel
theorem dX12_free_6 : decode cX12_free 6 = .ok (.invokevirtual 267, 3) := by decide +kernel
theorem dX12_free_9 : decode cX12_free 9 = .ok (.aload_n 0, 1) := by decide +kernel
theorem dX12_free_10 : decode cX12_free 10 = .ok (.invokevirtual 270, 3) := by decide +kernel
theorem dX12_free_13 : decode cX12_free 13 = .ok (.iconst 0, 1) := by decide +kernel
theorem dX12_free_14 : decode cX12_free 14 = .ok (.istore_n 1, 1) := by decide +kernel
theorem dX12_free_15 : decode cX12_free 15 = .ok (.iload_n 1, 1) := by decide +kernel
theorem dX12_free_16 : decode cX12_free 16 = .ok (.aload_n 0, 1) := by decide +kernel
theorem dX12_free_17 : decode cX12_free 17 = .ok (.getfield 261, 3) := by decide +kernel
theorem dX12_free_20 : decode cX12_free 20 = .ok (.if_icmp .ge 20, 3) := by decide +kernel
theorem dX12_free_23 : decode cX12_free 23 = .ok (.aload_n 0, 1) := by decide +kernel
theorem dX12_free_24 : decode cX12_free 24 = .ok (.iconst 1, 1) := by decide +kernel
theorem dX12_free_25 : decode cX12_free 25 = .ok (.aload_n 0, 1) := by decide +kernel
theorem dX12_free_26 : decode cX12_free 26 = .ok (.getfield 85, 3) := by decide +kernel
theorem dX12_free_29 : decode cX12_free 29 = .ok (.iload_n 1, 1) := by decide +kernel
theorem dX12_free_30 : decode cX12_free 30 = .ok (.iaload, 1) := by decide +kernel
theorem dX12_free_31 : decode cX12_free 31 = .ok (.invokevirtual 235, 3) := by decide +kernel
theorem dX12_free_34 : decode cX12_free 34 = .ok (.iinc 1 1, 3) := by decide +kernel
theorem dX12_free_37 : decode cX12_free 37 = .ok (.goto (-22), 3) := by decide +kernel
theorem dX12_free_40 : decode cX12_free 40 = .ok (.aload_n 0, 1) := by decide +kernel
theorem dX12_free_41 : decode cX12_free 41 = .ok (.invokevirtual 218, 3) := by decide +kernel
theorem dX12_free_44 : decode cX12_free 44 = .ok (.aload_n 0, 1) := by decide +kernel
theorem dX12_free_45 : decode cX12_free 45 = .ok (.aload_n 0, 1) := by decide +kernel
theorem dX12_free_46 : decode cX12_free 46 = .ok (.getfield 181, 3) := by decide +kernel
theorem dX12_free_49 : decode cX12_free 49 = .ok (.putfield 211, 3) := by decide +kernel
theorem dX12_free_52 : decode cX12_free 52 = .ok (.aload_n 0, 1) := by decide +kernel
theorem dX12_free_53 : decode cX12_free 53 = .ok (.aload_n 0, 1) := by decide +kernel
theorem dX12_free_54 : decode cX12_free 54 = .ok (.getfield 181, 3) := by decide +kernel
theorem dX12_free_57 : decode cX12_free 57 = .ok (.putfield 200, 3) := by decide +kernel
theorem dX12_free_60 : decode cX12_free 60 = .ok (.aload_n 0, 1) := by decide +kernel
theorem dX12_free_61 : decode cX12_free 61 = .ok (.invokevirtual 258, 3) := by decide +kernel
theorem dX12_free_64 : decode cX12_free 64 = .ok (.istore_n 1, 1) := by decide +kernel
theorem dX12_free_65 : decode cX12_free 65 = .ok (.iconst 0, 1) := by decide +kernel
theorem dX12_free_66 : decode cX12_free 66 = .ok (.istore_n 2, 1) := by decide +kernel
theorem dX12_free_67 : decode cX12_free 67 = .ok (.iload_n 2, 1) := by decide +kernel
theorem dX12_free_68 : decode cX12_free 68 = .ok (.aload_n 0, 1) := by decide +kernel
theorem dX12_free_69 : decode cX12_free 69 = .ok (.getfield 145, 3) := by decide +kernel
theorem dX12_free_72 : decode cX12_free 72 = .ok (.if_icmp .gt 73, 3) := by decide +kernel
theorem dX12_free_75 : decode cX12_free 75 = .ok (.iload_n 2, 1) := by decide +kernel
theorem dX12_free_76 : decode cX12_free 76 = .ok (.aload_n 0, 1) := by decide +kernel
theorem dX12_free_77 : decode cX12_free 77 = .ok (.getfield 145, 3) := by decide +kernel
theorem dX12_free_80 : decode cX12_free 80 = .ok (.if_icmp .ge 17, 3) := by decide +kernel
theorem dX12_free_83 : decode cX12_free 83 = .ok (.aload_n 0, 1) := by decide +kernel
theorem dX12_free_84 : decode cX12_free 84 = .ok (.getfield 28, 3) := by decide +kernel
theorem dX12_free_87 : decode cX12_free 87 = .ok (.iload_n 2, 1) := by decide +kernel
theorem dX12_free_88 : decode cX12_free 88 = .ok (.iaload, 1) := by decide +kernel
theorem dX12_free_89 : decode cX12_free 89 = .ok (.iconst 1, 1) := by decide +kernel
theorem dX12_free_90 : decode cX12_free 90 = .ok (.if_icmp .ne 7, 3) := by decide +kernel
theorem dX12_free_93 : decode cX12_free 93 = .ok (.iconst 1, 1) := by decide +kernel
theorem dX12_free_94 : decode cX12_free 94 = .ok (.goto 4, 3) := by decide +kernel
theorem dX12_free_97 : decode cX12_free 97 = .ok (.iconst 0, 1) := by decide +kernel
theorem dX12_free_98 : decode cX12_free 98 = .ok (.istore_n 3, 1) := by decide +kernel
theorem dX12_free_99 : decode cX12_free 99 = .ok (.iload_n 2, 1) := by decide +kernel
theorem dX12_free_100 : decode cX12_free 100 = .ok (.iload_n 1, 1) := by decide +kernel
theorem dX12_free_101 : decode cX12_free 101 = .ok (.if_icmp .ne 12, 3) := by decide +kernel
theorem dX12_free_104 : decode cX12_free 104 = .ok (.aload_n 0, 1) := by decide +kernel
theorem dX12_free_105 : decode cX12_free 105 = .ok (.iload_n 3, 1) := by decide +kernel
theorem dX12_free_106 : decode cX12_free 106 = .ok (.invokevirtual 273, 3) := by decide +kernel
theorem dX12_free_109 : decode cX12_free 109 = .ok (.aload_n 0, 1) := by decide +kernel
theorem dX12_free_110 : decode cX12_free 110 = .ok (.invokevirtual 277, 3) := by decide +kernel
theorem dX12_free_113 : decode cX12_free 113 = .ok (.iload_n 2, 1) := by decide +kernel
theorem dX12_free_114 : decode cX12_free 114 = .ok (.aload_n 0, 1) := by decide +kernel
theorem dX12_free_115 : decode cX12_free 115 = .ok (.getfield 145, 3) := by decide +kernel
theorem dX12_free_118 : decode cX12_free 118 = .ok (.if_icmp .ge 21, 3) := by decide +kernel
theorem dX12_free_121 : decode cX12_free 121 = .ok (.iload_n 2, 1) := by decide +kernel
theorem dX12_free_122 : decode cX12_free 122 = .ok (.iload_n 1, 1) := by decide +kernel
theorem dX12_free_123 : decode cX12_free 123 = .ok (.if_icmp .ne 7, 3) := by decide +kernel
theorem dX12_free_126 : decode cX12_free 126 = .ok (.iload_n 3, 1) := by decide +kernel
theorem dX12_free_127 : decode cX12_free 127 = .ok (.ifCond .ne 12, 3) := by decide +kernel
theorem dX12_free_130 : decode cX12_free 130 = .ok (.aload_n 0, 1) := by decide +kernel
theorem dX12_free_131 : decode cX12_free 131 = .ok (.iload_n 2, 1) := by decide +kernel
theorem dX12_free_132 : decode cX12_free 132 = .ok (.invokevirtual 280, 3) := by decide +kernel
theorem dX12_free_135 : decode cX12_free 135 = .ok (.aload_n 0, 1) := by decide +kernel
theorem dX12_free_136 : decode cX12_free 136 = .ok (.invokevirtual 277, 3) := by decide +kernel
theorem dX12_free_139 : decode cX12_free 139 = .ok (.iinc 2 1, 3) := by decide +kernel
theorem dX12_free_142 : decode cX12_free 142 = .ok (.goto (-75), 3) := by decide +kernel
theorem dX12_free_145 : decode cX12_free 145 = .ok (.aload_n 0, 1) := by decide +kernel
theorem dX12_free_146 : decode cX12_free 146 = .ok (.aload_n 0, 1) := by decide +kernel
theorem dX12_free_147 : decode cX12_free 147 = .ok (.getfield 181, 3) := by decide +kernel
theorem dX12_free_150 : decode cX12_free 150 = .ok (.putfield 178, 3) := by decide +kernel
theorem dX12_free_153 : decode cX12_free 153 = .ok (.iconst 0, 1) := by decide +kernel
theorem dX12_free_154 : decode cX12_free 154 = .ok (.istore_n 2, 1) := by decide +kernel
theorem dX12_free_155 : decode cX12_free 155 = .ok (.iload_n 2, 1) := by decide +kernel
theorem dX12_free_156 : decode cX12_free 156 = .ok (.aload_n 0, 1) := by decide +kernel
theorem dX12_free_157 : decode cX12_free 157 = .ok (.getfield 181, 3) := by decide +kernel
theorem dX12_free_160 : decode cX12_free 160 = .ok (.if_icmp .ge 45, 3) := by decide +kernel
theorem dX12_free_163 : decode cX12_free 163 = .ok (.aload_n 0, 1) := by decide +kernel
theorem dX12_free_164 : decode cX12_free 164 = .ok (.getfield 58, 3) := by decide +kernel
theorem dX12_free_167 : decode cX12_free 167 = .ok (.iload_n 2, 1) := by decide +kernel
theorem dX12_free_168 : decode cX12_free 168 = .ok (.aload_n 0, 1) := by decide +kernel
theorem dX12_free_169 : decode cX12_free 169 = .ok (.getfield 49, 3) := by decide +kernel
theorem dX12_free_172 : decode cX12_free 172 = .ok (.iload_n 2, 1) := by decide +kernel
theorem dX12_free_173 : decode cX12_free 173 = .ok (.iaload, 1) := by decide +kernel
theorem dX12_free_174 : decode cX12_free 174 = .ok (.iastore, 1) := by decide +kernel
theorem dX12_free_175 : decode cX12_free 175 = .ok (.aload_n 0, 1) := by decide +kernel
theorem dX12_free_176 : decode cX12_free 176 = .ok (.getfield 61, 3) := by decide +kernel
theorem dX12_free_179 : decode cX12_free 179 = .ok (.iload_n 2, 1) := by decide +kernel
theorem dX12_free_180 : decode cX12_free 180 = .ok (.aload_n 0, 1) := by decide +kernel
theorem dX12_free_181 : decode cX12_free 181 = .ok (.getfield 52, 3) := by decide +kernel
theorem dX12_free_184 : decode cX12_free 184 = .ok (.iload_n 2, 1) := by decide +kernel
theorem dX12_free_185 : decode cX12_free 185 = .ok (.iaload, 1) := by decide +kernel
theorem dX12_free_186 : decode cX12_free 186 = .ok (.iastore, 1) := by decide +kernel
theorem dX12_free_187 : decode cX12_free 187 = .ok (.aload_n 0, 1) := by decide +kernel
theorem dX12_free_188 : decode cX12_free 188 = .ok (.getfield 64, 3) := by decide +kernel
theorem dX12_free_191 : decode cX12_free 191 = .ok (.iload_n 2, 1) := by decide +kernel
theorem dX12_free_192 : decode cX12_free 192 = .ok (.aload_n 0, 1) := by decide +kernel
theorem dX12_free_193 : decode cX12_free 193 = .ok (.getfield 55, 3) := by decide +kernel
theorem dX12_free_196 : decode cX12_free 196 = .ok (.iload_n 2, 1) := by decide +kernel
theorem dX12_free_197 : decode cX12_free 197 = .ok (.iaload, 1) := by decide +kernel
theorem dX12_free_198 : decode cX12_free 198 = .ok (.iastore, 1) := by decide +kernel
theorem dX12_free_199 : decode cX12_free 199 = .ok (.iinc 2 1, 3) := by decide +kernel
theorem dX12_free_202 : decode cX12_free 202 = .ok (.goto (-47), 3) := by decide +kernel
theorem dX12_free_205 : decode cX12_free 205 = .ok (.aload_n 0, 1) := by decide +kernel
theorem dX12_free_206 : decode cX12_free 206 = .ok (.getfield 19, 3) := by decide +kernel
theorem dX12_free_209 : decode cX12_free 209 = .ok (.iconst 0, 1) := by decide +kernel
theorem dX12_free_210 : decode cX12_free 210 = .ok (.iaload, 1) := by decide +kernel
theorem dX12_free_211 : decode cX12_free 211 = .ok (.iconst 1, 1) := by decide +kernel
theorem dX12_free_212 : decode cX12_free 212 = .ok (.isub, 1) := by decide +kernel
theorem dX12_free_213 : decode cX12_free 213 = .ok (.istore_n 2, 1) := by decide +kernel
theorem dX12_free_214 : decode cX12_free 214 = .ok (.iload_n 2, 1) := by decide +kernel
theorem dX12_free_215 : decode cX12_free 215 = .ok (.ifCond .lt 84, 3) := by decide +kernel
theorem dX12_free_218 : decode cX12_free 218 = .ok (.iload_n 1, 1) := by decide +kernel
theorem dX12_free_219 : decode cX12_free 219 = .ok (.iconst (-1), 1) := by decide +kernel
theorem dX12_free_220 : decode cX12_free 220 = .ok (.if_icmp .ne 7, 3) := by decide +kernel
theorem dX12_free_223 : decode cX12_free 223 = .ok (.iconst (-1), 1) := by decide +kernel
theorem dX12_free_224 : decode cX12_free 224 = .ok (.goto 9, 3) := by decide +kernel
theorem dX12_free_227 : decode cX12_free 227 = .ok (.aload_n 0, 1) := by decide +kernel
theorem dX12_free_228 : decode cX12_free 228 = .ok (.getfield 82, 3) := by decide +kernel
theorem dX12_free_231 : decode cX12_free 231 = .ok (.iload_n 2, 1) := by decide +kernel
theorem dX12_free_232 : decode cX12_free 232 = .ok (.iaload, 1) := by decide +kernel
theorem dX12_free_233 : decode cX12_free 233 = .ok (.istore_n 3, 1) := by decide +kernel
theorem dX12_free_234 : decode cX12_free 234 = .ok (.aload_n 0, 1) := by decide +kernel
theorem dX12_free_235 : decode cX12_free 235 = .ok (.getfield 37, 3) := by decide +kernel
theorem dX12_free_238 : decode cX12_free 238 = .ok (.bipush 10, 2) := by decide +kernel
theorem dX12_free_240 : decode cX12_free 240 = .ok (.iload_n 2, 1) := by decide +kernel
theorem dX12_free_241 : decode cX12_free 241 = .ok (.iadd, 1) := by decide +kernel
theorem dX12_free_242 : decode cX12_free 242 = .ok (.aload_n 0, 1) := by decide +kernel
theorem dX12_free_243 : decode cX12_free 243 = .ok (.iload_n 3, 1) := by decide +kernel
theorem dX12_free_244 : decode cX12_free 244 = .ok (.iload_n 3, 1) := by decide +kernel
theorem dX12_free_245 : decode cX12_free 245 = .ok (.iconst (-1), 1) := by decide +kernel
theorem dX12_free_246 : decode cX12_free 246 = .ok (.if_icmp .ne 7, 3) := by decide +kernel
theorem dX12_free_249 : decode cX12_free 249 = .ok (.iconst (-1), 1) := by decide +kernel
theorem dX12_free_250 : decode cX12_free 250 = .ok (.goto 9, 3) := by decide +kernel
theorem dX12_free_253 : decode cX12_free 253 = .ok (.aload_n 0, 1) := by decide +kernel
theorem dX12_free_254 : decode cX12_free 254 = .ok (.getfield 79, 3) := by decide +kernel
theorem dX12_free_257 : decode cX12_free 257 = .ok (.iload_n 3, 1) := by decide +kernel
theorem dX12_free_258 : decode cX12_free 258 = .ok (.iaload, 1) := by decide +kernel
theorem dX12_free_259 : decode cX12_free 259 = .ok (.invokevirtual 241, 3) := by decide +kernel
theorem dX12_free_262 : decode cX12_free 262 = .ok (.iastore, 1) := by decide +kernel
theorem dX12_free_263 : decode cX12_free 263 = .ok (.aload_n 0, 1) := by decide +kernel
theorem dX12_free_264 : decode cX12_free 264 = .ok (.getfield 34, 3) := by decide +kernel
theorem dX12_free_267 : decode cX12_free 267 = .ok (.iconst 1, 1) := by decide +kernel
theorem dX12_free_268 : decode cX12_free 268 = .ok (.aload_n 0, 1) := by decide +kernel
theorem dX12_free_269 : decode cX12_free 269 = .ok (.getfield 37, 3) := by decide +kernel
theorem dX12_free_272 : decode cX12_free 272 = .ok (.bipush 10, 2) := by decide +kernel
theorem dX12_free_274 : decode cX12_free 274 = .ok (.iload_n 2, 1) := by decide +kernel
theorem dX12_free_275 : decode cX12_free 275 = .ok (.iadd, 1) := by decide +kernel
theorem dX12_free_276 : decode cX12_free 276 = .ok (.iaload, 1) := by decide +kernel
theorem dX12_free_277 : decode cX12_free 277 = .ok (.bipush (-2), 2) := by decide +kernel
theorem dX12_free_279 : decode cX12_free 279 = .ok (.if_icmp .ne 7, 3) := by decide +kernel
theorem dX12_free_282 : decode cX12_free 282 = .ok (.iload_n 2, 1) := by decide +kernel
theorem dX12_free_283 : decode cX12_free 283 = .ok (.goto 9, 3) := by decide +kernel
theorem dX12_free_286 : decode cX12_free 286 = .ok (.aload_n 0, 1) := by decide +kernel
theorem dX12_free_287 : decode cX12_free 287 = .ok (.getfield 34, 3) := by decide +kernel
theorem dX12_free_290 : decode cX12_free 290 = .ok (.iconst 1, 1) := by decide +kernel
theorem dX12_free_291 : decode cX12_free 291 = .ok (.iaload, 1) := by decide +kernel
theorem dX12_free_292 : decode cX12_free 292 = .ok (.iastore, 1) := by decide +kernel
theorem dX12_free_293 : decode cX12_free 293 = .ok (.iinc 2 (-1), 3) := by decide +kernel
theorem dX12_free_296 : decode cX12_free 296 = .ok (.goto (-82), 3) := by decide +kernel
theorem dX12_free_299 : decode cX12_free 299 = .ok (.aload_n 0, 1) := by decide +kernel
theorem dX12_free_300 : decode cX12_free 300 = .ok (.getfield 261, 3) := by decide +kernel
theorem dX12_free_303 : decode cX12_free 303 = .ok (.iconst 1, 1) := by decide +kernel
theorem dX12_free_304 : decode cX12_free 304 = .ok (.isub, 1) := by decide +kernel
theorem dX12_free_305 : decode cX12_free 305 = .ok (.istore_n 2, 1) := by decide +kernel
theorem dX12_free_306 : decode cX12_free 306 = .ok (.iload_n 2, 1) := by decide +kernel
theorem dX12_free_307 : decode cX12_free 307 = .ok (.ifCond .lt 23, 3) := by decide +kernel
theorem dX12_free_310 : decode cX12_free 310 = .ok (.aload_n 0, 1) := by decide +kernel
theorem dX12_free_311 : decode cX12_free 311 = .ok (.iconst 1, 1) := by decide +kernel
theorem dX12_free_312 : decode cX12_free 312 = .ok (.bipush 10, 2) := by decide +kernel
theorem dX12_free_314 : decode cX12_free 314 = .ok (.aload_n 0, 1) := by decide +kernel
theorem dX12_free_315 : decode cX12_free 315 = .ok (.getfield 85, 3) := by decide +kernel
theorem dX12_free_318 : decode cX12_free 318 = .ok (.iload_n 2, 1) := by decide +kernel
theorem dX12_free_319 : decode cX12_free 319 = .ok (.iaload, 1) := by decide +kernel
theorem dX12_free_320 : decode cX12_free 320 = .ok (.iadd, 1) := by decide +kernel
theorem dX12_free_321 : decode cX12_free 321 = .ok (.invokevirtual 228, 3) := by decide +kernel
theorem dX12_free_324 : decode cX12_free 324 = .ok (.iinc 2 (-1), 3) := by decide +kernel
theorem dX12_free_327 : decode cX12_free 327 = .ok (.goto (-21), 3) := by decide +kernel
theorem dX12_free_330 : decode cX12_free 330 = .ok (.aload_n 0, 1) := by decide +kernel
theorem dX12_free_331 : decode cX12_free 331 = .ok (.getfield 40, 3) := by decide +kernel
theorem dX12_free_334 : decode cX12_free 334 = .ok (.iconst 5, 1) := by decide +kernel
theorem dX12_free_335 : decode cX12_free 335 = .ok (.aload_n 0, 1) := by decide +kernel
theorem dX12_free_336 : decode cX12_free 336 = .ok (.getfield 211, 3) := by decide +kernel
theorem dX12_free_339 : decode cX12_free 339 = .ok (.iastore, 1) := by decide +kernel
theorem dX12_free_340 : decode cX12_free 340 = .ok (.aload_n 0, 1) := by decide +kernel
theorem dX12_free_341 : decode cX12_free 341 = .ok (.getfield 40, 3) := by decide +kernel
theorem dX12_free_344 : decode cX12_free 344 = .ok (.bipush 6, 2) := by decide +kernel
theorem dX12_free_346 : decode cX12_free 346 = .ok (.aload_n 0, 1) := by decide +kernel
theorem dX12_free_347 : decode cX12_free 347 = .ok (.getfield 200, 3) := by decide +kernel
theorem dX12_free_350 : decode cX12_free 350 = .ok (.iastore, 1) := by decide +kernel
theorem dX12_free_351 : decode cX12_free 351 = .ok (.aload_n 0, 1) := by decide +kernel
theorem dX12_free_352 : decode cX12_free 352 = .ok (.getfield 40, 3) := by decide +kernel
theorem dX12_free_355 : decode cX12_free 355 = .ok (.bipush 8, 2) := by decide +kernel
theorem dX12_free_357 : decode cX12_free 357 = .ok (.aload_n 0, 1) := by decide +kernel
theorem dX12_free_358 : decode cX12_free 358 = .ok (.getfield 261, 3) := by decide +kernel
theorem dX12_free_361 : decode cX12_free 361 = .ok (.iastore, 1) := by decide +kernel
theorem dX12_free_362 : decode cX12_free 362 = .ok (.return_, 1) := by decide +kernel
theorem dX12_runs_0 : decode cX12_runs 0 = .ok (.aload_n 0, 1) := by decide +kernel
theorem dX12_runs_1 : decode cX12_runs 1 = .ok (.invokevirtual 159, 3) := by decide +kernel
theorem dX12_runs_4 : decode cX12_runs 4 = .ok (.aload_n 0, 1) := by decide +kernel
theorem dX12_runs_5 : decode cX12_runs 5 = .ok (.iload_n 1, 1) := by decide +kernel
theorem dX12_runs_6 : decode cX12_runs 6 = .ok (.putfield 184, 3) := by decide +kernel
theorem dX12_runs_9 : decode cX12_runs 9 = .ok (.aload_n 0, 1) := by decide +kernel
theorem dX12_runs_10 : decode cX12_runs 10 = .ok (.iconst (-1), 1) := by decide +kernel
theorem dX12_runs_11 : decode cX12_runs 11 = .ok (.putfield 190, 3) := by decide +kernel
theorem dX12_runs_14 : decode cX12_runs 14 = .ok (.aload_n 0, 1) := by decide +kernel
theorem dX12_runs_15 : decode cX12_runs 15 = .ok (.invokevirtual 283, 3) := by decide +kernel
theorem dX12_runs_18 : decode cX12_runs 18 = .ok (.aload_n 0, 1) := by decide +kernel
theorem dX12_runs_19 : decode cX12_runs 19 = .ok (.invokevirtual 286, 3) := by decide +kernel
theorem dX12_runs_22 : decode cX12_runs 22 = .ok (.return_, 1) := by decide +kernel
theorem dX12_runsTold_0 : decode cX12_runsTold 0 = .ok (.aload_n 0, 1) := by decide +kernel
theorem dX12_runsTold_1 : decode cX12_runsTold 1 = .ok (.aload_n 0, 1) := by decide +kernel
theorem dX12_runsTold_2 : decode cX12_runsTold 2 = .ok (.getfield 175, 3) := by decide +kernel
theorem dX12_runsTold_5 : decode cX12_runsTold 5 = .ok (.invokevirtual 289, 3) := by decide +kernel
theorem dX12_runsTold_8 : decode cX12_runsTold 8 = .ok (.return_, 1) := by decide +kernel
theorem dX12_errorOf_0 : decode cX12_errorOf 0 = .ok (.aload_n 0, 1) := by decide +kernel
theorem dX12_errorOf_1 : decode cX12_errorOf 1 = .ok (.invokevirtual 292, 3) := by decide +kernel
theorem dX12_errorOf_4 : decode cX12_errorOf 4 = .ok (.aload_n 0, 1) := by decide +kernel
theorem dX12_errorOf_5 : decode cX12_errorOf 5 = .ok (.getfield 34, 3) := by decide +kernel
theorem dX12_errorOf_8 : decode cX12_errorOf 8 = .ok (.iload_n 1, 1) := by decide +kernel
theorem dX12_errorOf_9 : decode cX12_errorOf 9 = .ok (.iaload, 1) := by decide +kernel
theorem dX12_errorOf_10 : decode cX12_errorOf 10 = .ok (.ireturn, 1) := by decide +kernel
theorem dX12_error_0 : decode cX12_error 0 = .ok (.iload_n 1, 1) := by decide +kernel
theorem dX12_error_1 : decode cX12_error 1 = .ok (.invokestatic 165, 3) := by decide +kernel
theorem dX12_error_4 : decode cX12_error 4 = .ok (.ifCond .eq 11, 3) := by decide +kernel
theorem dX12_error_7 : decode cX12_error 7 = .ok (.aload_n 0, 1) := by decide +kernel
theorem dX12_error_8 : decode cX12_error 8 = .ok (.iload_n 1, 1) := by decide +kernel
theorem dX12_error_9 : decode cX12_error 9 = .ok (.invokevirtual 295, 3) := by decide +kernel
theorem dX12_error_12 : decode cX12_error 12 = .ok (.goto 5, 3) := by decide +kernel
theorem dX12_error_15 : decode cX12_error 15 = .ok (.bipush (-2), 2) := by decide +kernel
theorem dX12_error_17 : decode cX12_error 17 = .ok (.ireturn, 1) := by decide +kernel
theorem dX12_answerNow_0 : decode cX12_answerNow 0 = .ok (.aload_n 0, 1) := by decide +kernel
theorem dX12_answerNow_1 : decode cX12_answerNow 1 = .ok (.getfield 34, 3) := by decide +kernel
theorem dX12_answerNow_4 : decode cX12_answerNow 4 = .ok (.iload_n 1, 1) := by decide +kernel
theorem dX12_answerNow_5 : decode cX12_answerNow 5 = .ok (.iaload, 1) := by decide +kernel
theorem dX12_answerNow_6 : decode cX12_answerNow 6 = .ok (.iconst (-1), 1) := by decide +kernel
theorem dX12_answerNow_7 : decode cX12_answerNow 7 = .ok (.if_icmp .ne 17, 3) := by decide +kernel
theorem dX12_answerNow_10 : decode cX12_answerNow 10 = .ok (.aload_n 0, 1) := by decide +kernel
theorem dX12_answerNow_11 : decode cX12_answerNow 11 = .ok (.getfield 37, 3) := by decide +kernel
theorem dX12_answerNow_14 : decode cX12_answerNow 14 = .ok (.bipush 10, 2) := by decide +kernel
theorem dX12_answerNow_16 : decode cX12_answerNow 16 = .ok (.iload_n 1, 1) := by decide +kernel
theorem dX12_answerNow_17 : decode cX12_answerNow 17 = .ok (.imul, 1) := by decide +kernel
theorem dX12_answerNow_18 : decode cX12_answerNow 18 = .ok (.iload_n 2, 1) := by decide +kernel
theorem dX12_answerNow_19 : decode cX12_answerNow 19 = .ok (.iadd, 1) := by decide +kernel
theorem dX12_answerNow_20 : decode cX12_answerNow 20 = .ok (.iaload, 1) := by decide +kernel
theorem dX12_answerNow_21 : decode cX12_answerNow 21 = .ok (.goto 5, 3) := by decide +kernel
theorem dX12_answerNow_24 : decode cX12_answerNow 24 = .ok (.bipush (-3), 2) := by decide +kernel
theorem dX12_answerNow_26 : decode cX12_answerNow 26 = .ok (.ireturn, 1) := by decide +kernel
theorem dX12_answerFor_0 : decode cX12_answerFor 0 = .ok (.aload_n 0, 1) := by decide +kernel
theorem dX12_answerFor_1 : decode cX12_answerFor 1 = .ok (.invokevirtual 292, 3) := by decide +kernel
theorem dX12_answerFor_4 : decode cX12_answerFor 4 = .ok (.iload_n 2, 1) := by decide +kernel
theorem dX12_answerFor_5 : decode cX12_answerFor 5 = .ok (.aload_n 0, 1) := by decide +kernel
theorem dX12_answerFor_6 : decode cX12_answerFor 6 = .ok (.getfield 19, 3) := by decide +kernel
theorem dX12_answerFor_9 : decode cX12_answerFor 9 = .ok (.iconst 0, 1) := by decide +kernel
theorem dX12_answerFor_10 : decode cX12_answerFor 10 = .ok (.iaload, 1) := by decide +kernel
theorem dX12_answerFor_11 : decode cX12_answerFor 11 = .ok (.if_icmp .ge 12, 3) := by decide +kernel
theorem dX12_answerFor_14 : decode cX12_answerFor 14 = .ok (.aload_n 0, 1) := by decide +kernel
theorem dX12_answerFor_15 : decode cX12_answerFor 15 = .ok (.iload_n 1, 1) := by decide +kernel
theorem dX12_answerFor_16 : decode cX12_answerFor 16 = .ok (.iload_n 2, 1) := by decide +kernel
theorem dX12_answerFor_17 : decode cX12_answerFor 17 = .ok (.invokevirtual 298, 3) := by decide +kernel
theorem dX12_answerFor_20 : decode cX12_answerFor 20 = .ok (.goto 5, 3) := by decide +kernel
theorem dX12_answerFor_23 : decode cX12_answerFor 23 = .ok (.bipush (-2), 2) := by decide +kernel
theorem dX12_answerFor_25 : decode cX12_answerFor 25 = .ok (.ireturn, 1) := by decide +kernel
theorem dX12_answer_0 : decode cX12_answer 0 = .ok (.iload_n 1, 1) := by decide +kernel
theorem dX12_answer_1 : decode cX12_answer 1 = .ok (.invokestatic 165, 3) := by decide +kernel
theorem dX12_answer_4 : decode cX12_answer 4 = .ok (.ifCond .eq 22, 3) := by decide +kernel
theorem dX12_answer_7 : decode cX12_answer 7 = .ok (.iload_n 2, 1) := by decide +kernel
theorem dX12_answer_8 : decode cX12_answer 8 = .ok (.iconst 0, 1) := by decide +kernel
theorem dX12_answer_9 : decode cX12_answer 9 = .ok (.bipush 9, 2) := by decide +kernel
theorem dX12_answer_11 : decode cX12_answer 11 = .ok (.invokestatic 107, 3) := by decide +kernel
theorem dX12_answer_14 : decode cX12_answer 14 = .ok (.ifCond .eq 12, 3) := by decide +kernel
theorem dX12_answer_17 : decode cX12_answer 17 = .ok (.aload_n 0, 1) := by decide +kernel
theorem dX12_answer_18 : decode cX12_answer 18 = .ok (.iload_n 1, 1) := by decide +kernel
theorem dX12_answer_19 : decode cX12_answer 19 = .ok (.iload_n 2, 1) := by decide +kernel
theorem dX12_answer_20 : decode cX12_answer 20 = .ok (.invokevirtual 301, 3) := by decide +kernel
theorem dX12_answer_23 : decode cX12_answer 23 = .ok (.goto 5, 3) := by decide +kernel
theorem dX12_answer_26 : decode cX12_answer 26 = .ok (.bipush (-2), 2) := by decide +kernel
theorem dX12_answer_28 : decode cX12_answer 28 = .ok (.ireturn, 1) := by decide +kernel
theorem dX12_sameOf_0 : decode cX12_sameOf 0 = .ok (.aload_n 0, 1) := by decide +kernel
theorem dX12_sameOf_1 : decode cX12_sameOf 1 = .ok (.invokevirtual 292, 3) := by decide +kernel
theorem dX12_sameOf_4 : decode cX12_sameOf 4 = .ok (.aload_n 0, 1) := by decide +kernel
theorem dX12_sameOf_5 : decode cX12_sameOf 5 = .ok (.getfield 34, 3) := by decide +kernel
theorem dX12_sameOf_8 : decode cX12_sameOf 8 = .ok (.iconst 0, 1) := by decide +kernel
theorem dX12_sameOf_9 : decode cX12_sameOf 9 = .ok (.iaload, 1) := by decide +kernel
theorem dX12_sameOf_10 : decode cX12_sameOf 10 = .ok (.aload_n 0, 1) := by decide +kernel
theorem dX12_sameOf_11 : decode cX12_sameOf 11 = .ok (.getfield 34, 3) := by decide +kernel
theorem dX12_sameOf_14 : decode cX12_sameOf 14 = .ok (.iconst 1, 1) := by decide +kernel
theorem dX12_sameOf_15 : decode cX12_sameOf 15 = .ok (.iaload, 1) := by decide +kernel
theorem dX12_sameOf_16 : decode cX12_sameOf 16 = .ok (.if_icmp .ne 7, 3) := by decide +kernel
theorem dX12_sameOf_19 : decode cX12_sameOf 19 = .ok (.iconst 1, 1) := by decide +kernel
theorem dX12_sameOf_20 : decode cX12_sameOf 20 = .ok (.goto 4, 3) := by decide +kernel
theorem dX12_sameOf_23 : decode cX12_sameOf 23 = .ok (.iconst 0, 1) := by decide +kernel
theorem dX12_sameOf_24 : decode cX12_sameOf 24 = .ok (.istore_n 1, 1) := by decide +kernel
theorem dX12_sameOf_25 : decode cX12_sameOf 25 = .ok (.iconst 0, 1) := by decide +kernel
theorem dX12_sameOf_26 : decode cX12_sameOf 26 = .ok (.istore_n 2, 1) := by decide +kernel
theorem dX12_sameOf_27 : decode cX12_sameOf 27 = .ok (.iload_n 2, 1) := by decide +kernel
theorem dX12_sameOf_28 : decode cX12_sameOf 28 = .ok (.aload_n 0, 1) := by decide +kernel
theorem dX12_sameOf_29 : decode cX12_sameOf 29 = .ok (.getfield 19, 3) := by decide +kernel
theorem dX12_sameOf_32 : decode cX12_sameOf 32 = .ok (.iconst 0, 1) := by decide +kernel
theorem dX12_sameOf_33 : decode cX12_sameOf 33 = .ok (.iaload, 1) := by decide +kernel
theorem dX12_sameOf_34 : decode cX12_sameOf 34 = .ok (.if_icmp .ge 34, 3) := by decide +kernel
theorem dX12_sameOf_37 : decode cX12_sameOf 37 = .ok (.iload_n 1, 1) := by decide +kernel
theorem dX12_sameOf_38 : decode cX12_sameOf 38 = .ok (.ifCond .eq 22, 3) := by decide +kernel
theorem dX12_sameOf_41 : decode cX12_sameOf 41 = .ok (.aload_n 0, 1) := by decide +kernel
theorem dX12_sameOf_42 : decode cX12_sameOf 42 = .ok (.iconst 0, 1) := by decide +kernel
theorem dX12_sameOf_43 : decode cX12_sameOf 43 = .ok (.iload_n 2, 1) := by decide +kernel
theorem dX12_sameOf_44 : decode cX12_sameOf 44 = .ok (.invokevirtual 298, 3) := by decide +kernel
theorem dX12_sameOf_47 : decode cX12_sameOf 47 = .ok (.aload_n 0, 1) := by decide +kernel
theorem dX12_sameOf_48 : decode cX12_sameOf 48 = .ok (.iconst 1, 1) := by decide +kernel
theorem dX12_sameOf_49 : decode cX12_sameOf 49 = .ok (.iload_n 2, 1) := by decide +kernel
theorem dX12_sameOf_50 : decode cX12_sameOf 50 = .ok (.invokevirtual 298, 3) := by decide +kernel
theorem dX12_sameOf_53 : decode cX12_sameOf 53 = .ok (.if_icmp .ne 7, 3) := by decide +kernel
theorem dX12_sameOf_56 : decode cX12_sameOf 56 = .ok (.iconst 1, 1) := by decide +kernel
theorem dX12_sameOf_57 : decode cX12_sameOf 57 = .ok (.goto 4, 3) := by decide +kernel
theorem dX12_sameOf_60 : decode cX12_sameOf 60 = .ok (.iconst 0, 1) := by decide +kernel
theorem dX12_sameOf_61 : decode cX12_sameOf 61 = .ok (.istore_n 1, 1) := by decide +kernel
theorem dX12_sameOf_62 : decode cX12_sameOf 62 = .ok (.iinc 2 1, 3) := by decide +kernel
theorem dX12_sameOf_65 : decode cX12_sameOf 65 = .ok (.goto (-38), 3) := by decide +kernel
theorem dX12_sameOf_68 : decode cX12_sameOf 68 = .ok (.iload_n 1, 1) := by decide +kernel
theorem dX12_sameOf_69 : decode cX12_sameOf 69 = .ok (.ifCond .eq 7, 3) := by decide +kernel
theorem dX12_sameOf_72 : decode cX12_sameOf 72 = .ok (.iconst 1, 1) := by decide +kernel
theorem dX12_sameOf_73 : decode cX12_sameOf 73 = .ok (.goto 4, 3) := by decide +kernel
theorem dX12_sameOf_76 : decode cX12_sameOf 76 = .ok (.iconst 0, 1) := by decide +kernel
theorem dX12_sameOf_77 : decode cX12_sameOf 77 = .ok (.ireturn, 1) := by decide +kernel
theorem dX12_same_0 : decode cX12_same 0 = .ok (.aload_n 0, 1) := by decide +kernel
theorem dX12_same_1 : decode cX12_same 1 = .ok (.invokevirtual 304, 3) := by decide +kernel
theorem dX12_same_4 : decode cX12_same 4 = .ok (.ireturn, 1) := by decide +kernel
theorem dX12_totalOf_0 : decode cX12_totalOf 0 = .ok (.aload_n 0, 1) := by decide +kernel
theorem dX12_totalOf_1 : decode cX12_totalOf 1 = .ok (.invokevirtual 292, 3) := by decide +kernel
theorem dX12_totalOf_4 : decode cX12_totalOf 4 = .ok (.aload_n 0, 1) := by decide +kernel
theorem dX12_totalOf_5 : decode cX12_totalOf 5 = .ok (.getfield 34, 3) := by decide +kernel
theorem dX12_totalOf_8 : decode cX12_totalOf 8 = .ok (.iconst 0, 1) := by decide +kernel
theorem dX12_totalOf_9 : decode cX12_totalOf 9 = .ok (.iaload, 1) := by decide +kernel
theorem dX12_totalOf_10 : decode cX12_totalOf 10 = .ok (.iconst (-1), 1) := by decide +kernel
theorem dX12_totalOf_11 : decode cX12_totalOf 11 = .ok (.if_icmp .eq 6, 3) := by decide +kernel
theorem dX12_totalOf_14 : decode cX12_totalOf 14 = .ok (.bipush (-3), 2) := by decide +kernel
theorem dX12_totalOf_16 : decode cX12_totalOf 16 = .ok (.ireturn, 1) := by decide +kernel
theorem dX12_totalOf_17 : decode cX12_totalOf 17 = .ok (.iconst 0, 1) := by decide +kernel
theorem dX12_totalOf_18 : decode cX12_totalOf 18 = .ok (.istore_n 1, 1) := by decide +kernel
theorem dX12_totalOf_19 : decode cX12_totalOf 19 = .ok (.iconst 0, 1) := by decide +kernel
theorem dX12_totalOf_20 : decode cX12_totalOf 20 = .ok (.istore_n 2, 1) := by decide +kernel
theorem dX12_totalOf_21 : decode cX12_totalOf 21 = .ok (.iload_n 2, 1) := by decide +kernel
theorem dX12_totalOf_22 : decode cX12_totalOf 22 = .ok (.aload_n 0, 1) := by decide +kernel
theorem dX12_totalOf_23 : decode cX12_totalOf 23 = .ok (.getfield 19, 3) := by decide +kernel
theorem dX12_totalOf_26 : decode cX12_totalOf 26 = .ok (.iconst 0, 1) := by decide +kernel
theorem dX12_totalOf_27 : decode cX12_totalOf 27 = .ok (.iaload, 1) := by decide +kernel
theorem dX12_totalOf_28 : decode cX12_totalOf 28 = .ok (.if_icmp .ge 45, 3) := by decide +kernel
theorem dX12_totalOf_31 : decode cX12_totalOf 31 = .ok (.aload_n 0, 1) := by decide +kernel
theorem dX12_totalOf_32 : decode cX12_totalOf 32 = .ok (.getfield 37, 3) := by decide +kernel
theorem dX12_totalOf_35 : decode cX12_totalOf 35 = .ok (.iload_n 2, 1) := by decide +kernel
theorem dX12_totalOf_36 : decode cX12_totalOf 36 = .ok (.iaload, 1) := by decide +kernel
theorem dX12_totalOf_37 : decode cX12_totalOf 37 = .ok (.istore_n 3, 1) := by decide +kernel
theorem dX12_totalOf_38 : decode cX12_totalOf 38 = .ok (.iload_n 3, 1) := by decide +kernel
theorem dX12_totalOf_39 : decode cX12_totalOf 39 = .ok (.iconst (-1), 1) := by decide +kernel
theorem dX12_totalOf_40 : decode cX12_totalOf 40 = .ok (.if_icmp .ne 7, 3) := by decide +kernel
theorem dX12_totalOf_43 : decode cX12_totalOf 43 = .ok (.iload_n 1, 1) := by decide +kernel
theorem dX12_totalOf_44 : decode cX12_totalOf 44 = .ok (.goto 22, 3) := by decide +kernel
theorem dX12_totalOf_47 : decode cX12_totalOf 47 = .ok (.aload_n 0, 1) := by decide +kernel
theorem dX12_totalOf_48 : decode cX12_totalOf 48 = .ok (.getfield 184, 3) := by decide +kernel
theorem dX12_totalOf_51 : decode cX12_totalOf 51 = .ok (.iconst 4, 1) := by decide +kernel
theorem dX12_totalOf_52 : decode cX12_totalOf 52 = .ok (.if_icmp .ne 11, 3) := by decide +kernel
theorem dX12_totalOf_55 : decode cX12_totalOf 55 = .ok (.iload_n 1, 1) := by decide +kernel
theorem dX12_totalOf_56 : decode cX12_totalOf 56 = .ok (.iload_n 3, 1) := by decide +kernel
theorem dX12_totalOf_57 : decode cX12_totalOf 57 = .ok (.invokestatic 307, 3) := by decide +kernel
theorem dX12_totalOf_60 : decode cX12_totalOf 60 = .ok (.goto 6, 3) := by decide +kernel
theorem dX12_totalOf_63 : decode cX12_totalOf 63 = .ok (.iload_n 1, 1) := by decide +kernel
theorem dX12_totalOf_64 : decode cX12_totalOf 64 = .ok (.iload_n 3, 1) := by decide +kernel
theorem dX12_totalOf_65 : decode cX12_totalOf 65 = .ok (.iadd, 1) := by decide +kernel
theorem dX12_totalOf_66 : decode cX12_totalOf 66 = .ok (.istore_n 1, 1) := by decide +kernel
theorem dX12_totalOf_67 : decode cX12_totalOf 67 = .ok (.iinc 2 1, 3) := by decide +kernel
theorem dX12_totalOf_70 : decode cX12_totalOf 70 = .ok (.goto (-49), 3) := by decide +kernel
theorem dX12_totalOf_73 : decode cX12_totalOf 73 = .ok (.iload_n 1, 1) := by decide +kernel
theorem dX12_totalOf_74 : decode cX12_totalOf 74 = .ok (.ireturn, 1) := by decide +kernel
theorem dX12_total_0 : decode cX12_total 0 = .ok (.aload_n 0, 1) := by decide +kernel
theorem dX12_total_1 : decode cX12_total 1 = .ok (.invokevirtual 310, 3) := by decide +kernel
theorem dX12_total_4 : decode cX12_total 4 = .ok (.ireturn, 1) := by decide +kernel
theorem dX12_speaksOf_0 : decode cX12_speaksOf 0 = .ok (.aload_n 0, 1) := by decide +kernel
theorem dX12_speaksOf_1 : decode cX12_speaksOf 1 = .ok (.invokevirtual 292, 3) := by decide +kernel
theorem dX12_speaksOf_4 : decode cX12_speaksOf 4 = .ok (.aload_n 0, 1) := by decide +kernel
theorem dX12_speaksOf_5 : decode cX12_speaksOf 5 = .ok (.invokevirtual 247, 3) := by decide +kernel
theorem dX12_speaksOf_8 : decode cX12_speaksOf 8 = .ok (.ireturn, 1) := by decide +kernel
theorem dX12_speaks_0 : decode cX12_speaks 0 = .ok (.aload_n 0, 1) := by decide +kernel
theorem dX12_speaks_1 : decode cX12_speaks 1 = .ok (.invokevirtual 313, 3) := by decide +kernel
theorem dX12_speaks_4 : decode cX12_speaks 4 = .ok (.ireturn, 1) := by decide +kernel
theorem dX12_domainOf_0 : decode cX12_domainOf 0 = .ok (.aload_n 0, 1) := by decide +kernel
theorem dX12_domainOf_1 : decode cX12_domainOf 1 = .ok (.invokevirtual 292, 3) := by decide +kernel
theorem dX12_domainOf_4 : decode cX12_domainOf 4 = .ok (.iload_n 1, 1) := by decide +kernel
theorem dX12_domainOf_5 : decode cX12_domainOf 5 = .ok (.iconst (-1), 1) := by decide +kernel
theorem dX12_domainOf_6 : decode cX12_domainOf 6 = .ok (.if_icmp .ne 10, 3) := by decide +kernel
theorem dX12_domainOf_9 : decode cX12_domainOf 9 = .ok (.aload_n 0, 1) := by decide +kernel
theorem dX12_domainOf_10 : decode cX12_domainOf 10 = .ok (.getfield 244, 3) := by decide +kernel
theorem dX12_domainOf_13 : decode cX12_domainOf 13 = .ok (.goto 35, 3) := by decide +kernel
theorem dX12_domainOf_16 : decode cX12_domainOf 16 = .ok (.iload_n 1, 1) := by decide +kernel
theorem dX12_domainOf_17 : decode cX12_domainOf 17 = .ok (.aload_n 0, 1) := by decide +kernel
theorem dX12_domainOf_18 : decode cX12_domainOf 18 = .ok (.getfield 244, 3) := by decide +kernel
theorem dX12_domainOf_21 : decode cX12_domainOf 21 = .ok (.if_icmp .lt 8, 3) := by decide +kernel
theorem dX12_domainOf_24 : decode cX12_domainOf 24 = .ok (.bipush (-3), 2) := by decide +kernel
theorem dX12_domainOf_26 : decode cX12_domainOf 26 = .ok (.goto 22, 3) := by decide +kernel
theorem dX12_domainOf_29 : decode cX12_domainOf 29 = .ok (.iload_n 2, 1) := by decide +kernel
theorem dX12_domainOf_30 : decode cX12_domainOf 30 = .ok (.ifCond .ne 12, 3) := by decide +kernel
theorem dX12_domainOf_33 : decode cX12_domainOf 33 = .ok (.aload_n 0, 1) := by decide +kernel
theorem dX12_domainOf_34 : decode cX12_domainOf 34 = .ok (.getfield 76, 3) := by decide +kernel
theorem dX12_domainOf_37 : decode cX12_domainOf 37 = .ok (.iload_n 1, 1) := by decide +kernel
theorem dX12_domainOf_38 : decode cX12_domainOf 38 = .ok (.iaload, 1) := by decide +kernel
theorem dX12_domainOf_39 : decode cX12_domainOf 39 = .ok (.goto 9, 3) := by decide +kernel
theorem dX12_domainOf_42 : decode cX12_domainOf 42 = .ok (.aload_n 0, 1) := by decide +kernel
theorem dX12_domainOf_43 : decode cX12_domainOf 43 = .ok (.getfield 79, 3) := by decide +kernel
theorem dX12_domainOf_46 : decode cX12_domainOf 46 = .ok (.iload_n 1, 1) := by decide +kernel
theorem dX12_domainOf_47 : decode cX12_domainOf 47 = .ok (.iaload, 1) := by decide +kernel
theorem dX12_domainOf_48 : decode cX12_domainOf 48 = .ok (.ireturn, 1) := by decide +kernel
theorem dX12_domain_0 : decode cX12_domain 0 = .ok (.iload_n 1, 1) := by decide +kernel
theorem dX12_domain_1 : decode cX12_domain 1 = .ok (.iconst (-1), 1) := by decide +kernel
theorem dX12_domain_2 : decode cX12_domain 2 = .ok (.bipush 9, 2) := by decide +kernel
theorem dX12_domain_4 : decode cX12_domain 4 = .ok (.invokestatic 107, 3) := by decide +kernel
theorem dX12_domain_7 : decode cX12_domain 7 = .ok (.ifCond .eq 19, 3) := by decide +kernel
theorem dX12_domain_10 : decode cX12_domain 10 = .ok (.iload_n 2, 1) := by decide +kernel
theorem dX12_domain_11 : decode cX12_domain 11 = .ok (.invokestatic 165, 3) := by decide +kernel
theorem dX12_domain_14 : decode cX12_domain 14 = .ok (.ifCond .eq 12, 3) := by decide +kernel
theorem dX12_domain_17 : decode cX12_domain 17 = .ok (.aload_n 0, 1) := by decide +kernel
theorem dX12_domain_18 : decode cX12_domain 18 = .ok (.iload_n 1, 1) := by decide +kernel
theorem dX12_domain_19 : decode cX12_domain 19 = .ok (.iload_n 2, 1) := by decide +kernel
theorem dX12_domain_20 : decode cX12_domain 20 = .ok (.invokevirtual 316, 3) := by decide +kernel
theorem dX12_domain_23 : decode cX12_domain 23 = .ok (.goto 5, 3) := by decide +kernel
theorem dX12_domain_26 : decode cX12_domain 26 = .ok (.bipush (-2), 2) := by decide +kernel
theorem dX12_domain_28 : decode cX12_domain 28 = .ok (.ireturn, 1) := by decide +kernel
theorem dX12_planOf_0 : decode cX12_planOf 0 = .ok (.aload_n 0, 1) := by decide +kernel
theorem dX12_planOf_1 : decode cX12_planOf 1 = .ok (.invokevirtual 292, 3) := by decide +kernel
theorem dX12_planOf_4 : decode cX12_planOf 4 = .ok (.iload_n 1, 1) := by decide +kernel
theorem dX12_planOf_5 : decode cX12_planOf 5 = .ok (.aload_n 0, 1) := by decide +kernel
theorem dX12_planOf_6 : decode cX12_planOf 6 = .ok (.getfield 261, 3) := by decide +kernel
theorem dX12_planOf_9 : decode cX12_planOf 9 = .ok (.if_icmp .ge 12, 3) := by decide +kernel
theorem dX12_planOf_12 : decode cX12_planOf 12 = .ok (.aload_n 0, 1) := by decide +kernel
theorem dX12_planOf_13 : decode cX12_planOf 13 = .ok (.getfield 85, 3) := by decide +kernel
theorem dX12_planOf_16 : decode cX12_planOf 16 = .ok (.iload_n 1, 1) := by decide +kernel
theorem dX12_planOf_17 : decode cX12_planOf 17 = .ok (.iaload, 1) := by decide +kernel
theorem dX12_planOf_18 : decode cX12_planOf 18 = .ok (.goto 4, 3) := by decide +kernel
theorem dX12_planOf_21 : decode cX12_planOf 21 = .ok (.iconst (-1), 1) := by decide +kernel
theorem dX12_planOf_22 : decode cX12_planOf 22 = .ok (.ireturn, 1) := by decide +kernel
theorem dX12_plan_0 : decode cX12_plan 0 = .ok (.iload_n 1, 1) := by decide +kernel
theorem dX12_plan_1 : decode cX12_plan 1 = .ok (.iconst 0, 1) := by decide +kernel
theorem dX12_plan_2 : decode cX12_plan 2 = .ok (.bipush 19, 2) := by decide +kernel
theorem dX12_plan_4 : decode cX12_plan 4 = .ok (.invokestatic 107, 3) := by decide +kernel
theorem dX12_plan_7 : decode cX12_plan 7 = .ok (.ifCond .eq 11, 3) := by decide +kernel
theorem dX12_plan_10 : decode cX12_plan 10 = .ok (.aload_n 0, 1) := by decide +kernel
theorem dX12_plan_11 : decode cX12_plan 11 = .ok (.iload_n 1, 1) := by decide +kernel
theorem dX12_plan_12 : decode cX12_plan 12 = .ok (.invokevirtual 319, 3) := by decide +kernel
theorem dX12_plan_15 : decode cX12_plan 15 = .ok (.goto 5, 3) := by decide +kernel
theorem dX12_plan_18 : decode cX12_plan 18 = .ok (.bipush (-2), 2) := by decide +kernel
theorem dX12_plan_20 : decode cX12_plan 20 = .ok (.ireturn, 1) := by decide +kernel
theorem dX12_costOf_0 : decode cX12_costOf 0 = .ok (.aload_n 0, 1) := by decide +kernel
theorem dX12_costOf_1 : decode cX12_costOf 1 = .ok (.invokevirtual 292, 3) := by decide +kernel
theorem dX12_costOf_4 : decode cX12_costOf 4 = .ok (.aload_n 0, 1) := by decide +kernel
theorem dX12_costOf_5 : decode cX12_costOf 5 = .ok (.getfield 40, 3) := by decide +kernel
theorem dX12_costOf_8 : decode cX12_costOf 8 = .ok (.iconst 5, 1) := by decide +kernel
theorem dX12_costOf_9 : decode cX12_costOf 9 = .ok (.iload_n 1, 1) := by decide +kernel
theorem dX12_costOf_10 : decode cX12_costOf 10 = .ok (.imul, 1) := by decide +kernel
theorem dX12_costOf_11 : decode cX12_costOf 11 = .ok (.iload_n 2, 1) := by decide +kernel
theorem dX12_costOf_12 : decode cX12_costOf 12 = .ok (.iadd, 1) := by decide +kernel
theorem dX12_costOf_13 : decode cX12_costOf 13 = .ok (.iaload, 1) := by decide +kernel
theorem dX12_costOf_14 : decode cX12_costOf 14 = .ok (.ireturn, 1) := by decide +kernel
theorem dX12_cost_0 : decode cX12_cost 0 = .ok (.iload_n 1, 1) := by decide +kernel
theorem dX12_cost_1 : decode cX12_cost 1 = .ok (.invokestatic 165, 3) := by decide +kernel
theorem dX12_cost_4 : decode cX12_cost 4 = .ok (.ifCond .eq 21, 3) := by decide +kernel
theorem dX12_cost_7 : decode cX12_cost 7 = .ok (.iload_n 2, 1) := by decide +kernel
theorem dX12_cost_8 : decode cX12_cost 8 = .ok (.iconst 0, 1) := by decide +kernel
theorem dX12_cost_9 : decode cX12_cost 9 = .ok (.iconst 4, 1) := by decide +kernel
theorem dX12_cost_10 : decode cX12_cost 10 = .ok (.invokestatic 107, 3) := by decide +kernel
theorem dX12_cost_13 : decode cX12_cost 13 = .ok (.ifCond .eq 12, 3) := by decide +kernel
theorem dX12_cost_16 : decode cX12_cost 16 = .ok (.aload_n 0, 1) := by decide +kernel
theorem dX12_cost_17 : decode cX12_cost 17 = .ok (.iload_n 1, 1) := by decide +kernel
theorem dX12_cost_18 : decode cX12_cost 18 = .ok (.iload_n 2, 1) := by decide +kernel
theorem dX12_cost_19 : decode cX12_cost 19 = .ok (.invokevirtual 322, 3) := by decide +kernel
theorem dX12_cost_22 : decode cX12_cost 22 = .ok (.goto 5, 3) := by decide +kernel
theorem dX12_cost_25 : decode cX12_cost 25 = .ok (.bipush (-2), 2) := by decide +kernel
theorem dX12_cost_27 : decode cX12_cost 27 = .ok (.ireturn, 1) := by decide +kernel
theorem dX12_logOf_0 : decode cX12_logOf 0 = .ok (.aload_n 0, 1) := by decide +kernel
theorem dX12_logOf_1 : decode cX12_logOf 1 = .ok (.invokevirtual 292, 3) := by decide +kernel
theorem dX12_logOf_4 : decode cX12_logOf 4 = .ok (.iload_n 2, 1) := by decide +kernel
theorem dX12_logOf_5 : decode cX12_logOf 5 = .ok (.aload_n 0, 1) := by decide +kernel
theorem dX12_logOf_6 : decode cX12_logOf 6 = .ok (.getfield 43, 3) := by decide +kernel
theorem dX12_logOf_9 : decode cX12_logOf 9 = .ok (.iload_n 1, 1) := by decide +kernel
theorem dX12_logOf_10 : decode cX12_logOf 10 = .ok (.iaload, 1) := by decide +kernel
theorem dX12_logOf_11 : decode cX12_logOf 11 = .ok (.if_icmp .ge 18, 3) := by decide +kernel
theorem dX12_logOf_14 : decode cX12_logOf 14 = .ok (.aload_n 0, 1) := by decide +kernel
theorem dX12_logOf_15 : decode cX12_logOf 15 = .ok (.getfield 46, 3) := by decide +kernel
theorem dX12_logOf_18 : decode cX12_logOf 18 = .ok (.sipush 200, 3) := by decide +kernel
theorem dX12_logOf_21 : decode cX12_logOf 21 = .ok (.iload_n 1, 1) := by decide +kernel
theorem dX12_logOf_22 : decode cX12_logOf 22 = .ok (.imul, 1) := by decide +kernel
theorem dX12_logOf_23 : decode cX12_logOf 23 = .ok (.iload_n 2, 1) := by decide +kernel
theorem dX12_logOf_24 : decode cX12_logOf 24 = .ok (.iadd, 1) := by decide +kernel
theorem dX12_logOf_25 : decode cX12_logOf 25 = .ok (.iaload, 1) := by decide +kernel
theorem dX12_logOf_26 : decode cX12_logOf 26 = .ok (.goto 4, 3) := by decide +kernel
theorem dX12_logOf_29 : decode cX12_logOf 29 = .ok (.iconst (-1), 1) := by decide +kernel
theorem dX12_logOf_30 : decode cX12_logOf 30 = .ok (.ireturn, 1) := by decide +kernel
theorem dX12_log_0 : decode cX12_log 0 = .ok (.iload_n 1, 1) := by decide +kernel
theorem dX12_log_1 : decode cX12_log 1 = .ok (.invokestatic 165, 3) := by decide +kernel
theorem dX12_log_4 : decode cX12_log 4 = .ok (.ifCond .eq 23, 3) := by decide +kernel
theorem dX12_log_7 : decode cX12_log 7 = .ok (.iload_n 2, 1) := by decide +kernel
theorem dX12_log_8 : decode cX12_log 8 = .ok (.iconst 0, 1) := by decide +kernel
theorem dX12_log_9 : decode cX12_log 9 = .ok (.sipush 199, 3) := by decide +kernel
theorem dX12_log_12 : decode cX12_log 12 = .ok (.invokestatic 107, 3) := by decide +kernel
theorem dX12_log_15 : decode cX12_log 15 = .ok (.ifCond .eq 12, 3) := by decide +kernel
theorem dX12_log_18 : decode cX12_log 18 = .ok (.aload_n 0, 1) := by decide +kernel
theorem dX12_log_19 : decode cX12_log 19 = .ok (.iload_n 1, 1) := by decide +kernel
theorem dX12_log_20 : decode cX12_log 20 = .ok (.iload_n 2, 1) := by decide +kernel
theorem dX12_log_21 : decode cX12_log 21 = .ok (.invokevirtual 325, 3) := by decide +kernel
theorem dX12_log_24 : decode cX12_log 24 = .ok (.goto 5, 3) := by decide +kernel
theorem dX12_log_27 : decode cX12_log 27 = .ok (.bipush (-2), 2) := by decide +kernel
theorem dX12_log_29 : decode cX12_log 29 = .ok (.ireturn, 1) := by decide +kernel
theorem dX12_spareOf_0 : decode cX12_spareOf 0 = .ok (.aload_n 0, 1) := by decide +kernel
theorem dX12_spareOf_1 : decode cX12_spareOf 1 = .ok (.invokevirtual 292, 3) := by decide +kernel
theorem dX12_spareOf_4 : decode cX12_spareOf 4 = .ok (.aload_n 0, 1) := by decide +kernel
theorem dX12_spareOf_5 : decode cX12_spareOf 5 = .ok (.getfield 34, 3) := by decide +kernel
theorem dX12_spareOf_8 : decode cX12_spareOf 8 = .ok (.iconst 0, 1) := by decide +kernel
theorem dX12_spareOf_9 : decode cX12_spareOf 9 = .ok (.iaload, 1) := by decide +kernel
theorem dX12_spareOf_10 : decode cX12_spareOf 10 = .ok (.istore_n 1, 1) := by decide +kernel
theorem dX12_spareOf_11 : decode cX12_spareOf 11 = .ok (.iconst 0, 1) := by decide +kernel
theorem dX12_spareOf_12 : decode cX12_spareOf 12 = .ok (.istore_n 2, 1) := by decide +kernel
theorem dX12_spareOf_13 : decode cX12_spareOf 13 = .ok (.iconst 0, 1) := by decide +kernel
theorem dX12_spareOf_14 : decode cX12_spareOf 14 = .ok (.istore_n 3, 1) := by decide +kernel
theorem dX12_spareOf_15 : decode cX12_spareOf 15 = .ok (.iload_n 3, 1) := by decide +kernel
theorem dX12_spareOf_16 : decode cX12_spareOf 16 = .ok (.aload_n 0, 1) := by decide +kernel
theorem dX12_spareOf_17 : decode cX12_spareOf 17 = .ok (.getfield 19, 3) := by decide +kernel
theorem dX12_spareOf_20 : decode cX12_spareOf 20 = .ok (.iconst 0, 1) := by decide +kernel
theorem dX12_spareOf_21 : decode cX12_spareOf 21 = .ok (.iaload, 1) := by decide +kernel
theorem dX12_spareOf_22 : decode cX12_spareOf 22 = .ok (.if_icmp .ge 21, 3) := by decide +kernel
theorem dX12_spareOf_25 : decode cX12_spareOf 25 = .ok (.aload_n 0, 1) := by decide +kernel
theorem dX12_spareOf_26 : decode cX12_spareOf 26 = .ok (.getfield 88, 3) := by decide +kernel
theorem dX12_spareOf_29 : decode cX12_spareOf 29 = .ok (.iload_n 3, 1) := by decide +kernel
theorem dX12_spareOf_30 : decode cX12_spareOf 30 = .ok (.aload_n 0, 1) := by decide +kernel
theorem dX12_spareOf_31 : decode cX12_spareOf 31 = .ok (.getfield 37, 3) := by decide +kernel
theorem dX12_spareOf_34 : decode cX12_spareOf 34 = .ok (.iload_n 3, 1) := by decide +kernel
theorem dX12_spareOf_35 : decode cX12_spareOf 35 = .ok (.iaload, 1) := by decide +kernel
theorem dX12_spareOf_36 : decode cX12_spareOf 36 = .ok (.iastore, 1) := by decide +kernel
theorem dX12_spareOf_37 : decode cX12_spareOf 37 = .ok (.iinc 3 1, 3) := by decide +kernel
theorem dX12_spareOf_40 : decode cX12_spareOf 40 = .ok (.goto (-25), 3) := by decide +kernel
theorem dX12_spareOf_43 : decode cX12_spareOf 43 = .ok (.iconst 0, 1) := by decide +kernel
theorem dX12_spareOf_44 : decode cX12_spareOf 44 = .ok (.istore_n 3, 1) := by decide +kernel
theorem dX12_spareOf_45 : decode cX12_spareOf 45 = .ok (.iload_n 3, 1) := by decide +kernel
theorem dX12_spareOf_46 : decode cX12_spareOf 46 = .ok (.aload_n 0, 1) := by decide +kernel
theorem dX12_spareOf_47 : decode cX12_spareOf 47 = .ok (.getfield 145, 3) := by decide +kernel
theorem dX12_spareOf_50 : decode cX12_spareOf 50 = .ok (.if_icmp .ge 104, 3) := by decide +kernel
theorem dX12_spareOf_53 : decode cX12_spareOf 53 = .ok (.aload_n 0, 1) := by decide +kernel
theorem dX12_spareOf_54 : decode cX12_spareOf 54 = .ok (.iload_n 3, 1) := by decide +kernel
theorem dX12_spareOf_55 : decode cX12_spareOf 55 = .ok (.putfield 190, 3) := by decide +kernel
theorem dX12_spareOf_58 : decode cX12_spareOf 58 = .ok (.aload_n 0, 1) := by decide +kernel
theorem dX12_spareOf_59 : decode cX12_spareOf 59 = .ok (.invokevirtual 283, 3) := by decide +kernel
theorem dX12_spareOf_62 : decode cX12_spareOf 62 = .ok (.aload_n 0, 1) := by decide +kernel
theorem dX12_spareOf_63 : decode cX12_spareOf 63 = .ok (.getfield 34, 3) := by decide +kernel
theorem dX12_spareOf_66 : decode cX12_spareOf 66 = .ok (.iconst 0, 1) := by decide +kernel
theorem dX12_spareOf_67 : decode cX12_spareOf 67 = .ok (.iaload, 1) := by decide +kernel
theorem dX12_spareOf_68 : decode cX12_spareOf 68 = .ok (.iload_n 1, 1) := by decide +kernel
theorem dX12_spareOf_69 : decode cX12_spareOf 69 = .ok (.if_icmp .ne 7, 3) := by decide +kernel
theorem dX12_spareOf_72 : decode cX12_spareOf 72 = .ok (.iconst 1, 1) := by decide +kernel
theorem dX12_spareOf_73 : decode cX12_spareOf 73 = .ok (.goto 4, 3) := by decide +kernel
theorem dX12_spareOf_76 : decode cX12_spareOf 76 = .ok (.iconst 0, 1) := by decide +kernel
theorem dX12_spareOf_77 : decode cX12_spareOf 77 = .ok (.istore 4, 2) := by decide +kernel
theorem dX12_spareOf_79 : decode cX12_spareOf 79 = .ok (.iconst 0, 1) := by decide +kernel
theorem dX12_spareOf_80 : decode cX12_spareOf 80 = .ok (.istore 5, 2) := by decide +kernel
theorem dX12_spareOf_82 : decode cX12_spareOf 82 = .ok (.iload 5, 2) := by decide +kernel
theorem dX12_spareOf_84 : decode cX12_spareOf 84 = .ok (.aload_n 0, 1) := by decide +kernel
theorem dX12_spareOf_85 : decode cX12_spareOf 85 = .ok (.getfield 19, 3) := by decide +kernel
theorem dX12_spareOf_88 : decode cX12_spareOf 88 = .ok (.iconst 0, 1) := by decide +kernel
theorem dX12_spareOf_89 : decode cX12_spareOf 89 = .ok (.iaload, 1) := by decide +kernel
theorem dX12_spareOf_90 : decode cX12_spareOf 90 = .ok (.if_icmp .ge 43, 3) := by decide +kernel
theorem dX12_spareOf_93 : decode cX12_spareOf 93 = .ok (.iload_n 1, 1) := by decide +kernel
theorem dX12_spareOf_94 : decode cX12_spareOf 94 = .ok (.iconst (-1), 1) := by decide +kernel
theorem dX12_spareOf_95 : decode cX12_spareOf 95 = .ok (.if_icmp .ne 38, 3) := by decide +kernel
theorem dX12_spareOf_98 : decode cX12_spareOf 98 = .ok (.iload 4, 2) := by decide +kernel
theorem dX12_spareOf_100 : decode cX12_spareOf 100 = .ok (.ifCond .eq 24, 3) := by decide +kernel
theorem dX12_spareOf_103 : decode cX12_spareOf 103 = .ok (.aload_n 0, 1) := by decide +kernel
theorem dX12_spareOf_104 : decode cX12_spareOf 104 = .ok (.getfield 37, 3) := by decide +kernel
theorem dX12_spareOf_107 : decode cX12_spareOf 107 = .ok (.iload 5, 2) := by decide +kernel
theorem dX12_spareOf_109 : decode cX12_spareOf 109 = .ok (.iaload, 1) := by decide +kernel
theorem dX12_spareOf_110 : decode cX12_spareOf 110 = .ok (.aload_n 0, 1) := by decide +kernel
theorem dX12_spareOf_111 : decode cX12_spareOf 111 = .ok (.getfield 88, 3) := by decide +kernel
theorem dX12_spareOf_114 : decode cX12_spareOf 114 = .ok (.iload 5, 2) := by decide +kernel
theorem dX12_spareOf_116 : decode cX12_spareOf 116 = .ok (.iaload, 1) := by decide +kernel
theorem dX12_spareOf_117 : decode cX12_spareOf 117 = .ok (.if_icmp .ne 7, 3) := by decide +kernel
theorem dX12_spareOf_120 : decode cX12_spareOf 120 = .ok (.iconst 1, 1) := by decide +kernel
theorem dX12_spareOf_121 : decode cX12_spareOf 121 = .ok (.goto 4, 3) := by decide +kernel
theorem dX12_spareOf_124 : decode cX12_spareOf 124 = .ok (.iconst 0, 1) := by decide +kernel
theorem dX12_spareOf_125 : decode cX12_spareOf 125 = .ok (.istore 4, 2) := by decide +kernel
theorem dX12_spareOf_127 : decode cX12_spareOf 127 = .ok (.iinc 5 1, 3) := by decide +kernel
theorem dX12_spareOf_130 : decode cX12_spareOf 130 = .ok (.goto (-48), 3) := by decide +kernel
theorem dX12_spareOf_133 : decode cX12_spareOf 133 = .ok (.iload_n 2, 1) := by decide +kernel
theorem dX12_spareOf_134 : decode cX12_spareOf 134 = .ok (.iload 4, 2) := by decide +kernel
theorem dX12_spareOf_136 : decode cX12_spareOf 136 = .ok (.ifCond .eq 9, 3) := by decide +kernel
theorem dX12_spareOf_139 : decode cX12_spareOf 139 = .ok (.iconst 1, 1) := by decide +kernel
theorem dX12_spareOf_140 : decode cX12_spareOf 140 = .ok (.iload_n 3, 1) := by decide +kernel
theorem dX12_spareOf_141 : decode cX12_spareOf 141 = .ok (.ishl, 1) := by decide +kernel
theorem dX12_spareOf_142 : decode cX12_spareOf 142 = .ok (.goto 4, 3) := by decide +kernel
theorem dX12_spareOf_145 : decode cX12_spareOf 145 = .ok (.iconst 0, 1) := by decide +kernel
theorem dX12_spareOf_146 : decode cX12_spareOf 146 = .ok (.ior, 1) := by decide +kernel
theorem dX12_spareOf_147 : decode cX12_spareOf 147 = .ok (.istore_n 2, 1) := by decide +kernel
theorem dX12_spareOf_148 : decode cX12_spareOf 148 = .ok (.iinc 3 1, 3) := by decide +kernel
theorem dX12_spareOf_151 : decode cX12_spareOf 151 = .ok (.goto (-106), 3) := by decide +kernel
theorem dX12_spareOf_154 : decode cX12_spareOf 154 = .ok (.iload_n 2, 1) := by decide +kernel
theorem dX12_spareOf_155 : decode cX12_spareOf 155 = .ok (.ireturn, 1) := by decide +kernel
theorem dX12_spare_0 : decode cX12_spare 0 = .ok (.aload_n 0, 1) := by decide +kernel
theorem dX12_spare_1 : decode cX12_spare 1 = .ok (.invokevirtual 328, 3) := by decide +kernel
theorem dX12_spare_4 : decode cX12_spare 4 = .ok (.ireturn, 1) := by decide +kernel
theorem dX12_meets_0 : decode cX12_meets 0 = .ok (.aload_n 0, 1) := by decide +kernel
theorem dX12_meets_1 : decode cX12_meets 1 = .ok (.iload_n 1, 1) := by decide +kernel
theorem dX12_meets_2 : decode cX12_meets 2 = .ok (.putfield 331, 3) := by decide +kernel
theorem dX12_meets_5 : decode cX12_meets 5 = .ok (.bipush (-10), 2) := by decide +kernel
theorem dX12_meets_7 : decode cX12_meets 7 = .ok (.iload_n 1, 1) := by decide +kernel
theorem dX12_meets_8 : decode cX12_meets 8 = .ok (.isub, 1) := by decide +kernel
theorem dX12_meets_9 : decode cX12_meets 9 = .ok (.ireturn, 1) := by decide +kernel
theorem dX12_isSheet_0 : decode cX12_isSheet 0 = .ok (.iload_n 0, 1) := by decide +kernel
theorem dX12_isSheet_1 : decode cX12_isSheet 1 = .ok (.iconst 0, 1) := by decide +kernel
theorem dX12_isSheet_2 : decode cX12_isSheet 2 = .ok (.iconst 3, 1) := by decide +kernel
theorem dX12_isSheet_3 : decode cX12_isSheet 3 = .ok (.invokestatic 107, 3) := by decide +kernel
theorem dX12_isSheet_6 : decode cX12_isSheet 6 = .ok (.ireturn, 1) := by decide +kernel
theorem dX12_sheet_0 : decode cX12_sheet 0 = .ok (.iload_n 1, 1) := by decide +kernel
theorem dX12_sheet_1 : decode cX12_sheet 1 = .ok (.invokestatic 129, 3) := by decide +kernel
theorem dX12_sheet_4 : decode cX12_sheet 4 = .ok (.ifCond .eq 18, 3) := by decide +kernel
theorem dX12_sheet_7 : decode cX12_sheet 7 = .ok (.iload_n 2, 1) := by decide +kernel
theorem dX12_sheet_8 : decode cX12_sheet 8 = .ok (.iconst 0, 1) := by decide +kernel
theorem dX12_sheet_9 : decode cX12_sheet 9 = .ok (.iconst 2, 1) := by decide +kernel
theorem dX12_sheet_10 : decode cX12_sheet 10 = .ok (.invokestatic 107, 3) := by decide +kernel
theorem dX12_sheet_13 : decode cX12_sheet 13 = .ok (.ifCond .eq 9, 3) := by decide +kernel
theorem dX12_sheet_16 : decode cX12_sheet 16 = .ok (.iload_n 3, 1) := by decide +kernel
theorem dX12_sheet_17 : decode cX12_sheet 17 = .ok (.bipush 60, 2) := by decide +kernel
theorem dX12_sheet_19 : decode cX12_sheet 19 = .ok (.if_icmp .le 6, 3) := by decide +kernel
theorem dX12_sheet_22 : decode cX12_sheet 22 = .ok (.bipush (-2), 2) := by decide +kernel
theorem dX12_sheet_24 : decode cX12_sheet 24 = .ok (.ireturn, 1) := by decide +kernel
theorem dX12_sheet_25 : decode cX12_sheet 25 = .ok (.iload_n 3, 1) := by decide +kernel
theorem dX12_sheet_26 : decode cX12_sheet 26 = .ok (.ifCond .ge 9, 3) := by decide +kernel
theorem dX12_sheet_29 : decode cX12_sheet 29 = .ok (.aload_n 0, 1) := by decide +kernel
theorem dX12_sheet_30 : decode cX12_sheet 30 = .ok (.iconst 5, 1) := by decide +kernel
theorem dX12_sheet_31 : decode cX12_sheet 31 = .ok (.invokevirtual 132, 3) := by decide +kernel
theorem dX12_sheet_34 : decode cX12_sheet 34 = .ok (.ireturn, 1) := by decide +kernel
theorem dX12_sheet_35 : decode cX12_sheet 35 = .ok (.aload_n 0, 1) := by decide +kernel
theorem dX12_sheet_36 : decode cX12_sheet 36 = .ok (.getfield 91, 3) := by decide +kernel
theorem dX12_sheet_39 : decode cX12_sheet 39 = .ok (.iload_n 1, 1) := by decide +kernel
theorem dX12_sheet_40 : decode cX12_sheet 40 = .ok (.iconst 1, 1) := by decide +kernel
theorem dX12_sheet_41 : decode cX12_sheet 41 = .ok (.bastore, 1) := by decide +kernel
theorem dX12_sheet_42 : decode cX12_sheet 42 = .ok (.aload_n 0, 1) := by decide +kernel
theorem dX12_sheet_43 : decode cX12_sheet 43 = .ok (.getfield 95, 3) := by decide +kernel
theorem dX12_sheet_46 : decode cX12_sheet 46 = .ok (.iload_n 1, 1) := by decide +kernel
theorem dX12_sheet_47 : decode cX12_sheet 47 = .ok (.iload_n 2, 1) := by decide +kernel
theorem dX12_sheet_48 : decode cX12_sheet 48 = .ok (.iastore, 1) := by decide +kernel
theorem dX12_sheet_49 : decode cX12_sheet 49 = .ok (.aload_n 0, 1) := by decide +kernel
theorem dX12_sheet_50 : decode cX12_sheet 50 = .ok (.getfield 98, 3) := by decide +kernel
theorem dX12_sheet_53 : decode cX12_sheet 53 = .ok (.iload_n 1, 1) := by decide +kernel
theorem dX12_sheet_54 : decode cX12_sheet 54 = .ok (.iload_n 3, 1) := by decide +kernel
theorem dX12_sheet_55 : decode cX12_sheet 55 = .ok (.iastore, 1) := by decide +kernel
theorem dX12_sheet_56 : decode cX12_sheet 56 = .ok (.iconst 0, 1) := by decide +kernel
theorem dX12_sheet_57 : decode cX12_sheet 57 = .ok (.istore 4, 2) := by decide +kernel
theorem dX12_sheet_59 : decode cX12_sheet 59 = .ok (.iload 4, 2) := by decide +kernel
theorem dX12_sheet_61 : decode cX12_sheet 61 = .ok (.bipush 60, 2) := by decide +kernel
theorem dX12_sheet_63 : decode cX12_sheet 63 = .ok (.if_icmp .ge 22, 3) := by decide +kernel
theorem dX12_sheet_66 : decode cX12_sheet 66 = .ok (.aload_n 0, 1) := by decide +kernel
theorem dX12_sheet_67 : decode cX12_sheet 67 = .ok (.getfield 101, 3) := by decide +kernel
theorem dX12_sheet_70 : decode cX12_sheet 70 = .ok (.bipush 60, 2) := by decide +kernel
theorem dX12_sheet_72 : decode cX12_sheet 72 = .ok (.iload_n 1, 1) := by decide +kernel
theorem dX12_sheet_73 : decode cX12_sheet 73 = .ok (.imul, 1) := by decide +kernel
theorem dX12_sheet_74 : decode cX12_sheet 74 = .ok (.iload 4, 2) := by decide +kernel
theorem dX12_sheet_76 : decode cX12_sheet 76 = .ok (.iadd, 1) := by decide +kernel
theorem dX12_sheet_77 : decode cX12_sheet 77 = .ok (.iconst 0, 1) := by decide +kernel
theorem dX12_sheet_78 : decode cX12_sheet 78 = .ok (.iastore, 1) := by decide +kernel
theorem dX12_sheet_79 : decode cX12_sheet 79 = .ok (.iinc 4 1, 3) := by decide +kernel
theorem dX12_sheet_82 : decode cX12_sheet 82 = .ok (.goto (-23), 3) := by decide +kernel
theorem dX12_sheet_85 : decode cX12_sheet 85 = .ok (.iload_n 3, 1) := by decide +kernel
theorem dX12_sheet_86 : decode cX12_sheet 86 = .ok (.ireturn, 1) := by decide +kernel
theorem dX12_lose_0 : decode cX12_lose 0 = .ok (.iload_n 1, 1) := by decide +kernel
theorem dX12_lose_1 : decode cX12_lose 1 = .ok (.invokestatic 129, 3) := by decide +kernel
theorem dX12_lose_4 : decode cX12_lose 4 = .ok (.ifCond .ne 6, 3) := by decide +kernel
theorem dX12_lose_7 : decode cX12_lose 7 = .ok (.bipush (-2), 2) := by decide +kernel
theorem dX12_lose_9 : decode cX12_lose 9 = .ok (.ireturn, 1) := by decide +kernel
theorem dX12_lose_10 : decode cX12_lose 10 = .ok (.aload_n 0, 1) := by decide +kernel
theorem dX12_lose_11 : decode cX12_lose 11 = .ok (.getfield 91, 3) := by decide +kernel
theorem dX12_lose_14 : decode cX12_lose 14 = .ok (.iload_n 1, 1) := by decide +kernel
theorem dX12_lose_15 : decode cX12_lose 15 = .ok (.baload, 1) := by decide +kernel
theorem dX12_lose_16 : decode cX12_lose 16 = .ok (.ifCond .ne 9, 3) := by decide +kernel
theorem dX12_lose_19 : decode cX12_lose 19 = .ok (.aload_n 0, 1) := by decide +kernel
theorem dX12_lose_20 : decode cX12_lose 20 = .ok (.iconst 1, 1) := by decide +kernel
theorem dX12_lose_21 : decode cX12_lose 21 = .ok (.invokevirtual 132, 3) := by decide +kernel
theorem dX12_lose_24 : decode cX12_lose 24 = .ok (.ireturn, 1) := by decide +kernel
theorem dX12_lose_25 : decode cX12_lose 25 = .ok (.aload_n 0, 1) := by decide +kernel
theorem dX12_lose_26 : decode cX12_lose 26 = .ok (.getfield 91, 3) := by decide +kernel
theorem dX12_lose_29 : decode cX12_lose 29 = .ok (.iload_n 1, 1) := by decide +kernel
theorem dX12_lose_30 : decode cX12_lose 30 = .ok (.iconst 0, 1) := by decide +kernel
theorem dX12_lose_31 : decode cX12_lose 31 = .ok (.bastore, 1) := by decide +kernel
theorem dX12_lose_32 : decode cX12_lose 32 = .ok (.aload_n 0, 1) := by decide +kernel
theorem dX12_lose_33 : decode cX12_lose 33 = .ok (.getfield 98, 3) := by decide +kernel
theorem dX12_lose_36 : decode cX12_lose 36 = .ok (.iload_n 1, 1) := by decide +kernel
theorem dX12_lose_37 : decode cX12_lose 37 = .ok (.iaload, 1) := by decide +kernel
theorem dX12_lose_38 : decode cX12_lose 38 = .ok (.ireturn, 1) := by decide +kernel
theorem dX12_lacks_0 : decode cX12_lacks 0 = .ok (.aload_n 0, 1) := by decide +kernel
theorem dX12_lacks_1 : decode cX12_lacks 1 = .ok (.getfield 91, 3) := by decide +kernel
theorem dX12_lacks_4 : decode cX12_lacks 4 = .ok (.iload_n 1, 1) := by decide +kernel
theorem dX12_lacks_5 : decode cX12_lacks 5 = .ok (.baload, 1) := by decide +kernel
theorem dX12_lacks_6 : decode cX12_lacks 6 = .ok (.ifCond .ne 7, 3) := by decide +kernel
theorem dX12_lacks_9 : decode cX12_lacks 9 = .ok (.iconst 1, 1) := by decide +kernel
theorem dX12_lacks_10 : decode cX12_lacks 10 = .ok (.goto 38, 3) := by decide +kernel
theorem dX12_lacks_13 : decode cX12_lacks 13 = .ok (.aload_n 0, 1) := by decide +kernel
theorem dX12_lacks_14 : decode cX12_lacks 14 = .ok (.getfield 95, 3) := by decide +kernel
theorem dX12_lacks_17 : decode cX12_lacks 17 = .ok (.iload_n 1, 1) := by decide +kernel
theorem dX12_lacks_18 : decode cX12_lacks 18 = .ok (.iaload, 1) := by decide +kernel
theorem dX12_lacks_19 : decode cX12_lacks 19 = .ok (.iload_n 2, 1) := by decide +kernel
theorem dX12_lacks_20 : decode cX12_lacks 20 = .ok (.if_icmp .eq 7, 3) := by decide +kernel
theorem dX12_lacks_23 : decode cX12_lacks 23 = .ok (.iconst 3, 1) := by decide +kernel
theorem dX12_lacks_24 : decode cX12_lacks 24 = .ok (.goto 24, 3) := by decide +kernel
theorem dX12_lacks_27 : decode cX12_lacks 27 = .ok (.iload_n 3, 1) := by decide +kernel
theorem dX12_lacks_28 : decode cX12_lacks 28 = .ok (.iconst 0, 1) := by decide +kernel
theorem dX12_lacks_29 : decode cX12_lacks 29 = .ok (.aload_n 0, 1) := by decide +kernel
theorem dX12_lacks_30 : decode cX12_lacks 30 = .ok (.getfield 98, 3) := by decide +kernel
theorem dX12_lacks_33 : decode cX12_lacks 33 = .ok (.iload_n 1, 1) := by decide +kernel
theorem dX12_lacks_34 : decode cX12_lacks 34 = .ok (.iaload, 1) := by decide +kernel
theorem dX12_lacks_35 : decode cX12_lacks 35 = .ok (.iconst 1, 1) := by decide +kernel
theorem dX12_lacks_36 : decode cX12_lacks 36 = .ok (.isub, 1) := by decide +kernel
theorem dX12_lacks_37 : decode cX12_lacks 37 = .ok (.invokestatic 107, 3) := by decide +kernel
theorem dX12_lacks_40 : decode cX12_lacks 40 = .ok (.ifCond .eq 7, 3) := by decide +kernel
theorem dX12_lacks_43 : decode cX12_lacks 43 = .ok (.iconst 0, 1) := by decide +kernel
theorem dX12_lacks_44 : decode cX12_lacks 44 = .ok (.goto 4, 3) := by decide +kernel
theorem dX12_lacks_47 : decode cX12_lacks 47 = .ok (.iconst 2, 1) := by decide +kernel
theorem dX12_lacks_48 : decode cX12_lacks 48 = .ok (.ireturn, 1) := by decide +kernel
theorem dX12_keep_0 : decode cX12_keep 0 = .ok (.aload_n 0, 1) := by decide +kernel
theorem dX12_keep_1 : decode cX12_keep 1 = .ok (.getfield 101, 3) := by decide +kernel
theorem dX12_keep_4 : decode cX12_keep 4 = .ok (.bipush 60, 2) := by decide +kernel
theorem dX12_keep_6 : decode cX12_keep 6 = .ok (.iload_n 1, 1) := by decide +kernel
theorem dX12_keep_7 : decode cX12_keep 7 = .ok (.imul, 1) := by decide +kernel
theorem dX12_keep_8 : decode cX12_keep 8 = .ok (.iload_n 2, 1) := by decide +kernel
theorem dX12_keep_9 : decode cX12_keep 9 = .ok (.iadd, 1) := by decide +kernel
theorem dX12_keep_10 : decode cX12_keep 10 = .ok (.aload_n 0, 1) := by decide +kernel
theorem dX12_keep_11 : decode cX12_keep 11 = .ok (.getfield 95, 3) := by decide +kernel
theorem dX12_keep_14 : decode cX12_keep 14 = .ok (.iload_n 1, 1) := by decide +kernel
theorem dX12_keep_15 : decode cX12_keep 15 = .ok (.iaload, 1) := by decide +kernel
theorem dX12_keep_16 : decode cX12_keep 16 = .ok (.ifCond .ne 8, 3) := by decide +kernel
theorem dX12_keep_19 : decode cX12_keep 19 = .ok (.iload_n 3, 1) := by decide +kernel
theorem dX12_keep_20 : decode cX12_keep 20 = .ok (.i2b, 1) := by decide +kernel
theorem dX12_keep_21 : decode cX12_keep 21 = .ok (.goto 19, 3) := by decide +kernel
theorem dX12_keep_24 : decode cX12_keep 24 = .ok (.aload_n 0, 1) := by decide +kernel
theorem dX12_keep_25 : decode cX12_keep 25 = .ok (.getfield 95, 3) := by decide +kernel
theorem dX12_keep_28 : decode cX12_keep 28 = .ok (.iload_n 1, 1) := by decide +kernel
theorem dX12_keep_29 : decode cX12_keep 29 = .ok (.iaload, 1) := by decide +kernel
theorem dX12_keep_30 : decode cX12_keep 30 = .ok (.iconst 1, 1) := by decide +kernel
theorem dX12_keep_31 : decode cX12_keep 31 = .ok (.if_icmp .ne 8, 3) := by decide +kernel
theorem dX12_keep_34 : decode cX12_keep 34 = .ok (.iload_n 3, 1) := by decide +kernel
theorem dX12_keep_35 : decode cX12_keep 35 = .ok (.i2s, 1) := by decide +kernel
theorem dX12_keep_36 : decode cX12_keep 36 = .ok (.goto 4, 3) := by decide +kernel
theorem dX12_keep_39 : decode cX12_keep 39 = .ok (.iload_n 3, 1) := by decide +kernel
theorem dX12_keep_40 : decode cX12_keep 40 = .ok (.iastore, 1) := by decide +kernel
theorem dX12_keep_41 : decode cX12_keep 41 = .ok (.return_, 1) := by decide +kernel
theorem dX12_put_0 : decode cX12_put 0 = .ok (.iload_n 1, 1) := by decide +kernel
theorem dX12_put_1 : decode cX12_put 1 = .ok (.invokestatic 129, 3) := by decide +kernel
theorem dX12_put_4 : decode cX12_put 4 = .ok (.ifCond .eq 12, 3) := by decide +kernel
theorem dX12_put_7 : decode cX12_put 7 = .ok (.iload_n 2, 1) := by decide +kernel
theorem dX12_put_8 : decode cX12_put 8 = .ok (.iconst 0, 1) := by decide +kernel
theorem dX12_put_9 : decode cX12_put 9 = .ok (.iconst 2, 1) := by decide +kernel
theorem dX12_put_10 : decode cX12_put 10 = .ok (.invokestatic 107, 3) := by decide +kernel
theorem dX12_put_13 : decode cX12_put 13 = .ok (.ifCond .ne 6, 3) := by decide +kernel
theorem dX12_put_16 : decode cX12_put 16 = .ok (.bipush (-2), 2) := by decide +kernel
theorem dX12_put_18 : decode cX12_put 18 = .ok (.ireturn, 1) := by decide +kernel
theorem dX12_put_19 : decode cX12_put 19 = .ok (.aload_n 0, 1) := by decide +kernel
theorem dX12_put_20 : decode cX12_put 20 = .ok (.iload_n 1, 1) := by decide +kernel
theorem dX12_put_21 : decode cX12_put 21 = .ok (.iload_n 2, 1) := by decide +kernel
theorem dX12_put_22 : decode cX12_put 22 = .ok (.iload_n 3, 1) := by decide +kernel
theorem dX12_put_23 : decode cX12_put 23 = .ok (.invokevirtual 334, 3) := by decide +kernel
theorem dX12_put_26 : decode cX12_put 26 = .ok (.istore 5, 2) := by decide +kernel
theorem dX12_put_28 : decode cX12_put 28 = .ok (.iload 5, 2) := by decide +kernel
theorem dX12_put_30 : decode cX12_put 30 = .ok (.ifCond .le 10, 3) := by decide +kernel
theorem dX12_put_33 : decode cX12_put 33 = .ok (.aload_n 0, 1) := by decide +kernel
theorem dX12_put_34 : decode cX12_put 34 = .ok (.iload 5, 2) := by decide +kernel
theorem dX12_put_36 : decode cX12_put 36 = .ok (.invokevirtual 132, 3) := by decide +kernel
theorem dX12_put_39 : decode cX12_put 39 = .ok (.ireturn, 1) := by decide +kernel
theorem dX12_put_40 : decode cX12_put 40 = .ok (.aload_n 0, 1) := by decide +kernel
theorem dX12_put_41 : decode cX12_put 41 = .ok (.iload_n 1, 1) := by decide +kernel
theorem dX12_put_42 : decode cX12_put 42 = .ok (.iload_n 3, 1) := by decide +kernel
theorem dX12_put_43 : decode cX12_put 43 = .ok (.iload 4, 2) := by decide +kernel
theorem dX12_put_45 : decode cX12_put 45 = .ok (.invokevirtual 337, 3) := by decide +kernel
theorem dX12_put_48 : decode cX12_put 48 = .ok (.iconst 1, 1) := by decide +kernel
theorem dX12_put_49 : decode cX12_put 49 = .ok (.ireturn, 1) := by decide +kernel
theorem dX12_get_0 : decode cX12_get 0 = .ok (.iload_n 1, 1) := by decide +kernel
theorem dX12_get_1 : decode cX12_get 1 = .ok (.invokestatic 129, 3) := by decide +kernel
theorem dX12_get_4 : decode cX12_get 4 = .ok (.ifCond .eq 12, 3) := by decide +kernel
theorem dX12_get_7 : decode cX12_get 7 = .ok (.iload_n 2, 1) := by decide +kernel
theorem dX12_get_8 : decode cX12_get 8 = .ok (.iconst 0, 1) := by decide +kernel
theorem dX12_get_9 : decode cX12_get 9 = .ok (.iconst 2, 1) := by decide +kernel
theorem dX12_get_10 : decode cX12_get 10 = .ok (.invokestatic 107, 3) := by decide +kernel
theorem dX12_get_13 : decode cX12_get 13 = .ok (.ifCond .ne 7, 3) := by decide +kernel
theorem dX12_get_16 : decode cX12_get 16 = .ok (.ldc_w 340, 3) := by decide +kernel
theorem dX12_get_19 : decode cX12_get 19 = .ok (.ireturn, 1) := by decide +kernel
theorem dX12_get_20 : decode cX12_get 20 = .ok (.aload_n 0, 1) := by decide +kernel
theorem dX12_get_21 : decode cX12_get 21 = .ok (.iload_n 1, 1) := by decide +kernel
theorem dX12_get_22 : decode cX12_get 22 = .ok (.iload_n 2, 1) := by decide +kernel
theorem dX12_get_23 : decode cX12_get 23 = .ok (.iload_n 3, 1) := by decide +kernel
theorem dX12_get_24 : decode cX12_get 24 = .ok (.invokevirtual 334, 3) := by decide +kernel
theorem dX12_get_27 : decode cX12_get 27 = .ok (.istore 4, 2) := by decide +kernel
theorem dX12_get_29 : decode cX12_get 29 = .ok (.iload 4, 2) := by decide +kernel
theorem dX12_get_31 : decode cX12_get 31 = .ok (.ifCond .le 13, 3) := by decide +kernel
theorem dX12_get_34 : decode cX12_get 34 = .ok (.aload_n 0, 1) := by decide +kernel
theorem dX12_get_35 : decode cX12_get 35 = .ok (.iload 4, 2) := by decide +kernel
theorem dX12_get_37 : decode cX12_get 37 = .ok (.putfield 331, 3) := by decide +kernel
theorem dX12_get_40 : decode cX12_get 40 = .ok (.ldc_w 340, 3) := by decide +kernel
theorem dX12_get_43 : decode cX12_get 43 = .ok (.ireturn, 1) := by decide +kernel
theorem dX12_get_44 : decode cX12_get 44 = .ok (.aload_n 0, 1) := by decide +kernel
theorem dX12_get_45 : decode cX12_get 45 = .ok (.getfield 101, 3) := by decide +kernel
theorem dX12_get_48 : decode cX12_get 48 = .ok (.bipush 60, 2) := by decide +kernel
theorem dX12_get_50 : decode cX12_get 50 = .ok (.iload_n 1, 1) := by decide +kernel
theorem dX12_get_51 : decode cX12_get 51 = .ok (.imul, 1) := by decide +kernel
theorem dX12_get_52 : decode cX12_get 52 = .ok (.iload_n 3, 1) := by decide +kernel
theorem dX12_get_53 : decode cX12_get 53 = .ok (.iadd, 1) := by decide +kernel
theorem dX12_get_54 : decode cX12_get 54 = .ok (.iaload, 1) := by decide +kernel
theorem dX12_get_55 : decode cX12_get 55 = .ok (.ireturn, 1) := by decide +kernel
theorem dX12_copy_0 : decode cX12_copy 0 = .ok (.iload_n 1, 1) := by decide +kernel
theorem dX12_copy_1 : decode cX12_copy 1 = .ok (.invokestatic 129, 3) := by decide +kernel
theorem dX12_copy_4 : decode cX12_copy 4 = .ok (.ifCond .eq 10, 3) := by decide +kernel
theorem dX12_copy_7 : decode cX12_copy 7 = .ok (.iload_n 3, 1) := by decide +kernel
theorem dX12_copy_8 : decode cX12_copy 8 = .ok (.invokestatic 129, 3) := by decide +kernel
theorem dX12_copy_11 : decode cX12_copy 11 = .ok (.ifCond .ne 6, 3) := by decide +kernel
theorem dX12_copy_14 : decode cX12_copy 14 = .ok (.bipush (-2), 2) := by decide +kernel
theorem dX12_copy_16 : decode cX12_copy 16 = .ok (.ireturn, 1) := by decide +kernel
theorem dX12_copy_17 : decode cX12_copy 17 = .ok (.aload_n 0, 1) := by decide +kernel
theorem dX12_copy_18 : decode cX12_copy 18 = .ok (.getfield 91, 3) := by decide +kernel
theorem dX12_copy_21 : decode cX12_copy 21 = .ok (.iload_n 1, 1) := by decide +kernel
theorem dX12_copy_22 : decode cX12_copy 22 = .ok (.baload, 1) := by decide +kernel
theorem dX12_copy_23 : decode cX12_copy 23 = .ok (.ifCond .eq 12, 3) := by decide +kernel
theorem dX12_copy_26 : decode cX12_copy 26 = .ok (.aload_n 0, 1) := by decide +kernel
theorem dX12_copy_27 : decode cX12_copy 27 = .ok (.getfield 91, 3) := by decide +kernel
theorem dX12_copy_30 : decode cX12_copy 30 = .ok (.iload_n 3, 1) := by decide +kernel
theorem dX12_copy_31 : decode cX12_copy 31 = .ok (.baload, 1) := by decide +kernel
theorem dX12_copy_32 : decode cX12_copy 32 = .ok (.ifCond .ne 9, 3) := by decide +kernel
theorem dX12_copy_35 : decode cX12_copy 35 = .ok (.aload_n 0, 1) := by decide +kernel
theorem dX12_copy_36 : decode cX12_copy 36 = .ok (.iconst 1, 1) := by decide +kernel
theorem dX12_copy_37 : decode cX12_copy 37 = .ok (.invokevirtual 132, 3) := by decide +kernel
theorem dX12_copy_40 : decode cX12_copy 40 = .ok (.ireturn, 1) := by decide +kernel
theorem dX12_copy_41 : decode cX12_copy 41 = .ok (.aload_n 0, 1) := by decide +kernel
theorem dX12_copy_42 : decode cX12_copy 42 = .ok (.getfield 95, 3) := by decide +kernel
theorem dX12_copy_45 : decode cX12_copy 45 = .ok (.iload_n 1, 1) := by decide +kernel
theorem dX12_copy_46 : decode cX12_copy 46 = .ok (.iaload, 1) := by decide +kernel
theorem dX12_copy_47 : decode cX12_copy 47 = .ok (.aload_n 0, 1) := by decide +kernel
theorem dX12_copy_48 : decode cX12_copy 48 = .ok (.getfield 95, 3) := by decide +kernel
theorem dX12_copy_51 : decode cX12_copy 51 = .ok (.iload_n 3, 1) := by decide +kernel
theorem dX12_copy_52 : decode cX12_copy 52 = .ok (.iaload, 1) := by decide +kernel
theorem dX12_copy_53 : decode cX12_copy 53 = .ok (.if_icmp .eq 9, 3) := by decide +kernel
theorem dX12_copy_56 : decode cX12_copy 56 = .ok (.aload_n 0, 1) := by decide +kernel
theorem dX12_copy_57 : decode cX12_copy 57 = .ok (.iconst 4, 1) := by decide +kernel
theorem dX12_copy_58 : decode cX12_copy 58 = .ok (.invokevirtual 132, 3) := by decide +kernel
theorem dX12_copy_61 : decode cX12_copy 61 = .ok (.ireturn, 1) := by decide +kernel
theorem dX12_copy_62 : decode cX12_copy 62 = .ok (.iload_n 2, 1) := by decide +kernel
theorem dX12_copy_63 : decode cX12_copy 63 = .ok (.ifCond .lt 48, 3) := by decide +kernel
theorem dX12_copy_66 : decode cX12_copy 66 = .ok (.iload 4, 2) := by decide +kernel
theorem dX12_copy_68 : decode cX12_copy 68 = .ok (.ifCond .lt 43, 3) := by decide +kernel
theorem dX12_copy_71 : decode cX12_copy 71 = .ok (.iload 5, 2) := by decide +kernel
theorem dX12_copy_73 : decode cX12_copy 73 = .ok (.ifCond .lt 38, 3) := by decide +kernel
theorem dX12_copy_76 : decode cX12_copy 76 = .ok (.iload_n 2, 1) := by decide +kernel
theorem dX12_copy_77 : decode cX12_copy 77 = .ok (.i2l, 1) := by decide +kernel
theorem dX12_copy_78 : decode cX12_copy 78 = .ok (.iload 5, 2) := by decide +kernel
theorem dX12_copy_80 : decode cX12_copy 80 = .ok (.i2l, 1) := by decide +kernel
theorem dX12_copy_81 : decode cX12_copy 81 = .ok (.ladd, 1) := by decide +kernel
theorem dX12_copy_82 : decode cX12_copy 82 = .ok (.aload_n 0, 1) := by decide +kernel
theorem dX12_copy_83 : decode cX12_copy 83 = .ok (.getfield 98, 3) := by decide +kernel
theorem dX12_copy_86 : decode cX12_copy 86 = .ok (.iload_n 1, 1) := by decide +kernel
theorem dX12_copy_87 : decode cX12_copy 87 = .ok (.iaload, 1) := by decide +kernel
theorem dX12_copy_88 : decode cX12_copy 88 = .ok (.i2l, 1) := by decide +kernel
theorem dX12_copy_89 : decode cX12_copy 89 = .ok (.lcmp, 1) := by decide +kernel
theorem dX12_copy_90 : decode cX12_copy 90 = .ok (.ifCond .gt 21, 3) := by decide +kernel
theorem dX12_copy_93 : decode cX12_copy 93 = .ok (.iload 4, 2) := by decide +kernel
theorem dX12_copy_95 : decode cX12_copy 95 = .ok (.i2l, 1) := by decide +kernel
theorem dX12_copy_96 : decode cX12_copy 96 = .ok (.iload 5, 2) := by decide +kernel
theorem dX12_copy_98 : decode cX12_copy 98 = .ok (.i2l, 1) := by decide +kernel
theorem dX12_copy_99 : decode cX12_copy 99 = .ok (.ladd, 1) := by decide +kernel
theorem dX12_copy_100 : decode cX12_copy 100 = .ok (.aload_n 0, 1) := by decide +kernel
theorem dX12_copy_101 : decode cX12_copy 101 = .ok (.getfield 98, 3) := by decide +kernel
theorem dX12_copy_104 : decode cX12_copy 104 = .ok (.iload_n 3, 1) := by decide +kernel
theorem dX12_copy_105 : decode cX12_copy 105 = .ok (.iaload, 1) := by decide +kernel
theorem dX12_copy_106 : decode cX12_copy 106 = .ok (.i2l, 1) := by decide +kernel
theorem dX12_copy_107 : decode cX12_copy 107 = .ok (.lcmp, 1) := by decide +kernel
theorem dX12_copy_108 : decode cX12_copy 108 = .ok (.ifCond .le 9, 3) := by decide +kernel
theorem dX12_copy_111 : decode cX12_copy 111 = .ok (.aload_n 0, 1) := by decide +kernel
theorem dX12_copy_112 : decode cX12_copy 112 = .ok (.iconst 2, 1) := by decide +kernel
theorem dX12_copy_113 : decode cX12_copy 113 = .ok (.invokevirtual 132, 3) := by decide +kernel
theorem dX12_copy_116 : decode cX12_copy 116 = .ok (.ireturn, 1) := by decide +kernel
theorem dX12_copy_117 : decode cX12_copy 117 = .ok (.iconst 0, 1) := by decide +kernel
theorem dX12_copy_118 : decode cX12_copy 118 = .ok (.istore 6, 2) := by decide +kernel
theorem dX12_copy_120 : decode cX12_copy 120 = .ok (.iload 6, 2) := by decide +kernel
theorem dX12_copy_122 : decode cX12_copy 122 = .ok (.iload 5, 2) := by decide +kernel
theorem dX12_copy_124 : decode cX12_copy 124 = .ok (.if_icmp .ge 30, 3) := by decide +kernel
theorem dX12_copy_127 : decode cX12_copy 127 = .ok (.aload_n 0, 1) := by decide +kernel
theorem dX12_copy_128 : decode cX12_copy 128 = .ok (.getfield 104, 3) := by decide +kernel
theorem dX12_copy_131 : decode cX12_copy 131 = .ok (.iload 6, 2) := by decide +kernel
theorem dX12_copy_133 : decode cX12_copy 133 = .ok (.aload_n 0, 1) := by decide +kernel
theorem dX12_copy_134 : decode cX12_copy 134 = .ok (.getfield 101, 3) := by decide +kernel
theorem dX12_copy_137 : decode cX12_copy 137 = .ok (.bipush 60, 2) := by decide +kernel
theorem dX12_copy_139 : decode cX12_copy 139 = .ok (.iload_n 1, 1) := by decide +kernel
theorem dX12_copy_140 : decode cX12_copy 140 = .ok (.imul, 1) := by decide +kernel
theorem dX12_copy_141 : decode cX12_copy 141 = .ok (.iload_n 2, 1) := by decide +kernel
theorem dX12_copy_142 : decode cX12_copy 142 = .ok (.iadd, 1) := by decide +kernel
theorem dX12_copy_143 : decode cX12_copy 143 = .ok (.iload 6, 2) := by decide +kernel
theorem dX12_copy_145 : decode cX12_copy 145 = .ok (.iadd, 1) := by decide +kernel
theorem dX12_copy_146 : decode cX12_copy 146 = .ok (.iaload, 1) := by decide +kernel
theorem dX12_copy_147 : decode cX12_copy 147 = .ok (.iastore, 1) := by decide +kernel
theorem dX12_copy_148 : decode cX12_copy 148 = .ok (.iinc 6 1, 3) := by decide +kernel
theorem dX12_copy_151 : decode cX12_copy 151 = .ok (.goto (-31), 3) := by decide +kernel
theorem dX12_copy_154 : decode cX12_copy 154 = .ok (.iconst 0, 1) := by decide +kernel
theorem dX12_copy_155 : decode cX12_copy 155 = .ok (.istore 6, 2) := by decide +kernel
theorem dX12_copy_157 : decode cX12_copy 157 = .ok (.iload 6, 2) := by decide +kernel
theorem dX12_copy_159 : decode cX12_copy 159 = .ok (.iload 5, 2) := by decide +kernel
theorem dX12_copy_161 : decode cX12_copy 161 = .ok (.if_icmp .ge 31, 3) := by decide +kernel
theorem dX12_copy_164 : decode cX12_copy 164 = .ok (.aload_n 0, 1) := by decide +kernel
theorem dX12_copy_165 : decode cX12_copy 165 = .ok (.getfield 101, 3) := by decide +kernel
theorem dX12_copy_168 : decode cX12_copy 168 = .ok (.bipush 60, 2) := by decide +kernel
theorem dX12_copy_170 : decode cX12_copy 170 = .ok (.iload_n 3, 1) := by decide +kernel
theorem dX12_copy_171 : decode cX12_copy 171 = .ok (.imul, 1) := by decide +kernel
theorem dX12_copy_172 : decode cX12_copy 172 = .ok (.iload 4, 2) := by decide +kernel
theorem dX12_copy_174 : decode cX12_copy 174 = .ok (.iadd, 1) := by decide +kernel
theorem dX12_copy_175 : decode cX12_copy 175 = .ok (.iload 6, 2) := by decide +kernel
theorem dX12_copy_177 : decode cX12_copy 177 = .ok (.iadd, 1) := by decide +kernel
theorem dX12_copy_178 : decode cX12_copy 178 = .ok (.aload_n 0, 1) := by decide +kernel
theorem dX12_copy_179 : decode cX12_copy 179 = .ok (.getfield 104, 3) := by decide +kernel
theorem dX12_copy_182 : decode cX12_copy 182 = .ok (.iload 6, 2) := by decide +kernel
theorem dX12_copy_184 : decode cX12_copy 184 = .ok (.iaload, 1) := by decide +kernel
theorem dX12_copy_185 : decode cX12_copy 185 = .ok (.iastore, 1) := by decide +kernel
theorem dX12_copy_186 : decode cX12_copy 186 = .ok (.iinc 6 1, 3) := by decide +kernel
theorem dX12_copy_189 : decode cX12_copy 189 = .ok (.goto (-32), 3) := by decide +kernel
theorem dX12_copy_192 : decode cX12_copy 192 = .ok (.iconst 1, 1) := by decide +kernel
theorem dX12_copy_193 : decode cX12_copy 193 = .ok (.ireturn, 1) := by decide +kernel
theorem dX12_write_0 : decode cX12_write 0 = .ok (.iload_n 1, 1) := by decide +kernel
theorem dX12_write_1 : decode cX12_write 1 = .ok (.invokestatic 165, 3) := by decide +kernel
theorem dX12_write_4 : decode cX12_write 4 = .ok (.ifCond .eq 10, 3) := by decide +kernel
theorem dX12_write_7 : decode cX12_write 7 = .ok (.iload_n 2, 1) := by decide +kernel
theorem dX12_write_8 : decode cX12_write 8 = .ok (.invokestatic 129, 3) := by decide +kernel
theorem dX12_write_11 : decode cX12_write 11 = .ok (.ifCond .ne 6, 3) := by decide +kernel
theorem dX12_write_14 : decode cX12_write 14 = .ok (.bipush (-2), 2) := by decide +kernel
theorem dX12_write_16 : decode cX12_write 16 = .ok (.ireturn, 1) := by decide +kernel
theorem dX12_write_17 : decode cX12_write 17 = .ok (.aload_n 0, 1) := by decide +kernel
theorem dX12_write_18 : decode cX12_write 18 = .ok (.getfield 91, 3) := by decide +kernel
theorem dX12_write_21 : decode cX12_write 21 = .ok (.iload_n 2, 1) := by decide +kernel
theorem dX12_write_22 : decode cX12_write 22 = .ok (.baload, 1) := by decide +kernel
theorem dX12_write_23 : decode cX12_write 23 = .ok (.ifCond .ne 9, 3) := by decide +kernel
theorem dX12_write_26 : decode cX12_write 26 = .ok (.aload_n 0, 1) := by decide +kernel
theorem dX12_write_27 : decode cX12_write 27 = .ok (.iconst 1, 1) := by decide +kernel
theorem dX12_write_28 : decode cX12_write 28 = .ok (.invokevirtual 132, 3) := by decide +kernel
theorem dX12_write_31 : decode cX12_write 31 = .ok (.ireturn, 1) := by decide +kernel
theorem dX12_write_32 : decode cX12_write 32 = .ok (.aload_n 0, 1) := by decide +kernel
theorem dX12_write_33 : decode cX12_write 33 = .ok (.invokevirtual 292, 3) := by decide +kernel
theorem dX12_write_36 : decode cX12_write 36 = .ok (.aload_n 0, 1) := by decide +kernel
theorem dX12_write_37 : decode cX12_write 37 = .ok (.getfield 34, 3) := by decide +kernel
theorem dX12_write_40 : decode cX12_write 40 = .ok (.iload_n 1, 1) := by decide +kernel
theorem dX12_write_41 : decode cX12_write 41 = .ok (.iaload, 1) := by decide +kernel
theorem dX12_write_42 : decode cX12_write 42 = .ok (.iconst (-1), 1) := by decide +kernel
theorem dX12_write_43 : decode cX12_write 43 = .ok (.if_icmp .eq 6, 3) := by decide +kernel
theorem dX12_write_46 : decode cX12_write 46 = .ok (.bipush (-3), 2) := by decide +kernel
theorem dX12_write_48 : decode cX12_write 48 = .ok (.ireturn, 1) := by decide +kernel
theorem dX12_write_49 : decode cX12_write 49 = .ok (.iconst 0, 1) := by decide +kernel
theorem dX12_write_50 : decode cX12_write 50 = .ok (.istore_n 3, 1) := by decide +kernel
theorem dX12_write_51 : decode cX12_write 51 = .ok (.iload_n 3, 1) := by decide +kernel
theorem dX12_write_52 : decode cX12_write 52 = .ok (.aload_n 0, 1) := by decide +kernel
theorem dX12_write_53 : decode cX12_write 53 = .ok (.getfield 98, 3) := by decide +kernel
theorem dX12_write_56 : decode cX12_write 56 = .ok (.iload_n 2, 1) := by decide +kernel
theorem dX12_write_57 : decode cX12_write 57 = .ok (.iaload, 1) := by decide +kernel
theorem dX12_write_58 : decode cX12_write 58 = .ok (.if_icmp .ge 36, 3) := by decide +kernel
theorem dX12_write_61 : decode cX12_write 61 = .ok (.iload_n 3, 1) := by decide +kernel
theorem dX12_write_62 : decode cX12_write 62 = .ok (.aload_n 0, 1) := by decide +kernel
theorem dX12_write_63 : decode cX12_write 63 = .ok (.getfield 19, 3) := by decide +kernel
theorem dX12_write_66 : decode cX12_write 66 = .ok (.iconst 0, 1) := by decide +kernel
theorem dX12_write_67 : decode cX12_write 67 = .ok (.iaload, 1) := by decide +kernel
theorem dX12_write_68 : decode cX12_write 68 = .ok (.if_icmp .ge 26, 3) := by decide +kernel
theorem dX12_write_71 : decode cX12_write 71 = .ok (.aload_n 0, 1) := by decide +kernel
theorem dX12_write_72 : decode cX12_write 72 = .ok (.iload_n 2, 1) := by decide +kernel
theorem dX12_write_73 : decode cX12_write 73 = .ok (.iload_n 3, 1) := by decide +kernel
theorem dX12_write_74 : decode cX12_write 74 = .ok (.aload_n 0, 1) := by decide +kernel
theorem dX12_write_75 : decode cX12_write 75 = .ok (.getfield 37, 3) := by decide +kernel
theorem dX12_write_78 : decode cX12_write 78 = .ok (.bipush 10, 2) := by decide +kernel
theorem dX12_write_80 : decode cX12_write 80 = .ok (.iload_n 1, 1) := by decide +kernel
theorem dX12_write_81 : decode cX12_write 81 = .ok (.imul, 1) := by decide +kernel
theorem dX12_write_82 : decode cX12_write 82 = .ok (.iload_n 3, 1) := by decide +kernel
theorem dX12_write_83 : decode cX12_write 83 = .ok (.iadd, 1) := by decide +kernel
theorem dX12_write_84 : decode cX12_write 84 = .ok (.iaload, 1) := by decide +kernel
theorem dX12_write_85 : decode cX12_write 85 = .ok (.invokevirtual 337, 3) := by decide +kernel
theorem dX12_write_88 : decode cX12_write 88 = .ok (.iinc 3 1, 3) := by decide +kernel
theorem dX12_write_91 : decode cX12_write 91 = .ok (.goto (-40), 3) := by decide +kernel
theorem dX12_write_94 : decode cX12_write 94 = .ok (.iload_n 3, 1) := by decide +kernel
theorem dX12_write_95 : decode cX12_write 95 = .ok (.ireturn, 1) := by decide +kernel
theorem dX12_tellOf_0 : decode cX12_tellOf 0 = .ok (.aload_n 0, 1) := by decide +kernel
theorem dX12_tellOf_1 : decode cX12_tellOf 1 = .ok (.invokevirtual 292, 3) := by decide +kernel
theorem dX12_tellOf_4 : decode cX12_tellOf 4 = .ok (.iload_n 1, 1) := by decide +kernel
theorem dX12_tellOf_5 : decode cX12_tellOf 5 = .ok (.iconst 2, 1) := by decide +kernel
theorem dX12_tellOf_6 : decode cX12_tellOf 6 = .ok (.if_icmp .ge 12, 3) := by decide +kernel
theorem dX12_tellOf_9 : decode cX12_tellOf 9 = .ok (.aload_n 0, 1) := by decide +kernel
theorem dX12_tellOf_10 : decode cX12_tellOf 10 = .ok (.getfield 19, 3) := by decide +kernel
theorem dX12_tellOf_13 : decode cX12_tellOf 13 = .ok (.iload_n 1, 1) := by decide +kernel
theorem dX12_tellOf_14 : decode cX12_tellOf 14 = .ok (.iaload, 1) := by decide +kernel
theorem dX12_tellOf_15 : decode cX12_tellOf 15 = .ok (.goto 31, 3) := by decide +kernel
end
section
theorem dX12_tellOf_18 : decode cX12_tellOf 18 = .ok (.iload_n 1, 1) := by decide +kernel
theorem dX12_tellOf_19 : decode cX12_tellOf 19 = .ok (.iconst 2, 1) := by decide +kernel
theorem dX12_tellOf_20 : decode cX12_tellOf 20 = .ok (.if_icmp .ne 10, 3) := by decide +kernel
theorem dX12_tellOf_23 : decode cX12_tellOf 23 = .ok (.aload_n 0, 1) := by decide +kernel
theorem dX12_tellOf_24 : decode cX12_tellOf 24 = .ok (.getfield 145, 3) := by decide +kernel
theorem dX12_tellOf_27 : decode cX12_tellOf 27 = .ok (.goto 19, 3) := by decide +kernel
theorem dX12_tellOf_30 : decode cX12_tellOf 30 = .ok (.iload_n 1, 1) := by decide +kernel
theorem dX12_tellOf_31 : decode cX12_tellOf 31 = .ok (.iconst 5, 1) := by decide +kernel
theorem dX12_tellOf_32 : decode cX12_tellOf 32 = .ok (.if_icmp .ne 10, 3) := by decide +kernel
theorem dX12_tellOf_35 : decode cX12_tellOf 35 = .ok (.aload_n 0, 1) := by decide +kernel
theorem dX12_tellOf_36 : decode cX12_tellOf 36 = .ok (.getfield 244, 3) := by decide +kernel
theorem dX12_tellOf_39 : decode cX12_tellOf 39 = .ok (.goto 7, 3) := by decide +kernel
theorem dX12_tellOf_42 : decode cX12_tellOf 42 = .ok (.aload_n 0, 1) := by decide +kernel
theorem dX12_tellOf_43 : decode cX12_tellOf 43 = .ok (.getfield 261, 3) := by decide +kernel
theorem dX12_tellOf_46 : decode cX12_tellOf 46 = .ok (.ireturn, 1) := by decide +kernel
theorem dX12_count_0 : decode cX12_count 0 = .ok (.iload_n 1, 1) := by decide +kernel
theorem dX12_count_1 : decode cX12_count 1 = .ok (.tableswitch 95 0 8 #[51, 51, 51, 57, 62, 51, 51, 83, 90], 51) := by decide +kernel
theorem dX12_count_52 : decode cX12_count 52 = .ok (.aload_n 0, 1) := by decide +kernel
theorem dX12_count_53 : decode cX12_count 53 = .ok (.iload_n 1, 1) := by decide +kernel
theorem dX12_count_54 : decode cX12_count 54 = .ok (.invokevirtual 341, 3) := by decide +kernel
theorem dX12_count_57 : decode cX12_count 57 = .ok (.ireturn, 1) := by decide +kernel
theorem dX12_count_58 : decode cX12_count 58 = .ok (.aload_n 0, 1) := by decide +kernel
theorem dX12_count_59 : decode cX12_count 59 = .ok (.getfield 175, 3) := by decide +kernel
theorem dX12_count_62 : decode cX12_count 62 = .ok (.ireturn, 1) := by decide +kernel
theorem dX12_count_63 : decode cX12_count 63 = .ok (.aload_n 0, 1) := by decide +kernel
theorem dX12_count_64 : decode cX12_count 64 = .ok (.getfield 7, 3) := by decide +kernel
theorem dX12_count_67 : decode cX12_count 67 = .ok (.iconst 0, 1) := by decide +kernel
theorem dX12_count_68 : decode cX12_count 68 = .ok (.iaload, 1) := by decide +kernel
theorem dX12_count_69 : decode cX12_count 69 = .ok (.aload_n 0, 1) := by decide +kernel
theorem dX12_count_70 : decode cX12_count 70 = .ok (.getfield 7, 3) := by decide +kernel
theorem dX12_count_73 : decode cX12_count 73 = .ok (.iconst 1, 1) := by decide +kernel
theorem dX12_count_74 : decode cX12_count 74 = .ok (.iaload, 1) := by decide +kernel
theorem dX12_count_75 : decode cX12_count 75 = .ok (.iadd, 1) := by decide +kernel
theorem dX12_count_76 : decode cX12_count 76 = .ok (.aload_n 0, 1) := by decide +kernel
theorem dX12_count_77 : decode cX12_count 77 = .ok (.getfield 7, 3) := by decide +kernel
theorem dX12_count_80 : decode cX12_count 80 = .ok (.iconst 2, 1) := by decide +kernel
theorem dX12_count_81 : decode cX12_count 81 = .ok (.iaload, 1) := by decide +kernel
theorem dX12_count_82 : decode cX12_count 82 = .ok (.iadd, 1) := by decide +kernel
theorem dX12_count_83 : decode cX12_count 83 = .ok (.ireturn, 1) := by decide +kernel
theorem dX12_count_84 : decode cX12_count 84 = .ok (.aload_n 0, 1) := by decide +kernel
theorem dX12_count_85 : decode cX12_count 85 = .ok (.iconst 0, 1) := by decide +kernel
theorem dX12_count_86 : decode cX12_count 86 = .ok (.iconst 0, 1) := by decide +kernel
theorem dX12_count_87 : decode cX12_count 87 = .ok (.invokevirtual 322, 3) := by decide +kernel
theorem dX12_count_90 : decode cX12_count 90 = .ok (.ireturn, 1) := by decide +kernel
theorem dX12_count_91 : decode cX12_count 91 = .ok (.aload_n 0, 1) := by decide +kernel
theorem dX12_count_92 : decode cX12_count 92 = .ok (.getfield 331, 3) := by decide +kernel
theorem dX12_count_95 : decode cX12_count 95 = .ok (.ireturn, 1) := by decide +kernel
theorem dX12_count_96 : decode cX12_count 96 = .ok (.bipush (-2), 2) := by decide +kernel
theorem dX12_count_98 : decode cX12_count 98 = .ok (.ireturn, 1) := by decide +kernel
theorem dX12_answerDigest_0 : decode cX12_answerDigest 0 = .ok (.ldc2_w 344, 3) := by decide +kernel
theorem dX12_answerDigest_3 : decode cX12_answerDigest 3 = .ok (.lload_n 1, 1) := by decide +kernel
theorem dX12_answerDigest_4 : decode cX12_answerDigest 4 = .ok (.lmul, 1) := by decide +kernel
theorem dX12_answerDigest_5 : decode cX12_answerDigest 5 = .ok (.aload_n 0, 1) := by decide +kernel
theorem dX12_answerDigest_6 : decode cX12_answerDigest 6 = .ok (.getfield 34, 3) := by decide +kernel
theorem dX12_answerDigest_9 : decode cX12_answerDigest 9 = .ok (.iload_n 3, 1) := by decide +kernel
theorem dX12_answerDigest_10 : decode cX12_answerDigest 10 = .ok (.iaload, 1) := by decide +kernel
theorem dX12_answerDigest_11 : decode cX12_answerDigest 11 = .ok (.i2l, 1) := by decide +kernel
theorem dX12_answerDigest_12 : decode cX12_answerDigest 12 = .ok (.ladd, 1) := by decide +kernel
theorem dX12_answerDigest_13 : decode cX12_answerDigest 13 = .ok (.lstore 4, 2) := by decide +kernel
theorem dX12_answerDigest_15 : decode cX12_answerDigest 15 = .ok (.iconst 0, 1) := by decide +kernel
theorem dX12_answerDigest_16 : decode cX12_answerDigest 16 = .ok (.istore 6, 2) := by decide +kernel
theorem dX12_answerDigest_18 : decode cX12_answerDigest 18 = .ok (.iload 6, 2) := by decide +kernel
theorem dX12_answerDigest_20 : decode cX12_answerDigest 20 = .ok (.aload_n 0, 1) := by decide +kernel
theorem dX12_answerDigest_21 : decode cX12_answerDigest 21 = .ok (.getfield 19, 3) := by decide +kernel
theorem dX12_answerDigest_24 : decode cX12_answerDigest 24 = .ok (.iconst 0, 1) := by decide +kernel
theorem dX12_answerDigest_25 : decode cX12_answerDigest 25 = .ok (.iaload, 1) := by decide +kernel
theorem dX12_answerDigest_26 : decode cX12_answerDigest 26 = .ok (.if_icmp .ge 26, 3) := by decide +kernel
theorem dX12_answerDigest_29 : decode cX12_answerDigest 29 = .ok (.ldc2_w 344, 3) := by decide +kernel
theorem dX12_answerDigest_32 : decode cX12_answerDigest 32 = .ok (.lload 4, 2) := by decide +kernel
theorem dX12_answerDigest_34 : decode cX12_answerDigest 34 = .ok (.lmul, 1) := by decide +kernel
theorem dX12_answerDigest_35 : decode cX12_answerDigest 35 = .ok (.aload_n 0, 1) := by decide +kernel
theorem dX12_answerDigest_36 : decode cX12_answerDigest 36 = .ok (.iload_n 3, 1) := by decide +kernel
theorem dX12_answerDigest_37 : decode cX12_answerDigest 37 = .ok (.iload 6, 2) := by decide +kernel
theorem dX12_answerDigest_39 : decode cX12_answerDigest 39 = .ok (.invokevirtual 298, 3) := by decide +kernel
theorem dX12_answerDigest_42 : decode cX12_answerDigest 42 = .ok (.i2l, 1) := by decide +kernel
theorem dX12_answerDigest_43 : decode cX12_answerDigest 43 = .ok (.ladd, 1) := by decide +kernel
theorem dX12_answerDigest_44 : decode cX12_answerDigest 44 = .ok (.lstore 4, 2) := by decide +kernel
theorem dX12_answerDigest_46 : decode cX12_answerDigest 46 = .ok (.iinc 6 1, 3) := by decide +kernel
theorem dX12_answerDigest_49 : decode cX12_answerDigest 49 = .ok (.goto (-31), 3) := by decide +kernel
theorem dX12_answerDigest_52 : decode cX12_answerDigest 52 = .ok (.lload 4, 2) := by decide +kernel
theorem dX12_answerDigest_54 : decode cX12_answerDigest 54 = .ok (.lreturn, 1) := by decide +kernel
theorem dX12_planDigest_0 : decode cX12_planDigest 0 = .ok (.aload_n 0, 1) := by decide +kernel
theorem dX12_planDigest_1 : decode cX12_planDigest 1 = .ok (.invokevirtual 292, 3) := by decide +kernel
theorem dX12_planDigest_4 : decode cX12_planDigest 4 = .ok (.aload_n 0, 1) := by decide +kernel
theorem dX12_planDigest_5 : decode cX12_planDigest 5 = .ok (.lload_n 1, 1) := by decide +kernel
theorem dX12_planDigest_6 : decode cX12_planDigest 6 = .ok (.iload_n 3, 1) := by decide +kernel
theorem dX12_planDigest_7 : decode cX12_planDigest 7 = .ok (.invokevirtual 346, 3) := by decide +kernel
theorem dX12_planDigest_10 : decode cX12_planDigest 10 = .ok (.lstore 4, 2) := by decide +kernel
theorem dX12_planDigest_12 : decode cX12_planDigest 12 = .ok (.iconst 0, 1) := by decide +kernel
theorem dX12_planDigest_13 : decode cX12_planDigest 13 = .ok (.istore 6, 2) := by decide +kernel
theorem dX12_planDigest_15 : decode cX12_planDigest 15 = .ok (.iload 6, 2) := by decide +kernel
theorem dX12_planDigest_17 : decode cX12_planDigest 17 = .ok (.iconst 5, 1) := by decide +kernel
theorem dX12_planDigest_18 : decode cX12_planDigest 18 = .ok (.if_icmp .ge 26, 3) := by decide +kernel
theorem dX12_planDigest_21 : decode cX12_planDigest 21 = .ok (.ldc2_w 344, 3) := by decide +kernel
theorem dX12_planDigest_24 : decode cX12_planDigest 24 = .ok (.lload 4, 2) := by decide +kernel
theorem dX12_planDigest_26 : decode cX12_planDigest 26 = .ok (.lmul, 1) := by decide +kernel
theorem dX12_planDigest_27 : decode cX12_planDigest 27 = .ok (.aload_n 0, 1) := by decide +kernel
theorem dX12_planDigest_28 : decode cX12_planDigest 28 = .ok (.iload_n 3, 1) := by decide +kernel
theorem dX12_planDigest_29 : decode cX12_planDigest 29 = .ok (.iload 6, 2) := by decide +kernel
theorem dX12_planDigest_31 : decode cX12_planDigest 31 = .ok (.invokevirtual 322, 3) := by decide +kernel
theorem dX12_planDigest_34 : decode cX12_planDigest 34 = .ok (.i2l, 1) := by decide +kernel
theorem dX12_planDigest_35 : decode cX12_planDigest 35 = .ok (.ladd, 1) := by decide +kernel
theorem dX12_planDigest_36 : decode cX12_planDigest 36 = .ok (.lstore 4, 2) := by decide +kernel
theorem dX12_planDigest_38 : decode cX12_planDigest 38 = .ok (.iinc 6 1, 3) := by decide +kernel
theorem dX12_planDigest_41 : decode cX12_planDigest 41 = .ok (.goto (-26), 3) := by decide +kernel
theorem dX12_planDigest_44 : decode cX12_planDigest 44 = .ok (.iconst 0, 1) := by decide +kernel
theorem dX12_planDigest_45 : decode cX12_planDigest 45 = .ok (.istore 6, 2) := by decide +kernel
theorem dX12_planDigest_47 : decode cX12_planDigest 47 = .ok (.iload 6, 2) := by decide +kernel
theorem dX12_planDigest_49 : decode cX12_planDigest 49 = .ok (.bipush 60, 2) := by decide +kernel
theorem dX12_planDigest_51 : decode cX12_planDigest 51 = .ok (.if_icmp .ge 26, 3) := by decide +kernel
theorem dX12_planDigest_54 : decode cX12_planDigest 54 = .ok (.ldc2_w 344, 3) := by decide +kernel
theorem dX12_planDigest_57 : decode cX12_planDigest 57 = .ok (.lload 4, 2) := by decide +kernel
theorem dX12_planDigest_59 : decode cX12_planDigest 59 = .ok (.lmul, 1) := by decide +kernel
theorem dX12_planDigest_60 : decode cX12_planDigest 60 = .ok (.aload_n 0, 1) := by decide +kernel
theorem dX12_planDigest_61 : decode cX12_planDigest 61 = .ok (.iload_n 3, 1) := by decide +kernel
theorem dX12_planDigest_62 : decode cX12_planDigest 62 = .ok (.iload 6, 2) := by decide +kernel
theorem dX12_planDigest_64 : decode cX12_planDigest 64 = .ok (.invokevirtual 325, 3) := by decide +kernel
theorem dX12_planDigest_67 : decode cX12_planDigest 67 = .ok (.i2l, 1) := by decide +kernel
theorem dX12_planDigest_68 : decode cX12_planDigest 68 = .ok (.ladd, 1) := by decide +kernel
theorem dX12_planDigest_69 : decode cX12_planDigest 69 = .ok (.lstore 4, 2) := by decide +kernel
theorem dX12_planDigest_71 : decode cX12_planDigest 71 = .ok (.iinc 6 1, 3) := by decide +kernel
theorem dX12_planDigest_74 : decode cX12_planDigest 74 = .ok (.goto (-27), 3) := by decide +kernel
theorem dX12_planDigest_77 : decode cX12_planDigest 77 = .ok (.lload 4, 2) := by decide +kernel
theorem dX12_planDigest_79 : decode cX12_planDigest 79 = .ok (.lreturn, 1) := by decide +kernel
theorem dX12_digest_0 : decode cX12_digest 0 = .ok (.ldc2_w 350, 3) := by decide +kernel
theorem dX12_digest_3 : decode cX12_digest 3 = .ok (.lstore_n 1, 1) := by decide +kernel
theorem dX12_digest_4 : decode cX12_digest 4 = .ok (.iconst 0, 1) := by decide +kernel
theorem dX12_digest_5 : decode cX12_digest 5 = .ok (.istore_n 3, 1) := by decide +kernel
theorem dX12_digest_6 : decode cX12_digest 6 = .ok (.iload_n 3, 1) := by decide +kernel
theorem dX12_digest_7 : decode cX12_digest 7 = .ok (.bipush 8, 2) := by decide +kernel
theorem dX12_digest_9 : decode cX12_digest 9 = .ok (.if_icmp .ge 22, 3) := by decide +kernel
theorem dX12_digest_12 : decode cX12_digest 12 = .ok (.ldc2_w 344, 3) := by decide +kernel
theorem dX12_digest_15 : decode cX12_digest 15 = .ok (.lload_n 1, 1) := by decide +kernel
theorem dX12_digest_16 : decode cX12_digest 16 = .ok (.lmul, 1) := by decide +kernel
theorem dX12_digest_17 : decode cX12_digest 17 = .ok (.aload_n 0, 1) := by decide +kernel
theorem dX12_digest_18 : decode cX12_digest 18 = .ok (.iload_n 3, 1) := by decide +kernel
theorem dX12_digest_19 : decode cX12_digest 19 = .ok (.invokevirtual 352, 3) := by decide +kernel
theorem dX12_digest_22 : decode cX12_digest 22 = .ok (.i2l, 1) := by decide +kernel
theorem dX12_digest_23 : decode cX12_digest 23 = .ok (.ladd, 1) := by decide +kernel
theorem dX12_digest_24 : decode cX12_digest 24 = .ok (.lstore_n 1, 1) := by decide +kernel
theorem dX12_digest_25 : decode cX12_digest 25 = .ok (.iinc 3 1, 3) := by decide +kernel
theorem dX12_digest_28 : decode cX12_digest 28 = .ok (.goto (-22), 3) := by decide +kernel
theorem dX12_digest_31 : decode cX12_digest 31 = .ok (.iconst 0, 1) := by decide +kernel
theorem dX12_digest_32 : decode cX12_digest 32 = .ok (.istore_n 3, 1) := by decide +kernel
theorem dX12_digest_33 : decode cX12_digest 33 = .ok (.iload_n 3, 1) := by decide +kernel
theorem dX12_digest_34 : decode cX12_digest 34 = .ok (.iconst 3, 1) := by decide +kernel
theorem dX12_digest_35 : decode cX12_digest 35 = .ok (.if_icmp .ge 22, 3) := by decide +kernel
theorem dX12_digest_38 : decode cX12_digest 38 = .ok (.ldc2_w 344, 3) := by decide +kernel
theorem dX12_digest_41 : decode cX12_digest 41 = .ok (.lload_n 1, 1) := by decide +kernel
theorem dX12_digest_42 : decode cX12_digest 42 = .ok (.lmul, 1) := by decide +kernel
theorem dX12_digest_43 : decode cX12_digest 43 = .ok (.aload_n 0, 1) := by decide +kernel
theorem dX12_digest_44 : decode cX12_digest 44 = .ok (.iload_n 3, 1) := by decide +kernel
theorem dX12_digest_45 : decode cX12_digest 45 = .ok (.invokevirtual 162, 3) := by decide +kernel
theorem dX12_digest_48 : decode cX12_digest 48 = .ok (.i2l, 1) := by decide +kernel
theorem dX12_digest_49 : decode cX12_digest 49 = .ok (.ladd, 1) := by decide +kernel
theorem dX12_digest_50 : decode cX12_digest 50 = .ok (.lstore_n 1, 1) := by decide +kernel
theorem dX12_digest_51 : decode cX12_digest 51 = .ok (.iinc 3 1, 3) := by decide +kernel
theorem dX12_digest_54 : decode cX12_digest 54 = .ok (.goto (-21), 3) := by decide +kernel
theorem dX12_digest_57 : decode cX12_digest 57 = .ok (.iconst 0, 1) := by decide +kernel
theorem dX12_digest_58 : decode cX12_digest 58 = .ok (.istore_n 3, 1) := by decide +kernel
theorem dX12_digest_59 : decode cX12_digest 59 = .ok (.iload_n 3, 1) := by decide +kernel
theorem dX12_digest_60 : decode cX12_digest 60 = .ok (.bipush 10, 2) := by decide +kernel
theorem dX12_digest_62 : decode cX12_digest 62 = .ok (.if_icmp .ge 69, 3) := by decide +kernel
theorem dX12_digest_65 : decode cX12_digest 65 = .ok (.ldc2_w 344, 3) := by decide +kernel
theorem dX12_digest_68 : decode cX12_digest 68 = .ok (.lload_n 1, 1) := by decide +kernel
theorem dX12_digest_69 : decode cX12_digest 69 = .ok (.lmul, 1) := by decide +kernel
theorem dX12_digest_70 : decode cX12_digest 70 = .ok (.aload_n 0, 1) := by decide +kernel
theorem dX12_digest_71 : decode cX12_digest 71 = .ok (.iconst 0, 1) := by decide +kernel
theorem dX12_digest_72 : decode cX12_digest 72 = .ok (.iload_n 3, 1) := by decide +kernel
theorem dX12_digest_73 : decode cX12_digest 73 = .ok (.iconst 0, 1) := by decide +kernel
theorem dX12_digest_74 : decode cX12_digest 74 = .ok (.invokevirtual 168, 3) := by decide +kernel
theorem dX12_digest_77 : decode cX12_digest 77 = .ok (.i2l, 1) := by decide +kernel
theorem dX12_digest_78 : decode cX12_digest 78 = .ok (.ladd, 1) := by decide +kernel
theorem dX12_digest_79 : decode cX12_digest 79 = .ok (.lstore_n 1, 1) := by decide +kernel
theorem dX12_digest_80 : decode cX12_digest 80 = .ok (.ldc2_w 344, 3) := by decide +kernel
theorem dX12_digest_83 : decode cX12_digest 83 = .ok (.lload_n 1, 1) := by decide +kernel
theorem dX12_digest_84 : decode cX12_digest 84 = .ok (.lmul, 1) := by decide +kernel
theorem dX12_digest_85 : decode cX12_digest 85 = .ok (.aload_n 0, 1) := by decide +kernel
theorem dX12_digest_86 : decode cX12_digest 86 = .ok (.iconst 0, 1) := by decide +kernel
theorem dX12_digest_87 : decode cX12_digest 87 = .ok (.iload_n 3, 1) := by decide +kernel
theorem dX12_digest_88 : decode cX12_digest 88 = .ok (.iconst 1, 1) := by decide +kernel
theorem dX12_digest_89 : decode cX12_digest 89 = .ok (.invokevirtual 168, 3) := by decide +kernel
theorem dX12_digest_92 : decode cX12_digest 92 = .ok (.i2l, 1) := by decide +kernel
theorem dX12_digest_93 : decode cX12_digest 93 = .ok (.ladd, 1) := by decide +kernel
theorem dX12_digest_94 : decode cX12_digest 94 = .ok (.lstore_n 1, 1) := by decide +kernel
theorem dX12_digest_95 : decode cX12_digest 95 = .ok (.ldc2_w 344, 3) := by decide +kernel
theorem dX12_digest_98 : decode cX12_digest 98 = .ok (.lload_n 1, 1) := by decide +kernel
theorem dX12_digest_99 : decode cX12_digest 99 = .ok (.lmul, 1) := by decide +kernel
theorem dX12_digest_100 : decode cX12_digest 100 = .ok (.aload_n 0, 1) := by decide +kernel
theorem dX12_digest_101 : decode cX12_digest 101 = .ok (.iconst 1, 1) := by decide +kernel
theorem dX12_digest_102 : decode cX12_digest 102 = .ok (.iload_n 3, 1) := by decide +kernel
theorem dX12_digest_103 : decode cX12_digest 103 = .ok (.iconst 0, 1) := by decide +kernel
theorem dX12_digest_104 : decode cX12_digest 104 = .ok (.invokevirtual 168, 3) := by decide +kernel
theorem dX12_digest_107 : decode cX12_digest 107 = .ok (.i2l, 1) := by decide +kernel
theorem dX12_digest_108 : decode cX12_digest 108 = .ok (.ladd, 1) := by decide +kernel
theorem dX12_digest_109 : decode cX12_digest 109 = .ok (.lstore_n 1, 1) := by decide +kernel
theorem dX12_digest_110 : decode cX12_digest 110 = .ok (.ldc2_w 344, 3) := by decide +kernel
theorem dX12_digest_113 : decode cX12_digest 113 = .ok (.lload_n 1, 1) := by decide +kernel
theorem dX12_digest_114 : decode cX12_digest 114 = .ok (.lmul, 1) := by decide +kernel
theorem dX12_digest_115 : decode cX12_digest 115 = .ok (.aload_n 0, 1) := by decide +kernel
theorem dX12_digest_116 : decode cX12_digest 116 = .ok (.iconst 1, 1) := by decide +kernel
theorem dX12_digest_117 : decode cX12_digest 117 = .ok (.iload_n 3, 1) := by decide +kernel
theorem dX12_digest_118 : decode cX12_digest 118 = .ok (.iconst 1, 1) := by decide +kernel
theorem dX12_digest_119 : decode cX12_digest 119 = .ok (.invokevirtual 168, 3) := by decide +kernel
theorem dX12_digest_122 : decode cX12_digest 122 = .ok (.i2l, 1) := by decide +kernel
theorem dX12_digest_123 : decode cX12_digest 123 = .ok (.ladd, 1) := by decide +kernel
theorem dX12_digest_124 : decode cX12_digest 124 = .ok (.lstore_n 1, 1) := by decide +kernel
theorem dX12_digest_125 : decode cX12_digest 125 = .ok (.iinc 3 1, 3) := by decide +kernel
theorem dX12_digest_128 : decode cX12_digest 128 = .ok (.goto (-69), 3) := by decide +kernel
theorem dX12_digest_131 : decode cX12_digest 131 = .ok (.iconst 0, 1) := by decide +kernel
theorem dX12_digest_132 : decode cX12_digest 132 = .ok (.istore_n 3, 1) := by decide +kernel
theorem dX12_digest_133 : decode cX12_digest 133 = .ok (.iload_n 3, 1) := by decide +kernel
theorem dX12_digest_134 : decode cX12_digest 134 = .ok (.bipush 12, 2) := by decide +kernel
theorem dX12_digest_136 : decode cX12_digest 136 = .ok (.if_icmp .ge 50, 3) := by decide +kernel
theorem dX12_digest_139 : decode cX12_digest 139 = .ok (.ldc2_w 344, 3) := by decide +kernel
theorem dX12_digest_142 : decode cX12_digest 142 = .ok (.lload_n 1, 1) := by decide +kernel
theorem dX12_digest_143 : decode cX12_digest 143 = .ok (.lmul, 1) := by decide +kernel
theorem dX12_digest_144 : decode cX12_digest 144 = .ok (.aload_n 0, 1) := by decide +kernel
theorem dX12_digest_145 : decode cX12_digest 145 = .ok (.iload_n 3, 1) := by decide +kernel
theorem dX12_digest_146 : decode cX12_digest 146 = .ok (.iconst 0, 1) := by decide +kernel
theorem dX12_digest_147 : decode cX12_digest 147 = .ok (.invokevirtual 172, 3) := by decide +kernel
theorem dX12_digest_150 : decode cX12_digest 150 = .ok (.i2l, 1) := by decide +kernel
theorem dX12_digest_151 : decode cX12_digest 151 = .ok (.ladd, 1) := by decide +kernel
theorem dX12_digest_152 : decode cX12_digest 152 = .ok (.lstore_n 1, 1) := by decide +kernel
theorem dX12_digest_153 : decode cX12_digest 153 = .ok (.ldc2_w 344, 3) := by decide +kernel
theorem dX12_digest_156 : decode cX12_digest 156 = .ok (.lload_n 1, 1) := by decide +kernel
theorem dX12_digest_157 : decode cX12_digest 157 = .ok (.lmul, 1) := by decide +kernel
theorem dX12_digest_158 : decode cX12_digest 158 = .ok (.aload_n 0, 1) := by decide +kernel
theorem dX12_digest_159 : decode cX12_digest 159 = .ok (.iload_n 3, 1) := by decide +kernel
theorem dX12_digest_160 : decode cX12_digest 160 = .ok (.iconst 1, 1) := by decide +kernel
theorem dX12_digest_161 : decode cX12_digest 161 = .ok (.invokevirtual 172, 3) := by decide +kernel
theorem dX12_digest_164 : decode cX12_digest 164 = .ok (.i2l, 1) := by decide +kernel
theorem dX12_digest_165 : decode cX12_digest 165 = .ok (.ladd, 1) := by decide +kernel
theorem dX12_digest_166 : decode cX12_digest 166 = .ok (.lstore_n 1, 1) := by decide +kernel
theorem dX12_digest_167 : decode cX12_digest 167 = .ok (.ldc2_w 344, 3) := by decide +kernel
theorem dX12_digest_170 : decode cX12_digest 170 = .ok (.lload_n 1, 1) := by decide +kernel
theorem dX12_digest_171 : decode cX12_digest 171 = .ok (.lmul, 1) := by decide +kernel
theorem dX12_digest_172 : decode cX12_digest 172 = .ok (.aload_n 0, 1) := by decide +kernel
theorem dX12_digest_173 : decode cX12_digest 173 = .ok (.iload_n 3, 1) := by decide +kernel
theorem dX12_digest_174 : decode cX12_digest 174 = .ok (.invokevirtual 319, 3) := by decide +kernel
theorem dX12_digest_177 : decode cX12_digest 177 = .ok (.i2l, 1) := by decide +kernel
theorem dX12_digest_178 : decode cX12_digest 178 = .ok (.ladd, 1) := by decide +kernel
theorem dX12_digest_179 : decode cX12_digest 179 = .ok (.lstore_n 1, 1) := by decide +kernel
theorem dX12_digest_180 : decode cX12_digest 180 = .ok (.iinc 3 1, 3) := by decide +kernel
theorem dX12_digest_183 : decode cX12_digest 183 = .ok (.goto (-50), 3) := by decide +kernel
theorem dX12_digest_186 : decode cX12_digest 186 = .ok (.ldc2_w 344, 3) := by decide +kernel
theorem dX12_digest_189 : decode cX12_digest 189 = .ok (.lload_n 1, 1) := by decide +kernel
theorem dX12_digest_190 : decode cX12_digest 190 = .ok (.lmul, 1) := by decide +kernel
theorem dX12_digest_191 : decode cX12_digest 191 = .ok (.aload_n 0, 1) := by decide +kernel
theorem dX12_digest_192 : decode cX12_digest 192 = .ok (.invokevirtual 313, 3) := by decide +kernel
theorem dX12_digest_195 : decode cX12_digest 195 = .ok (.i2l, 1) := by decide +kernel
theorem dX12_digest_196 : decode cX12_digest 196 = .ok (.ladd, 1) := by decide +kernel
theorem dX12_digest_197 : decode cX12_digest 197 = .ok (.lstore_n 1, 1) := by decide +kernel
theorem dX12_digest_198 : decode cX12_digest 198 = .ok (.ldc2_w 344, 3) := by decide +kernel
theorem dX12_digest_201 : decode cX12_digest 201 = .ok (.lload_n 1, 1) := by decide +kernel
theorem dX12_digest_202 : decode cX12_digest 202 = .ok (.lmul, 1) := by decide +kernel
theorem dX12_digest_203 : decode cX12_digest 203 = .ok (.aload_n 0, 1) := by decide +kernel
theorem dX12_digest_204 : decode cX12_digest 204 = .ok (.iconst (-1), 1) := by decide +kernel
theorem dX12_digest_205 : decode cX12_digest 205 = .ok (.iconst 0, 1) := by decide +kernel
theorem dX12_digest_206 : decode cX12_digest 206 = .ok (.invokevirtual 316, 3) := by decide +kernel
theorem dX12_digest_209 : decode cX12_digest 209 = .ok (.i2l, 1) := by decide +kernel
theorem dX12_digest_210 : decode cX12_digest 210 = .ok (.ladd, 1) := by decide +kernel
theorem dX12_digest_211 : decode cX12_digest 211 = .ok (.lstore_n 1, 1) := by decide +kernel
theorem dX12_digest_212 : decode cX12_digest 212 = .ok (.ldc2_w 344, 3) := by decide +kernel
theorem dX12_digest_215 : decode cX12_digest 215 = .ok (.lload_n 1, 1) := by decide +kernel
theorem dX12_digest_216 : decode cX12_digest 216 = .ok (.lmul, 1) := by decide +kernel
theorem dX12_digest_217 : decode cX12_digest 217 = .ok (.aload_n 0, 1) := by decide +kernel
theorem dX12_digest_218 : decode cX12_digest 218 = .ok (.invokevirtual 304, 3) := by decide +kernel
theorem dX12_digest_221 : decode cX12_digest 221 = .ok (.i2l, 1) := by decide +kernel
theorem dX12_digest_222 : decode cX12_digest 222 = .ok (.ladd, 1) := by decide +kernel
theorem dX12_digest_223 : decode cX12_digest 223 = .ok (.lstore_n 1, 1) := by decide +kernel
theorem dX12_digest_224 : decode cX12_digest 224 = .ok (.ldc2_w 344, 3) := by decide +kernel
theorem dX12_digest_227 : decode cX12_digest 227 = .ok (.lload_n 1, 1) := by decide +kernel
theorem dX12_digest_228 : decode cX12_digest 228 = .ok (.lmul, 1) := by decide +kernel
theorem dX12_digest_229 : decode cX12_digest 229 = .ok (.aload_n 0, 1) := by decide +kernel
theorem dX12_digest_230 : decode cX12_digest 230 = .ok (.invokevirtual 310, 3) := by decide +kernel
theorem dX12_digest_233 : decode cX12_digest 233 = .ok (.i2l, 1) := by decide +kernel
theorem dX12_digest_234 : decode cX12_digest 234 = .ok (.ladd, 1) := by decide +kernel
theorem dX12_digest_235 : decode cX12_digest 235 = .ok (.lstore_n 1, 1) := by decide +kernel
theorem dX12_digest_236 : decode cX12_digest 236 = .ok (.ldc2_w 344, 3) := by decide +kernel
theorem dX12_digest_239 : decode cX12_digest 239 = .ok (.lload_n 1, 1) := by decide +kernel
theorem dX12_digest_240 : decode cX12_digest 240 = .ok (.lmul, 1) := by decide +kernel
theorem dX12_digest_241 : decode cX12_digest 241 = .ok (.aload_n 0, 1) := by decide +kernel
theorem dX12_digest_242 : decode cX12_digest 242 = .ok (.invokevirtual 328, 3) := by decide +kernel
theorem dX12_digest_245 : decode cX12_digest 245 = .ok (.i2l, 1) := by decide +kernel
theorem dX12_digest_246 : decode cX12_digest 246 = .ok (.ladd, 1) := by decide +kernel
theorem dX12_digest_247 : decode cX12_digest 247 = .ok (.lstore_n 1, 1) := by decide +kernel
theorem dX12_digest_248 : decode cX12_digest 248 = .ok (.aload_n 0, 1) := by decide +kernel
theorem dX12_digest_249 : decode cX12_digest 249 = .ok (.lload_n 1, 1) := by decide +kernel
theorem dX12_digest_250 : decode cX12_digest 250 = .ok (.iconst 0, 1) := by decide +kernel
theorem dX12_digest_251 : decode cX12_digest 251 = .ok (.invokevirtual 355, 3) := by decide +kernel
theorem dX12_digest_254 : decode cX12_digest 254 = .ok (.lstore_n 1, 1) := by decide +kernel
theorem dX12_digest_255 : decode cX12_digest 255 = .ok (.aload_n 0, 1) := by decide +kernel
theorem dX12_digest_256 : decode cX12_digest 256 = .ok (.lload_n 1, 1) := by decide +kernel
theorem dX12_digest_257 : decode cX12_digest 257 = .ok (.iconst 1, 1) := by decide +kernel
theorem dX12_digest_258 : decode cX12_digest 258 = .ok (.invokevirtual 355, 3) := by decide +kernel
theorem dX12_digest_261 : decode cX12_digest 261 = .ok (.lstore_n 1, 1) := by decide +kernel
theorem dX12_digest_262 : decode cX12_digest 262 = .ok (.iconst 0, 1) := by decide +kernel
theorem dX12_digest_263 : decode cX12_digest 263 = .ok (.istore_n 3, 1) := by decide +kernel
theorem dX12_digest_264 : decode cX12_digest 264 = .ok (.iload_n 3, 1) := by decide +kernel
theorem dX12_digest_265 : decode cX12_digest 265 = .ok (.bipush 10, 2) := by decide +kernel
theorem dX12_digest_267 : decode cX12_digest 267 = .ok (.if_icmp .ge 37, 3) := by decide +kernel
theorem dX12_digest_270 : decode cX12_digest 270 = .ok (.ldc2_w 344, 3) := by decide +kernel
theorem dX12_digest_273 : decode cX12_digest 273 = .ok (.lload_n 1, 1) := by decide +kernel
theorem dX12_digest_274 : decode cX12_digest 274 = .ok (.lmul, 1) := by decide +kernel
theorem dX12_digest_275 : decode cX12_digest 275 = .ok (.aload_n 0, 1) := by decide +kernel
theorem dX12_digest_276 : decode cX12_digest 276 = .ok (.iload_n 3, 1) := by decide +kernel
theorem dX12_digest_277 : decode cX12_digest 277 = .ok (.iconst 0, 1) := by decide +kernel
theorem dX12_digest_278 : decode cX12_digest 278 = .ok (.invokevirtual 316, 3) := by decide +kernel
theorem dX12_digest_281 : decode cX12_digest 281 = .ok (.i2l, 1) := by decide +kernel
theorem dX12_digest_282 : decode cX12_digest 282 = .ok (.ladd, 1) := by decide +kernel
theorem dX12_digest_283 : decode cX12_digest 283 = .ok (.lstore_n 1, 1) := by decide +kernel
theorem dX12_digest_284 : decode cX12_digest 284 = .ok (.ldc2_w 344, 3) := by decide +kernel
theorem dX12_digest_287 : decode cX12_digest 287 = .ok (.lload_n 1, 1) := by decide +kernel
theorem dX12_digest_288 : decode cX12_digest 288 = .ok (.lmul, 1) := by decide +kernel
theorem dX12_digest_289 : decode cX12_digest 289 = .ok (.aload_n 0, 1) := by decide +kernel
theorem dX12_digest_290 : decode cX12_digest 290 = .ok (.iload_n 3, 1) := by decide +kernel
theorem dX12_digest_291 : decode cX12_digest 291 = .ok (.iconst 1, 1) := by decide +kernel
theorem dX12_digest_292 : decode cX12_digest 292 = .ok (.invokevirtual 316, 3) := by decide +kernel
theorem dX12_digest_295 : decode cX12_digest 295 = .ok (.i2l, 1) := by decide +kernel
theorem dX12_digest_296 : decode cX12_digest 296 = .ok (.ladd, 1) := by decide +kernel
theorem dX12_digest_297 : decode cX12_digest 297 = .ok (.lstore_n 1, 1) := by decide +kernel
theorem dX12_digest_298 : decode cX12_digest 298 = .ok (.iinc 3 1, 3) := by decide +kernel
theorem dX12_digest_301 : decode cX12_digest 301 = .ok (.goto (-37), 3) := by decide +kernel
theorem dX12_digest_304 : decode cX12_digest 304 = .ok (.iconst 0, 1) := by decide +kernel
theorem dX12_digest_305 : decode cX12_digest 305 = .ok (.istore_n 3, 1) := by decide +kernel
theorem dX12_digest_306 : decode cX12_digest 306 = .ok (.iload_n 3, 1) := by decide +kernel
theorem dX12_digest_307 : decode cX12_digest 307 = .ok (.bipush 9, 2) := by decide +kernel
theorem dX12_digest_309 : decode cX12_digest 309 = .ok (.if_icmp .ge 28, 3) := by decide +kernel
theorem dX12_digest_312 : decode cX12_digest 312 = .ok (.aload_n 0, 1) := by decide +kernel
theorem dX12_digest_313 : decode cX12_digest 313 = .ok (.iload_n 3, 1) := by decide +kernel
theorem dX12_digest_314 : decode cX12_digest 314 = .ok (.invokevirtual 289, 3) := by decide +kernel
theorem dX12_digest_317 : decode cX12_digest 317 = .ok (.aload_n 0, 1) := by decide +kernel
theorem dX12_digest_318 : decode cX12_digest 318 = .ok (.lload_n 1, 1) := by decide +kernel
theorem dX12_digest_319 : decode cX12_digest 319 = .ok (.iconst 0, 1) := by decide +kernel
theorem dX12_digest_320 : decode cX12_digest 320 = .ok (.invokevirtual 346, 3) := by decide +kernel
theorem dX12_digest_323 : decode cX12_digest 323 = .ok (.lstore_n 1, 1) := by decide +kernel
theorem dX12_digest_324 : decode cX12_digest 324 = .ok (.aload_n 0, 1) := by decide +kernel
theorem dX12_digest_325 : decode cX12_digest 325 = .ok (.lload_n 1, 1) := by decide +kernel
theorem dX12_digest_326 : decode cX12_digest 326 = .ok (.iconst 1, 1) := by decide +kernel
theorem dX12_digest_327 : decode cX12_digest 327 = .ok (.invokevirtual 346, 3) := by decide +kernel
theorem dX12_digest_330 : decode cX12_digest 330 = .ok (.lstore_n 1, 1) := by decide +kernel
theorem dX12_digest_331 : decode cX12_digest 331 = .ok (.iinc 3 1, 3) := by decide +kernel
theorem dX12_digest_334 : decode cX12_digest 334 = .ok (.goto (-28), 3) := by decide +kernel
theorem dX12_digest_337 : decode cX12_digest 337 = .ok (.lload_n 1, 1) := by decide +kernel
theorem dX12_digest_338 : decode cX12_digest 338 = .ok (.lreturn, 1) := by decide +kernel
theorem dJ9_max_7cf53_0 : decode cJ9_max_7cf53 0 = .ok (.iload_n 0, 1) := by decide +kernel
theorem dJ9_max_7cf53_1 : decode cJ9_max_7cf53 1 = .ok (.iload_n 1, 1) := by decide +kernel
theorem dJ9_max_7cf53_2 : decode cJ9_max_7cf53 2 = .ok (.if_icmp .lt 7, 3) := by decide +kernel
theorem dJ9_max_7cf53_5 : decode cJ9_max_7cf53 5 = .ok (.iload_n 0, 1) := by decide +kernel
theorem dJ9_max_7cf53_6 : decode cJ9_max_7cf53 6 = .ok (.goto 4, 3) := by decide +kernel
theorem dJ9_max_7cf53_9 : decode cJ9_max_7cf53 9 = .ok (.iload_n 1, 1) := by decide +kernel
theorem dJ9_max_7cf53_10 : decode cJ9_max_7cf53 10 = .ok (.ireturn, 1) := by decide +kernel
theorem dJ9_min_7cf53_0 : decode cJ9_min_7cf53 0 = .ok (.iload_n 0, 1) := by decide +kernel
theorem dJ9_min_7cf53_1 : decode cJ9_min_7cf53 1 = .ok (.iload_n 1, 1) := by decide +kernel
theorem dJ9_min_7cf53_2 : decode cJ9_min_7cf53 2 = .ok (.if_icmp .gt 7, 3) := by decide +kernel
theorem dJ9_min_7cf53_5 : decode cJ9_min_7cf53 5 = .ok (.iload_n 0, 1) := by decide +kernel
theorem dJ9_min_7cf53_6 : decode cJ9_min_7cf53 6 = .ok (.goto 4, 3) := by decide +kernel
theorem dJ9_min_7cf53_9 : decode cJ9_min_7cf53 9 = .ok (.iload_n 1, 1) := by decide +kernel
theorem dJ9_min_7cf53_10 : decode cJ9_min_7cf53 10 = .ok (.ireturn, 1) := by decide +kernel
theorem dJ7_fill_53178_0 : decode cJ7_fill_53178 0 = .ok (.iconst 0, 1) := by decide +kernel
theorem dJ7_fill_53178_1 : decode cJ7_fill_53178 1 = .ok (.istore_n 2, 1) := by decide +kernel
theorem dJ7_fill_53178_2 : decode cJ7_fill_53178 2 = .ok (.aload_n 0, 1) := by decide +kernel
theorem dJ7_fill_53178_3 : decode cJ7_fill_53178 3 = .ok (.arraylength, 1) := by decide +kernel
theorem dJ7_fill_53178_4 : decode cJ7_fill_53178 4 = .ok (.istore_n 3, 1) := by decide +kernel
theorem dJ7_fill_53178_5 : decode cJ7_fill_53178 5 = .ok (.iload_n 2, 1) := by decide +kernel
theorem dJ7_fill_53178_6 : decode cJ7_fill_53178 6 = .ok (.iload_n 3, 1) := by decide +kernel
theorem dJ7_fill_53178_7 : decode cJ7_fill_53178 7 = .ok (.if_icmp .ge 13, 3) := by decide +kernel
theorem dJ7_fill_53178_10 : decode cJ7_fill_53178 10 = .ok (.aload_n 0, 1) := by decide +kernel
theorem dJ7_fill_53178_11 : decode cJ7_fill_53178 11 = .ok (.iload_n 2, 1) := by decide +kernel
theorem dJ7_fill_53178_12 : decode cJ7_fill_53178 12 = .ok (.iload_n 1, 1) := by decide +kernel
theorem dJ7_fill_53178_13 : decode cJ7_fill_53178 13 = .ok (.iastore, 1) := by decide +kernel
theorem dJ7_fill_53178_14 : decode cJ7_fill_53178 14 = .ok (.iinc 2 1, 3) := by decide +kernel
theorem dJ7_fill_53178_17 : decode cJ7_fill_53178 17 = .ok (.goto (-12), 3) := by decide +kernel
theorem dJ7_fill_53178_20 : decode cJ7_fill_53178 20 = .ok (.return_, 1) := by decide +kernel
theorem dL_law_0 : decode cL_law 0 = .ok (.new 7, 3) := by decide +kernel
theorem dL_law_3 : decode cL_law 3 = .ok (.dup, 1) := by decide +kernel
theorem dL_law_4 : decode cL_law 4 = .ok (.invokespecial 9, 3) := by decide +kernel
theorem dL_law_7 : decode cL_law 7 = .ok (.astore_n 1, 1) := by decide +kernel
theorem dL_law_8 : decode cL_law 8 = .ok (.new 10, 3) := by decide +kernel
theorem dL_law_11 : decode cL_law 11 = .ok (.dup, 1) := by decide +kernel
theorem dL_law_12 : decode cL_law 12 = .ok (.invokespecial 12, 3) := by decide +kernel
theorem dL_law_15 : decode cL_law 15 = .ok (.astore_n 2, 1) := by decide +kernel
theorem dL_law_16 : decode cL_law 16 = .ok (.iconst 0, 1) := by decide +kernel
theorem dL_law_17 : decode cL_law 17 = .ok (.istore_n 3, 1) := by decide +kernel
theorem dL_law_18 : decode cL_law 18 = .ok (.iload_n 3, 1) := by decide +kernel
theorem dL_law_19 : decode cL_law 19 = .ok (.aload_n 0, 1) := by decide +kernel
theorem dL_law_20 : decode cL_law 20 = .ok (.arraylength, 1) := by decide +kernel
theorem dL_law_21 : decode cL_law 21 = .ok (.bipush 6, 2) := by decide +kernel
theorem dL_law_23 : decode cL_law 23 = .ok (.isub, 1) := by decide +kernel
theorem dL_law_24 : decode cL_law 24 = .ok (.if_icmp .gt 893, 3) := by decide +kernel
theorem dL_law_27 : decode cL_law 27 = .ok (.aload_n 0, 1) := by decide +kernel
theorem dL_law_28 : decode cL_law 28 = .ok (.iload_n 3, 1) := by decide +kernel
theorem dL_law_29 : decode cL_law 29 = .ok (.iaload, 1) := by decide +kernel
theorem dL_law_30 : decode cL_law 30 = .ok (.bipush 31, 2) := by decide +kernel
theorem dL_law_32 : decode cL_law 32 = .ok (.iand, 1) := by decide +kernel
theorem dL_law_33 : decode cL_law 33 = .ok (.tableswitch 878 0 25 #[119, 152, 175, 198, 221, 264, 297, 320, 343, 376, 389, 402, 415, 448, 471, 504, 537, 550, 593, 616, 669, 712, 775, 808, 841, 864], 119) := by decide +kernel
theorem dL_law_152 : decode cL_law 152 = .ok (.aload_n 1, 1) := by decide +kernel
theorem dL_law_153 : decode cL_law 153 = .ok (.aload_n 0, 1) := by decide +kernel
theorem dL_law_154 : decode cL_law 154 = .ok (.iload_n 3, 1) := by decide +kernel
theorem dL_law_155 : decode cL_law 155 = .ok (.iconst 1, 1) := by decide +kernel
theorem dL_law_156 : decode cL_law 156 = .ok (.iadd, 1) := by decide +kernel
theorem dL_law_157 : decode cL_law 157 = .ok (.iaload, 1) := by decide +kernel
theorem dL_law_158 : decode cL_law 158 = .ok (.aload_n 0, 1) := by decide +kernel
theorem dL_law_159 : decode cL_law 159 = .ok (.iload_n 3, 1) := by decide +kernel
theorem dL_law_160 : decode cL_law 160 = .ok (.iconst 2, 1) := by decide +kernel
theorem dL_law_161 : decode cL_law 161 = .ok (.iadd, 1) := by decide +kernel
theorem dL_law_162 : decode cL_law 162 = .ok (.iaload, 1) := by decide +kernel
theorem dL_law_163 : decode cL_law 163 = .ok (.invokevirtual 13, 3) := by decide +kernel
theorem dL_law_166 : decode cL_law 166 = .ok (.aload_n 2, 1) := by decide +kernel
theorem dL_law_167 : decode cL_law 167 = .ok (.aload_n 0, 1) := by decide +kernel
theorem dL_law_168 : decode cL_law 168 = .ok (.iload_n 3, 1) := by decide +kernel
theorem dL_law_169 : decode cL_law 169 = .ok (.iconst 1, 1) := by decide +kernel
theorem dL_law_170 : decode cL_law 170 = .ok (.iadd, 1) := by decide +kernel
theorem dL_law_171 : decode cL_law 171 = .ok (.iaload, 1) := by decide +kernel
theorem dL_law_172 : decode cL_law 172 = .ok (.aload_n 0, 1) := by decide +kernel
theorem dL_law_173 : decode cL_law 173 = .ok (.iload_n 3, 1) := by decide +kernel
theorem dL_law_174 : decode cL_law 174 = .ok (.iconst 2, 1) := by decide +kernel
theorem dL_law_175 : decode cL_law 175 = .ok (.iadd, 1) := by decide +kernel
theorem dL_law_176 : decode cL_law 176 = .ok (.iaload, 1) := by decide +kernel
theorem dL_law_177 : decode cL_law 177 = .ok (.invokevirtual 17, 3) := by decide +kernel
theorem dL_law_180 : decode cL_law 180 = .ok (.if_icmp .eq 731, 3) := by decide +kernel
theorem dL_law_183 : decode cL_law 183 = .ok (.iconst 0, 1) := by decide +kernel
theorem dL_law_184 : decode cL_law 184 = .ok (.ireturn, 1) := by decide +kernel
theorem dL_law_185 : decode cL_law 185 = .ok (.aload_n 1, 1) := by decide +kernel
theorem dL_law_186 : decode cL_law 186 = .ok (.aload_n 0, 1) := by decide +kernel
theorem dL_law_187 : decode cL_law 187 = .ok (.iload_n 3, 1) := by decide +kernel
theorem dL_law_188 : decode cL_law 188 = .ok (.iconst 1, 1) := by decide +kernel
theorem dL_law_189 : decode cL_law 189 = .ok (.iadd, 1) := by decide +kernel
theorem dL_law_190 : decode cL_law 190 = .ok (.iaload, 1) := by decide +kernel
theorem dL_law_191 : decode cL_law 191 = .ok (.invokevirtual 18, 3) := by decide +kernel
theorem dL_law_194 : decode cL_law 194 = .ok (.aload_n 2, 1) := by decide +kernel
theorem dL_law_195 : decode cL_law 195 = .ok (.aload_n 0, 1) := by decide +kernel
theorem dL_law_196 : decode cL_law 196 = .ok (.iload_n 3, 1) := by decide +kernel
theorem dL_law_197 : decode cL_law 197 = .ok (.iconst 1, 1) := by decide +kernel
theorem dL_law_198 : decode cL_law 198 = .ok (.iadd, 1) := by decide +kernel
theorem dL_law_199 : decode cL_law 199 = .ok (.iaload, 1) := by decide +kernel
theorem dL_law_200 : decode cL_law 200 = .ok (.invokevirtual 22, 3) := by decide +kernel
theorem dL_law_203 : decode cL_law 203 = .ok (.if_icmp .eq 708, 3) := by decide +kernel
theorem dL_law_206 : decode cL_law 206 = .ok (.iconst 0, 1) := by decide +kernel
theorem dL_law_207 : decode cL_law 207 = .ok (.ireturn, 1) := by decide +kernel
theorem dL_law_208 : decode cL_law 208 = .ok (.aload_n 1, 1) := by decide +kernel
theorem dL_law_209 : decode cL_law 209 = .ok (.aload_n 0, 1) := by decide +kernel
theorem dL_law_210 : decode cL_law 210 = .ok (.iload_n 3, 1) := by decide +kernel
theorem dL_law_211 : decode cL_law 211 = .ok (.iconst 1, 1) := by decide +kernel
theorem dL_law_212 : decode cL_law 212 = .ok (.iadd, 1) := by decide +kernel
theorem dL_law_213 : decode cL_law 213 = .ok (.iaload, 1) := by decide +kernel
theorem dL_law_214 : decode cL_law 214 = .ok (.invokevirtual 23, 3) := by decide +kernel
theorem dL_law_217 : decode cL_law 217 = .ok (.aload_n 2, 1) := by decide +kernel
theorem dL_law_218 : decode cL_law 218 = .ok (.aload_n 0, 1) := by decide +kernel
theorem dL_law_219 : decode cL_law 219 = .ok (.iload_n 3, 1) := by decide +kernel
theorem dL_law_220 : decode cL_law 220 = .ok (.iconst 1, 1) := by decide +kernel
theorem dL_law_221 : decode cL_law 221 = .ok (.iadd, 1) := by decide +kernel
theorem dL_law_222 : decode cL_law 222 = .ok (.iaload, 1) := by decide +kernel
theorem dL_law_223 : decode cL_law 223 = .ok (.invokevirtual 26, 3) := by decide +kernel
theorem dL_law_226 : decode cL_law 226 = .ok (.if_icmp .eq 685, 3) := by decide +kernel
theorem dL_law_229 : decode cL_law 229 = .ok (.iconst 0, 1) := by decide +kernel
theorem dL_law_230 : decode cL_law 230 = .ok (.ireturn, 1) := by decide +kernel
theorem dL_law_231 : decode cL_law 231 = .ok (.aload_n 1, 1) := by decide +kernel
theorem dL_law_232 : decode cL_law 232 = .ok (.aload_n 0, 1) := by decide +kernel
theorem dL_law_233 : decode cL_law 233 = .ok (.iload_n 3, 1) := by decide +kernel
theorem dL_law_234 : decode cL_law 234 = .ok (.iconst 1, 1) := by decide +kernel
theorem dL_law_235 : decode cL_law 235 = .ok (.iadd, 1) := by decide +kernel
theorem dL_law_236 : decode cL_law 236 = .ok (.iaload, 1) := by decide +kernel
theorem dL_law_237 : decode cL_law 237 = .ok (.invokevirtual 27, 3) := by decide +kernel
theorem dL_law_240 : decode cL_law 240 = .ok (.aload_n 2, 1) := by decide +kernel
theorem dL_law_241 : decode cL_law 241 = .ok (.aload_n 0, 1) := by decide +kernel
theorem dL_law_242 : decode cL_law 242 = .ok (.iload_n 3, 1) := by decide +kernel
theorem dL_law_243 : decode cL_law 243 = .ok (.iconst 1, 1) := by decide +kernel
theorem dL_law_244 : decode cL_law 244 = .ok (.iadd, 1) := by decide +kernel
theorem dL_law_245 : decode cL_law 245 = .ok (.iaload, 1) := by decide +kernel
theorem dL_law_246 : decode cL_law 246 = .ok (.invokevirtual 30, 3) := by decide +kernel
theorem dL_law_249 : decode cL_law 249 = .ok (.if_icmp .eq 662, 3) := by decide +kernel
theorem dL_law_252 : decode cL_law 252 = .ok (.iconst 0, 1) := by decide +kernel
theorem dL_law_253 : decode cL_law 253 = .ok (.ireturn, 1) := by decide +kernel
theorem dL_law_254 : decode cL_law 254 = .ok (.aload_n 1, 1) := by decide +kernel
theorem dL_law_255 : decode cL_law 255 = .ok (.aload_n 0, 1) := by decide +kernel
theorem dL_law_256 : decode cL_law 256 = .ok (.iload_n 3, 1) := by decide +kernel
theorem dL_law_257 : decode cL_law 257 = .ok (.iconst 1, 1) := by decide +kernel
theorem dL_law_258 : decode cL_law 258 = .ok (.iadd, 1) := by decide +kernel
theorem dL_law_259 : decode cL_law 259 = .ok (.iaload, 1) := by decide +kernel
theorem dL_law_260 : decode cL_law 260 = .ok (.aload_n 0, 1) := by decide +kernel
theorem dL_law_261 : decode cL_law 261 = .ok (.iload_n 3, 1) := by decide +kernel
theorem dL_law_262 : decode cL_law 262 = .ok (.iconst 2, 1) := by decide +kernel
theorem dL_law_263 : decode cL_law 263 = .ok (.iadd, 1) := by decide +kernel
theorem dL_law_264 : decode cL_law 264 = .ok (.iaload, 1) := by decide +kernel
theorem dL_law_265 : decode cL_law 265 = .ok (.aload_n 0, 1) := by decide +kernel
theorem dL_law_266 : decode cL_law 266 = .ok (.iload_n 3, 1) := by decide +kernel
theorem dL_law_267 : decode cL_law 267 = .ok (.iconst 3, 1) := by decide +kernel
theorem dL_law_268 : decode cL_law 268 = .ok (.iadd, 1) := by decide +kernel
theorem dL_law_269 : decode cL_law 269 = .ok (.iaload, 1) := by decide +kernel
theorem dL_law_270 : decode cL_law 270 = .ok (.invokevirtual 31, 3) := by decide +kernel
theorem dL_law_273 : decode cL_law 273 = .ok (.aload_n 2, 1) := by decide +kernel
theorem dL_law_274 : decode cL_law 274 = .ok (.aload_n 0, 1) := by decide +kernel
theorem dL_law_275 : decode cL_law 275 = .ok (.iload_n 3, 1) := by decide +kernel
theorem dL_law_276 : decode cL_law 276 = .ok (.iconst 1, 1) := by decide +kernel
theorem dL_law_277 : decode cL_law 277 = .ok (.iadd, 1) := by decide +kernel
theorem dL_law_278 : decode cL_law 278 = .ok (.iaload, 1) := by decide +kernel
theorem dL_law_279 : decode cL_law 279 = .ok (.aload_n 0, 1) := by decide +kernel
theorem dL_law_280 : decode cL_law 280 = .ok (.iload_n 3, 1) := by decide +kernel
theorem dL_law_281 : decode cL_law 281 = .ok (.iconst 2, 1) := by decide +kernel
theorem dL_law_282 : decode cL_law 282 = .ok (.iadd, 1) := by decide +kernel
theorem dL_law_283 : decode cL_law 283 = .ok (.iaload, 1) := by decide +kernel
theorem dL_law_284 : decode cL_law 284 = .ok (.aload_n 0, 1) := by decide +kernel
theorem dL_law_285 : decode cL_law 285 = .ok (.iload_n 3, 1) := by decide +kernel
theorem dL_law_286 : decode cL_law 286 = .ok (.iconst 3, 1) := by decide +kernel
theorem dL_law_287 : decode cL_law 287 = .ok (.iadd, 1) := by decide +kernel
theorem dL_law_288 : decode cL_law 288 = .ok (.iaload, 1) := by decide +kernel
theorem dL_law_289 : decode cL_law 289 = .ok (.invokevirtual 35, 3) := by decide +kernel
theorem dL_law_292 : decode cL_law 292 = .ok (.if_icmp .eq 619, 3) := by decide +kernel
theorem dL_law_295 : decode cL_law 295 = .ok (.iconst 0, 1) := by decide +kernel
theorem dL_law_296 : decode cL_law 296 = .ok (.ireturn, 1) := by decide +kernel
theorem dL_law_297 : decode cL_law 297 = .ok (.aload_n 1, 1) := by decide +kernel
theorem dL_law_298 : decode cL_law 298 = .ok (.aload_n 0, 1) := by decide +kernel
theorem dL_law_299 : decode cL_law 299 = .ok (.iload_n 3, 1) := by decide +kernel
theorem dL_law_300 : decode cL_law 300 = .ok (.iconst 1, 1) := by decide +kernel
theorem dL_law_301 : decode cL_law 301 = .ok (.iadd, 1) := by decide +kernel
theorem dL_law_302 : decode cL_law 302 = .ok (.iaload, 1) := by decide +kernel
theorem dL_law_303 : decode cL_law 303 = .ok (.aload_n 0, 1) := by decide +kernel
theorem dL_law_304 : decode cL_law 304 = .ok (.iload_n 3, 1) := by decide +kernel
theorem dL_law_305 : decode cL_law 305 = .ok (.iconst 2, 1) := by decide +kernel
theorem dL_law_306 : decode cL_law 306 = .ok (.iadd, 1) := by decide +kernel
theorem dL_law_307 : decode cL_law 307 = .ok (.iaload, 1) := by decide +kernel
theorem dL_law_308 : decode cL_law 308 = .ok (.invokevirtual 36, 3) := by decide +kernel
theorem dL_law_311 : decode cL_law 311 = .ok (.aload_n 2, 1) := by decide +kernel
theorem dL_law_312 : decode cL_law 312 = .ok (.aload_n 0, 1) := by decide +kernel
theorem dL_law_313 : decode cL_law 313 = .ok (.iload_n 3, 1) := by decide +kernel
theorem dL_law_314 : decode cL_law 314 = .ok (.iconst 1, 1) := by decide +kernel
theorem dL_law_315 : decode cL_law 315 = .ok (.iadd, 1) := by decide +kernel
theorem dL_law_316 : decode cL_law 316 = .ok (.iaload, 1) := by decide +kernel
theorem dL_law_317 : decode cL_law 317 = .ok (.aload_n 0, 1) := by decide +kernel
theorem dL_law_318 : decode cL_law 318 = .ok (.iload_n 3, 1) := by decide +kernel
theorem dL_law_319 : decode cL_law 319 = .ok (.iconst 2, 1) := by decide +kernel
theorem dL_law_320 : decode cL_law 320 = .ok (.iadd, 1) := by decide +kernel
theorem dL_law_321 : decode cL_law 321 = .ok (.iaload, 1) := by decide +kernel
theorem dL_law_322 : decode cL_law 322 = .ok (.invokevirtual 39, 3) := by decide +kernel
theorem dL_law_325 : decode cL_law 325 = .ok (.if_icmp .eq 586, 3) := by decide +kernel
theorem dL_law_328 : decode cL_law 328 = .ok (.iconst 0, 1) := by decide +kernel
theorem dL_law_329 : decode cL_law 329 = .ok (.ireturn, 1) := by decide +kernel
theorem dL_law_330 : decode cL_law 330 = .ok (.aload_n 1, 1) := by decide +kernel
theorem dL_law_331 : decode cL_law 331 = .ok (.aload_n 0, 1) := by decide +kernel
theorem dL_law_332 : decode cL_law 332 = .ok (.iload_n 3, 1) := by decide +kernel
theorem dL_law_333 : decode cL_law 333 = .ok (.iconst 1, 1) := by decide +kernel
theorem dL_law_334 : decode cL_law 334 = .ok (.iadd, 1) := by decide +kernel
theorem dL_law_335 : decode cL_law 335 = .ok (.iaload, 1) := by decide +kernel
theorem dL_law_336 : decode cL_law 336 = .ok (.invokevirtual 40, 3) := by decide +kernel
theorem dL_law_339 : decode cL_law 339 = .ok (.aload_n 2, 1) := by decide +kernel
theorem dL_law_340 : decode cL_law 340 = .ok (.aload_n 0, 1) := by decide +kernel
theorem dL_law_341 : decode cL_law 341 = .ok (.iload_n 3, 1) := by decide +kernel
theorem dL_law_342 : decode cL_law 342 = .ok (.iconst 1, 1) := by decide +kernel
theorem dL_law_343 : decode cL_law 343 = .ok (.iadd, 1) := by decide +kernel
theorem dL_law_344 : decode cL_law 344 = .ok (.iaload, 1) := by decide +kernel
theorem dL_law_345 : decode cL_law 345 = .ok (.invokevirtual 43, 3) := by decide +kernel
theorem dL_law_348 : decode cL_law 348 = .ok (.if_icmp .eq 563, 3) := by decide +kernel
theorem dL_law_351 : decode cL_law 351 = .ok (.iconst 0, 1) := by decide +kernel
theorem dL_law_352 : decode cL_law 352 = .ok (.ireturn, 1) := by decide +kernel
theorem dL_law_353 : decode cL_law 353 = .ok (.aload_n 1, 1) := by decide +kernel
theorem dL_law_354 : decode cL_law 354 = .ok (.aload_n 0, 1) := by decide +kernel
theorem dL_law_355 : decode cL_law 355 = .ok (.iload_n 3, 1) := by decide +kernel
theorem dL_law_356 : decode cL_law 356 = .ok (.iconst 1, 1) := by decide +kernel
theorem dL_law_357 : decode cL_law 357 = .ok (.iadd, 1) := by decide +kernel
theorem dL_law_358 : decode cL_law 358 = .ok (.iaload, 1) := by decide +kernel
theorem dL_law_359 : decode cL_law 359 = .ok (.invokevirtual 44, 3) := by decide +kernel
theorem dL_law_362 : decode cL_law 362 = .ok (.aload_n 2, 1) := by decide +kernel
theorem dL_law_363 : decode cL_law 363 = .ok (.aload_n 0, 1) := by decide +kernel
theorem dL_law_364 : decode cL_law 364 = .ok (.iload_n 3, 1) := by decide +kernel
theorem dL_law_365 : decode cL_law 365 = .ok (.iconst 1, 1) := by decide +kernel
theorem dL_law_366 : decode cL_law 366 = .ok (.iadd, 1) := by decide +kernel
theorem dL_law_367 : decode cL_law 367 = .ok (.iaload, 1) := by decide +kernel
theorem dL_law_368 : decode cL_law 368 = .ok (.invokevirtual 47, 3) := by decide +kernel
theorem dL_law_371 : decode cL_law 371 = .ok (.if_icmp .eq 540, 3) := by decide +kernel
theorem dL_law_374 : decode cL_law 374 = .ok (.iconst 0, 1) := by decide +kernel
theorem dL_law_375 : decode cL_law 375 = .ok (.ireturn, 1) := by decide +kernel
theorem dL_law_376 : decode cL_law 376 = .ok (.aload_n 1, 1) := by decide +kernel
theorem dL_law_377 : decode cL_law 377 = .ok (.aload_n 0, 1) := by decide +kernel
theorem dL_law_378 : decode cL_law 378 = .ok (.iload_n 3, 1) := by decide +kernel
theorem dL_law_379 : decode cL_law 379 = .ok (.iconst 1, 1) := by decide +kernel
theorem dL_law_380 : decode cL_law 380 = .ok (.iadd, 1) := by decide +kernel
theorem dL_law_381 : decode cL_law 381 = .ok (.iaload, 1) := by decide +kernel
theorem dL_law_382 : decode cL_law 382 = .ok (.aload_n 0, 1) := by decide +kernel
theorem dL_law_383 : decode cL_law 383 = .ok (.iload_n 3, 1) := by decide +kernel
theorem dL_law_384 : decode cL_law 384 = .ok (.iconst 2, 1) := by decide +kernel
theorem dL_law_385 : decode cL_law 385 = .ok (.iadd, 1) := by decide +kernel
theorem dL_law_386 : decode cL_law 386 = .ok (.iaload, 1) := by decide +kernel
theorem dL_law_387 : decode cL_law 387 = .ok (.invokevirtual 48, 3) := by decide +kernel
theorem dL_law_390 : decode cL_law 390 = .ok (.aload_n 2, 1) := by decide +kernel
theorem dL_law_391 : decode cL_law 391 = .ok (.aload_n 0, 1) := by decide +kernel
theorem dL_law_392 : decode cL_law 392 = .ok (.iload_n 3, 1) := by decide +kernel
theorem dL_law_393 : decode cL_law 393 = .ok (.iconst 1, 1) := by decide +kernel
theorem dL_law_394 : decode cL_law 394 = .ok (.iadd, 1) := by decide +kernel
theorem dL_law_395 : decode cL_law 395 = .ok (.iaload, 1) := by decide +kernel
theorem dL_law_396 : decode cL_law 396 = .ok (.aload_n 0, 1) := by decide +kernel
theorem dL_law_397 : decode cL_law 397 = .ok (.iload_n 3, 1) := by decide +kernel
theorem dL_law_398 : decode cL_law 398 = .ok (.iconst 2, 1) := by decide +kernel
theorem dL_law_399 : decode cL_law 399 = .ok (.iadd, 1) := by decide +kernel
theorem dL_law_400 : decode cL_law 400 = .ok (.iaload, 1) := by decide +kernel
theorem dL_law_401 : decode cL_law 401 = .ok (.invokevirtual 51, 3) := by decide +kernel
theorem dL_law_404 : decode cL_law 404 = .ok (.if_icmp .eq 507, 3) := by decide +kernel
theorem dL_law_407 : decode cL_law 407 = .ok (.iconst 0, 1) := by decide +kernel
theorem dL_law_408 : decode cL_law 408 = .ok (.ireturn, 1) := by decide +kernel
theorem dL_law_409 : decode cL_law 409 = .ok (.aload_n 1, 1) := by decide +kernel
theorem dL_law_410 : decode cL_law 410 = .ok (.invokevirtual 52, 3) := by decide +kernel
theorem dL_law_413 : decode cL_law 413 = .ok (.aload_n 2, 1) := by decide +kernel
theorem dL_law_414 : decode cL_law 414 = .ok (.invokevirtual 56, 3) := by decide +kernel
theorem dL_law_417 : decode cL_law 417 = .ok (.if_icmp .eq 494, 3) := by decide +kernel
theorem dL_law_420 : decode cL_law 420 = .ok (.iconst 0, 1) := by decide +kernel
theorem dL_law_421 : decode cL_law 421 = .ok (.ireturn, 1) := by decide +kernel
theorem dL_law_422 : decode cL_law 422 = .ok (.aload_n 1, 1) := by decide +kernel
theorem dL_law_423 : decode cL_law 423 = .ok (.invokevirtual 57, 3) := by decide +kernel
theorem dL_law_426 : decode cL_law 426 = .ok (.aload_n 2, 1) := by decide +kernel
theorem dL_law_427 : decode cL_law 427 = .ok (.invokevirtual 60, 3) := by decide +kernel
theorem dL_law_430 : decode cL_law 430 = .ok (.if_icmp .eq 481, 3) := by decide +kernel
theorem dL_law_433 : decode cL_law 433 = .ok (.iconst 0, 1) := by decide +kernel
theorem dL_law_434 : decode cL_law 434 = .ok (.ireturn, 1) := by decide +kernel
theorem dL_law_435 : decode cL_law 435 = .ok (.aload_n 1, 1) := by decide +kernel
theorem dL_law_436 : decode cL_law 436 = .ok (.invokevirtual 61, 3) := by decide +kernel
theorem dL_law_439 : decode cL_law 439 = .ok (.aload_n 2, 1) := by decide +kernel
theorem dL_law_440 : decode cL_law 440 = .ok (.invokevirtual 64, 3) := by decide +kernel
theorem dL_law_443 : decode cL_law 443 = .ok (.if_icmp .eq 468, 3) := by decide +kernel
theorem dL_law_446 : decode cL_law 446 = .ok (.iconst 0, 1) := by decide +kernel
theorem dL_law_447 : decode cL_law 447 = .ok (.ireturn, 1) := by decide +kernel
theorem dL_law_448 : decode cL_law 448 = .ok (.aload_n 1, 1) := by decide +kernel
theorem dL_law_449 : decode cL_law 449 = .ok (.aload_n 0, 1) := by decide +kernel
theorem dL_law_450 : decode cL_law 450 = .ok (.iload_n 3, 1) := by decide +kernel
theorem dL_law_451 : decode cL_law 451 = .ok (.iconst 1, 1) := by decide +kernel
theorem dL_law_452 : decode cL_law 452 = .ok (.iadd, 1) := by decide +kernel
theorem dL_law_453 : decode cL_law 453 = .ok (.iaload, 1) := by decide +kernel
theorem dL_law_454 : decode cL_law 454 = .ok (.aload_n 0, 1) := by decide +kernel
theorem dL_law_455 : decode cL_law 455 = .ok (.iload_n 3, 1) := by decide +kernel
theorem dL_law_456 : decode cL_law 456 = .ok (.iconst 2, 1) := by decide +kernel
theorem dL_law_457 : decode cL_law 457 = .ok (.iadd, 1) := by decide +kernel
theorem dL_law_458 : decode cL_law 458 = .ok (.iaload, 1) := by decide +kernel
theorem dL_law_459 : decode cL_law 459 = .ok (.invokevirtual 65, 3) := by decide +kernel
theorem dL_law_462 : decode cL_law 462 = .ok (.aload_n 2, 1) := by decide +kernel
theorem dL_law_463 : decode cL_law 463 = .ok (.aload_n 0, 1) := by decide +kernel
theorem dL_law_464 : decode cL_law 464 = .ok (.iload_n 3, 1) := by decide +kernel
theorem dL_law_465 : decode cL_law 465 = .ok (.iconst 1, 1) := by decide +kernel
theorem dL_law_466 : decode cL_law 466 = .ok (.iadd, 1) := by decide +kernel
theorem dL_law_467 : decode cL_law 467 = .ok (.iaload, 1) := by decide +kernel
theorem dL_law_468 : decode cL_law 468 = .ok (.aload_n 0, 1) := by decide +kernel
theorem dL_law_469 : decode cL_law 469 = .ok (.iload_n 3, 1) := by decide +kernel
theorem dL_law_470 : decode cL_law 470 = .ok (.iconst 2, 1) := by decide +kernel
theorem dL_law_471 : decode cL_law 471 = .ok (.iadd, 1) := by decide +kernel
theorem dL_law_472 : decode cL_law 472 = .ok (.iaload, 1) := by decide +kernel
theorem dL_law_473 : decode cL_law 473 = .ok (.invokevirtual 68, 3) := by decide +kernel
theorem dL_law_476 : decode cL_law 476 = .ok (.if_icmp .eq 435, 3) := by decide +kernel
theorem dL_law_479 : decode cL_law 479 = .ok (.iconst 0, 1) := by decide +kernel
theorem dL_law_480 : decode cL_law 480 = .ok (.ireturn, 1) := by decide +kernel
theorem dL_law_481 : decode cL_law 481 = .ok (.aload_n 1, 1) := by decide +kernel
theorem dL_law_482 : decode cL_law 482 = .ok (.aload_n 0, 1) := by decide +kernel
theorem dL_law_483 : decode cL_law 483 = .ok (.iload_n 3, 1) := by decide +kernel
theorem dL_law_484 : decode cL_law 484 = .ok (.iconst 1, 1) := by decide +kernel
theorem dL_law_485 : decode cL_law 485 = .ok (.iadd, 1) := by decide +kernel
theorem dL_law_486 : decode cL_law 486 = .ok (.iaload, 1) := by decide +kernel
theorem dL_law_487 : decode cL_law 487 = .ok (.invokevirtual 69, 3) := by decide +kernel
theorem dL_law_490 : decode cL_law 490 = .ok (.aload_n 2, 1) := by decide +kernel
theorem dL_law_491 : decode cL_law 491 = .ok (.aload_n 0, 1) := by decide +kernel
theorem dL_law_492 : decode cL_law 492 = .ok (.iload_n 3, 1) := by decide +kernel
theorem dL_law_493 : decode cL_law 493 = .ok (.iconst 1, 1) := by decide +kernel
theorem dL_law_494 : decode cL_law 494 = .ok (.iadd, 1) := by decide +kernel
theorem dL_law_495 : decode cL_law 495 = .ok (.iaload, 1) := by decide +kernel
theorem dL_law_496 : decode cL_law 496 = .ok (.invokevirtual 72, 3) := by decide +kernel
theorem dL_law_499 : decode cL_law 499 = .ok (.if_icmp .eq 412, 3) := by decide +kernel
theorem dL_law_502 : decode cL_law 502 = .ok (.iconst 0, 1) := by decide +kernel
theorem dL_law_503 : decode cL_law 503 = .ok (.ireturn, 1) := by decide +kernel
theorem dL_law_504 : decode cL_law 504 = .ok (.aload_n 1, 1) := by decide +kernel
theorem dL_law_505 : decode cL_law 505 = .ok (.aload_n 0, 1) := by decide +kernel
theorem dL_law_506 : decode cL_law 506 = .ok (.iload_n 3, 1) := by decide +kernel
theorem dL_law_507 : decode cL_law 507 = .ok (.iconst 1, 1) := by decide +kernel
theorem dL_law_508 : decode cL_law 508 = .ok (.iadd, 1) := by decide +kernel
theorem dL_law_509 : decode cL_law 509 = .ok (.iaload, 1) := by decide +kernel
theorem dL_law_510 : decode cL_law 510 = .ok (.aload_n 0, 1) := by decide +kernel
theorem dL_law_511 : decode cL_law 511 = .ok (.iload_n 3, 1) := by decide +kernel
theorem dL_law_512 : decode cL_law 512 = .ok (.iconst 2, 1) := by decide +kernel
theorem dL_law_513 : decode cL_law 513 = .ok (.iadd, 1) := by decide +kernel
theorem dL_law_514 : decode cL_law 514 = .ok (.iaload, 1) := by decide +kernel
theorem dL_law_515 : decode cL_law 515 = .ok (.invokevirtual 73, 3) := by decide +kernel
theorem dL_law_518 : decode cL_law 518 = .ok (.aload_n 2, 1) := by decide +kernel
theorem dL_law_519 : decode cL_law 519 = .ok (.aload_n 0, 1) := by decide +kernel
theorem dL_law_520 : decode cL_law 520 = .ok (.iload_n 3, 1) := by decide +kernel
theorem dL_law_521 : decode cL_law 521 = .ok (.iconst 1, 1) := by decide +kernel
theorem dL_law_522 : decode cL_law 522 = .ok (.iadd, 1) := by decide +kernel
theorem dL_law_523 : decode cL_law 523 = .ok (.iaload, 1) := by decide +kernel
theorem dL_law_524 : decode cL_law 524 = .ok (.aload_n 0, 1) := by decide +kernel
theorem dL_law_525 : decode cL_law 525 = .ok (.iload_n 3, 1) := by decide +kernel
theorem dL_law_526 : decode cL_law 526 = .ok (.iconst 2, 1) := by decide +kernel
theorem dL_law_527 : decode cL_law 527 = .ok (.iadd, 1) := by decide +kernel
theorem dL_law_528 : decode cL_law 528 = .ok (.iaload, 1) := by decide +kernel
theorem dL_law_529 : decode cL_law 529 = .ok (.invokevirtual 76, 3) := by decide +kernel
theorem dL_law_532 : decode cL_law 532 = .ok (.if_icmp .eq 379, 3) := by decide +kernel
theorem dL_law_535 : decode cL_law 535 = .ok (.iconst 0, 1) := by decide +kernel
theorem dL_law_536 : decode cL_law 536 = .ok (.ireturn, 1) := by decide +kernel
theorem dL_law_537 : decode cL_law 537 = .ok (.aload_n 1, 1) := by decide +kernel
theorem dL_law_538 : decode cL_law 538 = .ok (.aload_n 0, 1) := by decide +kernel
theorem dL_law_539 : decode cL_law 539 = .ok (.iload_n 3, 1) := by decide +kernel
theorem dL_law_540 : decode cL_law 540 = .ok (.iconst 1, 1) := by decide +kernel
theorem dL_law_541 : decode cL_law 541 = .ok (.iadd, 1) := by decide +kernel
theorem dL_law_542 : decode cL_law 542 = .ok (.iaload, 1) := by decide +kernel
theorem dL_law_543 : decode cL_law 543 = .ok (.aload_n 0, 1) := by decide +kernel
theorem dL_law_544 : decode cL_law 544 = .ok (.iload_n 3, 1) := by decide +kernel
theorem dL_law_545 : decode cL_law 545 = .ok (.iconst 2, 1) := by decide +kernel
theorem dL_law_546 : decode cL_law 546 = .ok (.iadd, 1) := by decide +kernel
theorem dL_law_547 : decode cL_law 547 = .ok (.iaload, 1) := by decide +kernel
theorem dL_law_548 : decode cL_law 548 = .ok (.invokevirtual 77, 3) := by decide +kernel
theorem dL_law_551 : decode cL_law 551 = .ok (.aload_n 2, 1) := by decide +kernel
theorem dL_law_552 : decode cL_law 552 = .ok (.aload_n 0, 1) := by decide +kernel
theorem dL_law_553 : decode cL_law 553 = .ok (.iload_n 3, 1) := by decide +kernel
theorem dL_law_554 : decode cL_law 554 = .ok (.iconst 1, 1) := by decide +kernel
theorem dL_law_555 : decode cL_law 555 = .ok (.iadd, 1) := by decide +kernel
theorem dL_law_556 : decode cL_law 556 = .ok (.iaload, 1) := by decide +kernel
theorem dL_law_557 : decode cL_law 557 = .ok (.aload_n 0, 1) := by decide +kernel
theorem dL_law_558 : decode cL_law 558 = .ok (.iload_n 3, 1) := by decide +kernel
theorem dL_law_559 : decode cL_law 559 = .ok (.iconst 2, 1) := by decide +kernel
theorem dL_law_560 : decode cL_law 560 = .ok (.iadd, 1) := by decide +kernel
theorem dL_law_561 : decode cL_law 561 = .ok (.iaload, 1) := by decide +kernel
theorem dL_law_562 : decode cL_law 562 = .ok (.invokevirtual 80, 3) := by decide +kernel
theorem dL_law_565 : decode cL_law 565 = .ok (.if_icmp .eq 346, 3) := by decide +kernel
theorem dL_law_568 : decode cL_law 568 = .ok (.iconst 0, 1) := by decide +kernel
theorem dL_law_569 : decode cL_law 569 = .ok (.ireturn, 1) := by decide +kernel
theorem dL_law_570 : decode cL_law 570 = .ok (.aload_n 1, 1) := by decide +kernel
theorem dL_law_571 : decode cL_law 571 = .ok (.invokevirtual 81, 3) := by decide +kernel
theorem dL_law_574 : decode cL_law 574 = .ok (.aload_n 2, 1) := by decide +kernel
theorem dL_law_575 : decode cL_law 575 = .ok (.invokevirtual 84, 3) := by decide +kernel
theorem dL_law_578 : decode cL_law 578 = .ok (.if_icmp .eq 333, 3) := by decide +kernel
theorem dL_law_581 : decode cL_law 581 = .ok (.iconst 0, 1) := by decide +kernel
theorem dL_law_582 : decode cL_law 582 = .ok (.ireturn, 1) := by decide +kernel
theorem dL_law_583 : decode cL_law 583 = .ok (.aload_n 1, 1) := by decide +kernel
theorem dL_law_584 : decode cL_law 584 = .ok (.aload_n 0, 1) := by decide +kernel
theorem dL_law_585 : decode cL_law 585 = .ok (.iload_n 3, 1) := by decide +kernel
theorem dL_law_586 : decode cL_law 586 = .ok (.iconst 1, 1) := by decide +kernel
theorem dL_law_587 : decode cL_law 587 = .ok (.iadd, 1) := by decide +kernel
theorem dL_law_588 : decode cL_law 588 = .ok (.iaload, 1) := by decide +kernel
theorem dL_law_589 : decode cL_law 589 = .ok (.aload_n 0, 1) := by decide +kernel
theorem dL_law_590 : decode cL_law 590 = .ok (.iload_n 3, 1) := by decide +kernel
theorem dL_law_591 : decode cL_law 591 = .ok (.iconst 2, 1) := by decide +kernel
theorem dL_law_592 : decode cL_law 592 = .ok (.iadd, 1) := by decide +kernel
theorem dL_law_593 : decode cL_law 593 = .ok (.iaload, 1) := by decide +kernel
theorem dL_law_594 : decode cL_law 594 = .ok (.aload_n 0, 1) := by decide +kernel
theorem dL_law_595 : decode cL_law 595 = .ok (.iload_n 3, 1) := by decide +kernel
theorem dL_law_596 : decode cL_law 596 = .ok (.iconst 3, 1) := by decide +kernel
theorem dL_law_597 : decode cL_law 597 = .ok (.iadd, 1) := by decide +kernel
theorem dL_law_598 : decode cL_law 598 = .ok (.iaload, 1) := by decide +kernel
theorem dL_law_599 : decode cL_law 599 = .ok (.invokevirtual 85, 3) := by decide +kernel
theorem dL_law_602 : decode cL_law 602 = .ok (.aload_n 2, 1) := by decide +kernel
theorem dL_law_603 : decode cL_law 603 = .ok (.aload_n 0, 1) := by decide +kernel
theorem dL_law_604 : decode cL_law 604 = .ok (.iload_n 3, 1) := by decide +kernel
theorem dL_law_605 : decode cL_law 605 = .ok (.iconst 1, 1) := by decide +kernel
theorem dL_law_606 : decode cL_law 606 = .ok (.iadd, 1) := by decide +kernel
theorem dL_law_607 : decode cL_law 607 = .ok (.iaload, 1) := by decide +kernel
theorem dL_law_608 : decode cL_law 608 = .ok (.aload_n 0, 1) := by decide +kernel
theorem dL_law_609 : decode cL_law 609 = .ok (.iload_n 3, 1) := by decide +kernel
theorem dL_law_610 : decode cL_law 610 = .ok (.iconst 2, 1) := by decide +kernel
theorem dL_law_611 : decode cL_law 611 = .ok (.iadd, 1) := by decide +kernel
theorem dL_law_612 : decode cL_law 612 = .ok (.iaload, 1) := by decide +kernel
theorem dL_law_613 : decode cL_law 613 = .ok (.aload_n 0, 1) := by decide +kernel
theorem dL_law_614 : decode cL_law 614 = .ok (.iload_n 3, 1) := by decide +kernel
theorem dL_law_615 : decode cL_law 615 = .ok (.iconst 3, 1) := by decide +kernel
theorem dL_law_616 : decode cL_law 616 = .ok (.iadd, 1) := by decide +kernel
theorem dL_law_617 : decode cL_law 617 = .ok (.iaload, 1) := by decide +kernel
theorem dL_law_618 : decode cL_law 618 = .ok (.invokevirtual 88, 3) := by decide +kernel
theorem dL_law_621 : decode cL_law 621 = .ok (.if_icmp .eq 290, 3) := by decide +kernel
theorem dL_law_624 : decode cL_law 624 = .ok (.iconst 0, 1) := by decide +kernel
theorem dL_law_625 : decode cL_law 625 = .ok (.ireturn, 1) := by decide +kernel
theorem dL_law_626 : decode cL_law 626 = .ok (.aload_n 1, 1) := by decide +kernel
theorem dL_law_627 : decode cL_law 627 = .ok (.aload_n 0, 1) := by decide +kernel
theorem dL_law_628 : decode cL_law 628 = .ok (.iload_n 3, 1) := by decide +kernel
theorem dL_law_629 : decode cL_law 629 = .ok (.iconst 1, 1) := by decide +kernel
theorem dL_law_630 : decode cL_law 630 = .ok (.iadd, 1) := by decide +kernel
theorem dL_law_631 : decode cL_law 631 = .ok (.iaload, 1) := by decide +kernel
theorem dL_law_632 : decode cL_law 632 = .ok (.invokevirtual 89, 3) := by decide +kernel
theorem dL_law_635 : decode cL_law 635 = .ok (.aload_n 2, 1) := by decide +kernel
theorem dL_law_636 : decode cL_law 636 = .ok (.aload_n 0, 1) := by decide +kernel
theorem dL_law_637 : decode cL_law 637 = .ok (.iload_n 3, 1) := by decide +kernel
theorem dL_law_638 : decode cL_law 638 = .ok (.iconst 1, 1) := by decide +kernel
theorem dL_law_639 : decode cL_law 639 = .ok (.iadd, 1) := by decide +kernel
theorem dL_law_640 : decode cL_law 640 = .ok (.iaload, 1) := by decide +kernel
theorem dL_law_641 : decode cL_law 641 = .ok (.invokevirtual 92, 3) := by decide +kernel
theorem dL_law_644 : decode cL_law 644 = .ok (.if_icmp .eq 267, 3) := by decide +kernel
theorem dL_law_647 : decode cL_law 647 = .ok (.iconst 0, 1) := by decide +kernel
theorem dL_law_648 : decode cL_law 648 = .ok (.ireturn, 1) := by decide +kernel
theorem dL_law_649 : decode cL_law 649 = .ok (.aload_n 1, 1) := by decide +kernel
theorem dL_law_650 : decode cL_law 650 = .ok (.aload_n 0, 1) := by decide +kernel
theorem dL_law_651 : decode cL_law 651 = .ok (.iload_n 3, 1) := by decide +kernel
theorem dL_law_652 : decode cL_law 652 = .ok (.iconst 1, 1) := by decide +kernel
theorem dL_law_653 : decode cL_law 653 = .ok (.iadd, 1) := by decide +kernel
theorem dL_law_654 : decode cL_law 654 = .ok (.iaload, 1) := by decide +kernel
theorem dL_law_655 : decode cL_law 655 = .ok (.aload_n 0, 1) := by decide +kernel
theorem dL_law_656 : decode cL_law 656 = .ok (.iload_n 3, 1) := by decide +kernel
theorem dL_law_657 : decode cL_law 657 = .ok (.iconst 2, 1) := by decide +kernel
theorem dL_law_658 : decode cL_law 658 = .ok (.iadd, 1) := by decide +kernel
theorem dL_law_659 : decode cL_law 659 = .ok (.iaload, 1) := by decide +kernel
theorem dL_law_660 : decode cL_law 660 = .ok (.aload_n 0, 1) := by decide +kernel
theorem dL_law_661 : decode cL_law 661 = .ok (.iload_n 3, 1) := by decide +kernel
theorem dL_law_662 : decode cL_law 662 = .ok (.iconst 3, 1) := by decide +kernel
theorem dL_law_663 : decode cL_law 663 = .ok (.iadd, 1) := by decide +kernel
theorem dL_law_664 : decode cL_law 664 = .ok (.iaload, 1) := by decide +kernel
theorem dL_law_665 : decode cL_law 665 = .ok (.aload_n 0, 1) := by decide +kernel
theorem dL_law_666 : decode cL_law 666 = .ok (.iload_n 3, 1) := by decide +kernel
theorem dL_law_667 : decode cL_law 667 = .ok (.iconst 4, 1) := by decide +kernel
theorem dL_law_668 : decode cL_law 668 = .ok (.iadd, 1) := by decide +kernel
theorem dL_law_669 : decode cL_law 669 = .ok (.iaload, 1) := by decide +kernel
theorem dL_law_670 : decode cL_law 670 = .ok (.invokevirtual 93, 3) := by decide +kernel
theorem dL_law_673 : decode cL_law 673 = .ok (.aload_n 2, 1) := by decide +kernel
theorem dL_law_674 : decode cL_law 674 = .ok (.aload_n 0, 1) := by decide +kernel
theorem dL_law_675 : decode cL_law 675 = .ok (.iload_n 3, 1) := by decide +kernel
theorem dL_law_676 : decode cL_law 676 = .ok (.iconst 1, 1) := by decide +kernel
theorem dL_law_677 : decode cL_law 677 = .ok (.iadd, 1) := by decide +kernel
theorem dL_law_678 : decode cL_law 678 = .ok (.iaload, 1) := by decide +kernel
theorem dL_law_679 : decode cL_law 679 = .ok (.aload_n 0, 1) := by decide +kernel
theorem dL_law_680 : decode cL_law 680 = .ok (.iload_n 3, 1) := by decide +kernel
theorem dL_law_681 : decode cL_law 681 = .ok (.iconst 2, 1) := by decide +kernel
theorem dL_law_682 : decode cL_law 682 = .ok (.iadd, 1) := by decide +kernel
theorem dL_law_683 : decode cL_law 683 = .ok (.iaload, 1) := by decide +kernel
theorem dL_law_684 : decode cL_law 684 = .ok (.aload_n 0, 1) := by decide +kernel
theorem dL_law_685 : decode cL_law 685 = .ok (.iload_n 3, 1) := by decide +kernel
theorem dL_law_686 : decode cL_law 686 = .ok (.iconst 3, 1) := by decide +kernel
theorem dL_law_687 : decode cL_law 687 = .ok (.iadd, 1) := by decide +kernel
theorem dL_law_688 : decode cL_law 688 = .ok (.iaload, 1) := by decide +kernel
theorem dL_law_689 : decode cL_law 689 = .ok (.aload_n 0, 1) := by decide +kernel
theorem dL_law_690 : decode cL_law 690 = .ok (.iload_n 3, 1) := by decide +kernel
theorem dL_law_691 : decode cL_law 691 = .ok (.iconst 4, 1) := by decide +kernel
theorem dL_law_692 : decode cL_law 692 = .ok (.iadd, 1) := by decide +kernel
theorem dL_law_693 : decode cL_law 693 = .ok (.iaload, 1) := by decide +kernel
theorem dL_law_694 : decode cL_law 694 = .ok (.invokevirtual 97, 3) := by decide +kernel
theorem dL_law_697 : decode cL_law 697 = .ok (.if_icmp .eq 214, 3) := by decide +kernel
theorem dL_law_700 : decode cL_law 700 = .ok (.iconst 0, 1) := by decide +kernel
theorem dL_law_701 : decode cL_law 701 = .ok (.ireturn, 1) := by decide +kernel
theorem dL_law_702 : decode cL_law 702 = .ok (.aload_n 1, 1) := by decide +kernel
theorem dL_law_703 : decode cL_law 703 = .ok (.aload_n 0, 1) := by decide +kernel
theorem dL_law_704 : decode cL_law 704 = .ok (.iload_n 3, 1) := by decide +kernel
theorem dL_law_705 : decode cL_law 705 = .ok (.iconst 1, 1) := by decide +kernel
theorem dL_law_706 : decode cL_law 706 = .ok (.iadd, 1) := by decide +kernel
theorem dL_law_707 : decode cL_law 707 = .ok (.iaload, 1) := by decide +kernel
theorem dL_law_708 : decode cL_law 708 = .ok (.aload_n 0, 1) := by decide +kernel
theorem dL_law_709 : decode cL_law 709 = .ok (.iload_n 3, 1) := by decide +kernel
theorem dL_law_710 : decode cL_law 710 = .ok (.iconst 2, 1) := by decide +kernel
theorem dL_law_711 : decode cL_law 711 = .ok (.iadd, 1) := by decide +kernel
theorem dL_law_712 : decode cL_law 712 = .ok (.iaload, 1) := by decide +kernel
theorem dL_law_713 : decode cL_law 713 = .ok (.aload_n 0, 1) := by decide +kernel
theorem dL_law_714 : decode cL_law 714 = .ok (.iload_n 3, 1) := by decide +kernel
theorem dL_law_715 : decode cL_law 715 = .ok (.iconst 3, 1) := by decide +kernel
theorem dL_law_716 : decode cL_law 716 = .ok (.iadd, 1) := by decide +kernel
theorem dL_law_717 : decode cL_law 717 = .ok (.iaload, 1) := by decide +kernel
theorem dL_law_718 : decode cL_law 718 = .ok (.invokevirtual 98, 3) := by decide +kernel
theorem dL_law_721 : decode cL_law 721 = .ok (.aload_n 2, 1) := by decide +kernel
theorem dL_law_722 : decode cL_law 722 = .ok (.aload_n 0, 1) := by decide +kernel
theorem dL_law_723 : decode cL_law 723 = .ok (.iload_n 3, 1) := by decide +kernel
theorem dL_law_724 : decode cL_law 724 = .ok (.iconst 1, 1) := by decide +kernel
theorem dL_law_725 : decode cL_law 725 = .ok (.iadd, 1) := by decide +kernel
theorem dL_law_726 : decode cL_law 726 = .ok (.iaload, 1) := by decide +kernel
theorem dL_law_727 : decode cL_law 727 = .ok (.aload_n 0, 1) := by decide +kernel
theorem dL_law_728 : decode cL_law 728 = .ok (.iload_n 3, 1) := by decide +kernel
theorem dL_law_729 : decode cL_law 729 = .ok (.iconst 2, 1) := by decide +kernel
theorem dL_law_730 : decode cL_law 730 = .ok (.iadd, 1) := by decide +kernel
theorem dL_law_731 : decode cL_law 731 = .ok (.iaload, 1) := by decide +kernel
theorem dL_law_732 : decode cL_law 732 = .ok (.aload_n 0, 1) := by decide +kernel
theorem dL_law_733 : decode cL_law 733 = .ok (.iload_n 3, 1) := by decide +kernel
theorem dL_law_734 : decode cL_law 734 = .ok (.iconst 3, 1) := by decide +kernel
theorem dL_law_735 : decode cL_law 735 = .ok (.iadd, 1) := by decide +kernel
theorem dL_law_736 : decode cL_law 736 = .ok (.iaload, 1) := by decide +kernel
theorem dL_law_737 : decode cL_law 737 = .ok (.invokevirtual 101, 3) := by decide +kernel
theorem dL_law_740 : decode cL_law 740 = .ok (.if_icmp .eq 171, 3) := by decide +kernel
theorem dL_law_743 : decode cL_law 743 = .ok (.iconst 0, 1) := by decide +kernel
theorem dL_law_744 : decode cL_law 744 = .ok (.ireturn, 1) := by decide +kernel
theorem dL_law_745 : decode cL_law 745 = .ok (.aload_n 1, 1) := by decide +kernel
theorem dL_law_746 : decode cL_law 746 = .ok (.aload_n 0, 1) := by decide +kernel
theorem dL_law_747 : decode cL_law 747 = .ok (.iload_n 3, 1) := by decide +kernel
theorem dL_law_748 : decode cL_law 748 = .ok (.iconst 1, 1) := by decide +kernel
theorem dL_law_749 : decode cL_law 749 = .ok (.iadd, 1) := by decide +kernel
theorem dL_law_750 : decode cL_law 750 = .ok (.iaload, 1) := by decide +kernel
theorem dL_law_751 : decode cL_law 751 = .ok (.aload_n 0, 1) := by decide +kernel
theorem dL_law_752 : decode cL_law 752 = .ok (.iload_n 3, 1) := by decide +kernel
theorem dL_law_753 : decode cL_law 753 = .ok (.iconst 2, 1) := by decide +kernel
theorem dL_law_754 : decode cL_law 754 = .ok (.iadd, 1) := by decide +kernel
theorem dL_law_755 : decode cL_law 755 = .ok (.iaload, 1) := by decide +kernel
theorem dL_law_756 : decode cL_law 756 = .ok (.aload_n 0, 1) := by decide +kernel
theorem dL_law_757 : decode cL_law 757 = .ok (.iload_n 3, 1) := by decide +kernel
theorem dL_law_758 : decode cL_law 758 = .ok (.iconst 3, 1) := by decide +kernel
theorem dL_law_759 : decode cL_law 759 = .ok (.iadd, 1) := by decide +kernel
theorem dL_law_760 : decode cL_law 760 = .ok (.iaload, 1) := by decide +kernel
theorem dL_law_761 : decode cL_law 761 = .ok (.aload_n 0, 1) := by decide +kernel
theorem dL_law_762 : decode cL_law 762 = .ok (.iload_n 3, 1) := by decide +kernel
theorem dL_law_763 : decode cL_law 763 = .ok (.iconst 4, 1) := by decide +kernel
theorem dL_law_764 : decode cL_law 764 = .ok (.iadd, 1) := by decide +kernel
theorem dL_law_765 : decode cL_law 765 = .ok (.iaload, 1) := by decide +kernel
theorem dL_law_766 : decode cL_law 766 = .ok (.aload_n 0, 1) := by decide +kernel
theorem dL_law_767 : decode cL_law 767 = .ok (.iload_n 3, 1) := by decide +kernel
theorem dL_law_768 : decode cL_law 768 = .ok (.iconst 5, 1) := by decide +kernel
theorem dL_law_769 : decode cL_law 769 = .ok (.iadd, 1) := by decide +kernel
theorem dL_law_770 : decode cL_law 770 = .ok (.iaload, 1) := by decide +kernel
theorem dL_law_771 : decode cL_law 771 = .ok (.invokevirtual 102, 3) := by decide +kernel
theorem dL_law_774 : decode cL_law 774 = .ok (.aload_n 2, 1) := by decide +kernel
theorem dL_law_775 : decode cL_law 775 = .ok (.aload_n 0, 1) := by decide +kernel
theorem dL_law_776 : decode cL_law 776 = .ok (.iload_n 3, 1) := by decide +kernel
theorem dL_law_777 : decode cL_law 777 = .ok (.iconst 1, 1) := by decide +kernel
theorem dL_law_778 : decode cL_law 778 = .ok (.iadd, 1) := by decide +kernel
theorem dL_law_779 : decode cL_law 779 = .ok (.iaload, 1) := by decide +kernel
theorem dL_law_780 : decode cL_law 780 = .ok (.aload_n 0, 1) := by decide +kernel
theorem dL_law_781 : decode cL_law 781 = .ok (.iload_n 3, 1) := by decide +kernel
theorem dL_law_782 : decode cL_law 782 = .ok (.iconst 2, 1) := by decide +kernel
theorem dL_law_783 : decode cL_law 783 = .ok (.iadd, 1) := by decide +kernel
theorem dL_law_784 : decode cL_law 784 = .ok (.iaload, 1) := by decide +kernel
theorem dL_law_785 : decode cL_law 785 = .ok (.aload_n 0, 1) := by decide +kernel
theorem dL_law_786 : decode cL_law 786 = .ok (.iload_n 3, 1) := by decide +kernel
theorem dL_law_787 : decode cL_law 787 = .ok (.iconst 3, 1) := by decide +kernel
theorem dL_law_788 : decode cL_law 788 = .ok (.iadd, 1) := by decide +kernel
theorem dL_law_789 : decode cL_law 789 = .ok (.iaload, 1) := by decide +kernel
theorem dL_law_790 : decode cL_law 790 = .ok (.aload_n 0, 1) := by decide +kernel
theorem dL_law_791 : decode cL_law 791 = .ok (.iload_n 3, 1) := by decide +kernel
theorem dL_law_792 : decode cL_law 792 = .ok (.iconst 4, 1) := by decide +kernel
theorem dL_law_793 : decode cL_law 793 = .ok (.iadd, 1) := by decide +kernel
theorem dL_law_794 : decode cL_law 794 = .ok (.iaload, 1) := by decide +kernel
theorem dL_law_795 : decode cL_law 795 = .ok (.aload_n 0, 1) := by decide +kernel
theorem dL_law_796 : decode cL_law 796 = .ok (.iload_n 3, 1) := by decide +kernel
theorem dL_law_797 : decode cL_law 797 = .ok (.iconst 5, 1) := by decide +kernel
theorem dL_law_798 : decode cL_law 798 = .ok (.iadd, 1) := by decide +kernel
theorem dL_law_799 : decode cL_law 799 = .ok (.iaload, 1) := by decide +kernel
theorem dL_law_800 : decode cL_law 800 = .ok (.invokevirtual 106, 3) := by decide +kernel
theorem dL_law_803 : decode cL_law 803 = .ok (.if_icmp .eq 108, 3) := by decide +kernel
theorem dL_law_806 : decode cL_law 806 = .ok (.iconst 0, 1) := by decide +kernel
theorem dL_law_807 : decode cL_law 807 = .ok (.ireturn, 1) := by decide +kernel
theorem dL_law_808 : decode cL_law 808 = .ok (.aload_n 1, 1) := by decide +kernel
theorem dL_law_809 : decode cL_law 809 = .ok (.aload_n 0, 1) := by decide +kernel
theorem dL_law_810 : decode cL_law 810 = .ok (.iload_n 3, 1) := by decide +kernel
theorem dL_law_811 : decode cL_law 811 = .ok (.iconst 1, 1) := by decide +kernel
theorem dL_law_812 : decode cL_law 812 = .ok (.iadd, 1) := by decide +kernel
theorem dL_law_813 : decode cL_law 813 = .ok (.iaload, 1) := by decide +kernel
theorem dL_law_814 : decode cL_law 814 = .ok (.aload_n 0, 1) := by decide +kernel
theorem dL_law_815 : decode cL_law 815 = .ok (.iload_n 3, 1) := by decide +kernel
theorem dL_law_816 : decode cL_law 816 = .ok (.iconst 2, 1) := by decide +kernel
theorem dL_law_817 : decode cL_law 817 = .ok (.iadd, 1) := by decide +kernel
theorem dL_law_818 : decode cL_law 818 = .ok (.iaload, 1) := by decide +kernel
theorem dL_law_819 : decode cL_law 819 = .ok (.invokevirtual 107, 3) := by decide +kernel
theorem dL_law_822 : decode cL_law 822 = .ok (.aload_n 2, 1) := by decide +kernel
theorem dL_law_823 : decode cL_law 823 = .ok (.aload_n 0, 1) := by decide +kernel
theorem dL_law_824 : decode cL_law 824 = .ok (.iload_n 3, 1) := by decide +kernel
theorem dL_law_825 : decode cL_law 825 = .ok (.iconst 1, 1) := by decide +kernel
theorem dL_law_826 : decode cL_law 826 = .ok (.iadd, 1) := by decide +kernel
theorem dL_law_827 : decode cL_law 827 = .ok (.iaload, 1) := by decide +kernel
theorem dL_law_828 : decode cL_law 828 = .ok (.aload_n 0, 1) := by decide +kernel
theorem dL_law_829 : decode cL_law 829 = .ok (.iload_n 3, 1) := by decide +kernel
theorem dL_law_830 : decode cL_law 830 = .ok (.iconst 2, 1) := by decide +kernel
theorem dL_law_831 : decode cL_law 831 = .ok (.iadd, 1) := by decide +kernel
theorem dL_law_832 : decode cL_law 832 = .ok (.iaload, 1) := by decide +kernel
theorem dL_law_833 : decode cL_law 833 = .ok (.invokevirtual 110, 3) := by decide +kernel
theorem dL_law_836 : decode cL_law 836 = .ok (.if_icmp .eq 75, 3) := by decide +kernel
theorem dL_law_839 : decode cL_law 839 = .ok (.iconst 0, 1) := by decide +kernel
theorem dL_law_840 : decode cL_law 840 = .ok (.ireturn, 1) := by decide +kernel
theorem dL_law_841 : decode cL_law 841 = .ok (.aload_n 1, 1) := by decide +kernel
theorem dL_law_842 : decode cL_law 842 = .ok (.aload_n 0, 1) := by decide +kernel
theorem dL_law_843 : decode cL_law 843 = .ok (.iload_n 3, 1) := by decide +kernel
theorem dL_law_844 : decode cL_law 844 = .ok (.iconst 1, 1) := by decide +kernel
theorem dL_law_845 : decode cL_law 845 = .ok (.iadd, 1) := by decide +kernel
theorem dL_law_846 : decode cL_law 846 = .ok (.iaload, 1) := by decide +kernel
theorem dL_law_847 : decode cL_law 847 = .ok (.aload_n 0, 1) := by decide +kernel
theorem dL_law_848 : decode cL_law 848 = .ok (.iload_n 3, 1) := by decide +kernel
theorem dL_law_849 : decode cL_law 849 = .ok (.iconst 2, 1) := by decide +kernel
theorem dL_law_850 : decode cL_law 850 = .ok (.iadd, 1) := by decide +kernel
theorem dL_law_851 : decode cL_law 851 = .ok (.iaload, 1) := by decide +kernel
theorem dL_law_852 : decode cL_law 852 = .ok (.invokevirtual 111, 3) := by decide +kernel
theorem dL_law_855 : decode cL_law 855 = .ok (.aload_n 2, 1) := by decide +kernel
theorem dL_law_856 : decode cL_law 856 = .ok (.aload_n 0, 1) := by decide +kernel
theorem dL_law_857 : decode cL_law 857 = .ok (.iload_n 3, 1) := by decide +kernel
theorem dL_law_858 : decode cL_law 858 = .ok (.iconst 1, 1) := by decide +kernel
theorem dL_law_859 : decode cL_law 859 = .ok (.iadd, 1) := by decide +kernel
theorem dL_law_860 : decode cL_law 860 = .ok (.iaload, 1) := by decide +kernel
theorem dL_law_861 : decode cL_law 861 = .ok (.aload_n 0, 1) := by decide +kernel
theorem dL_law_862 : decode cL_law 862 = .ok (.iload_n 3, 1) := by decide +kernel
theorem dL_law_863 : decode cL_law 863 = .ok (.iconst 2, 1) := by decide +kernel
theorem dL_law_864 : decode cL_law 864 = .ok (.iadd, 1) := by decide +kernel
theorem dL_law_865 : decode cL_law 865 = .ok (.iaload, 1) := by decide +kernel
theorem dL_law_866 : decode cL_law 866 = .ok (.invokevirtual 114, 3) := by decide +kernel
theorem dL_law_869 : decode cL_law 869 = .ok (.if_icmp .eq 42, 3) := by decide +kernel
theorem dL_law_872 : decode cL_law 872 = .ok (.iconst 0, 1) := by decide +kernel
theorem dL_law_873 : decode cL_law 873 = .ok (.ireturn, 1) := by decide +kernel
theorem dL_law_874 : decode cL_law 874 = .ok (.aload_n 1, 1) := by decide +kernel
theorem dL_law_875 : decode cL_law 875 = .ok (.aload_n 0, 1) := by decide +kernel
theorem dL_law_876 : decode cL_law 876 = .ok (.iload_n 3, 1) := by decide +kernel
theorem dL_law_877 : decode cL_law 877 = .ok (.iconst 1, 1) := by decide +kernel
theorem dL_law_878 : decode cL_law 878 = .ok (.iadd, 1) := by decide +kernel
theorem dL_law_879 : decode cL_law 879 = .ok (.iaload, 1) := by decide +kernel
theorem dL_law_880 : decode cL_law 880 = .ok (.invokevirtual 115, 3) := by decide +kernel
theorem dL_law_883 : decode cL_law 883 = .ok (.aload_n 2, 1) := by decide +kernel
theorem dL_law_884 : decode cL_law 884 = .ok (.aload_n 0, 1) := by decide +kernel
theorem dL_law_885 : decode cL_law 885 = .ok (.iload_n 3, 1) := by decide +kernel
theorem dL_law_886 : decode cL_law 886 = .ok (.iconst 1, 1) := by decide +kernel
theorem dL_law_887 : decode cL_law 887 = .ok (.iadd, 1) := by decide +kernel
theorem dL_law_888 : decode cL_law 888 = .ok (.iaload, 1) := by decide +kernel
theorem dL_law_889 : decode cL_law 889 = .ok (.invokevirtual 118, 3) := by decide +kernel
theorem dL_law_892 : decode cL_law 892 = .ok (.if_icmp .eq 19, 3) := by decide +kernel
theorem dL_law_895 : decode cL_law 895 = .ok (.iconst 0, 1) := by decide +kernel
theorem dL_law_896 : decode cL_law 896 = .ok (.ireturn, 1) := by decide +kernel
theorem dL_law_897 : decode cL_law 897 = .ok (.aload_n 1, 1) := by decide +kernel
theorem dL_law_898 : decode cL_law 898 = .ok (.invokevirtual 119, 3) := by decide +kernel
theorem dL_law_901 : decode cL_law 901 = .ok (.aload_n 2, 1) := by decide +kernel
theorem dL_law_902 : decode cL_law 902 = .ok (.invokevirtual 123, 3) := by decide +kernel
theorem dL_law_905 : decode cL_law 905 = .ok (.lcmp, 1) := by decide +kernel
theorem dL_law_906 : decode cL_law 906 = .ok (.ifCond .eq 5, 3) := by decide +kernel
theorem dL_law_909 : decode cL_law 909 = .ok (.iconst 0, 1) := by decide +kernel
theorem dL_law_910 : decode cL_law 910 = .ok (.ireturn, 1) := by decide +kernel
theorem dL_law_911 : decode cL_law 911 = .ok (.iinc 3 6, 3) := by decide +kernel
theorem dL_law_914 : decode cL_law 914 = .ok (.goto (-896), 3) := by decide +kernel
theorem dL_law_917 : decode cL_law 917 = .ok (.iconst 1, 1) := by decide +kernel
theorem dL_law_918 : decode cL_law 918 = .ok (.ireturn, 1) := by decide +kernel
end
section
-- ===== memory, static world =====
/-- memory: cell number, slot: an int (a float's bits, a boolean's 0 or 1) -/
abbrev Mem : Type := Nat → Nat → Int32
def mset (M : Mem) (c k : Nat) (v : Int32) : Mem := fun i => if i = c then upd (M c) k v else M i
/-- what stands fixed: the tables' numbers, the address of each cell, the classes of arrays -/
abbrev SE : Type := va_G × (Nat → Nat) × (Nat → ClassId)
abbrev NC : Nat := 124
def kdL : List Nat := [11, 23, 10, 20, 10, 20, 10, 20, 24, 6, 20, 6, 20, 6, 20, 6, 20, 3, 8, 20, 20, 8, 20, 20, 7, 20, 20, 1, 26, 20, 20, 20, 20, 20, 20, 20, 20, 20, 20, 20, 20, 20, 20, 20, 25, 9, 9, 9, 9, 9, 9, 9, 9, 9, 9, 5, 0, 20, 20, 2, 20, 20, 20, 4, 20, 21, 20, 5, 0, 20, 20, 2, 20, 20, 20, 4, 20, 21, 20, 5, 0, 20, 20, 2, 20, 20, 20, 4, 20, 21, 20, 12, 20, 20, 20, 20, 20, 20, 20, 20, 20, 20, 20, 20, 20, 20, 20, 20, 20, 20, 20, 20, 20, 20, 20, 20, 20, 20, 20, 22, 20, 20, 20, 20]
def lnL : List Nat := [0, 3, 0, 29, 0, 29, 0, 12, 4, 0, 60, 0, 60, 0, 60, 0, 60, 0, 0, 10, 10, 0, 10, 10, 0, 12, 12, 0, 14, 220, 220, 220, 220, 220, 220, 220, 220, 220, 220, 220, 220, 220, 220, 14, 10, 0, 0, 0, 0, 0, 0, 0, 0, 0, 0, 0, 0, 14, 14, 0, 10, 10, 10, 0, 10, 10, 200, 0, 0, 14, 14, 0, 10, 10, 10, 0, 10, 10, 200, 0, 0, 14, 14, 0, 10, 10, 10, 0, 10, 10, 200, 0, 3, 90, 3, 2, 20, 20, 12, 12, 2, 20, 10, 2, 400, 300, 300, 300, 300, 300, 300, 12, 480, 480, 10, 10, 10, 20, 10, 4, 4, 4, 240, 60]
/-- what a cell is: 0 to 12 an object of that class of vwCl, 20 on an array -/
def kd (i : Nat) : Nat := kdL.getD i 99
def ln (i : Nat) : Nat := lnL.getD i 0
theorem kd_lt {i : Nat} (h : kd i ≠ 99) : i < NC := by
  rcases Nat.lt_or_ge i NC with q | q
  · exact q
  · refine absurd ?_ h
    unfold kd
    rw [List.getD_eq_getElem?_getD, List.getElem?_eq_none (by show kdL.length ≤ i; exact q)]
    rfl
def ent (ad : Nat → Nat) (cA : Nat → ClassId) (M : Mem) (i : Nat) : va_E := match kd i with
  | 0 => .inr (0, [.ref (ad (i + 1)), .ref (ad (i + 2)), .int (M i 2), .int (M i 3)])
  | 1 => .inr (1, [.ref (ad (i + 1)), .ref (ad (i + 16)), .ref (ad (i + 17))])
  | 2 => .inr (2, [.ref (ad (i + 1)), .ref (ad (i + 2)), .ref (ad (i + 3)), .int (M i 3)])
  | 3 => .inr (3, [.ref (ad (i + 1)), .ref (ad (i + 4)), .ref (ad (i + 7))])
  | 4 => .inr (4, [.ref (ad (i + 1)), .ref (ad (i + 2)), .ref (ad (i + 3)), .int (M i 3), .int (M i 4), .int (M i 5), .int (M i 6), .int (M i 7), .int (M i 8), .int (M i 9)])
  | 5 => .inr (5, [.ref (ad (i + 1)), .ref (ad (i + 4)), .ref (ad (i + 8)), .ref (ad 27), .int (M i 4), .int (M i 5)])
  | 6 => .inr (6, [.ref (ad (i + 1)), .int (M i 1), .int (M i 2)])
  | 7 => .inr (7, [.ref (ad (i + 1)), .ref (ad (i + 2)), .int (M i 2), .int (M i 3)])
  | 8 => .inr (8, [.ref (ad (i + 1)), .ref (ad (i + 2)), .int (M i 2), .int (M i 3)])
  | 9 => .inr (9, [.int (M i 0), .int (M i 1), .int (M i 2), .int (M i 3), .int (M i 4), .int (M i 5)])
  | 10 => .inr (10, [.ref (ad (i + 1)), .int (M i 1)])
  | 11 => .inr (11, [.ref (ad 1), .ref (ad 8), .ref (ad 17), .ref (ad 55), .ref (ad 67), .ref (ad 79), .int (M i 6), .int (M i 7), .int (M i 8)])
  | 12 => .inr (12, [.ref (ad (i + 1)), .ref (ad (i + 2)), .ref (ad (i + 3)), .ref (ad (i + 4)), .ref (ad (i + 5)), .ref (ad (i + 6)), .int (M i 6), .ref (ad (i + 7)), .ref (ad (i + 8)), .int (M i 9), .int (M i 10), .int (M i 11), .ref (ad (i + 9)), .ref (ad (i + 10)), .ref (ad (i + 11)), .ref (ad (i + 12)), .ref (ad (i + 13)), .int (M i 17), .ref (ad (i + 14)), .ref (ad (i + 15)), .ref (ad (i + 16)), .int (M i 21), .ref (ad (i + 17)), .ref (ad (i + 18)), .ref (ad (i + 19)), .ref (ad (i + 20)), .ref (ad (i + 21)), .ref (ad (i + 22)), .int (M i 28), .int (M i 29), .int (M i 30), .int (M i 31), .ref (ad (i + 23)), .ref (ad (i + 24)), .ref (ad (i + 25)), .int (M i 35), .ref (ad (i + 26)), .ref (ad (i + 27)), .ref (ad (i + 28)), .ref (ad (i + 29)), .ref (ad (i + 30)), .ref (ad (i + 31)), .ref (ad (i + 32)), .int (M i 43)])
  | 20 => .inl (cA 0, ln i, .inl (M i))
  | 21 => .inl (cA 1, ln i, .inr (.inr (.inl (fun j => (M i j).toUInt32))))
  | 22 => .inl (cA 2, ln i, .inl (M i))
  | 23 => .inl (cA 3, 3, .inr (.inr (.inr (.inr (fun j => some (ad (2 + 2 * j)))))))
  | 24 => .inl (cA 4, 4, .inr (.inr (.inr (.inr (fun j => some (ad (9 + 2 * j)))))))
  | 25 => .inl (cA 5, 10, .inr (.inr (.inr (.inr (fun j => some (ad (45 + j)))))))
  | 26 => .inl (cA 6, 14, .inr (.inr (.inr (.inr (fun j => some (ad (29 + j)))))))
  | _ => .inr (0, [])
theorem ent_0 {ad : Nat → Nat} {cA : Nat → ClassId} {M : Mem} {i : Nat} (h : kd i = 0) : ent ad cA M i = .inr (0, [.ref (ad (i + 1)), .ref (ad (i + 2)), .int (M i 2), .int (M i 3)]) := by unfold ent; simp only [h]
theorem ent_1 {ad : Nat → Nat} {cA : Nat → ClassId} {M : Mem} {i : Nat} (h : kd i = 1) : ent ad cA M i = .inr (1, [.ref (ad (i + 1)), .ref (ad (i + 16)), .ref (ad (i + 17))]) := by unfold ent; simp only [h]
theorem ent_2 {ad : Nat → Nat} {cA : Nat → ClassId} {M : Mem} {i : Nat} (h : kd i = 2) : ent ad cA M i = .inr (2, [.ref (ad (i + 1)), .ref (ad (i + 2)), .ref (ad (i + 3)), .int (M i 3)]) := by unfold ent; simp only [h]
theorem ent_3 {ad : Nat → Nat} {cA : Nat → ClassId} {M : Mem} {i : Nat} (h : kd i = 3) : ent ad cA M i = .inr (3, [.ref (ad (i + 1)), .ref (ad (i + 4)), .ref (ad (i + 7))]) := by unfold ent; simp only [h]
theorem ent_4 {ad : Nat → Nat} {cA : Nat → ClassId} {M : Mem} {i : Nat} (h : kd i = 4) : ent ad cA M i = .inr (4, [.ref (ad (i + 1)), .ref (ad (i + 2)), .ref (ad (i + 3)), .int (M i 3), .int (M i 4), .int (M i 5), .int (M i 6), .int (M i 7), .int (M i 8), .int (M i 9)]) := by unfold ent; simp only [h]
theorem ent_5 {ad : Nat → Nat} {cA : Nat → ClassId} {M : Mem} {i : Nat} (h : kd i = 5) : ent ad cA M i = .inr (5, [.ref (ad (i + 1)), .ref (ad (i + 4)), .ref (ad (i + 8)), .ref (ad 27), .int (M i 4), .int (M i 5)]) := by unfold ent; simp only [h]
theorem ent_6 {ad : Nat → Nat} {cA : Nat → ClassId} {M : Mem} {i : Nat} (h : kd i = 6) : ent ad cA M i = .inr (6, [.ref (ad (i + 1)), .int (M i 1), .int (M i 2)]) := by unfold ent; simp only [h]
theorem ent_7 {ad : Nat → Nat} {cA : Nat → ClassId} {M : Mem} {i : Nat} (h : kd i = 7) : ent ad cA M i = .inr (7, [.ref (ad (i + 1)), .ref (ad (i + 2)), .int (M i 2), .int (M i 3)]) := by unfold ent; simp only [h]
theorem ent_8 {ad : Nat → Nat} {cA : Nat → ClassId} {M : Mem} {i : Nat} (h : kd i = 8) : ent ad cA M i = .inr (8, [.ref (ad (i + 1)), .ref (ad (i + 2)), .int (M i 2), .int (M i 3)]) := by unfold ent; simp only [h]
theorem ent_9 {ad : Nat → Nat} {cA : Nat → ClassId} {M : Mem} {i : Nat} (h : kd i = 9) : ent ad cA M i = .inr (9, [.int (M i 0), .int (M i 1), .int (M i 2), .int (M i 3), .int (M i 4), .int (M i 5)]) := by unfold ent; simp only [h]
theorem ent_10 {ad : Nat → Nat} {cA : Nat → ClassId} {M : Mem} {i : Nat} (h : kd i = 10) : ent ad cA M i = .inr (10, [.ref (ad (i + 1)), .int (M i 1)]) := by unfold ent; simp only [h]
theorem ent_11 {ad : Nat → Nat} {cA : Nat → ClassId} {M : Mem} {i : Nat} (h : kd i = 11) : ent ad cA M i = .inr (11, [.ref (ad 1), .ref (ad 8), .ref (ad 17), .ref (ad 55), .ref (ad 67), .ref (ad 79), .int (M i 6), .int (M i 7), .int (M i 8)]) := by unfold ent; simp only [h]
theorem ent_12 {ad : Nat → Nat} {cA : Nat → ClassId} {M : Mem} {i : Nat} (h : kd i = 12) : ent ad cA M i = .inr (12, [.ref (ad (i + 1)), .ref (ad (i + 2)), .ref (ad (i + 3)), .ref (ad (i + 4)), .ref (ad (i + 5)), .ref (ad (i + 6)), .int (M i 6), .ref (ad (i + 7)), .ref (ad (i + 8)), .int (M i 9), .int (M i 10), .int (M i 11), .ref (ad (i + 9)), .ref (ad (i + 10)), .ref (ad (i + 11)), .ref (ad (i + 12)), .ref (ad (i + 13)), .int (M i 17), .ref (ad (i + 14)), .ref (ad (i + 15)), .ref (ad (i + 16)), .int (M i 21), .ref (ad (i + 17)), .ref (ad (i + 18)), .ref (ad (i + 19)), .ref (ad (i + 20)), .ref (ad (i + 21)), .ref (ad (i + 22)), .int (M i 28), .int (M i 29), .int (M i 30), .int (M i 31), .ref (ad (i + 23)), .ref (ad (i + 24)), .ref (ad (i + 25)), .int (M i 35), .ref (ad (i + 26)), .ref (ad (i + 27)), .ref (ad (i + 28)), .ref (ad (i + 29)), .ref (ad (i + 30)), .ref (ad (i + 31)), .ref (ad (i + 32)), .int (M i 43)]) := by unfold ent; simp only [h]
theorem ent_20 {ad : Nat → Nat} {cA : Nat → ClassId} {M : Mem} {i : Nat} (h : kd i = 20) : ent ad cA M i = .inl (cA 0, ln i, .inl (M i)) := by unfold ent; simp only [h]
theorem ent_21 {ad : Nat → Nat} {cA : Nat → ClassId} {M : Mem} {i : Nat} (h : kd i = 21) : ent ad cA M i = .inl (cA 1, ln i, .inr (.inr (.inl (fun j => (M i j).toUInt32)))) := by unfold ent; simp only [h]
theorem ent_22 {ad : Nat → Nat} {cA : Nat → ClassId} {M : Mem} {i : Nat} (h : kd i = 22) : ent ad cA M i = .inl (cA 2, ln i, .inl (M i)) := by unfold ent; simp only [h]
theorem ent_23 {ad : Nat → Nat} {cA : Nat → ClassId} {M : Mem} {i : Nat} (h : kd i = 23) : ent ad cA M i = .inl (cA 3, 3, .inr (.inr (.inr (.inr (fun j => some (ad (2 + 2 * j))))))) := by unfold ent; simp only [h]
theorem ent_24 {ad : Nat → Nat} {cA : Nat → ClassId} {M : Mem} {i : Nat} (h : kd i = 24) : ent ad cA M i = .inl (cA 4, 4, .inr (.inr (.inr (.inr (fun j => some (ad (9 + 2 * j))))))) := by unfold ent; simp only [h]
theorem ent_25 {ad : Nat → Nat} {cA : Nat → ClassId} {M : Mem} {i : Nat} (h : kd i = 25) : ent ad cA M i = .inl (cA 5, 10, .inr (.inr (.inr (.inr (fun j => some (ad (45 + j))))))) := by unfold ent; simp only [h]
theorem ent_26 {ad : Nat → Nat} {cA : Nat → ClassId} {M : Mem} {i : Nat} (h : kd i = 26) : ent ad cA M i = .inl (cA 6, 14, .inr (.inr (.inr (.inr (fun j => some (ad (29 + j))))))) := by unfold ent; simp only [h]
theorem kd_st (c k t : Nat) (hc : (List.range NC).all (fun i => !(kd i == c) || kd (i + k) == t) = true) (h9 : c ≠ 99) {o : Nat} (h : kd o = c) : kd (o + k) = t := by
  have hl : o < NC := kd_lt (by rw [h]; exact h9)
  have h1 := List.all_eq_true.mp hc o (List.mem_range.mpr hl)
  simp only [h, beq_self_eq_true, Bool.not_true, Bool.false_or, beq_iff_eq] at h1
  exact h1
theorem ln_st (c k t : Nat) (hc : (List.range NC).all (fun i => !(kd i == c) || ln (i + k) == t) = true) (h9 : c ≠ 99) {o : Nat} (h : kd o = c) : ln (o + k) = t := by
  have hl : o < NC := kd_lt (by rw [h]; exact h9)
  have h1 := List.all_eq_true.mp hc o (List.mem_range.mpr hl)
  simp only [h, beq_self_eq_true, Bool.not_true, Bool.false_or, beq_iff_eq] at h1
  exact h1
theorem kd_Run_course {o : Nat} (h : kd o = 5) : kd (o + 1) = 0 := kd_st 5 1 0 (by decide +kernel) (by decide) h
theorem kd_Run_pairs {o : Nat} (h : kd o = 5) : kd (o + 4) = 2 := kd_st 5 4 2 (by decide +kernel) (by decide) h
theorem kd_Run_report {o : Nat} (h : kd o = 5) : kd (o + 8) = 4 := kd_st 5 8 4 (by decide +kernel) (by decide) h
theorem kd_Course_codes {o : Nat} (h : kd o = 0) : kd (o + 1) = 20 := kd_st 0 1 20 (by decide +kernel) (by decide) h
theorem ln_Course_codes {o : Nat} (h : kd o = 0) : ln (o + 1) = 14 := ln_st 0 1 14 (by decide +kernel) (by decide) h
theorem kd_Course_figures {o : Nat} (h : kd o = 0) : kd (o + 2) = 20 := kd_st 0 2 20 (by decide +kernel) (by decide) h
theorem ln_Course_figures {o : Nat} (h : kd o = 0) : ln (o + 2) = 14 := ln_st 0 2 14 (by decide +kernel) (by decide) h
theorem kd_Pairs_keys {o : Nat} (h : kd o = 2) : kd (o + 1) = 20 := kd_st 2 1 20 (by decide +kernel) (by decide) h
theorem ln_Pairs_keys {o : Nat} (h : kd o = 2) : ln (o + 1) = 10 := ln_st 2 1 10 (by decide +kernel) (by decide) h
theorem kd_Pairs_values {o : Nat} (h : kd o = 2) : kd (o + 2) = 20 := kd_st 2 2 20 (by decide +kernel) (by decide) h
theorem ln_Pairs_values {o : Nat} (h : kd o = 2) : ln (o + 2) = 10 := ln_st 2 2 10 (by decide +kernel) (by decide) h
theorem kd_Pairs_places {o : Nat} (h : kd o = 2) : kd (o + 3) = 20 := kd_st 2 3 20 (by decide +kernel) (by decide) h
theorem ln_Pairs_places {o : Nat} (h : kd o = 2) : ln (o + 3) = 10 := ln_st 2 3 10 (by decide +kernel) (by decide) h
theorem kd_Report_answers {o : Nat} (h : kd o = 4) : kd (o + 1) = 20 := kd_st 4 1 20 (by decide +kernel) (by decide) h
theorem ln_Report_answers {o : Nat} (h : kd o = 4) : ln (o + 1) = 10 := ln_st 4 1 10 (by decide +kernel) (by decide) h
theorem kd_Report_means {o : Nat} (h : kd o = 4) : kd (o + 2) = 21 := kd_st 4 2 21 (by decide +kernel) (by decide) h
theorem ln_Report_means {o : Nat} (h : kd o = 4) : ln (o + 2) = 10 := ln_st 4 2 10 (by decide +kernel) (by decide) h
theorem kd_Report_logged {o : Nat} (h : kd o = 4) : kd (o + 3) = 20 := kd_st 4 3 20 (by decide +kernel) (by decide) h
theorem ln_Report_logged {o : Nat} (h : kd o = 4) : ln (o + 3) = 200 := ln_st 4 3 200 (by decide +kernel) (by decide) h
theorem kd_Table_keys {o : Nat} (h : kd o = 8) : kd (o + 1) = 20 := kd_st 8 1 20 (by decide +kernel) (by decide) h
theorem ln_Table_keys {o : Nat} (h : kd o = 8) : ln (o + 1) = 10 := ln_st 8 1 10 (by decide +kernel) (by decide) h
theorem kd_Table_values {o : Nat} (h : kd o = 8) : kd (o + 2) = 20 := kd_st 8 2 20 (by decide +kernel) (by decide) h
theorem ln_Table_values {o : Nat} (h : kd o = 8) : ln (o + 2) = 10 := ln_st 8 2 10 (by decide +kernel) (by decide) h
theorem kd_Text_bytes {o : Nat} (h : kd o = 10) : kd (o + 1) = 20 := kd_st 10 1 20 (by decide +kernel) (by decide) h
theorem kd_Sheet_items {o : Nat} (h : kd o = 6) : kd (o + 1) = 20 := kd_st 6 1 20 (by decide +kernel) (by decide) h
theorem ln_Sheet_items {o : Nat} (h : kd o = 6) : ln (o + 1) = 60 := ln_st 6 1 60 (by decide +kernel) (by decide) h
def wd (S : SE) (M : Mem) : va_W := (List.range NC).map fun i => (S.2.1 i, ent S.2.1 S.2.2 M i)
def AA (S : SE) : Nat → Prop := fun q => ∃ i, i < NC ∧ S.2.1 i = q
def Inj (S : SE) : Prop := ∀ i j : Nat, i < NC → j < NC → S.2.1 i = S.2.1 j → i = j
abbrev tysL (cA : Nat → ClassId) : List (ClassId × FieldType) := [(cA 0, .int), (cA 1, .float), (cA 2, .boolean), (cA 3, .object "UnnestPlans$Text"), (cA 4, .object "UnnestPlans$Sheet"), (cA 5, .object "UnnestPlans$Tally"), (cA 6, .array .int)]
theorem wd_at {S : SE} {M : Mem} {i : Nat} (h : i < NC) : (wd S M)[i]? = some (S.2.1 i, ent S.2.1 S.2.2 M i) := by
  unfold wd
  rw [List.getElem?_map, List.getElem?_range h]
  rfl
theorem wd_len {S : SE} {M : Mem} {i : Nat} {q : Nat × va_E} (h : (wd S M)[i]? = some q) : i < NC ∧ q = (S.2.1 i, ent S.2.1 S.2.2 M i) := by
  have h1 : i < (wd S M).length := (List.getElem?_eq_some_iff.mp h).1
  have h2 : (wd S M).length = NC := by unfold wd; rw [List.length_map, List.length_range]
  have h3 : i < NC := by omega
  rw [wd_at h3] at h
  exact ⟨h3, (Option.some.inj h).symm⟩
theorem wd_D {S : SE} {M : Mem} (hI : Inj S) : va_D (AA S) (wd S M) := by
  refine ⟨fun i j p q hp hq e => ?_, fun k q hq => ?_⟩
  · obtain ⟨h1, rfl⟩ := wd_len hp
    obtain ⟨h2, rfl⟩ := wd_len hq
    exact hI i j h1 h2 e
  · obtain ⟨h1, rfl⟩ := wd_len hq
    exact ⟨k, h1, rfl⟩
/-- a cell changed: the world of the new memory -/
theorem wd_set {S : SE} {M M' : Mem} {o : Nat} {e : va_E} (ho : o < NC) (he : ent S.2.1 S.2.2 M' o = e) (hne : ∀ i, i ≠ o → ent S.2.1 S.2.2 M' i = ent S.2.1 S.2.2 M i) : (wd S M).set o (S.2.1 o, e) = wd S M' := by
  apply List.ext_getElem?
  intro i
  by_cases hi : i < NC
  · rw [List.getElem?_set]
    by_cases h : o = i
    · subst h
      have hl : o < (wd S M).length := by unfold wd; rw [List.length_map, List.length_range]; exact ho
      rw [if_pos rfl, if_pos hl, wd_at hi, he]
    · rw [if_neg h, wd_at hi, wd_at hi, hne i (fun q => h q.symm)]
  · have h1 : ∀ M : Mem, (wd S M).length = NC := fun M => by unfold wd; rw [List.length_map, List.length_range]
    rw [List.getElem?_eq_none (by rw [List.length_set, h1]; omega), List.getElem?_eq_none (by rw [h1]; omega)]
theorem ent_congr {S : SE} {M M' : Mem} {i : Nat} (h : M' i = M i) : ent S.2.1 S.2.2 M' i = ent S.2.1 S.2.2 M i := by
  unfold ent
  rw [h]
theorem mset_self (M : Mem) (c k : Nat) (v : Int32) : mset M c k v c = upd (M c) k v := by unfold mset; rw [if_pos rfl]
theorem mset_ne (M : Mem) {c i : Nat} (k : Nat) (v : Int32) (h : i ≠ c) : mset M c k v i = M i := by unfold mset; rw [if_neg h]
-- ===== the words =====
def tw : List Cond := lw_tbl.filter goodWord
theorem tw_in {w : Cond} (i : Nat) (h : lw_tbl[i]? = some w) (hg : goodWord w = true) : w ∈ tw := List.mem_filter.mpr ⟨List.mem_of_getElem? h, hg⟩
theorem tw_good {w : Cond} (h : w ∈ tw) : (w.onTables && w.keeps) = true ∨ ∃ ty, w = .arrayClass ty := good_of_word (List.mem_filter.mp h).2
theorem tw_pay {args : Array Value} {s : State} (hts : ∀ w ∈ tw, w.before args s = true) : ∀ w ∈ tw, ∀ (a' : Array Value) (U : State), s.WarmedH U.vm → w.before a' U = true := fun w hw a' U hW => word_at hW (tw_good hw) (hts w hw)
-- the links to private members of nest mates: they are no steady words, and go from start to start by themselves
def nwL : List (String × Nat × MethodName) := [(RX11, 23, yX3_init), (RX3, 9, yX8_init), (RX3, 21, yX7_init), (RX11, 42, yX6_init), (RX1, 26, yX9_init), (RX5, 11, yX0_init), (RX5, 20, yX2_init), (RX5, 27, yX4_init), (RX7, 39, yX11_isFigure), (RX8, 39, yX11_isFigure), (RX5, 198, yX11_within), (RX9, 35, yX11_bitsOf), (RX0, 45, yX11_endSpeaks), (RX5, 116, yX11_endSpeaks), (RX4, 79, yX11_bitsOf), (RX0, 49, yX11_within), (RX4, 75, yX11_within), (RX6, 32, yX11_within), (RX10, 23, yX11_isByte)]
def NWs (U : State) : Prop := ∀ q ∈ nwL, va_Nw (.methodLinkNest q.1 q.2.1 q.2.2 "UnnestPlans") U
theorem NWs.warm {s U : State} (h : NWs s) (hW : s.WarmedH U.vm) : NWs U := fun q hq => va_Nw.warmM hW (h q hq)
theorem NWs.same {s U : State} (h : NWs s) (e : s.vm = U.vm) : NWs U := fun q hq => va_Nw.same rfl e (h q hq)
-- ===== the judgement =====
abbrev MX : Type := Program × Launch × Env × Room × State × MethodId × Array Value × List Frame × Method × Code × Nat × Nat × (State → Prop)
def V (S : SE) (X : MX) (nL : Nat) (M : Mem) (pc : Nat) (lv : List (Nat × Value)) (st : List Value) : Prop :=
  ∀ (H : Heap) (locs : List Loc) (ls : Array Slot), va_P S.1 vwCl (wd S M) H → va_S (AA S) X.2.2.2.2.1.heap H locs → lv_has ls nL lv → W X.1 X.2.1 X.2.2.1 X.2.2.2.1 X.2.2.2.2.1 X.2.2.2.2.2.1 X.2.2.2.2.2.2.1 X.2.2.2.2.2.2.2.1 X.2.2.2.2.2.2.2.2.1 X.2.2.2.2.2.2.2.2.2.1 H locs X.2.2.2.2.2.2.2.2.2.2.1 X.2.2.2.2.2.2.2.2.2.2.2.1 X.2.2.2.2.2.2.2.2.2.2.2.2 (F0 X.2.2.2.2.2.1 pc ls st)
/-- what holds all through a method's walk: its code cc, locals nL, class own; d: the calls that may yet stand open -/
def CX (S : SE) (X : MX) (cc : ByteArray) (nL : Nat) (own : String) (d : Nat) : Prop :=
  X.1.tables.exec = Jvm.exec ∧ X.2.2.2.2.2.2.2.2.2.1.code = cc ∧ X.2.2.2.2.2.2.2.2.2.1.maxLocals = nL ∧ X.2.2.2.2.1.vm.findClass own = some X.2.2.2.2.2.1.cls ∧ (∀ w ∈ tw, w.before X.2.2.2.2.2.2.1 X.2.2.2.2.1 = true) ∧ va_K S.1 vwCl (tysL S.2.2) X.2.2.2.2.1 ∧ Inj S ∧ d ≤ X.2.2.2.1.frames ∧ 40 * d ≤ X.2.2.2.1.locals ∧ X.2.2.2.2.2.2.2.2.2.2.1 ≤ X.2.2.2.1.cells ∧ X.2.2.2.2.2.2.2.2.2.2.2.1 ≤ X.2.2.2.1.slots ∧ NWs X.2.2.2.2.1
def QC (S : SE) (r : Option Value) (M' : Mem) : Array Value → State → Outcome → State → Prop := fun _ st o t => o = .returned r ∧ va_P S.1 vwCl (wd S M') t.heap ∧ va_K S.1 vwCl (tysL S.2.2) t ∧ va_F (AA S) st t
/-- how the method ends: with r, the memory M' -/
def RT (S : SE) (X : MX) (rt : Option FieldType) (r : Option Value) (M' : Mem) : Prop :=
  X.2.2.2.2.2.2.2.2.1.sig.returnType = rt ∧ X.2.2.2.2.2.2.2.2.1.locks = false ∧ X.2.2.2.2.2.2.2.2.2.2.1 = 0 ∧ X.2.2.2.2.2.2.2.2.2.2.2.1 = 0 ∧ X.2.2.2.2.2.2.2.2.2.2.2.2 = MQ X.2.2.2.2.2.2.2.1 (QC S r M') X.2.2.2.2.2.2.1 X.2.2.2.2.1 0 0 (AA S)
def PC (S : SE) (args : List Value) (M : Mem) : Array Value → State → Prop := va_Pc args (fun U => va_P S.1 vwCl (wd S M) U.heap ∧ va_K S.1 vwCl (tysL S.2.2) U ∧ NWs U)
abbrev rmD (d : Nat) : Room := { frames := d, cells := 0, slots := 0, locals := 40 * d }
/-- a contract: called with args at the memory M, y returns r and leaves M' -/
def CM (S : SE) (y : MethodName) (cc : ByteArray) (nL : Nat) (rt : Option FieldType) (d : Nat) (args : List Value) (M : Mem) (r : Option Value) (M' : Mem) : Prop :=
  ∀ l : Launch, Met l y (.code y cc nL rt :: tw) (rmD d) (PC S args M) (QC S r M') 0 0 (AA S)
theorem CM.of {S : SE} {y : MethodName} {cc : ByteArray} {nL : Nat} {rt : Option FieldType} {d : Nat} {args : List Value} {M : Mem} {r : Option Value} {M' : Mem} (lv : List (Nat × Value)) (hI : Inj S) (hy : plainName y.cls = true) (hlv : lv_args 0 args = lv) (hn : (lg_sl args).length ≤ nL)
    (body : ∀ X : MX, CX S X cc nL y.cls d → RT S X rt r M' → V S X nL M 0 lv []) : CM S y cc nL rt d args M r M' := by
  intro l
  refine Met.ofW (cc := cc) (maxL := nL) (ret := rt) hy rfl ?_
  intro p e s m av below meth c s₁ B hml hv
  obtain ⟨rfl, hP, hK, hN⟩ := hv
  have hts := atoms_spec (ws := .code y cc nL rt :: tw) B.pre
  have hl := lv_entry args (n := nL) hn
  rw [lg_entry_eq]
  rw [hlv] at hl
  exact body (p, l, e, (headSpec (.code y cc nL rt :: tw) (rmD d)).room, s, m, args.toArray, below, meth, c, 0, 0, MQ below (QC S r M') args.toArray s 0 0 (AA S)) ⟨B.exec, B.bytes, hml, findClass_of_methodNamed B.named, fun w h => hts w (List.mem_cons_of_mem _ h), hK, hI, Nat.le_refl _, Nat.le_refl _, Nat.zero_le _, Nat.zero_le _, hN⟩ ⟨B.returns, B.notSynchronized, rfl, rfl, rfl⟩ s.heap [] _ hP va_S.rf hl
-- ===== rows =====
section VR
variable {S : SE} {X : MX} {cc : ByteArray} {nL : Nat} {own : String} {d : Nat} {M : Mem} {pc : Nat} {lv : List (Nat × Value)} {st : List Value}
/-- fewer locals, by their places -/
theorem v_sub (ks : List Nat) {lv' : List (Nat × Value)} (h : lv_pick lv ks = lv') (k : V S X nL M pc lv' st) : V S X nL M pc lv st := fun H locs ls hP hS hl => k H locs ls hP hS (lv_sub hl ks h)
theorem v_iconst (C : CX S X cc nL own d) {n : Int} (v : Int32) (dd : decode cc pc = .ok (.iconst n, 1)) (hv : Int32.ofInt n = v) (k : V S X nL M (pc + 1) lv (.int v :: st)) : V S X nL M pc lv st := fun H locs ls hP hS hl => lv_iconst C.1 C.2.1 dd hv (k H locs ls hP hS hl)
theorem v_bipush (C : CX S X cc nL own d) {n : Int} (v : Int32) (dd : decode cc pc = .ok (.bipush n, 2)) (hv : (Int8.ofInt n).toInt32 = v) (k : V S X nL M (pc + 2) lv (.int v :: st)) : V S X nL M pc lv st := fun H locs ls hP hS hl => lv_bipush C.1 C.2.1 dd hv (k H locs ls hP hS hl)
theorem v_sipush (C : CX S X cc nL own d) {n : Int} (v : Int32) (dd : decode cc pc = .ok (.sipush n, 3)) (hv : (Int16.ofInt n).toInt32 = v) (k : V S X nL M (pc + 3) lv (.int v :: st)) : V S X nL M pc lv st := fun H locs ls hP hS hl => lv_sipush C.1 C.2.1 dd hv (k H locs ls hP hS hl)
theorem v_lconst (C : CX S X cc nL own d) {n : Fin 2} (v : Int64) (dd : decode cc pc = .ok (.lconst n, 1)) (hv : Int64.ofNat (n : Nat) = v) (k : V S X nL M (pc + 1) lv (.long v :: st)) : V S X nL M pc lv st := fun H locs ls hP hS hl => lv_lconst C.1 C.2.1 dd hv (k H locs ls hP hS hl)
theorem v_fconst0 (C : CX S X cc nL own d) (dd : decode cc pc = .ok (.fconst 0, 1)) (k : V S X nL M (pc + 1) lv (.float FP.fconst0 :: st)) : V S X nL M pc lv st := fun H locs ls hP hS hl => lv_fconst0 C.1 C.2.1 dd (k H locs ls hP hS hl)
theorem v_fconst1 (C : CX S X cc nL own d) (dd : decode cc pc = .ok (.fconst 1, 1)) (k : V S X nL M (pc + 1) lv (.float FP.fconst1 :: st)) : V S X nL M pc lv st := fun H locs ls hP hS hl => lv_fconst1 C.1 C.2.1 dd (k H locs ls hP hS hl)
theorem v_fconst2 (C : CX S X cc nL own d) (dd : decode cc pc = .ok (.fconst 2, 1)) (k : V S X nL M (pc + 1) lv (.float FP.fconst2 :: st)) : V S X nL M pc lv st := fun H locs ls hP hS hl => lv_fconst2 C.1 C.2.1 dd (k H locs ls hP hS hl)
theorem v_ldc (C : CX S X cc nL own d) {i : Nat} {v : Int32} (hw : Cond.constant own i v ∈ tw) (dd : decode cc pc = .ok (.ldc i, 2)) (k : V S X nL M (pc + 2) lv (.int v :: st)) : V S X nL M pc lv st := fun H locs ls hP hS hl => W.ldc C.1 C.2.1 C.2.2.2.1 (C.2.2.2.2.1 _ hw) rfl dd (k H locs ls hP hS hl)
theorem v_ldcw (C : CX S X cc nL own d) {i : Nat} {v : Int32} (hw : Cond.constant own i v ∈ tw) (dd : decode cc pc = .ok (.ldc_w i, 3)) (k : V S X nL M (pc + 3) lv (.int v :: st)) : V S X nL M pc lv st := fun H locs ls hP hS hl => lv_ldcw C.1 C.2.1 C.2.2.2.1 (C.2.2.2.2.1 _ hw) dd (k H locs ls hP hS hl)
theorem v_ldcf (C : CX S X cc nL own d) {i : Nat} {v : UInt32} (hw : Cond.constantFloat own i v ∈ tw) (dd : decode cc pc = .ok (.ldc i, 2)) (k : V S X nL M (pc + 2) lv (.float v :: st)) : V S X nL M pc lv st := fun H locs ls hP hS hl => lv_ldcf C.1 C.2.1 C.2.2.2.1 (C.2.2.2.2.1 _ hw) dd (k H locs ls hP hS hl)
theorem v_ldc2 (C : CX S X cc nL own d) {i : Nat} {v : Int64} (hw : Cond.constantLong own i v ∈ tw) (dd : decode cc pc = .ok (.ldc2_w i, 3)) (k : V S X nL M (pc + 3) lv (.long v :: st)) : V S X nL M pc lv st := fun H locs ls hP hS hl => W.ldc2 C.1 C.2.1 C.2.2.2.1 (C.2.2.2.2.1 _ hw) rfl dd (k H locs ls hP hS hl)
-- loads: kk is the place in the list of locals
theorem v_iload_n (C : CX S X cc nL own d) (kk : Nat) {q : Fin 4} {x : Int32} (dd : decode cc pc = .ok (.iload_n q, 1)) (hl : lv[kk]? = some ((q : Nat), .int x)) (k : V S X nL M (pc + 1) lv (.int x :: st)) : V S X nL M pc lv st := fun H locs ls hP hS h => lv_iload_n C.1 C.2.1 dd rfl (lv_at h kk hl) (k H locs ls hP hS h)
theorem v_iload (C : CX S X cc nL own d) (kk : Nat) {i : Nat} {x : Int32} (dd : decode cc pc = .ok (.iload i, 2)) (hl : lv[kk]? = some (i, .int x)) (k : V S X nL M (pc + 2) lv (.int x :: st)) : V S X nL M pc lv st := fun H locs ls hP hS h => lv_iload C.1 C.2.1 dd (lv_at h kk hl) (k H locs ls hP hS h)
theorem v_lload_n (C : CX S X cc nL own d) (kk : Nat) {q : Fin 4} {x : Int64} (dd : decode cc pc = .ok (.lload_n q, 1)) (hl : lv[kk]? = some ((q : Nat), .long x)) (k : V S X nL M (pc + 1) lv (.long x :: st)) : V S X nL M pc lv st := fun H locs ls hP hS h => lv_lload_n C.1 C.2.1 dd rfl (lv_at h kk hl) (k H locs ls hP hS h)
theorem v_lload (C : CX S X cc nL own d) (kk : Nat) {i : Nat} {x : Int64} (dd : decode cc pc = .ok (.lload i, 2)) (hl : lv[kk]? = some (i, .long x)) (k : V S X nL M (pc + 2) lv (.long x :: st)) : V S X nL M pc lv st := fun H locs ls hP hS h => lv_lload C.1 C.2.1 dd (lv_at h kk hl) (k H locs ls hP hS h)
theorem v_fload_n (C : CX S X cc nL own d) (kk : Nat) {q : Fin 4} {x : UInt32} (dd : decode cc pc = .ok (.fload_n q, 1)) (hl : lv[kk]? = some ((q : Nat), .float x)) (k : V S X nL M (pc + 1) lv (.float x :: st)) : V S X nL M pc lv st := fun H locs ls hP hS h => lv_fload_n C.1 C.2.1 dd rfl (lv_at h kk hl) (k H locs ls hP hS h)
theorem v_fload (C : CX S X cc nL own d) (kk : Nat) {i : Nat} {x : UInt32} (dd : decode cc pc = .ok (.fload i, 2)) (hl : lv[kk]? = some (i, .float x)) (k : V S X nL M (pc + 2) lv (.float x :: st)) : V S X nL M pc lv st := fun H locs ls hP hS h => lv_fload C.1 C.2.1 dd (lv_at h kk hl) (k H locs ls hP hS h)
theorem v_aload_n (C : CX S X cc nL own d) (kk : Nat) {q : Fin 4} {x : Nat} (dd : decode cc pc = .ok (.aload_n q, 1)) (hl : lv[kk]? = some ((q : Nat), .ref x)) (k : V S X nL M (pc + 1) lv (.ref x :: st)) : V S X nL M pc lv st := fun H locs ls hP hS h => lv_aload_n C.1 C.2.1 dd rfl (lv_at h kk hl) (k H locs ls hP hS h)
theorem v_aload (C : CX S X cc nL own d) (kk : Nat) {i : Nat} {x : Nat} (dd : decode cc pc = .ok (.aload i, 2)) (hl : lv[kk]? = some (i, .ref x)) (k : V S X nL M (pc + 2) lv (.ref x :: st)) : V S X nL M pc lv st := fun H locs ls hP hS h => lv_aload C.1 C.2.1 dd (lv_at h kk hl) (k H locs ls hP hS h)
-- stores
abbrev fl1 (i : Nat) (lv : List (Nat × Value)) : List (Nat × Value) := lv.filter (fun q => !(q.1 == i) && !(q.1 + 1 == i && q.2.category == 2))
abbrev fl2 (i : Nat) (lv : List (Nat × Value)) : List (Nat × Value) := lv.filter (fun q => !(q.1 == i) && (!(q.1 == i + 1) && !(q.1 + 1 == i && q.2.category == 2)))
theorem v_istore_n (C : CX S X cc nL own d) (lv' : List (Nat × Value)) {q : Fin 4} {x : Int32} (dd : decode cc pc = .ok (.istore_n q, 1)) (hn : (q : Nat) < nL) (hl : ((q : Nat), Value.int x) :: fl1 q lv = lv') (k : V S X nL M (pc + 1) lv' st) : V S X nL M pc lv (.int x :: st) := fun H locs ls hP hS h => lv_istore_n C.1 C.2.1 dd rfl h hn hl (fun ls h => k H locs ls hP hS h)
theorem v_istore (C : CX S X cc nL own d) (lv' : List (Nat × Value)) {i : Nat} {x : Int32} (dd : decode cc pc = .ok (.istore i, 2)) (hn : i < nL) (hl : (i, Value.int x) :: fl1 i lv = lv') (k : V S X nL M (pc + 2) lv' st) : V S X nL M pc lv (.int x :: st) := fun H locs ls hP hS h => lv_istore C.1 C.2.1 dd h hn hl (fun ls h => k H locs ls hP hS h)
theorem v_lstore_n (C : CX S X cc nL own d) (lv' : List (Nat × Value)) {q : Fin 4} {x : Int64} (dd : decode cc pc = .ok (.lstore_n q, 1)) (hn : (q : Nat) + 1 < nL) (hl : ((q : Nat), Value.long x) :: fl2 q lv = lv') (k : V S X nL M (pc + 1) lv' st) : V S X nL M pc lv (.long x :: st) := fun H locs ls hP hS h => lv_lstore_n C.1 C.2.1 dd rfl h hn hl (fun ls h => k H locs ls hP hS h)
theorem v_lstore (C : CX S X cc nL own d) (lv' : List (Nat × Value)) {i : Nat} {x : Int64} (dd : decode cc pc = .ok (.lstore i, 2)) (hn : i + 1 < nL) (hl : (i, Value.long x) :: fl2 i lv = lv') (k : V S X nL M (pc + 2) lv' st) : V S X nL M pc lv (.long x :: st) := fun H locs ls hP hS h => lv_lstore C.1 C.2.1 dd h hn hl (fun ls h => k H locs ls hP hS h)
theorem v_fstore_n (C : CX S X cc nL own d) (lv' : List (Nat × Value)) {q : Fin 4} {x : UInt32} (dd : decode cc pc = .ok (.fstore_n q, 1)) (hn : (q : Nat) < nL) (hl : ((q : Nat), Value.float x) :: fl1 q lv = lv') (k : V S X nL M (pc + 1) lv' st) : V S X nL M pc lv (.float x :: st) := fun H locs ls hP hS h => lv_fstore_n C.1 C.2.1 dd rfl h hn hl (fun ls h => k H locs ls hP hS h)
theorem v_fstore (C : CX S X cc nL own d) (lv' : List (Nat × Value)) {i : Nat} {x : UInt32} (dd : decode cc pc = .ok (.fstore i, 2)) (hn : i < nL) (hl : (i, Value.float x) :: fl1 i lv = lv') (k : V S X nL M (pc + 2) lv' st) : V S X nL M pc lv (.float x :: st) := fun H locs ls hP hS h => lv_fstore C.1 C.2.1 dd h hn hl (fun ls h => k H locs ls hP hS h)
theorem v_astore_n (C : CX S X cc nL own d) (lv' : List (Nat × Value)) {q : Fin 4} {x : Nat} (dd : decode cc pc = .ok (.astore_n q, 1)) (hn : (q : Nat) < nL) (hl : ((q : Nat), Value.ref x) :: fl1 q lv = lv') (k : V S X nL M (pc + 1) lv' st) : V S X nL M pc lv (.ref x :: st) := fun H locs ls hP hS h => lv_astore_n C.1 C.2.1 dd rfl h hn hl (fun ls h => k H locs ls hP hS h)
theorem v_astore (C : CX S X cc nL own d) (lv' : List (Nat × Value)) {i : Nat} {x : Nat} (dd : decode cc pc = .ok (.astore i, 2)) (hn : i < nL) (hl : (i, Value.ref x) :: fl1 i lv = lv') (k : V S X nL M (pc + 2) lv' st) : V S X nL M pc lv (.ref x :: st) := fun H locs ls hP hS h => lv_astore C.1 C.2.1 dd h hn hl (fun ls h => k H locs ls hP hS h)
theorem v_iinc (C : CX S X cc nL own d) (lv' : List (Nat × Value)) (kk : Nat) {i : Nat} {n : Int} {x : Int32} (v : Int32) (dd : decode cc pc = .ok (.iinc i n, 3)) (hk : lv[kk]? = some (i, .int x)) (hv : x + Int32.ofInt n = v) (hn : i < nL) (hl : (i, Value.int v) :: fl1 i lv = lv') (k : V S X nL M (pc + 3) lv' st) : V S X nL M pc lv st := fun H locs ls hP hS h => lv_iinc C.1 C.2.1 dd h hk hv hn hl (fun ls h => k H locs ls hP hS h)
theorem v_iadd (C : CX S X cc nL own d) {x y : Int32} (dd : decode cc pc = .ok (.iadd, 1)) (k : V S X nL M (pc + 1) lv (.int (x + y) :: st)) : V S X nL M pc lv (.int y :: .int x :: st) := fun H locs ls hP hS hl => lv_iadd C.1 C.2.1 dd (k H locs ls hP hS hl)
theorem v_isub (C : CX S X cc nL own d) {x y : Int32} (dd : decode cc pc = .ok (.isub, 1)) (k : V S X nL M (pc + 1) lv (.int (x - y) :: st)) : V S X nL M pc lv (.int y :: .int x :: st) := fun H locs ls hP hS hl => lv_isub C.1 C.2.1 dd (k H locs ls hP hS hl)
theorem v_imul (C : CX S X cc nL own d) {x y : Int32} (dd : decode cc pc = .ok (.imul, 1)) (k : V S X nL M (pc + 1) lv (.int (x * y) :: st)) : V S X nL M pc lv (.int y :: .int x :: st) := fun H locs ls hP hS hl => lv_imul C.1 C.2.1 dd (k H locs ls hP hS hl)
theorem v_iand (C : CX S X cc nL own d) {x y : Int32} (dd : decode cc pc = .ok (.iand, 1)) (k : V S X nL M (pc + 1) lv (.int (x &&& y) :: st)) : V S X nL M pc lv (.int y :: .int x :: st) := fun H locs ls hP hS hl => lv_iand C.1 C.2.1 dd (k H locs ls hP hS hl)
theorem v_ior (C : CX S X cc nL own d) {x y : Int32} (dd : decode cc pc = .ok (.ior, 1)) (k : V S X nL M (pc + 1) lv (.int (x ||| y) :: st)) : V S X nL M pc lv (.int y :: .int x :: st) := fun H locs ls hP hS hl => lv_ior C.1 C.2.1 dd (k H locs ls hP hS hl)
theorem v_ishl (C : CX S X cc nL own d) {x y : Int32} (dd : decode cc pc = .ok (.ishl, 1)) (k : V S X nL M (pc + 1) lv (.int (x <<< (y &&& 31)) :: st)) : V S X nL M pc lv (.int y :: .int x :: st) := fun H locs ls hP hS hl => lv_ishl C.1 C.2.1 dd (k H locs ls hP hS hl)
theorem v_ishr (C : CX S X cc nL own d) {x y : Int32} (dd : decode cc pc = .ok (.ishr, 1)) (k : V S X nL M (pc + 1) lv (.int (x >>> (y &&& 31)) :: st)) : V S X nL M pc lv (.int y :: .int x :: st) := fun H locs ls hP hS hl => lv_ishr C.1 C.2.1 dd (k H locs ls hP hS hl)
theorem v_ladd (C : CX S X cc nL own d) {x y : Int64} (dd : decode cc pc = .ok (.ladd, 1)) (k : V S X nL M (pc + 1) lv (.long (x + y) :: st)) : V S X nL M pc lv (.long y :: .long x :: st) := fun H locs ls hP hS hl => lv_ladd C.1 C.2.1 dd (k H locs ls hP hS hl)
theorem v_lsub (C : CX S X cc nL own d) {x y : Int64} (dd : decode cc pc = .ok (.lsub, 1)) (k : V S X nL M (pc + 1) lv (.long (x - y) :: st)) : V S X nL M pc lv (.long y :: .long x :: st) := fun H locs ls hP hS hl => lv_lsub C.1 C.2.1 dd (k H locs ls hP hS hl)
theorem v_lmul (C : CX S X cc nL own d) {x y : Int64} (dd : decode cc pc = .ok (.lmul, 1)) (k : V S X nL M (pc + 1) lv (.long (x * y) :: st)) : V S X nL M pc lv (.long y :: .long x :: st) := fun H locs ls hP hS hl => lv_lmul C.1 C.2.1 dd (k H locs ls hP hS hl)
theorem v_land (C : CX S X cc nL own d) {x y : Int64} (dd : decode cc pc = .ok (.land, 1)) (k : V S X nL M (pc + 1) lv (.long (x &&& y) :: st)) : V S X nL M pc lv (.long y :: .long x :: st) := fun H locs ls hP hS hl => lv_land C.1 C.2.1 dd (k H locs ls hP hS hl)
theorem v_lor (C : CX S X cc nL own d) {x y : Int64} (dd : decode cc pc = .ok (.lor, 1)) (k : V S X nL M (pc + 1) lv (.long (x ||| y) :: st)) : V S X nL M pc lv (.long y :: .long x :: st) := fun H locs ls hP hS hl => lv_lor C.1 C.2.1 dd (k H locs ls hP hS hl)
theorem v_idiv (C : CX S X cc nL own d) {x y : Int32} (hne : ¬ y = 0) (dd : decode cc pc = .ok (.idiv, 1)) (k : V S X nL M (pc + 1) lv (.int (x / y) :: st)) : V S X nL M pc lv (.int y :: .int x :: st) := fun H locs ls hP hS hl => lv_idiv C.1 C.2.1 dd hne (k H locs ls hP hS hl)
theorem v_irem (C : CX S X cc nL own d) {x y : Int32} (hne : ¬ y = 0) (dd : decode cc pc = .ok (.irem, 1)) (k : V S X nL M (pc + 1) lv (.int (x - x / y * y) :: st)) : V S X nL M pc lv (.int y :: .int x :: st) := fun H locs ls hP hS hl => lv_irem C.1 C.2.1 dd hne (k H locs ls hP hS hl)
theorem v_ldiv (C : CX S X cc nL own d) {x y : Int64} (hne : ¬ y = 0) (dd : decode cc pc = .ok (.ldiv, 1)) (k : V S X nL M (pc + 1) lv (.long (x / y) :: st)) : V S X nL M pc lv (.long y :: .long x :: st) := fun H locs ls hP hS hl => lv_ldiv C.1 C.2.1 dd hne (k H locs ls hP hS hl)
theorem v_lshl (C : CX S X cc nL own d) {x : Int64} {y : Int32} (dd : decode cc pc = .ok (.lshl, 1)) (k : V S X nL M (pc + 1) lv (.long (x <<< (y.toInt64 &&& 63)) :: st)) : V S X nL M pc lv (.int y :: .long x :: st) := fun H locs ls hP hS hl => lv_lshl C.1 C.2.1 dd rfl (k H locs ls hP hS hl)
theorem v_lshr (C : CX S X cc nL own d) {x : Int64} {y : Int32} (dd : decode cc pc = .ok (.lshr, 1)) (k : V S X nL M (pc + 1) lv (.long (x >>> (y.toInt64 &&& 63)) :: st)) : V S X nL M pc lv (.int y :: .long x :: st) := fun H locs ls hP hS hl => lv_lshr C.1 C.2.1 dd rfl (k H locs ls hP hS hl)
theorem v_i2l (C : CX S X cc nL own d) {x : Int32} (dd : decode cc pc = .ok (.i2l, 1)) (k : V S X nL M (pc + 1) lv (.long (x.toInt64) :: st)) : V S X nL M pc lv (.int x :: st) := fun H locs ls hP hS hl => lv_i2l C.1 C.2.1 dd rfl (k H locs ls hP hS hl)
theorem v_l2i (C : CX S X cc nL own d) {x : Int64} (dd : decode cc pc = .ok (.l2i, 1)) (k : V S X nL M (pc + 1) lv (.int (x.toInt32) :: st)) : V S X nL M pc lv (.long x :: st) := fun H locs ls hP hS hl => lv_l2i C.1 C.2.1 dd rfl (k H locs ls hP hS hl)
theorem v_i2b (C : CX S X cc nL own d) {x : Int32} (dd : decode cc pc = .ok (.i2b, 1)) (k : V S X nL M (pc + 1) lv (.int (x.toInt8.toInt32) :: st)) : V S X nL M pc lv (.int x :: st) := fun H locs ls hP hS hl => lv_i2b C.1 C.2.1 dd rfl (k H locs ls hP hS hl)
theorem v_i2s (C : CX S X cc nL own d) {x : Int32} (dd : decode cc pc = .ok (.i2s, 1)) (k : V S X nL M (pc + 1) lv (.int (x.toInt16.toInt32) :: st)) : V S X nL M pc lv (.int x :: st) := fun H locs ls hP hS hl => lv_i2s C.1 C.2.1 dd rfl (k H locs ls hP hS hl)
theorem v_fadd (C : CX S X cc nL own d) {x y : UInt32} (hne : (FP.fadd x y) &&& 0x7fffffff ≤ 0x7f800000) (dd : decode cc pc = .ok (.fadd, 1)) (k : V S X nL M (pc + 1) lv (.float (FP.fadd x y) :: st)) : V S X nL M pc lv (.float y :: .float x :: st) := fun H locs ls hP hS hl => lv_fadd C.1 C.2.1 dd hne (k H locs ls hP hS hl)
theorem v_fsub (C : CX S X cc nL own d) {x y : UInt32} (hne : (FP.fsub x y) &&& 0x7fffffff ≤ 0x7f800000) (dd : decode cc pc = .ok (.fsub, 1)) (k : V S X nL M (pc + 1) lv (.float (FP.fsub x y) :: st)) : V S X nL M pc lv (.float y :: .float x :: st) := fun H locs ls hP hS hl => lv_fsub C.1 C.2.1 dd hne (k H locs ls hP hS hl)
theorem v_fmul (C : CX S X cc nL own d) {x y : UInt32} (hne : (FP.fmul x y) &&& 0x7fffffff ≤ 0x7f800000) (dd : decode cc pc = .ok (.fmul, 1)) (k : V S X nL M (pc + 1) lv (.float (FP.fmul x y) :: st)) : V S X nL M pc lv (.float y :: .float x :: st) := fun H locs ls hP hS hl => lv_fmul C.1 C.2.1 dd hne (k H locs ls hP hS hl)
theorem v_fdiv (C : CX S X cc nL own d) {x y : UInt32} (hne : (FP.fdiv x y) &&& 0x7fffffff ≤ 0x7f800000) (dd : decode cc pc = .ok (.fdiv, 1)) (k : V S X nL M (pc + 1) lv (.float (FP.fdiv x y) :: st)) : V S X nL M pc lv (.float y :: .float x :: st) := fun H locs ls hP hS hl => lv_fdiv C.1 C.2.1 dd hne (k H locs ls hP hS hl)
theorem v_i2f (C : CX S X cc nL own d) {x : Int32} (dd : decode cc pc = .ok (.i2f, 1)) (k : V S X nL M (pc + 1) lv (.float (FP.i2f x) :: st)) : V S X nL M pc lv (.int x :: st) := fun H locs ls hP hS hl => lv_i2f C.1 C.2.1 dd (k H locs ls hP hS hl)
theorem v_f2i (C : CX S X cc nL own d) {x : UInt32} (dd : decode cc pc = .ok (.f2i, 1)) (k : V S X nL M (pc + 1) lv (.int (FP.f2i x) :: st)) : V S X nL M pc lv (.float x :: st) := fun H locs ls hP hS hl => lv_f2i C.1 C.2.1 dd (k H locs ls hP hS hl)
theorem v_fcmp (C : CX S X cc nL own d) {x y : UInt32} {op : CmpOp} (dd : decode cc pc = .ok (.fcmp op, 1)) (k : V S X nL M (pc + 1) lv (.int (Op.cmpValue (FP.fcmp x y) op) :: st)) : V S X nL M pc lv (.float y :: .float x :: st) := fun H locs ls hP hS hl => lv_fcmp C.1 C.2.1 dd (k H locs ls hP hS hl)
theorem v_lcmp (C : CX S X cc nL own d) {x y : Int64} (dd : decode cc pc = .ok (.lcmp, 1)) (k : V S X nL M (pc + 1) lv (.int (lg_cmp x y) :: st)) : V S X nL M pc lv (.long y :: .long x :: st) := fun H locs ls hP hS hl => W.lcmp C.1 C.2.1 dd (k H locs ls hP hS hl)
theorem v_dup (C : CX S X cc nL own d) {v : Value} (dd : decode cc pc = .ok (.dup, 1)) (hv : v.category = 1) (k : V S X nL M (pc + 1) lv (v :: v :: st)) : V S X nL M pc lv (v :: st) := fun H locs ls hP hS hl => lv_dup C.1 C.2.1 dd hv (k H locs ls hP hS hl)
theorem v_dup2 (C : CX S X cc nL own d) {v w : Value} (dd : decode cc pc = .ok (.dup2, 1)) (hv : v.category = 1) (hw : w.category = 1) (k : V S X nL M (pc + 1) lv (v :: w :: v :: w :: st)) : V S X nL M pc lv (v :: w :: st) := fun H locs ls hP hS hl => lv_dup2_11 C.1 C.2.1 dd hv hw (k H locs ls hP hS hl)
theorem v_pop (C : CX S X cc nL own d) {v : Value} (dd : decode cc pc = .ok (.pop, 1)) (hv : v.category = 1) (k : V S X nL M (pc + 1) lv st) : V S X nL M pc lv (v :: st) := fun H locs ls hP hS hl => lv_pop C.1 C.2.1 dd hv (k H locs ls hP hS hl)
theorem v_if_eq (C : CX S X cc nL own d) (tgt : Nat) {x : Int32} {off : Int} (dd : decode cc pc = .ok (.ifCond .eq off, 3)) (ht : (pc : Int) + off = (tgt : Int)) (kt : x = 0 → V S X nL M tgt lv st) (kf : ¬ (x = 0) → V S X nL M (pc + 3) lv st) : V S X nL M pc lv (.int x :: st) := fun H locs ls hP hS hl => lv_if_eq C.1 C.2.1 dd ht (fun h => kt h H locs ls hP hS hl) (fun h => kf h H locs ls hP hS hl)
theorem v_icmp_eq (C : CX S X cc nL own d) (tgt : Nat) {x y : Int32} {off : Int} (dd : decode cc pc = .ok (.if_icmp .eq off, 3)) (ht : (pc : Int) + off = (tgt : Int)) (kt : x = y → V S X nL M tgt lv st) (kf : ¬ (x = y) → V S X nL M (pc + 3) lv st) : V S X nL M pc lv (.int y :: .int x :: st) := fun H locs ls hP hS hl => lv_icmp_eq C.1 C.2.1 dd ht (fun h => kt h H locs ls hP hS hl) (fun h => kf h H locs ls hP hS hl)
theorem v_if_ne (C : CX S X cc nL own d) (tgt : Nat) {x : Int32} {off : Int} (dd : decode cc pc = .ok (.ifCond .ne off, 3)) (ht : (pc : Int) + off = (tgt : Int)) (kt : ¬ x = 0 → V S X nL M tgt lv st) (kf : x = 0 → V S X nL M (pc + 3) lv st) : V S X nL M pc lv (.int x :: st) := fun H locs ls hP hS hl => lv_if_ne C.1 C.2.1 dd ht (fun h => kt h H locs ls hP hS hl) (fun h => kf h H locs ls hP hS hl)
theorem v_icmp_ne (C : CX S X cc nL own d) (tgt : Nat) {x y : Int32} {off : Int} (dd : decode cc pc = .ok (.if_icmp .ne off, 3)) (ht : (pc : Int) + off = (tgt : Int)) (kt : ¬ x = y → V S X nL M tgt lv st) (kf : x = y → V S X nL M (pc + 3) lv st) : V S X nL M pc lv (.int y :: .int x :: st) := fun H locs ls hP hS hl => lv_icmp_ne C.1 C.2.1 dd ht (fun h => kt h H locs ls hP hS hl) (fun h => kf h H locs ls hP hS hl)
theorem v_if_lt (C : CX S X cc nL own d) (tgt : Nat) {x : Int32} {off : Int} (dd : decode cc pc = .ok (.ifCond .lt off, 3)) (ht : (pc : Int) + off = (tgt : Int)) (kt : x < 0 → V S X nL M tgt lv st) (kf : ¬ (x < 0) → V S X nL M (pc + 3) lv st) : V S X nL M pc lv (.int x :: st) := fun H locs ls hP hS hl => lv_if_lt C.1 C.2.1 dd ht (fun h => kt h H locs ls hP hS hl) (fun h => kf h H locs ls hP hS hl)
theorem v_icmp_lt (C : CX S X cc nL own d) (tgt : Nat) {x y : Int32} {off : Int} (dd : decode cc pc = .ok (.if_icmp .lt off, 3)) (ht : (pc : Int) + off = (tgt : Int)) (kt : x < y → V S X nL M tgt lv st) (kf : ¬ (x < y) → V S X nL M (pc + 3) lv st) : V S X nL M pc lv (.int y :: .int x :: st) := fun H locs ls hP hS hl => lv_icmp_lt C.1 C.2.1 dd ht (fun h => kt h H locs ls hP hS hl) (fun h => kf h H locs ls hP hS hl)
theorem v_if_ge (C : CX S X cc nL own d) (tgt : Nat) {x : Int32} {off : Int} (dd : decode cc pc = .ok (.ifCond .ge off, 3)) (ht : (pc : Int) + off = (tgt : Int)) (kt : 0 ≤ x → V S X nL M tgt lv st) (kf : ¬ (0 ≤ x) → V S X nL M (pc + 3) lv st) : V S X nL M pc lv (.int x :: st) := fun H locs ls hP hS hl => lv_if_ge C.1 C.2.1 dd ht (fun h => kt h H locs ls hP hS hl) (fun h => kf h H locs ls hP hS hl)
theorem v_icmp_ge (C : CX S X cc nL own d) (tgt : Nat) {x y : Int32} {off : Int} (dd : decode cc pc = .ok (.if_icmp .ge off, 3)) (ht : (pc : Int) + off = (tgt : Int)) (kt : y ≤ x → V S X nL M tgt lv st) (kf : ¬ (y ≤ x) → V S X nL M (pc + 3) lv st) : V S X nL M pc lv (.int y :: .int x :: st) := fun H locs ls hP hS hl => lv_icmp_ge C.1 C.2.1 dd ht (fun h => kt h H locs ls hP hS hl) (fun h => kf h H locs ls hP hS hl)
theorem v_if_gt (C : CX S X cc nL own d) (tgt : Nat) {x : Int32} {off : Int} (dd : decode cc pc = .ok (.ifCond .gt off, 3)) (ht : (pc : Int) + off = (tgt : Int)) (kt : 0 < x → V S X nL M tgt lv st) (kf : ¬ (0 < x) → V S X nL M (pc + 3) lv st) : V S X nL M pc lv (.int x :: st) := fun H locs ls hP hS hl => lv_if_gt C.1 C.2.1 dd ht (fun h => kt h H locs ls hP hS hl) (fun h => kf h H locs ls hP hS hl)
theorem v_icmp_gt (C : CX S X cc nL own d) (tgt : Nat) {x y : Int32} {off : Int} (dd : decode cc pc = .ok (.if_icmp .gt off, 3)) (ht : (pc : Int) + off = (tgt : Int)) (kt : y < x → V S X nL M tgt lv st) (kf : ¬ (y < x) → V S X nL M (pc + 3) lv st) : V S X nL M pc lv (.int y :: .int x :: st) := fun H locs ls hP hS hl => lv_icmp_gt C.1 C.2.1 dd ht (fun h => kt h H locs ls hP hS hl) (fun h => kf h H locs ls hP hS hl)
theorem v_if_le (C : CX S X cc nL own d) (tgt : Nat) {x : Int32} {off : Int} (dd : decode cc pc = .ok (.ifCond .le off, 3)) (ht : (pc : Int) + off = (tgt : Int)) (kt : x ≤ 0 → V S X nL M tgt lv st) (kf : ¬ (x ≤ 0) → V S X nL M (pc + 3) lv st) : V S X nL M pc lv (.int x :: st) := fun H locs ls hP hS hl => lv_if_le C.1 C.2.1 dd ht (fun h => kt h H locs ls hP hS hl) (fun h => kf h H locs ls hP hS hl)
theorem v_icmp_le (C : CX S X cc nL own d) (tgt : Nat) {x y : Int32} {off : Int} (dd : decode cc pc = .ok (.if_icmp .le off, 3)) (ht : (pc : Int) + off = (tgt : Int)) (kt : x ≤ y → V S X nL M tgt lv st) (kf : ¬ (x ≤ y) → V S X nL M (pc + 3) lv st) : V S X nL M pc lv (.int y :: .int x :: st) := fun H locs ls hP hS hl => lv_icmp_le C.1 C.2.1 dd ht (fun h => kt h H locs ls hP hS hl) (fun h => kf h H locs ls hP hS hl)
theorem v_goto (C : CX S X cc nL own d) (tgt : Nat) {off : Int} (dd : decode cc pc = .ok (.goto off, 3)) (ht : (pc : Int) + off = (tgt : Int)) (k : V S X nL M tgt lv st) : V S X nL M pc lv st := fun H locs ls hP hS hl => lv_goto C.1 C.2.1 dd ht (k H locs ls hP hS hl)
theorem v_tableOut (C : CX S X cc nL own d) (tgt : Nat) {dflt lo hi : Int} {offs : Array Int} {len : Nat} {x : Int32} (dd : decode cc pc = .ok (.tableswitch dflt lo hi offs, len)) (h : x.toInt < lo ∨ hi < x.toInt) (ht : (pc : Int) + dflt = (tgt : Int)) (k : V S X nL M tgt lv st) : V S X nL M pc lv (.int x :: st) := fun H locs ls hP hS hl => lv_tableOut C.1 C.2.1 dd h ht (k H locs ls hP hS hl)
theorem v_tableIn (C : CX S X cc nL own d) (tgt : Nat) {dflt lo hi off : Int} {offs : Array Int} {len : Nat} {x : Int32} (dd : decode cc pc = .ok (.tableswitch dflt lo hi offs, len)) (h1 : ¬ x.toInt < lo) (h2 : ¬ hi < x.toInt) (ho : offs[(x.toInt - lo).toNat]? = some off) (ht : (pc : Int) + off = (tgt : Int)) (k : V S X nL M tgt lv st) : V S X nL M pc lv (.int x :: st) := fun H locs ls hP hS hl => lv_tableIn C.1 C.2.1 dd h1 h2 ho ht (k H locs ls hP hS hl)
theorem v_lookup (C : CX S X cc nL own d) (tgt : Nat) {dflt off : Int} {ps : Array (Int × Int)} {len : Nat} {x : Int32} (dd : decode cc pc = .ok (.lookupswitch dflt ps, len)) (hp : (ps.toList.zip (ps.toList.drop 1)).all (fun (a, next) => a.1 < next.1) = true) (ho : Op.lookupswitch.offset ps.toList dflt x.toInt = off) (ht : (pc : Int) + off = (tgt : Int)) (k : V S X nL M tgt lv st) : V S X nL M pc lv (.int x :: st) := fun H locs ls hP hS hl => lv_lookup C.1 C.2.1 dd hp ho ht (k H locs ls hP hS hl)
-- ===== arrays =====
abbrev gin (i : Int32) (n : Nat) : Prop := ¬ (i < 0 ∨ n ≤ i.toNatClampNeg)
theorem v_iald (C : CX S X cc nL own d) {o n : Nat} (ho : kd o = 20) (hn : ln o = n) {i : Int32} (hg : gin i n) (dd : decode cc pc = .ok (.iaload, 1)) (k : V S X nL M (pc + 1) lv (.int (M o i.toNatClampNeg) :: st)) : V S X nL M pc lv (.int i :: .ref (S.2.1 o) :: st) := fun H locs ls hP hS hl => by
  subst hn
  exact va_iald C.1 C.2.1 C.2.2.2.2.2.1 hP o 0 (by rw [wd_at (kd_lt (by rw [ho]; decide)), ent_20 ho]) rfl hg dd (k H locs ls hP hS hl)
theorem v_zald (C : CX S X cc nL own d) {o n : Nat} (ho : kd o = 22) (hn : ln o = n) {i : Int32} (hg : gin i n) (dd : decode cc pc = .ok (.baload, 1)) (k : V S X nL M (pc + 1) lv (.int (M o i.toNatClampNeg) :: st)) : V S X nL M pc lv (.int i :: .ref (S.2.1 o) :: st) := fun H locs ls hP hS hl => by
  subst hn
  exact va_zald C.1 C.2.1 C.2.2.2.2.2.1 hP o 2 (by rw [wd_at (kd_lt (by rw [ho]; decide)), ent_22 ho]) rfl hg dd (k H locs ls hP hS hl)
theorem v_fald (C : CX S X cc nL own d) {o n : Nat} (ho : kd o = 21) (hn : ln o = n) {i : Int32} (hg : gin i n) (dd : decode cc pc = .ok (.faload, 1)) (k : V S X nL M (pc + 1) lv (.float (M o i.toNatClampNeg).toUInt32 :: st)) : V S X nL M pc lv (.int i :: .ref (S.2.1 o) :: st) := fun H locs ls hP hS hl => by
  subst hn
  exact va_fald C.1 C.2.1 C.2.2.2.2.2.1 hP o 1 (by rw [wd_at (kd_lt (by rw [ho]; decide)), ent_21 ho]) rfl hg dd (k H locs ls hP hS hl)
theorem v_iast (C : CX S X cc nL own d) {o n : Nat} (ho : kd o = 20) (hn : ln o = n) {i x : Int32} (hg : gin i n) (dd : decode cc pc = .ok (.iastore, 1)) (k : V S X nL (mset M o i.toNatClampNeg x) (pc + 1) lv st) : V S X nL M pc lv (.int x :: .int i :: .ref (S.2.1 o) :: st) := fun H locs ls hP hS hl => by
  subst hn
  have hlt : o < NC := kd_lt (by rw [ho]; decide)
  refine va_iast C.1 C.2.1 C.2.2.2.2.2.1 hP (wd_D C.2.2.2.2.2.2.1) hS o 0 (by rw [wd_at hlt, ent_20 ho]) rfl hg dd (fun H1 locs1 hP1 _ hS1 => ?_)
  rw [wd_set (M' := mset M o i.toNatClampNeg x) hlt (by rw [ent_20 ho, mset_self]) (fun j hj => ent_congr (mset_ne M _ _ hj))] at hP1
  exact k H1 locs1 ls hP1 hS1 hl
theorem v_zast (C : CX S X cc nL own d) {o n : Nat} (ho : kd o = 22) (hn : ln o = n) {i x : Int32} (hg : gin i n) (hx : x = 0 ∨ x = 1) (dd : decode cc pc = .ok (.bastore, 1)) (k : V S X nL (mset M o i.toNatClampNeg x) (pc + 1) lv st) : V S X nL M pc lv (.int x :: .int i :: .ref (S.2.1 o) :: st) := fun H locs ls hP hS hl => by
  subst hn
  have hlt : o < NC := kd_lt (by rw [ho]; decide)
  have hz : vp_nar .boolean x = x := by rcases hx with rfl | rfl <;> decide +kernel
  refine va_zast C.1 C.2.1 C.2.2.2.2.2.1 hP (wd_D C.2.2.2.2.2.2.1) hS o 2 (by rw [wd_at hlt, ent_22 ho]) rfl hg dd (fun H1 locs1 hP1 _ hS1 => ?_)
  rw [hz, wd_set (M' := mset M o i.toNatClampNeg x) hlt (by rw [ent_22 ho, mset_self]) (fun j hj => ent_congr (mset_ne M _ _ hj))] at hP1
  exact k H1 locs1 ls hP1 hS1 hl
theorem v_fast (C : CX S X cc nL own d) {o n : Nat} (ho : kd o = 21) (hn : ln o = n) {i : Int32} {x : UInt32} (hg : gin i n) (dd : decode cc pc = .ok (.fastore, 1)) (k : V S X nL (mset M o i.toNatClampNeg x.toInt32) (pc + 1) lv st) : V S X nL M pc lv (.float x :: .int i :: .ref (S.2.1 o) :: st) := fun H locs ls hP hS hl => by
  subst hn
  have hlt : o < NC := kd_lt (by rw [ho]; decide)
  refine va_fast C.1 C.2.1 C.2.2.2.2.2.1 hP (wd_D C.2.2.2.2.2.2.1) hS o 1 (by rw [wd_at hlt, ent_21 ho]) rfl hg dd (fun H1 locs1 hP1 _ hS1 => ?_)
  rw [wd_set (M' := mset M o i.toNatClampNeg x.toInt32) hlt (by
    rw [ent_21 ho, mset_self]
    refine congrArg (fun f => (Sum.inl (S.2.2 1, ln o, .inr (.inr (.inl f))) : va_E)) (funext fun j => ?_)
    unfold upd
    by_cases hj : j = i.toNatClampNeg
    · subst hj; simp [vf_upd]
    · simp [hj, vf_upd]) (fun j hj => ent_congr (mset_ne M _ _ hj))] at hP1
  exact k H1 locs1 ls hP1 hS1 hl
theorem v_alen (C : CX S X cc nL own d) {o n : Nat} (ho : kd o = 20) (hn : ln o = n) (dd : decode cc pc = .ok (.arraylength, 1)) (k : V S X nL M (pc + 1) lv (.int (Int32.ofNat n) :: st)) : V S X nL M pc lv (.ref (S.2.1 o) :: st) := fun H locs ls hP hS hl => by
  subst hn
  exact va_alen C.1 C.2.1 C.2.2.2.2.2.1 hP o 0 (by rw [wd_at (kd_lt (by rw [ho]; decide)), ent_20 ho]) rfl rfl dd (k H locs ls hP hS hl)
/-- the arrays of objects: their places are fixed -/
theorem v_aaldT (C : CX S X cc nL own d) {i : Int32} (hg : gin i 3) (dd : decode cc pc = .ok (.aaload, 1)) (k : V S X nL M (pc + 1) lv (.ref (S.2.1 (2 + 2 * i.toNatClampNeg)) :: st)) : V S X nL M pc lv (.int i :: .ref (S.2.1 1) :: st) := fun H locs ls hP hS hl =>
  va_aldq (f := fun j => some (S.2.1 (2 + 2 * j))) C.1 C.2.1 C.2.2.2.2.2.1 hP 1 3 (by rw [wd_at (by decide)]; rfl) rfl hg dd (k H locs ls hP hS hl)
theorem v_aaldS (C : CX S X cc nL own d) {i : Int32} (hg : gin i 4) (dd : decode cc pc = .ok (.aaload, 1)) (k : V S X nL M (pc + 1) lv (.ref (S.2.1 (9 + 2 * i.toNatClampNeg)) :: st)) : V S X nL M pc lv (.int i :: .ref (S.2.1 8) :: st) := fun H locs ls hP hS hl =>
  va_aldq (f := fun j => some (S.2.1 (9 + 2 * j))) C.1 C.2.1 C.2.2.2.2.2.1 hP 8 4 (by rw [wd_at (by decide)]; rfl) rfl hg dd (k H locs ls hP hS hl)
theorem v_aaldL (C : CX S X cc nL own d) {i : Int32} (hg : gin i 10) (dd : decode cc pc = .ok (.aaload, 1)) (k : V S X nL M (pc + 1) lv (.ref (S.2.1 (45 + i.toNatClampNeg)) :: st)) : V S X nL M pc lv (.int i :: .ref (S.2.1 44) :: st) := fun H locs ls hP hS hl =>
  va_aldq (f := fun j => some (S.2.1 (45 + j))) C.1 C.2.1 C.2.2.2.2.2.1 hP 44 5 (by rw [wd_at (by decide)]; rfl) rfl hg dd (k H locs ls hP hS hl)
theorem v_aaldR (C : CX S X cc nL own d) {i : Int32} (hg : gin i 14) (dd : decode cc pc = .ok (.aaload, 1)) (k : V S X nL M (pc + 1) lv (.ref (S.2.1 (29 + i.toNatClampNeg)) :: st)) : V S X nL M pc lv (.int i :: .ref (S.2.1 28) :: st) := fun H locs ls hP hS hl => by
  have hlt : i.toNatClampNeg < 14 := Nat.not_le.mp fun q => hg (Or.inr q)
  have ha : (wd S M)[28]? = some (S.2.1 28, .inl (S.2.2 6, 14, .inr (.inr (.inr (.inr (fun j => some (S.2.1 (29 + j)))))))) := by rw [wd_at (by decide)]; rfl
  exact W.aald (v := .ref (S.2.1 (29 + i.toNatClampNeg))) (ty := .array .int) C.1 C.2.1 (hP 28 _ ha) ((C.2.2.2.2.2.1.2 6 (S.2.2 6, .array .int) rfl).1 14 (fun j => va_rf (some (S.2.1 (29 + j))))) rfl (fun q => by cases q) (by show ¬ (i < 0 ∨ (arrV _ _ _).slots.size ≤ _); rw [arrV_size]; exact hg) (by show (arrV _ _ _).slots[_]? = _; rw [arrV_read _ _ hlt]; rfl) rfl rfl dd (k H locs ls hP hS hl)
-- ===== returns =====
section VRT
variable {rt : Option FieldType} {r : Option Value} {M' : Mem}
theorem v_iret (C : CX S X cc nL own d) {v : Int32} (K : RT S X (some .int) (some (.int v)) M) (dd : decode cc pc = .ok (.ireturn, 1)) : V S X nL M pc lv [.int v] := fun H locs ls hP hS hl => by
  obtain ⟨k1, k2, k3, k4, k5⟩ := K
  rw [k3, k4, k5]
  exact W.iret C.1 C.2.1 k1 (fun t ht hW => ⟨rfl, by rw [ht]; exact hP, va_K.moved hW.alike C.2.2.2.2.2.1, hS.F ht⟩) hS.2.2 dd k2
theorem v_zret (C : CX S X cc nL own d) {v : Int32} (hz : v = 0 ∨ v = 1) (K : RT S X (some .boolean) (some (.int v)) M) (dd : decode cc pc = .ok (.ireturn, 1)) : V S X nL M pc lv [.int v] := fun H locs ls hP hS hl => by
  obtain ⟨k1, k2, k3, k4, k5⟩ := K
  rw [k3, k4, k5]
  exact W.zret C.1 C.2.1 k1 (by rcases hz with rfl | rfl <;> decide +kernel) (fun t ht hW => ⟨rfl, by rw [ht]; exact hP, va_K.moved hW.alike C.2.2.2.2.2.1, hS.F ht⟩) hS.2.2 dd k2
theorem v_lret (C : CX S X cc nL own d) {v : Int64} (K : RT S X (some .long) (some (.long v)) M) (dd : decode cc pc = .ok (.lreturn, 1)) : V S X nL M pc lv [.long v] := fun H locs ls hP hS hl => by
  obtain ⟨k1, k2, k3, k4, k5⟩ := K
  rw [k3, k4, k5]
  exact W.lret C.1 C.2.1 k1 (fun t ht hW => ⟨rfl, by rw [ht]; exact hP, va_K.moved hW.alike C.2.2.2.2.2.1, hS.F ht⟩) hS.2.2 dd k2
theorem v_fret (C : CX S X cc nL own d) {v : UInt32} (K : RT S X (some .float) (some (.float v)) M) (dd : decode cc pc = .ok (.freturn, 1)) : V S X nL M pc lv [.float v] := fun H locs ls hP hS hl => by
  obtain ⟨k1, k2, k3, k4, k5⟩ := K
  rw [k3, k4, k5]
  exact W.fret C.1 C.2.1 k1 (fun t ht hW => ⟨rfl, by rw [ht]; exact hP, va_K.moved hW.alike C.2.2.2.2.2.1, hS.F ht⟩) hS.2.2 dd k2
theorem v_vret (C : CX S X cc nL own d) (K : RT S X none none M) (dd : decode cc pc = .ok (.return_, 1)) : V S X nL M pc lv [] := fun H locs ls hP hS hl => by
  obtain ⟨k1, k2, k3, k4, k5⟩ := K
  rw [k3, k4, k5]
  exact W.vret C.1 C.2.1 k1 (fun t ht hW => ⟨rfl, by rw [ht]; exact hP, va_K.moved hW.alike C.2.2.2.2.2.1, hS.F ht⟩) hS.2.2 dd k2
theorem v_aret (C : CX S X cc nL own d) {a : Nat} {cn : String} (K : RT S X (some (.object cn)) (some (.ref a)) M) (dd : decode cc pc = .ok (.areturn, 1)) : V S X nL M pc lv [.ref a] := fun H locs ls hP hS hl => by
  obtain ⟨k1, k2, k3, k4, k5⟩ := K
  rw [k3, k4, k5]
  exact W.aret C.1 C.2.1 k1 (Or.inl ⟨_, rfl⟩) (Or.inr ⟨_, rfl⟩) (fun t ht hW => ⟨rfl, by rw [ht]; exact hP, va_K.moved hW.alike C.2.2.2.2.2.1, hS.F ht⟩) hS.2.2 dd k2
end VRT
-- ===== calls =====
/-- what the tables say of a method that is called: an instance method, a static one -/
def CIV (y : MethodName) (cy : ByteArray) (ny : Nat) (ry : Option FieldType) (n : Nat) : Prop := Cond.code y cy ny ry ∈ tw ∧ Cond.initialized y.cls ∈ tw ∧ Cond.instanceMethod y ∈ tw ∧ Cond.selects y.cls y y ∈ tw ∧ ny ≤ 21 ∧ y.cls ≠ "java/lang/invoke/MethodHandle" ∧ y.cls ≠ "java/lang/invoke/VarHandle" ∧ (parseMethodDescriptor y.desc).map (fun d => d.parameters.length) = some n
def CIS (y : MethodName) (cy : ByteArray) (ny : Nat) (ry : Option FieldType) (n : Nat) : Prop := Cond.code y cy ny ry ∈ tw ∧ Cond.initialized y.cls ∈ tw ∧ Cond.static y ∈ tw ∧ ny ≤ 21 ∧ y.cls ≠ "java/lang/invoke/MethodHandle" ∧ y.cls ≠ "java/lang/invoke/VarHandle" ∧ (parseMethodDescriptor y.desc).map (fun d => d.parameters.length) = some n
theorem pc_blind {S : SE} {args : List Value} {M : Mem} : FrameBlind (PC S args M) := fun a U g mk q => by
  obtain ⟨q0, q1, q2, q3⟩ := q
  exact ⟨q0, q1, va_K.moved (u := U) (U := U.calling g mk a) (Vm.Alike.refl U.vm) q2, q3.same (U := U.calling g mk a) rfl⟩
theorem cb_len {y : MethodName} {n : Nat} (h2 : (parseMethodDescriptor y.desc).map (fun d => d.parameters.length) = some n) : ∀ sig, parseMethodDescriptor y.desc = some sig → n = sig.parameters.length := fun sig h => by
  rw [h] at h2
  exact (Option.some.inj h2).symm
theorem ws_pay {args : Array Value} {s : State} (hts : ∀ w ∈ tw, w.before args s = true) {w0 : Cond} (h0 : w0 ∈ tw) : ∀ w ∈ w0 :: tw, ∀ (a' : Array Value) (U : State), s.WarmedH U.vm → w.before a' U = true := fun w hw => (List.mem_cons.mp hw).elim (fun e => e ▸ tw_pay hts w0 h0) (tw_pay hts w)
section VCALL
variable {y : MethodName} {cy : ByteArray} {ny : Nat} {ry : Option FieldType} {n dy idx : Nat} {As : List Value} {M1 : Mem} {r : Option Value}
theorem v_run {a : Array Value} {rest : List Value} {Hh : Heap} {locs0 : List Loc} {ls : Array Slot} (hI : Inj S)
    (hr : va_Run X.1 X.2.1 X.2.2.1 X.2.2.2.1 X.2.2.2.2.1 X.2.2.2.2.2.1 X.2.2.2.2.2.2.1 X.2.2.2.2.2.2.2.1 X.2.2.2.2.2.2.2.2.1 X.2.2.2.2.2.2.2.2.2.1 Hh locs0 X.2.2.2.2.2.2.2.2.2.2.1 X.2.2.2.2.2.2.2.2.2.2.2.1 0 0 (F0 X.2.2.2.2.2.1 pc ls st) rest (QC S r M1 a) (AA S))
    (hS : va_S (AA S) X.2.2.2.2.1.heap Hh locs0) (hl : lv_has ls nL lv) (k : V S X nL M1 (pc + 3) lv (r.toList ++ rest)) : W X.1 X.2.1 X.2.2.1 X.2.2.2.1 X.2.2.2.2.1 X.2.2.2.2.2.1 X.2.2.2.2.2.2.1 X.2.2.2.2.2.2.2.1 X.2.2.2.2.2.2.2.2.1 X.2.2.2.2.2.2.2.2.2.1 Hh locs0 X.2.2.2.2.2.2.2.2.2.2.1 X.2.2.2.2.2.2.2.2.2.2.2.1 X.2.2.2.2.2.2.2.2.2.2.2.2 (F0 X.2.2.2.2.2.1 pc ls st) := by
  intro T hT Xs
  obtain ⟨v, st₀, t, T', L, h0, X', hL, e1, e2, ⟨hv, hP1, hK1, hz, hk⟩, stp⟩ := hr T hT Xs
  have hv : v = r := by cases hv; rfl
  subst hv
  rw [h0] at hz hk
  obtain ⟨t2, a1, b1⟩ := k T'.heap (locs0 ++ L) ls (by rw [e1]; exact hP1)
    ⟨Nat.le_trans hS.1 (by rw [e1]; exact hz), fun q h1 h2 => by rw [e1, hk q (Nat.lt_of_lt_of_le h1 hS.1) h2]; exact hS.2.1 q h1 h2, fun q hq => by
      rcases List.mem_append.mp hq with h | h
      · exact hS.2.2 q h
      · exact hL q h⟩ hl T' rfl X'
  exact ⟨t2, stp t2 a1, b1⟩
/-- a call of an instance method of the own class or of a package's one -/
theorem v_callV (C : CX S X cc nL own d) (rest : List Value) {o ci : Nat} {fs : List Value} {q : vw_C} (hc : vwCl[ci]? = some q) (hq : q.1 = y.cls) (ho : ent S.2.1 S.2.2 M o = .inr (ci, fs)) (hon : o < NC) (hM : CM S y cy ny ry dy (.ref (S.2.1 o) :: As) M r M1) (ii : CIV y cy ny ry n) (hw : Cond.methodLink own idx y ∈ tw) (hd : dy + 1 ≤ d) (hn : As.length = n) (hst : st = As.reverse ++ .ref (S.2.1 o) :: rest) (hr : (rest.map fun v => v.category).sum ≤ 8) (dd : decode cc pc = .ok (.invokevirtual idx, 3)) (k : V S X nL M1 (pc + 3) lv (r.toList ++ rest)) : V S X nL M pc lv st := fun H locs ls hP hS hl => by
  obtain ⟨hx, hb, hml, hown, hts, hK, hI, hf, hlo, hce, hsl, hN⟩ := C
  obtain ⟨i1, i2, i3, i4, i5, i6, i7, i8⟩ := ii
  refine v_run hI (va_runV (C := y.cls) (bytes := cy) (maxL := ny) (ret := ry) (As := As) (rest := rest) (b := S.2.1 o) ⟨hx, hb, hml, hown, hts⟩ (hM _) ⟨⟨rfl, rfl, by show dy + 1 ≤ _; omega, by show 8 + (ny + 11) + 40 * dy ≤ _; omega, ws_pay hts i1, List.mem_cons_self, hts _ i1, hts _ i2, ⟨i6, i7⟩, cb_len i8, hts _ hw⟩, hts _ i3, hts _ i4⟩ ⟨pc_blind, ?_, fun U hU hW => ⟨rfl, by rw [hU]; exact hP, va_K.moved hW.alike hK, hN.warm hW⟩⟩ rfl hn hl.1 hst (by show 2 * 0 + _ ≤ 8; omega) dd ⟨by omega, by omega⟩) hS hl k
  have h1 := va_recv hK hP (ci := ci) (q0 := o) hc (by rw [wd_at hon, ho])
  rw [hq] at h1
  exact h1
theorem v_callS (C : CX S X cc nL own d) (rest : List Value) (hM : CM S y cy ny ry dy As M r M1) (ii : CIS y cy ny ry n) (hw : Cond.methodLink own idx y ∈ tw) (hd : dy + 1 ≤ d) (hn : As.length = n) (hst : st = As.reverse ++ rest) (hr : (rest.map fun v => v.category).sum ≤ 8) (dd : decode cc pc = .ok (.invokestatic idx, 3)) (k : V S X nL M1 (pc + 3) lv (r.toList ++ rest)) : V S X nL M pc lv st := fun H locs ls hP hS hl => by
  obtain ⟨hx, hb, hml, hown, hts, hK, hI, hf, hlo, hce, hsl, hN⟩ := C
  obtain ⟨i1, i2, i3, i5, i6, i7, i8⟩ := ii
  exact v_run hI (va_runS (bytes := cy) (maxL := ny) (ret := ry) (As := As) (rest := rest) ⟨hx, hb, hml, hown, hts⟩ (hM _) ⟨⟨rfl, rfl, by show dy + 1 ≤ _; omega, by show 8 + (ny + 11) + 40 * dy ≤ _; omega, ws_pay hts i1, List.mem_cons_self, hts _ i1, hts _ i2, ⟨i6, i7⟩, cb_len i8, hts _ hw⟩, hts _ i3⟩ ⟨pc_blind, fun U hU hW => ⟨rfl, by rw [hU]; exact hP, va_K.moved hW.alike hK, hN.warm hW⟩⟩ rfl hn hl.1 hst (by show 2 * 0 + _ ≤ 8; omega) dd ⟨by omega, by omega⟩) hS hl k
theorem v_callSN (C : CX S X cc nL own d) (rest : List Value) (hM : CM S y cy ny ry dy As M r M1) (ii : CIS y cy ny ry n) (hw : (own, idx, y) ∈ nwL) (hd : dy + 1 ≤ d) (hn : As.length = n) (hst : st = As.reverse ++ rest) (hr : (rest.map fun v => v.category).sum ≤ 8) (dd : decode cc pc = .ok (.invokestatic idx, 3)) (k : V S X nL M1 (pc + 3) lv (r.toList ++ rest)) : V S X nL M pc lv st := fun H locs ls hP hS hl => by
  obtain ⟨hx, hb, hml, hown, hts, hK, hI, hf, hlo, hce, hsl, hN⟩ := C
  obtain ⟨i1, i2, i3, i5, i6, i7, i8⟩ := ii
  exact v_run hI (va_runSN (host := "UnnestPlans") (bytes := cy) (maxL := ny) (ret := ry) (As := As) (rest := rest) ⟨hx, hb, hml, hown, hts⟩ (hM _) ⟨⟨⟨rfl, rfl, by show dy + 1 ≤ _; omega, by show 8 + (ny + 11) + 40 * dy ≤ _; omega, ws_pay hts i1, List.mem_cons_self⟩, hts _ i1, hts _ i2, ⟨i6, i7⟩, cb_len i8, va_Nw.use rfl (hN _ hw)⟩, hts _ i3, trivial⟩ ⟨pc_blind, fun U hU hW => ⟨rfl, by rw [hU]; exact hP, va_K.moved hW.alike hK, hN.warm hW⟩⟩ rfl hn hl.1 hst (by show 2 * 0 + _ ≤ 8; omega) dd ⟨by omega, by omega⟩) hS hl k
end VCALL
-- ===== fields =====
theorem v_getf (C : CX S X cc nL own d) {o ci N idx kf : Nat} {fs : List Value} {Cn : String} {T : u_T} {v : Value} (hon : o < NC) (ho : ent S.2.1 S.2.2 M o = .inr (ci, fs)) (hc : vwCl[ci]? = some (Cn, T, N)) (hin : ∀ w ∈ u_ws Cn T N, w ∈ tw) (hk : kf < N) (hv : fs[kf]? = some v) (hcn : (T kf).1 = Cn) (hw : Cond.fieldLink own idx Cn (T kf).2.1 (T kf).2.2.1 ∈ tw) (dd : decode cc pc = .ok (.getfield idx, 3)) (k : V S X nL M (pc + 3) lv (v :: st)) : V S X nL M pc lv (.ref (S.2.1 o) :: st) := fun H locs ls hP hS hl =>
  va_get (D := S.1) (ref := Cn) C.1 C.2.1 C.2.2.2.2.1 hin C.2.2.2.1 C.2.2.2.2.2.1 hP o (by rw [wd_at hon, ho]) hc kf hk (C.2.2.2.2.1 _ hw) (fun x h9 => by rw [hcn] at h9; exact h9) hv dd (k H locs ls hP hS hl)
theorem v_putf (C : CX S X cc nL own d) {o ci N idx kf : Nat} {fs : List Value} {Cn : String} {T : u_T} {v : Value} {M1 : Mem} {ty : FieldType} (hon : o < NC) (ho : ent S.2.1 S.2.2 M o = .inr (ci, fs)) (hc : vwCl[ci]? = some (Cn, T, N)) (hin : ∀ w ∈ u_ws Cn T N, w ∈ tw) (ty0 : Nat → FieldType) (hty : ∀ k, k < N → parseFieldDescriptor (T k).2.2.1 = some (ty0 k)) (hnm : ∀ a, a < N → ∀ b, b < N → a ≠ b → (T a).2.1 ≠ (T b).2.1) (hk : kf < N) (hl0 : kf < fs.length) (hcn : (T kf).1 = Cn) (hfin : (T kf).2.2.2 = false) (hd : parseFieldDescriptor (T kf).2.2.1 = some ty) (hn : narrow ty v = v) (hfit : fits ty v = true) (he1 : ent S.2.1 S.2.2 M1 o = .inr (ci, fs.set kf v)) (hne : ∀ i, i ≠ o → ent S.2.1 S.2.2 M1 i = ent S.2.1 S.2.2 M i) (hw : Cond.fieldLink own idx Cn (T kf).2.1 (T kf).2.2.1 ∈ tw) (dd : decode cc pc = .ok (.putfield idx, 3)) (k : V S X nL M1 (pc + 3) lv st) : V S X nL M pc lv (v :: .ref (S.2.1 o) :: st) := fun H locs ls hP hS hl => by
  refine va_put (D := S.1) (ref := Cn) C.1 C.2.1 C.2.2.2.2.1 hin ty0 hty hnm C.2.2.2.1 C.2.2.2.2.2.1 hP (wd_D C.2.2.2.2.2.2.1) hS o (by rw [wd_at hon, ho]) hc kf hk (C.2.2.2.2.1 _ hw) (fun x h9 => by rw [hcn] at h9; exact h9) hfin hd hn hfit hl0 dd (fun H1 locs1 hP1 _ hS1 => ?_)
  rw [wd_set hon he1 hne] at hP1
  exact k H1 locs1 ls hP1 hS1 hl
end VR
theorem gin_lt {i : Int32} {n : Nat} (h : gin i n) : i.toNatClampNeg < n := Nat.not_le.mp fun q => h (Or.inr q)
theorem kd_at (f : Nat → Nat) (n t : Nat) (hc : (List.range n).all (fun j => kd (f j) == t) = true) {j : Nat} (h : j < n) : kd (f j) = t := by simpa using List.all_eq_true.mp hc j (List.mem_range.mpr h)
theorem ln_at (f : Nat → Nat) (n t : Nat) (hc : (List.range n).all (fun j => ln (f j) == t) = true) {j : Nat} (h : j < n) : ln (f j) = t := by simpa using List.all_eq_true.mp hc j (List.mem_range.mpr h)
theorem kd_T {i : Int32} (h : gin i 3) : kd (2 + 2 * i.toNatClampNeg) = 10 := kd_at (fun j => 2 + 2 * j) 3 10 (by decide +kernel) (gin_lt h)
theorem kd_S {i : Int32} (h : gin i 4) : kd (9 + 2 * i.toNatClampNeg) = 6 := kd_at (fun j => 9 + 2 * j) 4 6 (by decide +kernel) (gin_lt h)
theorem kd_L {i : Int32} (h : gin i 10) : kd (45 + i.toNatClampNeg) = 9 := kd_at (fun j => 45 + j) 10 9 (by decide +kernel) (gin_lt h)
theorem kd_R {i : Int32} (h : gin i 14) : kd (29 + i.toNatClampNeg) = 20 := kd_at (fun j => 29 + j) 14 20 (by decide +kernel) (gin_lt h)
theorem ln_R {i : Int32} (h : gin i 14) : ln (29 + i.toNatClampNeg) = 220 := ln_at (fun j => 29 + j) 14 220 (by decide +kernel) (gin_lt h)
theorem tw_ws {C : String} {T : u_T} {N : Nat} (ps : List Nat) (h : u_ws C T N = ps.filterMap (fun i => lw_tbl[i]?)) (hg : (u_ws C T N).all goodWord = true) : ∀ w ∈ u_ws C T N, w ∈ tw := by
  intro w hw
  have h1 := List.all_eq_true.mp hg w hw
  rw [h] at hw
  obtain ⟨i, -, hi⟩ := List.mem_filterMap.mp hw
  exact tw_in i hi h1
theorem inw0 : ∀ w ∈ u_ws RX0 TX0 4, w ∈ tw := tw_ws [293, 295, 297, 299] (by decide +kernel) (by decide +kernel)
theorem inw1 : ∀ w ∈ u_ws RX1 TX1 3, w ∈ tw := tw_ws [263, 265, 267] (by decide +kernel) (by decide +kernel)
theorem inw2 : ∀ w ∈ u_ws RX2 TX2 4, w ∈ tw := tw_ws [319, 321, 323, 325] (by decide +kernel) (by decide +kernel)
theorem inw3 : ∀ w ∈ u_ws RX3 TX3 3, w ∈ tw := tw_ws [179, 181, 183] (by decide +kernel) (by decide +kernel)
theorem inw4 : ∀ w ∈ u_ws RX4 TX4 10, w ∈ tw := tw_ws [349, 351, 353, 355, 357, 359, 361, 363, 365, 367] (by decide +kernel) (by decide +kernel)
theorem inw5 : ∀ w ∈ u_ws RX5 TX5 6, w ∈ tw := tw_ws [381, 383, 385, 387, 389, 391] (by decide +kernel) (by decide +kernel)
theorem inw6 : ∀ w ∈ u_ws RX6 TX6 3, w ∈ tw := tw_ws [216, 218, 220] (by decide +kernel) (by decide +kernel)
theorem inw7 : ∀ w ∈ u_ws RX7 TX7 4, w ∈ tw := tw_ws [161, 163, 165, 167] (by decide +kernel) (by decide +kernel)
theorem inw8 : ∀ w ∈ u_ws RX8 TX8 4, w ∈ tw := tw_ws [134, 136, 138, 140] (by decide +kernel) (by decide +kernel)
theorem inw9 : ∀ w ∈ u_ws RX9 TX9 6, w ∈ tw := tw_ws [244, 246, 248, 250, 252, 254] (by decide +kernel) (by decide +kernel)
theorem inw10 : ∀ w ∈ u_ws RX10 TX10 2, w ∈ tw := tw_ws [198, 200] (by decide +kernel) (by decide +kernel)
theorem inw11 : ∀ w ∈ u_ws RX11 TX11 9, w ∈ tw := tw_ws [403, 405, 407, 409, 411, 413, 415, 417, 419] (by decide +kernel) (by decide +kernel)
theorem inw12 : ∀ w ∈ u_ws RX12 TX12 44, w ∈ tw := tw_ws [930, 932, 934, 936, 938, 940, 942, 944, 946, 948, 950, 952, 954, 956, 958, 960, 962, 964, 966, 968, 970, 972, 974, 976, 978, 980, 982, 984, 986, 988, 990, 992, 994, 996, 998, 1000, 1002, 1004, 1006, 1008, 1010, 1012, 1014, 1016] (by decide +kernel) (by decide +kernel)
end
section
section FR
variable {S : SE} {X : MX} {cc : ByteArray} {nL : Nat} {own : String} {d : Nat} {M : Mem} {pc : Nat} {lv : List (Nat × Value)} {st : List Value} {o idx : Nat}
theorem g_Course_codes (C : CX S X cc nL own d) (ho : kd o = 0) (hw : Cond.fieldLink own idx RX0 "codes" "[I" ∈ tw) (dd : decode cc pc = .ok (.getfield idx, 3)) (k : V S X nL M (pc + 3) lv (.ref (S.2.1 (o + 1)) :: st)) : V S X nL M pc lv (.ref (S.2.1 o) :: st) := v_getf C (kd_lt (by rw [ho]; decide)) (ent_0 ho) (T := TX0) (N := 4) (kf := 0) rfl inw0 (by decide) rfl rfl hw dd k
theorem g_Course_figures (C : CX S X cc nL own d) (ho : kd o = 0) (hw : Cond.fieldLink own idx RX0 "figures" "[I" ∈ tw) (dd : decode cc pc = .ok (.getfield idx, 3)) (k : V S X nL M (pc + 3) lv (.ref (S.2.1 (o + 2)) :: st)) : V S X nL M pc lv (.ref (S.2.1 o) :: st) := v_getf C (kd_lt (by rw [ho]; decide)) (ent_0 ho) (T := TX0) (N := 4) (kf := 1) rfl inw0 (by decide) rfl rfl hw dd k
theorem g_Course_size (C : CX S X cc nL own d) (ho : kd o = 0) (hw : Cond.fieldLink own idx RX0 "size" "I" ∈ tw) (dd : decode cc pc = .ok (.getfield idx, 3)) (k : V S X nL M (pc + 3) lv (.int (M o 2) :: st)) : V S X nL M pc lv (.ref (S.2.1 o) :: st) := v_getf C (kd_lt (by rw [ho]; decide)) (ent_0 ho) (T := TX0) (N := 4) (kf := 2) rfl inw0 (by decide) rfl rfl hw dd k
theorem p_Course_size (C : CX S X cc nL own d) (ho : kd o = 0) {x : Int32} (hw : Cond.fieldLink own idx RX0 "size" "I" ∈ tw) (dd : decode cc pc = .ok (.putfield idx, 3)) (k : V S X nL (mset M o 2 x) (pc + 3) lv st) : V S X nL M pc lv (.int x :: .ref (S.2.1 o) :: st) := v_putf C (kd_lt (by rw [ho]; decide)) (ent_0 ho) (T := TX0) (N := 4) (kf := 2) (ty := .int) rfl inw0 tyX0 tyX0_ok nmX0 (by decide) (Nat.le_of_ble_eq_true rfl) rfl rfl (by decide +kernel) rfl rfl (by rw [ent_0 ho, mset_self]; rfl) (fun j hj => ent_congr (mset_ne M _ _ hj)) hw dd k
theorem g_Course_joinAt (C : CX S X cc nL own d) (ho : kd o = 0) (hw : Cond.fieldLink own idx RX0 "joinAt" "I" ∈ tw) (dd : decode cc pc = .ok (.getfield idx, 3)) (k : V S X nL M (pc + 3) lv (.int (M o 3) :: st)) : V S X nL M pc lv (.ref (S.2.1 o) :: st) := v_getf C (kd_lt (by rw [ho]; decide)) (ent_0 ho) (T := TX0) (N := 4) (kf := 3) rfl inw0 (by decide) rfl rfl hw dd k
theorem p_Course_joinAt (C : CX S X cc nL own d) (ho : kd o = 0) {x : Int32} (hw : Cond.fieldLink own idx RX0 "joinAt" "I" ∈ tw) (dd : decode cc pc = .ok (.putfield idx, 3)) (k : V S X nL (mset M o 3 x) (pc + 3) lv st) : V S X nL M pc lv (.int x :: .ref (S.2.1 o) :: st) := v_putf C (kd_lt (by rw [ho]; decide)) (ent_0 ho) (T := TX0) (N := 4) (kf := 3) (ty := .int) rfl inw0 tyX0 tyX0_ok nmX0 (by decide) (Nat.le_of_ble_eq_true rfl) rfl rfl (by decide +kernel) rfl rfl (by rw [ent_0 ho, mset_self]; rfl) (fun j hj => ent_congr (mset_ne M _ _ hj)) hw dd k
theorem g_Kept_rows (C : CX S X cc nL own d) (ho : kd o = 1) (hw : Cond.fieldLink own idx RX1 "rows" "[[I" ∈ tw) (dd : decode cc pc = .ok (.getfield idx, 3)) (k : V S X nL M (pc + 3) lv (.ref (S.2.1 (o + 1)) :: st)) : V S X nL M pc lv (.ref (S.2.1 o) :: st) := v_getf C (kd_lt (by rw [ho]; decide)) (ent_1 ho) (T := TX1) (N := 3) (kf := 0) rfl inw1 (by decide) rfl rfl hw dd k
theorem g_Kept_sizes (C : CX S X cc nL own d) (ho : kd o = 1) (hw : Cond.fieldLink own idx RX1 "sizes" "[I" ∈ tw) (dd : decode cc pc = .ok (.getfield idx, 3)) (k : V S X nL M (pc + 3) lv (.ref (S.2.1 (o + 16)) :: st)) : V S X nL M pc lv (.ref (S.2.1 o) :: st) := v_getf C (kd_lt (by rw [ho]; decide)) (ent_1 ho) (T := TX1) (N := 3) (kf := 1) rfl inw1 (by decide) rfl rfl hw dd k
theorem g_Kept_tallies (C : CX S X cc nL own d) (ho : kd o = 1) (hw : Cond.fieldLink own idx RX1 "tallies" "[LUnnestPlans$Tally;" ∈ tw) (dd : decode cc pc = .ok (.getfield idx, 3)) (k : V S X nL M (pc + 3) lv (.ref (S.2.1 (o + 17)) :: st)) : V S X nL M pc lv (.ref (S.2.1 o) :: st) := v_getf C (kd_lt (by rw [ho]; decide)) (ent_1 ho) (T := TX1) (N := 3) (kf := 2) rfl inw1 (by decide) rfl rfl hw dd k
theorem g_Pairs_keys (C : CX S X cc nL own d) (ho : kd o = 2) (hw : Cond.fieldLink own idx RX2 "keys" "[I" ∈ tw) (dd : decode cc pc = .ok (.getfield idx, 3)) (k : V S X nL M (pc + 3) lv (.ref (S.2.1 (o + 1)) :: st)) : V S X nL M pc lv (.ref (S.2.1 o) :: st) := v_getf C (kd_lt (by rw [ho]; decide)) (ent_2 ho) (T := TX2) (N := 4) (kf := 0) rfl inw2 (by decide) rfl rfl hw dd k
theorem g_Pairs_values (C : CX S X cc nL own d) (ho : kd o = 2) (hw : Cond.fieldLink own idx RX2 "values" "[I" ∈ tw) (dd : decode cc pc = .ok (.getfield idx, 3)) (k : V S X nL M (pc + 3) lv (.ref (S.2.1 (o + 2)) :: st)) : V S X nL M pc lv (.ref (S.2.1 o) :: st) := v_getf C (kd_lt (by rw [ho]; decide)) (ent_2 ho) (T := TX2) (N := 4) (kf := 1) rfl inw2 (by decide) rfl rfl hw dd k
theorem g_Pairs_places (C : CX S X cc nL own d) (ho : kd o = 2) (hw : Cond.fieldLink own idx RX2 "places" "[I" ∈ tw) (dd : decode cc pc = .ok (.getfield idx, 3)) (k : V S X nL M (pc + 3) lv (.ref (S.2.1 (o + 3)) :: st)) : V S X nL M pc lv (.ref (S.2.1 o) :: st) := v_getf C (kd_lt (by rw [ho]; decide)) (ent_2 ho) (T := TX2) (N := 4) (kf := 2) rfl inw2 (by decide) rfl rfl hw dd k
theorem g_Pairs_size (C : CX S X cc nL own d) (ho : kd o = 2) (hw : Cond.fieldLink own idx RX2 "size" "I" ∈ tw) (dd : decode cc pc = .ok (.getfield idx, 3)) (k : V S X nL M (pc + 3) lv (.int (M o 3) :: st)) : V S X nL M pc lv (.ref (S.2.1 o) :: st) := v_getf C (kd_lt (by rw [ho]; decide)) (ent_2 ho) (T := TX2) (N := 4) (kf := 3) rfl inw2 (by decide) rfl rfl hw dd k
theorem p_Pairs_size (C : CX S X cc nL own d) (ho : kd o = 2) {x : Int32} (hw : Cond.fieldLink own idx RX2 "size" "I" ∈ tw) (dd : decode cc pc = .ok (.putfield idx, 3)) (k : V S X nL (mset M o 3 x) (pc + 3) lv st) : V S X nL M pc lv (.int x :: .ref (S.2.1 o) :: st) := v_putf C (kd_lt (by rw [ho]; decide)) (ent_2 ho) (T := TX2) (N := 4) (kf := 3) (ty := .int) rfl inw2 tyX2 tyX2_ok nmX2 (by decide) (Nat.le_of_ble_eq_true rfl) rfl rfl (by decide +kernel) rfl rfl (by rw [ent_2 ho, mset_self]; rfl) (fun j hj => ent_congr (mset_ne M _ _ hj)) hw dd k
theorem g_Question_outer (C : CX S X cc nL own d) (ho : kd o = 3) (hw : Cond.fieldLink own idx RX3 "outer" "LUnnestPlans$Table;" ∈ tw) (dd : decode cc pc = .ok (.getfield idx, 3)) (k : V S X nL M (pc + 3) lv (.ref (S.2.1 (o + 1)) :: st)) : V S X nL M pc lv (.ref (S.2.1 o) :: st) := v_getf C (kd_lt (by rw [ho]; decide)) (ent_3 ho) (T := TX3) (N := 3) (kf := 0) rfl inw3 (by decide) rfl rfl hw dd k
theorem g_Question_inner (C : CX S X cc nL own d) (ho : kd o = 3) (hw : Cond.fieldLink own idx RX3 "inner" "LUnnestPlans$Table;" ∈ tw) (dd : decode cc pc = .ok (.getfield idx, 3)) (k : V S X nL M (pc + 3) lv (.ref (S.2.1 (o + 4)) :: st)) : V S X nL M pc lv (.ref (S.2.1 o) :: st) := v_getf C (kd_lt (by rw [ho]; decide)) (ent_3 ho) (T := TX3) (N := 3) (kf := 1) rfl inw3 (by decide) rfl rfl hw dd k
theorem g_Question_steps (C : CX S X cc nL own d) (ho : kd o = 3) (hw : Cond.fieldLink own idx RX3 "steps" "LUnnestPlans$Steps;" ∈ tw) (dd : decode cc pc = .ok (.getfield idx, 3)) (k : V S X nL M (pc + 3) lv (.ref (S.2.1 (o + 7)) :: st)) : V S X nL M pc lv (.ref (S.2.1 o) :: st) := v_getf C (kd_lt (by rw [ho]; decide)) (ent_3 ho) (T := TX3) (N := 3) (kf := 2) rfl inw3 (by decide) rfl rfl hw dd k
theorem g_Report_answers (C : CX S X cc nL own d) (ho : kd o = 4) (hw : Cond.fieldLink own idx RX4 "answers" "[I" ∈ tw) (dd : decode cc pc = .ok (.getfield idx, 3)) (k : V S X nL M (pc + 3) lv (.ref (S.2.1 (o + 1)) :: st)) : V S X nL M pc lv (.ref (S.2.1 o) :: st) := v_getf C (kd_lt (by rw [ho]; decide)) (ent_4 ho) (T := TX4) (N := 10) (kf := 0) rfl inw4 (by decide) rfl rfl hw dd k
theorem g_Report_means (C : CX S X cc nL own d) (ho : kd o = 4) (hw : Cond.fieldLink own idx RX4 "means" "[F" ∈ tw) (dd : decode cc pc = .ok (.getfield idx, 3)) (k : V S X nL M (pc + 3) lv (.ref (S.2.1 (o + 2)) :: st)) : V S X nL M pc lv (.ref (S.2.1 o) :: st) := v_getf C (kd_lt (by rw [ho]; decide)) (ent_4 ho) (T := TX4) (N := 10) (kf := 1) rfl inw4 (by decide) rfl rfl hw dd k
theorem g_Report_logged (C : CX S X cc nL own d) (ho : kd o = 4) (hw : Cond.fieldLink own idx RX4 "logged" "[I" ∈ tw) (dd : decode cc pc = .ok (.getfield idx, 3)) (k : V S X nL M (pc + 3) lv (.ref (S.2.1 (o + 3)) :: st)) : V S X nL M pc lv (.ref (S.2.1 o) :: st) := v_getf C (kd_lt (by rw [ho]; decide)) (ent_4 ho) (T := TX4) (N := 10) (kf := 2) rfl inw4 (by decide) rfl rfl hw dd k
theorem g_Report_logSize (C : CX S X cc nL own d) (ho : kd o = 4) (hw : Cond.fieldLink own idx RX4 "logSize" "I" ∈ tw) (dd : decode cc pc = .ok (.getfield idx, 3)) (k : V S X nL M (pc + 3) lv (.int (M o 3) :: st)) : V S X nL M pc lv (.ref (S.2.1 o) :: st) := v_getf C (kd_lt (by rw [ho]; decide)) (ent_4 ho) (T := TX4) (N := 10) (kf := 3) rfl inw4 (by decide) rfl rfl hw dd k
theorem p_Report_logSize (C : CX S X cc nL own d) (ho : kd o = 4) {x : Int32} (hw : Cond.fieldLink own idx RX4 "logSize" "I" ∈ tw) (dd : decode cc pc = .ok (.putfield idx, 3)) (k : V S X nL (mset M o 3 x) (pc + 3) lv st) : V S X nL M pc lv (.int x :: .ref (S.2.1 o) :: st) := v_putf C (kd_lt (by rw [ho]; decide)) (ent_4 ho) (T := TX4) (N := 10) (kf := 3) (ty := .int) rfl inw4 tyX4 tyX4_ok nmX4 (by decide) (Nat.le_of_ble_eq_true rfl) rfl rfl (by decide +kernel) rfl rfl (by rw [ent_4 ho, mset_self]; rfl) (fun j hj => ent_congr (mset_ne M _ _ hj)) hw dd k
theorem g_Report_error (C : CX S X cc nL own d) (ho : kd o = 4) (hw : Cond.fieldLink own idx RX4 "error" "I" ∈ tw) (dd : decode cc pc = .ok (.getfield idx, 3)) (k : V S X nL M (pc + 3) lv (.int (M o 4) :: st)) : V S X nL M pc lv (.ref (S.2.1 o) :: st) := v_getf C (kd_lt (by rw [ho]; decide)) (ent_4 ho) (T := TX4) (N := 10) (kf := 4) rfl inw4 (by decide) rfl rfl hw dd k
theorem p_Report_error (C : CX S X cc nL own d) (ho : kd o = 4) {x : Int32} (hw : Cond.fieldLink own idx RX4 "error" "I" ∈ tw) (dd : decode cc pc = .ok (.putfield idx, 3)) (k : V S X nL (mset M o 4 x) (pc + 3) lv st) : V S X nL M pc lv (.int x :: .ref (S.2.1 o) :: st) := v_putf C (kd_lt (by rw [ho]; decide)) (ent_4 ho) (T := TX4) (N := 10) (kf := 4) (ty := .int) rfl inw4 tyX4 tyX4_ok nmX4 (by decide) (Nat.le_of_ble_eq_true rfl) rfl rfl (by decide +kernel) rfl rfl (by rw [ent_4 ho, mset_self]; rfl) (fun j hj => ent_congr (mset_ne M _ _ hj)) hw dd k
theorem g_Report_read (C : CX S X cc nL own d) (ho : kd o = 4) (hw : Cond.fieldLink own idx RX4 "read" "I" ∈ tw) (dd : decode cc pc = .ok (.getfield idx, 3)) (k : V S X nL M (pc + 3) lv (.int (M o 5) :: st)) : V S X nL M pc lv (.ref (S.2.1 o) :: st) := v_getf C (kd_lt (by rw [ho]; decide)) (ent_4 ho) (T := TX4) (N := 10) (kf := 5) rfl inw4 (by decide) rfl rfl hw dd k
theorem p_Report_read (C : CX S X cc nL own d) (ho : kd o = 4) {x : Int32} (hw : Cond.fieldLink own idx RX4 "read" "I" ∈ tw) (dd : decode cc pc = .ok (.putfield idx, 3)) (k : V S X nL (mset M o 5 x) (pc + 3) lv st) : V S X nL M pc lv (.int x :: .ref (S.2.1 o) :: st) := v_putf C (kd_lt (by rw [ho]; decide)) (ent_4 ho) (T := TX4) (N := 10) (kf := 5) (ty := .int) rfl inw4 tyX4 tyX4_ok nmX4 (by decide) (Nat.le_of_ble_eq_true rfl) rfl rfl (by decide +kernel) rfl rfl (by rw [ent_4 ho, mset_self]; rfl) (fun j hj => ent_congr (mset_ne M _ _ hj)) hw dd k
theorem g_Report_handedOn (C : CX S X cc nL own d) (ho : kd o = 4) (hw : Cond.fieldLink own idx RX4 "handedOn" "I" ∈ tw) (dd : decode cc pc = .ok (.getfield idx, 3)) (k : V S X nL M (pc + 3) lv (.int (M o 6) :: st)) : V S X nL M pc lv (.ref (S.2.1 o) :: st) := v_getf C (kd_lt (by rw [ho]; decide)) (ent_4 ho) (T := TX4) (N := 10) (kf := 6) rfl inw4 (by decide) rfl rfl hw dd k
theorem p_Report_handedOn (C : CX S X cc nL own d) (ho : kd o = 4) {x : Int32} (hw : Cond.fieldLink own idx RX4 "handedOn" "I" ∈ tw) (dd : decode cc pc = .ok (.putfield idx, 3)) (k : V S X nL (mset M o 6 x) (pc + 3) lv st) : V S X nL M pc lv (.int x :: .ref (S.2.1 o) :: st) := v_putf C (kd_lt (by rw [ho]; decide)) (ent_4 ho) (T := TX4) (N := 10) (kf := 6) (ty := .int) rfl inw4 tyX4 tyX4_ok nmX4 (by decide) (Nat.le_of_ble_eq_true rfl) rfl rfl (by decide +kernel) rfl rfl (by rw [ent_4 ho, mset_self]; rfl) (fun j hj => ent_congr (mset_ne M _ _ hj)) hw dd k
theorem g_Report_opened (C : CX S X cc nL own d) (ho : kd o = 4) (hw : Cond.fieldLink own idx RX4 "opened" "I" ∈ tw) (dd : decode cc pc = .ok (.getfield idx, 3)) (k : V S X nL M (pc + 3) lv (.int (M o 7) :: st)) : V S X nL M pc lv (.ref (S.2.1 o) :: st) := v_getf C (kd_lt (by rw [ho]; decide)) (ent_4 ho) (T := TX4) (N := 10) (kf := 7) rfl inw4 (by decide) rfl rfl hw dd k
theorem p_Report_opened (C : CX S X cc nL own d) (ho : kd o = 4) {x : Int32} (hw : Cond.fieldLink own idx RX4 "opened" "I" ∈ tw) (dd : decode cc pc = .ok (.putfield idx, 3)) (k : V S X nL (mset M o 7 x) (pc + 3) lv st) : V S X nL M pc lv (.int x :: .ref (S.2.1 o) :: st) := v_putf C (kd_lt (by rw [ho]; decide)) (ent_4 ho) (T := TX4) (N := 10) (kf := 7) (ty := .int) rfl inw4 tyX4 tyX4_ok nmX4 (by decide) (Nat.le_of_ble_eq_true rfl) rfl rfl (by decide +kernel) rfl rfl (by rw [ent_4 ho, mset_self]; rfl) (fun j hj => ent_congr (mset_ne M _ _ hj)) hw dd k
theorem g_Report_open (C : CX S X cc nL own d) (ho : kd o = 4) (hw : Cond.fieldLink own idx RX4 "open" "I" ∈ tw) (dd : decode cc pc = .ok (.getfield idx, 3)) (k : V S X nL M (pc + 3) lv (.int (M o 8) :: st)) : V S X nL M pc lv (.ref (S.2.1 o) :: st) := v_getf C (kd_lt (by rw [ho]; decide)) (ent_4 ho) (T := TX4) (N := 10) (kf := 8) rfl inw4 (by decide) rfl rfl hw dd k
theorem p_Report_open (C : CX S X cc nL own d) (ho : kd o = 4) {x : Int32} (hw : Cond.fieldLink own idx RX4 "open" "I" ∈ tw) (dd : decode cc pc = .ok (.putfield idx, 3)) (k : V S X nL (mset M o 8 x) (pc + 3) lv st) : V S X nL M pc lv (.int x :: .ref (S.2.1 o) :: st) := v_putf C (kd_lt (by rw [ho]; decide)) (ent_4 ho) (T := TX4) (N := 10) (kf := 8) (ty := .int) rfl inw4 tyX4 tyX4_ok nmX4 (by decide) (Nat.le_of_ble_eq_true rfl) rfl rfl (by decide +kernel) rfl rfl (by rw [ent_4 ho, mset_self]; rfl) (fun j hj => ent_congr (mset_ne M _ _ hj)) hw dd k
theorem g_Report_mostOpen (C : CX S X cc nL own d) (ho : kd o = 4) (hw : Cond.fieldLink own idx RX4 "mostOpen" "I" ∈ tw) (dd : decode cc pc = .ok (.getfield idx, 3)) (k : V S X nL M (pc + 3) lv (.int (M o 9) :: st)) : V S X nL M pc lv (.ref (S.2.1 o) :: st) := v_getf C (kd_lt (by rw [ho]; decide)) (ent_4 ho) (T := TX4) (N := 10) (kf := 9) rfl inw4 (by decide) rfl rfl hw dd k
theorem p_Report_mostOpen (C : CX S X cc nL own d) (ho : kd o = 4) {x : Int32} (hw : Cond.fieldLink own idx RX4 "mostOpen" "I" ∈ tw) (dd : decode cc pc = .ok (.putfield idx, 3)) (k : V S X nL (mset M o 9 x) (pc + 3) lv st) : V S X nL M pc lv (.int x :: .ref (S.2.1 o) :: st) := v_putf C (kd_lt (by rw [ho]; decide)) (ent_4 ho) (T := TX4) (N := 10) (kf := 9) (ty := .int) rfl inw4 tyX4 tyX4_ok nmX4 (by decide) (Nat.le_of_ble_eq_true rfl) rfl rfl (by decide +kernel) rfl rfl (by rw [ent_4 ho, mset_self]; rfl) (fun j hj => ent_congr (mset_ne M _ _ hj)) hw dd k
theorem g_Run_course (C : CX S X cc nL own d) (ho : kd o = 5) (hw : Cond.fieldLink own idx RX5 "course" "LUnnestPlans$Course;" ∈ tw) (dd : decode cc pc = .ok (.getfield idx, 3)) (k : V S X nL M (pc + 3) lv (.ref (S.2.1 (o + 1)) :: st)) : V S X nL M pc lv (.ref (S.2.1 o) :: st) := v_getf C (kd_lt (by rw [ho]; decide)) (ent_5 ho) (T := TX5) (N := 6) (kf := 0) rfl inw5 (by decide) rfl rfl hw dd k
theorem g_Run_pairs (C : CX S X cc nL own d) (ho : kd o = 5) (hw : Cond.fieldLink own idx RX5 "pairs" "LUnnestPlans$Pairs;" ∈ tw) (dd : decode cc pc = .ok (.getfield idx, 3)) (k : V S X nL M (pc + 3) lv (.ref (S.2.1 (o + 4)) :: st)) : V S X nL M pc lv (.ref (S.2.1 o) :: st) := v_getf C (kd_lt (by rw [ho]; decide)) (ent_5 ho) (T := TX5) (N := 6) (kf := 1) rfl inw5 (by decide) rfl rfl hw dd k
theorem g_Run_report (C : CX S X cc nL own d) (ho : kd o = 5) (hw : Cond.fieldLink own idx RX5 "report" "LUnnestPlans$Report;" ∈ tw) (dd : decode cc pc = .ok (.getfield idx, 3)) (k : V S X nL M (pc + 3) lv (.ref (S.2.1 (o + 8)) :: st)) : V S X nL M pc lv (.ref (S.2.1 o) :: st) := v_getf C (kd_lt (by rw [ho]; decide)) (ent_5 ho) (T := TX5) (N := 6) (kf := 2) rfl inw5 (by decide) rfl rfl hw dd k
theorem g_Run_kept (C : CX S X cc nL own d) (ho : kd o = 5) (hw : Cond.fieldLink own idx RX5 "kept" "LUnnestPlans$Kept;" ∈ tw) (dd : decode cc pc = .ok (.getfield idx, 3)) (k : V S X nL M (pc + 3) lv (.ref (S.2.1 27) :: st)) : V S X nL M pc lv (.ref (S.2.1 o) :: st) := v_getf C (kd_lt (by rw [ho]; decide)) (ent_5 ho) (T := TX5) (N := 6) (kf := 3) rfl inw5 (by decide) rfl rfl hw dd k
theorem g_Run_wanted (C : CX S X cc nL own d) (ho : kd o = 5) (hw : Cond.fieldLink own idx RX5 "wanted" "I" ∈ tw) (dd : decode cc pc = .ok (.getfield idx, 3)) (k : V S X nL M (pc + 3) lv (.int (M o 4) :: st)) : V S X nL M pc lv (.ref (S.2.1 o) :: st) := v_getf C (kd_lt (by rw [ho]; decide)) (ent_5 ho) (T := TX5) (N := 6) (kf := 4) rfl inw5 (by decide) rfl rfl hw dd k
theorem p_Run_wanted (C : CX S X cc nL own d) (ho : kd o = 5) {x : Int32} (hw : Cond.fieldLink own idx RX5 "wanted" "I" ∈ tw) (dd : decode cc pc = .ok (.putfield idx, 3)) (k : V S X nL (mset M o 4 x) (pc + 3) lv st) : V S X nL M pc lv (.int x :: .ref (S.2.1 o) :: st) := v_putf C (kd_lt (by rw [ho]; decide)) (ent_5 ho) (T := TX5) (N := 6) (kf := 4) (ty := .int) rfl inw5 tyX5 tyX5_ok nmX5 (by decide) (Nat.le_of_ble_eq_true rfl) rfl rfl (by decide +kernel) rfl rfl (by rw [ent_5 ho, mset_self]; rfl) (fun j hj => ent_congr (mset_ne M _ _ hj)) hw dd k
theorem g_Run_arrived (C : CX S X cc nL own d) (ho : kd o = 5) (hw : Cond.fieldLink own idx RX5 "arrived" "I" ∈ tw) (dd : decode cc pc = .ok (.getfield idx, 3)) (k : V S X nL M (pc + 3) lv (.int (M o 5) :: st)) : V S X nL M pc lv (.ref (S.2.1 o) :: st) := v_getf C (kd_lt (by rw [ho]; decide)) (ent_5 ho) (T := TX5) (N := 6) (kf := 5) rfl inw5 (by decide) rfl rfl hw dd k
theorem p_Run_arrived (C : CX S X cc nL own d) (ho : kd o = 5) {x : Int32} (hw : Cond.fieldLink own idx RX5 "arrived" "I" ∈ tw) (dd : decode cc pc = .ok (.putfield idx, 3)) (k : V S X nL (mset M o 5 x) (pc + 3) lv st) : V S X nL M pc lv (.int x :: .ref (S.2.1 o) :: st) := v_putf C (kd_lt (by rw [ho]; decide)) (ent_5 ho) (T := TX5) (N := 6) (kf := 5) (ty := .int) rfl inw5 tyX5 tyX5_ok nmX5 (by decide) (Nat.le_of_ble_eq_true rfl) rfl rfl (by decide +kernel) rfl rfl (by rw [ent_5 ho, mset_self]; rfl) (fun j hj => ent_congr (mset_ne M _ _ hj)) hw dd k
theorem g_Sheet_items (C : CX S X cc nL own d) (ho : kd o = 6) (hw : Cond.fieldLink own idx RX6 "items" "[I" ∈ tw) (dd : decode cc pc = .ok (.getfield idx, 3)) (k : V S X nL M (pc + 3) lv (.ref (S.2.1 (o + 1)) :: st)) : V S X nL M pc lv (.ref (S.2.1 o) :: st) := v_getf C (kd_lt (by rw [ho]; decide)) (ent_6 ho) (T := TX6) (N := 3) (kf := 0) rfl inw6 (by decide) rfl rfl hw dd k
theorem g_Sheet_form (C : CX S X cc nL own d) (ho : kd o = 6) (hw : Cond.fieldLink own idx RX6 "form" "I" ∈ tw) (dd : decode cc pc = .ok (.getfield idx, 3)) (k : V S X nL M (pc + 3) lv (.int (M o 1) :: st)) : V S X nL M pc lv (.ref (S.2.1 o) :: st) := v_getf C (kd_lt (by rw [ho]; decide)) (ent_6 ho) (T := TX6) (N := 3) (kf := 1) rfl inw6 (by decide) rfl rfl hw dd k
theorem p_Sheet_form (C : CX S X cc nL own d) (ho : kd o = 6) {x : Int32} (hw : Cond.fieldLink own idx RX6 "form" "I" ∈ tw) (dd : decode cc pc = .ok (.putfield idx, 3)) (k : V S X nL (mset M o 1 x) (pc + 3) lv st) : V S X nL M pc lv (.int x :: .ref (S.2.1 o) :: st) := v_putf C (kd_lt (by rw [ho]; decide)) (ent_6 ho) (T := TX6) (N := 3) (kf := 1) (ty := .int) rfl inw6 tyX6 tyX6_ok nmX6 (by decide) (Nat.le_of_ble_eq_true rfl) rfl rfl (by decide +kernel) rfl rfl (by rw [ent_6 ho, mset_self]; rfl) (fun j hj => ent_congr (mset_ne M _ _ hj)) hw dd k
theorem g_Sheet_size (C : CX S X cc nL own d) (ho : kd o = 6) (hw : Cond.fieldLink own idx RX6 "size" "I" ∈ tw) (dd : decode cc pc = .ok (.getfield idx, 3)) (k : V S X nL M (pc + 3) lv (.int (M o 2) :: st)) : V S X nL M pc lv (.ref (S.2.1 o) :: st) := v_getf C (kd_lt (by rw [ho]; decide)) (ent_6 ho) (T := TX6) (N := 3) (kf := 2) rfl inw6 (by decide) rfl rfl hw dd k
theorem p_Sheet_size (C : CX S X cc nL own d) (ho : kd o = 6) {x : Int32} (hw : Cond.fieldLink own idx RX6 "size" "I" ∈ tw) (dd : decode cc pc = .ok (.putfield idx, 3)) (k : V S X nL (mset M o 2 x) (pc + 3) lv st) : V S X nL M pc lv (.int x :: .ref (S.2.1 o) :: st) := v_putf C (kd_lt (by rw [ho]; decide)) (ent_6 ho) (T := TX6) (N := 3) (kf := 2) (ty := .int) rfl inw6 tyX6 tyX6_ok nmX6 (by decide) (Nat.le_of_ble_eq_true rfl) rfl rfl (by decide +kernel) rfl rfl (by rw [ent_6 ho, mset_self]; rfl) (fun j hj => ent_congr (mset_ne M _ _ hj)) hw dd k
theorem g_Steps_codes (C : CX S X cc nL own d) (ho : kd o = 7) (hw : Cond.fieldLink own idx RX7 "codes" "[I" ∈ tw) (dd : decode cc pc = .ok (.getfield idx, 3)) (k : V S X nL M (pc + 3) lv (.ref (S.2.1 (o + 1)) :: st)) : V S X nL M pc lv (.ref (S.2.1 o) :: st) := v_getf C (kd_lt (by rw [ho]; decide)) (ent_7 ho) (T := TX7) (N := 4) (kf := 0) rfl inw7 (by decide) rfl rfl hw dd k
theorem g_Steps_figures (C : CX S X cc nL own d) (ho : kd o = 7) (hw : Cond.fieldLink own idx RX7 "figures" "[I" ∈ tw) (dd : decode cc pc = .ok (.getfield idx, 3)) (k : V S X nL M (pc + 3) lv (.ref (S.2.1 (o + 2)) :: st)) : V S X nL M pc lv (.ref (S.2.1 o) :: st) := v_getf C (kd_lt (by rw [ho]; decide)) (ent_7 ho) (T := TX7) (N := 4) (kf := 1) rfl inw7 (by decide) rfl rfl hw dd k
theorem g_Steps_size (C : CX S X cc nL own d) (ho : kd o = 7) (hw : Cond.fieldLink own idx RX7 "size" "I" ∈ tw) (dd : decode cc pc = .ok (.getfield idx, 3)) (k : V S X nL M (pc + 3) lv (.int (M o 2) :: st)) : V S X nL M pc lv (.ref (S.2.1 o) :: st) := v_getf C (kd_lt (by rw [ho]; decide)) (ent_7 ho) (T := TX7) (N := 4) (kf := 2) rfl inw7 (by decide) rfl rfl hw dd k
theorem p_Steps_size (C : CX S X cc nL own d) (ho : kd o = 7) {x : Int32} (hw : Cond.fieldLink own idx RX7 "size" "I" ∈ tw) (dd : decode cc pc = .ok (.putfield idx, 3)) (k : V S X nL (mset M o 2 x) (pc + 3) lv st) : V S X nL M pc lv (.int x :: .ref (S.2.1 o) :: st) := v_putf C (kd_lt (by rw [ho]; decide)) (ent_7 ho) (T := TX7) (N := 4) (kf := 2) (ty := .int) rfl inw7 tyX7 tyX7_ok nmX7 (by decide) (Nat.le_of_ble_eq_true rfl) rfl rfl (by decide +kernel) rfl rfl (by rw [ent_7 ho, mset_self]; rfl) (fun j hj => ent_congr (mset_ne M _ _ hj)) hw dd k
theorem g_Steps_fault (C : CX S X cc nL own d) (ho : kd o = 7) (hw : Cond.fieldLink own idx RX7 "fault" "I" ∈ tw) (dd : decode cc pc = .ok (.getfield idx, 3)) (k : V S X nL M (pc + 3) lv (.int (M o 3) :: st)) : V S X nL M pc lv (.ref (S.2.1 o) :: st) := v_getf C (kd_lt (by rw [ho]; decide)) (ent_7 ho) (T := TX7) (N := 4) (kf := 3) rfl inw7 (by decide) rfl rfl hw dd k
theorem p_Steps_fault (C : CX S X cc nL own d) (ho : kd o = 7) {x : Int32} (hw : Cond.fieldLink own idx RX7 "fault" "I" ∈ tw) (dd : decode cc pc = .ok (.putfield idx, 3)) (k : V S X nL (mset M o 3 x) (pc + 3) lv st) : V S X nL M pc lv (.int x :: .ref (S.2.1 o) :: st) := v_putf C (kd_lt (by rw [ho]; decide)) (ent_7 ho) (T := TX7) (N := 4) (kf := 3) (ty := .int) rfl inw7 tyX7 tyX7_ok nmX7 (by decide) (Nat.le_of_ble_eq_true rfl) rfl rfl (by decide +kernel) rfl rfl (by rw [ent_7 ho, mset_self]; rfl) (fun j hj => ent_congr (mset_ne M _ _ hj)) hw dd k
theorem g_Table_keys (C : CX S X cc nL own d) (ho : kd o = 8) (hw : Cond.fieldLink own idx RX8 "keys" "[I" ∈ tw) (dd : decode cc pc = .ok (.getfield idx, 3)) (k : V S X nL M (pc + 3) lv (.ref (S.2.1 (o + 1)) :: st)) : V S X nL M pc lv (.ref (S.2.1 o) :: st) := v_getf C (kd_lt (by rw [ho]; decide)) (ent_8 ho) (T := TX8) (N := 4) (kf := 0) rfl inw8 (by decide) rfl rfl hw dd k
theorem g_Table_values (C : CX S X cc nL own d) (ho : kd o = 8) (hw : Cond.fieldLink own idx RX8 "values" "[I" ∈ tw) (dd : decode cc pc = .ok (.getfield idx, 3)) (k : V S X nL M (pc + 3) lv (.ref (S.2.1 (o + 2)) :: st)) : V S X nL M pc lv (.ref (S.2.1 o) :: st) := v_getf C (kd_lt (by rw [ho]; decide)) (ent_8 ho) (T := TX8) (N := 4) (kf := 1) rfl inw8 (by decide) rfl rfl hw dd k
theorem g_Table_size (C : CX S X cc nL own d) (ho : kd o = 8) (hw : Cond.fieldLink own idx RX8 "size" "I" ∈ tw) (dd : decode cc pc = .ok (.getfield idx, 3)) (k : V S X nL M (pc + 3) lv (.int (M o 2) :: st)) : V S X nL M pc lv (.ref (S.2.1 o) :: st) := v_getf C (kd_lt (by rw [ho]; decide)) (ent_8 ho) (T := TX8) (N := 4) (kf := 2) rfl inw8 (by decide) rfl rfl hw dd k
theorem p_Table_size (C : CX S X cc nL own d) (ho : kd o = 8) {x : Int32} (hw : Cond.fieldLink own idx RX8 "size" "I" ∈ tw) (dd : decode cc pc = .ok (.putfield idx, 3)) (k : V S X nL (mset M o 2 x) (pc + 3) lv st) : V S X nL M pc lv (.int x :: .ref (S.2.1 o) :: st) := v_putf C (kd_lt (by rw [ho]; decide)) (ent_8 ho) (T := TX8) (N := 4) (kf := 2) (ty := .int) rfl inw8 tyX8 tyX8_ok nmX8 (by decide) (Nat.le_of_ble_eq_true rfl) rfl rfl (by decide +kernel) rfl rfl (by rw [ent_8 ho, mset_self]; rfl) (fun j hj => ent_congr (mset_ne M _ _ hj)) hw dd k
theorem g_Table_fault (C : CX S X cc nL own d) (ho : kd o = 8) (hw : Cond.fieldLink own idx RX8 "fault" "I" ∈ tw) (dd : decode cc pc = .ok (.getfield idx, 3)) (k : V S X nL M (pc + 3) lv (.int (M o 3) :: st)) : V S X nL M pc lv (.ref (S.2.1 o) :: st) := v_getf C (kd_lt (by rw [ho]; decide)) (ent_8 ho) (T := TX8) (N := 4) (kf := 3) rfl inw8 (by decide) rfl rfl hw dd k
theorem p_Table_fault (C : CX S X cc nL own d) (ho : kd o = 8) {x : Int32} (hw : Cond.fieldLink own idx RX8 "fault" "I" ∈ tw) (dd : decode cc pc = .ok (.putfield idx, 3)) (k : V S X nL (mset M o 3 x) (pc + 3) lv st) : V S X nL M pc lv (.int x :: .ref (S.2.1 o) :: st) := v_putf C (kd_lt (by rw [ho]; decide)) (ent_8 ho) (T := TX8) (N := 4) (kf := 3) (ty := .int) rfl inw8 tyX8 tyX8_ok nmX8 (by decide) (Nat.le_of_ble_eq_true rfl) rfl rfl (by decide +kernel) rfl rfl (by rw [ent_8 ho, mset_self]; rfl) (fun j hj => ent_congr (mset_ne M _ _ hj)) hw dd k
theorem g_Tally_rows (C : CX S X cc nL own d) (ho : kd o = 9) (hw : Cond.fieldLink own idx RX9 "rows" "I" ∈ tw) (dd : decode cc pc = .ok (.getfield idx, 3)) (k : V S X nL M (pc + 3) lv (.int (M o 0) :: st)) : V S X nL M pc lv (.ref (S.2.1 o) :: st) := v_getf C (kd_lt (by rw [ho]; decide)) (ent_9 ho) (T := TX9) (N := 6) (kf := 0) rfl inw9 (by decide) rfl rfl hw dd k
theorem p_Tally_rows (C : CX S X cc nL own d) (ho : kd o = 9) {x : Int32} (hw : Cond.fieldLink own idx RX9 "rows" "I" ∈ tw) (dd : decode cc pc = .ok (.putfield idx, 3)) (k : V S X nL (mset M o 0 x) (pc + 3) lv st) : V S X nL M pc lv (.int x :: .ref (S.2.1 o) :: st) := v_putf C (kd_lt (by rw [ho]; decide)) (ent_9 ho) (T := TX9) (N := 6) (kf := 0) (ty := .int) rfl inw9 tyX9 tyX9_ok nmX9 (by decide) (Nat.le_of_ble_eq_true rfl) rfl rfl (by decide +kernel) rfl rfl (by rw [ent_9 ho, mset_self]; rfl) (fun j hj => ent_congr (mset_ne M _ _ hj)) hw dd k
theorem g_Tally_present (C : CX S X cc nL own d) (ho : kd o = 9) (hw : Cond.fieldLink own idx RX9 "present" "I" ∈ tw) (dd : decode cc pc = .ok (.getfield idx, 3)) (k : V S X nL M (pc + 3) lv (.int (M o 1) :: st)) : V S X nL M pc lv (.ref (S.2.1 o) :: st) := v_getf C (kd_lt (by rw [ho]; decide)) (ent_9 ho) (T := TX9) (N := 6) (kf := 1) rfl inw9 (by decide) rfl rfl hw dd k
theorem p_Tally_present (C : CX S X cc nL own d) (ho : kd o = 9) {x : Int32} (hw : Cond.fieldLink own idx RX9 "present" "I" ∈ tw) (dd : decode cc pc = .ok (.putfield idx, 3)) (k : V S X nL (mset M o 1 x) (pc + 3) lv st) : V S X nL M pc lv (.int x :: .ref (S.2.1 o) :: st) := v_putf C (kd_lt (by rw [ho]; decide)) (ent_9 ho) (T := TX9) (N := 6) (kf := 1) (ty := .int) rfl inw9 tyX9 tyX9_ok nmX9 (by decide) (Nat.le_of_ble_eq_true rfl) rfl rfl (by decide +kernel) rfl rfl (by rw [ent_9 ho, mset_self]; rfl) (fun j hj => ent_congr (mset_ne M _ _ hj)) hw dd k
theorem g_Tally_sum (C : CX S X cc nL own d) (ho : kd o = 9) (hw : Cond.fieldLink own idx RX9 "sum" "I" ∈ tw) (dd : decode cc pc = .ok (.getfield idx, 3)) (k : V S X nL M (pc + 3) lv (.int (M o 2) :: st)) : V S X nL M pc lv (.ref (S.2.1 o) :: st) := v_getf C (kd_lt (by rw [ho]; decide)) (ent_9 ho) (T := TX9) (N := 6) (kf := 2) rfl inw9 (by decide) rfl rfl hw dd k
theorem p_Tally_sum (C : CX S X cc nL own d) (ho : kd o = 9) {x : Int32} (hw : Cond.fieldLink own idx RX9 "sum" "I" ∈ tw) (dd : decode cc pc = .ok (.putfield idx, 3)) (k : V S X nL (mset M o 2 x) (pc + 3) lv st) : V S X nL M pc lv (.int x :: .ref (S.2.1 o) :: st) := v_putf C (kd_lt (by rw [ho]; decide)) (ent_9 ho) (T := TX9) (N := 6) (kf := 2) (ty := .int) rfl inw9 tyX9 tyX9_ok nmX9 (by decide) (Nat.le_of_ble_eq_true rfl) rfl rfl (by decide +kernel) rfl rfl (by rw [ent_9 ho, mset_self]; rfl) (fun j hj => ent_congr (mset_ne M _ _ hj)) hw dd k
theorem g_Tally_least (C : CX S X cc nL own d) (ho : kd o = 9) (hw : Cond.fieldLink own idx RX9 "least" "I" ∈ tw) (dd : decode cc pc = .ok (.getfield idx, 3)) (k : V S X nL M (pc + 3) lv (.int (M o 3) :: st)) : V S X nL M pc lv (.ref (S.2.1 o) :: st) := v_getf C (kd_lt (by rw [ho]; decide)) (ent_9 ho) (T := TX9) (N := 6) (kf := 3) rfl inw9 (by decide) rfl rfl hw dd k
theorem p_Tally_least (C : CX S X cc nL own d) (ho : kd o = 9) {x : Int32} (hw : Cond.fieldLink own idx RX9 "least" "I" ∈ tw) (dd : decode cc pc = .ok (.putfield idx, 3)) (k : V S X nL (mset M o 3 x) (pc + 3) lv st) : V S X nL M pc lv (.int x :: .ref (S.2.1 o) :: st) := v_putf C (kd_lt (by rw [ho]; decide)) (ent_9 ho) (T := TX9) (N := 6) (kf := 3) (ty := .int) rfl inw9 tyX9 tyX9_ok nmX9 (by decide) (Nat.le_of_ble_eq_true rfl) rfl rfl (by decide +kernel) rfl rfl (by rw [ent_9 ho, mset_self]; rfl) (fun j hj => ent_congr (mset_ne M _ _ hj)) hw dd k
theorem g_Tally_greatest (C : CX S X cc nL own d) (ho : kd o = 9) (hw : Cond.fieldLink own idx RX9 "greatest" "I" ∈ tw) (dd : decode cc pc = .ok (.getfield idx, 3)) (k : V S X nL M (pc + 3) lv (.int (M o 4) :: st)) : V S X nL M pc lv (.ref (S.2.1 o) :: st) := v_getf C (kd_lt (by rw [ho]; decide)) (ent_9 ho) (T := TX9) (N := 6) (kf := 4) rfl inw9 (by decide) rfl rfl hw dd k
theorem p_Tally_greatest (C : CX S X cc nL own d) (ho : kd o = 9) {x : Int32} (hw : Cond.fieldLink own idx RX9 "greatest" "I" ∈ tw) (dd : decode cc pc = .ok (.putfield idx, 3)) (k : V S X nL (mset M o 4 x) (pc + 3) lv st) : V S X nL M pc lv (.int x :: .ref (S.2.1 o) :: st) := v_putf C (kd_lt (by rw [ho]; decide)) (ent_9 ho) (T := TX9) (N := 6) (kf := 4) (ty := .int) rfl inw9 tyX9 tyX9_ok nmX9 (by decide) (Nat.le_of_ble_eq_true rfl) rfl rfl (by decide +kernel) rfl rfl (by rw [ent_9 ho, mset_self]; rfl) (fun j hj => ent_congr (mset_ne M _ _ hj)) hw dd k
theorem g_Tally_matched (C : CX S X cc nL own d) (ho : kd o = 9) (hw : Cond.fieldLink own idx RX9 "matched" "Z" ∈ tw) (dd : decode cc pc = .ok (.getfield idx, 3)) (k : V S X nL M (pc + 3) lv (.int (M o 5) :: st)) : V S X nL M pc lv (.ref (S.2.1 o) :: st) := v_getf C (kd_lt (by rw [ho]; decide)) (ent_9 ho) (T := TX9) (N := 6) (kf := 5) rfl inw9 (by decide) rfl rfl hw dd k
theorem p_Tally_matched (C : CX S X cc nL own d) (ho : kd o = 9) {x : Int32} (hx : x = 0 ∨ x = 1) (hw : Cond.fieldLink own idx RX9 "matched" "Z" ∈ tw) (dd : decode cc pc = .ok (.putfield idx, 3)) (k : V S X nL (mset M o 5 x) (pc + 3) lv st) : V S X nL M pc lv (.int x :: .ref (S.2.1 o) :: st) := v_putf C (kd_lt (by rw [ho]; decide)) (ent_9 ho) (T := TX9) (N := 6) (kf := 5) (ty := .boolean) rfl inw9 tyX9 tyX9_ok nmX9 (by decide) (Nat.le_of_ble_eq_true rfl) rfl rfl (by decide +kernel) (by rcases hx with rfl | rfl <;> decide +kernel) (by rcases hx with rfl | rfl <;> decide +kernel) (by rw [ent_9 ho, mset_self]; rfl) (fun j hj => ent_congr (mset_ne M _ _ hj)) hw dd k
theorem g_Text_bytes (C : CX S X cc nL own d) (ho : kd o = 10) (hw : Cond.fieldLink own idx RX10 "bytes" "[I" ∈ tw) (dd : decode cc pc = .ok (.getfield idx, 3)) (k : V S X nL M (pc + 3) lv (.ref (S.2.1 (o + 1)) :: st)) : V S X nL M pc lv (.ref (S.2.1 o) :: st) := v_getf C (kd_lt (by rw [ho]; decide)) (ent_10 ho) (T := TX10) (N := 2) (kf := 0) rfl inw10 (by decide) rfl rfl hw dd k
theorem g_Text_size (C : CX S X cc nL own d) (ho : kd o = 10) (hw : Cond.fieldLink own idx RX10 "size" "I" ∈ tw) (dd : decode cc pc = .ok (.getfield idx, 3)) (k : V S X nL M (pc + 3) lv (.int (M o 1) :: st)) : V S X nL M pc lv (.ref (S.2.1 o) :: st) := v_getf C (kd_lt (by rw [ho]; decide)) (ent_10 ho) (T := TX10) (N := 2) (kf := 1) rfl inw10 (by decide) rfl rfl hw dd k
theorem p_Text_size (C : CX S X cc nL own d) (ho : kd o = 10) {x : Int32} (hw : Cond.fieldLink own idx RX10 "size" "I" ∈ tw) (dd : decode cc pc = .ok (.putfield idx, 3)) (k : V S X nL (mset M o 1 x) (pc + 3) lv st) : V S X nL M pc lv (.int x :: .ref (S.2.1 o) :: st) := v_putf C (kd_lt (by rw [ho]; decide)) (ent_10 ho) (T := TX10) (N := 2) (kf := 1) (ty := .int) rfl inw10 tyX10 tyX10_ok nmX10 (by decide) (Nat.le_of_ble_eq_true rfl) rfl rfl (by decide +kernel) rfl rfl (by rw [ent_10 ho, mset_self]; rfl) (fun j hj => ent_congr (mset_ne M _ _ hj)) hw dd k
theorem g_U_texts (C : CX S X cc nL own d) (ho : kd o = 11) (hw : Cond.fieldLink own idx RX11 "texts" "[LUnnestPlans$Text;" ∈ tw) (dd : decode cc pc = .ok (.getfield idx, 3)) (k : V S X nL M (pc + 3) lv (.ref (S.2.1 1) :: st)) : V S X nL M pc lv (.ref (S.2.1 o) :: st) := v_getf C (kd_lt (by rw [ho]; decide)) (ent_11 ho) (T := TX11) (N := 9) (kf := 0) rfl inw11 (by decide) rfl rfl hw dd k
theorem g_U_sheets (C : CX S X cc nL own d) (ho : kd o = 11) (hw : Cond.fieldLink own idx RX11 "sheets" "[LUnnestPlans$Sheet;" ∈ tw) (dd : decode cc pc = .ok (.getfield idx, 3)) (k : V S X nL M (pc + 3) lv (.ref (S.2.1 8) :: st)) : V S X nL M pc lv (.ref (S.2.1 o) :: st) := v_getf C (kd_lt (by rw [ho]; decide)) (ent_11 ho) (T := TX11) (N := 9) (kf := 1) rfl inw11 (by decide) rfl rfl hw dd k
theorem g_U_question (C : CX S X cc nL own d) (ho : kd o = 11) (hw : Cond.fieldLink own idx RX11 "question" "LUnnestPlans$Question;" ∈ tw) (dd : decode cc pc = .ok (.getfield idx, 3)) (k : V S X nL M (pc + 3) lv (.ref (S.2.1 17) :: st)) : V S X nL M pc lv (.ref (S.2.1 o) :: st) := v_getf C (kd_lt (by rw [ho]; decide)) (ent_11 ho) (T := TX11) (N := 9) (kf := 2) rfl inw11 (by decide) rfl rfl hw dd k
theorem g_U_byRow (C : CX S X cc nL own d) (ho : kd o = 11) (hw : Cond.fieldLink own idx RX11 "byRow" "LUnnestPlans$Run;" ∈ tw) (dd : decode cc pc = .ok (.getfield idx, 3)) (k : V S X nL M (pc + 3) lv (.ref (S.2.1 55) :: st)) : V S X nL M pc lv (.ref (S.2.1 o) :: st) := v_getf C (kd_lt (by rw [ho]; decide)) (ent_11 ho) (T := TX11) (N := 9) (kf := 3) rfl inw11 (by decide) rfl rfl hw dd k
theorem g_U_byFree (C : CX S X cc nL own d) (ho : kd o = 11) (hw : Cond.fieldLink own idx RX11 "byFree" "LUnnestPlans$Run;" ∈ tw) (dd : decode cc pc = .ok (.getfield idx, 3)) (k : V S X nL M (pc + 3) lv (.ref (S.2.1 67) :: st)) : V S X nL M pc lv (.ref (S.2.1 o) :: st) := v_getf C (kd_lt (by rw [ho]; decide)) (ent_11 ho) (T := TX11) (N := 9) (kf := 4) rfl inw11 (by decide) rfl rfl hw dd k
theorem g_U_tried (C : CX S X cc nL own d) (ho : kd o = 11) (hw : Cond.fieldLink own idx RX11 "tried" "LUnnestPlans$Run;" ∈ tw) (dd : decode cc pc = .ok (.getfield idx, 3)) (k : V S X nL M (pc + 3) lv (.ref (S.2.1 79) :: st)) : V S X nL M pc lv (.ref (S.2.1 o) :: st) := v_getf C (kd_lt (by rw [ho]; decide)) (ent_11 ho) (T := TX11) (N := 9) (kf := 5) rfl inw11 (by decide) rfl rfl hw dd k
theorem g_U_end (C : CX S X cc nL own d) (ho : kd o = 11) (hw : Cond.fieldLink own idx RX11 "end" "I" ∈ tw) (dd : decode cc pc = .ok (.getfield idx, 3)) (k : V S X nL M (pc + 3) lv (.int (M o 6) :: st)) : V S X nL M pc lv (.ref (S.2.1 o) :: st) := v_getf C (kd_lt (by rw [ho]; decide)) (ent_11 ho) (T := TX11) (N := 9) (kf := 6) rfl inw11 (by decide) rfl rfl hw dd k
theorem p_U_end (C : CX S X cc nL own d) (ho : kd o = 11) {x : Int32} (hw : Cond.fieldLink own idx RX11 "end" "I" ∈ tw) (dd : decode cc pc = .ok (.putfield idx, 3)) (k : V S X nL (mset M o 6 x) (pc + 3) lv st) : V S X nL M pc lv (.int x :: .ref (S.2.1 o) :: st) := v_putf C (kd_lt (by rw [ho]; decide)) (ent_11 ho) (T := TX11) (N := 9) (kf := 6) (ty := .int) rfl inw11 tyX11 tyX11_ok nmX11 (by decide) (Nat.le_of_ble_eq_true rfl) rfl rfl (by decide +kernel) rfl rfl (by rw [ent_11 ho, mset_self]; rfl) (fun j hj => ent_congr (mset_ne M _ _ hj)) hw dd k
theorem g_U_finding (C : CX S X cc nL own d) (ho : kd o = 11) (hw : Cond.fieldLink own idx RX11 "finding" "I" ∈ tw) (dd : decode cc pc = .ok (.getfield idx, 3)) (k : V S X nL M (pc + 3) lv (.int (M o 7) :: st)) : V S X nL M pc lv (.ref (S.2.1 o) :: st) := v_getf C (kd_lt (by rw [ho]; decide)) (ent_11 ho) (T := TX11) (N := 9) (kf := 7) rfl inw11 (by decide) rfl rfl hw dd k
theorem p_U_finding (C : CX S X cc nL own d) (ho : kd o = 11) {x : Int32} (hw : Cond.fieldLink own idx RX11 "finding" "I" ∈ tw) (dd : decode cc pc = .ok (.putfield idx, 3)) (k : V S X nL (mset M o 7 x) (pc + 3) lv st) : V S X nL M pc lv (.int x :: .ref (S.2.1 o) :: st) := v_putf C (kd_lt (by rw [ho]; decide)) (ent_11 ho) (T := TX11) (N := 9) (kf := 7) (ty := .int) rfl inw11 tyX11 tyX11_ok nmX11 (by decide) (Nat.le_of_ble_eq_true rfl) rfl rfl (by decide +kernel) rfl rfl (by rw [ent_11 ho, mset_self]; rfl) (fun j hj => ent_congr (mset_ne M _ _ hj)) hw dd k
theorem g_U_stale (C : CX S X cc nL own d) (ho : kd o = 11) (hw : Cond.fieldLink own idx RX11 "stale" "Z" ∈ tw) (dd : decode cc pc = .ok (.getfield idx, 3)) (k : V S X nL M (pc + 3) lv (.int (M o 8) :: st)) : V S X nL M pc lv (.ref (S.2.1 o) :: st) := v_getf C (kd_lt (by rw [ho]; decide)) (ent_11 ho) (T := TX11) (N := 9) (kf := 8) rfl inw11 (by decide) rfl rfl hw dd k
theorem p_U_stale (C : CX S X cc nL own d) (ho : kd o = 11) {x : Int32} (hx : x = 0 ∨ x = 1) (hw : Cond.fieldLink own idx RX11 "stale" "Z" ∈ tw) (dd : decode cc pc = .ok (.putfield idx, 3)) (k : V S X nL (mset M o 8 x) (pc + 3) lv st) : V S X nL M pc lv (.int x :: .ref (S.2.1 o) :: st) := v_putf C (kd_lt (by rw [ho]; decide)) (ent_11 ho) (T := TX11) (N := 9) (kf := 8) (ty := .boolean) rfl inw11 tyX11 tyX11_ok nmX11 (by decide) (Nat.le_of_ble_eq_true rfl) rfl rfl (by decide +kernel) (by rcases hx with rfl | rfl <;> decide +kernel) (by rcases hx with rfl | rfl <;> decide +kernel) (by rw [ent_11 ho, mset_self]; rfl) (fun j hj => ent_congr (mset_ne M _ _ hj)) hw dd k
theorem g_Mo_typed (C : CX S X cc nL own d) (ho : kd o = 12) (hw : Cond.fieldLink own idx RX12 "typed" "[I" ∈ tw) (dd : decode cc pc = .ok (.getfield idx, 3)) (k : V S X nL M (pc + 3) lv (.ref (S.2.1 (o + 1)) :: st)) : V S X nL M pc lv (.ref (S.2.1 o) :: st) := v_getf C (kd_lt (by rw [ho]; decide)) (ent_12 ho) (T := TX12) (N := 44) (kf := 0) rfl inw12 (by decide) rfl rfl hw dd k
theorem g_Mo_texts (C : CX S X cc nL own d) (ho : kd o = 12) (hw : Cond.fieldLink own idx RX12 "texts" "[I" ∈ tw) (dd : decode cc pc = .ok (.getfield idx, 3)) (k : V S X nL M (pc + 3) lv (.ref (S.2.1 (o + 2)) :: st)) : V S X nL M pc lv (.ref (S.2.1 o) :: st) := v_getf C (kd_lt (by rw [ho]; decide)) (ent_12 ho) (T := TX12) (N := 44) (kf := 1) rfl inw12 (by decide) rfl rfl hw dd k
theorem g_Mo_faults (C : CX S X cc nL own d) (ho : kd o = 12) (hw : Cond.fieldLink own idx RX12 "faults" "[I" ∈ tw) (dd : decode cc pc = .ok (.getfield idx, 3)) (k : V S X nL M (pc + 3) lv (.ref (S.2.1 (o + 3)) :: st)) : V S X nL M pc lv (.ref (S.2.1 o) :: st) := v_getf C (kd_lt (by rw [ho]; decide)) (ent_12 ho) (T := TX12) (N := 44) (kf := 2) rfl inw12 (by decide) rfl rfl hw dd k
theorem g_Mo_rows (C : CX S X cc nL own d) (ho : kd o = 12) (hw : Cond.fieldLink own idx RX12 "rows" "[I" ∈ tw) (dd : decode cc pc = .ok (.getfield idx, 3)) (k : V S X nL M (pc + 3) lv (.ref (S.2.1 (o + 4)) :: st)) : V S X nL M pc lv (.ref (S.2.1 o) :: st) := v_getf C (kd_lt (by rw [ho]; decide)) (ent_12 ho) (T := TX12) (N := 44) (kf := 3) rfl inw12 (by decide) rfl rfl hw dd k
theorem g_Mo_ks (C : CX S X cc nL own d) (ho : kd o = 12) (hw : Cond.fieldLink own idx RX12 "ks" "[I" ∈ tw) (dd : decode cc pc = .ok (.getfield idx, 3)) (k : V S X nL M (pc + 3) lv (.ref (S.2.1 (o + 5)) :: st)) : V S X nL M pc lv (.ref (S.2.1 o) :: st) := v_getf C (kd_lt (by rw [ho]; decide)) (ent_12 ho) (T := TX12) (N := 44) (kf := 4) rfl inw12 (by decide) rfl rfl hw dd k
theorem g_Mo_vs (C : CX S X cc nL own d) (ho : kd o = 12) (hw : Cond.fieldLink own idx RX12 "vs" "[I" ∈ tw) (dd : decode cc pc = .ok (.getfield idx, 3)) (k : V S X nL M (pc + 3) lv (.ref (S.2.1 (o + 6)) :: st)) : V S X nL M pc lv (.ref (S.2.1 o) :: st) := v_getf C (kd_lt (by rw [ho]; decide)) (ent_12 ho) (T := TX12) (N := 44) (kf := 5) rfl inw12 (by decide) rfl rfl hw dd k
theorem g_Mo_stepsTold (C : CX S X cc nL own d) (ho : kd o = 12) (hw : Cond.fieldLink own idx RX12 "stepsTold" "I" ∈ tw) (dd : decode cc pc = .ok (.getfield idx, 3)) (k : V S X nL M (pc + 3) lv (.int (M o 6) :: st)) : V S X nL M pc lv (.ref (S.2.1 o) :: st) := v_getf C (kd_lt (by rw [ho]; decide)) (ent_12 ho) (T := TX12) (N := 44) (kf := 6) rfl inw12 (by decide) rfl rfl hw dd k
theorem p_Mo_stepsTold (C : CX S X cc nL own d) (ho : kd o = 12) {x : Int32} (hw : Cond.fieldLink own idx RX12 "stepsTold" "I" ∈ tw) (dd : decode cc pc = .ok (.putfield idx, 3)) (k : V S X nL (mset M o 6 x) (pc + 3) lv st) : V S X nL M pc lv (.int x :: .ref (S.2.1 o) :: st) := v_putf C (kd_lt (by rw [ho]; decide)) (ent_12 ho) (T := TX12) (N := 44) (kf := 6) (ty := .int) rfl inw12 tyX12 tyX12_ok nmX12 (by decide) (Nat.le_of_ble_eq_true rfl) rfl rfl (by decide +kernel) rfl rfl (by rw [ent_12 ho, mset_self]; rfl) (fun j hj => ent_congr (mset_ne M _ _ hj)) hw dd k
theorem g_Mo_kinds (C : CX S X cc nL own d) (ho : kd o = 12) (hw : Cond.fieldLink own idx RX12 "kinds" "[I" ∈ tw) (dd : decode cc pc = .ok (.getfield idx, 3)) (k : V S X nL M (pc + 3) lv (.ref (S.2.1 (o + 7)) :: st)) : V S X nL M pc lv (.ref (S.2.1 o) :: st) := v_getf C (kd_lt (by rw [ho]; decide)) (ent_12 ho) (T := TX12) (N := 44) (kf := 7) rfl inw12 (by decide) rfl rfl hw dd k
theorem g_Mo_figures (C : CX S X cc nL own d) (ho : kd o = 12) (hw : Cond.fieldLink own idx RX12 "figures" "[I" ∈ tw) (dd : decode cc pc = .ok (.getfield idx, 3)) (k : V S X nL M (pc + 3) lv (.ref (S.2.1 (o + 8)) :: st)) : V S X nL M pc lv (.ref (S.2.1 o) :: st) := v_getf C (kd_lt (by rw [ho]; decide)) (ent_12 ho) (T := TX12) (N := 44) (kf := 8) rfl inw12 (by decide) rfl rfl hw dd k
theorem g_Mo_endTold (C : CX S X cc nL own d) (ho : kd o = 12) (hw : Cond.fieldLink own idx RX12 "endTold" "I" ∈ tw) (dd : decode cc pc = .ok (.getfield idx, 3)) (k : V S X nL M (pc + 3) lv (.int (M o 9) :: st)) : V S X nL M pc lv (.ref (S.2.1 o) :: st) := v_getf C (kd_lt (by rw [ho]; decide)) (ent_12 ho) (T := TX12) (N := 44) (kf := 9) rfl inw12 (by decide) rfl rfl hw dd k
theorem p_Mo_endTold (C : CX S X cc nL own d) (ho : kd o = 12) {x : Int32} (hw : Cond.fieldLink own idx RX12 "endTold" "I" ∈ tw) (dd : decode cc pc = .ok (.putfield idx, 3)) (k : V S X nL (mset M o 9 x) (pc + 3) lv st) : V S X nL M pc lv (.int x :: .ref (S.2.1 o) :: st) := v_putf C (kd_lt (by rw [ho]; decide)) (ent_12 ho) (T := TX12) (N := 44) (kf := 9) (ty := .int) rfl inw12 tyX12 tyX12_ok nmX12 (by decide) (Nat.le_of_ble_eq_true rfl) rfl rfl (by decide +kernel) rfl rfl (by rw [ent_12 ho, mset_self]; rfl) (fun j hj => ent_congr (mset_ne M _ _ hj)) hw dd k
theorem g_Mo_endNow (C : CX S X cc nL own d) (ho : kd o = 12) (hw : Cond.fieldLink own idx RX12 "endNow" "I" ∈ tw) (dd : decode cc pc = .ok (.getfield idx, 3)) (k : V S X nL M (pc + 3) lv (.int (M o 10) :: st)) : V S X nL M pc lv (.ref (S.2.1 o) :: st) := v_getf C (kd_lt (by rw [ho]; decide)) (ent_12 ho) (T := TX12) (N := 44) (kf := 10) rfl inw12 (by decide) rfl rfl hw dd k
theorem p_Mo_endNow (C : CX S X cc nL own d) (ho : kd o = 12) {x : Int32} (hw : Cond.fieldLink own idx RX12 "endNow" "I" ∈ tw) (dd : decode cc pc = .ok (.putfield idx, 3)) (k : V S X nL (mset M o 10 x) (pc + 3) lv st) : V S X nL M pc lv (.int x :: .ref (S.2.1 o) :: st) := v_putf C (kd_lt (by rw [ho]; decide)) (ent_12 ho) (T := TX12) (N := 44) (kf := 10) (ty := .int) rfl inw12 tyX12 tyX12_ok nmX12 (by decide) (Nat.le_of_ble_eq_true rfl) rfl rfl (by decide +kernel) rfl rfl (by rw [ent_12 ho, mset_self]; rfl) (fun j hj => ent_congr (mset_ne M _ _ hj)) hw dd k
theorem g_Mo_without (C : CX S X cc nL own d) (ho : kd o = 12) (hw : Cond.fieldLink own idx RX12 "without" "I" ∈ tw) (dd : decode cc pc = .ok (.getfield idx, 3)) (k : V S X nL M (pc + 3) lv (.int (M o 11) :: st)) : V S X nL M pc lv (.ref (S.2.1 o) :: st) := v_getf C (kd_lt (by rw [ho]; decide)) (ent_12 ho) (T := TX12) (N := 44) (kf := 11) rfl inw12 (by decide) rfl rfl hw dd k
theorem p_Mo_without (C : CX S X cc nL own d) (ho : kd o = 12) {x : Int32} (hw : Cond.fieldLink own idx RX12 "without" "I" ∈ tw) (dd : decode cc pc = .ok (.putfield idx, 3)) (k : V S X nL (mset M o 11 x) (pc + 3) lv st) : V S X nL M pc lv (.int x :: .ref (S.2.1 o) :: st) := v_putf C (kd_lt (by rw [ho]; decide)) (ent_12 ho) (T := TX12) (N := 44) (kf := 11) (ty := .int) rfl inw12 tyX12 tyX12_ok nmX12 (by decide) (Nat.le_of_ble_eq_true rfl) rfl rfl (by decide +kernel) rfl rfl (by rw [ent_12 ho, mset_self]; rfl) (fun j hj => ent_congr (mset_ne M _ _ hj)) hw dd k
theorem g_Mo_errorAt (C : CX S X cc nL own d) (ho : kd o = 12) (hw : Cond.fieldLink own idx RX12 "errorAt" "[I" ∈ tw) (dd : decode cc pc = .ok (.getfield idx, 3)) (k : V S X nL M (pc + 3) lv (.ref (S.2.1 (o + 9)) :: st)) : V S X nL M pc lv (.ref (S.2.1 o) :: st) := v_getf C (kd_lt (by rw [ho]; decide)) (ent_12 ho) (T := TX12) (N := 44) (kf := 12) rfl inw12 (by decide) rfl rfl hw dd k
theorem g_Mo_answers (C : CX S X cc nL own d) (ho : kd o = 12) (hw : Cond.fieldLink own idx RX12 "answers" "[I" ∈ tw) (dd : decode cc pc = .ok (.getfield idx, 3)) (k : V S X nL M (pc + 3) lv (.ref (S.2.1 (o + 10)) :: st)) : V S X nL M pc lv (.ref (S.2.1 o) :: st) := v_getf C (kd_lt (by rw [ho]; decide)) (ent_12 ho) (T := TX12) (N := 44) (kf := 13) rfl inw12 (by decide) rfl rfl hw dd k
theorem g_Mo_costs (C : CX S X cc nL own d) (ho : kd o = 12) (hw : Cond.fieldLink own idx RX12 "costs" "[I" ∈ tw) (dd : decode cc pc = .ok (.getfield idx, 3)) (k : V S X nL M (pc + 3) lv (.ref (S.2.1 (o + 11)) :: st)) : V S X nL M pc lv (.ref (S.2.1 o) :: st) := v_getf C (kd_lt (by rw [ho]; decide)) (ent_12 ho) (T := TX12) (N := 44) (kf := 14) rfl inw12 (by decide) rfl rfl hw dd k
theorem g_Mo_logged (C : CX S X cc nL own d) (ho : kd o = 12) (hw : Cond.fieldLink own idx RX12 "logged" "[I" ∈ tw) (dd : decode cc pc = .ok (.getfield idx, 3)) (k : V S X nL M (pc + 3) lv (.ref (S.2.1 (o + 12)) :: st)) : V S X nL M pc lv (.ref (S.2.1 o) :: st) := v_getf C (kd_lt (by rw [ho]; decide)) (ent_12 ho) (T := TX12) (N := 44) (kf := 15) rfl inw12 (by decide) rfl rfl hw dd k
theorem g_Mo_logs (C : CX S X cc nL own d) (ho : kd o = 12) (hw : Cond.fieldLink own idx RX12 "logs" "[I" ∈ tw) (dd : decode cc pc = .ok (.getfield idx, 3)) (k : V S X nL M (pc + 3) lv (.ref (S.2.1 (o + 13)) :: st)) : V S X nL M pc lv (.ref (S.2.1 o) :: st) := v_getf C (kd_lt (by rw [ho]; decide)) (ent_12 ho) (T := TX12) (N := 44) (kf := 16) rfl inw12 (by decide) rfl rfl hw dd k
theorem g_Mo_many (C : CX S X cc nL own d) (ho : kd o = 12) (hw : Cond.fieldLink own idx RX12 "many" "I" ∈ tw) (dd : decode cc pc = .ok (.getfield idx, 3)) (k : V S X nL M (pc + 3) lv (.int (M o 17) :: st)) : V S X nL M pc lv (.ref (S.2.1 o) :: st) := v_getf C (kd_lt (by rw [ho]; decide)) (ent_12 ho) (T := TX12) (N := 44) (kf := 17) rfl inw12 (by decide) rfl rfl hw dd k
theorem p_Mo_many (C : CX S X cc nL own d) (ho : kd o = 12) {x : Int32} (hw : Cond.fieldLink own idx RX12 "many" "I" ∈ tw) (dd : decode cc pc = .ok (.putfield idx, 3)) (k : V S X nL (mset M o 17 x) (pc + 3) lv st) : V S X nL M pc lv (.int x :: .ref (S.2.1 o) :: st) := v_putf C (kd_lt (by rw [ho]; decide)) (ent_12 ho) (T := TX12) (N := 44) (kf := 17) (ty := .int) rfl inw12 tyX12 tyX12_ok nmX12 (by decide) (Nat.le_of_ble_eq_true rfl) rfl rfl (by decide +kernel) rfl rfl (by rw [ent_12 ho, mset_self]; rfl) (fun j hj => ent_congr (mset_ne M _ _ hj)) hw dd k
theorem g_Mo_rowK (C : CX S X cc nL own d) (ho : kd o = 12) (hw : Cond.fieldLink own idx RX12 "rowK" "[I" ∈ tw) (dd : decode cc pc = .ok (.getfield idx, 3)) (k : V S X nL M (pc + 3) lv (.ref (S.2.1 (o + 14)) :: st)) : V S X nL M pc lv (.ref (S.2.1 o) :: st) := v_getf C (kd_lt (by rw [ho]; decide)) (ent_12 ho) (T := TX12) (N := 44) (kf := 18) rfl inw12 (by decide) rfl rfl hw dd k
theorem g_Mo_rowV (C : CX S X cc nL own d) (ho : kd o = 12) (hw : Cond.fieldLink own idx RX12 "rowV" "[I" ∈ tw) (dd : decode cc pc = .ok (.getfield idx, 3)) (k : V S X nL M (pc + 3) lv (.ref (S.2.1 (o + 15)) :: st)) : V S X nL M pc lv (.ref (S.2.1 o) :: st) := v_getf C (kd_lt (by rw [ho]; decide)) (ent_12 ho) (T := TX12) (N := 44) (kf := 19) rfl inw12 (by decide) rfl rfl hw dd k
theorem g_Mo_rowPair (C : CX S X cc nL own d) (ho : kd o = 12) (hw : Cond.fieldLink own idx RX12 "rowPair" "[I" ∈ tw) (dd : decode cc pc = .ok (.getfield idx, 3)) (k : V S X nL M (pc + 3) lv (.ref (S.2.1 (o + 16)) :: st)) : V S X nL M pc lv (.ref (S.2.1 o) :: st) := v_getf C (kd_lt (by rw [ho]; decide)) (ent_12 ho) (T := TX12) (N := 44) (kf := 20) rfl inw12 (by decide) rfl rfl hw dd k
theorem g_Mo_outMany (C : CX S X cc nL own d) (ho : kd o = 12) (hw : Cond.fieldLink own idx RX12 "outMany" "I" ∈ tw) (dd : decode cc pc = .ok (.getfield idx, 3)) (k : V S X nL M (pc + 3) lv (.int (M o 21) :: st)) : V S X nL M pc lv (.ref (S.2.1 o) :: st) := v_getf C (kd_lt (by rw [ho]; decide)) (ent_12 ho) (T := TX12) (N := 44) (kf := 21) rfl inw12 (by decide) rfl rfl hw dd k
theorem p_Mo_outMany (C : CX S X cc nL own d) (ho : kd o = 12) {x : Int32} (hw : Cond.fieldLink own idx RX12 "outMany" "I" ∈ tw) (dd : decode cc pc = .ok (.putfield idx, 3)) (k : V S X nL (mset M o 21 x) (pc + 3) lv st) : V S X nL M pc lv (.int x :: .ref (S.2.1 o) :: st) := v_putf C (kd_lt (by rw [ho]; decide)) (ent_12 ho) (T := TX12) (N := 44) (kf := 21) (ty := .int) rfl inw12 tyX12 tyX12_ok nmX12 (by decide) (Nat.le_of_ble_eq_true rfl) rfl rfl (by decide +kernel) rfl rfl (by rw [ent_12 ho, mset_self]; rfl) (fun j hj => ent_congr (mset_ne M _ _ hj)) hw dd k
theorem g_Mo_outK (C : CX S X cc nL own d) (ho : kd o = 12) (hw : Cond.fieldLink own idx RX12 "outK" "[I" ∈ tw) (dd : decode cc pc = .ok (.getfield idx, 3)) (k : V S X nL M (pc + 3) lv (.ref (S.2.1 (o + 17)) :: st)) : V S X nL M pc lv (.ref (S.2.1 o) :: st) := v_getf C (kd_lt (by rw [ho]; decide)) (ent_12 ho) (T := TX12) (N := 44) (kf := 22) rfl inw12 (by decide) rfl rfl hw dd k
theorem g_Mo_outV (C : CX S X cc nL own d) (ho : kd o = 12) (hw : Cond.fieldLink own idx RX12 "outV" "[I" ∈ tw) (dd : decode cc pc = .ok (.getfield idx, 3)) (k : V S X nL M (pc + 3) lv (.ref (S.2.1 (o + 18)) :: st)) : V S X nL M pc lv (.ref (S.2.1 o) :: st) := v_getf C (kd_lt (by rw [ho]; decide)) (ent_12 ho) (T := TX12) (N := 44) (kf := 23) rfl inw12 (by decide) rfl rfl hw dd k
theorem g_Mo_outPair (C : CX S X cc nL own d) (ho : kd o = 12) (hw : Cond.fieldLink own idx RX12 "outPair" "[I" ∈ tw) (dd : decode cc pc = .ok (.getfield idx, 3)) (k : V S X nL M (pc + 3) lv (.ref (S.2.1 (o + 19)) :: st)) : V S X nL M pc lv (.ref (S.2.1 o) :: st) := v_getf C (kd_lt (by rw [ho]; decide)) (ent_12 ho) (T := TX12) (N := 44) (kf := 24) rfl inw12 (by decide) rfl rfl hw dd k
theorem g_Mo_hadMany (C : CX S X cc nL own d) (ho : kd o = 12) (hw : Cond.fieldLink own idx RX12 "hadMany" "[I" ∈ tw) (dd : decode cc pc = .ok (.getfield idx, 3)) (k : V S X nL M (pc + 3) lv (.ref (S.2.1 (o + 20)) :: st)) : V S X nL M pc lv (.ref (S.2.1 o) :: st) := v_getf C (kd_lt (by rw [ho]; decide)) (ent_12 ho) (T := TX12) (N := 44) (kf := 25) rfl inw12 (by decide) rfl rfl hw dd k
theorem g_Mo_hadK (C : CX S X cc nL own d) (ho : kd o = 12) (hw : Cond.fieldLink own idx RX12 "hadK" "[I" ∈ tw) (dd : decode cc pc = .ok (.getfield idx, 3)) (k : V S X nL M (pc + 3) lv (.ref (S.2.1 (o + 21)) :: st)) : V S X nL M pc lv (.ref (S.2.1 o) :: st) := v_getf C (kd_lt (by rw [ho]; decide)) (ent_12 ho) (T := TX12) (N := 44) (kf := 26) rfl inw12 (by decide) rfl rfl hw dd k
theorem g_Mo_hadV (C : CX S X cc nL own d) (ho : kd o = 12) (hw : Cond.fieldLink own idx RX12 "hadV" "[I" ∈ tw) (dd : decode cc pc = .ok (.getfield idx, 3)) (k : V S X nL M (pc + 3) lv (.ref (S.2.1 (o + 22)) :: st)) : V S X nL M pc lv (.ref (S.2.1 o) :: st) := v_getf C (kd_lt (by rw [ho]; decide)) (ent_12 ho) (T := TX12) (N := 44) (kf := 27) rfl inw12 (by decide) rfl rfl hw dd k
theorem g_Mo_handed (C : CX S X cc nL own d) (ho : kd o = 12) (hw : Cond.fieldLink own idx RX12 "handed" "I" ∈ tw) (dd : decode cc pc = .ok (.getfield idx, 3)) (k : V S X nL M (pc + 3) lv (.int (M o 28) :: st)) : V S X nL M pc lv (.ref (S.2.1 o) :: st) := v_getf C (kd_lt (by rw [ho]; decide)) (ent_12 ho) (T := TX12) (N := 44) (kf := 28) rfl inw12 (by decide) rfl rfl hw dd k
theorem p_Mo_handed (C : CX S X cc nL own d) (ho : kd o = 12) {x : Int32} (hw : Cond.fieldLink own idx RX12 "handed" "I" ∈ tw) (dd : decode cc pc = .ok (.putfield idx, 3)) (k : V S X nL (mset M o 28 x) (pc + 3) lv st) : V S X nL M pc lv (.int x :: .ref (S.2.1 o) :: st) := v_putf C (kd_lt (by rw [ho]; decide)) (ent_12 ho) (T := TX12) (N := 44) (kf := 28) (ty := .int) rfl inw12 tyX12 tyX12_ok nmX12 (by decide) (Nat.le_of_ble_eq_true rfl) rfl rfl (by decide +kernel) rfl rfl (by rw [ent_12 ho, mset_self]; rfl) (fun j hj => ent_congr (mset_ne M _ _ hj)) hw dd k
theorem g_Mo_readMany (C : CX S X cc nL own d) (ho : kd o = 12) (hw : Cond.fieldLink own idx RX12 "readMany" "I" ∈ tw) (dd : decode cc pc = .ok (.getfield idx, 3)) (k : V S X nL M (pc + 3) lv (.int (M o 29) :: st)) : V S X nL M pc lv (.ref (S.2.1 o) :: st) := v_getf C (kd_lt (by rw [ho]; decide)) (ent_12 ho) (T := TX12) (N := 44) (kf := 29) rfl inw12 (by decide) rfl rfl hw dd k
theorem p_Mo_readMany (C : CX S X cc nL own d) (ho : kd o = 12) {x : Int32} (hw : Cond.fieldLink own idx RX12 "readMany" "I" ∈ tw) (dd : decode cc pc = .ok (.putfield idx, 3)) (k : V S X nL (mset M o 29 x) (pc + 3) lv st) : V S X nL M pc lv (.int x :: .ref (S.2.1 o) :: st) := v_putf C (kd_lt (by rw [ho]; decide)) (ent_12 ho) (T := TX12) (N := 44) (kf := 29) (ty := .int) rfl inw12 tyX12 tyX12_ok nmX12 (by decide) (Nat.le_of_ble_eq_true rfl) rfl rfl (by decide +kernel) rfl rfl (by rw [ent_12 ho, mset_self]; rfl) (fun j hj => ent_congr (mset_ne M _ _ hj)) hw dd k
theorem g_Mo_isOver (C : CX S X cc nL own d) (ho : kd o = 12) (hw : Cond.fieldLink own idx RX12 "isOver" "Z" ∈ tw) (dd : decode cc pc = .ok (.getfield idx, 3)) (k : V S X nL M (pc + 3) lv (.int (M o 30) :: st)) : V S X nL M pc lv (.ref (S.2.1 o) :: st) := v_getf C (kd_lt (by rw [ho]; decide)) (ent_12 ho) (T := TX12) (N := 44) (kf := 30) rfl inw12 (by decide) rfl rfl hw dd k
theorem p_Mo_isOver (C : CX S X cc nL own d) (ho : kd o = 12) {x : Int32} (hx : x = 0 ∨ x = 1) (hw : Cond.fieldLink own idx RX12 "isOver" "Z" ∈ tw) (dd : decode cc pc = .ok (.putfield idx, 3)) (k : V S X nL (mset M o 30 x) (pc + 3) lv st) : V S X nL M pc lv (.int x :: .ref (S.2.1 o) :: st) := v_putf C (kd_lt (by rw [ho]; decide)) (ent_12 ho) (T := TX12) (N := 44) (kf := 30) (ty := .boolean) rfl inw12 tyX12 tyX12_ok nmX12 (by decide) (Nat.le_of_ble_eq_true rfl) rfl rfl (by decide +kernel) (by rcases hx with rfl | rfl <;> decide +kernel) (by rcases hx with rfl | rfl <;> decide +kernel) (by rw [ent_12 ho, mset_self]; rfl) (fun j hj => ent_congr (mset_ne M _ _ hj)) hw dd k
theorem g_Mo_pairs (C : CX S X cc nL own d) (ho : kd o = 12) (hw : Cond.fieldLink own idx RX12 "pairs" "I" ∈ tw) (dd : decode cc pc = .ok (.getfield idx, 3)) (k : V S X nL M (pc + 3) lv (.int (M o 31) :: st)) : V S X nL M pc lv (.ref (S.2.1 o) :: st) := v_getf C (kd_lt (by rw [ho]; decide)) (ent_12 ho) (T := TX12) (N := 44) (kf := 31) rfl inw12 (by decide) rfl rfl hw dd k
theorem p_Mo_pairs (C : CX S X cc nL own d) (ho : kd o = 12) {x : Int32} (hw : Cond.fieldLink own idx RX12 "pairs" "I" ∈ tw) (dd : decode cc pc = .ok (.putfield idx, 3)) (k : V S X nL (mset M o 31 x) (pc + 3) lv st) : V S X nL M pc lv (.int x :: .ref (S.2.1 o) :: st) := v_putf C (kd_lt (by rw [ho]; decide)) (ent_12 ho) (T := TX12) (N := 44) (kf := 31) (ty := .int) rfl inw12 tyX12 tyX12_ok nmX12 (by decide) (Nat.le_of_ble_eq_true rfl) rfl rfl (by decide +kernel) rfl rfl (by rw [ent_12 ho, mset_self]; rfl) (fun j hj => ent_congr (mset_ne M _ _ hj)) hw dd k
theorem g_Mo_pairK (C : CX S X cc nL own d) (ho : kd o = 12) (hw : Cond.fieldLink own idx RX12 "pairK" "[I" ∈ tw) (dd : decode cc pc = .ok (.getfield idx, 3)) (k : V S X nL M (pc + 3) lv (.ref (S.2.1 (o + 23)) :: st)) : V S X nL M pc lv (.ref (S.2.1 o) :: st) := v_getf C (kd_lt (by rw [ho]; decide)) (ent_12 ho) (T := TX12) (N := 44) (kf := 32) rfl inw12 (by decide) rfl rfl hw dd k
theorem g_Mo_pairV (C : CX S X cc nL own d) (ho : kd o = 12) (hw : Cond.fieldLink own idx RX12 "pairV" "[I" ∈ tw) (dd : decode cc pc = .ok (.getfield idx, 3)) (k : V S X nL M (pc + 3) lv (.ref (S.2.1 (o + 24)) :: st)) : V S X nL M pc lv (.ref (S.2.1 o) :: st) := v_getf C (kd_lt (by rw [ho]; decide)) (ent_12 ho) (T := TX12) (N := 44) (kf := 33) rfl inw12 (by decide) rfl rfl hw dd k
theorem g_Mo_pairOf (C : CX S X cc nL own d) (ho : kd o = 12) (hw : Cond.fieldLink own idx RX12 "pairOf" "[I" ∈ tw) (dd : decode cc pc = .ok (.getfield idx, 3)) (k : V S X nL M (pc + 3) lv (.ref (S.2.1 (o + 25)) :: st)) : V S X nL M pc lv (.ref (S.2.1 o) :: st) := v_getf C (kd_lt (by rw [ho]; decide)) (ent_12 ho) (T := TX12) (N := 44) (kf := 34) rfl inw12 (by decide) rfl rfl hw dd k
theorem g_Mo_planMany (C : CX S X cc nL own d) (ho : kd o = 12) (hw : Cond.fieldLink own idx RX12 "planMany" "I" ∈ tw) (dd : decode cc pc = .ok (.getfield idx, 3)) (k : V S X nL M (pc + 3) lv (.int (M o 35) :: st)) : V S X nL M pc lv (.ref (S.2.1 o) :: st) := v_getf C (kd_lt (by rw [ho]; decide)) (ent_12 ho) (T := TX12) (N := 44) (kf := 35) rfl inw12 (by decide) rfl rfl hw dd k
theorem p_Mo_planMany (C : CX S X cc nL own d) (ho : kd o = 12) {x : Int32} (hw : Cond.fieldLink own idx RX12 "planMany" "I" ∈ tw) (dd : decode cc pc = .ok (.putfield idx, 3)) (k : V S X nL (mset M o 35 x) (pc + 3) lv st) : V S X nL M pc lv (.int x :: .ref (S.2.1 o) :: st) := v_putf C (kd_lt (by rw [ho]; decide)) (ent_12 ho) (T := TX12) (N := 44) (kf := 35) (ty := .int) rfl inw12 tyX12 tyX12_ok nmX12 (by decide) (Nat.le_of_ble_eq_true rfl) rfl rfl (by decide +kernel) rfl rfl (by rw [ent_12 ho, mset_self]; rfl) (fun j hj => ent_congr (mset_ne M _ _ hj)) hw dd k
theorem g_Mo_planRow (C : CX S X cc nL own d) (ho : kd o = 12) (hw : Cond.fieldLink own idx RX12 "planRow" "[I" ∈ tw) (dd : decode cc pc = .ok (.getfield idx, 3)) (k : V S X nL M (pc + 3) lv (.ref (S.2.1 (o + 26)) :: st)) : V S X nL M pc lv (.ref (S.2.1 o) :: st) := v_getf C (kd_lt (by rw [ho]; decide)) (ent_12 ho) (T := TX12) (N := 44) (kf := 36) rfl inw12 (by decide) rfl rfl hw dd k
theorem g_Mo_ownAnswers (C : CX S X cc nL own d) (ho : kd o = 12) (hw : Cond.fieldLink own idx RX12 "ownAnswers" "[I" ∈ tw) (dd : decode cc pc = .ok (.getfield idx, 3)) (k : V S X nL M (pc + 3) lv (.ref (S.2.1 (o + 27)) :: st)) : V S X nL M pc lv (.ref (S.2.1 o) :: st) := v_getf C (kd_lt (by rw [ho]; decide)) (ent_12 ho) (T := TX12) (N := 44) (kf := 37) rfl inw12 (by decide) rfl rfl hw dd k
theorem g_Mo_isThere (C : CX S X cc nL own d) (ho : kd o = 12) (hw : Cond.fieldLink own idx RX12 "isThere" "[Z" ∈ tw) (dd : decode cc pc = .ok (.getfield idx, 3)) (k : V S X nL M (pc + 3) lv (.ref (S.2.1 (o + 28)) :: st)) : V S X nL M pc lv (.ref (S.2.1 o) :: st) := v_getf C (kd_lt (by rw [ho]; decide)) (ent_12 ho) (T := TX12) (N := 44) (kf := 38) rfl inw12 (by decide) rfl rfl hw dd k
theorem g_Mo_forms (C : CX S X cc nL own d) (ho : kd o = 12) (hw : Cond.fieldLink own idx RX12 "forms" "[I" ∈ tw) (dd : decode cc pc = .ok (.getfield idx, 3)) (k : V S X nL M (pc + 3) lv (.ref (S.2.1 (o + 29)) :: st)) : V S X nL M pc lv (.ref (S.2.1 o) :: st) := v_getf C (kd_lt (by rw [ho]; decide)) (ent_12 ho) (T := TX12) (N := 44) (kf := 39) rfl inw12 (by decide) rfl rfl hw dd k
theorem g_Mo_sizes (C : CX S X cc nL own d) (ho : kd o = 12) (hw : Cond.fieldLink own idx RX12 "sizes" "[I" ∈ tw) (dd : decode cc pc = .ok (.getfield idx, 3)) (k : V S X nL M (pc + 3) lv (.ref (S.2.1 (o + 30)) :: st)) : V S X nL M pc lv (.ref (S.2.1 o) :: st) := v_getf C (kd_lt (by rw [ho]; decide)) (ent_12 ho) (T := TX12) (N := 44) (kf := 40) rfl inw12 (by decide) rfl rfl hw dd k
theorem g_Mo_items (C : CX S X cc nL own d) (ho : kd o = 12) (hw : Cond.fieldLink own idx RX12 "items" "[I" ∈ tw) (dd : decode cc pc = .ok (.getfield idx, 3)) (k : V S X nL M (pc + 3) lv (.ref (S.2.1 (o + 31)) :: st)) : V S X nL M pc lv (.ref (S.2.1 o) :: st) := v_getf C (kd_lt (by rw [ho]; decide)) (ent_12 ho) (T := TX12) (N := 44) (kf := 41) rfl inw12 (by decide) rfl rfl hw dd k
theorem g_Mo_moved (C : CX S X cc nL own d) (ho : kd o = 12) (hw : Cond.fieldLink own idx RX12 "moved" "[I" ∈ tw) (dd : decode cc pc = .ok (.getfield idx, 3)) (k : V S X nL M (pc + 3) lv (.ref (S.2.1 (o + 32)) :: st)) : V S X nL M pc lv (.ref (S.2.1 o) :: st) := v_getf C (kd_lt (by rw [ho]; decide)) (ent_12 ho) (T := TX12) (N := 44) (kf := 42) rfl inw12 (by decide) rfl rfl hw dd k
theorem g_Mo_finding (C : CX S X cc nL own d) (ho : kd o = 12) (hw : Cond.fieldLink own idx RX12 "finding" "I" ∈ tw) (dd : decode cc pc = .ok (.getfield idx, 3)) (k : V S X nL M (pc + 3) lv (.int (M o 43) :: st)) : V S X nL M pc lv (.ref (S.2.1 o) :: st) := v_getf C (kd_lt (by rw [ho]; decide)) (ent_12 ho) (T := TX12) (N := 44) (kf := 43) rfl inw12 (by decide) rfl rfl hw dd k
theorem p_Mo_finding (C : CX S X cc nL own d) (ho : kd o = 12) {x : Int32} (hw : Cond.fieldLink own idx RX12 "finding" "I" ∈ tw) (dd : decode cc pc = .ok (.putfield idx, 3)) (k : V S X nL (mset M o 43 x) (pc + 3) lv st) : V S X nL M pc lv (.int x :: .ref (S.2.1 o) :: st) := v_putf C (kd_lt (by rw [ho]; decide)) (ent_12 ho) (T := TX12) (N := 44) (kf := 43) (ty := .int) rfl inw12 tyX12 tyX12_ok nmX12 (by decide) (Nat.le_of_ble_eq_true rfl) rfl rfl (by decide +kernel) rfl rfl (by rw [ent_12 ho, mset_self]; rfl) (fun j hj => ent_congr (mset_ne M _ _ hj)) hw dd k
end FR
end
section
theorem nat_ac : Cond.native arraycopyName ∈ tw := tw_in 825 (by decide +kernel) (by decide +kernel)
theorem sta_ac : Cond.static arraycopyName ∈ tw := tw_in 824 (by decide +kernel) (by decide +kernel)
theorem ini_ac : Cond.initialized "java/lang/System" ∈ tw := tw_in 95 (by decide +kernel) (by decide +kernel)
theorem lk_X11_208 : Cond.methodLink RX11 208 arraycopyName ∈ tw := tw_in 823 (by decide +kernel) (by decide +kernel)
-- ===== naming, guards, joins =====
def FU : Nat := 1000
def bnd {α β : Type} (e : α) (f : α → β) : β := f e
theorem bnd_ex {α β : Type} {e : α} {f : α → β} {r : β} (h : bnd e f = r) : ∃ q, e = q ∧ f q = r := ⟨e, rfl, h⟩
theorem gd_h {c : Prop} [Decidable c] {α : Type} {a : Option α} {r : α} (h : (if c then a else none) = some r) : c ∧ a = some r := by
  by_cases hc : c
  · rw [if_pos hc] at h; exact ⟨hc, h⟩
  · rw [if_neg hc] at h; cases h
theorem ite_h {c : Prop} [Decidable c] {α : Type} {a b r : α} (h : (if c then a else b) = r) : (c → a = r) ∧ (¬ c → b = r) := ⟨fun hc => by rw [if_pos hc] at h; exact h, fun hc => by rw [if_neg hc] at h; exact h⟩
theorem ne_toInt {x v : Int32} (h : ¬ x = v) (n : Int) (e : v.toInt = n) : x.toInt ≠ n := fun q => h (Int32.toInt_inj.mp (q.trans e.symm))
theorem CX.inj {S : SE} {X : MX} {cc : ByteArray} {nL : Nat} {own : String} {d : Nat} (C : CX S X cc nL own d) : Inj S := C.2.2.2.2.2.2.1
section NM
variable {S : SE} {X : MX} {cc : ByteArray} {nL : Nat} {own : String} {d : Nat} {M : Mem} {pc : Nat} {lv : List (Nat × Value)} {st : List Value} {α : Type} {r : α}
theorem v_nmi {e : Int32} {f : Int32 → α} (h : bnd e f = r) (k : ∀ x, f x = r → V S X nL M pc lv (.int x :: st)) : V S X nL M pc lv (.int e :: st) := k e h
theorem v_nml {e : Int64} {f : Int64 → α} (h : bnd e f = r) (k : ∀ x, f x = r → V S X nL M pc lv (.long x :: st)) : V S X nL M pc lv (.long e :: st) := k e h
theorem v_nmf {e : UInt32} {f : UInt32 → α} (h : bnd e f = r) (k : ∀ x, f x = r → V S X nL M pc lv (.float x :: st)) : V S X nL M pc lv (.float e :: st) := k e h
theorem v_nmr {e t : Nat} {f : Nat → α} (h : bnd e f = r) (hk : kd e = t) (k : ∀ x, kd x = t → f x = r → V S X nL M pc lv (.ref (S.2.1 x) :: st)) : V S X nL M pc lv (.ref (S.2.1 e) :: st) := k e hk h
theorem v_nmm {e : Mem} {f : Mem → α} (h : bnd e f = r) (k : ∀ m, f m = r → V S X nL m pc lv st) : V S X nL e pc lv st := k e h
theorem v_ldcwf (C : CX S X cc nL own d) {i : Nat} {v : UInt32} (hw : Cond.constantFloat own i v ∈ tw) (dd : decode cc pc = .ok (.ldc_w i, 3)) (k : V S X nL M (pc + 3) lv (.float v :: st)) : V S X nL M pc lv st := fun H locs ls hP hS hl => by
  obtain ⟨hx, hb, hml, hown, hts, -⟩ := C
  obtain ⟨kc, cf, hk, hcf, hcp⟩ := Cond.constantFloat_spec hown (hts _ hw)
  intro T hT X2
  obtain ⟨t, a, b⟩ := k H locs ls hP hS hl T hT X2
  obtain ⟨k', hk', he⟩ := X2.warmed.alike.2.2 _ _ hk
  refine ⟨t, ?_, b⟩
  jvm_step X2.here [hx, hb, dd, ldc_w.wp_float (s := T) (f := F0 X.2.2.2.2.2.1 pc ls st) X2.here.top hk' (by rw [he]; exact hcf) hcp]
  exact a
/-- a row of ints copied to another, or to itself, as it was -/
def mcpy (M : Mem) (a sp b dp n : Nat) : Mem := fun i => if i = b then va_cpy (M a) (M b) sp dp n else M i
theorem v_acopy (C : CX S X cc nL own d) {a b la lb idx : Nat} (ha : kd a = 20) (hla : ln a = la) (hb : kd b = 20) (hlb : ln b = lb) {sp dp n : Int32} (hg : ¬ sp < 0 ∧ ¬ dp < 0 ∧ ¬ n < 0 ∧ sp.toNatClampNeg + n.toNatClampNeg ≤ la ∧ dp.toNatClampNeg + n.toNatClampNeg ≤ lb) (hw : Cond.methodLink own idx arraycopyName ∈ tw) (hd : 1 ≤ d) (hst : st = []) (dd : decode cc pc = .ok (.invokestatic idx, 3)) (k : V S X nL (mcpy M a sp.toNatClampNeg b dp.toNatClampNeg n.toNatClampNeg) (pc + 3) lv st) : V S X nL M pc lv (.int n :: .int dp :: .ref (S.2.1 b) :: .int sp :: .ref (S.2.1 a) :: st) := fun H locs ls hP hS hl => by
  subst hla; subst hlb; subst hst
  have hla' : a < NC := kd_lt (by rw [ha]; decide)
  have hlb' : b < NC := kd_lt (by rw [hb]; decide)
  obtain ⟨g1, g2, g3, g4, g5⟩ := hg
  refine va_copyi C.1 C.2.1 (by rw [C.2.2.1]; exact hl.1.symm) C.2.2.2.1 (C.2.2.2.2.1 _ hw) (C.2.2.2.2.1 _ nat_ac) (C.2.2.2.2.1 _ sta_ac) (C.2.2.2.2.1 _ ini_ac) C.2.2.2.2.2.1 hP (wd_D C.2.2.2.2.2.2.1) hS a b 0 0 (by rw [wd_at hla', ent_20 ha]) (by rw [wd_at hlb', ent_20 hb]) rfl rfl rfl g1 g2 g3 g4 g5 (fun i _ => rfl) (Nat.le_trans hd C.2.2.2.2.2.2.2.1) (Nat.le_trans (Nat.le_trans (Nat.le_of_ble_eq_true rfl) (Nat.mul_le_mul_left 40 hd)) C.2.2.2.2.2.2.2.2.1) dd (fun H1 locs1 hP1 _ hS1 => ?_)
  rw [wd_set (M' := mcpy M a sp.toNatClampNeg b dp.toNatClampNeg n.toNatClampNeg) hlb' (by rw [ent_20 hb]; unfold mcpy; rw [if_pos rfl]) (fun j hj => ent_congr (by unfold mcpy; rw [if_neg hj]))] at hP1
  exact k H1 locs1 ls hP1 hS1 hl
end NM
section CV
variable {S : SE} {X : MX} {cc : ByteArray} {nL : Nat} {own : String} {d : Nat} {M : Mem} {pc : Nat} {lv : List (Nat × Value)} {st : List Value}
variable {y : MethodName} {cy : ByteArray} {ny : Nat} {ry : Option FieldType} {n dy idx : Nat} {As : List Value} {M1 : Mem} {v : Value} {o : Nat}
theorem cv0 (C : CX S X cc nL own d) (rest : List Value) (ho : kd o = 0) (hM : CM S y cy ny ry dy (.ref (S.2.1 o) :: As) M (some v) M1) (ii : CIV y cy ny ry n) (hy : RX0 = y.cls) (hw : Cond.methodLink own idx y ∈ tw) (hd : dy + 1 ≤ d) (hn : As.length = n) (hst : st = As.reverse ++ .ref (S.2.1 o) :: rest) (hr : (rest.map fun v => v.category).sum ≤ 8) (dd : decode cc pc = .ok (.invokevirtual idx, 3)) (k : V S X nL M1 (pc + 3) lv (v :: rest)) : V S X nL M pc lv st := v_callV C rest (ci := 0) (q := (RX0, TX0, 4)) rfl hy (ent_0 ho) (kd_lt (by rw [ho]; decide)) hM ii hw hd hn hst hr dd k
theorem cv0v (C : CX S X cc nL own d) (rest : List Value) (ho : kd o = 0) (hM : CM S y cy ny ry dy (.ref (S.2.1 o) :: As) M none M1) (ii : CIV y cy ny ry n) (hy : RX0 = y.cls) (hw : Cond.methodLink own idx y ∈ tw) (hd : dy + 1 ≤ d) (hn : As.length = n) (hst : st = As.reverse ++ .ref (S.2.1 o) :: rest) (hr : (rest.map fun v => v.category).sum ≤ 8) (dd : decode cc pc = .ok (.invokevirtual idx, 3)) (k : V S X nL M1 (pc + 3) lv rest) : V S X nL M pc lv st := v_callV C rest (ci := 0) (q := (RX0, TX0, 4)) rfl hy (ent_0 ho) (kd_lt (by rw [ho]; decide)) hM ii hw hd hn hst hr dd k
theorem cv1 (C : CX S X cc nL own d) (rest : List Value) (ho : kd o = 1) (hM : CM S y cy ny ry dy (.ref (S.2.1 o) :: As) M (some v) M1) (ii : CIV y cy ny ry n) (hy : RX1 = y.cls) (hw : Cond.methodLink own idx y ∈ tw) (hd : dy + 1 ≤ d) (hn : As.length = n) (hst : st = As.reverse ++ .ref (S.2.1 o) :: rest) (hr : (rest.map fun v => v.category).sum ≤ 8) (dd : decode cc pc = .ok (.invokevirtual idx, 3)) (k : V S X nL M1 (pc + 3) lv (v :: rest)) : V S X nL M pc lv st := v_callV C rest (ci := 1) (q := (RX1, TX1, 3)) rfl hy (ent_1 ho) (kd_lt (by rw [ho]; decide)) hM ii hw hd hn hst hr dd k
theorem cv1v (C : CX S X cc nL own d) (rest : List Value) (ho : kd o = 1) (hM : CM S y cy ny ry dy (.ref (S.2.1 o) :: As) M none M1) (ii : CIV y cy ny ry n) (hy : RX1 = y.cls) (hw : Cond.methodLink own idx y ∈ tw) (hd : dy + 1 ≤ d) (hn : As.length = n) (hst : st = As.reverse ++ .ref (S.2.1 o) :: rest) (hr : (rest.map fun v => v.category).sum ≤ 8) (dd : decode cc pc = .ok (.invokevirtual idx, 3)) (k : V S X nL M1 (pc + 3) lv rest) : V S X nL M pc lv st := v_callV C rest (ci := 1) (q := (RX1, TX1, 3)) rfl hy (ent_1 ho) (kd_lt (by rw [ho]; decide)) hM ii hw hd hn hst hr dd k
theorem cv2 (C : CX S X cc nL own d) (rest : List Value) (ho : kd o = 2) (hM : CM S y cy ny ry dy (.ref (S.2.1 o) :: As) M (some v) M1) (ii : CIV y cy ny ry n) (hy : RX2 = y.cls) (hw : Cond.methodLink own idx y ∈ tw) (hd : dy + 1 ≤ d) (hn : As.length = n) (hst : st = As.reverse ++ .ref (S.2.1 o) :: rest) (hr : (rest.map fun v => v.category).sum ≤ 8) (dd : decode cc pc = .ok (.invokevirtual idx, 3)) (k : V S X nL M1 (pc + 3) lv (v :: rest)) : V S X nL M pc lv st := v_callV C rest (ci := 2) (q := (RX2, TX2, 4)) rfl hy (ent_2 ho) (kd_lt (by rw [ho]; decide)) hM ii hw hd hn hst hr dd k
theorem cv2v (C : CX S X cc nL own d) (rest : List Value) (ho : kd o = 2) (hM : CM S y cy ny ry dy (.ref (S.2.1 o) :: As) M none M1) (ii : CIV y cy ny ry n) (hy : RX2 = y.cls) (hw : Cond.methodLink own idx y ∈ tw) (hd : dy + 1 ≤ d) (hn : As.length = n) (hst : st = As.reverse ++ .ref (S.2.1 o) :: rest) (hr : (rest.map fun v => v.category).sum ≤ 8) (dd : decode cc pc = .ok (.invokevirtual idx, 3)) (k : V S X nL M1 (pc + 3) lv rest) : V S X nL M pc lv st := v_callV C rest (ci := 2) (q := (RX2, TX2, 4)) rfl hy (ent_2 ho) (kd_lt (by rw [ho]; decide)) hM ii hw hd hn hst hr dd k
theorem cv3 (C : CX S X cc nL own d) (rest : List Value) (ho : kd o = 3) (hM : CM S y cy ny ry dy (.ref (S.2.1 o) :: As) M (some v) M1) (ii : CIV y cy ny ry n) (hy : RX3 = y.cls) (hw : Cond.methodLink own idx y ∈ tw) (hd : dy + 1 ≤ d) (hn : As.length = n) (hst : st = As.reverse ++ .ref (S.2.1 o) :: rest) (hr : (rest.map fun v => v.category).sum ≤ 8) (dd : decode cc pc = .ok (.invokevirtual idx, 3)) (k : V S X nL M1 (pc + 3) lv (v :: rest)) : V S X nL M pc lv st := v_callV C rest (ci := 3) (q := (RX3, TX3, 3)) rfl hy (ent_3 ho) (kd_lt (by rw [ho]; decide)) hM ii hw hd hn hst hr dd k
theorem cv3v (C : CX S X cc nL own d) (rest : List Value) (ho : kd o = 3) (hM : CM S y cy ny ry dy (.ref (S.2.1 o) :: As) M none M1) (ii : CIV y cy ny ry n) (hy : RX3 = y.cls) (hw : Cond.methodLink own idx y ∈ tw) (hd : dy + 1 ≤ d) (hn : As.length = n) (hst : st = As.reverse ++ .ref (S.2.1 o) :: rest) (hr : (rest.map fun v => v.category).sum ≤ 8) (dd : decode cc pc = .ok (.invokevirtual idx, 3)) (k : V S X nL M1 (pc + 3) lv rest) : V S X nL M pc lv st := v_callV C rest (ci := 3) (q := (RX3, TX3, 3)) rfl hy (ent_3 ho) (kd_lt (by rw [ho]; decide)) hM ii hw hd hn hst hr dd k
theorem cv4 (C : CX S X cc nL own d) (rest : List Value) (ho : kd o = 4) (hM : CM S y cy ny ry dy (.ref (S.2.1 o) :: As) M (some v) M1) (ii : CIV y cy ny ry n) (hy : RX4 = y.cls) (hw : Cond.methodLink own idx y ∈ tw) (hd : dy + 1 ≤ d) (hn : As.length = n) (hst : st = As.reverse ++ .ref (S.2.1 o) :: rest) (hr : (rest.map fun v => v.category).sum ≤ 8) (dd : decode cc pc = .ok (.invokevirtual idx, 3)) (k : V S X nL M1 (pc + 3) lv (v :: rest)) : V S X nL M pc lv st := v_callV C rest (ci := 4) (q := (RX4, TX4, 10)) rfl hy (ent_4 ho) (kd_lt (by rw [ho]; decide)) hM ii hw hd hn hst hr dd k
theorem cv4v (C : CX S X cc nL own d) (rest : List Value) (ho : kd o = 4) (hM : CM S y cy ny ry dy (.ref (S.2.1 o) :: As) M none M1) (ii : CIV y cy ny ry n) (hy : RX4 = y.cls) (hw : Cond.methodLink own idx y ∈ tw) (hd : dy + 1 ≤ d) (hn : As.length = n) (hst : st = As.reverse ++ .ref (S.2.1 o) :: rest) (hr : (rest.map fun v => v.category).sum ≤ 8) (dd : decode cc pc = .ok (.invokevirtual idx, 3)) (k : V S X nL M1 (pc + 3) lv rest) : V S X nL M pc lv st := v_callV C rest (ci := 4) (q := (RX4, TX4, 10)) rfl hy (ent_4 ho) (kd_lt (by rw [ho]; decide)) hM ii hw hd hn hst hr dd k
theorem cv5 (C : CX S X cc nL own d) (rest : List Value) (ho : kd o = 5) (hM : CM S y cy ny ry dy (.ref (S.2.1 o) :: As) M (some v) M1) (ii : CIV y cy ny ry n) (hy : RX5 = y.cls) (hw : Cond.methodLink own idx y ∈ tw) (hd : dy + 1 ≤ d) (hn : As.length = n) (hst : st = As.reverse ++ .ref (S.2.1 o) :: rest) (hr : (rest.map fun v => v.category).sum ≤ 8) (dd : decode cc pc = .ok (.invokevirtual idx, 3)) (k : V S X nL M1 (pc + 3) lv (v :: rest)) : V S X nL M pc lv st := v_callV C rest (ci := 5) (q := (RX5, TX5, 6)) rfl hy (ent_5 ho) (kd_lt (by rw [ho]; decide)) hM ii hw hd hn hst hr dd k
theorem cv5v (C : CX S X cc nL own d) (rest : List Value) (ho : kd o = 5) (hM : CM S y cy ny ry dy (.ref (S.2.1 o) :: As) M none M1) (ii : CIV y cy ny ry n) (hy : RX5 = y.cls) (hw : Cond.methodLink own idx y ∈ tw) (hd : dy + 1 ≤ d) (hn : As.length = n) (hst : st = As.reverse ++ .ref (S.2.1 o) :: rest) (hr : (rest.map fun v => v.category).sum ≤ 8) (dd : decode cc pc = .ok (.invokevirtual idx, 3)) (k : V S X nL M1 (pc + 3) lv rest) : V S X nL M pc lv st := v_callV C rest (ci := 5) (q := (RX5, TX5, 6)) rfl hy (ent_5 ho) (kd_lt (by rw [ho]; decide)) hM ii hw hd hn hst hr dd k
theorem cv6 (C : CX S X cc nL own d) (rest : List Value) (ho : kd o = 6) (hM : CM S y cy ny ry dy (.ref (S.2.1 o) :: As) M (some v) M1) (ii : CIV y cy ny ry n) (hy : RX6 = y.cls) (hw : Cond.methodLink own idx y ∈ tw) (hd : dy + 1 ≤ d) (hn : As.length = n) (hst : st = As.reverse ++ .ref (S.2.1 o) :: rest) (hr : (rest.map fun v => v.category).sum ≤ 8) (dd : decode cc pc = .ok (.invokevirtual idx, 3)) (k : V S X nL M1 (pc + 3) lv (v :: rest)) : V S X nL M pc lv st := v_callV C rest (ci := 6) (q := (RX6, TX6, 3)) rfl hy (ent_6 ho) (kd_lt (by rw [ho]; decide)) hM ii hw hd hn hst hr dd k
theorem cv6v (C : CX S X cc nL own d) (rest : List Value) (ho : kd o = 6) (hM : CM S y cy ny ry dy (.ref (S.2.1 o) :: As) M none M1) (ii : CIV y cy ny ry n) (hy : RX6 = y.cls) (hw : Cond.methodLink own idx y ∈ tw) (hd : dy + 1 ≤ d) (hn : As.length = n) (hst : st = As.reverse ++ .ref (S.2.1 o) :: rest) (hr : (rest.map fun v => v.category).sum ≤ 8) (dd : decode cc pc = .ok (.invokevirtual idx, 3)) (k : V S X nL M1 (pc + 3) lv rest) : V S X nL M pc lv st := v_callV C rest (ci := 6) (q := (RX6, TX6, 3)) rfl hy (ent_6 ho) (kd_lt (by rw [ho]; decide)) hM ii hw hd hn hst hr dd k
theorem cv7 (C : CX S X cc nL own d) (rest : List Value) (ho : kd o = 7) (hM : CM S y cy ny ry dy (.ref (S.2.1 o) :: As) M (some v) M1) (ii : CIV y cy ny ry n) (hy : RX7 = y.cls) (hw : Cond.methodLink own idx y ∈ tw) (hd : dy + 1 ≤ d) (hn : As.length = n) (hst : st = As.reverse ++ .ref (S.2.1 o) :: rest) (hr : (rest.map fun v => v.category).sum ≤ 8) (dd : decode cc pc = .ok (.invokevirtual idx, 3)) (k : V S X nL M1 (pc + 3) lv (v :: rest)) : V S X nL M pc lv st := v_callV C rest (ci := 7) (q := (RX7, TX7, 4)) rfl hy (ent_7 ho) (kd_lt (by rw [ho]; decide)) hM ii hw hd hn hst hr dd k
theorem cv7v (C : CX S X cc nL own d) (rest : List Value) (ho : kd o = 7) (hM : CM S y cy ny ry dy (.ref (S.2.1 o) :: As) M none M1) (ii : CIV y cy ny ry n) (hy : RX7 = y.cls) (hw : Cond.methodLink own idx y ∈ tw) (hd : dy + 1 ≤ d) (hn : As.length = n) (hst : st = As.reverse ++ .ref (S.2.1 o) :: rest) (hr : (rest.map fun v => v.category).sum ≤ 8) (dd : decode cc pc = .ok (.invokevirtual idx, 3)) (k : V S X nL M1 (pc + 3) lv rest) : V S X nL M pc lv st := v_callV C rest (ci := 7) (q := (RX7, TX7, 4)) rfl hy (ent_7 ho) (kd_lt (by rw [ho]; decide)) hM ii hw hd hn hst hr dd k
theorem cv8 (C : CX S X cc nL own d) (rest : List Value) (ho : kd o = 8) (hM : CM S y cy ny ry dy (.ref (S.2.1 o) :: As) M (some v) M1) (ii : CIV y cy ny ry n) (hy : RX8 = y.cls) (hw : Cond.methodLink own idx y ∈ tw) (hd : dy + 1 ≤ d) (hn : As.length = n) (hst : st = As.reverse ++ .ref (S.2.1 o) :: rest) (hr : (rest.map fun v => v.category).sum ≤ 8) (dd : decode cc pc = .ok (.invokevirtual idx, 3)) (k : V S X nL M1 (pc + 3) lv (v :: rest)) : V S X nL M pc lv st := v_callV C rest (ci := 8) (q := (RX8, TX8, 4)) rfl hy (ent_8 ho) (kd_lt (by rw [ho]; decide)) hM ii hw hd hn hst hr dd k
theorem cv8v (C : CX S X cc nL own d) (rest : List Value) (ho : kd o = 8) (hM : CM S y cy ny ry dy (.ref (S.2.1 o) :: As) M none M1) (ii : CIV y cy ny ry n) (hy : RX8 = y.cls) (hw : Cond.methodLink own idx y ∈ tw) (hd : dy + 1 ≤ d) (hn : As.length = n) (hst : st = As.reverse ++ .ref (S.2.1 o) :: rest) (hr : (rest.map fun v => v.category).sum ≤ 8) (dd : decode cc pc = .ok (.invokevirtual idx, 3)) (k : V S X nL M1 (pc + 3) lv rest) : V S X nL M pc lv st := v_callV C rest (ci := 8) (q := (RX8, TX8, 4)) rfl hy (ent_8 ho) (kd_lt (by rw [ho]; decide)) hM ii hw hd hn hst hr dd k
theorem cv9 (C : CX S X cc nL own d) (rest : List Value) (ho : kd o = 9) (hM : CM S y cy ny ry dy (.ref (S.2.1 o) :: As) M (some v) M1) (ii : CIV y cy ny ry n) (hy : RX9 = y.cls) (hw : Cond.methodLink own idx y ∈ tw) (hd : dy + 1 ≤ d) (hn : As.length = n) (hst : st = As.reverse ++ .ref (S.2.1 o) :: rest) (hr : (rest.map fun v => v.category).sum ≤ 8) (dd : decode cc pc = .ok (.invokevirtual idx, 3)) (k : V S X nL M1 (pc + 3) lv (v :: rest)) : V S X nL M pc lv st := v_callV C rest (ci := 9) (q := (RX9, TX9, 6)) rfl hy (ent_9 ho) (kd_lt (by rw [ho]; decide)) hM ii hw hd hn hst hr dd k
theorem cv9v (C : CX S X cc nL own d) (rest : List Value) (ho : kd o = 9) (hM : CM S y cy ny ry dy (.ref (S.2.1 o) :: As) M none M1) (ii : CIV y cy ny ry n) (hy : RX9 = y.cls) (hw : Cond.methodLink own idx y ∈ tw) (hd : dy + 1 ≤ d) (hn : As.length = n) (hst : st = As.reverse ++ .ref (S.2.1 o) :: rest) (hr : (rest.map fun v => v.category).sum ≤ 8) (dd : decode cc pc = .ok (.invokevirtual idx, 3)) (k : V S X nL M1 (pc + 3) lv rest) : V S X nL M pc lv st := v_callV C rest (ci := 9) (q := (RX9, TX9, 6)) rfl hy (ent_9 ho) (kd_lt (by rw [ho]; decide)) hM ii hw hd hn hst hr dd k
theorem cv10 (C : CX S X cc nL own d) (rest : List Value) (ho : kd o = 10) (hM : CM S y cy ny ry dy (.ref (S.2.1 o) :: As) M (some v) M1) (ii : CIV y cy ny ry n) (hy : RX10 = y.cls) (hw : Cond.methodLink own idx y ∈ tw) (hd : dy + 1 ≤ d) (hn : As.length = n) (hst : st = As.reverse ++ .ref (S.2.1 o) :: rest) (hr : (rest.map fun v => v.category).sum ≤ 8) (dd : decode cc pc = .ok (.invokevirtual idx, 3)) (k : V S X nL M1 (pc + 3) lv (v :: rest)) : V S X nL M pc lv st := v_callV C rest (ci := 10) (q := (RX10, TX10, 2)) rfl hy (ent_10 ho) (kd_lt (by rw [ho]; decide)) hM ii hw hd hn hst hr dd k
theorem cv10v (C : CX S X cc nL own d) (rest : List Value) (ho : kd o = 10) (hM : CM S y cy ny ry dy (.ref (S.2.1 o) :: As) M none M1) (ii : CIV y cy ny ry n) (hy : RX10 = y.cls) (hw : Cond.methodLink own idx y ∈ tw) (hd : dy + 1 ≤ d) (hn : As.length = n) (hst : st = As.reverse ++ .ref (S.2.1 o) :: rest) (hr : (rest.map fun v => v.category).sum ≤ 8) (dd : decode cc pc = .ok (.invokevirtual idx, 3)) (k : V S X nL M1 (pc + 3) lv rest) : V S X nL M pc lv st := v_callV C rest (ci := 10) (q := (RX10, TX10, 2)) rfl hy (ent_10 ho) (kd_lt (by rw [ho]; decide)) hM ii hw hd hn hst hr dd k
theorem cv11 (C : CX S X cc nL own d) (rest : List Value) (ho : kd o = 11) (hM : CM S y cy ny ry dy (.ref (S.2.1 o) :: As) M (some v) M1) (ii : CIV y cy ny ry n) (hy : RX11 = y.cls) (hw : Cond.methodLink own idx y ∈ tw) (hd : dy + 1 ≤ d) (hn : As.length = n) (hst : st = As.reverse ++ .ref (S.2.1 o) :: rest) (hr : (rest.map fun v => v.category).sum ≤ 8) (dd : decode cc pc = .ok (.invokevirtual idx, 3)) (k : V S X nL M1 (pc + 3) lv (v :: rest)) : V S X nL M pc lv st := v_callV C rest (ci := 11) (q := (RX11, TX11, 9)) rfl hy (ent_11 ho) (kd_lt (by rw [ho]; decide)) hM ii hw hd hn hst hr dd k
theorem cv11v (C : CX S X cc nL own d) (rest : List Value) (ho : kd o = 11) (hM : CM S y cy ny ry dy (.ref (S.2.1 o) :: As) M none M1) (ii : CIV y cy ny ry n) (hy : RX11 = y.cls) (hw : Cond.methodLink own idx y ∈ tw) (hd : dy + 1 ≤ d) (hn : As.length = n) (hst : st = As.reverse ++ .ref (S.2.1 o) :: rest) (hr : (rest.map fun v => v.category).sum ≤ 8) (dd : decode cc pc = .ok (.invokevirtual idx, 3)) (k : V S X nL M1 (pc + 3) lv rest) : V S X nL M pc lv st := v_callV C rest (ci := 11) (q := (RX11, TX11, 9)) rfl hy (ent_11 ho) (kd_lt (by rw [ho]; decide)) hM ii hw hd hn hst hr dd k
theorem cv12 (C : CX S X cc nL own d) (rest : List Value) (ho : kd o = 12) (hM : CM S y cy ny ry dy (.ref (S.2.1 o) :: As) M (some v) M1) (ii : CIV y cy ny ry n) (hy : RX12 = y.cls) (hw : Cond.methodLink own idx y ∈ tw) (hd : dy + 1 ≤ d) (hn : As.length = n) (hst : st = As.reverse ++ .ref (S.2.1 o) :: rest) (hr : (rest.map fun v => v.category).sum ≤ 8) (dd : decode cc pc = .ok (.invokevirtual idx, 3)) (k : V S X nL M1 (pc + 3) lv (v :: rest)) : V S X nL M pc lv st := v_callV C rest (ci := 12) (q := (RX12, TX12, 44)) rfl hy (ent_12 ho) (kd_lt (by rw [ho]; decide)) hM ii hw hd hn hst hr dd k
theorem cv12v (C : CX S X cc nL own d) (rest : List Value) (ho : kd o = 12) (hM : CM S y cy ny ry dy (.ref (S.2.1 o) :: As) M none M1) (ii : CIV y cy ny ry n) (hy : RX12 = y.cls) (hw : Cond.methodLink own idx y ∈ tw) (hd : dy + 1 ≤ d) (hn : As.length = n) (hst : st = As.reverse ++ .ref (S.2.1 o) :: rest) (hr : (rest.map fun v => v.category).sum ≤ 8) (dd : decode cc pc = .ok (.invokevirtual idx, 3)) (k : V S X nL M1 (pc + 3) lv rest) : V S X nL M pc lv st := v_callV C rest (ci := 12) (q := (RX12, TX12, 44)) rfl hy (ent_12 ho) (kd_lt (by rw [ho]; decide)) hM ii hw hd hn hst hr dd k
theorem cs (C : CX S X cc nL own d) (rest : List Value) (hM : CM S y cy ny ry dy As M (some v) M1) (ii : CIS y cy ny ry n) (hw : Cond.methodLink own idx y ∈ tw) (hd : dy + 1 ≤ d) (hn : As.length = n) (hst : st = As.reverse ++ rest) (hr : (rest.map fun v => v.category).sum ≤ 8) (dd : decode cc pc = .ok (.invokestatic idx, 3)) (k : V S X nL M1 (pc + 3) lv (v :: rest)) : V S X nL M pc lv st := v_callS C rest hM ii hw hd hn hst hr dd k
theorem csv (C : CX S X cc nL own d) (rest : List Value) (hM : CM S y cy ny ry dy As M none M1) (ii : CIS y cy ny ry n) (hw : Cond.methodLink own idx y ∈ tw) (hd : dy + 1 ≤ d) (hn : As.length = n) (hst : st = As.reverse ++ rest) (hr : (rest.map fun v => v.category).sum ≤ 8) (dd : decode cc pc = .ok (.invokestatic idx, 3)) (k : V S X nL M1 (pc + 3) lv rest) : V S X nL M pc lv st := v_callS C rest hM ii hw hd hn hst hr dd k
theorem csN (C : CX S X cc nL own d) (rest : List Value) (hM : CM S y cy ny ry dy As M (some v) M1) (ii : CIS y cy ny ry n) (hw : (own, idx, y) ∈ nwL) (hd : dy + 1 ≤ d) (hn : As.length = n) (hst : st = As.reverse ++ rest) (hr : (rest.map fun v => v.category).sum ≤ 8) (dd : decode cc pc = .ok (.invokestatic idx, 3)) (k : V S X nL M1 (pc + 3) lv (v :: rest)) : V S X nL M pc lv st := v_callSN C rest hM ii hw hd hn hst hr dd k
end CV
theorem kk0 : kd 0 = 11 := by decide +kernel
theorem kk1 : kd 1 = 23 := by decide +kernel
theorem kk8 : kd 8 = 24 := by decide +kernel
theorem kk17 : kd 17 = 3 := by decide +kernel
theorem kk18 : kd 18 = 8 := by decide +kernel
theorem kk19 : kd 19 = 20 := by decide +kernel
theorem kk20 : kd 20 = 20 := by decide +kernel
theorem kk21 : kd 21 = 8 := by decide +kernel
theorem kk24 : kd 24 = 7 := by decide +kernel
theorem kk25 : kd 25 = 20 := by decide +kernel
theorem kk26 : kd 26 = 20 := by decide +kernel
theorem kk27 : kd 27 = 1 := by decide +kernel
theorem kk28 : kd 28 = 26 := by decide +kernel
theorem kk43 : kd 43 = 20 := by decide +kernel
theorem kk44 : kd 44 = 25 := by decide +kernel
theorem kk55 : kd 55 = 5 := by decide +kernel
theorem kk63 : kd 63 = 4 := by decide +kernel
theorem kk67 : kd 67 = 5 := by decide +kernel
theorem kk68 : kd 68 = 0 := by decide +kernel
theorem kk71 : kd 71 = 2 := by decide +kernel
theorem kk72 : kd 72 = 20 := by decide +kernel
theorem kk73 : kd 73 = 20 := by decide +kernel
theorem kk75 : kd 75 = 4 := by decide +kernel
theorem kk79 : kd 79 = 5 := by decide +kernel
theorem kk87 : kd 87 = 4 := by decide +kernel
theorem kk91 : kd 91 = 12 := by decide +kernel
theorem kk92 : kd 92 = 20 := by decide +kernel
theorem kk93 : kd 93 = 20 := by decide +kernel
theorem kk94 : kd 94 = 20 := by decide +kernel
theorem kk95 : kd 95 = 20 := by decide +kernel
theorem kk96 : kd 96 = 20 := by decide +kernel
theorem kk97 : kd 97 = 20 := by decide +kernel
theorem kk98 : kd 98 = 20 := by decide +kernel
theorem kk99 : kd 99 = 20 := by decide +kernel
theorem kk100 : kd 100 = 20 := by decide +kernel
theorem kk101 : kd 101 = 20 := by decide +kernel
theorem kk102 : kd 102 = 20 := by decide +kernel
theorem kk103 : kd 103 = 20 := by decide +kernel
theorem kk104 : kd 104 = 20 := by decide +kernel
theorem kk105 : kd 105 = 20 := by decide +kernel
theorem kk106 : kd 106 = 20 := by decide +kernel
theorem kk107 : kd 107 = 20 := by decide +kernel
theorem kk108 : kd 108 = 20 := by decide +kernel
theorem kk109 : kd 109 = 20 := by decide +kernel
theorem kk110 : kd 110 = 20 := by decide +kernel
theorem kk111 : kd 111 = 20 := by decide +kernel
theorem kk112 : kd 112 = 20 := by decide +kernel
theorem kk113 : kd 113 = 20 := by decide +kernel
theorem kk114 : kd 114 = 20 := by decide +kernel
theorem kk115 : kd 115 = 20 := by decide +kernel
theorem kk116 : kd 116 = 20 := by decide +kernel
theorem kk117 : kd 117 = 20 := by decide +kernel
theorem kk118 : kd 118 = 20 := by decide +kernel
theorem kk119 : kd 119 = 22 := by decide +kernel
theorem kk120 : kd 120 = 20 := by decide +kernel
theorem kk121 : kd 121 = 20 := by decide +kernel
theorem kk122 : kd 122 = 20 := by decide +kernel
theorem kk123 : kd 123 = 20 := by decide +kernel
theorem ll19 : ln 19 = 10 := by decide +kernel
theorem ll20 : ln 20 = 10 := by decide +kernel
theorem ll25 : ln 25 = 12 := by decide +kernel
theorem ll26 : ln 26 = 12 := by decide +kernel
theorem ll43 : ln 43 = 14 := by decide +kernel
theorem ll72 : ln 72 = 10 := by decide +kernel
theorem ll73 : ln 73 = 10 := by decide +kernel
theorem ll92 : ln 92 = 3 := by decide +kernel
theorem ll93 : ln 93 = 90 := by decide +kernel
theorem ll94 : ln 94 = 3 := by decide +kernel
theorem ll95 : ln 95 = 2 := by decide +kernel
theorem ll96 : ln 96 = 20 := by decide +kernel
theorem ll97 : ln 97 = 20 := by decide +kernel
theorem ll98 : ln 98 = 12 := by decide +kernel
theorem ll99 : ln 99 = 12 := by decide +kernel
theorem ll100 : ln 100 = 2 := by decide +kernel
theorem ll101 : ln 101 = 20 := by decide +kernel
theorem ll102 : ln 102 = 10 := by decide +kernel
theorem ll103 : ln 103 = 2 := by decide +kernel
theorem ll104 : ln 104 = 400 := by decide +kernel
theorem ll105 : ln 105 = 300 := by decide +kernel
theorem ll106 : ln 106 = 300 := by decide +kernel
theorem ll107 : ln 107 = 300 := by decide +kernel
theorem ll108 : ln 108 = 300 := by decide +kernel
theorem ll109 : ln 109 = 300 := by decide +kernel
theorem ll110 : ln 110 = 300 := by decide +kernel
theorem ll111 : ln 111 = 12 := by decide +kernel
theorem ll112 : ln 112 = 480 := by decide +kernel
theorem ll113 : ln 113 = 480 := by decide +kernel
theorem ll114 : ln 114 = 10 := by decide +kernel
theorem ll115 : ln 115 = 10 := by decide +kernel
theorem ll116 : ln 116 = 10 := by decide +kernel
theorem ll117 : ln 117 = 20 := by decide +kernel
theorem ll118 : ln 118 = 10 := by decide +kernel
theorem ll119 : ln 119 = 4 := by decide +kernel
theorem ll120 : ln 120 = 4 := by decide +kernel
theorem ll121 : ln 121 = 4 := by decide +kernel
theorem ll122 : ln 122 = 240 := by decide +kernel
theorem ll123 : ln 123 = 60 := by decide +kernel
theorem fl_X11_11 : Cond.fieldLink RX11 11 RX11 "texts" "[LUnnestPlans$Text;" ∈ tw := tw_in 394 (by decide +kernel) (by decide +kernel)
theorem fl_X11_17 : Cond.fieldLink RX11 17 RX11 "sheets" "[LUnnestPlans$Sheet;" ∈ tw := tw_in 395 (by decide +kernel) (by decide +kernel)
theorem fl_X11_24 : Cond.fieldLink RX11 24 RX11 "question" "LUnnestPlans$Question;" ∈ tw := tw_in 396 (by decide +kernel) (by decide +kernel)
theorem fl_X11_28 : Cond.fieldLink RX11 28 RX11 "end" "I" ∈ tw := tw_in 400 (by decide +kernel) (by decide +kernel)
theorem fl_X11_32 : Cond.fieldLink RX11 32 RX11 "finding" "I" ∈ tw := tw_in 401 (by decide +kernel) (by decide +kernel)
theorem fl_X11_35 : Cond.fieldLink RX11 35 RX11 "stale" "Z" ∈ tw := tw_in 402 (by decide +kernel) (by decide +kernel)
theorem fl_X11_51 : Cond.fieldLink RX11 51 RX11 "byRow" "LUnnestPlans$Run;" ∈ tw := tw_in 397 (by decide +kernel) (by decide +kernel)
theorem fl_X11_55 : Cond.fieldLink RX11 55 RX11 "byFree" "LUnnestPlans$Run;" ∈ tw := tw_in 398 (by decide +kernel) (by decide +kernel)
theorem fl_X11_58 : Cond.fieldLink RX11 58 RX11 "tried" "LUnnestPlans$Run;" ∈ tw := tw_in 399 (by decide +kernel) (by decide +kernel)
theorem fl_X11_75 : Cond.fieldLink RX11 75 RX10 "size" "I" ∈ tw := tw_in 197 (by decide +kernel) (by decide +kernel)
theorem fl_X11_78 : Cond.fieldLink RX11 78 RX3 "steps" "LUnnestPlans$Steps;" ∈ tw := tw_in 178 (by decide +kernel) (by decide +kernel)
theorem fl_X11_82 : Cond.fieldLink RX11 82 RX7 "fault" "I" ∈ tw := tw_in 160 (by decide +kernel) (by decide +kernel)
theorem fl_X11_91 : Cond.fieldLink RX11 91 RX8 "fault" "I" ∈ tw := tw_in 133 (by decide +kernel) (by decide +kernel)
theorem fl_X11_94 : Cond.fieldLink RX11 94 RX8 "size" "I" ∈ tw := tw_in 131 (by decide +kernel) (by decide +kernel)
theorem fl_X11_95 : Cond.fieldLink RX11 95 RX8 "keys" "[I" ∈ tw := tw_in 123 (by decide +kernel) (by decide +kernel)
theorem fl_X11_99 : Cond.fieldLink RX11 99 RX8 "values" "[I" ∈ tw := tw_in 127 (by decide +kernel) (by decide +kernel)
theorem fl_X11_102 : Cond.fieldLink RX11 102 RX7 "size" "I" ∈ tw := tw_in 158 (by decide +kernel) (by decide +kernel)
theorem fl_X11_103 : Cond.fieldLink RX11 103 RX7 "codes" "[I" ∈ tw := tw_in 152 (by decide +kernel) (by decide +kernel)
theorem fl_X11_106 : Cond.fieldLink RX11 106 RX7 "figures" "[I" ∈ tw := tw_in 155 (by decide +kernel) (by decide +kernel)
theorem fl_X11_119 : Cond.fieldLink RX11 119 RX5 "report" "LUnnestPlans$Report;" ∈ tw := tw_in 377 (by decide +kernel) (by decide +kernel)
theorem fl_X11_123 : Cond.fieldLink RX11 123 RX4 "error" "I" ∈ tw := tw_in 340 (by decide +kernel) (by decide +kernel)
theorem fl_X11_149 : Cond.fieldLink RX11 149 RX5 "pairs" "LUnnestPlans$Pairs;" ∈ tw := tw_in 375 (by decide +kernel) (by decide +kernel)
theorem fl_X11_153 : Cond.fieldLink RX11 153 RX2 "size" "I" ∈ tw := tw_in 318 (by decide +kernel) (by decide +kernel)
theorem fl_X11_159 : Cond.fieldLink RX11 159 RX5 "course" "LUnnestPlans$Course;" ∈ tw := tw_in 373 (by decide +kernel) (by decide +kernel)
theorem fl_X11_188 : Cond.fieldLink RX11 188 RX6 "size" "I" ∈ tw := tw_in 215 (by decide +kernel) (by decide +kernel)
theorem fl_X11_199 : Cond.fieldLink RX11 199 RX6 "items" "[I" ∈ tw := tw_in 210 (by decide +kernel) (by decide +kernel)
theorem fl_X11_202 : Cond.fieldLink RX11 202 RX6 "form" "I" ∈ tw := tw_in 212 (by decide +kernel) (by decide +kernel)
theorem fl_X11_246 : Cond.fieldLink RX11 246 RX3 "outer" "LUnnestPlans$Table;" ∈ tw := tw_in 172 (by decide +kernel) (by decide +kernel)
theorem fl_X11_250 : Cond.fieldLink RX11 250 RX3 "inner" "LUnnestPlans$Table;" ∈ tw := tw_in 175 (by decide +kernel) (by decide +kernel)
theorem fl_X11_270 : Cond.fieldLink RX11 270 RX2 "keys" "[I" ∈ tw := tw_in 310 (by decide +kernel) (by decide +kernel)
theorem fl_X11_271 : Cond.fieldLink RX11 271 RX2 "values" "[I" ∈ tw := tw_in 313 (by decide +kernel) (by decide +kernel)
theorem fl_X11_272 : Cond.fieldLink RX11 272 RX0 "size" "I" ∈ tw := tw_in 290 (by decide +kernel) (by decide +kernel)
theorem fl_X11_273 : Cond.fieldLink RX11 273 RX4 "read" "I" ∈ tw := tw_in 343 (by decide +kernel) (by decide +kernel)
theorem fl_X0_9 : Cond.fieldLink RX0 9 RX0 "codes" "[I" ∈ tw := tw_in 282 (by decide +kernel) (by decide +kernel)
theorem fl_X0_15 : Cond.fieldLink RX0 15 RX0 "figures" "[I" ∈ tw := tw_in 285 (by decide +kernel) (by decide +kernel)
theorem fl_X0_18 : Cond.fieldLink RX0 18 RX0 "size" "I" ∈ tw := tw_in 287 (by decide +kernel) (by decide +kernel)
theorem fl_X0_22 : Cond.fieldLink RX0 22 RX0 "joinAt" "I" ∈ tw := tw_in 291 (by decide +kernel) (by decide +kernel)
theorem fl_X0_28 : Cond.fieldLink RX0 28 RX7 "size" "I" ∈ tw := tw_in 157 (by decide +kernel) (by decide +kernel)
theorem fl_X0_31 : Cond.fieldLink RX0 31 RX7 "codes" "[I" ∈ tw := tw_in 151 (by decide +kernel) (by decide +kernel)
theorem fl_X0_32 : Cond.fieldLink RX0 32 RX7 "figures" "[I" ∈ tw := tw_in 154 (by decide +kernel) (by decide +kernel)
theorem fl_X1_11 : Cond.fieldLink RX1 11 RX1 "rows" "[[I" ∈ tw := tw_in 257 (by decide +kernel) (by decide +kernel)
theorem fl_X1_16 : Cond.fieldLink RX1 16 RX1 "sizes" "[I" ∈ tw := tw_in 259 (by decide +kernel) (by decide +kernel)
theorem fl_X1_22 : Cond.fieldLink RX1 22 RX1 "tallies" "[LUnnestPlans$Tally;" ∈ tw := tw_in 261 (by decide +kernel) (by decide +kernel)
theorem fl_X2_9 : Cond.fieldLink RX2 9 RX2 "keys" "[I" ∈ tw := tw_in 308 (by decide +kernel) (by decide +kernel)
theorem fl_X2_15 : Cond.fieldLink RX2 15 RX2 "values" "[I" ∈ tw := tw_in 311 (by decide +kernel) (by decide +kernel)
theorem fl_X2_18 : Cond.fieldLink RX2 18 RX2 "places" "[I" ∈ tw := tw_in 314 (by decide +kernel) (by decide +kernel)
theorem fl_X2_21 : Cond.fieldLink RX2 21 RX2 "size" "I" ∈ tw := tw_in 316 (by decide +kernel) (by decide +kernel)
theorem fl_X2_31 : Cond.fieldLink RX2 31 RX8 "size" "I" ∈ tw := tw_in 130 (by decide +kernel) (by decide +kernel)
theorem fl_X2_34 : Cond.fieldLink RX2 34 RX8 "keys" "[I" ∈ tw := tw_in 122 (by decide +kernel) (by decide +kernel)
theorem fl_X2_35 : Cond.fieldLink RX2 35 RX8 "values" "[I" ∈ tw := tw_in 126 (by decide +kernel) (by decide +kernel)
theorem fl_X4_9 : Cond.fieldLink RX4 9 RX4 "answers" "[I" ∈ tw := tw_in 334 (by decide +kernel) (by decide +kernel)
theorem fl_X4_15 : Cond.fieldLink RX4 15 RX4 "means" "[F" ∈ tw := tw_in 335 (by decide +kernel) (by decide +kernel)
theorem fl_X4_19 : Cond.fieldLink RX4 19 RX4 "logged" "[I" ∈ tw := tw_in 336 (by decide +kernel) (by decide +kernel)
theorem fl_X4_22 : Cond.fieldLink RX4 22 RX4 "logSize" "I" ∈ tw := tw_in 337 (by decide +kernel) (by decide +kernel)
theorem fl_X4_26 : Cond.fieldLink RX4 26 RX4 "error" "I" ∈ tw := tw_in 338 (by decide +kernel) (by decide +kernel)
theorem fl_X4_29 : Cond.fieldLink RX4 29 RX4 "read" "I" ∈ tw := tw_in 341 (by decide +kernel) (by decide +kernel)
theorem fl_X4_32 : Cond.fieldLink RX4 32 RX4 "handedOn" "I" ∈ tw := tw_in 344 (by decide +kernel) (by decide +kernel)
theorem fl_X4_35 : Cond.fieldLink RX4 35 RX4 "opened" "I" ∈ tw := tw_in 346 (by decide +kernel) (by decide +kernel)
theorem fl_X4_38 : Cond.fieldLink RX4 38 RX4 "open" "I" ∈ tw := tw_in 347 (by decide +kernel) (by decide +kernel)
theorem fl_X4_41 : Cond.fieldLink RX4 41 RX4 "mostOpen" "I" ∈ tw := tw_in 348 (by decide +kernel) (by decide +kernel)
theorem fl_X4_44 : Cond.fieldLink RX4 44 RX0 "size" "I" ∈ tw := tw_in 288 (by decide +kernel) (by decide +kernel)
theorem fl_X4_55 : Cond.fieldLink RX4 55 RX0 "codes" "[I" ∈ tw := tw_in 283 (by decide +kernel) (by decide +kernel)
theorem fl_X5_12 : Cond.fieldLink RX5 12 RX5 "course" "LUnnestPlans$Course;" ∈ tw := tw_in 372 (by decide +kernel) (by decide +kernel)
theorem fl_X5_21 : Cond.fieldLink RX5 21 RX5 "pairs" "LUnnestPlans$Pairs;" ∈ tw := tw_in 374 (by decide +kernel) (by decide +kernel)
theorem fl_X5_28 : Cond.fieldLink RX5 28 RX5 "report" "LUnnestPlans$Report;" ∈ tw := tw_in 376 (by decide +kernel) (by decide +kernel)
theorem fl_X5_33 : Cond.fieldLink RX5 33 RX5 "wanted" "I" ∈ tw := tw_in 379 (by decide +kernel) (by decide +kernel)
theorem fl_X5_37 : Cond.fieldLink RX5 37 RX5 "arrived" "I" ∈ tw := tw_in 380 (by decide +kernel) (by decide +kernel)
theorem fl_X5_40 : Cond.fieldLink RX5 40 RX5 "kept" "LUnnestPlans$Kept;" ∈ tw := tw_in 378 (by decide +kernel) (by decide +kernel)
theorem fl_X5_44 : Cond.fieldLink RX5 44 RX3 "outer" "LUnnestPlans$Table;" ∈ tw := tw_in 171 (by decide +kernel) (by decide +kernel)
theorem fl_X5_50 : Cond.fieldLink RX5 50 RX3 "steps" "LUnnestPlans$Steps;" ∈ tw := tw_in 177 (by decide +kernel) (by decide +kernel)
theorem fl_X5_61 : Cond.fieldLink RX5 61 RX8 "size" "I" ∈ tw := tw_in 129 (by decide +kernel) (by decide +kernel)
theorem fl_X5_66 : Cond.fieldLink RX5 66 RX4 "error" "I" ∈ tw := tw_in 339 (by decide +kernel) (by decide +kernel)
theorem fl_X5_69 : Cond.fieldLink RX5 69 RX8 "keys" "[I" ∈ tw := tw_in 121 (by decide +kernel) (by decide +kernel)
theorem fl_X5_73 : Cond.fieldLink RX5 73 RX8 "values" "[I" ∈ tw := tw_in 125 (by decide +kernel) (by decide +kernel)
theorem fl_X5_83 : Cond.fieldLink RX5 83 RX3 "inner" "LUnnestPlans$Table;" ∈ tw := tw_in 174 (by decide +kernel) (by decide +kernel)
theorem fl_X5_93 : Cond.fieldLink RX5 93 RX1 "tallies" "[LUnnestPlans$Tally;" ∈ tw := tw_in 262 (by decide +kernel) (by decide +kernel)
theorem fl_X5_110 : Cond.fieldLink RX5 110 RX0 "joinAt" "I" ∈ tw := tw_in 292 (by decide +kernel) (by decide +kernel)
theorem fl_X5_130 : Cond.fieldLink RX5 130 RX2 "places" "[I" ∈ tw := tw_in 315 (by decide +kernel) (by decide +kernel)
theorem fl_X5_137 : Cond.fieldLink RX5 137 RX4 "read" "I" ∈ tw := tw_in 342 (by decide +kernel) (by decide +kernel)
theorem fl_X5_140 : Cond.fieldLink RX5 140 RX4 "handedOn" "I" ∈ tw := tw_in 345 (by decide +kernel) (by decide +kernel)
theorem fl_X5_150 : Cond.fieldLink RX5 150 RX0 "size" "I" ∈ tw := tw_in 289 (by decide +kernel) (by decide +kernel)
theorem fl_X5_151 : Cond.fieldLink RX5 151 RX0 "codes" "[I" ∈ tw := tw_in 284 (by decide +kernel) (by decide +kernel)
theorem fl_X5_154 : Cond.fieldLink RX5 154 RX2 "size" "I" ∈ tw := tw_in 317 (by decide +kernel) (by decide +kernel)
theorem fl_X5_155 : Cond.fieldLink RX5 155 RX2 "keys" "[I" ∈ tw := tw_in 309 (by decide +kernel) (by decide +kernel)
theorem fl_X5_156 : Cond.fieldLink RX5 156 RX2 "values" "[I" ∈ tw := tw_in 312 (by decide +kernel) (by decide +kernel)
theorem fl_X5_157 : Cond.fieldLink RX5 157 RX1 "sizes" "[I" ∈ tw := tw_in 260 (by decide +kernel) (by decide +kernel)
theorem fl_X5_160 : Cond.fieldLink RX5 160 RX1 "rows" "[[I" ∈ tw := tw_in 258 (by decide +kernel) (by decide +kernel)
theorem fl_X5_195 : Cond.fieldLink RX5 195 RX0 "figures" "[I" ∈ tw := tw_in 286 (by decide +kernel) (by decide +kernel)
theorem fl_X6_9 : Cond.fieldLink RX6 9 RX6 "items" "[I" ∈ tw := tw_in 208 (by decide +kernel) (by decide +kernel)
theorem fl_X6_15 : Cond.fieldLink RX6 15 RX6 "form" "I" ∈ tw := tw_in 211 (by decide +kernel) (by decide +kernel)
theorem fl_X6_19 : Cond.fieldLink RX6 19 RX6 "size" "I" ∈ tw := tw_in 213 (by decide +kernel) (by decide +kernel)
theorem fl_X7_9 : Cond.fieldLink RX7 9 RX7 "codes" "[I" ∈ tw := tw_in 150 (by decide +kernel) (by decide +kernel)
theorem fl_X7_15 : Cond.fieldLink RX7 15 RX7 "figures" "[I" ∈ tw := tw_in 153 (by decide +kernel) (by decide +kernel)
theorem fl_X7_18 : Cond.fieldLink RX7 18 RX7 "size" "I" ∈ tw := tw_in 156 (by decide +kernel) (by decide +kernel)
theorem fl_X7_22 : Cond.fieldLink RX7 22 RX7 "fault" "I" ∈ tw := tw_in 159 (by decide +kernel) (by decide +kernel)
theorem fl_X7_25 : Cond.fieldLink RX7 25 RX10 "size" "I" ∈ tw := tw_in 195 (by decide +kernel) (by decide +kernel)
theorem fl_X7_28 : Cond.fieldLink RX7 28 RX10 "bytes" "[I" ∈ tw := tw_in 192 (by decide +kernel) (by decide +kernel)
theorem fl_X8_9 : Cond.fieldLink RX8 9 RX8 "keys" "[I" ∈ tw := tw_in 120 (by decide +kernel) (by decide +kernel)
theorem fl_X8_15 : Cond.fieldLink RX8 15 RX8 "values" "[I" ∈ tw := tw_in 124 (by decide +kernel) (by decide +kernel)
theorem fl_X8_18 : Cond.fieldLink RX8 18 RX8 "size" "I" ∈ tw := tw_in 128 (by decide +kernel) (by decide +kernel)
theorem fl_X8_22 : Cond.fieldLink RX8 22 RX8 "fault" "I" ∈ tw := tw_in 132 (by decide +kernel) (by decide +kernel)
theorem fl_X8_29 : Cond.fieldLink RX8 29 RX10 "size" "I" ∈ tw := tw_in 196 (by decide +kernel) (by decide +kernel)
theorem fl_X8_32 : Cond.fieldLink RX8 32 RX10 "bytes" "[I" ∈ tw := tw_in 193 (by decide +kernel) (by decide +kernel)
theorem fl_X9_9 : Cond.fieldLink RX9 9 RX9 "rows" "I" ∈ tw := tw_in 238 (by decide +kernel) (by decide +kernel)
theorem fl_X9_15 : Cond.fieldLink RX9 15 RX9 "present" "I" ∈ tw := tw_in 239 (by decide +kernel) (by decide +kernel)
theorem fl_X9_18 : Cond.fieldLink RX9 18 RX9 "sum" "I" ∈ tw := tw_in 240 (by decide +kernel) (by decide +kernel)
theorem fl_X9_21 : Cond.fieldLink RX9 21 RX9 "least" "I" ∈ tw := tw_in 241 (by decide +kernel) (by decide +kernel)
theorem fl_X9_24 : Cond.fieldLink RX9 24 RX9 "greatest" "I" ∈ tw := tw_in 242 (by decide +kernel) (by decide +kernel)
theorem fl_X9_27 : Cond.fieldLink RX9 27 RX9 "matched" "Z" ∈ tw := tw_in 243 (by decide +kernel) (by decide +kernel)
theorem fl_X10_7 : Cond.fieldLink RX10 7 RX10 "size" "I" ∈ tw := tw_in 194 (by decide +kernel) (by decide +kernel)
theorem fl_X10_13 : Cond.fieldLink RX10 13 RX10 "bytes" "[I" ∈ tw := tw_in 191 (by decide +kernel) (by decide +kernel)
theorem fl_X10_17 : Cond.fieldLink RX10 17 RX6 "size" "I" ∈ tw := tw_in 214 (by decide +kernel) (by decide +kernel)
theorem fl_X10_20 : Cond.fieldLink RX10 20 RX6 "items" "[I" ∈ tw := tw_in 209 (by decide +kernel) (by decide +kernel)
theorem fl_X12_7 : Cond.fieldLink RX12 7 RX12 "typed" "[I" ∈ tw := tw_in 886 (by decide +kernel) (by decide +kernel)
theorem fl_X12_13 : Cond.fieldLink RX12 13 RX12 "texts" "[I" ∈ tw := tw_in 887 (by decide +kernel) (by decide +kernel)
theorem fl_X12_16 : Cond.fieldLink RX12 16 RX12 "faults" "[I" ∈ tw := tw_in 888 (by decide +kernel) (by decide +kernel)
theorem fl_X12_19 : Cond.fieldLink RX12 19 RX12 "rows" "[I" ∈ tw := tw_in 889 (by decide +kernel) (by decide +kernel)
theorem fl_X12_22 : Cond.fieldLink RX12 22 RX12 "ks" "[I" ∈ tw := tw_in 890 (by decide +kernel) (by decide +kernel)
theorem fl_X12_25 : Cond.fieldLink RX12 25 RX12 "vs" "[I" ∈ tw := tw_in 891 (by decide +kernel) (by decide +kernel)
theorem fl_X12_28 : Cond.fieldLink RX12 28 RX12 "kinds" "[I" ∈ tw := tw_in 893 (by decide +kernel) (by decide +kernel)
theorem fl_X12_31 : Cond.fieldLink RX12 31 RX12 "figures" "[I" ∈ tw := tw_in 894 (by decide +kernel) (by decide +kernel)
theorem fl_X12_34 : Cond.fieldLink RX12 34 RX12 "errorAt" "[I" ∈ tw := tw_in 898 (by decide +kernel) (by decide +kernel)
theorem fl_X12_37 : Cond.fieldLink RX12 37 RX12 "answers" "[I" ∈ tw := tw_in 899 (by decide +kernel) (by decide +kernel)
theorem fl_X12_40 : Cond.fieldLink RX12 40 RX12 "costs" "[I" ∈ tw := tw_in 900 (by decide +kernel) (by decide +kernel)
theorem fl_X12_43 : Cond.fieldLink RX12 43 RX12 "logged" "[I" ∈ tw := tw_in 901 (by decide +kernel) (by decide +kernel)
theorem fl_X12_46 : Cond.fieldLink RX12 46 RX12 "logs" "[I" ∈ tw := tw_in 902 (by decide +kernel) (by decide +kernel)
theorem fl_X12_49 : Cond.fieldLink RX12 49 RX12 "rowK" "[I" ∈ tw := tw_in 904 (by decide +kernel) (by decide +kernel)
theorem fl_X12_52 : Cond.fieldLink RX12 52 RX12 "rowV" "[I" ∈ tw := tw_in 905 (by decide +kernel) (by decide +kernel)
theorem fl_X12_55 : Cond.fieldLink RX12 55 RX12 "rowPair" "[I" ∈ tw := tw_in 906 (by decide +kernel) (by decide +kernel)
theorem fl_X12_58 : Cond.fieldLink RX12 58 RX12 "outK" "[I" ∈ tw := tw_in 908 (by decide +kernel) (by decide +kernel)
theorem fl_X12_61 : Cond.fieldLink RX12 61 RX12 "outV" "[I" ∈ tw := tw_in 909 (by decide +kernel) (by decide +kernel)
theorem fl_X12_64 : Cond.fieldLink RX12 64 RX12 "outPair" "[I" ∈ tw := tw_in 910 (by decide +kernel) (by decide +kernel)
theorem fl_X12_67 : Cond.fieldLink RX12 67 RX12 "hadMany" "[I" ∈ tw := tw_in 911 (by decide +kernel) (by decide +kernel)
theorem fl_X12_70 : Cond.fieldLink RX12 70 RX12 "hadK" "[I" ∈ tw := tw_in 912 (by decide +kernel) (by decide +kernel)
theorem fl_X12_73 : Cond.fieldLink RX12 73 RX12 "hadV" "[I" ∈ tw := tw_in 913 (by decide +kernel) (by decide +kernel)
theorem fl_X12_76 : Cond.fieldLink RX12 76 RX12 "pairK" "[I" ∈ tw := tw_in 918 (by decide +kernel) (by decide +kernel)
theorem fl_X12_79 : Cond.fieldLink RX12 79 RX12 "pairV" "[I" ∈ tw := tw_in 919 (by decide +kernel) (by decide +kernel)
theorem fl_X12_82 : Cond.fieldLink RX12 82 RX12 "pairOf" "[I" ∈ tw := tw_in 920 (by decide +kernel) (by decide +kernel)
theorem fl_X12_85 : Cond.fieldLink RX12 85 RX12 "planRow" "[I" ∈ tw := tw_in 922 (by decide +kernel) (by decide +kernel)
theorem fl_X12_88 : Cond.fieldLink RX12 88 RX12 "ownAnswers" "[I" ∈ tw := tw_in 923 (by decide +kernel) (by decide +kernel)
theorem fl_X12_91 : Cond.fieldLink RX12 91 RX12 "isThere" "[Z" ∈ tw := tw_in 924 (by decide +kernel) (by decide +kernel)
theorem fl_X12_95 : Cond.fieldLink RX12 95 RX12 "forms" "[I" ∈ tw := tw_in 925 (by decide +kernel) (by decide +kernel)
theorem fl_X12_98 : Cond.fieldLink RX12 98 RX12 "sizes" "[I" ∈ tw := tw_in 926 (by decide +kernel) (by decide +kernel)
theorem fl_X12_101 : Cond.fieldLink RX12 101 RX12 "items" "[I" ∈ tw := tw_in 927 (by decide +kernel) (by decide +kernel)
theorem fl_X12_104 : Cond.fieldLink RX12 104 RX12 "moved" "[I" ∈ tw := tw_in 928 (by decide +kernel) (by decide +kernel)
theorem fl_X12_145 : Cond.fieldLink RX12 145 RX12 "stepsTold" "I" ∈ tw := tw_in 892 (by decide +kernel) (by decide +kernel)
theorem fl_X12_175 : Cond.fieldLink RX12 175 RX12 "endTold" "I" ∈ tw := tw_in 895 (by decide +kernel) (by decide +kernel)
theorem fl_X12_178 : Cond.fieldLink RX12 178 RX12 "outMany" "I" ∈ tw := tw_in 907 (by decide +kernel) (by decide +kernel)
theorem fl_X12_181 : Cond.fieldLink RX12 181 RX12 "many" "I" ∈ tw := tw_in 903 (by decide +kernel) (by decide +kernel)
theorem fl_X12_184 : Cond.fieldLink RX12 184 RX12 "endNow" "I" ∈ tw := tw_in 896 (by decide +kernel) (by decide +kernel)
theorem fl_X12_190 : Cond.fieldLink RX12 190 RX12 "without" "I" ∈ tw := tw_in 897 (by decide +kernel) (by decide +kernel)
theorem fl_X12_200 : Cond.fieldLink RX12 200 RX12 "handed" "I" ∈ tw := tw_in 914 (by decide +kernel) (by decide +kernel)
theorem fl_X12_207 : Cond.fieldLink RX12 207 RX12 "isOver" "Z" ∈ tw := tw_in 916 (by decide +kernel) (by decide +kernel)
theorem fl_X12_211 : Cond.fieldLink RX12 211 RX12 "readMany" "I" ∈ tw := tw_in 915 (by decide +kernel) (by decide +kernel)
theorem fl_X12_244 : Cond.fieldLink RX12 244 RX12 "pairs" "I" ∈ tw := tw_in 917 (by decide +kernel) (by decide +kernel)
theorem fl_X12_261 : Cond.fieldLink RX12 261 RX12 "planMany" "I" ∈ tw := tw_in 921 (by decide +kernel) (by decide +kernel)
theorem fl_X12_331 : Cond.fieldLink RX12 331 RX12 "finding" "I" ∈ tw := tw_in 929 (by decide +kernel) (by decide +kernel)
theorem lk_X11_61 : Cond.methodLink RX11 61 yX11_within ∈ tw := tw_in 426 (by decide +kernel) (by decide +kernel)
theorem lk_X11_65 : Cond.methodLink RX11 65 yX11_isByte ∈ tw := tw_in 429 (by decide +kernel) (by decide +kernel)
theorem lk_X11_69 : Cond.methodLink RX11 69 yX10_append ∈ tw := tw_in 432 (by decide +kernel) (by decide +kernel)
theorem lk_X11_72 : Cond.methodLink RX11 72 yX11_understand ∈ tw := tw_in 436 (by decide +kernel) (by decide +kernel)
theorem lk_X11_87 : Cond.methodLink RX11 87 yX11_tableOf ∈ tw := tw_in 454 (by decide +kernel) (by decide +kernel)
theorem lk_X11_109 : Cond.methodLink RX11 109 yX11_isPlan ∈ tw := tw_in 497 (by decide +kernel) (by decide +kernel)
theorem lk_X11_112 : Cond.methodLink RX11 112 yX11_refresh ∈ tw := tw_in 500 (by decide +kernel) (by decide +kernel)
theorem lk_X11_115 : Cond.methodLink RX11 115 yX11_runOf ∈ tw := tw_in 683 (by decide +kernel) (by decide +kernel)
theorem lk_X11_128 : Cond.methodLink RX11 128 yX11_hosts ∈ tw := tw_in 691 (by decide +kernel) (by decide +kernel)
theorem lk_X11_132 : Cond.methodLink RX11 132 yX4_answerOf ∈ tw := tw_in 695 (by decide +kernel) (by decide +kernel)
theorem lk_X11_136 : Cond.methodLink RX11 136 yX11_sameBit ∈ tw := tw_in 703 (by decide +kernel) (by decide +kernel)
theorem lk_X11_139 : Cond.methodLink RX11 139 yX4_together ∈ tw := tw_in 715 (by decide +kernel) (by decide +kernel)
theorem lk_X11_143 : Cond.methodLink RX11 143 yX7_speakingBits ∈ tw := tw_in 724 (by decide +kernel) (by decide +kernel)
theorem lk_X11_146 : Cond.methodLink RX11 146 yX11_endSpeaks ∈ tw := tw_in 728 (by decide +kernel) (by decide +kernel)
theorem lk_X11_156 : Cond.methodLink RX11 156 yX11_pairPart ∈ tw := tw_in 733 (by decide +kernel) (by decide +kernel)
theorem lk_X11_163 : Cond.methodLink RX11 163 yX0_codeAt ∈ tw := tw_in 741 (by decide +kernel) (by decide +kernel)
theorem lk_X11_168 : Cond.methodLink RX11 168 yX4_costOf ∈ tw := tw_in 750 (by decide +kernel) (by decide +kernel)
theorem lk_X11_171 : Cond.methodLink RX11 171 yX4_loggedAt ∈ tw := tw_in 758 (by decide +kernel) (by decide +kernel)
theorem lk_X11_174 : Cond.methodLink RX11 174 yX11_spareBits ∈ tw := tw_in 767 (by decide +kernel) (by decide +kernel)
theorem lk_X11_177 : Cond.methodLink RX11 177 yX11_found ∈ tw := tw_in 775 (by decide +kernel) (by decide +kernel)
theorem lk_X11_180 : Cond.methodLink RX11 180 yX6_renew ∈ tw := tw_in 779 (by decide +kernel) (by decide +kernel)
theorem lk_X11_184 : Cond.methodLink RX11 184 yX6_isLost ∈ tw := tw_in 788 (by decide +kernel) (by decide +kernel)
theorem lk_X11_189 : Cond.methodLink RX11 189 yX6_forget ∈ tw := tw_in 792 (by decide +kernel) (by decide +kernel)
theorem lk_X11_192 : Cond.methodLink RX11 192 yX6_findingAt ∈ tw := tw_in 800 (by decide +kernel) (by decide +kernel)
theorem lk_X11_195 : Cond.methodLink RX11 195 yX6_assign ∈ tw := tw_in 806 (by decide +kernel) (by decide +kernel)
theorem lk_X11_205 : Cond.methodLink RX11 205 yX6_hasRange ∈ tw := tw_in 819 (by decide +kernel) (by decide +kernel)
theorem lk_X11_214 : Cond.methodLink RX11 214 yJ9_min_7cf53 ∈ tw := tw_in 830 (by decide +kernel) (by decide +kernel)
theorem lk_X11_219 : Cond.methodLink RX11 219 yX10_appendFrom ∈ tw := tw_in 837 (by decide +kernel) (by decide +kernel)
theorem lk_X11_223 : Cond.methodLink RX11 223 yX11_counted ∈ tw := tw_in 847 (by decide +kernel) (by decide +kernel)
theorem lk_X11_228 : Cond.methodLink RX11 228 yX11_mix ∈ tw := tw_in 856 (by decide +kernel) (by decide +kernel)
theorem lk_X11_232 : Cond.methodLink RX11 232 yX11_mixTexts ∈ tw := tw_in 860 (by decide +kernel) (by decide +kernel)
theorem lk_X11_236 : Cond.methodLink RX11 236 yX11_speaks ∈ tw := tw_in 867 (by decide +kernel) (by decide +kernel)
theorem lk_X11_239 : Cond.methodLink RX11 239 yX11_mixReport ∈ tw := tw_in 868 (by decide +kernel) (by decide +kernel)
theorem lk_X11_243 : Cond.methodLink RX11 243 yX11_mixEnds ∈ tw := tw_in 876 (by decide +kernel) (by decide +kernel)
theorem lk_X11_253 : Cond.methodLink RX11 253 yX7_parse ∈ tw := tw_in 440 (by decide +kernel) (by decide +kernel)
theorem lk_X11_257 : Cond.methodLink RX11 257 yX8_parse ∈ tw := tw_in 458 (by decide +kernel) (by decide +kernel)
theorem lk_X11_258 : Cond.methodLink RX11 258 yX5_askRowByRow ∈ tw := tw_in 504 (by decide +kernel) (by decide +kernel)
theorem lk_X11_262 : Cond.methodLink RX11 262 yX5_askFree ∈ tw := tw_in 642 (by decide +kernel) (by decide +kernel)
theorem lk_X11_266 : Cond.methodLink RX11 266 yX4_isLike ∈ tw := tw_in 707 (by decide +kernel) (by decide +kernel)
theorem lk_X11_278 : Cond.methodLink RX11 278 yX11_fault ∈ tw := tw_in 864 (by decide +kernel) (by decide +kernel)
theorem lk_X11_280 : Cond.methodLink RX11 280 yX11_row ∈ tw := tw_in 865 (by decide +kernel) (by decide +kernel)
theorem lk_X11_284 : Cond.methodLink RX11 284 yX11_step ∈ tw := tw_in 866 (by decide +kernel) (by decide +kernel)
theorem lk_X11_287 : Cond.methodLink RX11 287 yX11_mixAnswers ∈ tw := tw_in 872 (by decide +kernel) (by decide +kernel)
theorem lk_X0_25 : Cond.methodLink RX0 25 yX0_begin ∈ tw := tw_in 512 (by decide +kernel) (by decide +kernel)
theorem lk_X0_33 : Cond.methodLink RX0 33 yX0_add ∈ tw := tw_in 516 (by decide +kernel) (by decide +kernel)
theorem lk_X0_37 : Cond.methodLink RX0 37 yX7_firstSpeaking ∈ tw := tw_in 650 (by decide +kernel) (by decide +kernel)
theorem lk_X0_41 : Cond.methodLink RX0 41 yX0_addJoin ∈ tw := tw_in 658 (by decide +kernel) (by decide +kernel)
theorem lk_X0_45 : (RX0, 45, yX11_endSpeaks) ∈ nwL := by decide +kernel
theorem lk_X0_49 : (RX0, 49, yX11_within) ∈ nwL := by decide +kernel
theorem lk_X1_27 : Cond.methodLink RX1 27 yJ7_fill_53178 ∈ tw := tw_in 536 (by decide +kernel) (by decide +kernel)
theorem lk_X1_33 : Cond.methodLink RX1 33 yX9_clear ∈ tw := tw_in 539 (by decide +kernel) (by decide +kernel)
theorem lk_X2_25 : Cond.methodLink RX2 25 yJ7_fill_53178 ∈ tw := tw_in 669 (by decide +kernel) (by decide +kernel)
theorem lk_X2_36 : Cond.methodLink RX2 36 yX2_placeOf ∈ tw := tw_in 679 (by decide +kernel) (by decide +kernel)
theorem lk_X4_49 : Cond.methodLink RX4 49 yJ9_max_7cf53 ∈ tw := tw_in 547 (by decide +kernel) (by decide +kernel)
theorem lk_X4_58 : Cond.methodLink RX4 58 yX4_tell ∈ tw := tw_in 550 (by decide +kernel) (by decide +kernel)
theorem lk_X4_62 : Cond.methodLink RX4 62 yX9_isError ∈ tw := tw_in 617 (by decide +kernel) (by decide +kernel)
theorem lk_X4_68 : Cond.methodLink RX4 68 yX9_outcome ∈ tw := tw_in 621 (by decide +kernel) (by decide +kernel)
theorem lk_X4_71 : Cond.methodLink RX4 71 yX9_mean ∈ tw := tw_in 637 (by decide +kernel) (by decide +kernel)
theorem lk_X4_75 : (RX4, 75, yX11_within) ∈ nwL := by decide +kernel
theorem lk_X4_79 : (RX4, 79, yX11_bitsOf) ∈ nwL := by decide +kernel
theorem lk_X5_54 : Cond.methodLink RX5 54 yX0_layRowByRow ∈ tw := tw_in 508 (by decide +kernel) (by decide +kernel)
theorem lk_X5_58 : Cond.methodLink RX5 58 yX4_clear ∈ tw := tw_in 520 (by decide +kernel) (by decide +kernel)
theorem lk_X5_76 : Cond.methodLink RX5 76 yX2_setOne ∈ tw := tw_in 524 (by decide +kernel) (by decide +kernel)
theorem lk_X5_80 : Cond.methodLink RX5 80 yX5_begin ∈ tw := tw_in 528 (by decide +kernel) (by decide +kernel)
theorem lk_X5_86 : Cond.methodLink RX5 86 yX5_readInner ∈ tw := tw_in 554 (by decide +kernel) (by decide +kernel)
theorem lk_X5_90 : Cond.methodLink RX5 90 yX5_handOnKept ∈ tw := tw_in 609 (by decide +kernel) (by decide +kernel)
theorem lk_X5_99 : Cond.methodLink RX5 99 yX4_settle ∈ tw := tw_in 613 (by decide +kernel) (by decide +kernel)
theorem lk_X5_103 : Cond.methodLink RX5 103 yX4_shutAll ∈ tw := tw_in 638 (by decide +kernel) (by decide +kernel)
theorem lk_X5_107 : Cond.methodLink RX5 107 yX0_layFree ∈ tw := tw_in 646 (by decide +kernel) (by decide +kernel)
theorem lk_X5_113 : Cond.methodLink RX5 113 yX2_setNone ∈ tw := tw_in 665 (by decide +kernel) (by decide +kernel)
theorem lk_X5_116 : (RX5, 116, yX11_endSpeaks) ∈ nwL := by decide +kernel
theorem lk_X5_120 : Cond.methodLink RX5 120 yX7_hasUnion ∈ tw := tw_in 671 (by decide +kernel) (by decide +kernel)
theorem lk_X5_126 : Cond.methodLink RX5 126 yX2_gather ∈ tw := tw_in 675 (by decide +kernel) (by decide +kernel)
theorem lk_X5_133 : Cond.methodLink RX5 133 yX1_clear ∈ tw := tw_in 532 (by decide +kernel) (by decide +kernel)
theorem lk_X5_134 : Cond.methodLink RX5 134 yX4_openAll ∈ tw := tw_in 543 (by decide +kernel) (by decide +kernel)
theorem lk_X5_143 : Cond.methodLink RX5 143 yX5_packed ∈ tw := tw_in 558 (by decide +kernel) (by decide +kernel)
theorem lk_X5_147 : Cond.methodLink RX5 147 yX5_feed ∈ tw := tw_in 561 (by decide +kernel) (by decide +kernel)
theorem lk_X5_164 : Cond.methodLink RX5 164 yX5_pass ∈ tw := tw_in 565 (by decide +kernel) (by decide +kernel)
theorem lk_X5_167 : Cond.methodLink RX5 167 yX5_arrive ∈ tw := tw_in 592 (by decide +kernel) (by decide +kernel)
theorem lk_X5_171 : Cond.methodLink RX5 171 yX5_joins ∈ tw := tw_in 605 (by decide +kernel) (by decide +kernel)
theorem lk_X5_175 : Cond.methodLink RX5 175 yX5_keyOf ∈ tw := tw_in 573 (by decide +kernel) (by decide +kernel)
theorem lk_X5_179 : Cond.methodLink RX5 179 yX5_through ∈ tw := tw_in 569 (by decide +kernel) (by decide +kernel)
theorem lk_X5_183 : Cond.methodLink RX5 183 yX5_valueOf ∈ tw := tw_in 576 (by decide +kernel) (by decide +kernel)
theorem lk_X5_186 : Cond.methodLink RX5 186 yX2_keyAt ∈ tw := tw_in 579 (by decide +kernel) (by decide +kernel)
theorem lk_X5_189 : Cond.methodLink RX5 189 yX1_isNew ∈ tw := tw_in 583 (by decide +kernel) (by decide +kernel)
theorem lk_X5_192 : Cond.methodLink RX5 192 yX1_addToGroup ∈ tw := tw_in 587 (by decide +kernel) (by decide +kernel)
theorem lk_X5_198 : (RX5, 198, yX11_within) ∈ nwL := by decide +kernel
theorem lk_X5_201 : Cond.methodLink RX5 201 yX2_valueAt ∈ tw := tw_in 597 (by decide +kernel) (by decide +kernel)
theorem lk_X5_204 : Cond.methodLink RX5 204 yX9_take ∈ tw := tw_in 601 (by decide +kernel) (by decide +kernel)
theorem lk_X6_22 : Cond.methodLink RX6 22 yJ7_fill_53178 ∈ tw := tw_in 783 (by decide +kernel) (by decide +kernel)
theorem lk_X6_28 : Cond.methodLink RX6 28 yX6_isLost ∈ tw := tw_in 804 (by decide +kernel) (by decide +kernel)
theorem lk_X6_32 : (RX6, 32, yX11_within) ∈ nwL := by decide +kernel
theorem lk_X7_31 : Cond.methodLink RX7 31 yX7_codeOf ∈ tw := tw_in 444 (by decide +kernel) (by decide +kernel)
theorem lk_X7_35 : Cond.methodLink RX7 35 yX7_add ∈ tw := tw_in 447 (by decide +kernel) (by decide +kernel)
theorem lk_X7_39 : (RX7, 39, yX11_isFigure) ∈ nwL := by decide +kernel
theorem lk_X7_43 : Cond.methodLink RX7 43 yX7_speaksAt ∈ tw := tw_in 654 (by decide +kernel) (by decide +kernel)
theorem lk_X8_25 : Cond.methodLink RX8 25 yX8_firstWrong ∈ tw := tw_in 462 (by decide +kernel) (by decide +kernel)
theorem lk_X8_35 : Cond.methodLink RX8 35 yX8_valueOf ∈ tw := tw_in 466 (by decide +kernel) (by decide +kernel)
theorem lk_X8_39 : (RX8, 39, yX11_isFigure) ∈ nwL := by decide +kernel
theorem lk_X9_31 : Cond.methodLink RX9 31 yX9_mean ∈ tw := tw_in 625 (by decide +kernel) (by decide +kernel)
theorem lk_X9_35 : (RX9, 35, yX11_bitsOf) ∈ nwL := by decide +kernel
theorem lk_X9_39 : Cond.methodLink RX9 39 yX9_isIn ∈ tw := tw_in 633 (by decide +kernel) (by decide +kernel)
theorem lk_X10_23 : (RX10, 23, yX11_isByte) ∈ nwL := by decide +kernel
theorem lk_X10_29 : Cond.methodLink RX10 29 yX10_append ∈ tw := tw_in 842 (by decide +kernel) (by decide +kernel)
theorem lk_X12_107 : Cond.methodLink RX12 107 yX12_in ∈ tw := tw_in 1027 (by decide +kernel) (by decide +kernel)
theorem lk_X12_116 : Cond.methodLink RX12 116 yX12_bitsOf ∈ tw := tw_in 1177 (by decide +kernel) (by decide +kernel)
theorem lk_X12_121 : Cond.methodLink RX12 121 yX12_isText ∈ tw := tw_in 1024 (by decide +kernel) (by decide +kernel)
theorem lk_X12_125 : Cond.methodLink RX12 125 yX12_roomOf ∈ tw := tw_in 1030 (by decide +kernel) (by decide +kernel)
theorem lk_X12_129 : Cond.methodLink RX12 129 yX12_isSheet ∈ tw := tw_in 1045 (by decide +kernel) (by decide +kernel)
theorem lk_X12_132 : Cond.methodLink RX12 132 yX12_meets ∈ tw := tw_in 1048 (by decide +kernel) (by decide +kernel)
theorem lk_X12_135 : Cond.methodLink RX12 135 yX12_type ∈ tw := tw_in 1052 (by decide +kernel) (by decide +kernel)
theorem lk_X12_139 : Cond.methodLink RX12 139 yX12_byteAt ∈ tw := tw_in 1073 (by decide +kernel) (by decide +kernel)
theorem lk_X12_142 : Cond.methodLink RX12 142 yX12_valueAt ∈ tw := tw_in 1069 (by decide +kernel) (by decide +kernel)
theorem lk_X12_149 : Cond.methodLink RX12 149 yX12_kindOf ∈ tw := tw_in 1081 (by decide +kernel) (by decide +kernel)
theorem lk_X12_152 : Cond.methodLink RX12 152 yX12_readsTable ∈ tw := tw_in 1065 (by decide +kernel) (by decide +kernel)
theorem lk_X12_155 : Cond.methodLink RX12 155 yX12_readsSteps ∈ tw := tw_in 1077 (by decide +kernel) (by decide +kernel)
theorem lk_X12_159 : Cond.methodLink RX12 159 yX12_reads ∈ tw := tw_in 1061 (by decide +kernel) (by decide +kernel)
theorem lk_X12_162 : Cond.methodLink RX12 162 yX12_faultOf ∈ tw := tw_in 1057 (by decide +kernel) (by decide +kernel)
theorem lk_X12_165 : Cond.methodLink RX12 165 yX12_isTwo ∈ tw := tw_in 1088 (by decide +kernel) (by decide +kernel)
theorem lk_X12_168 : Cond.methodLink RX12 168 yX12_rowOf ∈ tw := tw_in 1091 (by decide +kernel) (by decide +kernel)
theorem lk_X12_172 : Cond.methodLink RX12 172 yX12_stepOf ∈ tw := tw_in 1099 (by decide +kernel) (by decide +kernel)
theorem lk_X12_187 : Cond.methodLink RX12 187 yX12_divided ∈ tw := tw_in 1174 (by decide +kernel) (by decide +kernel)
theorem lk_X12_193 : Cond.methodLink RX12 193 yX12_stays ∈ tw := tw_in 1155 (by decide +kernel) (by decide +kernel)
theorem lk_X12_197 : Cond.methodLink RX12 197 yX12_isNew ∈ tw := tw_in 1158 (by decide +kernel) (by decide +kernel)
theorem lk_X12_203 : Cond.methodLink RX12 203 yX12_puts ∈ tw := tw_in 1162 (by decide +kernel) (by decide +kernel)
theorem lk_X12_214 : Cond.methodLink RX12 214 yX12_goes ∈ tw := tw_in 1151 (by decide +kernel) (by decide +kernel)
theorem lk_X12_218 : Cond.methodLink RX12 218 yX12_comesOfInner ∈ tw := tw_in 1143 (by decide +kernel) (by decide +kernel)
theorem lk_X12_221 : Cond.methodLink RX12 221 yX12_goThrough ∈ tw := tw_in 1147 (by decide +kernel) (by decide +kernel)
theorem lk_X12_225 : Cond.methodLink RX12 225 yX12_groups ∈ tw := tw_in 1166 (by decide +kernel) (by decide +kernel)
theorem lk_X12_228 : Cond.methodLink RX12 228 yX12_logs ∈ tw := tw_in 1135 (by decide +kernel) (by decide +kernel)
theorem lk_X12_231 : Cond.methodLink RX12 231 yX12_begins ∈ tw := tw_in 1127 (by decide +kernel) (by decide +kernel)
theorem lk_X12_235 : Cond.methodLink RX12 235 yX12_opens ∈ tw := tw_in 1131 (by decide +kernel) (by decide +kernel)
theorem lk_X12_238 : Cond.methodLink RX12 238 yX12_asksFor ∈ tw := tw_in 1139 (by decide +kernel) (by decide +kernel)
theorem lk_X12_241 : Cond.methodLink RX12 241 yX12_answerOf ∈ tw := tw_in 1170 (by decide +kernel) (by decide +kernel)
theorem lk_X12_247 : Cond.methodLink RX12 247 yX12_speaksNow ∈ tw := tw_in 1191 (by decide +kernel) (by decide +kernel)
theorem lk_X12_250 : Cond.methodLink RX12 250 yX12_isOfV ∈ tw := tw_in 1195 (by decide +kernel) (by decide +kernel)
theorem lk_X12_254 : Cond.methodLink RX12 254 yX12_isIn ∈ tw := tw_in 1207 (by decide +kernel) (by decide +kernel)
theorem lk_X12_258 : Cond.methodLink RX12 258 yX12_joinAt ∈ tw := tw_in 1203 (by decide +kernel) (by decide +kernel)
theorem lk_X12_264 : Cond.methodLink RX12 264 yX12_isLike ∈ tw := tw_in 1222 (by decide +kernel) (by decide +kernel)
theorem lk_X12_267 : Cond.methodLink RX12 267 yX12_findsDomain ∈ tw := tw_in 1187 (by decide +kernel) (by decide +kernel)
theorem lk_X12_270 : Cond.methodLink RX12 270 yX12_plans ∈ tw := tw_in 1199 (by decide +kernel) (by decide +kernel)
theorem lk_X12_273 : Cond.methodLink RX12 273 yX12_joins ∈ tw := tw_in 1210 (by decide +kernel) (by decide +kernel)
theorem lk_X12_277 : Cond.methodLink RX12 277 yX12_comesIn ∈ tw := tw_in 1214 (by decide +kernel) (by decide +kernel)
theorem lk_X12_280 : Cond.methodLink RX12 280 yX12_does ∈ tw := tw_in 1218 (by decide +kernel) (by decide +kernel)
theorem lk_X12_283 : Cond.methodLink RX12 283 yX12_rowByRow ∈ tw := tw_in 1123 (by decide +kernel) (by decide +kernel)
theorem lk_X12_286 : Cond.methodLink RX12 286 yX12_free ∈ tw := tw_in 1183 (by decide +kernel) (by decide +kernel)
theorem lk_X12_289 : Cond.methodLink RX12 289 yX12_runs ∈ tw := tw_in 1119 (by decide +kernel) (by decide +kernel)
theorem lk_X12_292 : Cond.methodLink RX12 292 yX12_runsTold ∈ tw := tw_in 1115 (by decide +kernel) (by decide +kernel)
theorem lk_X12_295 : Cond.methodLink RX12 295 yX12_errorOf ∈ tw := tw_in 1111 (by decide +kernel) (by decide +kernel)
theorem lk_X12_298 : Cond.methodLink RX12 298 yX12_answerNow ∈ tw := tw_in 1234 (by decide +kernel) (by decide +kernel)
theorem lk_X12_301 : Cond.methodLink RX12 301 yX12_answerFor ∈ tw := tw_in 1230 (by decide +kernel) (by decide +kernel)
theorem lk_X12_304 : Cond.methodLink RX12 304 yX12_sameOf ∈ tw := tw_in 1242 (by decide +kernel) (by decide +kernel)
theorem lk_X12_307 : Cond.methodLink RX12 307 yX12_added ∈ tw := tw_in 1254 (by decide +kernel) (by decide +kernel)
theorem lk_X12_310 : Cond.methodLink RX12 310 yX12_totalOf ∈ tw := tw_in 1250 (by decide +kernel) (by decide +kernel)
theorem lk_X12_313 : Cond.methodLink RX12 313 yX12_speaksOf ∈ tw := tw_in 1262 (by decide +kernel) (by decide +kernel)
theorem lk_X12_316 : Cond.methodLink RX12 316 yX12_domainOf ∈ tw := tw_in 1270 (by decide +kernel) (by decide +kernel)
theorem lk_X12_319 : Cond.methodLink RX12 319 yX12_planOf ∈ tw := tw_in 1278 (by decide +kernel) (by decide +kernel)
theorem lk_X12_322 : Cond.methodLink RX12 322 yX12_costOf ∈ tw := tw_in 1286 (by decide +kernel) (by decide +kernel)
theorem lk_X12_325 : Cond.methodLink RX12 325 yX12_logOf ∈ tw := tw_in 1294 (by decide +kernel) (by decide +kernel)
theorem lk_X12_328 : Cond.methodLink RX12 328 yX12_spareOf ∈ tw := tw_in 1302 (by decide +kernel) (by decide +kernel)
theorem lk_X12_334 : Cond.methodLink RX12 334 yX12_lacks ∈ tw := tw_in 1318 (by decide +kernel) (by decide +kernel)
theorem lk_X12_337 : Cond.methodLink RX12 337 yX12_keep ∈ tw := tw_in 1322 (by decide +kernel) (by decide +kernel)
theorem lk_X12_341 : Cond.methodLink RX12 341 yX12_tellOf ∈ tw := tw_in 1343 (by decide +kernel) (by decide +kernel)
theorem lk_X12_346 : Cond.methodLink RX12 346 yX12_answerDigest ∈ tw := tw_in 1358 (by decide +kernel) (by decide +kernel)
theorem lk_X12_352 : Cond.methodLink RX12 352 yX12_count ∈ tw := tw_in 1353 (by decide +kernel) (by decide +kernel)
theorem lk_X12_355 : Cond.methodLink RX12 355 yX12_planDigest ∈ tw := tw_in 1354 (by decide +kernel) (by decide +kernel)
theorem kc_X11_198 : Cond.constant RX11 198 (-2147483648) ∈ tw := tw_in 814 (by decide +kernel) (by decide +kernel)
theorem kc_X11_226 : Cond.constantLong RX11 226 17 ∈ tw := tw_in 855 (by decide +kernel) (by decide +kernel)
theorem kc_X11_276 : Cond.constantLong RX11 276 31 ∈ tw := tw_in 859 (by decide +kernel) (by decide +kernel)
theorem kc_X11_290 : Cond.constantFloat RX11 290 1258291200 ∈ tw := tw_in 632 (by decide +kernel) (by decide +kernel)
theorem kc_X1_36 : Cond.constant RX1 36 (-1048321) ∈ tw := tw_in 591 (by decide +kernel) (by decide +kernel)
theorem kc_X5_32 : Cond.constant RX5 32 1000000 ∈ tw := tw_in 371 (by decide +kernel) (by decide +kernel)
theorem kc_X12_111 : Cond.constantLong RX12 111 16777216 ∈ tw := tw_in 1180 (by decide +kernel) (by decide +kernel)
theorem kc_X12_113 : Cond.constantLong RX12 113 8388608 ∈ tw := tw_in 1181 (by decide +kernel) (by decide +kernel)
theorem kc_X12_115 : Cond.constant RX12 115 8388607 ∈ tw := tw_in 1182 (by decide +kernel) (by decide +kernel)
theorem kc_X12_120 : Cond.constant RX12 120 8388608 ∈ tw := tw_in 1257 (by decide +kernel) (by decide +kernel)
theorem kc_X12_340 : Cond.constant RX12 340 (-2147483648) ∈ tw := tw_in 1330 (by decide +kernel) (by decide +kernel)
theorem kc_X12_344 : Cond.constantLong RX12 344 31 ∈ tw := tw_in 1352 (by decide +kernel) (by decide +kernel)
theorem kc_X12_350 : Cond.constantLong RX12 350 17 ∈ tw := tw_in 1351 (by decide +kernel) (by decide +kernel)
theorem ci_Course_add : CIV yX0_add cX0_add 3 none 2 := ⟨tw_in 519 (by decide +kernel) (by decide +kernel), tw_in 89 (by decide +kernel) (by decide +kernel), tw_in 518 (by decide +kernel) (by decide +kernel), tw_in 5 (by decide +kernel) (by decide +kernel), by decide, by decide +kernel, by decide +kernel, by decide +kernel⟩
theorem ci_Course_begin : CIV yX0_begin cX0_begin 1 none 0 := ⟨tw_in 515 (by decide +kernel) (by decide +kernel), tw_in 89 (by decide +kernel) (by decide +kernel), tw_in 514 (by decide +kernel) (by decide +kernel), tw_in 4 (by decide +kernel) (by decide +kernel), by decide, by decide +kernel, by decide +kernel, by decide +kernel⟩
theorem ci_Course_layRowByRow : CIV yX0_layRowByRow cX0_layRowByRow 4 none 2 := ⟨tw_in 511 (by decide +kernel) (by decide +kernel), tw_in 89 (by decide +kernel) (by decide +kernel), tw_in 509 (by decide +kernel) (by decide +kernel), tw_in 510 (by decide +kernel) (by decide +kernel), by decide, by decide +kernel, by decide +kernel, by decide +kernel⟩
theorem ci_Steps_speaksAt : CIV yX7_speaksAt cX7_speaksAt 2 (some .boolean) 1 := ⟨tw_in 657 (by decide +kernel) (by decide +kernel), tw_in 83 (by decide +kernel) (by decide +kernel), tw_in 656 (by decide +kernel) (by decide +kernel), tw_in 16 (by decide +kernel) (by decide +kernel), by decide, by decide +kernel, by decide +kernel, by decide +kernel⟩
theorem ci_Steps_firstSpeaking : CIV yX7_firstSpeaking cX7_firstSpeaking 2 (some .int) 0 := ⟨tw_in 653 (by decide +kernel) (by decide +kernel), tw_in 83 (by decide +kernel) (by decide +kernel), tw_in 651 (by decide +kernel) (by decide +kernel), tw_in 652 (by decide +kernel) (by decide +kernel), by decide, by decide +kernel, by decide +kernel, by decide +kernel⟩
theorem ci_Course_addJoin : CIV yX0_addJoin cX0_addJoin 2 none 1 := ⟨tw_in 661 (by decide +kernel) (by decide +kernel), tw_in 89 (by decide +kernel) (by decide +kernel), tw_in 660 (by decide +kernel) (by decide +kernel), tw_in 17 (by decide +kernel) (by decide +kernel), by decide, by decide +kernel, by decide +kernel, by decide +kernel⟩
theorem ci_U_endSpeaks : CIS yX11_endSpeaks cX11_endSpeaks 1 (some .boolean) 1 := ⟨tw_in 664 (by decide +kernel) (by decide +kernel), tw_in 80 (by decide +kernel) (by decide +kernel), tw_in 663 (by decide +kernel) (by decide +kernel), by decide, by decide +kernel, by decide +kernel, by decide +kernel⟩
theorem ci_Course_layFree : CIV yX0_layFree cX0_layFree 6 none 2 := ⟨tw_in 649 (by decide +kernel) (by decide +kernel), tw_in 89 (by decide +kernel) (by decide +kernel), tw_in 647 (by decide +kernel) (by decide +kernel), tw_in 648 (by decide +kernel) (by decide +kernel), by decide, by decide +kernel, by decide +kernel, by decide +kernel⟩
theorem ci_U_within : CIS yX11_within cX11_within 2 (some .boolean) 2 := ⟨tw_in 428 (by decide +kernel) (by decide +kernel), tw_in 80 (by decide +kernel) (by decide +kernel), tw_in 427 (by decide +kernel) (by decide +kernel), by decide, by decide +kernel, by decide +kernel, by decide +kernel⟩
theorem ci_Course_codeAt : CIV yX0_codeAt cX0_codeAt 2 (some .int) 1 := ⟨tw_in 744 (by decide +kernel) (by decide +kernel), tw_in 89 (by decide +kernel) (by decide +kernel), tw_in 742 (by decide +kernel) (by decide +kernel), tw_in 743 (by decide +kernel) (by decide +kernel), by decide, by decide +kernel, by decide +kernel, by decide +kernel⟩
theorem ci_J_fill : CIS yJ7_fill_53178 cJ7_fill_53178 4 none 2 := ⟨tw_in 538 (by decide +kernel) (by decide +kernel), tw_in 93 (by decide +kernel) (by decide +kernel), tw_in 537 (by decide +kernel) (by decide +kernel), by decide, by decide +kernel, by decide +kernel, by decide +kernel⟩
theorem ci_Tally_clear : CIV yX9_clear cX9_clear 1 none 0 := ⟨tw_in 542 (by decide +kernel) (by decide +kernel), tw_in 87 (by decide +kernel) (by decide +kernel), tw_in 540 (by decide +kernel) (by decide +kernel), tw_in 541 (by decide +kernel) (by decide +kernel), by decide, by decide +kernel, by decide +kernel, by decide +kernel⟩
theorem ci_Kept_clear : CIV yX1_clear cX1_clear 2 none 0 := ⟨tw_in 535 (by decide +kernel) (by decide +kernel), tw_in 86 (by decide +kernel) (by decide +kernel), tw_in 533 (by decide +kernel) (by decide +kernel), tw_in 534 (by decide +kernel) (by decide +kernel), by decide, by decide +kernel, by decide +kernel, by decide +kernel⟩
theorem ci_Kept_isNew : CIV yX1_isNew cX1_isNew 4 (some .boolean) 2 := ⟨tw_in 586 (by decide +kernel) (by decide +kernel), tw_in 86 (by decide +kernel) (by decide +kernel), tw_in 584 (by decide +kernel) (by decide +kernel), tw_in 585 (by decide +kernel) (by decide +kernel), by decide, by decide +kernel, by decide +kernel, by decide +kernel⟩
theorem ci_Kept_addToGroup : CIV yX1_addToGroup cX1_addToGroup 5 none 2 := ⟨tw_in 590 (by decide +kernel) (by decide +kernel), tw_in 86 (by decide +kernel) (by decide +kernel), tw_in 588 (by decide +kernel) (by decide +kernel), tw_in 589 (by decide +kernel) (by decide +kernel), by decide, by decide +kernel, by decide +kernel, by decide +kernel⟩
theorem ci_Pairs_setOne : CIV yX2_setOne cX2_setOne 3 none 2 := ⟨tw_in 527 (by decide +kernel) (by decide +kernel), tw_in 90 (by decide +kernel) (by decide +kernel), tw_in 525 (by decide +kernel) (by decide +kernel), tw_in 526 (by decide +kernel) (by decide +kernel), by decide, by decide +kernel, by decide +kernel, by decide +kernel⟩
theorem ci_Pairs_setNone : CIV yX2_setNone cX2_setNone 1 none 0 := ⟨tw_in 668 (by decide +kernel) (by decide +kernel), tw_in 90 (by decide +kernel) (by decide +kernel), tw_in 666 (by decide +kernel) (by decide +kernel), tw_in 667 (by decide +kernel) (by decide +kernel), by decide, by decide +kernel, by decide +kernel, by decide +kernel⟩
theorem ci_Pairs_placeOf : CIV yX2_placeOf cX2_placeOf 4 (some .int) 2 := ⟨tw_in 682 (by decide +kernel) (by decide +kernel), tw_in 90 (by decide +kernel) (by decide +kernel), tw_in 681 (by decide +kernel) (by decide +kernel), tw_in 18 (by decide +kernel) (by decide +kernel), by decide, by decide +kernel, by decide +kernel, by decide +kernel⟩
theorem ci_Pairs_gather : CIV yX2_gather cX2_gather 4 none 2 := ⟨tw_in 678 (by decide +kernel) (by decide +kernel), tw_in 90 (by decide +kernel) (by decide +kernel), tw_in 676 (by decide +kernel) (by decide +kernel), tw_in 677 (by decide +kernel) (by decide +kernel), by decide, by decide +kernel, by decide +kernel, by decide +kernel⟩
theorem ci_Pairs_keyAt : CIV yX2_keyAt cX2_keyAt 2 (some .int) 1 := ⟨tw_in 582 (by decide +kernel) (by decide +kernel), tw_in 90 (by decide +kernel) (by decide +kernel), tw_in 580 (by decide +kernel) (by decide +kernel), tw_in 581 (by decide +kernel) (by decide +kernel), by decide, by decide +kernel, by decide +kernel, by decide +kernel⟩
theorem ci_Pairs_valueAt : CIV yX2_valueAt cX2_valueAt 2 (some .int) 1 := ⟨tw_in 600 (by decide +kernel) (by decide +kernel), tw_in 90 (by decide +kernel) (by decide +kernel), tw_in 598 (by decide +kernel) (by decide +kernel), tw_in 599 (by decide +kernel) (by decide +kernel), by decide, by decide +kernel, by decide +kernel, by decide +kernel⟩
theorem ci_Report_clear : CIV yX4_clear cX4_clear 1 none 0 := ⟨tw_in 523 (by decide +kernel) (by decide +kernel), tw_in 91 (by decide +kernel) (by decide +kernel), tw_in 521 (by decide +kernel) (by decide +kernel), tw_in 522 (by decide +kernel) (by decide +kernel), by decide, by decide +kernel, by decide +kernel, by decide +kernel⟩
theorem ci_J_max : CIS yJ9_max_7cf53 cJ9_max_7cf53 2 (some .int) 2 := ⟨tw_in 549 (by decide +kernel) (by decide +kernel), tw_in 94 (by decide +kernel) (by decide +kernel), tw_in 548 (by decide +kernel) (by decide +kernel), by decide, by decide +kernel, by decide +kernel, by decide +kernel⟩
theorem ci_Report_tell : CIV yX4_tell cX4_tell 2 none 1 := ⟨tw_in 553 (by decide +kernel) (by decide +kernel), tw_in 91 (by decide +kernel) (by decide +kernel), tw_in 552 (by decide +kernel) (by decide +kernel), tw_in 7 (by decide +kernel) (by decide +kernel), by decide, by decide +kernel, by decide +kernel, by decide +kernel⟩
theorem ci_Report_openAll : CIV yX4_openAll cX4_openAll 3 none 1 := ⟨tw_in 546 (by decide +kernel) (by decide +kernel), tw_in 91 (by decide +kernel) (by decide +kernel), tw_in 544 (by decide +kernel) (by decide +kernel), tw_in 545 (by decide +kernel) (by decide +kernel), by decide, by decide +kernel, by decide +kernel, by decide +kernel⟩
theorem ci_Report_shutAll : CIV yX4_shutAll cX4_shutAll 3 none 1 := ⟨tw_in 641 (by decide +kernel) (by decide +kernel), tw_in 91 (by decide +kernel) (by decide +kernel), tw_in 639 (by decide +kernel) (by decide +kernel), tw_in 640 (by decide +kernel) (by decide +kernel), by decide, by decide +kernel, by decide +kernel, by decide +kernel⟩
theorem ci_Tally_isError : CIV yX9_isError cX9_isError 2 (some .boolean) 1 := ⟨tw_in 620 (by decide +kernel) (by decide +kernel), tw_in 87 (by decide +kernel) (by decide +kernel), tw_in 618 (by decide +kernel) (by decide +kernel), tw_in 619 (by decide +kernel) (by decide +kernel), by decide, by decide +kernel, by decide +kernel, by decide +kernel⟩
theorem ci_Tally_mean : CIV yX9_mean cX9_mean 1 (some .float) 0 := ⟨tw_in 628 (by decide +kernel) (by decide +kernel), tw_in 87 (by decide +kernel) (by decide +kernel), tw_in 626 (by decide +kernel) (by decide +kernel), tw_in 627 (by decide +kernel) (by decide +kernel), by decide, by decide +kernel, by decide +kernel, by decide +kernel⟩
theorem ci_U_bitsOf : CIS yX11_bitsOf cX11_bitsOf 4 (some .int) 1 := ⟨tw_in 631 (by decide +kernel) (by decide +kernel), tw_in 80 (by decide +kernel) (by decide +kernel), tw_in 630 (by decide +kernel) (by decide +kernel), by decide, by decide +kernel, by decide +kernel, by decide +kernel⟩
theorem ci_Tally_isIn : CIV yX9_isIn cX9_isIn 2 (some .int) 1 := ⟨tw_in 636 (by decide +kernel) (by decide +kernel), tw_in 87 (by decide +kernel) (by decide +kernel), tw_in 635 (by decide +kernel) (by decide +kernel), tw_in 15 (by decide +kernel) (by decide +kernel), by decide, by decide +kernel, by decide +kernel, by decide +kernel⟩
theorem ci_Tally_outcome : CIV yX9_outcome cX9_outcome 3 (some .int) 2 := ⟨tw_in 624 (by decide +kernel) (by decide +kernel), tw_in 87 (by decide +kernel) (by decide +kernel), tw_in 622 (by decide +kernel) (by decide +kernel), tw_in 623 (by decide +kernel) (by decide +kernel), by decide, by decide +kernel, by decide +kernel, by decide +kernel⟩
theorem ci_Report_settle : CIV yX4_settle cX4_settle 5 none 4 := ⟨tw_in 616 (by decide +kernel) (by decide +kernel), tw_in 91 (by decide +kernel) (by decide +kernel), tw_in 614 (by decide +kernel) (by decide +kernel), tw_in 615 (by decide +kernel) (by decide +kernel), by decide, by decide +kernel, by decide +kernel, by decide +kernel⟩
theorem ci_Report_answerOf : CIV yX4_answerOf cX4_answerOf 2 (some .int) 1 := ⟨tw_in 698 (by decide +kernel) (by decide +kernel), tw_in 91 (by decide +kernel) (by decide +kernel), tw_in 696 (by decide +kernel) (by decide +kernel), tw_in 697 (by decide +kernel) (by decide +kernel), by decide, by decide +kernel, by decide +kernel, by decide +kernel⟩
theorem ci_Report_loggedAt : CIV yX4_loggedAt cX4_loggedAt 2 (some .int) 1 := ⟨tw_in 761 (by decide +kernel) (by decide +kernel), tw_in 91 (by decide +kernel) (by decide +kernel), tw_in 759 (by decide +kernel) (by decide +kernel), tw_in 760 (by decide +kernel) (by decide +kernel), by decide, by decide +kernel, by decide +kernel, by decide +kernel⟩
theorem ci_Report_costOf : CIV yX4_costOf cX4_costOf 2 (some .int) 1 := ⟨tw_in 753 (by decide +kernel) (by decide +kernel), tw_in 91 (by decide +kernel) (by decide +kernel), tw_in 751 (by decide +kernel) (by decide +kernel), tw_in 752 (by decide +kernel) (by decide +kernel), by decide, by decide +kernel, by decide +kernel, by decide +kernel⟩
theorem ci_Report_isLike : CIV yX4_isLike cX4_isLike 4 (some .boolean) 2 := ⟨tw_in 710 (by decide +kernel) (by decide +kernel), tw_in 91 (by decide +kernel) (by decide +kernel), tw_in 708 (by decide +kernel) (by decide +kernel), tw_in 709 (by decide +kernel) (by decide +kernel), by decide, by decide +kernel, by decide +kernel, by decide +kernel⟩
theorem ci_Report_together : CIV yX4_together cX4_together 6 (some .int) 2 := ⟨tw_in 718 (by decide +kernel) (by decide +kernel), tw_in 91 (by decide +kernel) (by decide +kernel), tw_in 716 (by decide +kernel) (by decide +kernel), tw_in 717 (by decide +kernel) (by decide +kernel), by decide, by decide +kernel, by decide +kernel, by decide +kernel⟩
theorem ci_Run_begin : CIV yX5_begin cX5_begin 1 none 0 := ⟨tw_in 531 (by decide +kernel) (by decide +kernel), tw_in 88 (by decide +kernel) (by decide +kernel), tw_in 530 (by decide +kernel) (by decide +kernel), tw_in 6 (by decide +kernel) (by decide +kernel), by decide, by decide +kernel, by decide +kernel, by decide +kernel⟩
theorem ci_Run_packed : CIS yX5_packed cX5_packed 3 (some .int) 3 := ⟨tw_in 560 (by decide +kernel) (by decide +kernel), tw_in 88 (by decide +kernel) (by decide +kernel), tw_in 559 (by decide +kernel) (by decide +kernel), by decide, by decide +kernel, by decide +kernel, by decide +kernel⟩
theorem ci_Run_keyOf : CIS yX5_keyOf cX5_keyOf 1 (some .int) 1 := ⟨tw_in 575 (by decide +kernel) (by decide +kernel), tw_in 88 (by decide +kernel) (by decide +kernel), tw_in 574 (by decide +kernel) (by decide +kernel), by decide, by decide +kernel, by decide +kernel, by decide +kernel⟩
theorem ci_Run_valueOf : CIS yX5_valueOf cX5_valueOf 1 (some .int) 1 := ⟨tw_in 578 (by decide +kernel) (by decide +kernel), tw_in 88 (by decide +kernel) (by decide +kernel), tw_in 577 (by decide +kernel) (by decide +kernel), by decide, by decide +kernel, by decide +kernel, by decide +kernel⟩
theorem ci_Run_through : CIV yX5_through cX5_through 6 (some .int) 2 := ⟨tw_in 572 (by decide +kernel) (by decide +kernel), tw_in 88 (by decide +kernel) (by decide +kernel), tw_in 571 (by decide +kernel) (by decide +kernel), tw_in 11 (by decide +kernel) (by decide +kernel), by decide, by decide +kernel, by decide +kernel, by decide +kernel⟩
theorem ci_Run_pass : CIV yX5_pass cX5_pass 6 (some .int) 3 := ⟨tw_in 568 (by decide +kernel) (by decide +kernel), tw_in 88 (by decide +kernel) (by decide +kernel), tw_in 567 (by decide +kernel) (by decide +kernel), tw_in 10 (by decide +kernel) (by decide +kernel), by decide, by decide +kernel, by decide +kernel, by decide +kernel⟩
theorem ci_Tally_take : CIV yX9_take cX9_take 3 none 2 := ⟨tw_in 604 (by decide +kernel) (by decide +kernel), tw_in 87 (by decide +kernel) (by decide +kernel), tw_in 602 (by decide +kernel) (by decide +kernel), tw_in 603 (by decide +kernel) (by decide +kernel), by decide, by decide +kernel, by decide +kernel, by decide +kernel⟩
theorem ci_Run_arrive : CIV yX5_arrive cX5_arrive 3 none 1 := ⟨tw_in 595 (by decide +kernel) (by decide +kernel), tw_in 88 (by decide +kernel) (by decide +kernel), tw_in 594 (by decide +kernel) (by decide +kernel), tw_in 12 (by decide +kernel) (by decide +kernel), by decide, by decide +kernel, by decide +kernel, by decide +kernel⟩
theorem ci_Run_joins : CIV yX5_joins cX5_joins 4 (some .boolean) 2 := ⟨tw_in 608 (by decide +kernel) (by decide +kernel), tw_in 88 (by decide +kernel) (by decide +kernel), tw_in 607 (by decide +kernel) (by decide +kernel), tw_in 13 (by decide +kernel) (by decide +kernel), by decide, by decide +kernel, by decide +kernel, by decide +kernel⟩
theorem ci_Run_feed : CIV yX5_feed cX5_feed 5 none 2 := ⟨tw_in 564 (by decide +kernel) (by decide +kernel), tw_in 88 (by decide +kernel) (by decide +kernel), tw_in 563 (by decide +kernel) (by decide +kernel), tw_in 9 (by decide +kernel) (by decide +kernel), by decide, by decide +kernel, by decide +kernel, by decide +kernel⟩
theorem ci_Run_readInner : CIV yX5_readInner cX5_readInner 3 none 1 := ⟨tw_in 557 (by decide +kernel) (by decide +kernel), tw_in 88 (by decide +kernel) (by decide +kernel), tw_in 556 (by decide +kernel) (by decide +kernel), tw_in 8 (by decide +kernel) (by decide +kernel), by decide, by decide +kernel, by decide +kernel, by decide +kernel⟩
theorem ci_Run_handOnKept : CIV yX5_handOnKept cX5_handOnKept 4 none 0 := ⟨tw_in 612 (by decide +kernel) (by decide +kernel), tw_in 88 (by decide +kernel) (by decide +kernel), tw_in 611 (by decide +kernel) (by decide +kernel), tw_in 14 (by decide +kernel) (by decide +kernel), by decide, by decide +kernel, by decide +kernel, by decide +kernel⟩
theorem ci_Run_askRowByRow : CIV yX5_askRowByRow cX5_askRowByRow 6 none 3 := ⟨tw_in 507 (by decide +kernel) (by decide +kernel), tw_in 88 (by decide +kernel) (by decide +kernel), tw_in 505 (by decide +kernel) (by decide +kernel), tw_in 506 (by decide +kernel) (by decide +kernel), by decide, by decide +kernel, by decide +kernel, by decide +kernel⟩
theorem ci_Steps_hasUnion : CIV yX7_hasUnion cX7_hasUnion 2 (some .boolean) 0 := ⟨tw_in 674 (by decide +kernel) (by decide +kernel), tw_in 83 (by decide +kernel) (by decide +kernel), tw_in 672 (by decide +kernel) (by decide +kernel), tw_in 673 (by decide +kernel) (by decide +kernel), by decide, by decide +kernel, by decide +kernel, by decide +kernel⟩
theorem ci_Run_askFree : CIV yX5_askFree cX5_askFree 5 none 2 := ⟨tw_in 645 (by decide +kernel) (by decide +kernel), tw_in 88 (by decide +kernel) (by decide +kernel), tw_in 643 (by decide +kernel) (by decide +kernel), tw_in 644 (by decide +kernel) (by decide +kernel), by decide, by decide +kernel, by decide +kernel, by decide +kernel⟩
theorem ci_Sheet_isLost : CIV yX6_isLost cX6_isLost 1 (some .boolean) 0 := ⟨tw_in 791 (by decide +kernel) (by decide +kernel), tw_in 85 (by decide +kernel) (by decide +kernel), tw_in 789 (by decide +kernel) (by decide +kernel), tw_in 790 (by decide +kernel) (by decide +kernel), by decide, by decide +kernel, by decide +kernel, by decide +kernel⟩
theorem ci_Sheet_forget : CIV yX6_forget cX6_forget 1 none 0 := ⟨tw_in 795 (by decide +kernel) (by decide +kernel), tw_in 85 (by decide +kernel) (by decide +kernel), tw_in 793 (by decide +kernel) (by decide +kernel), tw_in 794 (by decide +kernel) (by decide +kernel), by decide, by decide +kernel, by decide +kernel, by decide +kernel⟩
theorem ci_Sheet_renew : CIV yX6_renew cX6_renew 3 none 2 := ⟨tw_in 782 (by decide +kernel) (by decide +kernel), tw_in 85 (by decide +kernel) (by decide +kernel), tw_in 780 (by decide +kernel) (by decide +kernel), tw_in 781 (by decide +kernel) (by decide +kernel), by decide, by decide +kernel, by decide +kernel, by decide +kernel⟩
theorem ci_Sheet_findingAt : CIV yX6_findingAt cX6_findingAt 3 (some .int) 2 := ⟨tw_in 803 (by decide +kernel) (by decide +kernel), tw_in 85 (by decide +kernel) (by decide +kernel), tw_in 801 (by decide +kernel) (by decide +kernel), tw_in 802 (by decide +kernel) (by decide +kernel), by decide, by decide +kernel, by decide +kernel, by decide +kernel⟩
theorem ci_Sheet_hasRange : CIV yX6_hasRange cX6_hasRange 3 (some .boolean) 2 := ⟨tw_in 822 (by decide +kernel) (by decide +kernel), tw_in 85 (by decide +kernel) (by decide +kernel), tw_in 820 (by decide +kernel) (by decide +kernel), tw_in 821 (by decide +kernel) (by decide +kernel), by decide, by decide +kernel, by decide +kernel, by decide +kernel⟩
theorem ci_Sheet_assign : CIV yX6_assign cX6_assign 3 none 2 := ⟨tw_in 809 (by decide +kernel) (by decide +kernel), tw_in 85 (by decide +kernel) (by decide +kernel), tw_in 807 (by decide +kernel) (by decide +kernel), tw_in 808 (by decide +kernel) (by decide +kernel), by decide, by decide +kernel, by decide +kernel, by decide +kernel⟩
theorem ci_Steps_codeOf : CIS yX7_codeOf cX7_codeOf 1 (some .int) 1 := ⟨tw_in 446 (by decide +kernel) (by decide +kernel), tw_in 83 (by decide +kernel) (by decide +kernel), tw_in 445 (by decide +kernel) (by decide +kernel), by decide, by decide +kernel, by decide +kernel, by decide +kernel⟩
theorem ci_Steps_add : CIV yX7_add cX7_add 3 none 2 := ⟨tw_in 450 (by decide +kernel) (by decide +kernel), tw_in 83 (by decide +kernel) (by decide +kernel), tw_in 449 (by decide +kernel) (by decide +kernel), tw_in 1 (by decide +kernel) (by decide +kernel), by decide, by decide +kernel, by decide +kernel, by decide +kernel⟩
theorem ci_U_isFigure : CIS yX11_isFigure cX11_isFigure 1 (some .boolean) 1 := ⟨tw_in 453 (by decide +kernel) (by decide +kernel), tw_in 80 (by decide +kernel) (by decide +kernel), tw_in 452 (by decide +kernel) (by decide +kernel), by decide, by decide +kernel, by decide +kernel, by decide +kernel⟩
theorem ci_Steps_parse : CIV yX7_parse cX7_parse 4 none 1 := ⟨tw_in 443 (by decide +kernel) (by decide +kernel), tw_in 83 (by decide +kernel) (by decide +kernel), tw_in 441 (by decide +kernel) (by decide +kernel), tw_in 442 (by decide +kernel) (by decide +kernel), by decide, by decide +kernel, by decide +kernel, by decide +kernel⟩
theorem ci_Steps_speakingBits : CIV yX7_speakingBits cX7_speakingBits 3 (some .int) 0 := ⟨tw_in 727 (by decide +kernel) (by decide +kernel), tw_in 83 (by decide +kernel) (by decide +kernel), tw_in 725 (by decide +kernel) (by decide +kernel), tw_in 726 (by decide +kernel) (by decide +kernel), by decide, by decide +kernel, by decide +kernel, by decide +kernel⟩
theorem ci_Table_firstWrong : CIS yX8_firstWrong cX8_firstWrong 4 (some .int) 1 := ⟨tw_in 464 (by decide +kernel) (by decide +kernel), tw_in 82 (by decide +kernel) (by decide +kernel), tw_in 463 (by decide +kernel) (by decide +kernel), by decide, by decide +kernel, by decide +kernel, by decide +kernel⟩
theorem ci_Table_valueOf : CIS yX8_valueOf cX8_valueOf 1 (some .int) 1 := ⟨tw_in 468 (by decide +kernel) (by decide +kernel), tw_in 82 (by decide +kernel) (by decide +kernel), tw_in 467 (by decide +kernel) (by decide +kernel), by decide, by decide +kernel, by decide +kernel, by decide +kernel⟩
theorem ci_Table_parse : CIV yX8_parse cX8_parse 3 none 1 := ⟨tw_in 461 (by decide +kernel) (by decide +kernel), tw_in 82 (by decide +kernel) (by decide +kernel), tw_in 459 (by decide +kernel) (by decide +kernel), tw_in 460 (by decide +kernel) (by decide +kernel), by decide, by decide +kernel, by decide +kernel, by decide +kernel⟩
theorem ci_Text_append : CIV yX10_append cX10_append 2 (some .boolean) 1 := ⟨tw_in 435 (by decide +kernel) (by decide +kernel), tw_in 84 (by decide +kernel) (by decide +kernel), tw_in 433 (by decide +kernel) (by decide +kernel), tw_in 434 (by decide +kernel) (by decide +kernel), by decide, by decide +kernel, by decide +kernel, by decide +kernel⟩
theorem ci_U_isByte : CIS yX11_isByte cX11_isByte 1 (some .boolean) 1 := ⟨tw_in 431 (by decide +kernel) (by decide +kernel), tw_in 80 (by decide +kernel) (by decide +kernel), tw_in 430 (by decide +kernel) (by decide +kernel), by decide, by decide +kernel, by decide +kernel, by decide +kernel⟩
theorem ci_Text_appendFrom : CIV yX10_appendFrom cX10_appendFrom 3 (some .int) 1 := ⟨tw_in 840 (by decide +kernel) (by decide +kernel), tw_in 84 (by decide +kernel) (by decide +kernel), tw_in 838 (by decide +kernel) (by decide +kernel), tw_in 839 (by decide +kernel) (by decide +kernel), by decide, by decide +kernel, by decide +kernel, by decide +kernel⟩
theorem ci_U_tableOf : CIV yX11_tableOf cX11_tableOf 2 (some (.object "UnnestPlans$Table")) 1 := ⟨tw_in 457 (by decide +kernel) (by decide +kernel), tw_in 80 (by decide +kernel) (by decide +kernel), tw_in 456 (by decide +kernel) (by decide +kernel), tw_in 2 (by decide +kernel) (by decide +kernel), by decide, by decide +kernel, by decide +kernel, by decide +kernel⟩
theorem ci_U_understand : CIV yX11_understand cX11_understand 2 none 1 := ⟨tw_in 439 (by decide +kernel) (by decide +kernel), tw_in 80 (by decide +kernel) (by decide +kernel), tw_in 438 (by decide +kernel) (by decide +kernel), tw_in 0 (by decide +kernel) (by decide +kernel), by decide, by decide +kernel, by decide +kernel, by decide +kernel⟩
theorem ci_U_type : CIV yX11_type cX11_type 3 (some .int) 2 := ⟨tw_in 425 (by decide +kernel) (by decide +kernel), tw_in 80 (by decide +kernel) (by decide +kernel), tw_in 423 (by decide +kernel) (by decide +kernel), tw_in 424 (by decide +kernel) (by decide +kernel), by decide, by decide +kernel, by decide +kernel, by decide +kernel⟩
theorem ci_U_wipe : CIV yX11_wipe cX11_wipe 3 (some .int) 1 := ⟨tw_in 472 (by decide +kernel) (by decide +kernel), tw_in 80 (by decide +kernel) (by decide +kernel), tw_in 470 (by decide +kernel) (by decide +kernel), tw_in 471 (by decide +kernel) (by decide +kernel), by decide, by decide +kernel, by decide +kernel, by decide +kernel⟩
theorem ci_U_undo : CIV yX11_undo cX11_undo 2 (some .int) 1 := ⟨tw_in 476 (by decide +kernel) (by decide +kernel), tw_in 80 (by decide +kernel) (by decide +kernel), tw_in 474 (by decide +kernel) (by decide +kernel), tw_in 475 (by decide +kernel) (by decide +kernel), by decide, by decide +kernel, by decide +kernel, by decide +kernel⟩
theorem ci_U_fault : CIV yX11_fault cX11_fault 2 (some .int) 1 := ⟨tw_in 480 (by decide +kernel) (by decide +kernel), tw_in 80 (by decide +kernel) (by decide +kernel), tw_in 478 (by decide +kernel) (by decide +kernel), tw_in 479 (by decide +kernel) (by decide +kernel), by decide, by decide +kernel, by decide +kernel, by decide +kernel⟩
theorem ci_U_row : CIV yX11_row cX11_row 4 (some .int) 3 := ⟨tw_in 484 (by decide +kernel) (by decide +kernel), tw_in 80 (by decide +kernel) (by decide +kernel), tw_in 482 (by decide +kernel) (by decide +kernel), tw_in 483 (by decide +kernel) (by decide +kernel), by decide, by decide +kernel, by decide +kernel, by decide +kernel⟩
theorem ci_U_step : CIV yX11_step cX11_step 3 (some .int) 2 := ⟨tw_in 488 (by decide +kernel) (by decide +kernel), tw_in 80 (by decide +kernel) (by decide +kernel), tw_in 486 (by decide +kernel) (by decide +kernel), tw_in 487 (by decide +kernel) (by decide +kernel), by decide, by decide +kernel, by decide +kernel, by decide +kernel⟩
theorem ci_U_end : CIV yX11_end cX11_end 3 (some .int) 1 := ⟨tw_in 492 (by decide +kernel) (by decide +kernel), tw_in 80 (by decide +kernel) (by decide +kernel), tw_in 490 (by decide +kernel) (by decide +kernel), tw_in 491 (by decide +kernel) (by decide +kernel), by decide, by decide +kernel, by decide +kernel, by decide +kernel⟩
theorem ci_U_isPlan : CIS yX11_isPlan cX11_isPlan 1 (some .boolean) 1 := ⟨tw_in 499 (by decide +kernel) (by decide +kernel), tw_in 80 (by decide +kernel) (by decide +kernel), tw_in 498 (by decide +kernel) (by decide +kernel), by decide, by decide +kernel, by decide +kernel, by decide +kernel⟩
theorem ci_U_refresh : CIV yX11_refresh cX11_refresh 1 none 0 := ⟨tw_in 503 (by decide +kernel) (by decide +kernel), tw_in 80 (by decide +kernel) (by decide +kernel), tw_in 502 (by decide +kernel) (by decide +kernel), tw_in 3 (by decide +kernel) (by decide +kernel), by decide, by decide +kernel, by decide +kernel, by decide +kernel⟩
theorem ci_U_runOf : CIV yX11_runOf cX11_runOf 2 (some (.object "UnnestPlans$Run")) 1 := ⟨tw_in 686 (by decide +kernel) (by decide +kernel), tw_in 80 (by decide +kernel) (by decide +kernel), tw_in 685 (by decide +kernel) (by decide +kernel), tw_in 19 (by decide +kernel) (by decide +kernel), by decide, by decide +kernel, by decide +kernel, by decide +kernel⟩
theorem ci_U_error : CIV yX11_error cX11_error 2 (some .int) 1 := ⟨tw_in 496 (by decide +kernel) (by decide +kernel), tw_in 80 (by decide +kernel) (by decide +kernel), tw_in 494 (by decide +kernel) (by decide +kernel), tw_in 495 (by decide +kernel) (by decide +kernel), by decide, by decide +kernel, by decide +kernel, by decide +kernel⟩
theorem ci_U_hosts : CIV yX11_hosts cX11_hosts 1 (some .int) 0 := ⟨tw_in 694 (by decide +kernel) (by decide +kernel), tw_in 80 (by decide +kernel) (by decide +kernel), tw_in 693 (by decide +kernel) (by decide +kernel), tw_in 20 (by decide +kernel) (by decide +kernel), by decide, by decide +kernel, by decide +kernel, by decide +kernel⟩
theorem ci_U_answer : CIV yX11_answer cX11_answer 3 (some .int) 2 := ⟨tw_in 690 (by decide +kernel) (by decide +kernel), tw_in 80 (by decide +kernel) (by decide +kernel), tw_in 688 (by decide +kernel) (by decide +kernel), tw_in 689 (by decide +kernel) (by decide +kernel), by decide, by decide +kernel, by decide +kernel, by decide +kernel⟩
theorem ci_U_sameBit : CIV yX11_sameBit cX11_sameBit 1 (some .int) 0 := ⟨tw_in 706 (by decide +kernel) (by decide +kernel), tw_in 80 (by decide +kernel) (by decide +kernel), tw_in 705 (by decide +kernel) (by decide +kernel), tw_in 21 (by decide +kernel) (by decide +kernel), by decide, by decide +kernel, by decide +kernel, by decide +kernel⟩
theorem ci_U_same : CIV yX11_same cX11_same 1 (some .int) 0 := ⟨tw_in 702 (by decide +kernel) (by decide +kernel), tw_in 80 (by decide +kernel) (by decide +kernel), tw_in 700 (by decide +kernel) (by decide +kernel), tw_in 701 (by decide +kernel) (by decide +kernel), by decide, by decide +kernel, by decide +kernel, by decide +kernel⟩
theorem ci_U_total : CIV yX11_total cX11_total 1 (some .int) 0 := ⟨tw_in 714 (by decide +kernel) (by decide +kernel), tw_in 80 (by decide +kernel) (by decide +kernel), tw_in 712 (by decide +kernel) (by decide +kernel), tw_in 713 (by decide +kernel) (by decide +kernel), by decide, by decide +kernel, by decide +kernel, by decide +kernel⟩
theorem ci_U_speaks : CIV yX11_speaks cX11_speaks 1 (some .int) 0 := ⟨tw_in 723 (by decide +kernel) (by decide +kernel), tw_in 80 (by decide +kernel) (by decide +kernel), tw_in 721 (by decide +kernel) (by decide +kernel), tw_in 722 (by decide +kernel) (by decide +kernel), by decide, by decide +kernel, by decide +kernel, by decide +kernel⟩
theorem ci_U_pairPart : CIV yX11_pairPart cX11_pairPart 3 (some .int) 2 := ⟨tw_in 736 (by decide +kernel) (by decide +kernel), tw_in 80 (by decide +kernel) (by decide +kernel), tw_in 735 (by decide +kernel) (by decide +kernel), tw_in 22 (by decide +kernel) (by decide +kernel), by decide, by decide +kernel, by decide +kernel, by decide +kernel⟩
theorem ci_U_domain : CIV yX11_domain cX11_domain 3 (some .int) 2 := ⟨tw_in 732 (by decide +kernel) (by decide +kernel), tw_in 80 (by decide +kernel) (by decide +kernel), tw_in 730 (by decide +kernel) (by decide +kernel), tw_in 731 (by decide +kernel) (by decide +kernel), by decide, by decide +kernel, by decide +kernel, by decide +kernel⟩
theorem ci_U_plan : CIV yX11_plan cX11_plan 2 (some .int) 1 := ⟨tw_in 740 (by decide +kernel) (by decide +kernel), tw_in 80 (by decide +kernel) (by decide +kernel), tw_in 738 (by decide +kernel) (by decide +kernel), tw_in 739 (by decide +kernel) (by decide +kernel), by decide, by decide +kernel, by decide +kernel, by decide +kernel⟩
theorem ci_U_cost : CIV yX11_cost cX11_cost 3 (some .int) 2 := ⟨tw_in 749 (by decide +kernel) (by decide +kernel), tw_in 80 (by decide +kernel) (by decide +kernel), tw_in 747 (by decide +kernel) (by decide +kernel), tw_in 748 (by decide +kernel) (by decide +kernel), by decide, by decide +kernel, by decide +kernel, by decide +kernel⟩
theorem ci_U_log : CIV yX11_log cX11_log 3 (some .int) 2 := ⟨tw_in 757 (by decide +kernel) (by decide +kernel), tw_in 80 (by decide +kernel) (by decide +kernel), tw_in 755 (by decide +kernel) (by decide +kernel), tw_in 756 (by decide +kernel) (by decide +kernel), by decide, by decide +kernel, by decide +kernel, by decide +kernel⟩
theorem ci_U_spareBits : CIV yX11_spareBits cX11_spareBits 3 (some .int) 0 := ⟨tw_in 770 (by decide +kernel) (by decide +kernel), tw_in 80 (by decide +kernel) (by decide +kernel), tw_in 769 (by decide +kernel) (by decide +kernel), tw_in 23 (by decide +kernel) (by decide +kernel), by decide, by decide +kernel, by decide +kernel, by decide +kernel⟩
theorem ci_U_spare : CIV yX11_spare cX11_spare 1 (some .int) 0 := ⟨tw_in 766 (by decide +kernel) (by decide +kernel), tw_in 80 (by decide +kernel) (by decide +kernel), tw_in 764 (by decide +kernel) (by decide +kernel), tw_in 765 (by decide +kernel) (by decide +kernel), by decide, by decide +kernel, by decide +kernel, by decide +kernel⟩
theorem ci_U_found : CIV yX11_found cX11_found 2 (some .int) 1 := ⟨tw_in 778 (by decide +kernel) (by decide +kernel), tw_in 80 (by decide +kernel) (by decide +kernel), tw_in 777 (by decide +kernel) (by decide +kernel), tw_in 24 (by decide +kernel) (by decide +kernel), by decide, by decide +kernel, by decide +kernel, by decide +kernel⟩
theorem ci_U_sheet : CIV yX11_sheet cX11_sheet 4 (some .int) 3 := ⟨tw_in 774 (by decide +kernel) (by decide +kernel), tw_in 80 (by decide +kernel) (by decide +kernel), tw_in 772 (by decide +kernel) (by decide +kernel), tw_in 773 (by decide +kernel) (by decide +kernel), by decide, by decide +kernel, by decide +kernel, by decide +kernel⟩
theorem ci_U_lose : CIV yX11_lose cX11_lose 3 (some .int) 1 := ⟨tw_in 787 (by decide +kernel) (by decide +kernel), tw_in 80 (by decide +kernel) (by decide +kernel), tw_in 785 (by decide +kernel) (by decide +kernel), tw_in 786 (by decide +kernel) (by decide +kernel), by decide, by decide +kernel, by decide +kernel, by decide +kernel⟩
theorem ci_U_put : CIV yX11_put cX11_put 6 (some .int) 4 := ⟨tw_in 799 (by decide +kernel) (by decide +kernel), tw_in 80 (by decide +kernel) (by decide +kernel), tw_in 797 (by decide +kernel) (by decide +kernel), tw_in 798 (by decide +kernel) (by decide +kernel), by decide, by decide +kernel, by decide +kernel, by decide +kernel⟩
theorem ci_U_get : CIV yX11_get cX11_get 5 (some .int) 3 := ⟨tw_in 813 (by decide +kernel) (by decide +kernel), tw_in 80 (by decide +kernel) (by decide +kernel), tw_in 811 (by decide +kernel) (by decide +kernel), tw_in 812 (by decide +kernel) (by decide +kernel), by decide, by decide +kernel, by decide +kernel, by decide +kernel⟩
theorem ci_U_copy : CIV yX11_copy cX11_copy 6 (some .int) 5 := ⟨tw_in 818 (by decide +kernel) (by decide +kernel), tw_in 80 (by decide +kernel) (by decide +kernel), tw_in 816 (by decide +kernel) (by decide +kernel), tw_in 817 (by decide +kernel) (by decide +kernel), by decide, by decide +kernel, by decide +kernel, by decide +kernel⟩
theorem ci_J_min : CIS yJ9_min_7cf53 cJ9_min_7cf53 2 (some .int) 2 := ⟨tw_in 832 (by decide +kernel) (by decide +kernel), tw_in 94 (by decide +kernel) (by decide +kernel), tw_in 831 (by decide +kernel) (by decide +kernel), by decide, by decide +kernel, by decide +kernel, by decide +kernel⟩
theorem ci_U_write : CIV yX11_write cX11_write 6 (some .int) 2 := ⟨tw_in 829 (by decide +kernel) (by decide +kernel), tw_in 80 (by decide +kernel) (by decide +kernel), tw_in 827 (by decide +kernel) (by decide +kernel), tw_in 828 (by decide +kernel) (by decide +kernel), by decide, by decide +kernel, by decide +kernel, by decide +kernel⟩
theorem ci_U_read : CIV yX11_read cX11_read 4 (some .int) 2 := ⟨tw_in 836 (by decide +kernel) (by decide +kernel), tw_in 80 (by decide +kernel) (by decide +kernel), tw_in 834 (by decide +kernel) (by decide +kernel), tw_in 835 (by decide +kernel) (by decide +kernel), by decide, by decide +kernel, by decide +kernel, by decide +kernel⟩
theorem ci_U_counted : CIV yX11_counted cX11_counted 2 (some .int) 1 := ⟨tw_in 850 (by decide +kernel) (by decide +kernel), tw_in 80 (by decide +kernel) (by decide +kernel), tw_in 849 (by decide +kernel) (by decide +kernel), tw_in 25 (by decide +kernel) (by decide +kernel), by decide, by decide +kernel, by decide +kernel, by decide +kernel⟩
theorem ci_U_count : CIV yX11_count cX11_count 2 (some .int) 1 := ⟨tw_in 846 (by decide +kernel) (by decide +kernel), tw_in 80 (by decide +kernel) (by decide +kernel), tw_in 844 (by decide +kernel) (by decide +kernel), tw_in 845 (by decide +kernel) (by decide +kernel), by decide, by decide +kernel, by decide +kernel, by decide +kernel⟩
theorem ci_U_mix : CIS yX11_mix cX11_mix 3 (some .long) 2 := ⟨tw_in 858 (by decide +kernel) (by decide +kernel), tw_in 80 (by decide +kernel) (by decide +kernel), tw_in 857 (by decide +kernel) (by decide +kernel), by decide, by decide +kernel, by decide +kernel, by decide +kernel⟩
theorem ci_U_mixTexts : CIV yX11_mixTexts cX11_mixTexts 6 (some .long) 1 := ⟨tw_in 863 (by decide +kernel) (by decide +kernel), tw_in 80 (by decide +kernel) (by decide +kernel), tw_in 862 (by decide +kernel) (by decide +kernel), tw_in 26 (by decide +kernel) (by decide +kernel), by decide, by decide +kernel, by decide +kernel, by decide +kernel⟩
theorem ci_U_mixAnswers : CIV yX11_mixAnswers cX11_mixAnswers 7 (some .long) 2 := ⟨tw_in 875 (by decide +kernel) (by decide +kernel), tw_in 80 (by decide +kernel) (by decide +kernel), tw_in 874 (by decide +kernel) (by decide +kernel), tw_in 28 (by decide +kernel) (by decide +kernel), by decide, by decide +kernel, by decide +kernel, by decide +kernel⟩
theorem ci_U_mixReport : CIV yX11_mixReport cX11_mixReport 7 (some .long) 2 := ⟨tw_in 871 (by decide +kernel) (by decide +kernel), tw_in 80 (by decide +kernel) (by decide +kernel), tw_in 870 (by decide +kernel) (by decide +kernel), tw_in 27 (by decide +kernel) (by decide +kernel), by decide, by decide +kernel, by decide +kernel, by decide +kernel⟩
theorem ci_U_mixEnds : CIV yX11_mixEnds cX11_mixEnds 6 (some .long) 1 := ⟨tw_in 879 (by decide +kernel) (by decide +kernel), tw_in 80 (by decide +kernel) (by decide +kernel), tw_in 878 (by decide +kernel) (by decide +kernel), tw_in 29 (by decide +kernel) (by decide +kernel), by decide, by decide +kernel, by decide +kernel, by decide +kernel⟩
theorem ci_U_digest : CIV yX11_digest cX11_digest 4 (some .long) 0 := ⟨tw_in 854 (by decide +kernel) (by decide +kernel), tw_in 80 (by decide +kernel) (by decide +kernel), tw_in 852 (by decide +kernel) (by decide +kernel), tw_in 853 (by decide +kernel) (by decide +kernel), by decide, by decide +kernel, by decide +kernel, by decide +kernel⟩
theorem ci_Mo_in : CIS yX12_in cX12_in 3 (some .boolean) 3 := ⟨tw_in 1029 (by decide +kernel) (by decide +kernel), tw_in 92 (by decide +kernel) (by decide +kernel), tw_in 1028 (by decide +kernel) (by decide +kernel), by decide, by decide +kernel, by decide +kernel, by decide +kernel⟩
theorem ci_Mo_isIn : CIS yX12_isIn cX12_isIn 2 (some .boolean) 2 := ⟨tw_in 1209 (by decide +kernel) (by decide +kernel), tw_in 92 (by decide +kernel) (by decide +kernel), tw_in 1208 (by decide +kernel) (by decide +kernel), by decide, by decide +kernel, by decide +kernel, by decide +kernel⟩
theorem ci_Mo_isTwo : CIS yX12_isTwo cX12_isTwo 1 (some .boolean) 1 := ⟨tw_in 1090 (by decide +kernel) (by decide +kernel), tw_in 92 (by decide +kernel) (by decide +kernel), tw_in 1089 (by decide +kernel) (by decide +kernel), by decide, by decide +kernel, by decide +kernel, by decide +kernel⟩
theorem ci_Mo_bitsOf : CIS yX12_bitsOf cX12_bitsOf 11 (some .int) 2 := ⟨tw_in 1179 (by decide +kernel) (by decide +kernel), tw_in 92 (by decide +kernel) (by decide +kernel), tw_in 1178 (by decide +kernel) (by decide +kernel), by decide, by decide +kernel, by decide +kernel, by decide +kernel⟩
theorem ci_Mo_divided : CIS yX12_divided cX12_divided 5 (some .int) 2 := ⟨tw_in 1176 (by decide +kernel) (by decide +kernel), tw_in 92 (by decide +kernel) (by decide +kernel), tw_in 1175 (by decide +kernel) (by decide +kernel), by decide, by decide +kernel, by decide +kernel, by decide +kernel⟩
theorem ci_Mo_added : CIS yX12_added cX12_added 9 (some .int) 2 := ⟨tw_in 1256 (by decide +kernel) (by decide +kernel), tw_in 92 (by decide +kernel) (by decide +kernel), tw_in 1255 (by decide +kernel) (by decide +kernel), by decide, by decide +kernel, by decide +kernel, by decide +kernel⟩
theorem ci_Mo_isText : CIS yX12_isText cX12_isText 1 (some .boolean) 1 := ⟨tw_in 1026 (by decide +kernel) (by decide +kernel), tw_in 92 (by decide +kernel) (by decide +kernel), tw_in 1025 (by decide +kernel) (by decide +kernel), by decide, by decide +kernel, by decide +kernel, by decide +kernel⟩
theorem ci_Mo_roomOf : CIS yX12_roomOf cX12_roomOf 1 (some .int) 1 := ⟨tw_in 1032 (by decide +kernel) (by decide +kernel), tw_in 92 (by decide +kernel) (by decide +kernel), tw_in 1031 (by decide +kernel) (by decide +kernel), by decide, by decide +kernel, by decide +kernel, by decide +kernel⟩
theorem ci_Mo_type : CIV yX12_type cX12_type 3 (some .int) 2 := ⟨tw_in 1023 (by decide +kernel) (by decide +kernel), tw_in 92 (by decide +kernel) (by decide +kernel), tw_in 1021 (by decide +kernel) (by decide +kernel), tw_in 1022 (by decide +kernel) (by decide +kernel), by decide, by decide +kernel, by decide +kernel, by decide +kernel⟩
theorem ci_Mo_wipe : CIV yX12_wipe cX12_wipe 3 (some .int) 1 := ⟨tw_in 1036 (by decide +kernel) (by decide +kernel), tw_in 92 (by decide +kernel) (by decide +kernel), tw_in 1034 (by decide +kernel) (by decide +kernel), tw_in 1035 (by decide +kernel) (by decide +kernel), by decide, by decide +kernel, by decide +kernel, by decide +kernel⟩
theorem ci_Mo_undo : CIV yX12_undo cX12_undo 2 (some .int) 1 := ⟨tw_in 1040 (by decide +kernel) (by decide +kernel), tw_in 92 (by decide +kernel) (by decide +kernel), tw_in 1038 (by decide +kernel) (by decide +kernel), tw_in 1039 (by decide +kernel) (by decide +kernel), by decide, by decide +kernel, by decide +kernel, by decide +kernel⟩
theorem ci_Mo_isSheet : CIS yX12_isSheet cX12_isSheet 1 (some .boolean) 1 := ⟨tw_in 1047 (by decide +kernel) (by decide +kernel), tw_in 92 (by decide +kernel) (by decide +kernel), tw_in 1046 (by decide +kernel) (by decide +kernel), by decide, by decide +kernel, by decide +kernel, by decide +kernel⟩
theorem ci_Mo_meets : CIV yX12_meets cX12_meets 2 (some .int) 1 := ⟨tw_in 1051 (by decide +kernel) (by decide +kernel), tw_in 92 (by decide +kernel) (by decide +kernel), tw_in 1050 (by decide +kernel) (by decide +kernel), tw_in 30 (by decide +kernel) (by decide +kernel), by decide, by decide +kernel, by decide +kernel, by decide +kernel⟩
theorem ci_Mo_read : CIV yX12_read cX12_read 4 (some .int) 2 := ⟨tw_in 1044 (by decide +kernel) (by decide +kernel), tw_in 92 (by decide +kernel) (by decide +kernel), tw_in 1042 (by decide +kernel) (by decide +kernel), tw_in 1043 (by decide +kernel) (by decide +kernel), by decide, by decide +kernel, by decide +kernel, by decide +kernel⟩
theorem ci_Mo_byteAt : CIV yX12_byteAt cX12_byteAt 3 (some .int) 2 := ⟨tw_in 1076 (by decide +kernel) (by decide +kernel), tw_in 92 (by decide +kernel) (by decide +kernel), tw_in 1075 (by decide +kernel) (by decide +kernel), tw_in 35 (by decide +kernel) (by decide +kernel), by decide, by decide +kernel, by decide +kernel, by decide +kernel⟩
theorem ci_Mo_valueAt : CIV yX12_valueAt cX12_valueAt 4 (some .int) 2 := ⟨tw_in 1072 (by decide +kernel) (by decide +kernel), tw_in 92 (by decide +kernel) (by decide +kernel), tw_in 1071 (by decide +kernel) (by decide +kernel), tw_in 34 (by decide +kernel) (by decide +kernel), by decide, by decide +kernel, by decide +kernel, by decide +kernel⟩
theorem ci_Mo_readsTable : CIV yX12_readsTable cX12_readsTable 6 (some .int) 1 := ⟨tw_in 1068 (by decide +kernel) (by decide +kernel), tw_in 92 (by decide +kernel) (by decide +kernel), tw_in 1067 (by decide +kernel) (by decide +kernel), tw_in 33 (by decide +kernel) (by decide +kernel), by decide, by decide +kernel, by decide +kernel, by decide +kernel⟩
theorem ci_Mo_kindOf : CIS yX12_kindOf cX12_kindOf 1 (some .int) 1 := ⟨tw_in 1083 (by decide +kernel) (by decide +kernel), tw_in 92 (by decide +kernel) (by decide +kernel), tw_in 1082 (by decide +kernel) (by decide +kernel), by decide, by decide +kernel, by decide +kernel, by decide +kernel⟩
theorem ci_Mo_readsSteps : CIV yX12_readsSteps cX12_readsSteps 5 (some .int) 0 := ⟨tw_in 1080 (by decide +kernel) (by decide +kernel), tw_in 92 (by decide +kernel) (by decide +kernel), tw_in 1079 (by decide +kernel) (by decide +kernel), tw_in 36 (by decide +kernel) (by decide +kernel), by decide, by decide +kernel, by decide +kernel, by decide +kernel⟩
theorem ci_Mo_reads : CIV yX12_reads cX12_reads 1 none 0 := ⟨tw_in 1064 (by decide +kernel) (by decide +kernel), tw_in 92 (by decide +kernel) (by decide +kernel), tw_in 1063 (by decide +kernel) (by decide +kernel), tw_in 32 (by decide +kernel) (by decide +kernel), by decide, by decide +kernel, by decide +kernel, by decide +kernel⟩
theorem ci_Mo_faultOf : CIV yX12_faultOf cX12_faultOf 2 (some .int) 1 := ⟨tw_in 1060 (by decide +kernel) (by decide +kernel), tw_in 92 (by decide +kernel) (by decide +kernel), tw_in 1059 (by decide +kernel) (by decide +kernel), tw_in 31 (by decide +kernel) (by decide +kernel), by decide, by decide +kernel, by decide +kernel, by decide +kernel⟩
theorem ci_Mo_fault : CIV yX12_fault cX12_fault 2 (some .int) 1 := ⟨tw_in 1056 (by decide +kernel) (by decide +kernel), tw_in 92 (by decide +kernel) (by decide +kernel), tw_in 1054 (by decide +kernel) (by decide +kernel), tw_in 1055 (by decide +kernel) (by decide +kernel), by decide, by decide +kernel, by decide +kernel, by decide +kernel⟩
theorem ci_Mo_rowOf : CIV yX12_rowOf cX12_rowOf 4 (some .int) 3 := ⟨tw_in 1094 (by decide +kernel) (by decide +kernel), tw_in 92 (by decide +kernel) (by decide +kernel), tw_in 1093 (by decide +kernel) (by decide +kernel), tw_in 37 (by decide +kernel) (by decide +kernel), by decide, by decide +kernel, by decide +kernel, by decide +kernel⟩
theorem ci_Mo_row : CIV yX12_row cX12_row 4 (some .int) 3 := ⟨tw_in 1087 (by decide +kernel) (by decide +kernel), tw_in 92 (by decide +kernel) (by decide +kernel), tw_in 1085 (by decide +kernel) (by decide +kernel), tw_in 1086 (by decide +kernel) (by decide +kernel), by decide, by decide +kernel, by decide +kernel, by decide +kernel⟩
theorem ci_Mo_stepOf : CIV yX12_stepOf cX12_stepOf 3 (some .int) 2 := ⟨tw_in 1102 (by decide +kernel) (by decide +kernel), tw_in 92 (by decide +kernel) (by decide +kernel), tw_in 1101 (by decide +kernel) (by decide +kernel), tw_in 38 (by decide +kernel) (by decide +kernel), by decide, by decide +kernel, by decide +kernel, by decide +kernel⟩
theorem ci_Mo_step : CIV yX12_step cX12_step 3 (some .int) 2 := ⟨tw_in 1098 (by decide +kernel) (by decide +kernel), tw_in 92 (by decide +kernel) (by decide +kernel), tw_in 1096 (by decide +kernel) (by decide +kernel), tw_in 1097 (by decide +kernel) (by decide +kernel), by decide, by decide +kernel, by decide +kernel, by decide +kernel⟩
theorem ci_Mo_end : CIV yX12_end cX12_end 3 (some .int) 1 := ⟨tw_in 1106 (by decide +kernel) (by decide +kernel), tw_in 92 (by decide +kernel) (by decide +kernel), tw_in 1104 (by decide +kernel) (by decide +kernel), tw_in 1105 (by decide +kernel) (by decide +kernel), by decide, by decide +kernel, by decide +kernel, by decide +kernel⟩
theorem ci_Mo_logs : CIV yX12_logs cX12_logs 3 none 2 := ⟨tw_in 1138 (by decide +kernel) (by decide +kernel), tw_in 92 (by decide +kernel) (by decide +kernel), tw_in 1137 (by decide +kernel) (by decide +kernel), tw_in 45 (by decide +kernel) (by decide +kernel), by decide, by decide +kernel, by decide +kernel, by decide +kernel⟩
theorem ci_Mo_puts : CIV yX12_puts cX12_puts 4 none 3 := ⟨tw_in 1165 (by decide +kernel) (by decide +kernel), tw_in 92 (by decide +kernel) (by decide +kernel), tw_in 1164 (by decide +kernel) (by decide +kernel), tw_in 51 (by decide +kernel) (by decide +kernel), by decide, by decide +kernel, by decide +kernel, by decide +kernel⟩
theorem ci_Mo_comesIn : CIV yX12_comesIn cX12_comesIn 2 none 0 := ⟨tw_in 1217 (by decide +kernel) (by decide +kernel), tw_in 92 (by decide +kernel) (by decide +kernel), tw_in 1216 (by decide +kernel) (by decide +kernel), tw_in 61 (by decide +kernel) (by decide +kernel), by decide, by decide +kernel, by decide +kernel, by decide +kernel⟩
theorem ci_Mo_comesOfInner : CIV yX12_comesOfInner cX12_comesOfInner 2 none 0 := ⟨tw_in 1146 (by decide +kernel) (by decide +kernel), tw_in 92 (by decide +kernel) (by decide +kernel), tw_in 1145 (by decide +kernel) (by decide +kernel), tw_in 47 (by decide +kernel) (by decide +kernel), by decide, by decide +kernel, by decide +kernel, by decide +kernel⟩
theorem ci_Mo_stays : CIS yX12_stays cX12_stays 6 (some .int) 5 := ⟨tw_in 1157 (by decide +kernel) (by decide +kernel), tw_in 92 (by decide +kernel) (by decide +kernel), tw_in 1156 (by decide +kernel) (by decide +kernel), by decide, by decide +kernel, by decide +kernel, by decide +kernel⟩
theorem ci_Mo_groups : CIV yX12_groups cX12_groups 3 none 0 := ⟨tw_in 1169 (by decide +kernel) (by decide +kernel), tw_in 92 (by decide +kernel) (by decide +kernel), tw_in 1168 (by decide +kernel) (by decide +kernel), tw_in 52 (by decide +kernel) (by decide +kernel), by decide, by decide +kernel, by decide +kernel, by decide +kernel⟩
theorem ci_Mo_answerOf : CIV yX12_answerOf cX12_answerOf 12 (some .int) 2 := ⟨tw_in 1173 (by decide +kernel) (by decide +kernel), tw_in 92 (by decide +kernel) (by decide +kernel), tw_in 1172 (by decide +kernel) (by decide +kernel), tw_in 53 (by decide +kernel) (by decide +kernel), by decide, by decide +kernel, by decide +kernel, by decide +kernel⟩
theorem ci_Mo_isNew : CIV yX12_isNew cX12_isNew 7 (some .boolean) 3 := ⟨tw_in 1161 (by decide +kernel) (by decide +kernel), tw_in 92 (by decide +kernel) (by decide +kernel), tw_in 1160 (by decide +kernel) (by decide +kernel), tw_in 50 (by decide +kernel) (by decide +kernel), by decide, by decide +kernel, by decide +kernel, by decide +kernel⟩
theorem ci_Mo_goes : CIV yX12_goes cX12_goes 9 none 6 := ⟨tw_in 1154 (by decide +kernel) (by decide +kernel), tw_in 92 (by decide +kernel) (by decide +kernel), tw_in 1153 (by decide +kernel) (by decide +kernel), tw_in 49 (by decide +kernel) (by decide +kernel), by decide, by decide +kernel, by decide +kernel, by decide +kernel⟩
theorem ci_Mo_goThrough : CIV yX12_goThrough cX12_goThrough 6 none 4 := ⟨tw_in 1150 (by decide +kernel) (by decide +kernel), tw_in 92 (by decide +kernel) (by decide +kernel), tw_in 1149 (by decide +kernel) (by decide +kernel), tw_in 48 (by decide +kernel) (by decide +kernel), by decide, by decide +kernel, by decide +kernel, by decide +kernel⟩
theorem ci_Mo_asksFor : CIV yX12_asksFor cX12_asksFor 4 none 1 := ⟨tw_in 1142 (by decide +kernel) (by decide +kernel), tw_in 92 (by decide +kernel) (by decide +kernel), tw_in 1141 (by decide +kernel) (by decide +kernel), tw_in 46 (by decide +kernel) (by decide +kernel), by decide, by decide +kernel, by decide +kernel, by decide +kernel⟩
theorem ci_Mo_opens : CIV yX12_opens cX12_opens 3 none 2 := ⟨tw_in 1134 (by decide +kernel) (by decide +kernel), tw_in 92 (by decide +kernel) (by decide +kernel), tw_in 1133 (by decide +kernel) (by decide +kernel), tw_in 44 (by decide +kernel) (by decide +kernel), by decide, by decide +kernel, by decide +kernel, by decide +kernel⟩
theorem ci_Mo_begins : CIV yX12_begins cX12_begins 3 none 1 := ⟨tw_in 1130 (by decide +kernel) (by decide +kernel), tw_in 92 (by decide +kernel) (by decide +kernel), tw_in 1129 (by decide +kernel) (by decide +kernel), tw_in 43 (by decide +kernel) (by decide +kernel), by decide, by decide +kernel, by decide +kernel, by decide +kernel⟩
theorem ci_Mo_rowByRow : CIV yX12_rowByRow cX12_rowByRow 3 none 0 := ⟨tw_in 1126 (by decide +kernel) (by decide +kernel), tw_in 92 (by decide +kernel) (by decide +kernel), tw_in 1125 (by decide +kernel) (by decide +kernel), tw_in 42 (by decide +kernel) (by decide +kernel), by decide, by decide +kernel, by decide +kernel, by decide +kernel⟩
theorem ci_Mo_speaksNow : CIV yX12_speaksNow cX12_speaksNow 3 (some .int) 0 := ⟨tw_in 1194 (by decide +kernel) (by decide +kernel), tw_in 92 (by decide +kernel) (by decide +kernel), tw_in 1193 (by decide +kernel) (by decide +kernel), tw_in 56 (by decide +kernel) (by decide +kernel), by decide, by decide +kernel, by decide +kernel, by decide +kernel⟩
theorem ci_Mo_isOfV : CIV yX12_isOfV cX12_isOfV 3 (some .boolean) 0 := ⟨tw_in 1198 (by decide +kernel) (by decide +kernel), tw_in 92 (by decide +kernel) (by decide +kernel), tw_in 1197 (by decide +kernel) (by decide +kernel), tw_in 57 (by decide +kernel) (by decide +kernel), by decide, by decide +kernel, by decide +kernel, by decide +kernel⟩
theorem ci_Mo_findsDomain : CIV yX12_findsDomain cX12_findsDomain 4 none 0 := ⟨tw_in 1190 (by decide +kernel) (by decide +kernel), tw_in 92 (by decide +kernel) (by decide +kernel), tw_in 1189 (by decide +kernel) (by decide +kernel), tw_in 55 (by decide +kernel) (by decide +kernel), by decide, by decide +kernel, by decide +kernel, by decide +kernel⟩
theorem ci_Mo_joinAt : CIV yX12_joinAt cX12_joinAt 3 (some .int) 0 := ⟨tw_in 1206 (by decide +kernel) (by decide +kernel), tw_in 92 (by decide +kernel) (by decide +kernel), tw_in 1205 (by decide +kernel) (by decide +kernel), tw_in 59 (by decide +kernel) (by decide +kernel), by decide, by decide +kernel, by decide +kernel, by decide +kernel⟩
theorem ci_Mo_plans : CIV yX12_plans cX12_plans 4 none 0 := ⟨tw_in 1202 (by decide +kernel) (by decide +kernel), tw_in 92 (by decide +kernel) (by decide +kernel), tw_in 1201 (by decide +kernel) (by decide +kernel), tw_in 58 (by decide +kernel) (by decide +kernel), by decide, by decide +kernel, by decide +kernel, by decide +kernel⟩
theorem ci_Mo_isLike : CIV yX12_isLike cX12_isLike 4 (some .boolean) 1 := ⟨tw_in 1225 (by decide +kernel) (by decide +kernel), tw_in 92 (by decide +kernel) (by decide +kernel), tw_in 1224 (by decide +kernel) (by decide +kernel), tw_in 63 (by decide +kernel) (by decide +kernel), by decide, by decide +kernel, by decide +kernel, by decide +kernel⟩
theorem ci_Mo_joins : CIV yX12_joins cX12_joins 4 none 1 := ⟨tw_in 1213 (by decide +kernel) (by decide +kernel), tw_in 92 (by decide +kernel) (by decide +kernel), tw_in 1212 (by decide +kernel) (by decide +kernel), tw_in 60 (by decide +kernel) (by decide +kernel), by decide, by decide +kernel, by decide +kernel, by decide +kernel⟩
theorem ci_Mo_does : CIV yX12_does cX12_does 6 none 1 := ⟨tw_in 1221 (by decide +kernel) (by decide +kernel), tw_in 92 (by decide +kernel) (by decide +kernel), tw_in 1220 (by decide +kernel) (by decide +kernel), tw_in 62 (by decide +kernel) (by decide +kernel), by decide, by decide +kernel, by decide +kernel, by decide +kernel⟩
theorem ci_Mo_free : CIV yX12_free cX12_free 4 none 0 := ⟨tw_in 1186 (by decide +kernel) (by decide +kernel), tw_in 92 (by decide +kernel) (by decide +kernel), tw_in 1185 (by decide +kernel) (by decide +kernel), tw_in 54 (by decide +kernel) (by decide +kernel), by decide, by decide +kernel, by decide +kernel, by decide +kernel⟩
theorem ci_Mo_runs : CIV yX12_runs cX12_runs 2 none 1 := ⟨tw_in 1122 (by decide +kernel) (by decide +kernel), tw_in 92 (by decide +kernel) (by decide +kernel), tw_in 1121 (by decide +kernel) (by decide +kernel), tw_in 41 (by decide +kernel) (by decide +kernel), by decide, by decide +kernel, by decide +kernel, by decide +kernel⟩
theorem ci_Mo_runsTold : CIV yX12_runsTold cX12_runsTold 1 none 0 := ⟨tw_in 1118 (by decide +kernel) (by decide +kernel), tw_in 92 (by decide +kernel) (by decide +kernel), tw_in 1117 (by decide +kernel) (by decide +kernel), tw_in 40 (by decide +kernel) (by decide +kernel), by decide, by decide +kernel, by decide +kernel, by decide +kernel⟩
theorem ci_Mo_errorOf : CIV yX12_errorOf cX12_errorOf 2 (some .int) 1 := ⟨tw_in 1114 (by decide +kernel) (by decide +kernel), tw_in 92 (by decide +kernel) (by decide +kernel), tw_in 1113 (by decide +kernel) (by decide +kernel), tw_in 39 (by decide +kernel) (by decide +kernel), by decide, by decide +kernel, by decide +kernel, by decide +kernel⟩
theorem ci_Mo_error : CIV yX12_error cX12_error 2 (some .int) 1 := ⟨tw_in 1110 (by decide +kernel) (by decide +kernel), tw_in 92 (by decide +kernel) (by decide +kernel), tw_in 1108 (by decide +kernel) (by decide +kernel), tw_in 1109 (by decide +kernel) (by decide +kernel), by decide, by decide +kernel, by decide +kernel, by decide +kernel⟩
theorem ci_Mo_answerNow : CIV yX12_answerNow cX12_answerNow 3 (some .int) 2 := ⟨tw_in 1237 (by decide +kernel) (by decide +kernel), tw_in 92 (by decide +kernel) (by decide +kernel), tw_in 1236 (by decide +kernel) (by decide +kernel), tw_in 65 (by decide +kernel) (by decide +kernel), by decide, by decide +kernel, by decide +kernel, by decide +kernel⟩
theorem ci_Mo_answerFor : CIV yX12_answerFor cX12_answerFor 3 (some .int) 2 := ⟨tw_in 1233 (by decide +kernel) (by decide +kernel), tw_in 92 (by decide +kernel) (by decide +kernel), tw_in 1232 (by decide +kernel) (by decide +kernel), tw_in 64 (by decide +kernel) (by decide +kernel), by decide, by decide +kernel, by decide +kernel, by decide +kernel⟩
theorem ci_Mo_answer : CIV yX12_answer cX12_answer 3 (some .int) 2 := ⟨tw_in 1229 (by decide +kernel) (by decide +kernel), tw_in 92 (by decide +kernel) (by decide +kernel), tw_in 1227 (by decide +kernel) (by decide +kernel), tw_in 1228 (by decide +kernel) (by decide +kernel), by decide, by decide +kernel, by decide +kernel, by decide +kernel⟩
theorem ci_Mo_sameOf : CIV yX12_sameOf cX12_sameOf 3 (some .int) 0 := ⟨tw_in 1245 (by decide +kernel) (by decide +kernel), tw_in 92 (by decide +kernel) (by decide +kernel), tw_in 1244 (by decide +kernel) (by decide +kernel), tw_in 66 (by decide +kernel) (by decide +kernel), by decide, by decide +kernel, by decide +kernel, by decide +kernel⟩
theorem ci_Mo_same : CIV yX12_same cX12_same 1 (some .int) 0 := ⟨tw_in 1241 (by decide +kernel) (by decide +kernel), tw_in 92 (by decide +kernel) (by decide +kernel), tw_in 1239 (by decide +kernel) (by decide +kernel), tw_in 1240 (by decide +kernel) (by decide +kernel), by decide, by decide +kernel, by decide +kernel, by decide +kernel⟩
theorem ci_Mo_totalOf : CIV yX12_totalOf cX12_totalOf 4 (some .int) 0 := ⟨tw_in 1253 (by decide +kernel) (by decide +kernel), tw_in 92 (by decide +kernel) (by decide +kernel), tw_in 1252 (by decide +kernel) (by decide +kernel), tw_in 67 (by decide +kernel) (by decide +kernel), by decide, by decide +kernel, by decide +kernel, by decide +kernel⟩
theorem ci_Mo_total : CIV yX12_total cX12_total 1 (some .int) 0 := ⟨tw_in 1249 (by decide +kernel) (by decide +kernel), tw_in 92 (by decide +kernel) (by decide +kernel), tw_in 1247 (by decide +kernel) (by decide +kernel), tw_in 1248 (by decide +kernel) (by decide +kernel), by decide, by decide +kernel, by decide +kernel, by decide +kernel⟩
theorem ci_Mo_speaksOf : CIV yX12_speaksOf cX12_speaksOf 1 (some .int) 0 := ⟨tw_in 1265 (by decide +kernel) (by decide +kernel), tw_in 92 (by decide +kernel) (by decide +kernel), tw_in 1264 (by decide +kernel) (by decide +kernel), tw_in 68 (by decide +kernel) (by decide +kernel), by decide, by decide +kernel, by decide +kernel, by decide +kernel⟩
theorem ci_Mo_speaks : CIV yX12_speaks cX12_speaks 1 (some .int) 0 := ⟨tw_in 1261 (by decide +kernel) (by decide +kernel), tw_in 92 (by decide +kernel) (by decide +kernel), tw_in 1259 (by decide +kernel) (by decide +kernel), tw_in 1260 (by decide +kernel) (by decide +kernel), by decide, by decide +kernel, by decide +kernel, by decide +kernel⟩
theorem ci_Mo_domainOf : CIV yX12_domainOf cX12_domainOf 3 (some .int) 2 := ⟨tw_in 1273 (by decide +kernel) (by decide +kernel), tw_in 92 (by decide +kernel) (by decide +kernel), tw_in 1272 (by decide +kernel) (by decide +kernel), tw_in 69 (by decide +kernel) (by decide +kernel), by decide, by decide +kernel, by decide +kernel, by decide +kernel⟩
theorem ci_Mo_domain : CIV yX12_domain cX12_domain 3 (some .int) 2 := ⟨tw_in 1269 (by decide +kernel) (by decide +kernel), tw_in 92 (by decide +kernel) (by decide +kernel), tw_in 1267 (by decide +kernel) (by decide +kernel), tw_in 1268 (by decide +kernel) (by decide +kernel), by decide, by decide +kernel, by decide +kernel, by decide +kernel⟩
theorem ci_Mo_planOf : CIV yX12_planOf cX12_planOf 2 (some .int) 1 := ⟨tw_in 1281 (by decide +kernel) (by decide +kernel), tw_in 92 (by decide +kernel) (by decide +kernel), tw_in 1280 (by decide +kernel) (by decide +kernel), tw_in 70 (by decide +kernel) (by decide +kernel), by decide, by decide +kernel, by decide +kernel, by decide +kernel⟩
theorem ci_Mo_plan : CIV yX12_plan cX12_plan 2 (some .int) 1 := ⟨tw_in 1277 (by decide +kernel) (by decide +kernel), tw_in 92 (by decide +kernel) (by decide +kernel), tw_in 1275 (by decide +kernel) (by decide +kernel), tw_in 1276 (by decide +kernel) (by decide +kernel), by decide, by decide +kernel, by decide +kernel, by decide +kernel⟩
theorem ci_Mo_costOf : CIV yX12_costOf cX12_costOf 3 (some .int) 2 := ⟨tw_in 1289 (by decide +kernel) (by decide +kernel), tw_in 92 (by decide +kernel) (by decide +kernel), tw_in 1288 (by decide +kernel) (by decide +kernel), tw_in 71 (by decide +kernel) (by decide +kernel), by decide, by decide +kernel, by decide +kernel, by decide +kernel⟩
theorem ci_Mo_cost : CIV yX12_cost cX12_cost 3 (some .int) 2 := ⟨tw_in 1285 (by decide +kernel) (by decide +kernel), tw_in 92 (by decide +kernel) (by decide +kernel), tw_in 1283 (by decide +kernel) (by decide +kernel), tw_in 1284 (by decide +kernel) (by decide +kernel), by decide, by decide +kernel, by decide +kernel, by decide +kernel⟩
theorem ci_Mo_logOf : CIV yX12_logOf cX12_logOf 3 (some .int) 2 := ⟨tw_in 1297 (by decide +kernel) (by decide +kernel), tw_in 92 (by decide +kernel) (by decide +kernel), tw_in 1296 (by decide +kernel) (by decide +kernel), tw_in 72 (by decide +kernel) (by decide +kernel), by decide, by decide +kernel, by decide +kernel, by decide +kernel⟩
theorem ci_Mo_log : CIV yX12_log cX12_log 3 (some .int) 2 := ⟨tw_in 1293 (by decide +kernel) (by decide +kernel), tw_in 92 (by decide +kernel) (by decide +kernel), tw_in 1291 (by decide +kernel) (by decide +kernel), tw_in 1292 (by decide +kernel) (by decide +kernel), by decide, by decide +kernel, by decide +kernel, by decide +kernel⟩
theorem ci_Mo_spareOf : CIV yX12_spareOf cX12_spareOf 6 (some .int) 0 := ⟨tw_in 1305 (by decide +kernel) (by decide +kernel), tw_in 92 (by decide +kernel) (by decide +kernel), tw_in 1304 (by decide +kernel) (by decide +kernel), tw_in 73 (by decide +kernel) (by decide +kernel), by decide, by decide +kernel, by decide +kernel, by decide +kernel⟩
theorem ci_Mo_spare : CIV yX12_spare cX12_spare 1 (some .int) 0 := ⟨tw_in 1301 (by decide +kernel) (by decide +kernel), tw_in 92 (by decide +kernel) (by decide +kernel), tw_in 1299 (by decide +kernel) (by decide +kernel), tw_in 1300 (by decide +kernel) (by decide +kernel), by decide, by decide +kernel, by decide +kernel, by decide +kernel⟩
theorem ci_Mo_sheet : CIV yX12_sheet cX12_sheet 5 (some .int) 3 := ⟨tw_in 1309 (by decide +kernel) (by decide +kernel), tw_in 92 (by decide +kernel) (by decide +kernel), tw_in 1307 (by decide +kernel) (by decide +kernel), tw_in 1308 (by decide +kernel) (by decide +kernel), by decide, by decide +kernel, by decide +kernel, by decide +kernel⟩
theorem ci_Mo_lose : CIV yX12_lose cX12_lose 2 (some .int) 1 := ⟨tw_in 1313 (by decide +kernel) (by decide +kernel), tw_in 92 (by decide +kernel) (by decide +kernel), tw_in 1311 (by decide +kernel) (by decide +kernel), tw_in 1312 (by decide +kernel) (by decide +kernel), by decide, by decide +kernel, by decide +kernel, by decide +kernel⟩
theorem ci_Mo_lacks : CIV yX12_lacks cX12_lacks 4 (some .int) 3 := ⟨tw_in 1321 (by decide +kernel) (by decide +kernel), tw_in 92 (by decide +kernel) (by decide +kernel), tw_in 1320 (by decide +kernel) (by decide +kernel), tw_in 74 (by decide +kernel) (by decide +kernel), by decide, by decide +kernel, by decide +kernel, by decide +kernel⟩
theorem ci_Mo_keep : CIV yX12_keep cX12_keep 4 none 3 := ⟨tw_in 1325 (by decide +kernel) (by decide +kernel), tw_in 92 (by decide +kernel) (by decide +kernel), tw_in 1324 (by decide +kernel) (by decide +kernel), tw_in 75 (by decide +kernel) (by decide +kernel), by decide, by decide +kernel, by decide +kernel, by decide +kernel⟩
theorem ci_Mo_put : CIV yX12_put cX12_put 6 (some .int) 4 := ⟨tw_in 1317 (by decide +kernel) (by decide +kernel), tw_in 92 (by decide +kernel) (by decide +kernel), tw_in 1315 (by decide +kernel) (by decide +kernel), tw_in 1316 (by decide +kernel) (by decide +kernel), by decide, by decide +kernel, by decide +kernel, by decide +kernel⟩
theorem ci_Mo_get : CIV yX12_get cX12_get 5 (some .int) 3 := ⟨tw_in 1329 (by decide +kernel) (by decide +kernel), tw_in 92 (by decide +kernel) (by decide +kernel), tw_in 1327 (by decide +kernel) (by decide +kernel), tw_in 1328 (by decide +kernel) (by decide +kernel), by decide, by decide +kernel, by decide +kernel, by decide +kernel⟩
theorem ci_Mo_copy : CIV yX12_copy cX12_copy 7 (some .int) 5 := ⟨tw_in 1334 (by decide +kernel) (by decide +kernel), tw_in 92 (by decide +kernel) (by decide +kernel), tw_in 1332 (by decide +kernel) (by decide +kernel), tw_in 1333 (by decide +kernel) (by decide +kernel), by decide, by decide +kernel, by decide +kernel, by decide +kernel⟩
theorem ci_Mo_write : CIV yX12_write cX12_write 4 (some .int) 2 := ⟨tw_in 1338 (by decide +kernel) (by decide +kernel), tw_in 92 (by decide +kernel) (by decide +kernel), tw_in 1336 (by decide +kernel) (by decide +kernel), tw_in 1337 (by decide +kernel) (by decide +kernel), by decide, by decide +kernel, by decide +kernel, by decide +kernel⟩
theorem ci_Mo_tellOf : CIV yX12_tellOf cX12_tellOf 2 (some .int) 1 := ⟨tw_in 1346 (by decide +kernel) (by decide +kernel), tw_in 92 (by decide +kernel) (by decide +kernel), tw_in 1345 (by decide +kernel) (by decide +kernel), tw_in 76 (by decide +kernel) (by decide +kernel), by decide, by decide +kernel, by decide +kernel, by decide +kernel⟩
theorem ci_Mo_count : CIV yX12_count cX12_count 2 (some .int) 1 := ⟨tw_in 1342 (by decide +kernel) (by decide +kernel), tw_in 92 (by decide +kernel) (by decide +kernel), tw_in 1340 (by decide +kernel) (by decide +kernel), tw_in 1341 (by decide +kernel) (by decide +kernel), by decide, by decide +kernel, by decide +kernel, by decide +kernel⟩
theorem ci_Mo_answerDigest : CIV yX12_answerDigest cX12_answerDigest 7 (some .long) 2 := ⟨tw_in 1361 (by decide +kernel) (by decide +kernel), tw_in 92 (by decide +kernel) (by decide +kernel), tw_in 1360 (by decide +kernel) (by decide +kernel), tw_in 78 (by decide +kernel) (by decide +kernel), by decide, by decide +kernel, by decide +kernel, by decide +kernel⟩
theorem ci_Mo_planDigest : CIV yX12_planDigest cX12_planDigest 7 (some .long) 2 := ⟨tw_in 1357 (by decide +kernel) (by decide +kernel), tw_in 92 (by decide +kernel) (by decide +kernel), tw_in 1356 (by decide +kernel) (by decide +kernel), tw_in 77 (by decide +kernel) (by decide +kernel), by decide, by decide +kernel, by decide +kernel, by decide +kernel⟩
theorem ci_Mo_digest : CIV yX12_digest cX12_digest 4 (some .long) 0 := ⟨tw_in 1350 (by decide +kernel) (by decide +kernel), tw_in 92 (by decide +kernel) (by decide +kernel), tw_in 1348 (by decide +kernel) (by decide +kernel), tw_in 1349 (by decide +kernel) (by decide +kernel), by decide, by decide +kernel, by decide +kernel, by decide +kernel⟩
end
