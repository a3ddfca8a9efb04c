-- ===== PART A: goes FIRST, ahead of the names: the tables' words, and 'selects' of the private methods out of them =====
/-- a private method of a class that the tables say can be made, by its rows of tables_1 -/
def lw_okq (q : MethodName × Nat) : Prop := (q.1.cls ≠ "java/lang/invoke/MethodHandle" ∧ q.1.cls ≠ "java/lang/invoke/VarHandle") ∧ Cond.instantiable q.1.cls q.2 ∈ tables_1 ∧ Cond.privateMethod q.1 ∈ tables_1 ∧ Cond.instanceMethod q.1 ∈ tables_1
theorem lw_p0 : lw_okq (⟨"NumberedSparks", "putOnTape", "(I)V"⟩, 11) := ⟨⟨by decide +kernel, by decide +kernel⟩, List.mem_of_getElem? (i := 19) (by decide +kernel), List.mem_of_getElem? (i := 318) (by decide +kernel), List.mem_of_getElem? (i := 319) (by decide +kernel)⟩
theorem lw_p1 : lw_okq (⟨"NumberedSparks$Reader", "advance", "()V"⟩, 9) := ⟨⟨by decide +kernel, by decide +kernel⟩, List.mem_of_getElem? (i := 70) (by decide +kernel), List.mem_of_getElem? (i := 344) (by decide +kernel), List.mem_of_getElem? (i := 345) (by decide +kernel)⟩
theorem lw_p2 : lw_okq (⟨"NumberedSparks$Reader", "byteAt", "(I)I"⟩, 9) := ⟨⟨by decide +kernel, by decide +kernel⟩, List.mem_of_getElem? (i := 70) (by decide +kernel), List.mem_of_getElem? (i := 348) (by decide +kernel), List.mem_of_getElem? (i := 349) (by decide +kernel)⟩
theorem lw_p3 : lw_okq (⟨"NumberedSparks$Reader", "readWorld", "()V"⟩, 9) := ⟨⟨by decide +kernel, by decide +kernel⟩, List.mem_of_getElem? (i := 70) (by decide +kernel), List.mem_of_getElem? (i := 359) (by decide +kernel), List.mem_of_getElem? (i := 360) (by decide +kernel)⟩
theorem lw_p4 : lw_okq (⟨"NumberedSparks$Reader", "needWord", "(Ljava/lang/String;)V"⟩, 9) := ⟨⟨by decide +kernel, by decide +kernel⟩, List.mem_of_getElem? (i := 70) (by decide +kernel), List.mem_of_getElem? (i := 364) (by decide +kernel), List.mem_of_getElem? (i := 365) (by decide +kernel)⟩
theorem lw_p5 : lw_okq (⟨"NumberedSparks$Reader", "takeWord", "(Ljava/lang/String;)Z"⟩, 9) := ⟨⟨by decide +kernel, by decide +kernel⟩, List.mem_of_getElem? (i := 70) (by decide +kernel), List.mem_of_getElem? (i := 368) (by decide +kernel), List.mem_of_getElem? (i := 369) (by decide +kernel)⟩
theorem lw_p6 : lw_okq (⟨"NumberedSparks$Reader", "isWord", "(Ljava/lang/String;)Z"⟩, 9) := ⟨⟨by decide +kernel, by decide +kernel⟩, List.mem_of_getElem? (i := 70) (by decide +kernel), List.mem_of_getElem? (i := 372) (by decide +kernel), List.mem_of_getElem? (i := 373) (by decide +kernel)⟩
theorem lw_p7 : lw_okq (⟨"NumberedSparks$Reader", "fail", "(I)V"⟩, 9) := ⟨⟨by decide +kernel, by decide +kernel⟩, List.mem_of_getElem? (i := 70) (by decide +kernel), List.mem_of_getElem? (i := 424) (by decide +kernel), List.mem_of_getElem? (i := 425) (by decide +kernel)⟩
theorem lw_p8 : lw_okq (⟨"NumberedSparks$Reader", "needNumber", "(II)I"⟩, 9) := ⟨⟨by decide +kernel, by decide +kernel⟩, List.mem_of_getElem? (i := 70) (by decide +kernel), List.mem_of_getElem? (i := 428) (by decide +kernel), List.mem_of_getElem? (i := 429) (by decide +kernel)⟩
theorem lw_p9 : lw_okq (⟨"NumberedSparks$Reader", "needSign", "(C)V"⟩, 9) := ⟨⟨by decide +kernel, by decide +kernel⟩, List.mem_of_getElem? (i := 70) (by decide +kernel), List.mem_of_getElem? (i := 436) (by decide +kernel), List.mem_of_getElem? (i := 437) (by decide +kernel)⟩
theorem lw_p10 : lw_okq (⟨"NumberedSparks$Reader", "readSeed", "()V"⟩, 9) := ⟨⟨by decide +kernel, by decide +kernel⟩, List.mem_of_getElem? (i := 70) (by decide +kernel), List.mem_of_getElem? (i := 441) (by decide +kernel), List.mem_of_getElem? (i := 442) (by decide +kernel)⟩
theorem lw_p11 : lw_okq (⟨"NumberedSparks$Reader", "readKind", "()V"⟩, 9) := ⟨⟨by decide +kernel, by decide +kernel⟩, List.mem_of_getElem? (i := 70) (by decide +kernel), List.mem_of_getElem? (i := 447) (by decide +kernel), List.mem_of_getElem? (i := 448) (by decide +kernel)⟩
theorem lw_p12 : lw_okq (⟨"NumberedSparks$Reader", "numberBehind", "(Ljava/lang/String;III)I"⟩, 9) := ⟨⟨by decide +kernel, by decide +kernel⟩, List.mem_of_getElem? (i := 70) (by decide +kernel), List.mem_of_getElem? (i := 457) (by decide +kernel), List.mem_of_getElem? (i := 458) (by decide +kernel)⟩
theorem lw_p13 : lw_okq (⟨"NumberedSparks$Reader", "readFalls", "()I"⟩, 9) := ⟨⟨by decide +kernel, by decide +kernel⟩, List.mem_of_getElem? (i := 70) (by decide +kernel), List.mem_of_getElem? (i := 462) (by decide +kernel), List.mem_of_getElem? (i := 463) (by decide +kernel)⟩
theorem lw_p14 : lw_okq (⟨"NumberedSparks$Reader", "readEdge", "()I"⟩, 9) := ⟨⟨by decide +kernel, by decide +kernel⟩, List.mem_of_getElem? (i := 70) (by decide +kernel), List.mem_of_getElem? (i := 468) (by decide +kernel), List.mem_of_getElem? (i := 469) (by decide +kernel)⟩
theorem lw_p15 : lw_okq (⟨"NumberedSparks$Reader", "readSource", "()V"⟩, 9) := ⟨⟨by decide +kernel, by decide +kernel⟩, List.mem_of_getElem? (i := 70) (by decide +kernel), List.mem_of_getElem? (i := 482) (by decide +kernel), List.mem_of_getElem? (i := 483) (by decide +kernel)⟩
def lw_privs_1 : List (MethodName × Nat) := [(⟨"NumberedSparks", "putOnTape", "(I)V"⟩, 11), (⟨"NumberedSparks$Reader", "advance", "()V"⟩, 9), (⟨"NumberedSparks$Reader", "byteAt", "(I)I"⟩, 9), (⟨"NumberedSparks$Reader", "readWorld", "()V"⟩, 9), (⟨"NumberedSparks$Reader", "needWord", "(Ljava/lang/String;)V"⟩, 9), (⟨"NumberedSparks$Reader", "takeWord", "(Ljava/lang/String;)Z"⟩, 9), (⟨"NumberedSparks$Reader", "isWord", "(Ljava/lang/String;)Z"⟩, 9), (⟨"NumberedSparks$Reader", "fail", "(I)V"⟩, 9), (⟨"NumberedSparks$Reader", "needNumber", "(II)I"⟩, 9), (⟨"NumberedSparks$Reader", "needSign", "(C)V"⟩, 9), (⟨"NumberedSparks$Reader", "readSeed", "()V"⟩, 9), (⟨"NumberedSparks$Reader", "readKind", "()V"⟩, 9), (⟨"NumberedSparks$Reader", "numberBehind", "(Ljava/lang/String;III)I"⟩, 9), (⟨"NumberedSparks$Reader", "readFalls", "()I"⟩, 9), (⟨"NumberedSparks$Reader", "readEdge", "()I"⟩, 9), (⟨"NumberedSparks$Reader", "readSource", "()V"⟩, 9)]
theorem lw_r1 : ∀ q ∈ lw_privs_1, lw_okq q := List.forall_mem_cons.mpr ⟨lw_p0, List.forall_mem_cons.mpr ⟨lw_p1, List.forall_mem_cons.mpr ⟨lw_p2, List.forall_mem_cons.mpr ⟨lw_p3, List.forall_mem_cons.mpr ⟨lw_p4, List.forall_mem_cons.mpr ⟨lw_p5, List.forall_mem_cons.mpr ⟨lw_p6, List.forall_mem_cons.mpr ⟨lw_p7, List.forall_mem_cons.mpr ⟨lw_p8, List.forall_mem_cons.mpr ⟨lw_p9, List.forall_mem_cons.mpr ⟨lw_p10, List.forall_mem_cons.mpr ⟨lw_p11, List.forall_mem_cons.mpr ⟨lw_p12, List.forall_mem_cons.mpr ⟨lw_p13, List.forall_mem_cons.mpr ⟨lw_p14, List.forall_mem_cons.mpr ⟨lw_p15, fun _ h => absurd h List.not_mem_nil⟩⟩⟩⟩⟩⟩⟩⟩⟩⟩⟩⟩⟩⟩⟩⟩
theorem lw_p16 : lw_okq (⟨"NumberedSparks$Spark", "ageBeyond", "(II)I"⟩, 10) := ⟨⟨by decide +kernel, by decide +kernel⟩, List.mem_of_getElem? (i := 150) (by decide +kernel), List.mem_of_getElem? (i := 678) (by decide +kernel), List.mem_of_getElem? (i := 679) (by decide +kernel)⟩
theorem lw_p17 : lw_okq (⟨"NumberedSparks$Spark", "freePlace", "(II)I"⟩, 10) := ⟨⟨by decide +kernel, by decide +kernel⟩, List.mem_of_getElem? (i := 150) (by decide +kernel), List.mem_of_getElem? (i := 694) (by decide +kernel), List.mem_of_getElem? (i := 695) (by decide +kernel)⟩
theorem lw_p18 : lw_okq (⟨"NumberedSparks", "isAmong", "(II)Z"⟩, 11) := ⟨⟨by decide +kernel, by decide +kernel⟩, List.mem_of_getElem? (i := 19) (by decide +kernel), List.mem_of_getElem? (i := 763) (by decide +kernel), List.mem_of_getElem? (i := 764) (by decide +kernel)⟩
theorem lw_p19 : lw_okq (⟨"NumberedSparks$Walk", "measureSpans", "()V"⟩, 9) := ⟨⟨by decide +kernel, by decide +kernel⟩, List.mem_of_getElem? (i := 143) (by decide +kernel), List.mem_of_getElem? (i := 787) (by decide +kernel), List.mem_of_getElem? (i := 788) (by decide +kernel)⟩
theorem lw_p20 : lw_okq (⟨"NumberedSparks$Walk", "spanBehind", "(II)I"⟩, 9) := ⟨⟨by decide +kernel, by decide +kernel⟩, List.mem_of_getElem? (i := 143) (by decide +kernel), List.mem_of_getElem? (i := 792) (by decide +kernel), List.mem_of_getElem? (i := 793) (by decide +kernel)⟩
theorem lw_p21 : lw_okq (⟨"NumberedSparks$Walk", "spanOf", "(II)I"⟩, 9) := ⟨⟨by decide +kernel, by decide +kernel⟩, List.mem_of_getElem? (i := 143) (by decide +kernel), List.mem_of_getElem? (i := 796) (by decide +kernel), List.mem_of_getElem? (i := 797) (by decide +kernel)⟩
theorem lw_p22 : lw_okq (⟨"NumberedSparks$Walk", "sourceOfLeastRoot", "()I"⟩, 9) := ⟨⟨by decide +kernel, by decide +kernel⟩, List.mem_of_getElem? (i := 143) (by decide +kernel), List.mem_of_getElem? (i := 807) (by decide +kernel), List.mem_of_getElem? (i := 808) (by decide +kernel)⟩
theorem lw_p23 : lw_okq (⟨"NumberedSparks$Walk", "isOutside", "(LNumberedSparks$Spark;)Z"⟩, 9) := ⟨⟨by decide +kernel, by decide +kernel⟩, List.mem_of_getElem? (i := 143) (by decide +kernel), List.mem_of_getElem? (i := 813) (by decide +kernel), List.mem_of_getElem? (i := 814) (by decide +kernel)⟩
theorem lw_p24 : lw_okq (⟨"NumberedSparks$Walk", "show", "(I)V"⟩, 9) := ⟨⟨by decide +kernel, by decide +kernel⟩, List.mem_of_getElem? (i := 143) (by decide +kernel), List.mem_of_getElem? (i := 818) (by decide +kernel), List.mem_of_getElem? (i := 819) (by decide +kernel)⟩
theorem lw_p25 : lw_okq (⟨"NumberedSparks$Walk", "stepChild", "(LNumberedSparks$Spark;II)V"⟩, 9) := ⟨⟨by decide +kernel, by decide +kernel⟩, List.mem_of_getElem? (i := 143) (by decide +kernel), List.mem_of_getElem? (i := 822) (by decide +kernel), List.mem_of_getElem? (i := 823) (by decide +kernel)⟩
theorem lw_p26 : lw_okq (⟨"NumberedSparks", "isWindow", "(II)Z"⟩, 11) := ⟨⟨by decide +kernel, by decide +kernel⟩, List.mem_of_getElem? (i := 19) (by decide +kernel), List.mem_of_getElem? (i := 863) (by decide +kernel), List.mem_of_getElem? (i := 864) (by decide +kernel)⟩
theorem lw_p27 : lw_okq (⟨"NumberedSparks", "countComingAndGoing", "(II)V"⟩, 11) := ⟨⟨by decide +kernel, by decide +kernel⟩, List.mem_of_getElem? (i := 19) (by decide +kernel), List.mem_of_getElem? (i := 913) (by decide +kernel), List.mem_of_getElem? (i := 914) (by decide +kernel)⟩
theorem lw_p28 : lw_okq (⟨"NumberedSparks$Frame", "append", "(LNumberedSparks$Spark;I)V"⟩, 7) := ⟨⟨by decide +kernel, by decide +kernel⟩, List.mem_of_getElem? (i := 230) (by decide +kernel), List.mem_of_getElem? (i := 952) (by decide +kernel), List.mem_of_getElem? (i := 953) (by decide +kernel)⟩
theorem lw_p29 : lw_okq (⟨"NumberedSparks$Frame", "grow", "()V"⟩, 7) := ⟨⟨by decide +kernel, by decide +kernel⟩, List.mem_of_getElem? (i := 230) (by decide +kernel), List.mem_of_getElem? (i := 956) (by decide +kernel), List.mem_of_getElem? (i := 957) (by decide +kernel)⟩
theorem lw_p30 : lw_okq (⟨"NumberedSparks$Frame", "putInOrder", "()V"⟩, 7) := ⟨⟨by decide +kernel, by decide +kernel⟩, List.mem_of_getElem? (i := 230) (by decide +kernel), List.mem_of_getElem? (i := 973) (by decide +kernel), List.mem_of_getElem? (i := 974) (by decide +kernel)⟩
theorem lw_p31 : lw_okq (⟨"NumberedSparks$Frame", "depthOf", "(I)I"⟩, 7) := ⟨⟨by decide +kernel, by decide +kernel⟩, List.mem_of_getElem? (i := 230) (by decide +kernel), List.mem_of_getElem? (i := 978) (by decide +kernel), List.mem_of_getElem? (i := 979) (by decide +kernel)⟩
def lw_privs_2 : List (MethodName × Nat) := [(⟨"NumberedSparks$Spark", "ageBeyond", "(II)I"⟩, 10), (⟨"NumberedSparks$Spark", "freePlace", "(II)I"⟩, 10), (⟨"NumberedSparks", "isAmong", "(II)Z"⟩, 11), (⟨"NumberedSparks$Walk", "measureSpans", "()V"⟩, 9), (⟨"NumberedSparks$Walk", "spanBehind", "(II)I"⟩, 9), (⟨"NumberedSparks$Walk", "spanOf", "(II)I"⟩, 9), (⟨"NumberedSparks$Walk", "sourceOfLeastRoot", "()I"⟩, 9), (⟨"NumberedSparks$Walk", "isOutside", "(LNumberedSparks$Spark;)Z"⟩, 9), (⟨"NumberedSparks$Walk", "show", "(I)V"⟩, 9), (⟨"NumberedSparks$Walk", "stepChild", "(LNumberedSparks$Spark;II)V"⟩, 9), (⟨"NumberedSparks", "isWindow", "(II)Z"⟩, 11), (⟨"NumberedSparks", "countComingAndGoing", "(II)V"⟩, 11), (⟨"NumberedSparks$Frame", "append", "(LNumberedSparks$Spark;I)V"⟩, 7), (⟨"NumberedSparks$Frame", "grow", "()V"⟩, 7), (⟨"NumberedSparks$Frame", "putInOrder", "()V"⟩, 7), (⟨"NumberedSparks$Frame", "depthOf", "(I)I"⟩, 7)]
theorem lw_r2 : ∀ q ∈ lw_privs_2, lw_okq q := List.forall_mem_cons.mpr ⟨lw_p16, List.forall_mem_cons.mpr ⟨lw_p17, List.forall_mem_cons.mpr ⟨lw_p18, List.forall_mem_cons.mpr ⟨lw_p19, List.forall_mem_cons.mpr ⟨lw_p20, List.forall_mem_cons.mpr ⟨lw_p21, List.forall_mem_cons.mpr ⟨lw_p22, List.forall_mem_cons.mpr ⟨lw_p23, List.forall_mem_cons.mpr ⟨lw_p24, List.forall_mem_cons.mpr ⟨lw_p25, List.forall_mem_cons.mpr ⟨lw_p26, List.forall_mem_cons.mpr ⟨lw_p27, List.forall_mem_cons.mpr ⟨lw_p28, List.forall_mem_cons.mpr ⟨lw_p29, List.forall_mem_cons.mpr ⟨lw_p30, List.forall_mem_cons.mpr ⟨lw_p31, fun _ h => absurd h List.not_mem_nil⟩⟩⟩⟩⟩⟩⟩⟩⟩⟩⟩⟩⟩⟩⟩⟩
theorem lw_p32 : lw_okq (⟨"NumberedSparks$Frame", "ofRow", "(II)I"⟩, 7) := ⟨⟨by decide +kernel, by decide +kernel⟩, List.mem_of_getElem? (i := 230) (by decide +kernel), List.mem_of_getElem? (i := 986) (by decide +kernel), List.mem_of_getElem? (i := 987) (by decide +kernel)⟩
theorem lw_p33 : lw_okq (⟨"NumberedSparks$Frame", "columnOf", "(I)I"⟩, 7) := ⟨⟨by decide +kernel, by decide +kernel⟩, List.mem_of_getElem? (i := 230) (by decide +kernel), List.mem_of_getElem? (i := 1046) (by decide +kernel), List.mem_of_getElem? (i := 1047) (by decide +kernel)⟩
theorem lw_p34 : lw_okq (⟨"NumberedSparks$Frame", "layerOf", "(I)I"⟩, 7) := ⟨⟨by decide +kernel, by decide +kernel⟩, List.mem_of_getElem? (i := 230) (by decide +kernel), List.mem_of_getElem? (i := 1083) (by decide +kernel), List.mem_of_getElem? (i := 1084) (by decide +kernel)⟩
theorem lw_p35 : lw_okq (⟨"NumberedSparks$Frame", "forgetColumns", "(II[I)V"⟩, 7) := ⟨⟨by decide +kernel, by decide +kernel⟩, List.mem_of_getElem? (i := 230) (by decide +kernel), List.mem_of_getElem? (i := 1087) (by decide +kernel), List.mem_of_getElem? (i := 1088) (by decide +kernel)⟩
theorem lw_p36 : lw_okq (⟨"NumberedSparks", "countOfColumn", "(II)I"⟩, 11) := ⟨⟨by decide +kernel, by decide +kernel⟩, List.mem_of_getElem? (i := 19) (by decide +kernel), List.mem_of_getElem? (i := 1131) (by decide +kernel), List.mem_of_getElem? (i := 1132) (by decide +kernel)⟩
theorem lw_p37 : lw_okq (⟨"NumberedSparksModel", "puts4", "(I)V"⟩, 42) := ⟨⟨by decide +kernel, by decide +kernel⟩, List.mem_of_getElem? (i := 1144) (by decide +kernel), List.mem_of_getElem? (i := 1282) (by decide +kernel), List.mem_of_getElem? (i := 1283) (by decide +kernel)⟩
theorem lw_p38 : lw_okq (⟨"NumberedSparksModel", "advance", "()V"⟩, 42) := ⟨⟨by decide +kernel, by decide +kernel⟩, List.mem_of_getElem? (i := 1144) (by decide +kernel), List.mem_of_getElem? (i := 1297) (by decide +kernel), List.mem_of_getElem? (i := 1298) (by decide +kernel)⟩
theorem lw_p39 : lw_okq (⟨"NumberedSparksModel", "see", "(I)I"⟩, 42) := ⟨⟨by decide +kernel, by decide +kernel⟩, List.mem_of_getElem? (i := 1144) (by decide +kernel), List.mem_of_getElem? (i := 1301) (by decide +kernel), List.mem_of_getElem? (i := 1302) (by decide +kernel)⟩
theorem lw_p40 : lw_okq (⟨"NumberedSparksModel", "errs", "(II)V"⟩, 42) := ⟨⟨by decide +kernel, by decide +kernel⟩, List.mem_of_getElem? (i := 1144) (by decide +kernel), List.mem_of_getElem? (i := 1311) (by decide +kernel), List.mem_of_getElem? (i := 1312) (by decide +kernel)⟩
theorem lw_p41 : lw_okq (⟨"NumberedSparksModel", "good", "()Z"⟩, 42) := ⟨⟨by decide +kernel, by decide +kernel⟩, List.mem_of_getElem? (i := 1144) (by decide +kernel), List.mem_of_getElem? (i := 1315) (by decide +kernel), List.mem_of_getElem? (i := 1316) (by decide +kernel)⟩
theorem lw_p42 : lw_okq (⟨"NumberedSparksModel", "readLine", "(I)V"⟩, 42) := ⟨⟨by decide +kernel, by decide +kernel⟩, List.mem_of_getElem? (i := 1144) (by decide +kernel), List.mem_of_getElem? (i := 1319) (by decide +kernel), List.mem_of_getElem? (i := 1320) (by decide +kernel)⟩
theorem lw_p43 : lw_okq (⟨"NumberedSparksModel", "passes", "(Ljava/lang/String;)V"⟩, 42) := ⟨⟨by decide +kernel, by decide +kernel⟩, List.mem_of_getElem? (i := 1144) (by decide +kernel), List.mem_of_getElem? (i := 1324) (by decide +kernel), List.mem_of_getElem? (i := 1325) (by decide +kernel)⟩
theorem lw_p44 : lw_okq (⟨"NumberedSparksModel", "takes", "(Ljava/lang/String;)Z"⟩, 42) := ⟨⟨by decide +kernel, by decide +kernel⟩, List.mem_of_getElem? (i := 1144) (by decide +kernel), List.mem_of_getElem? (i := 1328) (by decide +kernel), List.mem_of_getElem? (i := 1329) (by decide +kernel)⟩
theorem lw_p45 : lw_okq (⟨"NumberedSparksModel", "isWord", "(Ljava/lang/String;)Z"⟩, 42) := ⟨⟨by decide +kernel, by decide +kernel⟩, List.mem_of_getElem? (i := 1144) (by decide +kernel), List.mem_of_getElem? (i := 1332) (by decide +kernel), List.mem_of_getElem? (i := 1333) (by decide +kernel)⟩
theorem lw_p46 : lw_okq (⟨"NumberedSparksModel", "number", "(II)I"⟩, 42) := ⟨⟨by decide +kernel, by decide +kernel⟩, List.mem_of_getElem? (i := 1144) (by decide +kernel), List.mem_of_getElem? (i := 1338) (by decide +kernel), List.mem_of_getElem? (i := 1339) (by decide +kernel)⟩
theorem lw_p47 : lw_okq (⟨"NumberedSparksModel", "readSeed", "()V"⟩, 42) := ⟨⟨by decide +kernel, by decide +kernel⟩, List.mem_of_getElem? (i := 1144) (by decide +kernel), List.mem_of_getElem? (i := 1343) (by decide +kernel), List.mem_of_getElem? (i := 1344) (by decide +kernel)⟩
def lw_privs_3 : List (MethodName × Nat) := [(⟨"NumberedSparks$Frame", "ofRow", "(II)I"⟩, 7), (⟨"NumberedSparks$Frame", "columnOf", "(I)I"⟩, 7), (⟨"NumberedSparks$Frame", "layerOf", "(I)I"⟩, 7), (⟨"NumberedSparks$Frame", "forgetColumns", "(II[I)V"⟩, 7), (⟨"NumberedSparks", "countOfColumn", "(II)I"⟩, 11), (⟨"NumberedSparksModel", "puts4", "(I)V"⟩, 42), (⟨"NumberedSparksModel", "advance", "()V"⟩, 42), (⟨"NumberedSparksModel", "see", "(I)I"⟩, 42), (⟨"NumberedSparksModel", "errs", "(II)V"⟩, 42), (⟨"NumberedSparksModel", "good", "()Z"⟩, 42), (⟨"NumberedSparksModel", "readLine", "(I)V"⟩, 42), (⟨"NumberedSparksModel", "passes", "(Ljava/lang/String;)V"⟩, 42), (⟨"NumberedSparksModel", "takes", "(Ljava/lang/String;)Z"⟩, 42), (⟨"NumberedSparksModel", "isWord", "(Ljava/lang/String;)Z"⟩, 42), (⟨"NumberedSparksModel", "number", "(II)I"⟩, 42), (⟨"NumberedSparksModel", "readSeed", "()V"⟩, 42)]
theorem lw_r3 : ∀ q ∈ lw_privs_3, lw_okq q := List.forall_mem_cons.mpr ⟨lw_p32, List.forall_mem_cons.mpr ⟨lw_p33, List.forall_mem_cons.mpr ⟨lw_p34, List.forall_mem_cons.mpr ⟨lw_p35, List.forall_mem_cons.mpr ⟨lw_p36, List.forall_mem_cons.mpr ⟨lw_p37, List.forall_mem_cons.mpr ⟨lw_p38, List.forall_mem_cons.mpr ⟨lw_p39, List.forall_mem_cons.mpr ⟨lw_p40, List.forall_mem_cons.mpr ⟨lw_p41, List.forall_mem_cons.mpr ⟨lw_p42, List.forall_mem_cons.mpr ⟨lw_p43, List.forall_mem_cons.mpr ⟨lw_p44, List.forall_mem_cons.mpr ⟨lw_p45, List.forall_mem_cons.mpr ⟨lw_p46, List.forall_mem_cons.mpr ⟨lw_p47, fun _ h => absurd h List.not_mem_nil⟩⟩⟩⟩⟩⟩⟩⟩⟩⟩⟩⟩⟩⟩⟩⟩
theorem lw_p48 : lw_okq (⟨"NumberedSparksModel", "readKind", "()V"⟩, 42) := ⟨⟨by decide +kernel, by decide +kernel⟩, List.mem_of_getElem? (i := 1144) (by decide +kernel), List.mem_of_getElem? (i := 1349) (by decide +kernel), List.mem_of_getElem? (i := 1350) (by decide +kernel)⟩
theorem lw_p49 : lw_okq (⟨"NumberedSparksModel", "falls", "()I"⟩, 42) := ⟨⟨by decide +kernel, by decide +kernel⟩, List.mem_of_getElem? (i := 1144) (by decide +kernel), List.mem_of_getElem? (i := 1357) (by decide +kernel), List.mem_of_getElem? (i := 1358) (by decide +kernel)⟩
theorem lw_p50 : lw_okq (⟨"NumberedSparksModel", "readSource", "()V"⟩, 42) := ⟨⟨by decide +kernel, by decide +kernel⟩, List.mem_of_getElem? (i := 1144) (by decide +kernel), List.mem_of_getElem? (i := 1368) (by decide +kernel), List.mem_of_getElem? (i := 1369) (by decide +kernel)⟩
theorem lw_p51 : lw_okq (⟨"NumberedSparksModel", "roots", "(I)I"⟩, 42) := ⟨⟨by decide +kernel, by decide +kernel⟩, List.mem_of_getElem? (i := 1144) (by decide +kernel), List.mem_of_getElem? (i := 1396) (by decide +kernel), List.mem_of_getElem? (i := 1397) (by decide +kernel)⟩
theorem lw_p52 : lw_okq (⟨"NumberedSparksModel", "groups", "(I)I"⟩, 42) := ⟨⟨by decide +kernel, by decide +kernel⟩, List.mem_of_getElem? (i := 1144) (by decide +kernel), List.mem_of_getElem? (i := 1400) (by decide +kernel), List.mem_of_getElem? (i := 1401) (by decide +kernel)⟩
theorem lw_p53 : lw_okq (⟨"NumberedSparksModel", "ofSource", "(II)I"⟩, 42) := ⟨⟨by decide +kernel, by decide +kernel⟩, List.mem_of_getElem? (i := 1144) (by decide +kernel), List.mem_of_getElem? (i := 1404) (by decide +kernel), List.mem_of_getElem? (i := 1405) (by decide +kernel)⟩
theorem lw_p54 : lw_okq (⟨"NumberedSparksModel", "keeps", "(II)V"⟩, 42) := ⟨⟨by decide +kernel, by decide +kernel⟩, List.mem_of_getElem? (i := 1144) (by decide +kernel), List.mem_of_getElem? (i := 1413) (by decide +kernel), List.mem_of_getElem? (i := 1414) (by decide +kernel)⟩
theorem lw_p55 : lw_okq (⟨"NumberedSparksModel", "mixedOf", "(II)J"⟩, 42) := ⟨⟨by decide +kernel, by decide +kernel⟩, List.mem_of_getElem? (i := 1144) (by decide +kernel), List.mem_of_getElem? (i := 1430) (by decide +kernel), List.mem_of_getElem? (i := 1431) (by decide +kernel)⟩
theorem lw_p56 : lw_okq (⟨"NumberedSparksModel", "isSpark", "(I)Z"⟩, 42) := ⟨⟨by decide +kernel, by decide +kernel⟩, List.mem_of_getElem? (i := 1144) (by decide +kernel), List.mem_of_getElem? (i := 1442) (by decide +kernel), List.mem_of_getElem? (i := 1443) (by decide +kernel)⟩
theorem lw_p57 : lw_okq (⟨"NumberedSparksModel", "hasChild", "(II)Z"⟩, 42) := ⟨⟨by decide +kernel, by decide +kernel⟩, List.mem_of_getElem? (i := 1144) (by decide +kernel), List.mem_of_getElem? (i := 1449) (by decide +kernel), List.mem_of_getElem? (i := 1450) (by decide +kernel)⟩
theorem lw_p58 : lw_okq (⟨"NumberedSparksModel", "childOf", "(II)I"⟩, 42) := ⟨⟨by decide +kernel, by decide +kernel⟩, List.mem_of_getElem? (i := 1144) (by decide +kernel), List.mem_of_getElem? (i := 1460) (by decide +kernel), List.mem_of_getElem? (i := 1461) (by decide +kernel)⟩
theorem lw_p59 : lw_okq (⟨"NumberedSparksModel", "kindOf", "(I)I"⟩, 42) := ⟨⟨by decide +kernel, by decide +kernel⟩, List.mem_of_getElem? (i := 1144) (by decide +kernel), List.mem_of_getElem? (i := 1467) (by decide +kernel), List.mem_of_getElem? (i := 1468) (by decide +kernel)⟩
theorem lw_p60 : lw_okq (⟨"NumberedSparksModel", "lays", "(I)V"⟩, 42) := ⟨⟨by decide +kernel, by decide +kernel⟩, List.mem_of_getElem? (i := 1144) (by decide +kernel), List.mem_of_getElem? (i := 1482) (by decide +kernel), List.mem_of_getElem? (i := 1483) (by decide +kernel)⟩
theorem lw_p61 : lw_okq (⟨"NumberedSparksModel", "laysRoot", "(I)V"⟩, 42) := ⟨⟨by decide +kernel, by decide +kernel⟩, List.mem_of_getElem? (i := 1144) (by decide +kernel), List.mem_of_getElem? (i := 1486) (by decide +kernel), List.mem_of_getElem? (i := 1487) (by decide +kernel)⟩
theorem lw_p62 : lw_okq (⟨"NumberedSparksModel", "draw", "(III)I"⟩, 42) := ⟨⟨by decide +kernel, by decide +kernel⟩, List.mem_of_getElem? (i := 1144) (by decide +kernel), List.mem_of_getElem? (i := 1490) (by decide +kernel), List.mem_of_getElem? (i := 1491) (by decide +kernel)⟩
theorem lw_p63 : lw_okq (⟨"NumberedSparksModel", "laysOne", "(III)V"⟩, 42) := ⟨⟨by decide +kernel, by decide +kernel⟩, List.mem_of_getElem? (i := 1144) (by decide +kernel), List.mem_of_getElem? (i := 1494) (by decide +kernel), List.mem_of_getElem? (i := 1495) (by decide +kernel)⟩
def lw_privs_4 : List (MethodName × Nat) := [(⟨"NumberedSparksModel", "readKind", "()V"⟩, 42), (⟨"NumberedSparksModel", "falls", "()I"⟩, 42), (⟨"NumberedSparksModel", "readSource", "()V"⟩, 42), (⟨"NumberedSparksModel", "roots", "(I)I"⟩, 42), (⟨"NumberedSparksModel", "groups", "(I)I"⟩, 42), (⟨"NumberedSparksModel", "ofSource", "(II)I"⟩, 42), (⟨"NumberedSparksModel", "keeps", "(II)V"⟩, 42), (⟨"NumberedSparksModel", "mixedOf", "(II)J"⟩, 42), (⟨"NumberedSparksModel", "isSpark", "(I)Z"⟩, 42), (⟨"NumberedSparksModel", "hasChild", "(II)Z"⟩, 42), (⟨"NumberedSparksModel", "childOf", "(II)I"⟩, 42), (⟨"NumberedSparksModel", "kindOf", "(I)I"⟩, 42), (⟨"NumberedSparksModel", "lays", "(I)V"⟩, 42), (⟨"NumberedSparksModel", "laysRoot", "(I)V"⟩, 42), (⟨"NumberedSparksModel", "draw", "(III)I"⟩, 42), (⟨"NumberedSparksModel", "laysOne", "(III)V"⟩, 42)]
theorem lw_r4 : ∀ q ∈ lw_privs_4, lw_okq q := List.forall_mem_cons.mpr ⟨lw_p48, List.forall_mem_cons.mpr ⟨lw_p49, List.forall_mem_cons.mpr ⟨lw_p50, List.forall_mem_cons.mpr ⟨lw_p51, List.forall_mem_cons.mpr ⟨lw_p52, List.forall_mem_cons.mpr ⟨lw_p53, List.forall_mem_cons.mpr ⟨lw_p54, List.forall_mem_cons.mpr ⟨lw_p55, List.forall_mem_cons.mpr ⟨lw_p56, List.forall_mem_cons.mpr ⟨lw_p57, List.forall_mem_cons.mpr ⟨lw_p58, List.forall_mem_cons.mpr ⟨lw_p59, List.forall_mem_cons.mpr ⟨lw_p60, List.forall_mem_cons.mpr ⟨lw_p61, List.forall_mem_cons.mpr ⟨lw_p62, List.forall_mem_cons.mpr ⟨lw_p63, fun _ h => absurd h List.not_mem_nil⟩⟩⟩⟩⟩⟩⟩⟩⟩⟩⟩⟩⟩⟩⟩⟩
theorem lw_p64 : lw_okq (⟨"NumberedSparksModel", "edge", "()I"⟩, 42) := ⟨⟨by decide +kernel, by decide +kernel⟩, List.mem_of_getElem? (i := 1144) (by decide +kernel), List.mem_of_getElem? (i := 1498) (by decide +kernel), List.mem_of_getElem? (i := 1499) (by decide +kernel)⟩
theorem lw_p65 : lw_okq (⟨"NumberedSparksModel", "isBeyond", "(I)Z"⟩, 42) := ⟨⟨by decide +kernel, by decide +kernel⟩, List.mem_of_getElem? (i := 1144) (by decide +kernel), List.mem_of_getElem? (i := 1502) (by decide +kernel), List.mem_of_getElem? (i := 1503) (by decide +kernel)⟩
theorem lw_p66 : lw_okq (⟨"NumberedSparksModel", "raw", "(II)I"⟩, 42) := ⟨⟨by decide +kernel, by decide +kernel⟩, List.mem_of_getElem? (i := 1144) (by decide +kernel), List.mem_of_getElem? (i := 1506) (by decide +kernel), List.mem_of_getElem? (i := 1507) (by decide +kernel)⟩
theorem lw_p67 : lw_okq (⟨"NumberedSparksModel", "world", "(I)I"⟩, 42) := ⟨⟨by decide +kernel, by decide +kernel⟩, List.mem_of_getElem? (i := 1144) (by decide +kernel), List.mem_of_getElem? (i := 1510) (by decide +kernel), List.mem_of_getElem? (i := 1511) (by decide +kernel)⟩
theorem lw_p68 : lw_okq (⟨"NumberedSparksModel", "laysChild", "(I)V"⟩, 42) := ⟨⟨by decide +kernel, by decide +kernel⟩, List.mem_of_getElem? (i := 1144) (by decide +kernel), List.mem_of_getElem? (i := 1514) (by decide +kernel), List.mem_of_getElem? (i := 1515) (by decide +kernel)⟩
theorem lw_p69 : lw_okq (⟨"NumberedSparksModel", "placeBy", "(II)I"⟩, 42) := ⟨⟨by decide +kernel, by decide +kernel⟩, List.mem_of_getElem? (i := 1144) (by decide +kernel), List.mem_of_getElem? (i := 1518) (by decide +kernel), List.mem_of_getElem? (i := 1519) (by decide +kernel)⟩
theorem lw_p70 : lw_okq (⟨"NumberedSparksModel", "isTick", "(I)Z"⟩, 42) := ⟨⟨by decide +kernel, by decide +kernel⟩, List.mem_of_getElem? (i := 1144) (by decide +kernel), List.mem_of_getElem? (i := 1527) (by decide +kernel), List.mem_of_getElem? (i := 1528) (by decide +kernel)⟩
theorem lw_p71 : lw_okq (⟨"NumberedSparksModel", "overAt", "(I)I"⟩, 42) := ⟨⟨by decide +kernel, by decide +kernel⟩, List.mem_of_getElem? (i := 1144) (by decide +kernel), List.mem_of_getElem? (i := 1542) (by decide +kernel), List.mem_of_getElem? (i := 1543) (by decide +kernel)⟩
theorem lw_p72 : lw_okq (⟨"NumberedSparksModel", "cellBy", "(I)I"⟩, 42) := ⟨⟨by decide +kernel, by decide +kernel⟩, List.mem_of_getElem? (i := 1144) (by decide +kernel), List.mem_of_getElem? (i := 1556) (by decide +kernel), List.mem_of_getElem? (i := 1557) (by decide +kernel)⟩
theorem lw_p73 : lw_okq (⟨"NumberedSparksModel", "gathers", "(I)V"⟩, 42) := ⟨⟨by decide +kernel, by decide +kernel⟩, List.mem_of_getElem? (i := 1144) (by decide +kernel), List.mem_of_getElem? (i := 1584) (by decide +kernel), List.mem_of_getElem? (i := 1585) (by decide +kernel)⟩
theorem lw_p74 : lw_okq (⟨"NumberedSparksModel", "firstGroup", "(II)I"⟩, 42) := ⟨⟨by decide +kernel, by decide +kernel⟩, List.mem_of_getElem? (i := 1144) (by decide +kernel), List.mem_of_getElem? (i := 1588) (by decide +kernel), List.mem_of_getElem? (i := 1589) (by decide +kernel)⟩
theorem lw_p75 : lw_okq (⟨"NumberedSparksModel", "isGroup", "(III)Z"⟩, 42) := ⟨⟨by decide +kernel, by decide +kernel⟩, List.mem_of_getElem? (i := 1144) (by decide +kernel), List.mem_of_getElem? (i := 1592) (by decide +kernel), List.mem_of_getElem? (i := 1593) (by decide +kernel)⟩
theorem lw_p76 : lw_okq (⟨"NumberedSparksModel", "comesLine", "(II)V"⟩, 42) := ⟨⟨by decide +kernel, by decide +kernel⟩, List.mem_of_getElem? (i := 1144) (by decide +kernel), List.mem_of_getElem? (i := 1596) (by decide +kernel), List.mem_of_getElem? (i := 1597) (by decide +kernel)⟩
theorem lw_p77 : lw_okq (⟨"NumberedSparksModel", "comes", "(II)V"⟩, 42) := ⟨⟨by decide +kernel, by decide +kernel⟩, List.mem_of_getElem? (i := 1144) (by decide +kernel), List.mem_of_getElem? (i := 1600) (by decide +kernel), List.mem_of_getElem? (i := 1601) (by decide +kernel)⟩
theorem lw_p78 : lw_okq (⟨"NumberedSparksModel", "codeAt", "(I)I"⟩, 42) := ⟨⟨by decide +kernel, by decide +kernel⟩, List.mem_of_getElem? (i := 1144) (by decide +kernel), List.mem_of_getElem? (i := 1604) (by decide +kernel), List.mem_of_getElem? (i := 1605) (by decide +kernel)⟩
theorem lw_p79 : lw_okq (⟨"NumberedSparksModel", "laysFrame", "(I)V"⟩, 42) := ⟨⟨by decide +kernel, by decide +kernel⟩, List.mem_of_getElem? (i := 1144) (by decide +kernel), List.mem_of_getElem? (i := 1613) (by decide +kernel), List.mem_of_getElem? (i := 1614) (by decide +kernel)⟩
def lw_privs_5 : List (MethodName × Nat) := [(⟨"NumberedSparksModel", "edge", "()I"⟩, 42), (⟨"NumberedSparksModel", "isBeyond", "(I)Z"⟩, 42), (⟨"NumberedSparksModel", "raw", "(II)I"⟩, 42), (⟨"NumberedSparksModel", "world", "(I)I"⟩, 42), (⟨"NumberedSparksModel", "laysChild", "(I)V"⟩, 42), (⟨"NumberedSparksModel", "placeBy", "(II)I"⟩, 42), (⟨"NumberedSparksModel", "isTick", "(I)Z"⟩, 42), (⟨"NumberedSparksModel", "overAt", "(I)I"⟩, 42), (⟨"NumberedSparksModel", "cellBy", "(I)I"⟩, 42), (⟨"NumberedSparksModel", "gathers", "(I)V"⟩, 42), (⟨"NumberedSparksModel", "firstGroup", "(II)I"⟩, 42), (⟨"NumberedSparksModel", "isGroup", "(III)Z"⟩, 42), (⟨"NumberedSparksModel", "comesLine", "(II)V"⟩, 42), (⟨"NumberedSparksModel", "comes", "(II)V"⟩, 42), (⟨"NumberedSparksModel", "codeAt", "(I)I"⟩, 42), (⟨"NumberedSparksModel", "laysFrame", "(I)V"⟩, 42)]
theorem lw_r5 : ∀ q ∈ lw_privs_5, lw_okq q := List.forall_mem_cons.mpr ⟨lw_p64, List.forall_mem_cons.mpr ⟨lw_p65, List.forall_mem_cons.mpr ⟨lw_p66, List.forall_mem_cons.mpr ⟨lw_p67, List.forall_mem_cons.mpr ⟨lw_p68, List.forall_mem_cons.mpr ⟨lw_p69, List.forall_mem_cons.mpr ⟨lw_p70, List.forall_mem_cons.mpr ⟨lw_p71, List.forall_mem_cons.mpr ⟨lw_p72, List.forall_mem_cons.mpr ⟨lw_p73, List.forall_mem_cons.mpr ⟨lw_p74, List.forall_mem_cons.mpr ⟨lw_p75, List.forall_mem_cons.mpr ⟨lw_p76, List.forall_mem_cons.mpr ⟨lw_p77, List.forall_mem_cons.mpr ⟨lw_p78, List.forall_mem_cons.mpr ⟨lw_p79, fun _ h => absurd h List.not_mem_nil⟩⟩⟩⟩⟩⟩⟩⟩⟩⟩⟩⟩⟩⟩⟩⟩
theorem lw_p80 : lw_okq (⟨"NumberedSparksModel", "sorts", "()V"⟩, 42) := ⟨⟨by decide +kernel, by decide +kernel⟩, List.mem_of_getElem? (i := 1144) (by decide +kernel), List.mem_of_getElem? (i := 1617) (by decide +kernel), List.mem_of_getElem? (i := 1618) (by decide +kernel)⟩
theorem lw_p81 : lw_okq (⟨"NumberedSparksModel", "isColumn", "(II)Z"⟩, 42) := ⟨⟨by decide +kernel, by decide +kernel⟩, List.mem_of_getElem? (i := 1144) (by decide +kernel), List.mem_of_getElem? (i := 1631) (by decide +kernel), List.mem_of_getElem? (i := 1632) (by decide +kernel)⟩
theorem lw_p82 : lw_okq (⟨"NumberedSparksModel", "laysColumns", "(I)V"⟩, 42) := ⟨⟨by decide +kernel, by decide +kernel⟩, List.mem_of_getElem? (i := 1144) (by decide +kernel), List.mem_of_getElem? (i := 1635) (by decide +kernel), List.mem_of_getElem? (i := 1636) (by decide +kernel)⟩
theorem lw_p83 : lw_okq (⟨"NumberedSparksModel", "topOf", "(II)I"⟩, 42) := ⟨⟨by decide +kernel, by decide +kernel⟩, List.mem_of_getElem? (i := 1144) (by decide +kernel), List.mem_of_getElem? (i := 1643) (by decide +kernel), List.mem_of_getElem? (i := 1644) (by decide +kernel)⟩
theorem lw_p84 : lw_okq (⟨"NumberedSparksModel", "isCell", "(III)Z"⟩, 42) := ⟨⟨by decide +kernel, by decide +kernel⟩, List.mem_of_getElem? (i := 1144) (by decide +kernel), List.mem_of_getElem? (i := 1655) (by decide +kernel), List.mem_of_getElem? (i := 1656) (by decide +kernel)⟩
theorem lw_p85 : lw_okq (⟨"NumberedSparksModel", "squares", "(IIIII)J"⟩, 42) := ⟨⟨by decide +kernel, by decide +kernel⟩, List.mem_of_getElem? (i := 1144) (by decide +kernel), List.mem_of_getElem? (i := 1659) (by decide +kernel), List.mem_of_getElem? (i := 1660) (by decide +kernel)⟩
theorem lw_p86 : lw_okq (⟨"NumberedSparksModel", "laysHeaps", "(I)V"⟩, 42) := ⟨⟨by decide +kernel, by decide +kernel⟩, List.mem_of_getElem? (i := 1144) (by decide +kernel), List.mem_of_getElem? (i := 1674) (by decide +kernel), List.mem_of_getElem? (i := 1675) (by decide +kernel)⟩
theorem lw_p87 : lw_okq (⟨"NumberedSparksModel", "placeAt", "(III)I"⟩, 42) := ⟨⟨by decide +kernel, by decide +kernel⟩, List.mem_of_getElem? (i := 1144) (by decide +kernel), List.mem_of_getElem? (i := 1678) (by decide +kernel), List.mem_of_getElem? (i := 1679) (by decide +kernel)⟩
theorem lw_p88 : lw_okq (⟨"NumberedSparksModel", "isSpan", "(III)Z"⟩, 42) := ⟨⟨by decide +kernel, by decide +kernel⟩, List.mem_of_getElem? (i := 1144) (by decide +kernel), List.mem_of_getElem? (i := 1734) (by decide +kernel), List.mem_of_getElem? (i := 1735) (by decide +kernel)⟩
theorem lw_p89 : lw_okq (⟨"NumberedSparksModel", "bornOf", "(I)I"⟩, 42) := ⟨⟨by decide +kernel, by decide +kernel⟩, List.mem_of_getElem? (i := 1144) (by decide +kernel), List.mem_of_getElem? (i := 1738) (by decide +kernel), List.mem_of_getElem? (i := 1739) (by decide +kernel)⟩
theorem lw_p90 : lw_okq (⟨"NumberedSparksModel", "endingsOf", "(III)I"⟩, 42) := ⟨⟨by decide +kernel, by decide +kernel⟩, List.mem_of_getElem? (i := 1144) (by decide +kernel), List.mem_of_getElem? (i := 1746) (by decide +kernel), List.mem_of_getElem? (i := 1747) (by decide +kernel)⟩
theorem lw_p91 : lw_okq (⟨"NumberedSparksModel", "lastBirth", "(I)I"⟩, 42) := ⟨⟨by decide +kernel, by decide +kernel⟩, List.mem_of_getElem? (i := 1144) (by decide +kernel), List.mem_of_getElem? (i := 1754) (by decide +kernel), List.mem_of_getElem? (i := 1755) (by decide +kernel)⟩
theorem lw_p92 : lw_okq (⟨"NumberedSparksModel", "bornIn", "(IIIZ)I"⟩, 42) := ⟨⟨by decide +kernel, by decide +kernel⟩, List.mem_of_getElem? (i := 1144) (by decide +kernel), List.mem_of_getElem? (i := 1758) (by decide +kernel), List.mem_of_getElem? (i := 1759) (by decide +kernel)⟩
theorem lw_p93 : lw_okq (⟨"NumberedSparksModel", "says", "(I)V"⟩, 42) := ⟨⟨by decide +kernel, by decide +kernel⟩, List.mem_of_getElem? (i := 1144) (by decide +kernel), List.mem_of_getElem? (i := 1778) (by decide +kernel), List.mem_of_getElem? (i := 1779) (by decide +kernel)⟩
theorem lw_p94 : lw_okq (⟨"NumberedSparksModel", "saysNumber", "(I)V"⟩, 42) := ⟨⟨by decide +kernel, by decide +kernel⟩, List.mem_of_getElem? (i := 1144) (by decide +kernel), List.mem_of_getElem? (i := 1790) (by decide +kernel), List.mem_of_getElem? (i := 1791) (by decide +kernel)⟩
def lw_privs_6 : List (MethodName × Nat) := [(⟨"NumberedSparksModel", "sorts", "()V"⟩, 42), (⟨"NumberedSparksModel", "isColumn", "(II)Z"⟩, 42), (⟨"NumberedSparksModel", "laysColumns", "(I)V"⟩, 42), (⟨"NumberedSparksModel", "topOf", "(II)I"⟩, 42), (⟨"NumberedSparksModel", "isCell", "(III)Z"⟩, 42), (⟨"NumberedSparksModel", "squares", "(IIIII)J"⟩, 42), (⟨"NumberedSparksModel", "laysHeaps", "(I)V"⟩, 42), (⟨"NumberedSparksModel", "placeAt", "(III)I"⟩, 42), (⟨"NumberedSparksModel", "isSpan", "(III)Z"⟩, 42), (⟨"NumberedSparksModel", "bornOf", "(I)I"⟩, 42), (⟨"NumberedSparksModel", "endingsOf", "(III)I"⟩, 42), (⟨"NumberedSparksModel", "lastBirth", "(I)I"⟩, 42), (⟨"NumberedSparksModel", "bornIn", "(IIIZ)I"⟩, 42), (⟨"NumberedSparksModel", "says", "(I)V"⟩, 42), (⟨"NumberedSparksModel", "saysNumber", "(I)V"⟩, 42)]
theorem lw_r6 : ∀ q ∈ lw_privs_6, lw_okq q := List.forall_mem_cons.mpr ⟨lw_p80, List.forall_mem_cons.mpr ⟨lw_p81, List.forall_mem_cons.mpr ⟨lw_p82, List.forall_mem_cons.mpr ⟨lw_p83, List.forall_mem_cons.mpr ⟨lw_p84, List.forall_mem_cons.mpr ⟨lw_p85, List.forall_mem_cons.mpr ⟨lw_p86, List.forall_mem_cons.mpr ⟨lw_p87, List.forall_mem_cons.mpr ⟨lw_p88, List.forall_mem_cons.mpr ⟨lw_p89, List.forall_mem_cons.mpr ⟨lw_p90, List.forall_mem_cons.mpr ⟨lw_p91, List.forall_mem_cons.mpr ⟨lw_p92, List.forall_mem_cons.mpr ⟨lw_p93, List.forall_mem_cons.mpr ⟨lw_p94, fun _ h => absurd h List.not_mem_nil⟩⟩⟩⟩⟩⟩⟩⟩⟩⟩⟩⟩⟩⟩⟩
def lw_privs : List (MethodName × Nat) := lw_privs_1 ++ (lw_privs_2 ++ (lw_privs_3 ++ (lw_privs_4 ++ (lw_privs_5 ++ (lw_privs_6)))))
def lw_tbl : List Cond := k2_sels lw_privs ++ tables_1
theorem lw_privs_ok : ∀ q ∈ lw_privs, lw_okq q := by
  show ∀ q ∈ lw_privs_1 ++ (lw_privs_2 ++ (lw_privs_3 ++ (lw_privs_4 ++ (lw_privs_5 ++ (lw_privs_6))))), lw_okq q
  exact List.forall_mem_append.mpr ⟨lw_r1, List.forall_mem_append.mpr ⟨lw_r2, List.forall_mem_append.mpr ⟨lw_r3, List.forall_mem_append.mpr ⟨lw_r4, List.forall_mem_append.mpr ⟨lw_r5, lw_r6⟩⟩⟩⟩⟩
/-! ===== BEGIN printed: names, fields, word lists, decode rows ===== -/
def RX0 : String := "NumberedSparks$Finder"
def TX0 : u_T := fun k => match k with
  | 0 => ("NumberedSparks$Finder", "scene", "LNumberedSparks$Scene;", true)
  | 1 => ("NumberedSparks$Finder", "own", "LNumberedSparks$Spark;", true)
  | 2 => ("NumberedSparks$Finder", "child", "LNumberedSparks$Spark;", true)
  | _ => ("NumberedSparks$Finder", "grandchild", "LNumberedSparks$Spark;", true)
def tyX0 : Nat → FieldType := fun k => match k with
  | 0 => .object "NumberedSparks$Scene"
  | 1 => .object "NumberedSparks$Spark"
  | 2 => .object "NumberedSparks$Spark"
  | _ => .object "NumberedSparks$Spark"
abbrev wsX00 : List Cond := u_ws RX0 TX0 4
theorem nmX0 : ∀ a, a < 4 → ∀ b, b < 4 → a ≠ b → (TX0 a).2.1 ≠ (TX0 b).2.1 := by decide +kernel
theorem tyX0_ok : ∀ k, k < 4 → parseFieldDescriptor (TX0 k).2.2.1 = some (tyX0 k) := by decide +kernel
abbrev cX0_init : ByteArray := prog_2_method_1_code
def yX0_init : MethodName := ⟨RX0, "<init>", "(LNumberedSparks$Scene;)V"⟩
abbrev cX0_find : ByteArray := prog_2_method_2_code
def yX0_find : MethodName := ⟨RX0, "find", "(I)LNumberedSparks$Spark;"⟩
def RX1 : String := "NumberedSparks$Frame"
def TX1 : u_T := fun k => match k with
  | 0 => ("NumberedSparks$Frame", "scene", "LNumberedSparks$Scene;", true)
  | 1 => ("NumberedSparks$Frame", "walk", "LNumberedSparks$Walk;", true)
  | 2 => ("NumberedSparks$Frame", "length", "I", false)
  | 3 => ("NumberedSparks$Frame", "rows", "[I", false)
  | 4 => ("NumberedSparks$Frame", "order", "[I", false)
  | 5 => ("NumberedSparks$Frame", "depths", "[I", true)
  | _ => ("NumberedSparks$Frame", "tick", "I", false)
def tyX1 : Nat → FieldType := fun k => match k with
  | 0 => .object "NumberedSparks$Scene"
  | 1 => .object "NumberedSparks$Walk"
  | 2 => .int
  | 3 => .array .int
  | 4 => .array .int
  | 5 => .array .int
  | _ => .int
abbrev wsX10 : List Cond := u_ws RX1 TX1 7
theorem nmX1 : ∀ a, a < 7 → ∀ b, b < 7 → a ≠ b → (TX1 a).2.1 ≠ (TX1 b).2.1 := by decide +kernel
theorem tyX1_ok : ∀ k, k < 7 → parseFieldDescriptor (TX1 k).2.2.1 = some (tyX1 k) := by decide +kernel
abbrev cX1_init : ByteArray := prog_3_method_1_code
def yX1_init : MethodName := ⟨RX1, "<init>", "(LNumberedSparks$Scene;LNumberedSparks$Walk;)V"⟩
abbrev cX1_forget : ByteArray := prog_3_method_2_code
def yX1_forget : MethodName := ⟨RX1, "forget", "()V"⟩
abbrev cX1_shows : ByteArray := prog_3_method_3_code
def yX1_shows : MethodName := ⟨RX1, "shows", "(I)Z"⟩
abbrev cX1_append : ByteArray := prog_3_method_4_code
def yX1_append : MethodName := ⟨RX1, "append", "(LNumberedSparks$Spark;I)V"⟩
abbrev cX1_grow : ByteArray := prog_3_method_5_code
def yX1_grow : MethodName := ⟨RX1, "grow", "()V"⟩
abbrev cX1_putInOrder : ByteArray := prog_3_method_6_code
def yX1_putInOrder : MethodName := ⟨RX1, "putInOrder", "()V"⟩
abbrev cX1_depthOf : ByteArray := prog_3_method_7_code
def yX1_depthOf : MethodName := ⟨RX1, "depthOf", "(I)I"⟩
abbrev cX1_ofRow : ByteArray := prog_3_method_8_code
def yX1_ofRow : MethodName := ⟨RX1, "ofRow", "(II)I"⟩
abbrev cX1_codeOf : ByteArray := prog_3_method_9_code
def yX1_codeOf : MethodName := ⟨RX1, "codeOf", "(I)I"⟩
abbrev cX1_kindOf : ByteArray := prog_3_method_10_code
def yX1_kindOf : MethodName := ⟨RX1, "kindOf", "(I)I"⟩
abbrev cX1_bornOf : ByteArray := prog_3_method_11_code
def yX1_bornOf : MethodName := ⟨RX1, "bornOf", "(I)I"⟩
abbrev cX1_endOf : ByteArray := prog_3_method_12_code
def yX1_endOf : MethodName := ⟨RX1, "endOf", "(I)I"⟩
abbrev cX1_placeOf : ByteArray := prog_3_method_13_code
def yX1_placeOf : MethodName := ⟨RX1, "placeOf", "(II)I"⟩
abbrev cX1_rowAt : ByteArray := prog_3_method_14_code
def yX1_rowAt : MethodName := ⟨RX1, "rowAt", "(I)I"⟩
abbrev cX1_isInColumn : ByteArray := prog_3_method_15_code
def yX1_isInColumn : MethodName := ⟨RX1, "isInColumn", "(III)Z"⟩
abbrev cX1_columnOf : ByteArray := prog_3_method_16_code
def yX1_columnOf : MethodName := ⟨RX1, "columnOf", "(I)I"⟩
abbrev cX1_layerOf : ByteArray := prog_3_method_17_code
def yX1_layerOf : MethodName := ⟨RX1, "layerOf", "(I)I"⟩
abbrev cX1_farSquared : ByteArray := prog_3_method_18_code
def yX1_farSquared : MethodName := ⟨RX1, "farSquared", "(IIII)I"⟩
abbrev cX1_fromTop : ByteArray := prog_3_method_19_code
def yX1_fromTop : MethodName := ⟨RX1, "fromTop", "(III)I"⟩
abbrev cX1_countColumns : ByteArray := prog_3_method_20_code
def yX1_countColumns : MethodName := ⟨RX1, "countColumns", "([I)V"⟩
abbrev cX1_countLayer : ByteArray := prog_3_method_21_code
def yX1_countLayer : MethodName := ⟨RX1, "countLayer", "(I[I)V"⟩
abbrev cX1_countTwos : ByteArray := prog_3_method_22_code
def yX1_countTwos : MethodName := ⟨RX1, "countTwos", "([I)J"⟩
abbrev cX1_forgetColumns : ByteArray := prog_3_method_23_code
def yX1_forgetColumns : MethodName := ⟨RX1, "forgetColumns", "(II[I)V"⟩
abbrev cX1_markTops : ByteArray := prog_3_method_24_code
def yX1_markTops : MethodName := ⟨RX1, "markTops", "([I)V"⟩
def RX2 : String := "NumberedSparks$History"
def TX2 : u_T := fun k => match k with
  | 0 => ("NumberedSparks$History", "kinds", "[I", true)
  | 1 => ("NumberedSparks$History", "whats", "[I", true)
  | 2 => ("NumberedSparks$History", "values", "[I", true)
  | _ => ("NumberedSparks$History", "length", "I", false)
def tyX2 : Nat → FieldType := fun k => match k with
  | 0 => .array .int
  | 1 => .array .int
  | 2 => .array .int
  | _ => .int
abbrev wsX20 : List Cond := u_ws RX2 TX2 4
theorem nmX2 : ∀ a, a < 4 → ∀ b, b < 4 → a ≠ b → (TX2 a).2.1 ≠ (TX2 b).2.1 := by decide +kernel
theorem tyX2_ok : ∀ k, k < 4 → parseFieldDescriptor (TX2 k).2.2.1 = some (tyX2 k) := by decide +kernel
abbrev cX2_init : ByteArray := prog_4_method_1_code
def yX2_init : MethodName := ⟨RX2, "<init>", "()V"⟩
abbrev cX2_forget : ByteArray := prog_4_method_2_code
def yX2_forget : MethodName := ⟨RX2, "forget", "()V"⟩
abbrev cX2_isEmpty : ByteArray := prog_4_method_3_code
def yX2_isEmpty : MethodName := ⟨RX2, "isEmpty", "()Z"⟩
abbrev cX2_remember : ByteArray := prog_4_method_4_code
def yX2_remember : MethodName := ⟨RX2, "remember", "(III)V"⟩
abbrev cX2_takeBack : ByteArray := prog_4_method_5_code
def yX2_takeBack : MethodName := ⟨RX2, "takeBack", "(LNumberedSparks$Scene;)V"⟩
def RX3 : String := "NumberedSparks$Output"
def TX3 : u_T := fun k => match k with
  | 0 => ("NumberedSparks$Output", "bytes", "[I", true)
  | _ => ("NumberedSparks$Output", "length", "I", false)
def tyX3 : Nat → FieldType := fun k => match k with
  | 0 => .array .int
  | _ => .int
abbrev wsX30 : List Cond := u_ws RX3 TX3 2
theorem nmX3 : ∀ a, a < 2 → ∀ b, b < 2 → a ≠ b → (TX3 a).2.1 ≠ (TX3 b).2.1 := by decide +kernel
theorem tyX3_ok : ∀ k, k < 2 → parseFieldDescriptor (TX3 k).2.2.1 = some (tyX3 k) := by decide +kernel
abbrev cX3_init : ByteArray := prog_5_method_1_code
def yX3_init : MethodName := ⟨RX3, "<init>", "()V"⟩
abbrev cX3_clear : ByteArray := prog_5_method_2_code
def yX3_clear : MethodName := ⟨RX3, "clear", "()V"⟩
abbrev cX3_put : ByteArray := prog_5_method_3_code
def yX3_put : MethodName := ⟨RX3, "put", "(I)V"⟩
abbrev cX3_putNumber : ByteArray := prog_5_method_4_code
def yX3_putNumber : MethodName := ⟨RX3, "putNumber", "(I)V"⟩
abbrev cX3_byteAt : ByteArray := prog_5_method_5_code
def yX3_byteAt : MethodName := ⟨RX3, "byteAt", "(I)I"⟩
def RX4 : String := "NumberedSparks$Reader"
def TX4 : u_T := fun k => match k with
  | 0 => ("NumberedSparks$Reader", "draft", "LNumberedSparks$Scene;", true)
  | 1 => ("NumberedSparks$Reader", "fault", "I", false)
  | 2 => ("NumberedSparks$Reader", "faultPlace", "I", false)
  | 3 => ("NumberedSparks$Reader", "text", "[I", false)
  | 4 => ("NumberedSparks$Reader", "length", "I", false)
  | 5 => ("NumberedSparks$Reader", "token", "I", false)
  | 6 => ("NumberedSparks$Reader", "start", "I", false)
  | 7 => ("NumberedSparks$Reader", "beyond", "I", false)
  | _ => ("NumberedSparks$Reader", "value", "I", false)
def tyX4 : Nat → FieldType := fun k => match k with
  | 0 => .object "NumberedSparks$Scene"
  | 1 => .int
  | 2 => .int
  | 3 => .array .int
  | 4 => .int
  | 5 => .int
  | 6 => .int
  | 7 => .int
  | _ => .int
abbrev wsX40 : List Cond := u_ws RX4 TX4 9
theorem nmX4 : ∀ a, a < 9 → ∀ b, b < 9 → a ≠ b → (TX4 a).2.1 ≠ (TX4 b).2.1 := by decide +kernel
theorem tyX4_ok : ∀ k, k < 9 → parseFieldDescriptor (TX4 k).2.2.1 = some (tyX4 k) := by decide +kernel
abbrev cX4_init : ByteArray := prog_6_method_1_code
def yX4_init : MethodName := ⟨RX4, "<init>", "()V"⟩
abbrev cX4_read : ByteArray := prog_6_method_2_code
def yX4_read : MethodName := ⟨RX4, "read", "([II)I"⟩
abbrev cX4_readWorld : ByteArray := prog_6_method_3_code
def yX4_readWorld : MethodName := ⟨RX4, "readWorld", "()V"⟩
abbrev cX4_readSeed : ByteArray := prog_6_method_4_code
def yX4_readSeed : MethodName := ⟨RX4, "readSeed", "()V"⟩
abbrev cX4_readKind : ByteArray := prog_6_method_5_code
def yX4_readKind : MethodName := ⟨RX4, "readKind", "()V"⟩
abbrev cX4_readFalls : ByteArray := prog_6_method_6_code
def yX4_readFalls : MethodName := ⟨RX4, "readFalls", "()I"⟩
abbrev cX4_readEdge : ByteArray := prog_6_method_7_code
def yX4_readEdge : MethodName := ⟨RX4, "readEdge", "()I"⟩
abbrev cX4_readSource : ByteArray := prog_6_method_8_code
def yX4_readSource : MethodName := ⟨RX4, "readSource", "()V"⟩
abbrev cX4_numberBehind : ByteArray := prog_6_method_9_code
def yX4_numberBehind : MethodName := ⟨RX4, "numberBehind", "(Ljava/lang/String;III)I"⟩
abbrev cX4_isWord : ByteArray := prog_6_method_10_code
def yX4_isWord : MethodName := ⟨RX4, "isWord", "(Ljava/lang/String;)Z"⟩
abbrev cX4_takeWord : ByteArray := prog_6_method_11_code
def yX4_takeWord : MethodName := ⟨RX4, "takeWord", "(Ljava/lang/String;)Z"⟩
abbrev cX4_needWord : ByteArray := prog_6_method_12_code
def yX4_needWord : MethodName := ⟨RX4, "needWord", "(Ljava/lang/String;)V"⟩
abbrev cX4_needSign : ByteArray := prog_6_method_13_code
def yX4_needSign : MethodName := ⟨RX4, "needSign", "(C)V"⟩
abbrev cX4_needNumber : ByteArray := prog_6_method_14_code
def yX4_needNumber : MethodName := ⟨RX4, "needNumber", "(II)I"⟩
abbrev cX4_fail : ByteArray := prog_6_method_15_code
def yX4_fail : MethodName := ⟨RX4, "fail", "(I)V"⟩
abbrev cX4_byteAt : ByteArray := prog_6_method_16_code
def yX4_byteAt : MethodName := ⟨RX4, "byteAt", "(I)I"⟩
abbrev cX4_isLetter : ByteArray := prog_6_method_17_code
def yX4_isLetter : MethodName := ⟨RX4, "isLetter", "(I)Z"⟩
abbrev cX4_isDigit : ByteArray := prog_6_method_18_code
def yX4_isDigit : MethodName := ⟨RX4, "isDigit", "(I)Z"⟩
abbrev cX4_advance : ByteArray := prog_6_method_19_code
def yX4_advance : MethodName := ⟨RX4, "advance", "()V"⟩
def RX5 : String := "NumberedSparks$Scene"
def TX5 : u_T := fun k => match k with
  | 0 => ("NumberedSparks$Scene", "cells", "[I", true)
  | 1 => ("NumberedSparks$Scene", "kinds", "[I", true)
  | 2 => ("NumberedSparks$Scene", "sources", "[I", true)
  | 3 => ("NumberedSparks$Scene", "kindCount", "I", false)
  | 4 => ("NumberedSparks$Scene", "sourceCount", "I", false)
  | 5 => ("NumberedSparks$Scene", "seed", "I", false)
  | 6 => ("NumberedSparks$Scene", "seedTold", "Z", false)
  | _ => ("NumberedSparks$Scene", "stands", "Z", false)
def tyX5 : Nat → FieldType := fun k => match k with
  | 0 => .array .int
  | 1 => .array .int
  | 2 => .array .int
  | 3 => .int
  | 4 => .int
  | 5 => .int
  | 6 => .boolean
  | _ => .boolean
abbrev wsX50 : List Cond := u_ws RX5 TX5 8
theorem nmX5 : ∀ a, a < 8 → ∀ b, b < 8 → a ≠ b → (TX5 a).2.1 ≠ (TX5 b).2.1 := by decide +kernel
theorem tyX5_ok : ∀ k, k < 8 → parseFieldDescriptor (TX5 k).2.2.1 = some (tyX5 k) := by decide +kernel
abbrev cX5_init : ByteArray := prog_7_method_1_code
def yX5_init : MethodName := ⟨RX5, "<init>", "()V"⟩
abbrev cX5_clear : ByteArray := prog_7_method_2_code
def yX5_clear : MethodName := ⟨RX5, "clear", "()V"⟩
abbrev cX5_become : ByteArray := prog_7_method_3_code
def yX5_become : MethodName := ⟨RX5, "become", "(LNumberedSparks$Scene;)V"⟩
abbrev cX5_cellsAlong : ByteArray := prog_7_method_4_code
def yX5_cellsAlong : MethodName := ⟨RX5, "cellsAlong", "(I)I"⟩
abbrev cX5_setCells : ByteArray := prog_7_method_5_code
def yX5_setCells : MethodName := ⟨RX5, "setCells", "(II)V"⟩
abbrev cX5_isCell : ByteArray := prog_7_method_6_code
def yX5_isCell : MethodName := ⟨RX5, "isCell", "(II)Z"⟩
abbrev cX5_isCellOfWorld : ByteArray := prog_7_method_7_code
def yX5_isCellOfWorld : MethodName := ⟨RX5, "isCellOfWorld", "(III)Z"⟩
abbrev cX5_isKind : ByteArray := prog_7_method_8_code
def yX5_isKind : MethodName := ⟨RX5, "isKind", "(I)Z"⟩
abbrev cX5_isSource : ByteArray := prog_7_method_9_code
def yX5_isSource : MethodName := ⟨RX5, "isSource", "(I)Z"⟩
abbrev cX5_ofKind : ByteArray := prog_7_method_10_code
def yX5_ofKind : MethodName := ⟨RX5, "ofKind", "(II)I"⟩
abbrev cX5_setKind : ByteArray := prog_7_method_11_code
def yX5_setKind : MethodName := ⟨RX5, "setKind", "(III)V"⟩
abbrev cX5_ofSource : ByteArray := prog_7_method_12_code
def yX5_ofSource : MethodName := ⟨RX5, "ofSource", "(II)I"⟩
abbrev cX5_setSource : ByteArray := prog_7_method_13_code
def yX5_setSource : MethodName := ⟨RX5, "setSource", "(III)V"⟩
abbrev cX5_mix : ByteArray := prog_7_method_14_code
def yX5_mix : MethodName := ⟨RX5, "mix", "(II)J"⟩
abbrev cX5_draw : ByteArray := prog_7_method_15_code
def yX5_draw : MethodName := ⟨RX5, "draw", "(III)I"⟩
abbrev cX5_colourOf : ByteArray := prog_7_method_16_code
def yX5_colourOf : MethodName := ⟨RX5, "colourOf", "(I)I"⟩
abbrev cX5_hasSpark : ByteArray := prog_7_method_17_code
def yX5_hasSpark : MethodName := ⟨RX5, "hasSpark", "(I)Z"⟩
abbrev cX5_kindOfSpark : ByteArray := prog_7_method_18_code
def yX5_kindOfSpark : MethodName := ⟨RX5, "kindOfSpark", "(I)I"⟩
abbrev cX5_burstsUpTo : ByteArray := prog_7_method_19_code
def yX5_burstsUpTo : MethodName := ⟨RX5, "burstsUpTo", "(II)I"⟩
abbrev cX5_plannedTick : ByteArray := prog_7_method_20_code
def yX5_plannedTick : MethodName := ⟨RX5, "plannedTick", "(II)I"⟩
abbrev cX5_birthTick : ByteArray := prog_7_method_21_code
def yX5_birthTick : MethodName := ⟨RX5, "birthTick", "(II)I"⟩
abbrev cX5_bornBefore : ByteArray := prog_7_method_22_code
def yX5_bornBefore : MethodName := ⟨RX5, "bornBefore", "(II)I"⟩
abbrev cX5_tickOfBirth : ByteArray := prog_7_method_23_code
def yX5_tickOfBirth : MethodName := ⟨RX5, "tickOfBirth", "(II)I"⟩
abbrev cX5_codeOfBirth : ByteArray := prog_7_method_24_code
def yX5_codeOfBirth : MethodName := ⟨RX5, "codeOfBirth", "(II)I"⟩
abbrev cX5_countBirths : ByteArray := prog_7_method_25_code
def yX5_countBirths : MethodName := ⟨RX5, "countBirths", "(III[I)V"⟩
def RX6 : String := "NumberedSparks$Spark"
def TX6 : u_T := fun k => match k with
  | 0 => ("NumberedSparks$Spark", "scene", "LNumberedSparks$Scene;", true)
  | 1 => ("NumberedSparks$Spark", "start", "[I", true)
  | 2 => ("NumberedSparks$Spark", "speed", "[I", true)
  | 3 => ("NumberedSparks$Spark", "code", "I", false)
  | 4 => ("NumberedSparks$Spark", "kind", "I", false)
  | 5 => ("NumberedSparks$Spark", "generation", "I", false)
  | 6 => ("NumberedSparks$Spark", "born", "I", false)
  | 7 => ("NumberedSparks$Spark", "ends", "I", false)
  | 8 => ("NumberedSparks$Spark", "falls", "I", false)
  | _ => ("NumberedSparks$Spark", "edge", "I", false)
def tyX6 : Nat → FieldType := fun k => match k with
  | 0 => .object "NumberedSparks$Scene"
  | 1 => .array .int
  | 2 => .array .int
  | 3 => .int
  | 4 => .int
  | 5 => .int
  | 6 => .int
  | 7 => .int
  | 8 => .int
  | _ => .int
abbrev wsX60 : List Cond := u_ws RX6 TX6 10
theorem nmX6 : ∀ a, a < 10 → ∀ b, b < 10 → a ≠ b → (TX6 a).2.1 ≠ (TX6 b).2.1 := by decide +kernel
theorem tyX6_ok : ∀ k, k < 10 → parseFieldDescriptor (TX6 k).2.2.1 = some (tyX6 k) := by decide +kernel
abbrev cX6_init : ByteArray := prog_8_method_1_code
def yX6_init : MethodName := ⟨RX6, "<init>", "(LNumberedSparks$Scene;)V"⟩
abbrev cX6_beginAtSource : ByteArray := prog_8_method_2_code
def yX6_beginAtSource : MethodName := ⟨RX6, "beginAtSource", "(III)V"⟩
abbrev cX6_beginAsChild : ByteArray := prog_8_method_3_code
def yX6_beginAsChild : MethodName := ⟨RX6, "beginAsChild", "(LNumberedSparks$Spark;I)V"⟩
abbrev cX6_fly : ByteArray := prog_8_method_4_code
def yX6_fly : MethodName := ⟨RX6, "fly", "()V"⟩
abbrev cX6_ageBeyond : ByteArray := prog_8_method_5_code
def yX6_ageBeyond : MethodName := ⟨RX6, "ageBeyond", "(II)I"⟩
abbrev cX6_speedAlong : ByteArray := prog_8_method_6_code
def yX6_speedAlong : MethodName := ⟨RX6, "speedAlong", "(I)I"⟩
abbrev cX6_isThere : ByteArray := prog_8_method_7_code
def yX6_isThere : MethodName := ⟨RX6, "isThere", "(I)Z"⟩
abbrev cX6_freePlace : ByteArray := prog_8_method_8_code
def yX6_freePlace : MethodName := ⟨RX6, "freePlace", "(II)I"⟩
abbrev cX6_placeAt : ByteArray := prog_8_method_9_code
def yX6_placeAt : MethodName := ⟨RX6, "placeAt", "(II)I"⟩
abbrev cX6_cellAt : ByteArray := prog_8_method_10_code
def yX6_cellAt : MethodName := ⟨RX6, "cellAt", "(I)I"⟩
abbrev cX6_edgesAt : ByteArray := prog_8_method_11_code
def yX6_edgesAt : MethodName := ⟨RX6, "edgesAt", "(I)I"⟩
abbrev cX6_firstInColumn : ByteArray := prog_8_method_12_code
def yX6_firstInColumn : MethodName := ⟨RX6, "firstInColumn", "(IIII)I"⟩
abbrev cX6_crossings : ByteArray := prog_8_method_13_code
def yX6_crossings : MethodName := ⟨RX6, "crossings", "(IIIZ)I"⟩
def RX7 : String := "NumberedSparks$Walk"
def TX7 : u_T := fun k => match k with
  | 0 => ("NumberedSparks$Walk", "scene", "LNumberedSparks$Scene;", true)
  | 1 => ("NumberedSparks$Walk", "line", "[LNumberedSparks$Spark;", true)
  | 2 => ("NumberedSparks$Walk", "shownRows", "[I", true)
  | 3 => ("NumberedSparks$Walk", "nextRoot", "[I", true)
  | 4 => ("NumberedSparks$Walk", "beyondRoots", "[I", true)
  | 5 => ("NumberedSparks$Walk", "spans", "[I", true)
  | 6 => ("NumberedSparks$Walk", "first", "I", false)
  | 7 => ("NumberedSparks$Walk", "beyond", "I", false)
  | _ => ("NumberedSparks$Walk", "showing", "I", false)
def tyX7 : Nat → FieldType := fun k => match k with
  | 0 => .object "NumberedSparks$Scene"
  | 1 => .array (.object "NumberedSparks$Spark")
  | 2 => .array .int
  | 3 => .array .int
  | 4 => .array .int
  | 5 => .array .int
  | 6 => .int
  | 7 => .int
  | _ => .int
abbrev wsX70 : List Cond := u_ws RX7 TX7 9
theorem nmX7 : ∀ a, a < 9 → ∀ b, b < 9 → a ≠ b → (TX7 a).2.1 ≠ (TX7 b).2.1 := by decide +kernel
theorem tyX7_ok : ∀ k, k < 9 → parseFieldDescriptor (TX7 k).2.2.1 = some (tyX7 k) := by decide +kernel
abbrev cX7_init : ByteArray := prog_9_method_1_code
def yX7_init : MethodName := ⟨RX7, "<init>", "(LNumberedSparks$Scene;)V"⟩
abbrev cX7_start : ByteArray := prog_9_method_2_code
def yX7_start : MethodName := ⟨RX7, "start", "(II)V"⟩
abbrev cX7_startWithRoot : ByteArray := prog_9_method_3_code
def yX7_startWithRoot : MethodName := ⟨RX7, "startWithRoot", "(II)V"⟩
abbrev cX7_measureSpans : ByteArray := prog_9_method_4_code
def yX7_measureSpans : MethodName := ⟨RX7, "measureSpans", "()V"⟩
abbrev cX7_spanOf : ByteArray := prog_9_method_5_code
def yX7_spanOf : MethodName := ⟨RX7, "spanOf", "(II)I"⟩
abbrev cX7_spanBehind : ByteArray := prog_9_method_6_code
def yX7_spanBehind : MethodName := ⟨RX7, "spanBehind", "(II)I"⟩
abbrev cX7_stepRoot : ByteArray := prog_9_method_7_code
def yX7_stepRoot : MethodName := ⟨RX7, "stepRoot", "()Z"⟩
abbrev cX7_stepChild : ByteArray := prog_9_method_8_code
def yX7_stepChild : MethodName := ⟨RX7, "stepChild", "(LNumberedSparks$Spark;II)V"⟩
abbrev cX7_isOutside : ByteArray := prog_9_method_9_code
def yX7_isOutside : MethodName := ⟨RX7, "isOutside", "(LNumberedSparks$Spark;)Z"⟩
abbrev cX7_show : ByteArray := prog_9_method_10_code
def yX7_show : MethodName := ⟨RX7, "show", "(I)V"⟩
abbrev cX7_sourceOfLeastRoot : ByteArray := prog_9_method_11_code
def yX7_sourceOfLeastRoot : MethodName := ⟨RX7, "sourceOfLeastRoot", "()I"⟩
abbrev cX7_shown : ByteArray := prog_9_method_12_code
def yX7_shown : MethodName := ⟨RX7, "shown", "(I)LNumberedSparks$Spark;"⟩
def RX8 : String := "NumberedSparks"
def TX8 : u_T := fun k => match k with
  | 0 => ("NumberedSparks", "tape", "[I", true)
  | 1 => ("NumberedSparks", "tapeLength", "I", false)
  | 2 => ("NumberedSparks", "scene", "LNumberedSparks$Scene;", true)
  | 3 => ("NumberedSparks", "reader", "LNumberedSparks$Reader;", true)
  | 4 => ("NumberedSparks", "history", "LNumberedSparks$History;", true)
  | 5 => ("NumberedSparks", "out", "LNumberedSparks$Output;", true)
  | 6 => ("NumberedSparks", "walk", "LNumberedSparks$Walk;", true)
  | 7 => ("NumberedSparks", "frame", "LNumberedSparks$Frame;", true)
  | 8 => ("NumberedSparks", "finder", "LNumberedSparks$Finder;", true)
  | 9 => ("NumberedSparks", "otherFinder", "LNumberedSparks$Finder;", true)
  | _ => ("NumberedSparks", "counts", "[I", true)
def tyX8 : Nat → FieldType := fun k => match k with
  | 0 => .array .int
  | 1 => .int
  | 2 => .object "NumberedSparks$Scene"
  | 3 => .object "NumberedSparks$Reader"
  | 4 => .object "NumberedSparks$History"
  | 5 => .object "NumberedSparks$Output"
  | 6 => .object "NumberedSparks$Walk"
  | 7 => .object "NumberedSparks$Frame"
  | 8 => .object "NumberedSparks$Finder"
  | 9 => .object "NumberedSparks$Finder"
  | _ => .array .int
abbrev wsX80 : List Cond := u_ws RX8 TX8 11
theorem nmX8 : ∀ a, a < 11 → ∀ b, b < 11 → a ≠ b → (TX8 a).2.1 ≠ (TX8 b).2.1 := by decide +kernel
theorem tyX8_ok : ∀ k, k < 11 → parseFieldDescriptor (TX8 k).2.2.1 = some (tyX8 k) := by decide +kernel
abbrev cX8_init : ByteArray := prog_1_method_1_code
def yX8_init : MethodName := ⟨RX8, "<init>", "()V"⟩
abbrev cX8_feed : ByteArray := prog_1_method_2_code
def yX8_feed : MethodName := ⟨RX8, "feed", "(IIIII)I"⟩
abbrev cX8_putOnTape : ByteArray := prog_1_method_3_code
def yX8_putOnTape : MethodName := ⟨RX8, "putOnTape", "(I)V"⟩
abbrev cX8_end : ByteArray := prog_1_method_4_code
def yX8_end : MethodName := ⟨RX8, "end", "(I)I"⟩
abbrev cX8_scene : ByteArray := prog_1_method_5_code
def yX8_scene : MethodName := ⟨RX8, "scene", "()I"⟩
abbrev cX8_fault : ByteArray := prog_1_method_6_code
def yX8_fault : MethodName := ⟨RX8, "fault", "(I)I"⟩
abbrev cX8_count : ByteArray := prog_1_method_7_code
def yX8_count : MethodName := ⟨RX8, "count", "(I)I"⟩
abbrev cX8_kind : ByteArray := prog_1_method_8_code
def yX8_kind : MethodName := ⟨RX8, "kind", "(II)I"⟩
abbrev cX8_source : ByteArray := prog_1_method_9_code
def yX8_source : MethodName := ⟨RX8, "source", "(II)I"⟩
abbrev cX8_seed : ByteArray := prog_1_method_10_code
def yX8_seed : MethodName := ⟨RX8, "seed", "(I)I"⟩
abbrev cX8_sets : ByteArray := prog_1_method_11_code
def yX8_sets : MethodName := ⟨RX8, "sets", "(III)I"⟩
abbrev cX8_undo : ByteArray := prog_1_method_12_code
def yX8_undo : MethodName := ⟨RX8, "undo", "()I"⟩
abbrev cX8_mixed : ByteArray := prog_1_method_13_code
def yX8_mixed : MethodName := ⟨RX8, "mixed", "(II)J"⟩
abbrev cX8_is : ByteArray := prog_1_method_14_code
def yX8_is : MethodName := ⟨RX8, "is", "(I)I"⟩
abbrev cX8_child : ByteArray := prog_1_method_15_code
def yX8_child : MethodName := ⟨RX8, "child", "(II)I"⟩
abbrev cX8_parent : ByteArray := prog_1_method_16_code
def yX8_parent : MethodName := ⟨RX8, "parent", "(I)I"⟩
abbrev cX8_spark : ByteArray := prog_1_method_17_code
def yX8_spark : MethodName := ⟨RX8, "spark", "(II)I"⟩
abbrev cX8_place : ByteArray := prog_1_method_18_code
def yX8_place : MethodName := ⟨RX8, "place", "(III)I"⟩
abbrev cX8_size : ByteArray := prog_1_method_19_code
def yX8_size : MethodName := ⟨RX8, "size", "(II)I"⟩
abbrev cX8_edges : ByteArray := prog_1_method_20_code
def yX8_edges : MethodName := ⟨RX8, "edges", "(I)I"⟩
abbrev cX8_over : ByteArray := prog_1_method_21_code
def yX8_over : MethodName := ⟨RX8, "over", "(I)I"⟩
abbrev cX8_reach : ByteArray := prog_1_method_22_code
def yX8_reach : MethodName := ⟨RX8, "reach", "(III)I"⟩
abbrev cX8_cellsOf : ByteArray := prog_1_method_23_code
def yX8_cellsOf : MethodName := ⟨RX8, "cellsOf", "(I)I"⟩
abbrev cX8_isAmong : ByteArray := prog_1_method_24_code
def yX8_isAmong : MethodName := ⟨RX8, "isAmong", "(II)Z"⟩
abbrev cX8_meets : ByteArray := prog_1_method_25_code
def yX8_meets : MethodName := ⟨RX8, "meets", "(II)I"⟩
abbrev cX8_kin : ByteArray := prog_1_method_26_code
def yX8_kin : MethodName := ⟨RX8, "kin", "(II)I"⟩
abbrev cX8_line : ByteArray := prog_1_method_27_code
def yX8_line : MethodName := ⟨RX8, "line", "(II)I"⟩
abbrev cX8_tell : ByteArray := prog_1_method_28_code
def yX8_tell : MethodName := ⟨RX8, "tell", "(I)I"⟩
abbrev cX8_octet : ByteArray := prog_1_method_29_code
def yX8_octet : MethodName := ⟨RX8, "octet", "(I)I"⟩
abbrev cX8_births : ByteArray := prog_1_method_30_code
def yX8_births : MethodName := ⟨RX8, "births", "(III)I"⟩
abbrev cX8_bornAs : ByteArray := prog_1_method_31_code
def yX8_bornAs : MethodName := ⟨RX8, "bornAs", "(II)I"⟩
abbrev cX8_latest : ByteArray := prog_1_method_32_code
def yX8_latest : MethodName := ⟨RX8, "latest", "(II)I"⟩
abbrev cX8_next : ByteArray := prog_1_method_33_code
def yX8_next : MethodName := ⟨RX8, "next", "(II)I"⟩
abbrev cX8_lull : ByteArray := prog_1_method_34_code
def yX8_lull : MethodName := ⟨RX8, "lull", "(IIII)I"⟩
abbrev cX8_endings : ByteArray := prog_1_method_35_code
def yX8_endings : MethodName := ⟨RX8, "endings", "(II)I"⟩
abbrev cX8_peak : ByteArray := prog_1_method_36_code
def yX8_peak : MethodName := ⟨RX8, "peak", "(III)I"⟩
abbrev cX8_countComingAndGoing : ByteArray := prog_1_method_37_code
def yX8_countComingAndGoing : MethodName := ⟨RX8, "countComingAndGoing", "(II)V"⟩
abbrev cX8_firstIn : ByteArray := prog_1_method_38_code
def yX8_firstIn : MethodName := ⟨RX8, "firstIn", "(III)I"⟩
abbrev cX8_flux : ByteArray := prog_1_method_39_code
def yX8_flux : MethodName := ⟨RX8, "flux", "(IIII)I"⟩
abbrev cX8_many : ByteArray := prog_1_method_40_code
def yX8_many : MethodName := ⟨RX8, "many", "(II)I"⟩
abbrev cX8_drawn : ByteArray := prog_1_method_41_code
def yX8_drawn : MethodName := ⟨RX8, "drawn", "(II)I"⟩
abbrev cX8_digest : ByteArray := prog_1_method_42_code
def yX8_digest : MethodName := ⟨RX8, "digest", "(I)J"⟩
abbrev cX8_inColumn : ByteArray := prog_1_method_43_code
def yX8_inColumn : MethodName := ⟨RX8, "inColumn", "(III)I"⟩
abbrev cX8_top : ByteArray := prog_1_method_44_code
def yX8_top : MethodName := ⟨RX8, "top", "(III)I"⟩
abbrev cX8_below : ByteArray := prog_1_method_45_code
def yX8_below : MethodName := ⟨RX8, "below", "(IIII)I"⟩
abbrev cX8_fullest : ByteArray := prog_1_method_46_code
def yX8_fullest : MethodName := ⟨RX8, "fullest", "(II)I"⟩
abbrev cX8_columns : ByteArray := prog_1_method_47_code
def yX8_columns : MethodName := ⟨RX8, "columns", "(I)I"⟩
abbrev cX8_nearest : ByteArray := prog_1_method_48_code
def yX8_nearest : MethodName := ⟨RX8, "nearest", "(IIII)I"⟩
abbrev cX8_within : ByteArray := prog_1_method_49_code
def yX8_within : MethodName := ⟨RX8, "within", "(IIIII)I"⟩
abbrev cX8_twos : ByteArray := prog_1_method_50_code
def yX8_twos : MethodName := ⟨RX8, "twos", "(I)J"⟩
abbrev cX8_box : ByteArray := prog_1_method_51_code
def yX8_box : MethodName := ⟨RX8, "box", "(II)I"⟩
abbrev cX8_middle : ByteArray := prog_1_method_52_code
def yX8_middle : MethodName := ⟨RX8, "middle", "(II)I"⟩
abbrev cX8_both : ByteArray := prog_1_method_53_code
def yX8_both : MethodName := ⟨RX8, "both", "(II)I"⟩
abbrev cX8_ofAge : ByteArray := prog_1_method_54_code
def yX8_ofAge : MethodName := ⟨RX8, "ofAge", "(III)I"⟩
abbrev cX8_colours : ByteArray := prog_1_method_55_code
def yX8_colours : MethodName := ⟨RX8, "colours", "(II)I"⟩
abbrev cX8_twins : ByteArray := prog_1_method_56_code
def yX8_twins : MethodName := ⟨RX8, "twins", "(I)I"⟩
abbrev cX8_picture : ByteArray := prog_1_method_57_code
def yX8_picture : MethodName := ⟨RX8, "picture", "(I)I"⟩
abbrev cX8_layer : ByteArray := prog_1_method_58_code
def yX8_layer : MethodName := ⟨RX8, "layer", "(II)I"⟩
abbrev cX8_countOfColumn : ByteArray := prog_1_method_59_code
def yX8_countOfColumn : MethodName := ⟨RX8, "countOfColumn", "(II)I"⟩
abbrev cX8_isTick : ByteArray := prog_1_method_60_code
def yX8_isTick : MethodName := ⟨RX8, "isTick", "(I)Z"⟩
abbrev cX8_isAxis : ByteArray := prog_1_method_61_code
def yX8_isAxis : MethodName := ⟨RX8, "isAxis", "(I)Z"⟩
abbrev cX8_columnAt : ByteArray := prog_1_method_62_code
def yX8_columnAt : MethodName := ⟨RX8, "columnAt", "(II)I"⟩
abbrev cX8_isWindow : ByteArray := prog_1_method_63_code
def yX8_isWindow : MethodName := ⟨RX8, "isWindow", "(II)Z"⟩
abbrev cX8_sourceOf : ByteArray := prog_1_method_64_code
def yX8_sourceOf : MethodName := ⟨RX8, "sourceOf", "(I)I"⟩
abbrev cX8_numberOf : ByteArray := prog_1_method_65_code
def yX8_numberOf : MethodName := ⟨RX8, "numberOf", "(I)I"⟩
abbrev cX8_codeOfRoot : ByteArray := prog_1_method_66_code
def yX8_codeOfRoot : MethodName := ⟨RX8, "codeOfRoot", "(II)I"⟩
abbrev cX8_generationOf : ByteArray := prog_1_method_67_code
def yX8_generationOf : MethodName := ⟨RX8, "generationOf", "(I)I"⟩
abbrev cX8_codeOfChild : ByteArray := prog_1_method_68_code
def yX8_codeOfChild : MethodName := ⟨RX8, "codeOfChild", "(III)I"⟩
abbrev cX8_codeOfParent : ByteArray := prog_1_method_69_code
def yX8_codeOfParent : MethodName := ⟨RX8, "codeOfParent", "(I)I"⟩
abbrev cX8_comesOf : ByteArray := prog_1_method_70_code
def yX8_comesOf : MethodName := ⟨RX8, "comesOf", "(II)Z"⟩
def RX9 : String := "NumberedSparksModel"
def TX9 : u_T := fun k => match k with
  | 0 => ("NumberedSparksModel", "thrown", "I", false)
  | 1 => ("NumberedSparksModel", "isThere", "Z", false)
  | 2 => ("NumberedSparksModel", "wide", "[I", true)
  | 3 => ("NumberedSparksModel", "seed", "I", false)
  | 4 => ("NumberedSparksModel", "kinds", "I", false)
  | 5 => ("NumberedSparksModel", "kind", "[I", true)
  | 6 => ("NumberedSparksModel", "sources", "I", false)
  | 7 => ("NumberedSparksModel", "source", "[I", true)
  | 8 => ("NumberedSparksModel", "freshWide", "[I", true)
  | 9 => ("NumberedSparksModel", "freshSeed", "I", false)
  | 10 => ("NumberedSparksModel", "freshKinds", "I", false)
  | 11 => ("NumberedSparksModel", "freshKind", "[I", true)
  | 12 => ("NumberedSparksModel", "freshSources", "I", false)
  | 13 => ("NumberedSparksModel", "freshSource", "[I", true)
  | 14 => ("NumberedSparksModel", "tape", "[B", true)
  | 15 => ("NumberedSparksModel", "taped", "I", false)
  | 16 => ("NumberedSparksModel", "size", "I", false)
  | 17 => ("NumberedSparksModel", "at", "I", false)
  | 18 => ("NumberedSparksModel", "from", "I", false)
  | 19 => ("NumberedSparksModel", "token", "I", false)
  | 20 => ("NumberedSparksModel", "value", "I", false)
  | 21 => ("NumberedSparksModel", "faultKind", "I", false)
  | 22 => ("NumberedSparksModel", "faultPlace", "I", false)
  | 23 => ("NumberedSparksModel", "isSeeded", "Z", false)
  | 24 => ("NumberedSparksModel", "acts", "I", false)
  | 25 => ("NumberedSparksModel", "actAt", "[I", true)
  | 26 => ("NumberedSparksModel", "actWas", "[I", true)
  | 27 => ("NumberedSparksModel", "itsKind", "I", false)
  | 28 => ("NumberedSparksModel", "born", "I", false)
  | 29 => ("NumberedSparksModel", "ends", "I", false)
  | 30 => ("NumberedSparksModel", "begin", "[I", true)
  | 31 => ("NumberedSparksModel", "speed", "[I", true)
  | 32 => ("NumberedSparksModel", "lastPlace", "[I", true)
  | 33 => ("NumberedSparksModel", "cellsOfOne", "[I", true)
  | 34 => ("NumberedSparksModel", "many", "I", false)
  | 35 => ("NumberedSparksModel", "keys", "[J", true)
  | 36 => ("NumberedSparksModel", "place0", "[I", true)
  | 37 => ("NumberedSparksModel", "place1", "[I", true)
  | 38 => ("NumberedSparksModel", "heaps", "[I", true)
  | 39 => ("NumberedSparksModel", "leftOver", "I", false)
  | 40 => ("NumberedSparksModel", "told", "[B", true)
  | _ => ("NumberedSparksModel", "toldMany", "I", false)
def tyX9 : Nat → FieldType := fun k => match k with
  | 0 => .int
  | 1 => .boolean
  | 2 => .array .int
  | 3 => .int
  | 4 => .int
  | 5 => .array .int
  | 6 => .int
  | 7 => .array .int
  | 8 => .array .int
  | 9 => .int
  | 10 => .int
  | 11 => .array .int
  | 12 => .int
  | 13 => .array .int
  | 14 => .array .byte
  | 15 => .int
  | 16 => .int
  | 17 => .int
  | 18 => .int
  | 19 => .int
  | 20 => .int
  | 21 => .int
  | 22 => .int
  | 23 => .boolean
  | 24 => .int
  | 25 => .array .int
  | 26 => .array .int
  | 27 => .int
  | 28 => .int
  | 29 => .int
  | 30 => .array .int
  | 31 => .array .int
  | 32 => .array .int
  | 33 => .array .int
  | 34 => .int
  | 35 => .array .long
  | 36 => .array .int
  | 37 => .array .int
  | 38 => .array .int
  | 39 => .int
  | 40 => .array .byte
  | _ => .int
abbrev wsX90 : List Cond := u_ws RX9 TX9 42
theorem nmX9 : ∀ a, a < 42 → ∀ b, b < 42 → a ≠ b → (TX9 a).2.1 ≠ (TX9 b).2.1 := by decide +kernel
theorem tyX9_ok : ∀ k, k < 42 → parseFieldDescriptor (TX9 k).2.2.1 = some (tyX9 k) := by decide +kernel
abbrev cX9_init : ByteArray := prog_11_method_1_code
def yX9_init : MethodName := ⟨RX9, "<init>", "()V"⟩
abbrev cX9_in : ByteArray := prog_11_method_3_code
def yX9_in : MethodName := ⟨RX9, "in", "(JJJ)Z"⟩
abbrev cX9_puts4 : ByteArray := prog_11_method_4_code
def yX9_puts4 : MethodName := ⟨RX9, "puts4", "(I)V"⟩
abbrev cX9_feed : ByteArray := prog_11_method_5_code
def yX9_feed : MethodName := ⟨RX9, "feed", "(IIIII)I"⟩
abbrev cX9_end : ByteArray := prog_11_method_6_code
def yX9_end : MethodName := ⟨RX9, "end", "(I)I"⟩
abbrev cX9_good : ByteArray := prog_11_method_7_code
def yX9_good : MethodName := ⟨RX9, "good", "()Z"⟩
abbrev cX9_errs : ByteArray := prog_11_method_8_code
def yX9_errs : MethodName := ⟨RX9, "errs", "(II)V"⟩
abbrev cX9_see : ByteArray := prog_11_method_9_code
def yX9_see : MethodName := ⟨RX9, "see", "(I)I"⟩
abbrev cX9_advance : ByteArray := prog_11_method_10_code
def yX9_advance : MethodName := ⟨RX9, "advance", "()V"⟩
abbrev cX9_isWord : ByteArray := prog_11_method_11_code
def yX9_isWord : MethodName := ⟨RX9, "isWord", "(Ljava/lang/String;)Z"⟩
abbrev cX9_takes : ByteArray := prog_11_method_12_code
def yX9_takes : MethodName := ⟨RX9, "takes", "(Ljava/lang/String;)Z"⟩
abbrev cX9_passes : ByteArray := prog_11_method_13_code
def yX9_passes : MethodName := ⟨RX9, "passes", "(Ljava/lang/String;)V"⟩
abbrev cX9_number : ByteArray := prog_11_method_14_code
def yX9_number : MethodName := ⟨RX9, "number", "(II)I"⟩
abbrev cX9_falls : ByteArray := prog_11_method_15_code
def yX9_falls : MethodName := ⟨RX9, "falls", "()I"⟩
abbrev cX9_readKind : ByteArray := prog_11_method_16_code
def yX9_readKind : MethodName := ⟨RX9, "readKind", "()V"⟩
abbrev cX9_readSource : ByteArray := prog_11_method_17_code
def yX9_readSource : MethodName := ⟨RX9, "readSource", "()V"⟩
abbrev cX9_readSeed : ByteArray := prog_11_method_18_code
def yX9_readSeed : MethodName := ⟨RX9, "readSeed", "()V"⟩
abbrev cX9_readLine : ByteArray := prog_11_method_19_code
def yX9_readLine : MethodName := ⟨RX9, "readLine", "(I)V"⟩
abbrev cX9_scene : ByteArray := prog_11_method_20_code
def yX9_scene : MethodName := ⟨RX9, "scene", "()I"⟩
abbrev cX9_fault : ByteArray := prog_11_method_21_code
def yX9_fault : MethodName := ⟨RX9, "fault", "(I)I"⟩
abbrev cX9_count : ByteArray := prog_11_method_22_code
def yX9_count : MethodName := ⟨RX9, "count", "(I)I"⟩
abbrev cX9_kind : ByteArray := prog_11_method_23_code
def yX9_kind : MethodName := ⟨RX9, "kind", "(II)I"⟩
abbrev cX9_ofSource : ByteArray := prog_11_method_24_code
def yX9_ofSource : MethodName := ⟨RX9, "ofSource", "(II)I"⟩
abbrev cX9_groups : ByteArray := prog_11_method_25_code
def yX9_groups : MethodName := ⟨RX9, "groups", "(I)I"⟩
abbrev cX9_roots : ByteArray := prog_11_method_26_code
def yX9_roots : MethodName := ⟨RX9, "roots", "(I)I"⟩
abbrev cX9_source : ByteArray := prog_11_method_27_code
def yX9_source : MethodName := ⟨RX9, "source", "(II)I"⟩
abbrev cX9_keeps : ByteArray := prog_11_method_28_code
def yX9_keeps : MethodName := ⟨RX9, "keeps", "(II)V"⟩
abbrev cX9_seed : ByteArray := prog_11_method_29_code
def yX9_seed : MethodName := ⟨RX9, "seed", "(I)I"⟩
abbrev cX9_sets : ByteArray := prog_11_method_30_code
def yX9_sets : MethodName := ⟨RX9, "sets", "(III)I"⟩
abbrev cX9_undo : ByteArray := prog_11_method_31_code
def yX9_undo : MethodName := ⟨RX9, "undo", "()I"⟩
abbrev cX9_mixedOf : ByteArray := prog_11_method_32_code
def yX9_mixedOf : MethodName := ⟨RX9, "mixedOf", "(II)J"⟩
abbrev cX9_mixed : ByteArray := prog_11_method_33_code
def yX9_mixed : MethodName := ⟨RX9, "mixed", "(II)J"⟩
abbrev cX9_draw : ByteArray := prog_11_method_34_code
def yX9_draw : MethodName := ⟨RX9, "draw", "(III)I"⟩
abbrev cX9_first : ByteArray := prog_11_method_35_code
def yX9_first : MethodName := ⟨RX9, "first", "(I)I"⟩
abbrev cX9_second : ByteArray := prog_11_method_36_code
def yX9_second : MethodName := ⟨RX9, "second", "(I)I"⟩
abbrev cX9_hasChild : ByteArray := prog_11_method_37_code
def yX9_hasChild : MethodName := ⟨RX9, "hasChild", "(II)Z"⟩
abbrev cX9_isSpark : ByteArray := prog_11_method_38_code
def yX9_isSpark : MethodName := ⟨RX9, "isSpark", "(I)Z"⟩
abbrev cX9_raw : ByteArray := prog_11_method_39_code
def yX9_raw : MethodName := ⟨RX9, "raw", "(II)I"⟩
abbrev cX9_edge : ByteArray := prog_11_method_40_code
def yX9_edge : MethodName := ⟨RX9, "edge", "()I"⟩
abbrev cX9_world : ByteArray := prog_11_method_41_code
def yX9_world : MethodName := ⟨RX9, "world", "(I)I"⟩
abbrev cX9_placeBy : ByteArray := prog_11_method_42_code
def yX9_placeBy : MethodName := ⟨RX9, "placeBy", "(II)I"⟩
abbrev cX9_isBeyond : ByteArray := prog_11_method_43_code
def yX9_isBeyond : MethodName := ⟨RX9, "isBeyond", "(I)Z"⟩
abbrev cX9_laysOne : ByteArray := prog_11_method_44_code
def yX9_laysOne : MethodName := ⟨RX9, "laysOne", "(III)V"⟩
abbrev cX9_laysRoot : ByteArray := prog_11_method_45_code
def yX9_laysRoot : MethodName := ⟨RX9, "laysRoot", "(I)V"⟩
abbrev cX9_laysChild : ByteArray := prog_11_method_46_code
def yX9_laysChild : MethodName := ⟨RX9, "laysChild", "(I)V"⟩
abbrev cX9_lays : ByteArray := prog_11_method_47_code
def yX9_lays : MethodName := ⟨RX9, "lays", "(I)V"⟩
abbrev cX9_generation : ByteArray := prog_11_method_48_code
def yX9_generation : MethodName := ⟨RX9, "generation", "(I)I"⟩
abbrev cX9_is : ByteArray := prog_11_method_49_code
def yX9_is : MethodName := ⟨RX9, "is", "(I)I"⟩
abbrev cX9_kindOf : ByteArray := prog_11_method_50_code
def yX9_kindOf : MethodName := ⟨RX9, "kindOf", "(I)I"⟩
abbrev cX9_childOf : ByteArray := prog_11_method_51_code
def yX9_childOf : MethodName := ⟨RX9, "childOf", "(II)I"⟩
abbrev cX9_child : ByteArray := prog_11_method_52_code
def yX9_child : MethodName := ⟨RX9, "child", "(II)I"⟩
abbrev cX9_parentOf : ByteArray := prog_11_method_53_code
def yX9_parentOf : MethodName := ⟨RX9, "parentOf", "(I)I"⟩
abbrev cX9_parent : ByteArray := prog_11_method_54_code
def yX9_parent : MethodName := ⟨RX9, "parent", "(I)I"⟩
abbrev cX9_spark : ByteArray := prog_11_method_55_code
def yX9_spark : MethodName := ⟨RX9, "spark", "(II)I"⟩
abbrev cX9_isTick : ByteArray := prog_11_method_56_code
def yX9_isTick : MethodName := ⟨RX9, "isTick", "(I)Z"⟩
abbrev cX9_place : ByteArray := prog_11_method_57_code
def yX9_place : MethodName := ⟨RX9, "place", "(III)I"⟩
abbrev cX9_size : ByteArray := prog_11_method_58_code
def yX9_size : MethodName := ⟨RX9, "size", "(II)I"⟩
abbrev cX9_overAt : ByteArray := prog_11_method_59_code
def yX9_overAt : MethodName := ⟨RX9, "overAt", "(I)I"⟩
abbrev cX9_edges : ByteArray := prog_11_method_60_code
def yX9_edges : MethodName := ⟨RX9, "edges", "(I)I"⟩
abbrev cX9_over : ByteArray := prog_11_method_61_code
def yX9_over : MethodName := ⟨RX9, "over", "(I)I"⟩
abbrev cX9_cellBy : ByteArray := prog_11_method_62_code
def yX9_cellBy : MethodName := ⟨RX9, "cellBy", "(I)I"⟩
abbrev cX9_cellsOf : ByteArray := prog_11_method_63_code
def yX9_cellsOf : MethodName := ⟨RX9, "cellsOf", "(I)I"⟩
abbrev cX9_meets : ByteArray := prog_11_method_64_code
def yX9_meets : MethodName := ⟨RX9, "meets", "(II)I"⟩
abbrev cX9_reach : ByteArray := prog_11_method_65_code
def yX9_reach : MethodName := ⟨RX9, "reach", "(III)I"⟩
abbrev cX9_kin : ByteArray := prog_11_method_66_code
def yX9_kin : MethodName := ⟨RX9, "kin", "(II)I"⟩
abbrev cX9_line : ByteArray := prog_11_method_67_code
def yX9_line : MethodName := ⟨RX9, "line", "(II)I"⟩
abbrev cX9_isFrom : ByteArray := prog_11_method_68_code
def yX9_isFrom : MethodName := ⟨RX9, "isFrom", "(II)Z"⟩
abbrev cX9_firstGroup : ByteArray := prog_11_method_69_code
def yX9_firstGroup : MethodName := ⟨RX9, "firstGroup", "(II)I"⟩
abbrev cX9_isGroup : ByteArray := prog_11_method_70_code
def yX9_isGroup : MethodName := ⟨RX9, "isGroup", "(III)Z"⟩
abbrev cX9_comes : ByteArray := prog_11_method_71_code
def yX9_comes : MethodName := ⟨RX9, "comes", "(II)V"⟩
abbrev cX9_comesLine : ByteArray := prog_11_method_72_code
def yX9_comesLine : MethodName := ⟨RX9, "comesLine", "(II)V"⟩
abbrev cX9_sorts : ByteArray := prog_11_method_73_code
def yX9_sorts : MethodName := ⟨RX9, "sorts", "()V"⟩
abbrev cX9_gathers : ByteArray := prog_11_method_74_code
def yX9_gathers : MethodName := ⟨RX9, "gathers", "(I)V"⟩
abbrev cX9_laysFrame : ByteArray := prog_11_method_75_code
def yX9_laysFrame : MethodName := ⟨RX9, "laysFrame", "(I)V"⟩
abbrev cX9_codeAt : ByteArray := prog_11_method_76_code
def yX9_codeAt : MethodName := ⟨RX9, "codeAt", "(I)I"⟩
abbrev cX9_many : ByteArray := prog_11_method_77_code
def yX9_many : MethodName := ⟨RX9, "many", "(II)I"⟩
abbrev cX9_drawn : ByteArray := prog_11_method_78_code
def yX9_drawn : MethodName := ⟨RX9, "drawn", "(II)I"⟩
abbrev cX9_placeAt : ByteArray := prog_11_method_79_code
def yX9_placeAt : MethodName := ⟨RX9, "placeAt", "(III)I"⟩
abbrev cX9_digest : ByteArray := prog_11_method_80_code
def yX9_digest : MethodName := ⟨RX9, "digest", "(I)J"⟩
abbrev cX9_isColumn : ByteArray := prog_11_method_81_code
def yX9_isColumn : MethodName := ⟨RX9, "isColumn", "(II)Z"⟩
abbrev cX9_laysColumns : ByteArray := prog_11_method_82_code
def yX9_laysColumns : MethodName := ⟨RX9, "laysColumns", "(I)V"⟩
abbrev cX9_inColumn : ByteArray := prog_11_method_83_code
def yX9_inColumn : MethodName := ⟨RX9, "inColumn", "(III)I"⟩
abbrev cX9_topOf : ByteArray := prog_11_method_84_code
def yX9_topOf : MethodName := ⟨RX9, "topOf", "(II)I"⟩
abbrev cX9_top : ByteArray := prog_11_method_85_code
def yX9_top : MethodName := ⟨RX9, "top", "(III)I"⟩
abbrev cX9_fullest : ByteArray := prog_11_method_86_code
def yX9_fullest : MethodName := ⟨RX9, "fullest", "(II)I"⟩
abbrev cX9_isCell : ByteArray := prog_11_method_87_code
def yX9_isCell : MethodName := ⟨RX9, "isCell", "(III)Z"⟩
abbrev cX9_squares : ByteArray := prog_11_method_88_code
def yX9_squares : MethodName := ⟨RX9, "squares", "(IIIII)J"⟩
abbrev cX9_nearest : ByteArray := prog_11_method_89_code
def yX9_nearest : MethodName := ⟨RX9, "nearest", "(IIII)I"⟩
abbrev cX9_within : ByteArray := prog_11_method_90_code
def yX9_within : MethodName := ⟨RX9, "within", "(IIIII)I"⟩
abbrev cX9_laysHeaps : ByteArray := prog_11_method_91_code
def yX9_laysHeaps : MethodName := ⟨RX9, "laysHeaps", "(I)V"⟩
abbrev cX9_twos : ByteArray := prog_11_method_92_code
def yX9_twos : MethodName := ⟨RX9, "twos", "(I)J"⟩
abbrev cX9_firstIn : ByteArray := prog_11_method_93_code
def yX9_firstIn : MethodName := ⟨RX9, "firstIn", "(III)I"⟩
abbrev cX9_peak : ByteArray := prog_11_method_94_code
def yX9_peak : MethodName := ⟨RX9, "peak", "(III)I"⟩
abbrev cX9_box : ByteArray := prog_11_method_95_code
def yX9_box : MethodName := ⟨RX9, "box", "(II)I"⟩
abbrev cX9_middle : ByteArray := prog_11_method_96_code
def yX9_middle : MethodName := ⟨RX9, "middle", "(II)I"⟩
abbrev cX9_both : ByteArray := prog_11_method_97_code
def yX9_both : MethodName := ⟨RX9, "both", "(II)I"⟩
abbrev cX9_ofAge : ByteArray := prog_11_method_98_code
def yX9_ofAge : MethodName := ⟨RX9, "ofAge", "(III)I"⟩
abbrev cX9_flux : ByteArray := prog_11_method_99_code
def yX9_flux : MethodName := ⟨RX9, "flux", "(IIII)I"⟩
abbrev cX9_colours : ByteArray := prog_11_method_100_code
def yX9_colours : MethodName := ⟨RX9, "colours", "(II)I"⟩
abbrev cX9_columns : ByteArray := prog_11_method_101_code
def yX9_columns : MethodName := ⟨RX9, "columns", "(I)I"⟩
abbrev cX9_below : ByteArray := prog_11_method_102_code
def yX9_below : MethodName := ⟨RX9, "below", "(IIII)I"⟩
abbrev cX9_twins : ByteArray := prog_11_method_103_code
def yX9_twins : MethodName := ⟨RX9, "twins", "(I)I"⟩
abbrev cX9_isSpan : ByteArray := prog_11_method_104_code
def yX9_isSpan : MethodName := ⟨RX9, "isSpan", "(III)Z"⟩
abbrev cX9_bornOf : ByteArray := prog_11_method_105_code
def yX9_bornOf : MethodName := ⟨RX9, "bornOf", "(I)I"⟩
abbrev cX9_births : ByteArray := prog_11_method_106_code
def yX9_births : MethodName := ⟨RX9, "births", "(III)I"⟩
abbrev cX9_endings : ByteArray := prog_11_method_107_code
def yX9_endings : MethodName := ⟨RX9, "endings", "(II)I"⟩
abbrev cX9_endingsOf : ByteArray := prog_11_method_108_code
def yX9_endingsOf : MethodName := ⟨RX9, "endingsOf", "(III)I"⟩
abbrev cX9_bornIn : ByteArray := prog_11_method_109_code
def yX9_bornIn : MethodName := ⟨RX9, "bornIn", "(IIIZ)I"⟩
abbrev cX9_lastBirth : ByteArray := prog_11_method_110_code
def yX9_lastBirth : MethodName := ⟨RX9, "lastBirth", "(I)I"⟩
abbrev cX9_bornAs : ByteArray := prog_11_method_111_code
def yX9_bornAs : MethodName := ⟨RX9, "bornAs", "(II)I"⟩
abbrev cX9_latest : ByteArray := prog_11_method_112_code
def yX9_latest : MethodName := ⟨RX9, "latest", "(II)I"⟩
abbrev cX9_next : ByteArray := prog_11_method_113_code
def yX9_next : MethodName := ⟨RX9, "next", "(II)I"⟩
abbrev cX9_lull : ByteArray := prog_11_method_114_code
def yX9_lull : MethodName := ⟨RX9, "lull", "(IIII)I"⟩
abbrev cX9_says : ByteArray := prog_11_method_115_code
def yX9_says : MethodName := ⟨RX9, "says", "(I)V"⟩
abbrev cX9_saysNumber : ByteArray := prog_11_method_116_code
def yX9_saysNumber : MethodName := ⟨RX9, "saysNumber", "(I)V"⟩
abbrev cX9_picture : ByteArray := prog_11_method_117_code
def yX9_picture : MethodName := ⟨RX9, "picture", "(I)I"⟩
abbrev cX9_layer : ByteArray := prog_11_method_118_code
def yX9_layer : MethodName := ⟨RX9, "layer", "(II)I"⟩
abbrev cX9_tell : ByteArray := prog_11_method_119_code
def yX9_tell : MethodName := ⟨RX9, "tell", "(I)I"⟩
abbrev cX9_octet : ByteArray := prog_11_method_120_code
def yX9_octet : MethodName := ⟨RX9, "octet", "(I)I"⟩
def RJx145de : String := "java/io/Serializable"
def TJx145de : u_T := fun k => match k with
  | _ => ("", "", "", false)
def tyJx145de : Nat → FieldType := fun k => match k with
  | _ => .int
abbrev wsJx145de0 : List Cond := u_ws RJx145de TJx145de 0
theorem nmJx145de : ∀ a, a < 0 → ∀ b, b < 0 → a ≠ b → (TJx145de a).2.1 ≠ (TJx145de b).2.1 := by decide +kernel
theorem tyJx145de_ok : ∀ k, k < 0 → parseFieldDescriptor (TJx145de k).2.2.1 = some (tyJx145de k) := by decide +kernel
def RJx9f9b0 : String := "java/lang/CharSequence"
def TJx9f9b0 : u_T := fun k => match k with
  | _ => ("", "", "", false)
def tyJx9f9b0 : Nat → FieldType := fun k => match k with
  | _ => .int
abbrev wsJx9f9b00 : List Cond := u_ws RJx9f9b0 TJx9f9b0 0
theorem nmJx9f9b0 : ∀ a, a < 0 → ∀ b, b < 0 → a ≠ b → (TJx9f9b0 a).2.1 ≠ (TJx9f9b0 b).2.1 := by decide +kernel
theorem tyJx9f9b0_ok : ∀ k, k < 0 → parseFieldDescriptor (TJx9f9b0 k).2.2.1 = some (tyJx9f9b0 k) := by decide +kernel
def RJx8e188 : String := "java/lang/Cloneable"
def TJx8e188 : u_T := fun k => match k with
  | _ => ("", "", "", false)
def tyJx8e188 : Nat → FieldType := fun k => match k with
  | _ => .int
abbrev wsJx8e1880 : List Cond := u_ws RJx8e188 TJx8e188 0
theorem nmJx8e188 : ∀ a, a < 0 → ∀ b, b < 0 → a ≠ b → (TJx8e188 a).2.1 ≠ (TJx8e188 b).2.1 := by decide +kernel
theorem tyJx8e188_ok : ∀ k, k < 0 → parseFieldDescriptor (TJx8e188 k).2.2.1 = some (tyJx8e188 k) := by decide +kernel
def RJxb160c : String := "java/lang/Comparable"
def TJxb160c : u_T := fun k => match k with
  | _ => ("", "", "", false)
def tyJxb160c : Nat → FieldType := fun k => match k with
  | _ => .int
abbrev wsJxb160c0 : List Cond := u_ws RJxb160c TJxb160c 0
theorem nmJxb160c : ∀ a, a < 0 → ∀ b, b < 0 → a ≠ b → (TJxb160c a).2.1 ≠ (TJxb160c b).2.1 := by decide +kernel
theorem tyJxb160c_ok : ∀ k, k < 0 → parseFieldDescriptor (TJxb160c k).2.2.1 = some (tyJxb160c k) := by decide +kernel
def RJ9 : String := "java/lang/Math"
def TJ9 : u_T := fun k => match k with
  | _ => ("", "", "", false)
def tyJ9 : Nat → FieldType := fun k => match k with
  | _ => .int
abbrev wsJ90 : List Cond := u_ws RJ9 TJ9 0
theorem nmJ9 : ∀ a, a < 0 → ∀ b, b < 0 → a ≠ b → (TJ9 a).2.1 ≠ (TJ9 b).2.1 := by decide +kernel
theorem tyJ9_ok : ∀ k, k < 0 → parseFieldDescriptor (TJ9 k).2.2.1 = some (tyJ9 k) := by decide +kernel
abbrev cJ9_floorDiv_7cf53 : ByteArray := prog_13_method_47_code
def yJ9_floorDiv_7cf53 : MethodName := ⟨RJ9, "floorDiv", "(II)I"⟩
abbrev cJ9_floorMod_7cf53 : ByteArray := prog_13_method_50_code
def yJ9_floorMod_7cf53 : MethodName := ⟨RJ9, "floorMod", "(II)I"⟩
abbrev cJ9_abs_0f7a4 : ByteArray := prog_13_method_59_code
def yJ9_abs_0f7a4 : MethodName := ⟨RJ9, "abs", "(I)I"⟩
abbrev cJ9_max_7cf53 : ByteArray := prog_13_method_65_code
def yJ9_max_7cf53 : MethodName := ⟨RJ9, "max", "(II)I"⟩
abbrev cJ9_min_7cf53 : ByteArray := prog_13_method_69_code
def yJ9_min_7cf53 : MethodName := ⟨RJ9, "min", "(II)I"⟩
def RJ0 : String := "java/lang/String"
def TJ0 : u_T := fun k => match k with
  | _ => ("", "", "", false)
def tyJ0 : Nat → FieldType := fun k => match k with
  | _ => .int
abbrev wsJ00 : List Cond := u_ws RJ0 TJ0 0
theorem nmJ0 : ∀ a, a < 0 → ∀ b, b < 0 → a ≠ b → (TJ0 a).2.1 ≠ (TJ0 b).2.1 := by decide +kernel
theorem tyJ0_ok : ∀ k, k < 0 → parseFieldDescriptor (TJ0 k).2.2.1 = some (tyJ0 k) := by decide +kernel
abbrev cJ0_length_8abf5 : ByteArray := prog_14_method_54_code
def yJ0_length_8abf5 : MethodName := ⟨RJ0, "length", "()I"⟩
abbrev cJ0_charAt_5068e : ByteArray := prog_14_method_56_code
def yJ0_charAt_5068e : MethodName := ⟨RJ0, "charAt", "(I)C"⟩
abbrev cJ0_coder_7d493 : ByteArray := prog_14_method_152_code
def yJ0_coder_7d493 : MethodName := ⟨RJ0, "coder", "()B"⟩
abbrev cJ0_isLatin1_aae02 : ByteArray := prog_14_method_154_code
def yJ0_isLatin1_aae02 : MethodName := ⟨RJ0, "isLatin1", "()Z"⟩
abbrev cJ0_checkIndex_df160 : ByteArray := prog_14_method_155_code
def yJ0_checkIndex_df160 : MethodName := ⟨RJ0, "checkIndex", "(II)V"⟩
def RJ1 : String := "java/lang/StringLatin1"
def TJ1 : u_T := fun k => match k with
  | _ => ("", "", "", false)
def tyJ1 : Nat → FieldType := fun k => match k with
  | _ => .int
abbrev wsJ10 : List Cond := u_ws RJ1 TJ1 0
theorem nmJ1 : ∀ a, a < 0 → ∀ b, b < 0 → a ≠ b → (TJ1 a).2.1 ≠ (TJ1 b).2.1 := by decide +kernel
theorem tyJ1_ok : ∀ k, k < 0 → parseFieldDescriptor (TJ1 k).2.2.1 = some (tyJ1 k) := by decide +kernel
abbrev cJ1_charAt_3b067 : ByteArray := prog_15_method_2_code
def yJ1_charAt_3b067 : MethodName := ⟨RJ1, "charAt", "([BI)C"⟩
def RJ2 : String := "java/lang/StringUTF16"
def TJ2 : u_T := fun k => match k with
  | _ => ("", "", "", false)
def tyJ2 : Nat → FieldType := fun k => match k with
  | _ => .int
abbrev wsJ20 : List Cond := u_ws RJ2 TJ2 0
theorem nmJ2 : ∀ a, a < 0 → ∀ b, b < 0 → a ≠ b → (TJ2 a).2.1 ≠ (TJ2 b).2.1 := by decide +kernel
theorem tyJ2_ok : ∀ k, k < 0 → parseFieldDescriptor (TJ2 k).2.2.1 = some (tyJ2 k) := by decide +kernel
abbrev cJ2_getChar_3b067 : ByteArray := prog_16_method_5_code
def yJ2_getChar_3b067 : MethodName := ⟨RJ2, "getChar", "([BI)C"⟩
abbrev cJ2_length_9d52b : ByteArray := prog_16_method_6_code
def yJ2_length_9d52b : MethodName := ⟨RJ2, "length", "([B)I"⟩
abbrev cJ2_charAt_3b067 : ByteArray := prog_16_method_83_code
def yJ2_charAt_3b067 : MethodName := ⟨RJ2, "charAt", "([BI)C"⟩
abbrev cJ2_checkIndex_2214a : ByteArray := prog_16_method_91_code
def yJ2_checkIndex_2214a : MethodName := ⟨RJ2, "checkIndex", "(I[B)V"⟩
def RJ10 : String := "java/lang/System"
def TJ10 : u_T := fun k => match k with
  | _ => ("", "", "", false)
def tyJ10 : Nat → FieldType := fun k => match k with
  | _ => .int
abbrev wsJ100 : List Cond := u_ws RJ10 TJ10 0
theorem nmJ10 : ∀ a, a < 0 → ∀ b, b < 0 → a ≠ b → (TJ10 a).2.1 ≠ (TJ10 b).2.1 := by decide +kernel
theorem tyJ10_ok : ∀ k, k < 0 → parseFieldDescriptor (TJ10 k).2.2.1 = some (tyJ10 k) := by decide +kernel
def RJxfd54e : String := "java/lang/constant/Constable"
def TJxfd54e : u_T := fun k => match k with
  | _ => ("", "", "", false)
def tyJxfd54e : Nat → FieldType := fun k => match k with
  | _ => .int
abbrev wsJxfd54e0 : List Cond := u_ws RJxfd54e TJxfd54e 0
theorem nmJxfd54e : ∀ a, a < 0 → ∀ b, b < 0 → a ≠ b → (TJxfd54e a).2.1 ≠ (TJxfd54e b).2.1 := by decide +kernel
theorem tyJxfd54e_ok : ∀ k, k < 0 → parseFieldDescriptor (TJxfd54e k).2.2.1 = some (tyJxfd54e k) := by decide +kernel
def RJx3cf43 : String := "java/lang/constant/ConstantDesc"
def TJx3cf43 : u_T := fun k => match k with
  | _ => ("", "", "", false)
def tyJx3cf43 : Nat → FieldType := fun k => match k with
  | _ => .int
abbrev wsJx3cf430 : List Cond := u_ws RJx3cf43 TJx3cf43 0
theorem nmJx3cf43 : ∀ a, a < 0 → ∀ b, b < 0 → a ≠ b → (TJx3cf43 a).2.1 ≠ (TJx3cf43 b).2.1 := by decide +kernel
theorem tyJx3cf43_ok : ∀ k, k < 0 → parseFieldDescriptor (TJx3cf43 k).2.2.1 = some (tyJx3cf43 k) := by decide +kernel
def RJ7 : String := "java/util/Arrays"
def TJ7 : u_T := fun k => match k with
  | _ => ("", "", "", false)
def tyJ7 : Nat → FieldType := fun k => match k with
  | _ => .int
abbrev wsJ70 : List Cond := u_ws RJ7 TJ7 0
theorem nmJ7 : ∀ a, a < 0 → ∀ b, b < 0 → a ≠ b → (TJ7 a).2.1 ≠ (TJ7 b).2.1 := by decide +kernel
theorem tyJ7_ok : ∀ k, k < 0 → parseFieldDescriptor (TJ7 k).2.2.1 = some (tyJ7 k) := by decide +kernel
abbrev cJ7_fill_53178 : ByteArray := prog_18_method_103_code
def yJ7_fill_53178 : MethodName := ⟨RJ7, "fill", "([II)V"⟩
abbrev cJ7_copyOf_59c91 : ByteArray := prog_18_method_123_code
def yJ7_copyOf_59c91 : MethodName := ⟨RJ7, "copyOf", "([II)[I"⟩
def RJ3 : String := "jdk/internal/util/Preconditions"
def TJ3 : u_T := fun k => match k with
  | _ => ("", "", "", false)
def tyJ3 : Nat → FieldType := fun k => match k with
  | _ => .int
abbrev wsJ30 : List Cond := u_ws RJ3 TJ3 0
theorem nmJ3 : ∀ a, a < 0 → ∀ b, b < 0 → a ≠ b → (TJ3 a).2.1 ≠ (TJ3 b).2.1 := by decide +kernel
theorem tyJ3_ok : ∀ k, k < 0 → parseFieldDescriptor (TJ3 k).2.2.1 = some (tyJ3 k) := by decide +kernel
abbrev cJ3_checkIndex_8e157 : ByteArray := prog_19_method_11_code
def yJ3_checkIndex_8e157 : MethodName := ⟨RJ3, "checkIndex", "(IILjava/util/function/BiFunction;)I"⟩
def RL : String := "NumberedSparksLaw"
abbrev cL_law : ByteArray := code
def yL_law : MethodName := ⟨RL, "law", "([I)Z"⟩
