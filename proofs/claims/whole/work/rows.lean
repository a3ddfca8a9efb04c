section
-- ===== PART A: goes FIRST, ahead of the names: the tables' words, and 'selects' of the private methods out of them =====
/-- a private method of a class that the tables say can be made, by its rows of tables_1 -/
def lw_okq (q : MethodName × Nat) : Prop := (q.1.cls ≠ "java/lang/invoke/MethodHandle" ∧ q.1.cls ≠ "java/lang/invoke/VarHandle") ∧ Cond.instantiable q.1.cls q.2 ∈ tables_1 ∧ Cond.privateMethod q.1 ∈ tables_1 ∧ Cond.instanceMethod q.1 ∈ tables_1
theorem lw_p0 : lw_okq (⟨"NumberedSparks", "putOnTape", "(I)V"⟩, 11) := ⟨⟨by decide +kernel, by decide +kernel⟩, List.mem_of_getElem? (i := 19) (by decide +kernel), List.mem_of_getElem? (i := 347) (by decide +kernel), List.mem_of_getElem? (i := 348) (by decide +kernel)⟩
theorem lw_p1 : lw_okq (⟨"NumberedSparks$Reader", "advance", "()V"⟩, 9) := ⟨⟨by decide +kernel, by decide +kernel⟩, List.mem_of_getElem? (i := 71) (by decide +kernel), List.mem_of_getElem? (i := 373) (by decide +kernel), List.mem_of_getElem? (i := 374) (by decide +kernel)⟩
theorem lw_p2 : lw_okq (⟨"NumberedSparks$Reader", "byteAt", "(I)I"⟩, 9) := ⟨⟨by decide +kernel, by decide +kernel⟩, List.mem_of_getElem? (i := 71) (by decide +kernel), List.mem_of_getElem? (i := 377) (by decide +kernel), List.mem_of_getElem? (i := 378) (by decide +kernel)⟩
theorem lw_p3 : lw_okq (⟨"NumberedSparks$Reader", "readWorld", "()V"⟩, 9) := ⟨⟨by decide +kernel, by decide +kernel⟩, List.mem_of_getElem? (i := 71) (by decide +kernel), List.mem_of_getElem? (i := 388) (by decide +kernel), List.mem_of_getElem? (i := 389) (by decide +kernel)⟩
theorem lw_p4 : lw_okq (⟨"NumberedSparks$Reader", "needWord", "(Ljava/lang/String;)V"⟩, 9) := ⟨⟨by decide +kernel, by decide +kernel⟩, List.mem_of_getElem? (i := 71) (by decide +kernel), List.mem_of_getElem? (i := 393) (by decide +kernel), List.mem_of_getElem? (i := 394) (by decide +kernel)⟩
theorem lw_p5 : lw_okq (⟨"NumberedSparks$Reader", "takeWord", "(Ljava/lang/String;)Z"⟩, 9) := ⟨⟨by decide +kernel, by decide +kernel⟩, List.mem_of_getElem? (i := 71) (by decide +kernel), List.mem_of_getElem? (i := 397) (by decide +kernel), List.mem_of_getElem? (i := 398) (by decide +kernel)⟩
theorem lw_p6 : lw_okq (⟨"NumberedSparks$Reader", "isWord", "(Ljava/lang/String;)Z"⟩, 9) := ⟨⟨by decide +kernel, by decide +kernel⟩, List.mem_of_getElem? (i := 71) (by decide +kernel), List.mem_of_getElem? (i := 401) (by decide +kernel), List.mem_of_getElem? (i := 402) (by decide +kernel)⟩
theorem lw_p7 : lw_okq (⟨"NumberedSparks$Reader", "fail", "(I)V"⟩, 9) := ⟨⟨by decide +kernel, by decide +kernel⟩, List.mem_of_getElem? (i := 71) (by decide +kernel), List.mem_of_getElem? (i := 453) (by decide +kernel), List.mem_of_getElem? (i := 454) (by decide +kernel)⟩
theorem lw_p8 : lw_okq (⟨"NumberedSparks$Reader", "needNumber", "(II)I"⟩, 9) := ⟨⟨by decide +kernel, by decide +kernel⟩, List.mem_of_getElem? (i := 71) (by decide +kernel), List.mem_of_getElem? (i := 457) (by decide +kernel), List.mem_of_getElem? (i := 458) (by decide +kernel)⟩
theorem lw_p9 : lw_okq (⟨"NumberedSparks$Reader", "needSign", "(C)V"⟩, 9) := ⟨⟨by decide +kernel, by decide +kernel⟩, List.mem_of_getElem? (i := 71) (by decide +kernel), List.mem_of_getElem? (i := 461) (by decide +kernel), List.mem_of_getElem? (i := 462) (by decide +kernel)⟩
theorem lw_p10 : lw_okq (⟨"NumberedSparks$Reader", "readSeed", "()V"⟩, 9) := ⟨⟨by decide +kernel, by decide +kernel⟩, List.mem_of_getElem? (i := 71) (by decide +kernel), List.mem_of_getElem? (i := 466) (by decide +kernel), List.mem_of_getElem? (i := 467) (by decide +kernel)⟩
theorem lw_p11 : lw_okq (⟨"NumberedSparks$Reader", "readKind", "()V"⟩, 9) := ⟨⟨by decide +kernel, by decide +kernel⟩, List.mem_of_getElem? (i := 71) (by decide +kernel), List.mem_of_getElem? (i := 472) (by decide +kernel), List.mem_of_getElem? (i := 473) (by decide +kernel)⟩
theorem lw_p12 : lw_okq (⟨"NumberedSparks$Reader", "numberBehind", "(Ljava/lang/String;III)I"⟩, 9) := ⟨⟨by decide +kernel, by decide +kernel⟩, List.mem_of_getElem? (i := 71) (by decide +kernel), List.mem_of_getElem? (i := 482) (by decide +kernel), List.mem_of_getElem? (i := 483) (by decide +kernel)⟩
theorem lw_p13 : lw_okq (⟨"NumberedSparks$Reader", "readFalls", "()I"⟩, 9) := ⟨⟨by decide +kernel, by decide +kernel⟩, List.mem_of_getElem? (i := 71) (by decide +kernel), List.mem_of_getElem? (i := 487) (by decide +kernel), List.mem_of_getElem? (i := 488) (by decide +kernel)⟩
theorem lw_p14 : lw_okq (⟨"NumberedSparks$Reader", "readEdge", "()I"⟩, 9) := ⟨⟨by decide +kernel, by decide +kernel⟩, List.mem_of_getElem? (i := 71) (by decide +kernel), List.mem_of_getElem? (i := 493) (by decide +kernel), List.mem_of_getElem? (i := 494) (by decide +kernel)⟩
theorem lw_p15 : lw_okq (⟨"NumberedSparks$Reader", "readSource", "()V"⟩, 9) := ⟨⟨by decide +kernel, by decide +kernel⟩, List.mem_of_getElem? (i := 71) (by decide +kernel), List.mem_of_getElem? (i := 507) (by decide +kernel), List.mem_of_getElem? (i := 508) (by decide +kernel)⟩
def lw_privs_1 : List (MethodName × Nat) := [(⟨"NumberedSparks", "putOnTape", "(I)V"⟩, 11), (⟨"NumberedSparks$Reader", "advance", "()V"⟩, 9), (⟨"NumberedSparks$Reader", "byteAt", "(I)I"⟩, 9), (⟨"NumberedSparks$Reader", "readWorld", "()V"⟩, 9), (⟨"NumberedSparks$Reader", "needWord", "(Ljava/lang/String;)V"⟩, 9), (⟨"NumberedSparks$Reader", "takeWord", "(Ljava/lang/String;)Z"⟩, 9), (⟨"NumberedSparks$Reader", "isWord", "(Ljava/lang/String;)Z"⟩, 9), (⟨"NumberedSparks$Reader", "fail", "(I)V"⟩, 9), (⟨"NumberedSparks$Reader", "needNumber", "(II)I"⟩, 9), (⟨"NumberedSparks$Reader", "needSign", "(C)V"⟩, 9), (⟨"NumberedSparks$Reader", "readSeed", "()V"⟩, 9), (⟨"NumberedSparks$Reader", "readKind", "()V"⟩, 9), (⟨"NumberedSparks$Reader", "numberBehind", "(Ljava/lang/String;III)I"⟩, 9), (⟨"NumberedSparks$Reader", "readFalls", "()I"⟩, 9), (⟨"NumberedSparks$Reader", "readEdge", "()I"⟩, 9), (⟨"NumberedSparks$Reader", "readSource", "()V"⟩, 9)]
theorem lw_r1 : ∀ q ∈ lw_privs_1, lw_okq q := List.forall_mem_cons.mpr ⟨lw_p0, List.forall_mem_cons.mpr ⟨lw_p1, List.forall_mem_cons.mpr ⟨lw_p2, List.forall_mem_cons.mpr ⟨lw_p3, List.forall_mem_cons.mpr ⟨lw_p4, List.forall_mem_cons.mpr ⟨lw_p5, List.forall_mem_cons.mpr ⟨lw_p6, List.forall_mem_cons.mpr ⟨lw_p7, List.forall_mem_cons.mpr ⟨lw_p8, List.forall_mem_cons.mpr ⟨lw_p9, List.forall_mem_cons.mpr ⟨lw_p10, List.forall_mem_cons.mpr ⟨lw_p11, List.forall_mem_cons.mpr ⟨lw_p12, List.forall_mem_cons.mpr ⟨lw_p13, List.forall_mem_cons.mpr ⟨lw_p14, List.forall_mem_cons.mpr ⟨lw_p15, fun _ h => absurd h List.not_mem_nil⟩⟩⟩⟩⟩⟩⟩⟩⟩⟩⟩⟩⟩⟩⟩⟩
theorem lw_p16 : lw_okq (⟨"NumberedSparks$Spark", "ageBeyond", "(II)I"⟩, 10) := ⟨⟨by decide +kernel, by decide +kernel⟩, List.mem_of_getElem? (i := 151) (by decide +kernel), List.mem_of_getElem? (i := 702) (by decide +kernel), List.mem_of_getElem? (i := 703) (by decide +kernel)⟩
theorem lw_p17 : lw_okq (⟨"NumberedSparks$Spark", "freePlace", "(II)I"⟩, 10) := ⟨⟨by decide +kernel, by decide +kernel⟩, List.mem_of_getElem? (i := 151) (by decide +kernel), List.mem_of_getElem? (i := 718) (by decide +kernel), List.mem_of_getElem? (i := 719) (by decide +kernel)⟩
theorem lw_p18 : lw_okq (⟨"NumberedSparks", "isAmong", "(II)Z"⟩, 11) := ⟨⟨by decide +kernel, by decide +kernel⟩, List.mem_of_getElem? (i := 19) (by decide +kernel), List.mem_of_getElem? (i := 783) (by decide +kernel), List.mem_of_getElem? (i := 784) (by decide +kernel)⟩
theorem lw_p19 : lw_okq (⟨"NumberedSparks$Walk", "measureSpans", "()V"⟩, 9) := ⟨⟨by decide +kernel, by decide +kernel⟩, List.mem_of_getElem? (i := 144) (by decide +kernel), List.mem_of_getElem? (i := 807) (by decide +kernel), List.mem_of_getElem? (i := 808) (by decide +kernel)⟩
theorem lw_p20 : lw_okq (⟨"NumberedSparks$Walk", "spanBehind", "(II)I"⟩, 9) := ⟨⟨by decide +kernel, by decide +kernel⟩, List.mem_of_getElem? (i := 144) (by decide +kernel), List.mem_of_getElem? (i := 812) (by decide +kernel), List.mem_of_getElem? (i := 813) (by decide +kernel)⟩
theorem lw_p21 : lw_okq (⟨"NumberedSparks$Walk", "spanOf", "(II)I"⟩, 9) := ⟨⟨by decide +kernel, by decide +kernel⟩, List.mem_of_getElem? (i := 144) (by decide +kernel), List.mem_of_getElem? (i := 816) (by decide +kernel), List.mem_of_getElem? (i := 817) (by decide +kernel)⟩
theorem lw_p22 : lw_okq (⟨"NumberedSparks$Walk", "sourceOfLeastRoot", "()I"⟩, 9) := ⟨⟨by decide +kernel, by decide +kernel⟩, List.mem_of_getElem? (i := 144) (by decide +kernel), List.mem_of_getElem? (i := 827) (by decide +kernel), List.mem_of_getElem? (i := 828) (by decide +kernel)⟩
theorem lw_p23 : lw_okq (⟨"NumberedSparks$Walk", "isOutside", "(LNumberedSparks$Spark;)Z"⟩, 9) := ⟨⟨by decide +kernel, by decide +kernel⟩, List.mem_of_getElem? (i := 144) (by decide +kernel), List.mem_of_getElem? (i := 833) (by decide +kernel), List.mem_of_getElem? (i := 834) (by decide +kernel)⟩
theorem lw_p24 : lw_okq (⟨"NumberedSparks$Walk", "show", "(I)V"⟩, 9) := ⟨⟨by decide +kernel, by decide +kernel⟩, List.mem_of_getElem? (i := 144) (by decide +kernel), List.mem_of_getElem? (i := 838) (by decide +kernel), List.mem_of_getElem? (i := 839) (by decide +kernel)⟩
theorem lw_p25 : lw_okq (⟨"NumberedSparks$Walk", "stepChild", "(LNumberedSparks$Spark;II)V"⟩, 9) := ⟨⟨by decide +kernel, by decide +kernel⟩, List.mem_of_getElem? (i := 144) (by decide +kernel), List.mem_of_getElem? (i := 842) (by decide +kernel), List.mem_of_getElem? (i := 843) (by decide +kernel)⟩
theorem lw_p26 : lw_okq (⟨"NumberedSparks", "isWindow", "(II)Z"⟩, 11) := ⟨⟨by decide +kernel, by decide +kernel⟩, List.mem_of_getElem? (i := 19) (by decide +kernel), List.mem_of_getElem? (i := 883) (by decide +kernel), List.mem_of_getElem? (i := 884) (by decide +kernel)⟩
theorem lw_p27 : lw_okq (⟨"NumberedSparks", "countComingAndGoing", "(II)V"⟩, 11) := ⟨⟨by decide +kernel, by decide +kernel⟩, List.mem_of_getElem? (i := 19) (by decide +kernel), List.mem_of_getElem? (i := 933) (by decide +kernel), List.mem_of_getElem? (i := 934) (by decide +kernel)⟩
theorem lw_p28 : lw_okq (⟨"NumberedSparks$Frame", "append", "(LNumberedSparks$Spark;I)V"⟩, 13) := ⟨⟨by decide +kernel, by decide +kernel⟩, List.mem_of_getElem? (i := 233) (by decide +kernel), List.mem_of_getElem? (i := 972) (by decide +kernel), List.mem_of_getElem? (i := 973) (by decide +kernel)⟩
theorem lw_p29 : lw_okq (⟨"NumberedSparks$Frame", "grow", "()V"⟩, 13) := ⟨⟨by decide +kernel, by decide +kernel⟩, List.mem_of_getElem? (i := 233) (by decide +kernel), List.mem_of_getElem? (i := 976) (by decide +kernel), List.mem_of_getElem? (i := 977) (by decide +kernel)⟩
theorem lw_p30 : lw_okq (⟨"NumberedSparks$Frame", "putInOrder", "()V"⟩, 13) := ⟨⟨by decide +kernel, by decide +kernel⟩, List.mem_of_getElem? (i := 233) (by decide +kernel), List.mem_of_getElem? (i := 993) (by decide +kernel), List.mem_of_getElem? (i := 994) (by decide +kernel)⟩
theorem lw_p31 : lw_okq (⟨"NumberedSparks$Frame", "depthOf", "(I)I"⟩, 13) := ⟨⟨by decide +kernel, by decide +kernel⟩, List.mem_of_getElem? (i := 233) (by decide +kernel), List.mem_of_getElem? (i := 998) (by decide +kernel), List.mem_of_getElem? (i := 999) (by decide +kernel)⟩
def lw_privs_2 : List (MethodName × Nat) := [(⟨"NumberedSparks$Spark", "ageBeyond", "(II)I"⟩, 10), (⟨"NumberedSparks$Spark", "freePlace", "(II)I"⟩, 10), (⟨"NumberedSparks", "isAmong", "(II)Z"⟩, 11), (⟨"NumberedSparks$Walk", "measureSpans", "()V"⟩, 9), (⟨"NumberedSparks$Walk", "spanBehind", "(II)I"⟩, 9), (⟨"NumberedSparks$Walk", "spanOf", "(II)I"⟩, 9), (⟨"NumberedSparks$Walk", "sourceOfLeastRoot", "()I"⟩, 9), (⟨"NumberedSparks$Walk", "isOutside", "(LNumberedSparks$Spark;)Z"⟩, 9), (⟨"NumberedSparks$Walk", "show", "(I)V"⟩, 9), (⟨"NumberedSparks$Walk", "stepChild", "(LNumberedSparks$Spark;II)V"⟩, 9), (⟨"NumberedSparks", "isWindow", "(II)Z"⟩, 11), (⟨"NumberedSparks", "countComingAndGoing", "(II)V"⟩, 11), (⟨"NumberedSparks$Frame", "append", "(LNumberedSparks$Spark;I)V"⟩, 13), (⟨"NumberedSparks$Frame", "grow", "()V"⟩, 13), (⟨"NumberedSparks$Frame", "putInOrder", "()V"⟩, 13), (⟨"NumberedSparks$Frame", "depthOf", "(I)I"⟩, 13)]
theorem lw_r2 : ∀ q ∈ lw_privs_2, lw_okq q := List.forall_mem_cons.mpr ⟨lw_p16, List.forall_mem_cons.mpr ⟨lw_p17, List.forall_mem_cons.mpr ⟨lw_p18, List.forall_mem_cons.mpr ⟨lw_p19, List.forall_mem_cons.mpr ⟨lw_p20, List.forall_mem_cons.mpr ⟨lw_p21, List.forall_mem_cons.mpr ⟨lw_p22, List.forall_mem_cons.mpr ⟨lw_p23, List.forall_mem_cons.mpr ⟨lw_p24, List.forall_mem_cons.mpr ⟨lw_p25, List.forall_mem_cons.mpr ⟨lw_p26, List.forall_mem_cons.mpr ⟨lw_p27, List.forall_mem_cons.mpr ⟨lw_p28, List.forall_mem_cons.mpr ⟨lw_p29, List.forall_mem_cons.mpr ⟨lw_p30, List.forall_mem_cons.mpr ⟨lw_p31, fun _ h => absurd h List.not_mem_nil⟩⟩⟩⟩⟩⟩⟩⟩⟩⟩⟩⟩⟩⟩⟩⟩
theorem lw_p32 : lw_okq (⟨"NumberedSparks$Frame", "forgetColumns", "(II[I)V"⟩, 13) := ⟨⟨by decide +kernel, by decide +kernel⟩, List.mem_of_getElem? (i := 233) (by decide +kernel), List.mem_of_getElem? (i := 1081) (by decide +kernel), List.mem_of_getElem? (i := 1082) (by decide +kernel)⟩
theorem lw_p33 : lw_okq (⟨"NumberedSparksModel", "puts4", "(I)V"⟩, 42) := ⟨⟨by decide +kernel, by decide +kernel⟩, List.mem_of_getElem? (i := 1126) (by decide +kernel), List.mem_of_getElem? (i := 1264) (by decide +kernel), List.mem_of_getElem? (i := 1265) (by decide +kernel)⟩
theorem lw_p34 : lw_okq (⟨"NumberedSparksModel", "advance", "()V"⟩, 42) := ⟨⟨by decide +kernel, by decide +kernel⟩, List.mem_of_getElem? (i := 1126) (by decide +kernel), List.mem_of_getElem? (i := 1279) (by decide +kernel), List.mem_of_getElem? (i := 1280) (by decide +kernel)⟩
theorem lw_p35 : lw_okq (⟨"NumberedSparksModel", "see", "(I)I"⟩, 42) := ⟨⟨by decide +kernel, by decide +kernel⟩, List.mem_of_getElem? (i := 1126) (by decide +kernel), List.mem_of_getElem? (i := 1283) (by decide +kernel), List.mem_of_getElem? (i := 1284) (by decide +kernel)⟩
theorem lw_p36 : lw_okq (⟨"NumberedSparksModel", "errs", "(II)V"⟩, 42) := ⟨⟨by decide +kernel, by decide +kernel⟩, List.mem_of_getElem? (i := 1126) (by decide +kernel), List.mem_of_getElem? (i := 1293) (by decide +kernel), List.mem_of_getElem? (i := 1294) (by decide +kernel)⟩
theorem lw_p37 : lw_okq (⟨"NumberedSparksModel", "good", "()Z"⟩, 42) := ⟨⟨by decide +kernel, by decide +kernel⟩, List.mem_of_getElem? (i := 1126) (by decide +kernel), List.mem_of_getElem? (i := 1297) (by decide +kernel), List.mem_of_getElem? (i := 1298) (by decide +kernel)⟩
theorem lw_p38 : lw_okq (⟨"NumberedSparksModel", "readLine", "(I)V"⟩, 42) := ⟨⟨by decide +kernel, by decide +kernel⟩, List.mem_of_getElem? (i := 1126) (by decide +kernel), List.mem_of_getElem? (i := 1301) (by decide +kernel), List.mem_of_getElem? (i := 1302) (by decide +kernel)⟩
theorem lw_p39 : lw_okq (⟨"NumberedSparksModel", "passes", "(Ljava/lang/String;)V"⟩, 42) := ⟨⟨by decide +kernel, by decide +kernel⟩, List.mem_of_getElem? (i := 1126) (by decide +kernel), List.mem_of_getElem? (i := 1306) (by decide +kernel), List.mem_of_getElem? (i := 1307) (by decide +kernel)⟩
theorem lw_p40 : lw_okq (⟨"NumberedSparksModel", "takes", "(Ljava/lang/String;)Z"⟩, 42) := ⟨⟨by decide +kernel, by decide +kernel⟩, List.mem_of_getElem? (i := 1126) (by decide +kernel), List.mem_of_getElem? (i := 1310) (by decide +kernel), List.mem_of_getElem? (i := 1311) (by decide +kernel)⟩
theorem lw_p41 : lw_okq (⟨"NumberedSparksModel", "isWord", "(Ljava/lang/String;)Z"⟩, 42) := ⟨⟨by decide +kernel, by decide +kernel⟩, List.mem_of_getElem? (i := 1126) (by decide +kernel), List.mem_of_getElem? (i := 1314) (by decide +kernel), List.mem_of_getElem? (i := 1315) (by decide +kernel)⟩
theorem lw_p42 : lw_okq (⟨"NumberedSparksModel", "number", "(II)I"⟩, 42) := ⟨⟨by decide +kernel, by decide +kernel⟩, List.mem_of_getElem? (i := 1126) (by decide +kernel), List.mem_of_getElem? (i := 1320) (by decide +kernel), List.mem_of_getElem? (i := 1321) (by decide +kernel)⟩
theorem lw_p43 : lw_okq (⟨"NumberedSparksModel", "readSeed", "()V"⟩, 42) := ⟨⟨by decide +kernel, by decide +kernel⟩, List.mem_of_getElem? (i := 1126) (by decide +kernel), List.mem_of_getElem? (i := 1325) (by decide +kernel), List.mem_of_getElem? (i := 1326) (by decide +kernel)⟩
theorem lw_p44 : lw_okq (⟨"NumberedSparksModel", "readKind", "()V"⟩, 42) := ⟨⟨by decide +kernel, by decide +kernel⟩, List.mem_of_getElem? (i := 1126) (by decide +kernel), List.mem_of_getElem? (i := 1331) (by decide +kernel), List.mem_of_getElem? (i := 1332) (by decide +kernel)⟩
theorem lw_p45 : lw_okq (⟨"NumberedSparksModel", "falls", "()I"⟩, 42) := ⟨⟨by decide +kernel, by decide +kernel⟩, List.mem_of_getElem? (i := 1126) (by decide +kernel), List.mem_of_getElem? (i := 1339) (by decide +kernel), List.mem_of_getElem? (i := 1340) (by decide +kernel)⟩
theorem lw_p46 : lw_okq (⟨"NumberedSparksModel", "readSource", "()V"⟩, 42) := ⟨⟨by decide +kernel, by decide +kernel⟩, List.mem_of_getElem? (i := 1126) (by decide +kernel), List.mem_of_getElem? (i := 1350) (by decide +kernel), List.mem_of_getElem? (i := 1351) (by decide +kernel)⟩
theorem lw_p47 : lw_okq (⟨"NumberedSparksModel", "roots", "(I)I"⟩, 42) := ⟨⟨by decide +kernel, by decide +kernel⟩, List.mem_of_getElem? (i := 1126) (by decide +kernel), List.mem_of_getElem? (i := 1378) (by decide +kernel), List.mem_of_getElem? (i := 1379) (by decide +kernel)⟩
def lw_privs_3 : List (MethodName × Nat) := [(⟨"NumberedSparks$Frame", "forgetColumns", "(II[I)V"⟩, 13), (⟨"NumberedSparksModel", "puts4", "(I)V"⟩, 42), (⟨"NumberedSparksModel", "advance", "()V"⟩, 42), (⟨"NumberedSparksModel", "see", "(I)I"⟩, 42), (⟨"NumberedSparksModel", "errs", "(II)V"⟩, 42), (⟨"NumberedSparksModel", "good", "()Z"⟩, 42), (⟨"NumberedSparksModel", "readLine", "(I)V"⟩, 42), (⟨"NumberedSparksModel", "passes", "(Ljava/lang/String;)V"⟩, 42), (⟨"NumberedSparksModel", "takes", "(Ljava/lang/String;)Z"⟩, 42), (⟨"NumberedSparksModel", "isWord", "(Ljava/lang/String;)Z"⟩, 42), (⟨"NumberedSparksModel", "number", "(II)I"⟩, 42), (⟨"NumberedSparksModel", "readSeed", "()V"⟩, 42), (⟨"NumberedSparksModel", "readKind", "()V"⟩, 42), (⟨"NumberedSparksModel", "falls", "()I"⟩, 42), (⟨"NumberedSparksModel", "readSource", "()V"⟩, 42), (⟨"NumberedSparksModel", "roots", "(I)I"⟩, 42)]
theorem lw_r3 : ∀ q ∈ lw_privs_3, lw_okq q := List.forall_mem_cons.mpr ⟨lw_p32, List.forall_mem_cons.mpr ⟨lw_p33, List.forall_mem_cons.mpr ⟨lw_p34, List.forall_mem_cons.mpr ⟨lw_p35, List.forall_mem_cons.mpr ⟨lw_p36, List.forall_mem_cons.mpr ⟨lw_p37, List.forall_mem_cons.mpr ⟨lw_p38, List.forall_mem_cons.mpr ⟨lw_p39, List.forall_mem_cons.mpr ⟨lw_p40, List.forall_mem_cons.mpr ⟨lw_p41, List.forall_mem_cons.mpr ⟨lw_p42, List.forall_mem_cons.mpr ⟨lw_p43, List.forall_mem_cons.mpr ⟨lw_p44, List.forall_mem_cons.mpr ⟨lw_p45, List.forall_mem_cons.mpr ⟨lw_p46, List.forall_mem_cons.mpr ⟨lw_p47, fun _ h => absurd h List.not_mem_nil⟩⟩⟩⟩⟩⟩⟩⟩⟩⟩⟩⟩⟩⟩⟩⟩
theorem lw_p48 : lw_okq (⟨"NumberedSparksModel", "groups", "(I)I"⟩, 42) := ⟨⟨by decide +kernel, by decide +kernel⟩, List.mem_of_getElem? (i := 1126) (by decide +kernel), List.mem_of_getElem? (i := 1382) (by decide +kernel), List.mem_of_getElem? (i := 1383) (by decide +kernel)⟩
theorem lw_p49 : lw_okq (⟨"NumberedSparksModel", "ofSource", "(II)I"⟩, 42) := ⟨⟨by decide +kernel, by decide +kernel⟩, List.mem_of_getElem? (i := 1126) (by decide +kernel), List.mem_of_getElem? (i := 1386) (by decide +kernel), List.mem_of_getElem? (i := 1387) (by decide +kernel)⟩
theorem lw_p50 : lw_okq (⟨"NumberedSparksModel", "keeps", "(II)V"⟩, 42) := ⟨⟨by decide +kernel, by decide +kernel⟩, List.mem_of_getElem? (i := 1126) (by decide +kernel), List.mem_of_getElem? (i := 1395) (by decide +kernel), List.mem_of_getElem? (i := 1396) (by decide +kernel)⟩
theorem lw_p51 : lw_okq (⟨"NumberedSparksModel", "mixedOf", "(II)J"⟩, 42) := ⟨⟨by decide +kernel, by decide +kernel⟩, List.mem_of_getElem? (i := 1126) (by decide +kernel), List.mem_of_getElem? (i := 1412) (by decide +kernel), List.mem_of_getElem? (i := 1413) (by decide +kernel)⟩
theorem lw_p52 : lw_okq (⟨"NumberedSparksModel", "isSpark", "(I)Z"⟩, 42) := ⟨⟨by decide +kernel, by decide +kernel⟩, List.mem_of_getElem? (i := 1126) (by decide +kernel), List.mem_of_getElem? (i := 1424) (by decide +kernel), List.mem_of_getElem? (i := 1425) (by decide +kernel)⟩
theorem lw_p53 : lw_okq (⟨"NumberedSparksModel", "hasChild", "(II)Z"⟩, 42) := ⟨⟨by decide +kernel, by decide +kernel⟩, List.mem_of_getElem? (i := 1126) (by decide +kernel), List.mem_of_getElem? (i := 1431) (by decide +kernel), List.mem_of_getElem? (i := 1432) (by decide +kernel)⟩
theorem lw_p54 : lw_okq (⟨"NumberedSparksModel", "childOf", "(II)I"⟩, 42) := ⟨⟨by decide +kernel, by decide +kernel⟩, List.mem_of_getElem? (i := 1126) (by decide +kernel), List.mem_of_getElem? (i := 1442) (by decide +kernel), List.mem_of_getElem? (i := 1443) (by decide +kernel)⟩
theorem lw_p55 : lw_okq (⟨"NumberedSparksModel", "kindOf", "(I)I"⟩, 42) := ⟨⟨by decide +kernel, by decide +kernel⟩, List.mem_of_getElem? (i := 1126) (by decide +kernel), List.mem_of_getElem? (i := 1449) (by decide +kernel), List.mem_of_getElem? (i := 1450) (by decide +kernel)⟩
theorem lw_p56 : lw_okq (⟨"NumberedSparksModel", "lays", "(I)V"⟩, 42) := ⟨⟨by decide +kernel, by decide +kernel⟩, List.mem_of_getElem? (i := 1126) (by decide +kernel), List.mem_of_getElem? (i := 1464) (by decide +kernel), List.mem_of_getElem? (i := 1465) (by decide +kernel)⟩
theorem lw_p57 : lw_okq (⟨"NumberedSparksModel", "laysRoot", "(I)V"⟩, 42) := ⟨⟨by decide +kernel, by decide +kernel⟩, List.mem_of_getElem? (i := 1126) (by decide +kernel), List.mem_of_getElem? (i := 1468) (by decide +kernel), List.mem_of_getElem? (i := 1469) (by decide +kernel)⟩
theorem lw_p58 : lw_okq (⟨"NumberedSparksModel", "draw", "(III)I"⟩, 42) := ⟨⟨by decide +kernel, by decide +kernel⟩, List.mem_of_getElem? (i := 1126) (by decide +kernel), List.mem_of_getElem? (i := 1472) (by decide +kernel), List.mem_of_getElem? (i := 1473) (by decide +kernel)⟩
theorem lw_p59 : lw_okq (⟨"NumberedSparksModel", "laysOne", "(III)V"⟩, 42) := ⟨⟨by decide +kernel, by decide +kernel⟩, List.mem_of_getElem? (i := 1126) (by decide +kernel), List.mem_of_getElem? (i := 1476) (by decide +kernel), List.mem_of_getElem? (i := 1477) (by decide +kernel)⟩
theorem lw_p60 : lw_okq (⟨"NumberedSparksModel", "edge", "()I"⟩, 42) := ⟨⟨by decide +kernel, by decide +kernel⟩, List.mem_of_getElem? (i := 1126) (by decide +kernel), List.mem_of_getElem? (i := 1480) (by decide +kernel), List.mem_of_getElem? (i := 1481) (by decide +kernel)⟩
theorem lw_p61 : lw_okq (⟨"NumberedSparksModel", "isBeyond", "(I)Z"⟩, 42) := ⟨⟨by decide +kernel, by decide +kernel⟩, List.mem_of_getElem? (i := 1126) (by decide +kernel), List.mem_of_getElem? (i := 1484) (by decide +kernel), List.mem_of_getElem? (i := 1485) (by decide +kernel)⟩
theorem lw_p62 : lw_okq (⟨"NumberedSparksModel", "raw", "(II)I"⟩, 42) := ⟨⟨by decide +kernel, by decide +kernel⟩, List.mem_of_getElem? (i := 1126) (by decide +kernel), List.mem_of_getElem? (i := 1488) (by decide +kernel), List.mem_of_getElem? (i := 1489) (by decide +kernel)⟩
theorem lw_p63 : lw_okq (⟨"NumberedSparksModel", "world", "(I)I"⟩, 42) := ⟨⟨by decide +kernel, by decide +kernel⟩, List.mem_of_getElem? (i := 1126) (by decide +kernel), List.mem_of_getElem? (i := 1492) (by decide +kernel), List.mem_of_getElem? (i := 1493) (by decide +kernel)⟩
def lw_privs_4 : List (MethodName × Nat) := [(⟨"NumberedSparksModel", "groups", "(I)I"⟩, 42), (⟨"NumberedSparksModel", "ofSource", "(II)I"⟩, 42), (⟨"NumberedSparksModel", "keeps", "(II)V"⟩, 42), (⟨"NumberedSparksModel", "mixedOf", "(II)J"⟩, 42), (⟨"NumberedSparksModel", "isSpark", "(I)Z"⟩, 42), (⟨"NumberedSparksModel", "hasChild", "(II)Z"⟩, 42), (⟨"NumberedSparksModel", "childOf", "(II)I"⟩, 42), (⟨"NumberedSparksModel", "kindOf", "(I)I"⟩, 42), (⟨"NumberedSparksModel", "lays", "(I)V"⟩, 42), (⟨"NumberedSparksModel", "laysRoot", "(I)V"⟩, 42), (⟨"NumberedSparksModel", "draw", "(III)I"⟩, 42), (⟨"NumberedSparksModel", "laysOne", "(III)V"⟩, 42), (⟨"NumberedSparksModel", "edge", "()I"⟩, 42), (⟨"NumberedSparksModel", "isBeyond", "(I)Z"⟩, 42), (⟨"NumberedSparksModel", "raw", "(II)I"⟩, 42), (⟨"NumberedSparksModel", "world", "(I)I"⟩, 42)]
theorem lw_r4 : ∀ q ∈ lw_privs_4, lw_okq q := List.forall_mem_cons.mpr ⟨lw_p48, List.forall_mem_cons.mpr ⟨lw_p49, List.forall_mem_cons.mpr ⟨lw_p50, List.forall_mem_cons.mpr ⟨lw_p51, List.forall_mem_cons.mpr ⟨lw_p52, List.forall_mem_cons.mpr ⟨lw_p53, List.forall_mem_cons.mpr ⟨lw_p54, List.forall_mem_cons.mpr ⟨lw_p55, List.forall_mem_cons.mpr ⟨lw_p56, List.forall_mem_cons.mpr ⟨lw_p57, List.forall_mem_cons.mpr ⟨lw_p58, List.forall_mem_cons.mpr ⟨lw_p59, List.forall_mem_cons.mpr ⟨lw_p60, List.forall_mem_cons.mpr ⟨lw_p61, List.forall_mem_cons.mpr ⟨lw_p62, List.forall_mem_cons.mpr ⟨lw_p63, fun _ h => absurd h List.not_mem_nil⟩⟩⟩⟩⟩⟩⟩⟩⟩⟩⟩⟩⟩⟩⟩⟩
theorem lw_p64 : lw_okq (⟨"NumberedSparksModel", "laysChild", "(I)V"⟩, 42) := ⟨⟨by decide +kernel, by decide +kernel⟩, List.mem_of_getElem? (i := 1126) (by decide +kernel), List.mem_of_getElem? (i := 1496) (by decide +kernel), List.mem_of_getElem? (i := 1497) (by decide +kernel)⟩
theorem lw_p65 : lw_okq (⟨"NumberedSparksModel", "placeBy", "(II)I"⟩, 42) := ⟨⟨by decide +kernel, by decide +kernel⟩, List.mem_of_getElem? (i := 1126) (by decide +kernel), List.mem_of_getElem? (i := 1500) (by decide +kernel), List.mem_of_getElem? (i := 1501) (by decide +kernel)⟩
theorem lw_p66 : lw_okq (⟨"NumberedSparksModel", "isTick", "(I)Z"⟩, 42) := ⟨⟨by decide +kernel, by decide +kernel⟩, List.mem_of_getElem? (i := 1126) (by decide +kernel), List.mem_of_getElem? (i := 1509) (by decide +kernel), List.mem_of_getElem? (i := 1510) (by decide +kernel)⟩
theorem lw_p67 : lw_okq (⟨"NumberedSparksModel", "overAt", "(I)I"⟩, 42) := ⟨⟨by decide +kernel, by decide +kernel⟩, List.mem_of_getElem? (i := 1126) (by decide +kernel), List.mem_of_getElem? (i := 1524) (by decide +kernel), List.mem_of_getElem? (i := 1525) (by decide +kernel)⟩
theorem lw_p68 : lw_okq (⟨"NumberedSparksModel", "cellBy", "(I)I"⟩, 42) := ⟨⟨by decide +kernel, by decide +kernel⟩, List.mem_of_getElem? (i := 1126) (by decide +kernel), List.mem_of_getElem? (i := 1538) (by decide +kernel), List.mem_of_getElem? (i := 1539) (by decide +kernel)⟩
theorem lw_p69 : lw_okq (⟨"NumberedSparksModel", "gathers", "(I)V"⟩, 42) := ⟨⟨by decide +kernel, by decide +kernel⟩, List.mem_of_getElem? (i := 1126) (by decide +kernel), List.mem_of_getElem? (i := 1566) (by decide +kernel), List.mem_of_getElem? (i := 1567) (by decide +kernel)⟩
theorem lw_p70 : lw_okq (⟨"NumberedSparksModel", "firstGroup", "(II)I"⟩, 42) := ⟨⟨by decide +kernel, by decide +kernel⟩, List.mem_of_getElem? (i := 1126) (by decide +kernel), List.mem_of_getElem? (i := 1570) (by decide +kernel), List.mem_of_getElem? (i := 1571) (by decide +kernel)⟩
theorem lw_p71 : lw_okq (⟨"NumberedSparksModel", "isGroup", "(III)Z"⟩, 42) := ⟨⟨by decide +kernel, by decide +kernel⟩, List.mem_of_getElem? (i := 1126) (by decide +kernel), List.mem_of_getElem? (i := 1574) (by decide +kernel), List.mem_of_getElem? (i := 1575) (by decide +kernel)⟩
theorem lw_p72 : lw_okq (⟨"NumberedSparksModel", "comesLine", "(II)V"⟩, 42) := ⟨⟨by decide +kernel, by decide +kernel⟩, List.mem_of_getElem? (i := 1126) (by decide +kernel), List.mem_of_getElem? (i := 1578) (by decide +kernel), List.mem_of_getElem? (i := 1579) (by decide +kernel)⟩
theorem lw_p73 : lw_okq (⟨"NumberedSparksModel", "comes", "(II)V"⟩, 42) := ⟨⟨by decide +kernel, by decide +kernel⟩, List.mem_of_getElem? (i := 1126) (by decide +kernel), List.mem_of_getElem? (i := 1582) (by decide +kernel), List.mem_of_getElem? (i := 1583) (by decide +kernel)⟩
theorem lw_p74 : lw_okq (⟨"NumberedSparksModel", "codeAt", "(I)I"⟩, 42) := ⟨⟨by decide +kernel, by decide +kernel⟩, List.mem_of_getElem? (i := 1126) (by decide +kernel), List.mem_of_getElem? (i := 1586) (by decide +kernel), List.mem_of_getElem? (i := 1587) (by decide +kernel)⟩
theorem lw_p75 : lw_okq (⟨"NumberedSparksModel", "laysFrame", "(I)V"⟩, 42) := ⟨⟨by decide +kernel, by decide +kernel⟩, List.mem_of_getElem? (i := 1126) (by decide +kernel), List.mem_of_getElem? (i := 1595) (by decide +kernel), List.mem_of_getElem? (i := 1596) (by decide +kernel)⟩
theorem lw_p76 : lw_okq (⟨"NumberedSparksModel", "sorts", "()V"⟩, 42) := ⟨⟨by decide +kernel, by decide +kernel⟩, List.mem_of_getElem? (i := 1126) (by decide +kernel), List.mem_of_getElem? (i := 1599) (by decide +kernel), List.mem_of_getElem? (i := 1600) (by decide +kernel)⟩
theorem lw_p77 : lw_okq (⟨"NumberedSparksModel", "isColumn", "(II)Z"⟩, 42) := ⟨⟨by decide +kernel, by decide +kernel⟩, List.mem_of_getElem? (i := 1126) (by decide +kernel), List.mem_of_getElem? (i := 1613) (by decide +kernel), List.mem_of_getElem? (i := 1614) (by decide +kernel)⟩
theorem lw_p78 : lw_okq (⟨"NumberedSparksModel", "laysColumns", "(I)V"⟩, 42) := ⟨⟨by decide +kernel, by decide +kernel⟩, List.mem_of_getElem? (i := 1126) (by decide +kernel), List.mem_of_getElem? (i := 1617) (by decide +kernel), List.mem_of_getElem? (i := 1618) (by decide +kernel)⟩
theorem lw_p79 : lw_okq (⟨"NumberedSparksModel", "topOf", "(II)I"⟩, 42) := ⟨⟨by decide +kernel, by decide +kernel⟩, List.mem_of_getElem? (i := 1126) (by decide +kernel), List.mem_of_getElem? (i := 1625) (by decide +kernel), List.mem_of_getElem? (i := 1626) (by decide +kernel)⟩
def lw_privs_5 : List (MethodName × Nat) := [(⟨"NumberedSparksModel", "laysChild", "(I)V"⟩, 42), (⟨"NumberedSparksModel", "placeBy", "(II)I"⟩, 42), (⟨"NumberedSparksModel", "isTick", "(I)Z"⟩, 42), (⟨"NumberedSparksModel", "overAt", "(I)I"⟩, 42), (⟨"NumberedSparksModel", "cellBy", "(I)I"⟩, 42), (⟨"NumberedSparksModel", "gathers", "(I)V"⟩, 42), (⟨"NumberedSparksModel", "firstGroup", "(II)I"⟩, 42), (⟨"NumberedSparksModel", "isGroup", "(III)Z"⟩, 42), (⟨"NumberedSparksModel", "comesLine", "(II)V"⟩, 42), (⟨"NumberedSparksModel", "comes", "(II)V"⟩, 42), (⟨"NumberedSparksModel", "codeAt", "(I)I"⟩, 42), (⟨"NumberedSparksModel", "laysFrame", "(I)V"⟩, 42), (⟨"NumberedSparksModel", "sorts", "()V"⟩, 42), (⟨"NumberedSparksModel", "isColumn", "(II)Z"⟩, 42), (⟨"NumberedSparksModel", "laysColumns", "(I)V"⟩, 42), (⟨"NumberedSparksModel", "topOf", "(II)I"⟩, 42)]
theorem lw_r5 : ∀ q ∈ lw_privs_5, lw_okq q := List.forall_mem_cons.mpr ⟨lw_p64, List.forall_mem_cons.mpr ⟨lw_p65, List.forall_mem_cons.mpr ⟨lw_p66, List.forall_mem_cons.mpr ⟨lw_p67, List.forall_mem_cons.mpr ⟨lw_p68, List.forall_mem_cons.mpr ⟨lw_p69, List.forall_mem_cons.mpr ⟨lw_p70, List.forall_mem_cons.mpr ⟨lw_p71, List.forall_mem_cons.mpr ⟨lw_p72, List.forall_mem_cons.mpr ⟨lw_p73, List.forall_mem_cons.mpr ⟨lw_p74, List.forall_mem_cons.mpr ⟨lw_p75, List.forall_mem_cons.mpr ⟨lw_p76, List.forall_mem_cons.mpr ⟨lw_p77, List.forall_mem_cons.mpr ⟨lw_p78, List.forall_mem_cons.mpr ⟨lw_p79, fun _ h => absurd h List.not_mem_nil⟩⟩⟩⟩⟩⟩⟩⟩⟩⟩⟩⟩⟩⟩⟩⟩
theorem lw_p80 : lw_okq (⟨"NumberedSparksModel", "isCell", "(III)Z"⟩, 42) := ⟨⟨by decide +kernel, by decide +kernel⟩, List.mem_of_getElem? (i := 1126) (by decide +kernel), List.mem_of_getElem? (i := 1637) (by decide +kernel), List.mem_of_getElem? (i := 1638) (by decide +kernel)⟩
theorem lw_p81 : lw_okq (⟨"NumberedSparksModel", "squares", "(IIIII)J"⟩, 42) := ⟨⟨by decide +kernel, by decide +kernel⟩, List.mem_of_getElem? (i := 1126) (by decide +kernel), List.mem_of_getElem? (i := 1641) (by decide +kernel), List.mem_of_getElem? (i := 1642) (by decide +kernel)⟩
theorem lw_p82 : lw_okq (⟨"NumberedSparksModel", "laysHeaps", "(I)V"⟩, 42) := ⟨⟨by decide +kernel, by decide +kernel⟩, List.mem_of_getElem? (i := 1126) (by decide +kernel), List.mem_of_getElem? (i := 1656) (by decide +kernel), List.mem_of_getElem? (i := 1657) (by decide +kernel)⟩
theorem lw_p83 : lw_okq (⟨"NumberedSparksModel", "placeAt", "(III)I"⟩, 42) := ⟨⟨by decide +kernel, by decide +kernel⟩, List.mem_of_getElem? (i := 1126) (by decide +kernel), List.mem_of_getElem? (i := 1660) (by decide +kernel), List.mem_of_getElem? (i := 1661) (by decide +kernel)⟩
theorem lw_p84 : lw_okq (⟨"NumberedSparksModel", "isSpan", "(III)Z"⟩, 42) := ⟨⟨by decide +kernel, by decide +kernel⟩, List.mem_of_getElem? (i := 1126) (by decide +kernel), List.mem_of_getElem? (i := 1716) (by decide +kernel), List.mem_of_getElem? (i := 1717) (by decide +kernel)⟩
theorem lw_p85 : lw_okq (⟨"NumberedSparksModel", "bornOf", "(I)I"⟩, 42) := ⟨⟨by decide +kernel, by decide +kernel⟩, List.mem_of_getElem? (i := 1126) (by decide +kernel), List.mem_of_getElem? (i := 1720) (by decide +kernel), List.mem_of_getElem? (i := 1721) (by decide +kernel)⟩
theorem lw_p86 : lw_okq (⟨"NumberedSparksModel", "endingsOf", "(III)I"⟩, 42) := ⟨⟨by decide +kernel, by decide +kernel⟩, List.mem_of_getElem? (i := 1126) (by decide +kernel), List.mem_of_getElem? (i := 1728) (by decide +kernel), List.mem_of_getElem? (i := 1729) (by decide +kernel)⟩
theorem lw_p87 : lw_okq (⟨"NumberedSparksModel", "lastBirth", "(I)I"⟩, 42) := ⟨⟨by decide +kernel, by decide +kernel⟩, List.mem_of_getElem? (i := 1126) (by decide +kernel), List.mem_of_getElem? (i := 1736) (by decide +kernel), List.mem_of_getElem? (i := 1737) (by decide +kernel)⟩
theorem lw_p88 : lw_okq (⟨"NumberedSparksModel", "bornIn", "(IIIZ)I"⟩, 42) := ⟨⟨by decide +kernel, by decide +kernel⟩, List.mem_of_getElem? (i := 1126) (by decide +kernel), List.mem_of_getElem? (i := 1740) (by decide +kernel), List.mem_of_getElem? (i := 1741) (by decide +kernel)⟩
theorem lw_p89 : lw_okq (⟨"NumberedSparksModel", "says", "(I)V"⟩, 42) := ⟨⟨by decide +kernel, by decide +kernel⟩, List.mem_of_getElem? (i := 1126) (by decide +kernel), List.mem_of_getElem? (i := 1760) (by decide +kernel), List.mem_of_getElem? (i := 1761) (by decide +kernel)⟩
theorem lw_p90 : lw_okq (⟨"NumberedSparksModel", "saysNumber", "(I)V"⟩, 42) := ⟨⟨by decide +kernel, by decide +kernel⟩, List.mem_of_getElem? (i := 1126) (by decide +kernel), List.mem_of_getElem? (i := 1772) (by decide +kernel), List.mem_of_getElem? (i := 1773) (by decide +kernel)⟩
def lw_privs_6 : List (MethodName × Nat) := [(⟨"NumberedSparksModel", "isCell", "(III)Z"⟩, 42), (⟨"NumberedSparksModel", "squares", "(IIIII)J"⟩, 42), (⟨"NumberedSparksModel", "laysHeaps", "(I)V"⟩, 42), (⟨"NumberedSparksModel", "placeAt", "(III)I"⟩, 42), (⟨"NumberedSparksModel", "isSpan", "(III)Z"⟩, 42), (⟨"NumberedSparksModel", "bornOf", "(I)I"⟩, 42), (⟨"NumberedSparksModel", "endingsOf", "(III)I"⟩, 42), (⟨"NumberedSparksModel", "lastBirth", "(I)I"⟩, 42), (⟨"NumberedSparksModel", "bornIn", "(IIIZ)I"⟩, 42), (⟨"NumberedSparksModel", "says", "(I)V"⟩, 42), (⟨"NumberedSparksModel", "saysNumber", "(I)V"⟩, 42)]
theorem lw_r6 : ∀ q ∈ lw_privs_6, lw_okq q := List.forall_mem_cons.mpr ⟨lw_p80, List.forall_mem_cons.mpr ⟨lw_p81, List.forall_mem_cons.mpr ⟨lw_p82, List.forall_mem_cons.mpr ⟨lw_p83, List.forall_mem_cons.mpr ⟨lw_p84, List.forall_mem_cons.mpr ⟨lw_p85, List.forall_mem_cons.mpr ⟨lw_p86, List.forall_mem_cons.mpr ⟨lw_p87, List.forall_mem_cons.mpr ⟨lw_p88, List.forall_mem_cons.mpr ⟨lw_p89, List.forall_mem_cons.mpr ⟨lw_p90, fun _ h => absurd h List.not_mem_nil⟩⟩⟩⟩⟩⟩⟩⟩⟩⟩⟩
def lw_privs : List (MethodName × Nat) := lw_privs_1 ++ (lw_privs_2 ++ (lw_privs_3 ++ (lw_privs_4 ++ (lw_privs_5 ++ (lw_privs_6)))))
def lw_tbl : List Cond := k2_sels lw_privs ++ tables_1
theorem lw_privs_ok : ∀ q ∈ lw_privs, lw_okq q := by
  show ∀ q ∈ lw_privs_1 ++ (lw_privs_2 ++ (lw_privs_3 ++ (lw_privs_4 ++ (lw_privs_5 ++ (lw_privs_6))))), lw_okq q
  exact List.forall_mem_append.mpr ⟨lw_r1, List.forall_mem_append.mpr ⟨lw_r2, List.forall_mem_append.mpr ⟨lw_r3, List.forall_mem_append.mpr ⟨lw_r4, List.forall_mem_append.mpr ⟨lw_r5, lw_r6⟩⟩⟩⟩⟩

/-! ===== BEGIN printed: names, fields, word lists, decode rows ===== -/
def RX0 : String := "NumberedSparks$Finder"
def TX0 : u_T := fun k => match k with
  | 0 => ("NumberedSparks$Finder", "scene", "LNumberedSparks$Scene;", true)
  | 1 => ("NumberedSparks$Finder", "own", "LNumberedSparks$Spark;", true)
  | 2 => ("NumberedSparks$Finder", "child", "LNumberedSparks$Spark;", true)
  | _ => ("NumberedSparks$Finder", "grandchild", "LNumberedSparks$Spark;", true)
def tyX0 : Nat → FieldType := fun k => match k with
  | 0 => .object "NumberedSparks$Scene"
  | 1 => .object "NumberedSparks$Spark"
  | 2 => .object "NumberedSparks$Spark"
  | _ => .object "NumberedSparks$Spark"
abbrev wsX00 : List Cond := u_ws RX0 TX0 4
theorem nmX0 : ∀ a, a < 4 → ∀ b, b < 4 → a ≠ b → (TX0 a).2.1 ≠ (TX0 b).2.1 := by decide +kernel
theorem tyX0_ok : ∀ k, k < 4 → parseFieldDescriptor (TX0 k).2.2.1 = some (tyX0 k) := by decide +kernel
abbrev cX0_init : ByteArray := prog_2_method_1_code
def yX0_init : MethodName := ⟨RX0, "<init>", "(LNumberedSparks$Scene;)V"⟩
abbrev cX0_find : ByteArray := prog_2_method_2_code
def yX0_find : MethodName := ⟨RX0, "find", "(I)LNumberedSparks$Spark;"⟩
def RX1 : String := "NumberedSparks$Frame"
def TX1 : u_T := fun k => match k with
  | 0 => ("NumberedSparks$Frame", "scene", "LNumberedSparks$Scene;", true)
  | 1 => ("NumberedSparks$Frame", "walk", "LNumberedSparks$Walk;", true)
  | 2 => ("NumberedSparks$Frame", "length", "I", false)
  | 3 => ("NumberedSparks$Frame", "codes", "[I", false)
  | 4 => ("NumberedSparks$Frame", "kinds", "[I", false)
  | 5 => ("NumberedSparks$Frame", "borns", "[I", false)
  | 6 => ("NumberedSparks$Frame", "ends", "[I", false)
  | 7 => ("NumberedSparks$Frame", "xs", "[I", false)
  | 8 => ("NumberedSparks$Frame", "ys", "[I", false)
  | 9 => ("NumberedSparks$Frame", "zs", "[I", false)
  | 10 => ("NumberedSparks$Frame", "order", "[I", false)
  | 11 => ("NumberedSparks$Frame", "depths", "[I", true)
  | _ => ("NumberedSparks$Frame", "tick", "I", false)
def tyX1 : Nat → FieldType := fun k => match k with
  | 0 => .object "NumberedSparks$Scene"
  | 1 => .object "NumberedSparks$Walk"
  | 2 => .int
  | 3 => .array .int
  | 4 => .array .int
  | 5 => .array .int
  | 6 => .array .int
  | 7 => .array .int
  | 8 => .array .int
  | 9 => .array .int
  | 10 => .array .int
  | 11 => .array .int
  | _ => .int
abbrev wsX10 : List Cond := u_ws RX1 TX1 13
theorem nmX1 : ∀ a, a < 13 → ∀ b, b < 13 → a ≠ b → (TX1 a).2.1 ≠ (TX1 b).2.1 := by decide +kernel
theorem tyX1_ok : ∀ k, k < 13 → parseFieldDescriptor (TX1 k).2.2.1 = some (tyX1 k) := by decide +kernel
abbrev cX1_init : ByteArray := prog_3_method_1_code
def yX1_init : MethodName := ⟨RX1, "<init>", "(LNumberedSparks$Scene;LNumberedSparks$Walk;)V"⟩
abbrev cX1_forget : ByteArray := prog_3_method_2_code
def yX1_forget : MethodName := ⟨RX1, "forget", "()V"⟩
abbrev cX1_shows : ByteArray := prog_3_method_3_code
def yX1_shows : MethodName := ⟨RX1, "shows", "(I)Z"⟩
abbrev cX1_append : ByteArray := prog_3_method_4_code
def yX1_append : MethodName := ⟨RX1, "append", "(LNumberedSparks$Spark;I)V"⟩
abbrev cX1_grow : ByteArray := prog_3_method_5_code
def yX1_grow : MethodName := ⟨RX1, "grow", "()V"⟩
abbrev cX1_putInOrder : ByteArray := prog_3_method_6_code
def yX1_putInOrder : MethodName := ⟨RX1, "putInOrder", "()V"⟩
abbrev cX1_depthOf : ByteArray := prog_3_method_7_code
def yX1_depthOf : MethodName := ⟨RX1, "depthOf", "(I)I"⟩
abbrev cX1_placeOf : ByteArray := prog_3_method_8_code
def yX1_placeOf : MethodName := ⟨RX1, "placeOf", "(II)I"⟩
abbrev cX1_isInColumn : ByteArray := prog_3_method_9_code
def yX1_isInColumn : MethodName := ⟨RX1, "isInColumn", "(III)Z"⟩
abbrev cX1_columnOf : ByteArray := prog_3_method_10_code
def yX1_columnOf : MethodName := ⟨RX1, "columnOf", "(I)I"⟩
abbrev cX1_farSquared : ByteArray := prog_3_method_11_code
def yX1_farSquared : MethodName := ⟨RX1, "farSquared", "(IIII)I"⟩
abbrev cX1_fromTop : ByteArray := prog_3_method_12_code
def yX1_fromTop : MethodName := ⟨RX1, "fromTop", "(III)I"⟩
abbrev cX1_countColumns : ByteArray := prog_3_method_13_code
def yX1_countColumns : MethodName := ⟨RX1, "countColumns", "([I)V"⟩
abbrev cX1_countLayer : ByteArray := prog_3_method_14_code
def yX1_countLayer : MethodName := ⟨RX1, "countLayer", "(I[I)V"⟩
abbrev cX1_countTwos : ByteArray := prog_3_method_15_code
def yX1_countTwos : MethodName := ⟨RX1, "countTwos", "([I)J"⟩
abbrev cX1_forgetColumns : ByteArray := prog_3_method_16_code
def yX1_forgetColumns : MethodName := ⟨RX1, "forgetColumns", "(II[I)V"⟩
abbrev cX1_markTops : ByteArray := prog_3_method_17_code
def yX1_markTops : MethodName := ⟨RX1, "markTops", "([I)V"⟩
def RX2 : String := "NumberedSparks$History"
def TX2 : u_T := fun k => match k with
  | 0 => ("NumberedSparks$History", "kinds", "[I", true)
  | 1 => ("NumberedSparks$History", "whats", "[I", true)
  | 2 => ("NumberedSparks$History", "values", "[I", true)
  | _ => ("NumberedSparks$History", "length", "I", false)
def tyX2 : Nat → FieldType := fun k => match k with
  | 0 => .array .int
  | 1 => .array .int
  | 2 => .array .int
  | _ => .int
abbrev wsX20 : List Cond := u_ws RX2 TX2 4
theorem nmX2 : ∀ a, a < 4 → ∀ b, b < 4 → a ≠ b → (TX2 a).2.1 ≠ (TX2 b).2.1 := by decide +kernel
theorem tyX2_ok : ∀ k, k < 4 → parseFieldDescriptor (TX2 k).2.2.1 = some (tyX2 k) := by decide +kernel
abbrev cX2_init : ByteArray := prog_4_method_1_code
def yX2_init : MethodName := ⟨RX2, "<init>", "()V"⟩
abbrev cX2_forget : ByteArray := prog_4_method_2_code
def yX2_forget : MethodName := ⟨RX2, "forget", "()V"⟩
abbrev cX2_isEmpty : ByteArray := prog_4_method_3_code
def yX2_isEmpty : MethodName := ⟨RX2, "isEmpty", "()Z"⟩
abbrev cX2_remember : ByteArray := prog_4_method_4_code
def yX2_remember : MethodName := ⟨RX2, "remember", "(III)V"⟩
abbrev cX2_takeBack : ByteArray := prog_4_method_5_code
def yX2_takeBack : MethodName := ⟨RX2, "takeBack", "(LNumberedSparks$Scene;)V"⟩
def RX3 : String := "NumberedSparks$Output"
def TX3 : u_T := fun k => match k with
  | 0 => ("NumberedSparks$Output", "bytes", "[I", true)
  | _ => ("NumberedSparks$Output", "length", "I", false)
def tyX3 : Nat → FieldType := fun k => match k with
  | 0 => .array .int
  | _ => .int
abbrev wsX30 : List Cond := u_ws RX3 TX3 2
theorem nmX3 : ∀ a, a < 2 → ∀ b, b < 2 → a ≠ b → (TX3 a).2.1 ≠ (TX3 b).2.1 := by decide +kernel
theorem tyX3_ok : ∀ k, k < 2 → parseFieldDescriptor (TX3 k).2.2.1 = some (tyX3 k) := by decide +kernel
abbrev cX3_init : ByteArray := prog_5_method_1_code
def yX3_init : MethodName := ⟨RX3, "<init>", "()V"⟩
abbrev cX3_clear : ByteArray := prog_5_method_2_code
def yX3_clear : MethodName := ⟨RX3, "clear", "()V"⟩
abbrev cX3_put : ByteArray := prog_5_method_3_code
def yX3_put : MethodName := ⟨RX3, "put", "(I)V"⟩
abbrev cX3_putNumber : ByteArray := prog_5_method_4_code
def yX3_putNumber : MethodName := ⟨RX3, "putNumber", "(I)V"⟩
abbrev cX3_byteAt : ByteArray := prog_5_method_5_code
def yX3_byteAt : MethodName := ⟨RX3, "byteAt", "(I)I"⟩
def RX4 : String := "NumberedSparks$Reader"
def TX4 : u_T := fun k => match k with
  | 0 => ("NumberedSparks$Reader", "draft", "LNumberedSparks$Scene;", true)
  | 1 => ("NumberedSparks$Reader", "fault", "I", false)
  | 2 => ("NumberedSparks$Reader", "faultPlace", "I", false)
  | 3 => ("NumberedSparks$Reader", "text", "[I", false)
  | 4 => ("NumberedSparks$Reader", "length", "I", false)
  | 5 => ("NumberedSparks$Reader", "token", "I", false)
  | 6 => ("NumberedSparks$Reader", "start", "I", false)
  | 7 => ("NumberedSparks$Reader", "beyond", "I", false)
  | _ => ("NumberedSparks$Reader", "value", "I", false)
def tyX4 : Nat → FieldType := fun k => match k with
  | 0 => .object "NumberedSparks$Scene"
  | 1 => .int
  | 2 => .int
  | 3 => .array .int
  | 4 => .int
  | 5 => .int
  | 6 => .int
  | 7 => .int
  | _ => .int
abbrev wsX40 : List Cond := u_ws RX4 TX4 9
theorem nmX4 : ∀ a, a < 9 → ∀ b, b < 9 → a ≠ b → (TX4 a).2.1 ≠ (TX4 b).2.1 := by decide +kernel
theorem tyX4_ok : ∀ k, k < 9 → parseFieldDescriptor (TX4 k).2.2.1 = some (tyX4 k) := by decide +kernel
abbrev cX4_init : ByteArray := prog_6_method_1_code
def yX4_init : MethodName := ⟨RX4, "<init>", "()V"⟩
abbrev cX4_read : ByteArray := prog_6_method_2_code
def yX4_read : MethodName := ⟨RX4, "read", "([II)I"⟩
abbrev cX4_readWorld : ByteArray := prog_6_method_3_code
def yX4_readWorld : MethodName := ⟨RX4, "readWorld", "()V"⟩
abbrev cX4_readSeed : ByteArray := prog_6_method_4_code
def yX4_readSeed : MethodName := ⟨RX4, "readSeed", "()V"⟩
abbrev cX4_readKind : ByteArray := prog_6_method_5_code
def yX4_readKind : MethodName := ⟨RX4, "readKind", "()V"⟩
abbrev cX4_readFalls : ByteArray := prog_6_method_6_code
def yX4_readFalls : MethodName := ⟨RX4, "readFalls", "()I"⟩
abbrev cX4_readEdge : ByteArray := prog_6_method_7_code
def yX4_readEdge : MethodName := ⟨RX4, "readEdge", "()I"⟩
abbrev cX4_readSource : ByteArray := prog_6_method_8_code
def yX4_readSource : MethodName := ⟨RX4, "readSource", "()V"⟩
abbrev cX4_numberBehind : ByteArray := prog_6_method_9_code
def yX4_numberBehind : MethodName := ⟨RX4, "numberBehind", "(Ljava/lang/String;III)I"⟩
abbrev cX4_isWord : ByteArray := prog_6_method_10_code
def yX4_isWord : MethodName := ⟨RX4, "isWord", "(Ljava/lang/String;)Z"⟩
abbrev cX4_takeWord : ByteArray := prog_6_method_11_code
def yX4_takeWord : MethodName := ⟨RX4, "takeWord", "(Ljava/lang/String;)Z"⟩
abbrev cX4_needWord : ByteArray := prog_6_method_12_code
def yX4_needWord : MethodName := ⟨RX4, "needWord", "(Ljava/lang/String;)V"⟩
abbrev cX4_needSign : ByteArray := prog_6_method_13_code
def yX4_needSign : MethodName := ⟨RX4, "needSign", "(C)V"⟩
abbrev cX4_needNumber : ByteArray := prog_6_method_14_code
def yX4_needNumber : MethodName := ⟨RX4, "needNumber", "(II)I"⟩
abbrev cX4_fail : ByteArray := prog_6_method_15_code
def yX4_fail : MethodName := ⟨RX4, "fail", "(I)V"⟩
abbrev cX4_byteAt : ByteArray := prog_6_method_16_code
def yX4_byteAt : MethodName := ⟨RX4, "byteAt", "(I)I"⟩
abbrev cX4_isLetter : ByteArray := prog_6_method_17_code
def yX4_isLetter : MethodName := ⟨RX4, "isLetter", "(I)Z"⟩
abbrev cX4_isDigit : ByteArray := prog_6_method_18_code
def yX4_isDigit : MethodName := ⟨RX4, "isDigit", "(I)Z"⟩
abbrev cX4_advance : ByteArray := prog_6_method_19_code
def yX4_advance : MethodName := ⟨RX4, "advance", "()V"⟩
def RX5 : String := "NumberedSparks$Scene"
def TX5 : u_T := fun k => match k with
  | 0 => ("NumberedSparks$Scene", "cells", "[I", true)
  | 1 => ("NumberedSparks$Scene", "kinds", "[I", true)
  | 2 => ("NumberedSparks$Scene", "sources", "[I", true)
  | 3 => ("NumberedSparks$Scene", "kindCount", "I", false)
  | 4 => ("NumberedSparks$Scene", "sourceCount", "I", false)
  | 5 => ("NumberedSparks$Scene", "seed", "I", false)
  | 6 => ("NumberedSparks$Scene", "seedTold", "Z", false)
  | _ => ("NumberedSparks$Scene", "stands", "Z", false)
def tyX5 : Nat → FieldType := fun k => match k with
  | 0 => .array .int
  | 1 => .array .int
  | 2 => .array .int
  | 3 => .int
  | 4 => .int
  | 5 => .int
  | 6 => .boolean
  | _ => .boolean
abbrev wsX50 : List Cond := u_ws RX5 TX5 8
theorem nmX5 : ∀ a, a < 8 → ∀ b, b < 8 → a ≠ b → (TX5 a).2.1 ≠ (TX5 b).2.1 := by decide +kernel
theorem tyX5_ok : ∀ k, k < 8 → parseFieldDescriptor (TX5 k).2.2.1 = some (tyX5 k) := by decide +kernel
abbrev cX5_init : ByteArray := prog_7_method_1_code
def yX5_init : MethodName := ⟨RX5, "<init>", "()V"⟩
abbrev cX5_clear : ByteArray := prog_7_method_2_code
def yX5_clear : MethodName := ⟨RX5, "clear", "()V"⟩
abbrev cX5_become : ByteArray := prog_7_method_3_code
def yX5_become : MethodName := ⟨RX5, "become", "(LNumberedSparks$Scene;)V"⟩
abbrev cX5_cellsAlong : ByteArray := prog_7_method_4_code
def yX5_cellsAlong : MethodName := ⟨RX5, "cellsAlong", "(I)I"⟩
abbrev cX5_isCell : ByteArray := prog_7_method_5_code
def yX5_isCell : MethodName := ⟨RX5, "isCell", "(II)Z"⟩
abbrev cX5_isCellOfWorld : ByteArray := prog_7_method_6_code
def yX5_isCellOfWorld : MethodName := ⟨RX5, "isCellOfWorld", "(III)Z"⟩
abbrev cX5_isKind : ByteArray := prog_7_method_7_code
def yX5_isKind : MethodName := ⟨RX5, "isKind", "(I)Z"⟩
abbrev cX5_isSource : ByteArray := prog_7_method_8_code
def yX5_isSource : MethodName := ⟨RX5, "isSource", "(I)Z"⟩
abbrev cX5_ofKind : ByteArray := prog_7_method_9_code
def yX5_ofKind : MethodName := ⟨RX5, "ofKind", "(II)I"⟩
abbrev cX5_setKind : ByteArray := prog_7_method_10_code
def yX5_setKind : MethodName := ⟨RX5, "setKind", "(III)V"⟩
abbrev cX5_ofSource : ByteArray := prog_7_method_11_code
def yX5_ofSource : MethodName := ⟨RX5, "ofSource", "(II)I"⟩
abbrev cX5_setSource : ByteArray := prog_7_method_12_code
def yX5_setSource : MethodName := ⟨RX5, "setSource", "(III)V"⟩
abbrev cX5_mix : ByteArray := prog_7_method_13_code
def yX5_mix : MethodName := ⟨RX5, "mix", "(II)J"⟩
abbrev cX5_draw : ByteArray := prog_7_method_14_code
def yX5_draw : MethodName := ⟨RX5, "draw", "(III)I"⟩
abbrev cX5_colourOf : ByteArray := prog_7_method_15_code
def yX5_colourOf : MethodName := ⟨RX5, "colourOf", "(I)I"⟩
abbrev cX5_hasSpark : ByteArray := prog_7_method_16_code
def yX5_hasSpark : MethodName := ⟨RX5, "hasSpark", "(I)Z"⟩
abbrev cX5_kindOfSpark : ByteArray := prog_7_method_17_code
def yX5_kindOfSpark : MethodName := ⟨RX5, "kindOfSpark", "(I)I"⟩
abbrev cX5_burstsUpTo : ByteArray := prog_7_method_18_code
def yX5_burstsUpTo : MethodName := ⟨RX5, "burstsUpTo", "(II)I"⟩
abbrev cX5_plannedTick : ByteArray := prog_7_method_19_code
def yX5_plannedTick : MethodName := ⟨RX5, "plannedTick", "(II)I"⟩
abbrev cX5_birthTick : ByteArray := prog_7_method_20_code
def yX5_birthTick : MethodName := ⟨RX5, "birthTick", "(II)I"⟩
abbrev cX5_bornBefore : ByteArray := prog_7_method_21_code
def yX5_bornBefore : MethodName := ⟨RX5, "bornBefore", "(II)I"⟩
abbrev cX5_tickOfBirth : ByteArray := prog_7_method_22_code
def yX5_tickOfBirth : MethodName := ⟨RX5, "tickOfBirth", "(II)I"⟩
abbrev cX5_codeOfBirth : ByteArray := prog_7_method_23_code
def yX5_codeOfBirth : MethodName := ⟨RX5, "codeOfBirth", "(II)I"⟩
abbrev cX5_countBirths : ByteArray := prog_7_method_24_code
def yX5_countBirths : MethodName := ⟨RX5, "countBirths", "(III[I)V"⟩
def RX6 : String := "NumberedSparks$Spark"
def TX6 : u_T := fun k => match k with
  | 0 => ("NumberedSparks$Spark", "scene", "LNumberedSparks$Scene;", true)
  | 1 => ("NumberedSparks$Spark", "start", "[I", true)
  | 2 => ("NumberedSparks$Spark", "speed", "[I", true)
  | 3 => ("NumberedSparks$Spark", "code", "I", false)
  | 4 => ("NumberedSparks$Spark", "kind", "I", false)
  | 5 => ("NumberedSparks$Spark", "generation", "I", false)
  | 6 => ("NumberedSparks$Spark", "born", "I", false)
  | 7 => ("NumberedSparks$Spark", "ends", "I", false)
  | 8 => ("NumberedSparks$Spark", "falls", "I", false)
  | _ => ("NumberedSparks$Spark", "edge", "I", false)
def tyX6 : Nat → FieldType := fun k => match k with
  | 0 => .object "NumberedSparks$Scene"
  | 1 => .array .int
  | 2 => .array .int
  | 3 => .int
  | 4 => .int
  | 5 => .int
  | 6 => .int
  | 7 => .int
  | 8 => .int
  | _ => .int
abbrev wsX60 : List Cond := u_ws RX6 TX6 10
theorem nmX6 : ∀ a, a < 10 → ∀ b, b < 10 → a ≠ b → (TX6 a).2.1 ≠ (TX6 b).2.1 := by decide +kernel
theorem tyX6_ok : ∀ k, k < 10 → parseFieldDescriptor (TX6 k).2.2.1 = some (tyX6 k) := by decide +kernel
abbrev cX6_init : ByteArray := prog_8_method_1_code
def yX6_init : MethodName := ⟨RX6, "<init>", "(LNumberedSparks$Scene;)V"⟩
abbrev cX6_beginAtSource : ByteArray := prog_8_method_2_code
def yX6_beginAtSource : MethodName := ⟨RX6, "beginAtSource", "(III)V"⟩
abbrev cX6_beginAsChild : ByteArray := prog_8_method_3_code
def yX6_beginAsChild : MethodName := ⟨RX6, "beginAsChild", "(LNumberedSparks$Spark;I)V"⟩
abbrev cX6_fly : ByteArray := prog_8_method_4_code
def yX6_fly : MethodName := ⟨RX6, "fly", "()V"⟩
abbrev cX6_ageBeyond : ByteArray := prog_8_method_5_code
def yX6_ageBeyond : MethodName := ⟨RX6, "ageBeyond", "(II)I"⟩
abbrev cX6_isThere : ByteArray := prog_8_method_6_code
def yX6_isThere : MethodName := ⟨RX6, "isThere", "(I)Z"⟩
abbrev cX6_freePlace : ByteArray := prog_8_method_7_code
def yX6_freePlace : MethodName := ⟨RX6, "freePlace", "(II)I"⟩
abbrev cX6_placeAt : ByteArray := prog_8_method_8_code
def yX6_placeAt : MethodName := ⟨RX6, "placeAt", "(II)I"⟩
abbrev cX6_cellAt : ByteArray := prog_8_method_9_code
def yX6_cellAt : MethodName := ⟨RX6, "cellAt", "(I)I"⟩
abbrev cX6_edgesAt : ByteArray := prog_8_method_10_code
def yX6_edgesAt : MethodName := ⟨RX6, "edgesAt", "(I)I"⟩
abbrev cX6_firstInColumn : ByteArray := prog_8_method_11_code
def yX6_firstInColumn : MethodName := ⟨RX6, "firstInColumn", "(IIII)I"⟩
abbrev cX6_crossings : ByteArray := prog_8_method_12_code
def yX6_crossings : MethodName := ⟨RX6, "crossings", "(IIIZ)I"⟩
def RX7 : String := "NumberedSparks$Walk"
def TX7 : u_T := fun k => match k with
  | 0 => ("NumberedSparks$Walk", "scene", "LNumberedSparks$Scene;", true)
  | 1 => ("NumberedSparks$Walk", "line", "[LNumberedSparks$Spark;", true)
  | 2 => ("NumberedSparks$Walk", "shownRows", "[I", true)
  | 3 => ("NumberedSparks$Walk", "nextRoot", "[I", true)
  | 4 => ("NumberedSparks$Walk", "beyondRoots", "[I", true)
  | 5 => ("NumberedSparks$Walk", "spans", "[I", true)
  | 6 => ("NumberedSparks$Walk", "first", "I", false)
  | 7 => ("NumberedSparks$Walk", "beyond", "I", false)
  | _ => ("NumberedSparks$Walk", "showing", "I", false)
def tyX7 : Nat → FieldType := fun k => match k with
  | 0 => .object "NumberedSparks$Scene"
  | 1 => .array (.object "NumberedSparks$Spark")
  | 2 => .array .int
  | 3 => .array .int
  | 4 => .array .int
  | 5 => .array .int
  | 6 => .int
  | 7 => .int
  | _ => .int
abbrev wsX70 : List Cond := u_ws RX7 TX7 9
theorem nmX7 : ∀ a, a < 9 → ∀ b, b < 9 → a ≠ b → (TX7 a).2.1 ≠ (TX7 b).2.1 := by decide +kernel
theorem tyX7_ok : ∀ k, k < 9 → parseFieldDescriptor (TX7 k).2.2.1 = some (tyX7 k) := by decide +kernel
abbrev cX7_init : ByteArray := prog_9_method_1_code
def yX7_init : MethodName := ⟨RX7, "<init>", "(LNumberedSparks$Scene;)V"⟩
abbrev cX7_start : ByteArray := prog_9_method_2_code
def yX7_start : MethodName := ⟨RX7, "start", "(II)V"⟩
abbrev cX7_startWithRoot : ByteArray := prog_9_method_3_code
def yX7_startWithRoot : MethodName := ⟨RX7, "startWithRoot", "(II)V"⟩
abbrev cX7_measureSpans : ByteArray := prog_9_method_4_code
def yX7_measureSpans : MethodName := ⟨RX7, "measureSpans", "()V"⟩
abbrev cX7_spanOf : ByteArray := prog_9_method_5_code
def yX7_spanOf : MethodName := ⟨RX7, "spanOf", "(II)I"⟩
abbrev cX7_spanBehind : ByteArray := prog_9_method_6_code
def yX7_spanBehind : MethodName := ⟨RX7, "spanBehind", "(II)I"⟩
abbrev cX7_stepRoot : ByteArray := prog_9_method_7_code
def yX7_stepRoot : MethodName := ⟨RX7, "stepRoot", "()Z"⟩
abbrev cX7_stepChild : ByteArray := prog_9_method_8_code
def yX7_stepChild : MethodName := ⟨RX7, "stepChild", "(LNumberedSparks$Spark;II)V"⟩
abbrev cX7_isOutside : ByteArray := prog_9_method_9_code
def yX7_isOutside : MethodName := ⟨RX7, "isOutside", "(LNumberedSparks$Spark;)Z"⟩
abbrev cX7_show : ByteArray := prog_9_method_10_code
def yX7_show : MethodName := ⟨RX7, "show", "(I)V"⟩
abbrev cX7_sourceOfLeastRoot : ByteArray := prog_9_method_11_code
def yX7_sourceOfLeastRoot : MethodName := ⟨RX7, "sourceOfLeastRoot", "()I"⟩
abbrev cX7_shown : ByteArray := prog_9_method_12_code
def yX7_shown : MethodName := ⟨RX7, "shown", "(I)LNumberedSparks$Spark;"⟩
def RX8 : String := "NumberedSparks"
def TX8 : u_T := fun k => match k with
  | 0 => ("NumberedSparks", "tape", "[I", true)
  | 1 => ("NumberedSparks", "tapeLength", "I", false)
  | 2 => ("NumberedSparks", "scene", "LNumberedSparks$Scene;", true)
  | 3 => ("NumberedSparks", "reader", "LNumberedSparks$Reader;", true)
  | 4 => ("NumberedSparks", "history", "LNumberedSparks$History;", true)
  | 5 => ("NumberedSparks", "out", "LNumberedSparks$Output;", true)
  | 6 => ("NumberedSparks", "walk", "LNumberedSparks$Walk;", true)
  | 7 => ("NumberedSparks", "frame", "LNumberedSparks$Frame;", true)
  | 8 => ("NumberedSparks", "finder", "LNumberedSparks$Finder;", true)
  | 9 => ("NumberedSparks", "otherFinder", "LNumberedSparks$Finder;", true)
  | _ => ("NumberedSparks", "counts", "[I", true)
def tyX8 : Nat → FieldType := fun k => match k with
  | 0 => .array .int
  | 1 => .int
  | 2 => .object "NumberedSparks$Scene"
  | 3 => .object "NumberedSparks$Reader"
  | 4 => .object "NumberedSparks$History"
  | 5 => .object "NumberedSparks$Output"
  | 6 => .object "NumberedSparks$Walk"
  | 7 => .object "NumberedSparks$Frame"
  | 8 => .object "NumberedSparks$Finder"
  | 9 => .object "NumberedSparks$Finder"
  | _ => .array .int
abbrev wsX80 : List Cond := u_ws RX8 TX8 11
theorem nmX8 : ∀ a, a < 11 → ∀ b, b < 11 → a ≠ b → (TX8 a).2.1 ≠ (TX8 b).2.1 := by decide +kernel
theorem tyX8_ok : ∀ k, k < 11 → parseFieldDescriptor (TX8 k).2.2.1 = some (tyX8 k) := by decide +kernel
abbrev cX8_init : ByteArray := prog_1_method_1_code
def yX8_init : MethodName := ⟨RX8, "<init>", "()V"⟩
abbrev cX8_feed : ByteArray := prog_1_method_2_code
def yX8_feed : MethodName := ⟨RX8, "feed", "(IIIII)I"⟩
abbrev cX8_putOnTape : ByteArray := prog_1_method_3_code
def yX8_putOnTape : MethodName := ⟨RX8, "putOnTape", "(I)V"⟩
abbrev cX8_end : ByteArray := prog_1_method_4_code
def yX8_end : MethodName := ⟨RX8, "end", "(I)I"⟩
abbrev cX8_scene : ByteArray := prog_1_method_5_code
def yX8_scene : MethodName := ⟨RX8, "scene", "()I"⟩
abbrev cX8_fault : ByteArray := prog_1_method_6_code
def yX8_fault : MethodName := ⟨RX8, "fault", "(I)I"⟩
abbrev cX8_count : ByteArray := prog_1_method_7_code
def yX8_count : MethodName := ⟨RX8, "count", "(I)I"⟩
abbrev cX8_kind : ByteArray := prog_1_method_8_code
def yX8_kind : MethodName := ⟨RX8, "kind", "(II)I"⟩
abbrev cX8_source : ByteArray := prog_1_method_9_code
def yX8_source : MethodName := ⟨RX8, "source", "(II)I"⟩
abbrev cX8_seed : ByteArray := prog_1_method_10_code
def yX8_seed : MethodName := ⟨RX8, "seed", "(I)I"⟩
abbrev cX8_sets : ByteArray := prog_1_method_11_code
def yX8_sets : MethodName := ⟨RX8, "sets", "(III)I"⟩
abbrev cX8_undo : ByteArray := prog_1_method_12_code
def yX8_undo : MethodName := ⟨RX8, "undo", "()I"⟩
abbrev cX8_mixed : ByteArray := prog_1_method_13_code
def yX8_mixed : MethodName := ⟨RX8, "mixed", "(II)J"⟩
abbrev cX8_is : ByteArray := prog_1_method_14_code
def yX8_is : MethodName := ⟨RX8, "is", "(I)I"⟩
abbrev cX8_child : ByteArray := prog_1_method_15_code
def yX8_child : MethodName := ⟨RX8, "child", "(II)I"⟩
abbrev cX8_parent : ByteArray := prog_1_method_16_code
def yX8_parent : MethodName := ⟨RX8, "parent", "(I)I"⟩
abbrev cX8_spark : ByteArray := prog_1_method_17_code
def yX8_spark : MethodName := ⟨RX8, "spark", "(II)I"⟩
abbrev cX8_place : ByteArray := prog_1_method_18_code
def yX8_place : MethodName := ⟨RX8, "place", "(III)I"⟩
abbrev cX8_size : ByteArray := prog_1_method_19_code
def yX8_size : MethodName := ⟨RX8, "size", "(II)I"⟩
abbrev cX8_edges : ByteArray := prog_1_method_20_code
def yX8_edges : MethodName := ⟨RX8, "edges", "(I)I"⟩
abbrev cX8_over : ByteArray := prog_1_method_21_code
def yX8_over : MethodName := ⟨RX8, "over", "(I)I"⟩
abbrev cX8_reach : ByteArray := prog_1_method_22_code
def yX8_reach : MethodName := ⟨RX8, "reach", "(III)I"⟩
abbrev cX8_cellsOf : ByteArray := prog_1_method_23_code
def yX8_cellsOf : MethodName := ⟨RX8, "cellsOf", "(I)I"⟩
abbrev cX8_isAmong : ByteArray := prog_1_method_24_code
def yX8_isAmong : MethodName := ⟨RX8, "isAmong", "(II)Z"⟩
abbrev cX8_meets : ByteArray := prog_1_method_25_code
def yX8_meets : MethodName := ⟨RX8, "meets", "(II)I"⟩
abbrev cX8_kin : ByteArray := prog_1_method_26_code
def yX8_kin : MethodName := ⟨RX8, "kin", "(II)I"⟩
abbrev cX8_line : ByteArray := prog_1_method_27_code
def yX8_line : MethodName := ⟨RX8, "line", "(II)I"⟩
abbrev cX8_tell : ByteArray := prog_1_method_28_code
def yX8_tell : MethodName := ⟨RX8, "tell", "(I)I"⟩
abbrev cX8_octet : ByteArray := prog_1_method_29_code
def yX8_octet : MethodName := ⟨RX8, "octet", "(I)I"⟩
abbrev cX8_births : ByteArray := prog_1_method_30_code
def yX8_births : MethodName := ⟨RX8, "births", "(III)I"⟩
abbrev cX8_bornAs : ByteArray := prog_1_method_31_code
def yX8_bornAs : MethodName := ⟨RX8, "bornAs", "(II)I"⟩
abbrev cX8_latest : ByteArray := prog_1_method_32_code
def yX8_latest : MethodName := ⟨RX8, "latest", "(II)I"⟩
abbrev cX8_next : ByteArray := prog_1_method_33_code
def yX8_next : MethodName := ⟨RX8, "next", "(II)I"⟩
abbrev cX8_lull : ByteArray := prog_1_method_34_code
def yX8_lull : MethodName := ⟨RX8, "lull", "(IIII)I"⟩
abbrev cX8_endings : ByteArray := prog_1_method_35_code
def yX8_endings : MethodName := ⟨RX8, "endings", "(II)I"⟩
abbrev cX8_peak : ByteArray := prog_1_method_36_code
def yX8_peak : MethodName := ⟨RX8, "peak", "(III)I"⟩
abbrev cX8_countComingAndGoing : ByteArray := prog_1_method_37_code
def yX8_countComingAndGoing : MethodName := ⟨RX8, "countComingAndGoing", "(II)V"⟩
abbrev cX8_firstIn : ByteArray := prog_1_method_38_code
def yX8_firstIn : MethodName := ⟨RX8, "firstIn", "(III)I"⟩
abbrev cX8_flux : ByteArray := prog_1_method_39_code
def yX8_flux : MethodName := ⟨RX8, "flux", "(IIII)I"⟩
abbrev cX8_many : ByteArray := prog_1_method_40_code
def yX8_many : MethodName := ⟨RX8, "many", "(II)I"⟩
abbrev cX8_drawn : ByteArray := prog_1_method_41_code
def yX8_drawn : MethodName := ⟨RX8, "drawn", "(II)I"⟩
abbrev cX8_digest : ByteArray := prog_1_method_42_code
def yX8_digest : MethodName := ⟨RX8, "digest", "(I)J"⟩
abbrev cX8_inColumn : ByteArray := prog_1_method_43_code
def yX8_inColumn : MethodName := ⟨RX8, "inColumn", "(III)I"⟩
abbrev cX8_top : ByteArray := prog_1_method_44_code
def yX8_top : MethodName := ⟨RX8, "top", "(III)I"⟩
abbrev cX8_below : ByteArray := prog_1_method_45_code
def yX8_below : MethodName := ⟨RX8, "below", "(IIII)I"⟩
abbrev cX8_fullest : ByteArray := prog_1_method_46_code
def yX8_fullest : MethodName := ⟨RX8, "fullest", "(II)I"⟩
abbrev cX8_columns : ByteArray := prog_1_method_47_code
def yX8_columns : MethodName := ⟨RX8, "columns", "(I)I"⟩
abbrev cX8_nearest : ByteArray := prog_1_method_48_code
def yX8_nearest : MethodName := ⟨RX8, "nearest", "(IIII)I"⟩
abbrev cX8_within : ByteArray := prog_1_method_49_code
def yX8_within : MethodName := ⟨RX8, "within", "(IIIII)I"⟩
abbrev cX8_twos : ByteArray := prog_1_method_50_code
def yX8_twos : MethodName := ⟨RX8, "twos", "(I)J"⟩
abbrev cX8_box : ByteArray := prog_1_method_51_code
def yX8_box : MethodName := ⟨RX8, "box", "(II)I"⟩
abbrev cX8_middle : ByteArray := prog_1_method_52_code
def yX8_middle : MethodName := ⟨RX8, "middle", "(II)I"⟩
abbrev cX8_both : ByteArray := prog_1_method_53_code
def yX8_both : MethodName := ⟨RX8, "both", "(II)I"⟩
abbrev cX8_ofAge : ByteArray := prog_1_method_54_code
def yX8_ofAge : MethodName := ⟨RX8, "ofAge", "(III)I"⟩
abbrev cX8_colours : ByteArray := prog_1_method_55_code
def yX8_colours : MethodName := ⟨RX8, "colours", "(II)I"⟩
abbrev cX8_twins : ByteArray := prog_1_method_56_code
def yX8_twins : MethodName := ⟨RX8, "twins", "(I)I"⟩
abbrev cX8_picture : ByteArray := prog_1_method_57_code
def yX8_picture : MethodName := ⟨RX8, "picture", "(I)I"⟩
abbrev cX8_layer : ByteArray := prog_1_method_58_code
def yX8_layer : MethodName := ⟨RX8, "layer", "(II)I"⟩
abbrev cX8_isTick : ByteArray := prog_1_method_59_code
def yX8_isTick : MethodName := ⟨RX8, "isTick", "(I)Z"⟩
abbrev cX8_isAxis : ByteArray := prog_1_method_60_code
def yX8_isAxis : MethodName := ⟨RX8, "isAxis", "(I)Z"⟩
abbrev cX8_isWindow : ByteArray := prog_1_method_61_code
def yX8_isWindow : MethodName := ⟨RX8, "isWindow", "(II)Z"⟩
abbrev cX8_sourceOf : ByteArray := prog_1_method_62_code
def yX8_sourceOf : MethodName := ⟨RX8, "sourceOf", "(I)I"⟩
abbrev cX8_numberOf : ByteArray := prog_1_method_63_code
def yX8_numberOf : MethodName := ⟨RX8, "numberOf", "(I)I"⟩
abbrev cX8_codeOfRoot : ByteArray := prog_1_method_64_code
def yX8_codeOfRoot : MethodName := ⟨RX8, "codeOfRoot", "(II)I"⟩
abbrev cX8_generationOf : ByteArray := prog_1_method_65_code
def yX8_generationOf : MethodName := ⟨RX8, "generationOf", "(I)I"⟩
abbrev cX8_codeOfChild : ByteArray := prog_1_method_66_code
def yX8_codeOfChild : MethodName := ⟨RX8, "codeOfChild", "(III)I"⟩
abbrev cX8_codeOfParent : ByteArray := prog_1_method_67_code
def yX8_codeOfParent : MethodName := ⟨RX8, "codeOfParent", "(I)I"⟩
abbrev cX8_comesOf : ByteArray := prog_1_method_68_code
def yX8_comesOf : MethodName := ⟨RX8, "comesOf", "(II)Z"⟩
def RX9 : String := "NumberedSparksModel"
def TX9 : u_T := fun k => match k with
  | 0 => ("NumberedSparksModel", "thrown", "I", false)
  | 1 => ("NumberedSparksModel", "isThere", "Z", false)
  | 2 => ("NumberedSparksModel", "wide", "[I", true)
  | 3 => ("NumberedSparksModel", "seed", "I", false)
  | 4 => ("NumberedSparksModel", "kinds", "I", false)
  | 5 => ("NumberedSparksModel", "kind", "[I", true)
  | 6 => ("NumberedSparksModel", "sources", "I", false)
  | 7 => ("NumberedSparksModel", "source", "[I", true)
  | 8 => ("NumberedSparksModel", "freshWide", "[I", true)
  | 9 => ("NumberedSparksModel", "freshSeed", "I", false)
  | 10 => ("NumberedSparksModel", "freshKinds", "I", false)
  | 11 => ("NumberedSparksModel", "freshKind", "[I", true)
  | 12 => ("NumberedSparksModel", "freshSources", "I", false)
  | 13 => ("NumberedSparksModel", "freshSource", "[I", true)
  | 14 => ("NumberedSparksModel", "tape", "[B", true)
  | 15 => ("NumberedSparksModel", "taped", "I", false)
  | 16 => ("NumberedSparksModel", "size", "I", false)
  | 17 => ("NumberedSparksModel", "at", "I", false)
  | 18 => ("NumberedSparksModel", "from", "I", false)
  | 19 => ("NumberedSparksModel", "token", "I", false)
  | 20 => ("NumberedSparksModel", "value", "I", false)
  | 21 => ("NumberedSparksModel", "faultKind", "I", false)
  | 22 => ("NumberedSparksModel", "faultPlace", "I", false)
  | 23 => ("NumberedSparksModel", "isSeeded", "Z", false)
  | 24 => ("NumberedSparksModel", "acts", "I", false)
  | 25 => ("NumberedSparksModel", "actAt", "[I", true)
  | 26 => ("NumberedSparksModel", "actWas", "[I", true)
  | 27 => ("NumberedSparksModel", "itsKind", "I", false)
  | 28 => ("NumberedSparksModel", "born", "I", false)
  | 29 => ("NumberedSparksModel", "ends", "I", false)
  | 30 => ("NumberedSparksModel", "begin", "[I", true)
  | 31 => ("NumberedSparksModel", "speed", "[I", true)
  | 32 => ("NumberedSparksModel", "lastPlace", "[I", true)
  | 33 => ("NumberedSparksModel", "cellsOfOne", "[I", true)
  | 34 => ("NumberedSparksModel", "many", "I", false)
  | 35 => ("NumberedSparksModel", "keys", "[J", true)
  | 36 => ("NumberedSparksModel", "place0", "[I", true)
  | 37 => ("NumberedSparksModel", "place1", "[I", true)
  | 38 => ("NumberedSparksModel", "heaps", "[I", true)
  | 39 => ("NumberedSparksModel", "leftOver", "I", false)
  | 40 => ("NumberedSparksModel", "told", "[B", true)
  | _ => ("NumberedSparksModel", "toldMany", "I", false)
def tyX9 : Nat → FieldType := fun k => match k with
  | 0 => .int
  | 1 => .boolean
  | 2 => .array .int
  | 3 => .int
  | 4 => .int
  | 5 => .array .int
  | 6 => .int
  | 7 => .array .int
  | 8 => .array .int
  | 9 => .int
  | 10 => .int
  | 11 => .array .int
  | 12 => .int
  | 13 => .array .int
  | 14 => .array .byte
  | 15 => .int
  | 16 => .int
  | 17 => .int
  | 18 => .int
  | 19 => .int
  | 20 => .int
  | 21 => .int
  | 22 => .int
  | 23 => .boolean
  | 24 => .int
  | 25 => .array .int
  | 26 => .array .int
  | 27 => .int
  | 28 => .int
  | 29 => .int
  | 30 => .array .int
  | 31 => .array .int
  | 32 => .array .int
  | 33 => .array .int
  | 34 => .int
  | 35 => .array .long
  | 36 => .array .int
  | 37 => .array .int
  | 38 => .array .int
  | 39 => .int
  | 40 => .array .byte
  | _ => .int
abbrev wsX90 : List Cond := u_ws RX9 TX9 42
theorem nmX9 : ∀ a, a < 42 → ∀ b, b < 42 → a ≠ b → (TX9 a).2.1 ≠ (TX9 b).2.1 := by decide +kernel
theorem tyX9_ok : ∀ k, k < 42 → parseFieldDescriptor (TX9 k).2.2.1 = some (tyX9 k) := by decide +kernel
abbrev cX9_init : ByteArray := prog_11_method_1_code
def yX9_init : MethodName := ⟨RX9, "<init>", "()V"⟩
abbrev cX9_in : ByteArray := prog_11_method_3_code
def yX9_in : MethodName := ⟨RX9, "in", "(JJJ)Z"⟩
abbrev cX9_puts4 : ByteArray := prog_11_method_4_code
def yX9_puts4 : MethodName := ⟨RX9, "puts4", "(I)V"⟩
abbrev cX9_feed : ByteArray := prog_11_method_5_code
def yX9_feed : MethodName := ⟨RX9, "feed", "(IIIII)I"⟩
abbrev cX9_end : ByteArray := prog_11_method_6_code
def yX9_end : MethodName := ⟨RX9, "end", "(I)I"⟩
abbrev cX9_good : ByteArray := prog_11_method_7_code
def yX9_good : MethodName := ⟨RX9, "good", "()Z"⟩
abbrev cX9_errs : ByteArray := prog_11_method_8_code
def yX9_errs : MethodName := ⟨RX9, "errs", "(II)V"⟩
abbrev cX9_see : ByteArray := prog_11_method_9_code
def yX9_see : MethodName := ⟨RX9, "see", "(I)I"⟩
abbrev cX9_advance : ByteArray := prog_11_method_10_code
def yX9_advance : MethodName := ⟨RX9, "advance", "()V"⟩
abbrev cX9_isWord : ByteArray := prog_11_method_11_code
def yX9_isWord : MethodName := ⟨RX9, "isWord", "(Ljava/lang/String;)Z"⟩
abbrev cX9_takes : ByteArray := prog_11_method_12_code
def yX9_takes : MethodName := ⟨RX9, "takes", "(Ljava/lang/String;)Z"⟩
abbrev cX9_passes : ByteArray := prog_11_method_13_code
def yX9_passes : MethodName := ⟨RX9, "passes", "(Ljava/lang/String;)V"⟩
abbrev cX9_number : ByteArray := prog_11_method_14_code
def yX9_number : MethodName := ⟨RX9, "number", "(II)I"⟩
abbrev cX9_falls : ByteArray := prog_11_method_15_code
def yX9_falls : MethodName := ⟨RX9, "falls", "()I"⟩
abbrev cX9_readKind : ByteArray := prog_11_method_16_code
def yX9_readKind : MethodName := ⟨RX9, "readKind", "()V"⟩
abbrev cX9_readSource : ByteArray := prog_11_method_17_code
def yX9_readSource : MethodName := ⟨RX9, "readSource", "()V"⟩
abbrev cX9_readSeed : ByteArray := prog_11_method_18_code
def yX9_readSeed : MethodName := ⟨RX9, "readSeed", "()V"⟩
abbrev cX9_readLine : ByteArray := prog_11_method_19_code
def yX9_readLine : MethodName := ⟨RX9, "readLine", "(I)V"⟩
abbrev cX9_scene : ByteArray := prog_11_method_20_code
def yX9_scene : MethodName := ⟨RX9, "scene", "()I"⟩
abbrev cX9_fault : ByteArray := prog_11_method_21_code
def yX9_fault : MethodName := ⟨RX9, "fault", "(I)I"⟩
abbrev cX9_count : ByteArray := prog_11_method_22_code
def yX9_count : MethodName := ⟨RX9, "count", "(I)I"⟩
abbrev cX9_kind : ByteArray := prog_11_method_23_code
def yX9_kind : MethodName := ⟨RX9, "kind", "(II)I"⟩
abbrev cX9_ofSource : ByteArray := prog_11_method_24_code
def yX9_ofSource : MethodName := ⟨RX9, "ofSource", "(II)I"⟩
abbrev cX9_groups : ByteArray := prog_11_method_25_code
def yX9_groups : MethodName := ⟨RX9, "groups", "(I)I"⟩
abbrev cX9_roots : ByteArray := prog_11_method_26_code
def yX9_roots : MethodName := ⟨RX9, "roots", "(I)I"⟩
abbrev cX9_source : ByteArray := prog_11_method_27_code
def yX9_source : MethodName := ⟨RX9, "source", "(II)I"⟩
abbrev cX9_keeps : ByteArray := prog_11_method_28_code
def yX9_keeps : MethodName := ⟨RX9, "keeps", "(II)V"⟩
abbrev cX9_seed : ByteArray := prog_11_method_29_code
def yX9_seed : MethodName := ⟨RX9, "seed", "(I)I"⟩
abbrev cX9_sets : ByteArray := prog_11_method_30_code
def yX9_sets : MethodName := ⟨RX9, "sets", "(III)I"⟩
abbrev cX9_undo : ByteArray := prog_11_method_31_code
def yX9_undo : MethodName := ⟨RX9, "undo", "()I"⟩
abbrev cX9_mixedOf : ByteArray := prog_11_method_32_code
def yX9_mixedOf : MethodName := ⟨RX9, "mixedOf", "(II)J"⟩
abbrev cX9_mixed : ByteArray := prog_11_method_33_code
def yX9_mixed : MethodName := ⟨RX9, "mixed", "(II)J"⟩
abbrev cX9_draw : ByteArray := prog_11_method_34_code
def yX9_draw : MethodName := ⟨RX9, "draw", "(III)I"⟩
abbrev cX9_first : ByteArray := prog_11_method_35_code
def yX9_first : MethodName := ⟨RX9, "first", "(I)I"⟩
abbrev cX9_second : ByteArray := prog_11_method_36_code
def yX9_second : MethodName := ⟨RX9, "second", "(I)I"⟩
abbrev cX9_hasChild : ByteArray := prog_11_method_37_code
def yX9_hasChild : MethodName := ⟨RX9, "hasChild", "(II)Z"⟩
abbrev cX9_isSpark : ByteArray := prog_11_method_38_code
def yX9_isSpark : MethodName := ⟨RX9, "isSpark", "(I)Z"⟩
abbrev cX9_raw : ByteArray := prog_11_method_39_code
def yX9_raw : MethodName := ⟨RX9, "raw", "(II)I"⟩
abbrev cX9_edge : ByteArray := prog_11_method_40_code
def yX9_edge : MethodName := ⟨RX9, "edge", "()I"⟩
abbrev cX9_world : ByteArray := prog_11_method_41_code
def yX9_world : MethodName := ⟨RX9, "world", "(I)I"⟩
abbrev cX9_placeBy : ByteArray := prog_11_method_42_code
def yX9_placeBy : MethodName := ⟨RX9, "placeBy", "(II)I"⟩
abbrev cX9_isBeyond : ByteArray := prog_11_method_43_code
def yX9_isBeyond : MethodName := ⟨RX9, "isBeyond", "(I)Z"⟩
abbrev cX9_laysOne : ByteArray := prog_11_method_44_code
def yX9_laysOne : MethodName := ⟨RX9, "laysOne", "(III)V"⟩
abbrev cX9_laysRoot : ByteArray := prog_11_method_45_code
def yX9_laysRoot : MethodName := ⟨RX9, "laysRoot", "(I)V"⟩
abbrev cX9_laysChild : ByteArray := prog_11_method_46_code
def yX9_laysChild : MethodName := ⟨RX9, "laysChild", "(I)V"⟩
abbrev cX9_lays : ByteArray := prog_11_method_47_code
def yX9_lays : MethodName := ⟨RX9, "lays", "(I)V"⟩
abbrev cX9_generation : ByteArray := prog_11_method_48_code
def yX9_generation : MethodName := ⟨RX9, "generation", "(I)I"⟩
abbrev cX9_is : ByteArray := prog_11_method_49_code
def yX9_is : MethodName := ⟨RX9, "is", "(I)I"⟩
abbrev cX9_kindOf : ByteArray := prog_11_method_50_code
def yX9_kindOf : MethodName := ⟨RX9, "kindOf", "(I)I"⟩
abbrev cX9_childOf : ByteArray := prog_11_method_51_code
def yX9_childOf : MethodName := ⟨RX9, "childOf", "(II)I"⟩
abbrev cX9_child : ByteArray := prog_11_method_52_code
def yX9_child : MethodName := ⟨RX9, "child", "(II)I"⟩
abbrev cX9_parentOf : ByteArray := prog_11_method_53_code
def yX9_parentOf : MethodName := ⟨RX9, "parentOf", "(I)I"⟩
abbrev cX9_parent : ByteArray := prog_11_method_54_code
def yX9_parent : MethodName := ⟨RX9, "parent", "(I)I"⟩
abbrev cX9_spark : ByteArray := prog_11_method_55_code
def yX9_spark : MethodName := ⟨RX9, "spark", "(II)I"⟩
abbrev cX9_isTick : ByteArray := prog_11_method_56_code
def yX9_isTick : MethodName := ⟨RX9, "isTick", "(I)Z"⟩
abbrev cX9_place : ByteArray := prog_11_method_57_code
def yX9_place : MethodName := ⟨RX9, "place", "(III)I"⟩
abbrev cX9_size : ByteArray := prog_11_method_58_code
def yX9_size : MethodName := ⟨RX9, "size", "(II)I"⟩
abbrev cX9_overAt : ByteArray := prog_11_method_59_code
def yX9_overAt : MethodName := ⟨RX9, "overAt", "(I)I"⟩
abbrev cX9_edges : ByteArray := prog_11_method_60_code
def yX9_edges : MethodName := ⟨RX9, "edges", "(I)I"⟩
abbrev cX9_over : ByteArray := prog_11_method_61_code
def yX9_over : MethodName := ⟨RX9, "over", "(I)I"⟩
abbrev cX9_cellBy : ByteArray := prog_11_method_62_code
def yX9_cellBy : MethodName := ⟨RX9, "cellBy", "(I)I"⟩
abbrev cX9_cellsOf : ByteArray := prog_11_method_63_code
def yX9_cellsOf : MethodName := ⟨RX9, "cellsOf", "(I)I"⟩
abbrev cX9_meets : ByteArray := prog_11_method_64_code
def yX9_meets : MethodName := ⟨RX9, "meets", "(II)I"⟩
abbrev cX9_reach : ByteArray := prog_11_method_65_code
def yX9_reach : MethodName := ⟨RX9, "reach", "(III)I"⟩
abbrev cX9_kin : ByteArray := prog_11_method_66_code
def yX9_kin : MethodName := ⟨RX9, "kin", "(II)I"⟩
abbrev cX9_line : ByteArray := prog_11_method_67_code
def yX9_line : MethodName := ⟨RX9, "line", "(II)I"⟩
abbrev cX9_isFrom : ByteArray := prog_11_method_68_code
def yX9_isFrom : MethodName := ⟨RX9, "isFrom", "(II)Z"⟩
abbrev cX9_firstGroup : ByteArray := prog_11_method_69_code
def yX9_firstGroup : MethodName := ⟨RX9, "firstGroup", "(II)I"⟩
abbrev cX9_isGroup : ByteArray := prog_11_method_70_code
def yX9_isGroup : MethodName := ⟨RX9, "isGroup", "(III)Z"⟩
abbrev cX9_comes : ByteArray := prog_11_method_71_code
def yX9_comes : MethodName := ⟨RX9, "comes", "(II)V"⟩
abbrev cX9_comesLine : ByteArray := prog_11_method_72_code
def yX9_comesLine : MethodName := ⟨RX9, "comesLine", "(II)V"⟩
abbrev cX9_sorts : ByteArray := prog_11_method_73_code
def yX9_sorts : MethodName := ⟨RX9, "sorts", "()V"⟩
abbrev cX9_gathers : ByteArray := prog_11_method_74_code
def yX9_gathers : MethodName := ⟨RX9, "gathers", "(I)V"⟩
abbrev cX9_laysFrame : ByteArray := prog_11_method_75_code
def yX9_laysFrame : MethodName := ⟨RX9, "laysFrame", "(I)V"⟩
abbrev cX9_codeAt : ByteArray := prog_11_method_76_code
def yX9_codeAt : MethodName := ⟨RX9, "codeAt", "(I)I"⟩
abbrev cX9_many : ByteArray := prog_11_method_77_code
def yX9_many : MethodName := ⟨RX9, "many", "(II)I"⟩
abbrev cX9_drawn : ByteArray := prog_11_method_78_code
def yX9_drawn : MethodName := ⟨RX9, "drawn", "(II)I"⟩
abbrev cX9_placeAt : ByteArray := prog_11_method_79_code
def yX9_placeAt : MethodName := ⟨RX9, "placeAt", "(III)I"⟩
abbrev cX9_digest : ByteArray := prog_11_method_80_code
def yX9_digest : MethodName := ⟨RX9, "digest", "(I)J"⟩
abbrev cX9_isColumn : ByteArray := prog_11_method_81_code
def yX9_isColumn : MethodName := ⟨RX9, "isColumn", "(II)Z"⟩
abbrev cX9_laysColumns : ByteArray := prog_11_method_82_code
def yX9_laysColumns : MethodName := ⟨RX9, "laysColumns", "(I)V"⟩
abbrev cX9_inColumn : ByteArray := prog_11_method_83_code
def yX9_inColumn : MethodName := ⟨RX9, "inColumn", "(III)I"⟩
abbrev cX9_topOf : ByteArray := prog_11_method_84_code
def yX9_topOf : MethodName := ⟨RX9, "topOf", "(II)I"⟩
abbrev cX9_top : ByteArray := prog_11_method_85_code
def yX9_top : MethodName := ⟨RX9, "top", "(III)I"⟩
abbrev cX9_fullest : ByteArray := prog_11_method_86_code
def yX9_fullest : MethodName := ⟨RX9, "fullest", "(II)I"⟩
abbrev cX9_isCell : ByteArray := prog_11_method_87_code
def yX9_isCell : MethodName := ⟨RX9, "isCell", "(III)Z"⟩
abbrev cX9_squares : ByteArray := prog_11_method_88_code
def yX9_squares : MethodName := ⟨RX9, "squares", "(IIIII)J"⟩
abbrev cX9_nearest : ByteArray := prog_11_method_89_code
def yX9_nearest : MethodName := ⟨RX9, "nearest", "(IIII)I"⟩
abbrev cX9_within : ByteArray := prog_11_method_90_code
def yX9_within : MethodName := ⟨RX9, "within", "(IIIII)I"⟩
abbrev cX9_laysHeaps : ByteArray := prog_11_method_91_code
def yX9_laysHeaps : MethodName := ⟨RX9, "laysHeaps", "(I)V"⟩
abbrev cX9_twos : ByteArray := prog_11_method_92_code
def yX9_twos : MethodName := ⟨RX9, "twos", "(I)J"⟩
abbrev cX9_firstIn : ByteArray := prog_11_method_93_code
def yX9_firstIn : MethodName := ⟨RX9, "firstIn", "(III)I"⟩
abbrev cX9_peak : ByteArray := prog_11_method_94_code
def yX9_peak : MethodName := ⟨RX9, "peak", "(III)I"⟩
abbrev cX9_box : ByteArray := prog_11_method_95_code
def yX9_box : MethodName := ⟨RX9, "box", "(II)I"⟩
abbrev cX9_middle : ByteArray := prog_11_method_96_code
def yX9_middle : MethodName := ⟨RX9, "middle", "(II)I"⟩
abbrev cX9_both : ByteArray := prog_11_method_97_code
def yX9_both : MethodName := ⟨RX9, "both", "(II)I"⟩
abbrev cX9_ofAge : ByteArray := prog_11_method_98_code
def yX9_ofAge : MethodName := ⟨RX9, "ofAge", "(III)I"⟩
abbrev cX9_flux : ByteArray := prog_11_method_99_code
def yX9_flux : MethodName := ⟨RX9, "flux", "(IIII)I"⟩
abbrev cX9_colours : ByteArray := prog_11_method_100_code
def yX9_colours : MethodName := ⟨RX9, "colours", "(II)I"⟩
abbrev cX9_columns : ByteArray := prog_11_method_101_code
def yX9_columns : MethodName := ⟨RX9, "columns", "(I)I"⟩
abbrev cX9_below : ByteArray := prog_11_method_102_code
def yX9_below : MethodName := ⟨RX9, "below", "(IIII)I"⟩
abbrev cX9_twins : ByteArray := prog_11_method_103_code
def yX9_twins : MethodName := ⟨RX9, "twins", "(I)I"⟩
abbrev cX9_isSpan : ByteArray := prog_11_method_104_code
def yX9_isSpan : MethodName := ⟨RX9, "isSpan", "(III)Z"⟩
abbrev cX9_bornOf : ByteArray := prog_11_method_105_code
def yX9_bornOf : MethodName := ⟨RX9, "bornOf", "(I)I"⟩
abbrev cX9_births : ByteArray := prog_11_method_106_code
def yX9_births : MethodName := ⟨RX9, "births", "(III)I"⟩
abbrev cX9_endings : ByteArray := prog_11_method_107_code
def yX9_endings : MethodName := ⟨RX9, "endings", "(II)I"⟩
abbrev cX9_endingsOf : ByteArray := prog_11_method_108_code
def yX9_endingsOf : MethodName := ⟨RX9, "endingsOf", "(III)I"⟩
abbrev cX9_bornIn : ByteArray := prog_11_method_109_code
def yX9_bornIn : MethodName := ⟨RX9, "bornIn", "(IIIZ)I"⟩
abbrev cX9_lastBirth : ByteArray := prog_11_method_110_code
def yX9_lastBirth : MethodName := ⟨RX9, "lastBirth", "(I)I"⟩
abbrev cX9_bornAs : ByteArray := prog_11_method_111_code
def yX9_bornAs : MethodName := ⟨RX9, "bornAs", "(II)I"⟩
abbrev cX9_latest : ByteArray := prog_11_method_112_code
def yX9_latest : MethodName := ⟨RX9, "latest", "(II)I"⟩
abbrev cX9_next : ByteArray := prog_11_method_113_code
def yX9_next : MethodName := ⟨RX9, "next", "(II)I"⟩
abbrev cX9_lull : ByteArray := prog_11_method_114_code
def yX9_lull : MethodName := ⟨RX9, "lull", "(IIII)I"⟩
abbrev cX9_says : ByteArray := prog_11_method_115_code
def yX9_says : MethodName := ⟨RX9, "says", "(I)V"⟩
abbrev cX9_saysNumber : ByteArray := prog_11_method_116_code
def yX9_saysNumber : MethodName := ⟨RX9, "saysNumber", "(I)V"⟩
abbrev cX9_picture : ByteArray := prog_11_method_117_code
def yX9_picture : MethodName := ⟨RX9, "picture", "(I)I"⟩
abbrev cX9_layer : ByteArray := prog_11_method_118_code
def yX9_layer : MethodName := ⟨RX9, "layer", "(II)I"⟩
abbrev cX9_tell : ByteArray := prog_11_method_119_code
def yX9_tell : MethodName := ⟨RX9, "tell", "(I)I"⟩
abbrev cX9_octet : ByteArray := prog_11_method_120_code
def yX9_octet : MethodName := ⟨RX9, "octet", "(I)I"⟩
def RJx145de : String := "java/io/Serializable"
def TJx145de : u_T := fun k => match k with
  | _ => ("", "", "", false)
def tyJx145de : Nat → FieldType := fun k => match k with
  | _ => .int
abbrev wsJx145de0 : List Cond := u_ws RJx145de TJx145de 0
theorem nmJx145de : ∀ a, a < 0 → ∀ b, b < 0 → a ≠ b → (TJx145de a).2.1 ≠ (TJx145de b).2.1 := by decide +kernel
theorem tyJx145de_ok : ∀ k, k < 0 → parseFieldDescriptor (TJx145de k).2.2.1 = some (tyJx145de k) := by decide +kernel
def RJx9f9b0 : String := "java/lang/CharSequence"
def TJx9f9b0 : u_T := fun k => match k with
  | _ => ("", "", "", false)
def tyJx9f9b0 : Nat → FieldType := fun k => match k with
  | _ => .int
abbrev wsJx9f9b00 : List Cond := u_ws RJx9f9b0 TJx9f9b0 0
theorem nmJx9f9b0 : ∀ a, a < 0 → ∀ b, b < 0 → a ≠ b → (TJx9f9b0 a).2.1 ≠ (TJx9f9b0 b).2.1 := by decide +kernel
theorem tyJx9f9b0_ok : ∀ k, k < 0 → parseFieldDescriptor (TJx9f9b0 k).2.2.1 = some (tyJx9f9b0 k) := by decide +kernel
def RJx8e188 : String := "java/lang/Cloneable"
def TJx8e188 : u_T := fun k => match k with
  | _ => ("", "", "", false)
def tyJx8e188 : Nat → FieldType := fun k => match k with
  | _ => .int
abbrev wsJx8e1880 : List Cond := u_ws RJx8e188 TJx8e188 0
theorem nmJx8e188 : ∀ a, a < 0 → ∀ b, b < 0 → a ≠ b → (TJx8e188 a).2.1 ≠ (TJx8e188 b).2.1 := by decide +kernel
theorem tyJx8e188_ok : ∀ k, k < 0 → parseFieldDescriptor (TJx8e188 k).2.2.1 = some (tyJx8e188 k) := by decide +kernel
def RJxb160c : String := "java/lang/Comparable"
def TJxb160c : u_T := fun k => match k with
  | _ => ("", "", "", false)
def tyJxb160c : Nat → FieldType := fun k => match k with
  | _ => .int
abbrev wsJxb160c0 : List Cond := u_ws RJxb160c TJxb160c 0
theorem nmJxb160c : ∀ a, a < 0 → ∀ b, b < 0 → a ≠ b → (TJxb160c a).2.1 ≠ (TJxb160c b).2.1 := by decide +kernel
theorem tyJxb160c_ok : ∀ k, k < 0 → parseFieldDescriptor (TJxb160c k).2.2.1 = some (tyJxb160c k) := by decide +kernel
def RJ9 : String := "java/lang/Math"
def TJ9 : u_T := fun k => match k with
  | _ => ("", "", "", false)
def tyJ9 : Nat → FieldType := fun k => match k with
  | _ => .int
abbrev wsJ90 : List Cond := u_ws RJ9 TJ9 0
theorem nmJ9 : ∀ a, a < 0 → ∀ b, b < 0 → a ≠ b → (TJ9 a).2.1 ≠ (TJ9 b).2.1 := by decide +kernel
theorem tyJ9_ok : ∀ k, k < 0 → parseFieldDescriptor (TJ9 k).2.2.1 = some (tyJ9 k) := by decide +kernel
abbrev cJ9_floorDiv_7cf53 : ByteArray := prog_13_method_47_code
def yJ9_floorDiv_7cf53 : MethodName := ⟨RJ9, "floorDiv", "(II)I"⟩
abbrev cJ9_floorMod_7cf53 : ByteArray := prog_13_method_50_code
def yJ9_floorMod_7cf53 : MethodName := ⟨RJ9, "floorMod", "(II)I"⟩
abbrev cJ9_abs_0f7a4 : ByteArray := prog_13_method_59_code
def yJ9_abs_0f7a4 : MethodName := ⟨RJ9, "abs", "(I)I"⟩
abbrev cJ9_max_7cf53 : ByteArray := prog_13_method_65_code
def yJ9_max_7cf53 : MethodName := ⟨RJ9, "max", "(II)I"⟩
abbrev cJ9_min_7cf53 : ByteArray := prog_13_method_69_code
def yJ9_min_7cf53 : MethodName := ⟨RJ9, "min", "(II)I"⟩
def RJ0 : String := "java/lang/String"
def TJ0 : u_T := fun k => match k with
  | _ => ("", "", "", false)
def tyJ0 : Nat → FieldType := fun k => match k with
  | _ => .int
abbrev wsJ00 : List Cond := u_ws RJ0 TJ0 0
theorem nmJ0 : ∀ a, a < 0 → ∀ b, b < 0 → a ≠ b → (TJ0 a).2.1 ≠ (TJ0 b).2.1 := by decide +kernel
theorem tyJ0_ok : ∀ k, k < 0 → parseFieldDescriptor (TJ0 k).2.2.1 = some (tyJ0 k) := by decide +kernel
abbrev cJ0_length_8abf5 : ByteArray := prog_14_method_54_code
def yJ0_length_8abf5 : MethodName := ⟨RJ0, "length", "()I"⟩
abbrev cJ0_charAt_5068e : ByteArray := prog_14_method_56_code
def yJ0_charAt_5068e : MethodName := ⟨RJ0, "charAt", "(I)C"⟩
abbrev cJ0_coder_7d493 : ByteArray := prog_14_method_152_code
def yJ0_coder_7d493 : MethodName := ⟨RJ0, "coder", "()B"⟩
abbrev cJ0_isLatin1_aae02 : ByteArray := prog_14_method_154_code
def yJ0_isLatin1_aae02 : MethodName := ⟨RJ0, "isLatin1", "()Z"⟩
abbrev cJ0_checkIndex_df160 : ByteArray := prog_14_method_155_code
def yJ0_checkIndex_df160 : MethodName := ⟨RJ0, "checkIndex", "(II)V"⟩
def RJ1 : String := "java/lang/StringLatin1"
def TJ1 : u_T := fun k => match k with
  | _ => ("", "", "", false)
def tyJ1 : Nat → FieldType := fun k => match k with
  | _ => .int
abbrev wsJ10 : List Cond := u_ws RJ1 TJ1 0
theorem nmJ1 : ∀ a, a < 0 → ∀ b, b < 0 → a ≠ b → (TJ1 a).2.1 ≠ (TJ1 b).2.1 := by decide +kernel
theorem tyJ1_ok : ∀ k, k < 0 → parseFieldDescriptor (TJ1 k).2.2.1 = some (tyJ1 k) := by decide +kernel
abbrev cJ1_charAt_3b067 : ByteArray := prog_15_method_2_code
def yJ1_charAt_3b067 : MethodName := ⟨RJ1, "charAt", "([BI)C"⟩
def RJ2 : String := "java/lang/StringUTF16"
def TJ2 : u_T := fun k => match k with
  | _ => ("", "", "", false)
def tyJ2 : Nat → FieldType := fun k => match k with
  | _ => .int
abbrev wsJ20 : List Cond := u_ws RJ2 TJ2 0
theorem nmJ2 : ∀ a, a < 0 → ∀ b, b < 0 → a ≠ b → (TJ2 a).2.1 ≠ (TJ2 b).2.1 := by decide +kernel
theorem tyJ2_ok : ∀ k, k < 0 → parseFieldDescriptor (TJ2 k).2.2.1 = some (tyJ2 k) := by decide +kernel
abbrev cJ2_getChar_3b067 : ByteArray := prog_16_method_5_code
def yJ2_getChar_3b067 : MethodName := ⟨RJ2, "getChar", "([BI)C"⟩
abbrev cJ2_length_9d52b : ByteArray := prog_16_method_6_code
def yJ2_length_9d52b : MethodName := ⟨RJ2, "length", "([B)I"⟩
abbrev cJ2_charAt_3b067 : ByteArray := prog_16_method_83_code
def yJ2_charAt_3b067 : MethodName := ⟨RJ2, "charAt", "([BI)C"⟩
abbrev cJ2_checkIndex_2214a : ByteArray := prog_16_method_91_code
def yJ2_checkIndex_2214a : MethodName := ⟨RJ2, "checkIndex", "(I[B)V"⟩
def RJ10 : String := "java/lang/System"
def TJ10 : u_T := fun k => match k with
  | _ => ("", "", "", false)
def tyJ10 : Nat → FieldType := fun k => match k with
  | _ => .int
abbrev wsJ100 : List Cond := u_ws RJ10 TJ10 0
theorem nmJ10 : ∀ a, a < 0 → ∀ b, b < 0 → a ≠ b → (TJ10 a).2.1 ≠ (TJ10 b).2.1 := by decide +kernel
theorem tyJ10_ok : ∀ k, k < 0 → parseFieldDescriptor (TJ10 k).2.2.1 = some (tyJ10 k) := by decide +kernel
def RJxfd54e : String := "java/lang/constant/Constable"
def TJxfd54e : u_T := fun k => match k with
  | _ => ("", "", "", false)
def tyJxfd54e : Nat → FieldType := fun k => match k with
  | _ => .int
abbrev wsJxfd54e0 : List Cond := u_ws RJxfd54e TJxfd54e 0
theorem nmJxfd54e : ∀ a, a < 0 → ∀ b, b < 0 → a ≠ b → (TJxfd54e a).2.1 ≠ (TJxfd54e b).2.1 := by decide +kernel
theorem tyJxfd54e_ok : ∀ k, k < 0 → parseFieldDescriptor (TJxfd54e k).2.2.1 = some (tyJxfd54e k) := by decide +kernel
def RJx3cf43 : String := "java/lang/constant/ConstantDesc"
def TJx3cf43 : u_T := fun k => match k with
  | _ => ("", "", "", false)
def tyJx3cf43 : Nat → FieldType := fun k => match k with
  | _ => .int
abbrev wsJx3cf430 : List Cond := u_ws RJx3cf43 TJx3cf43 0
theorem nmJx3cf43 : ∀ a, a < 0 → ∀ b, b < 0 → a ≠ b → (TJx3cf43 a).2.1 ≠ (TJx3cf43 b).2.1 := by decide +kernel
theorem tyJx3cf43_ok : ∀ k, k < 0 → parseFieldDescriptor (TJx3cf43 k).2.2.1 = some (tyJx3cf43 k) := by decide +kernel
def RJ7 : String := "java/util/Arrays"
def TJ7 : u_T := fun k => match k with
  | _ => ("", "", "", false)
def tyJ7 : Nat → FieldType := fun k => match k with
  | _ => .int
abbrev wsJ70 : List Cond := u_ws RJ7 TJ7 0
theorem nmJ7 : ∀ a, a < 0 → ∀ b, b < 0 → a ≠ b → (TJ7 a).2.1 ≠ (TJ7 b).2.1 := by decide +kernel
theorem tyJ7_ok : ∀ k, k < 0 → parseFieldDescriptor (TJ7 k).2.2.1 = some (tyJ7 k) := by decide +kernel
abbrev cJ7_fill_53178 : ByteArray := prog_18_method_103_code
def yJ7_fill_53178 : MethodName := ⟨RJ7, "fill", "([II)V"⟩
abbrev cJ7_copyOf_59c91 : ByteArray := prog_18_method_123_code
def yJ7_copyOf_59c91 : MethodName := ⟨RJ7, "copyOf", "([II)[I"⟩
def RJ3 : String := "jdk/internal/util/Preconditions"
def TJ3 : u_T := fun k => match k with
  | _ => ("", "", "", false)
def tyJ3 : Nat → FieldType := fun k => match k with
  | _ => .int
abbrev wsJ30 : List Cond := u_ws RJ3 TJ3 0
theorem nmJ3 : ∀ a, a < 0 → ∀ b, b < 0 → a ≠ b → (TJ3 a).2.1 ≠ (TJ3 b).2.1 := by decide +kernel
theorem tyJ3_ok : ∀ k, k < 0 → parseFieldDescriptor (TJ3 k).2.2.1 = some (tyJ3 k) := by decide +kernel
abbrev cJ3_checkIndex_8e157 : ByteArray := prog_19_method_11_code
def yJ3_checkIndex_8e157 : MethodName := ⟨RJ3, "checkIndex", "(IILjava/util/function/BiFunction;)I"⟩
def RL : String := "NumberedSparksLaw"
abbrev cL_law : ByteArray := code
def yL_law : MethodName := ⟨RL, "law", "([I)Z"⟩
end
section
/-! ===== AM: an abstract memory of numbered cells, the machine's heap as its picture ===== -/
abbrev am_M : Type := Nat × Nat × (Nat → Nat × Nat) × (Nat → Nat → Int32) × (Nat → Nat → Int64) × (Nat → Nat → Option Nat)
abbrev am_R : Type := Option (Option Value × am_M)
def mNx (M : am_M) : Nat := M.1
def mUs (M : am_M) : Nat := M.2.1
def mSh (M : am_M) (a : Nat) : Nat × Nat := M.2.2.1 a
def mKd (M : am_M) (a : Nat) : Nat := if a < mNx M then (mSh M a).1 else 999
def mLn (M : am_M) (a : Nat) : Nat := (mSh M a).2
def rI (M : am_M) (a k : Nat) : Int32 := M.2.2.2.1 a k
def rL (M : am_M) (a k : Nat) : Int64 := M.2.2.2.2.1 a k
def rR (M : am_M) (a k : Nat) : Option Nat := M.2.2.2.2.2 a k
def am_up {α : Type} (f : Nat → Nat → α) (a k : Nat) (v : α) : Nat → Nat → α := fun b j => if b = a ∧ j = k then v else f b j
def wI (M : am_M) (a k : Nat) (v : Int32) : am_M := (M.1, M.2.1, M.2.2.1, am_up M.2.2.2.1 a k v, M.2.2.2.2.1, M.2.2.2.2.2)
def wL (M : am_M) (a k : Nat) (v : Int64) : am_M := (M.1, M.2.1, M.2.2.1, M.2.2.2.1, am_up M.2.2.2.2.1 a k v, M.2.2.2.2.2)
def wR (M : am_M) (a k : Nat) (v : Option Nat) : am_M := (M.1, M.2.1, M.2.2.1, M.2.2.2.1, M.2.2.2.2.1, am_up M.2.2.2.2.2 a k v)
def mkC (M : am_M) (t n : Nat) : am_M := (M.1 + 1, M.2.1 + n, fun b => if b = M.1 then (t, n) else M.2.2.1 b, fun b j => if b = M.1 then 0 else M.2.2.2.1 b j, fun b j => if b = M.1 then 0 else M.2.2.2.2.1 b j, fun b j => if b = M.1 then none else M.2.2.2.2.2 b j)
def cpI (M : am_M) (a0 sp a1 dp n : Nat) : am_M := (M.1, M.2.1, M.2.2.1, fun b => if b = a1 then va_cpy (M.2.2.2.1 a0) (M.2.2.2.1 a1) sp dp n else M.2.2.2.1 b, M.2.2.2.2.1, M.2.2.2.2.2)
/-! reading behind writing -/
theorem rI_wI (M : am_M) (a k : Nat) (v : Int32) (b j : Nat) : rI (wI M a k v) b j = if b = a ∧ j = k then v else rI M b j := rfl
theorem rL_wL (M : am_M) (a k : Nat) (v : Int64) (b j : Nat) : rL (wL M a k v) b j = if b = a ∧ j = k then v else rL M b j := rfl
theorem rR_wR (M : am_M) (a k : Nat) (v : Option Nat) (b j : Nat) : rR (wR M a k v) b j = if b = a ∧ j = k then v else rR M b j := rfl
theorem rL_wI (M : am_M) (a k : Nat) (v : Int32) (b j : Nat) : rL (wI M a k v) b j = rL M b j := rfl
theorem rR_wI (M : am_M) (a k : Nat) (v : Int32) (b j : Nat) : rR (wI M a k v) b j = rR M b j := rfl
theorem rI_wL (M : am_M) (a k : Nat) (v : Int64) (b j : Nat) : rI (wL M a k v) b j = rI M b j := rfl
theorem rR_wL (M : am_M) (a k : Nat) (v : Int64) (b j : Nat) : rR (wL M a k v) b j = rR M b j := rfl
theorem rI_wR (M : am_M) (a k : Nat) (v : Option Nat) (b j : Nat) : rI (wR M a k v) b j = rI M b j := rfl
theorem rL_wR (M : am_M) (a k : Nat) (v : Option Nat) (b j : Nat) : rL (wR M a k v) b j = rL M b j := rfl
theorem mKd_wI (M : am_M) (a k : Nat) (v : Int32) (b : Nat) : mKd (wI M a k v) b = mKd M b := rfl
theorem mKd_wL (M : am_M) (a k : Nat) (v : Int64) (b : Nat) : mKd (wL M a k v) b = mKd M b := rfl
theorem mKd_wR (M : am_M) (a k : Nat) (v : Option Nat) (b : Nat) : mKd (wR M a k v) b = mKd M b := rfl
theorem mLn_wI (M : am_M) (a k : Nat) (v : Int32) (b : Nat) : mLn (wI M a k v) b = mLn M b := rfl
theorem mLn_wL (M : am_M) (a k : Nat) (v : Int64) (b : Nat) : mLn (wL M a k v) b = mLn M b := rfl
theorem mLn_wR (M : am_M) (a k : Nat) (v : Option Nat) (b : Nat) : mLn (wR M a k v) b = mLn M b := rfl
theorem mNx_wI (M : am_M) (a k : Nat) (v : Int32) : mNx (wI M a k v) = mNx M := rfl
theorem mNx_wL (M : am_M) (a k : Nat) (v : Int64) : mNx (wL M a k v) = mNx M := rfl
theorem mNx_wR (M : am_M) (a k : Nat) (v : Option Nat) : mNx (wR M a k v) = mNx M := rfl
theorem mUs_wI (M : am_M) (a k : Nat) (v : Int32) : mUs (wI M a k v) = mUs M := rfl
theorem mUs_wL (M : am_M) (a k : Nat) (v : Int64) : mUs (wL M a k v) = mUs M := rfl
theorem mUs_wR (M : am_M) (a k : Nat) (v : Option Nat) : mUs (wR M a k v) = mUs M := rfl
theorem mNx_mkC (M : am_M) (t n : Nat) : mNx (mkC M t n) = mNx M + 1 := rfl
theorem mUs_mkC (M : am_M) (t n : Nat) : mUs (mkC M t n) = mUs M + n := rfl
theorem rI_mkC (M : am_M) (t n b j : Nat) : rI (mkC M t n) b j = if b = mNx M then 0 else rI M b j := rfl
theorem rL_mkC (M : am_M) (t n b j : Nat) : rL (mkC M t n) b j = if b = mNx M then 0 else rL M b j := rfl
theorem rR_mkC (M : am_M) (t n b j : Nat) : rR (mkC M t n) b j = if b = mNx M then none else rR M b j := rfl
theorem mLn_mkC (M : am_M) (t n b : Nat) : mLn (mkC M t n) b = if b = mNx M then n else mLn M b := by
  unfold mLn mSh mkC mNx
  by_cases h : b = M.1 <;> simp [h]
theorem mKd_mkC (M : am_M) (t n b : Nat) : mKd (mkC M t n) b = if b = mNx M then t else mKd M b := by
  unfold mKd
  rw [mNx_mkC]
  by_cases h : b = mNx M
  · subst h
    simp [mSh, mkC, mNx]
  · by_cases h2 : b < mNx M
    · rw [if_pos (by omega), if_neg h, if_pos h2]
      show (if b = M.1 then (t, n) else M.2.2.1 b).1 = (M.2.2.1 b).1
      rw [if_neg (show ¬ b = M.1 from h)]
    · rw [if_neg (by omega), if_neg h, if_neg h2]
theorem mKd_cpI (M : am_M) (a0 sp a1 dp n b : Nat) : mKd (cpI M a0 sp a1 dp n) b = mKd M b := rfl
theorem mLn_cpI (M : am_M) (a0 sp a1 dp n b : Nat) : mLn (cpI M a0 sp a1 dp n) b = mLn M b := rfl
theorem mNx_cpI (M : am_M) (a0 sp a1 dp n : Nat) : mNx (cpI M a0 sp a1 dp n) = mNx M := rfl
theorem mUs_cpI (M : am_M) (a0 sp a1 dp n : Nat) : mUs (cpI M a0 sp a1 dp n) = mUs M := rfl
theorem rL_cpI (M : am_M) (a0 sp a1 dp n b j : Nat) : rL (cpI M a0 sp a1 dp n) b j = rL M b j := rfl
theorem rR_cpI (M : am_M) (a0 sp a1 dp n b j : Nat) : rR (cpI M a0 sp a1 dp n) b j = rR M b j := rfl
theorem rI_cpI (M : am_M) (a0 sp a1 dp n b j : Nat) : rI (cpI M a0 sp a1 dp n) b j = if b = a1 ∧ dp ≤ j ∧ j < dp + n then rI M a0 (sp + (j - dp)) else rI M b j := by
  unfold rI cpI va_cpy
  by_cases h : b = a1
  · subst h
    by_cases h2 : dp ≤ j ∧ j < dp + n <;> simp [h2]
  · simp [h]
/-! the steps that a walked method is printed in -/
def nm {α β : Type} (x : α) (f : α → β) : β := f x
def fI (M : am_M) (a t k : Nat) (f : Int32 → am_R) : am_R := if mKd M a = t then f (rI M a k) else none
def fL (M : am_M) (a t k : Nat) (f : Int64 → am_R) : am_R := if mKd M a = t then f (rL M a k) else none
def fR (M : am_M) (a t k : Nat) (f : Nat → am_R) : am_R := if mKd M a = t then (match rR M a k with | some b => f b | none => none) else none
def sI (M : am_M) (a t k : Nat) (v : Int32) (f : am_M → am_R) : am_R := if mKd M a = t then f (wI M a k v) else none
def sR (M : am_M) (a t k v : Nat) (f : am_M → am_R) : am_R := if mKd M a = t then f (wR M a k (some v)) else none
def aI (M : am_M) (b : Nat) (i : Int32) (f : Int32 → am_R) : am_R := if mKd M b = 0 ∧ ¬ (i < 0 ∨ mLn M b ≤ i.toNatClampNeg) then f (rI M b i.toNatClampNeg) else none
def aL (M : am_M) (b : Nat) (i : Int32) (f : Int64 → am_R) : am_R := if mKd M b = 1 ∧ ¬ (i < 0 ∨ mLn M b ≤ i.toNatClampNeg) then f (rL M b i.toNatClampNeg) else none
def aB (M : am_M) (b : Nat) (i : Int32) (f : Int32 → am_R) : am_R := if mKd M b = 2 ∧ ¬ (i < 0 ∨ mLn M b ≤ i.toNatClampNeg) then f (rI M b i.toNatClampNeg) else none
def aR (M : am_M) (b : Nat) (i : Int32) (f : Nat → am_R) : am_R := if mKd M b = 3 ∧ ¬ (i < 0 ∨ mLn M b ≤ i.toNatClampNeg) then (match rR M b i.toNatClampNeg with | some x => f x | none => none) else none
def tI (M : am_M) (b : Nat) (i v : Int32) (f : am_M → am_R) : am_R := if mKd M b = 0 ∧ ¬ (i < 0 ∨ mLn M b ≤ i.toNatClampNeg) then f (wI M b i.toNatClampNeg v) else none
def tL (M : am_M) (b : Nat) (i : Int32) (v : Int64) (f : am_M → am_R) : am_R := if mKd M b = 1 ∧ ¬ (i < 0 ∨ mLn M b ≤ i.toNatClampNeg) then f (wL M b i.toNatClampNeg v) else none
def tB (M : am_M) (b : Nat) (i v : Int32) (f : am_M → am_R) : am_R := if mKd M b = 2 ∧ ¬ (i < 0 ∨ mLn M b ≤ i.toNatClampNeg) then f (wI M b i.toNatClampNeg v.toInt8.toInt32) else none
def tR (M : am_M) (b : Nat) (i : Int32) (t v : Nat) (f : am_M → am_R) : am_R := if mKd M b = 3 ∧ mKd M v = t ∧ ¬ (i < 0 ∨ mLn M b ≤ i.toNatClampNeg) then f (wR M b i.toNatClampNeg (some v)) else none
def aN (M : am_M) (b : Nat) (f : Int32 → am_R) : am_R := if mKd M b < 4 then f (Int32.ofNat (mLn M b)) else none
def nO (M : am_M) (t n : Nat) (f : Nat → am_M → am_R) : am_R := f (mNx M) (mkC M t n)
def nA (M : am_M) (t : Nat) (n : Int32) (f : Nat → am_M → am_R) : am_R := if ¬ n < 0 ∧ n.toNatClampNeg * 8 ≤ 536870912 then f (mNx M) (mkC M t n.toNatClampNeg) else none
def dZ (y : Int32) (r : am_R) : am_R := if y = 0 then none else r
def dZL (y : Int64) (r : am_R) : am_R := if y = 0 then none else r
def cv (M : am_M) (b t : Nat) (r : am_R) : am_R := if mKd M b = t then r else none
def bV (x : am_R) (f : am_M → am_R) : am_R := match x with
  | some (none, M) => f M
  | _ => none
def bI (x : am_R) (f : Int32 → am_M → am_R) : am_R := match x with
  | some (some (.int r), M) => f r M
  | _ => none
def bL (x : am_R) (f : Int64 → am_M → am_R) : am_R := match x with
  | some (some (.long r), M) => f r M
  | _ => none
def bR (x : am_R) (fn : am_M → am_R) (f : Nat → am_M → am_R) : am_R := match x with
  | some (some .null, M) => fn M
  | some (some (.ref b), M) => f b M
  | _ => none
/-- fuel of loops: more than any loop here needs; nothing unfolds it -/
noncomputable def fu : Nat := Classical.choose (⟨100000000, Nat.le_refl _⟩ : ∃ n : Nat, 100000000 ≤ n)
theorem fu_ge : 100000000 ≤ fu := Classical.choose_spec (⟨100000000, Nat.le_refl _⟩ : ∃ n : Nat, 100000000 ≤ n)
/-! ===== the classes, by their numbers ===== -/
abbrev am_cl : List vw_C := [(RX0, TX0, 4), (RX1, TX1, 13), (RX2, TX2, 4), (RX3, TX3, 2), (RX4, TX4, 9), (RX5, TX5, 8), (RX6, TX6, 10), (RX7, TX7, 9), (RX8, TX8, 11), (RX9, TX9, 42)]
/-- what a field holds: 0 a number of 32 bits, 1 of 64, 2 a reference -/
def am_fts : Nat → List Nat := fun c => match c with
  | 0 => [2, 2, 2, 2]
  | 1 => [2, 2, 0, 2, 2, 2, 2, 2, 2, 2, 2, 2, 0]
  | 2 => [2, 2, 2, 0]
  | 3 => [2, 0]
  | 4 => [2, 0, 0, 2, 0, 0, 0, 0, 0]
  | 5 => [2, 2, 2, 0, 0, 0, 0, 0]
  | 6 => [2, 2, 2, 0, 0, 0, 0, 0, 0, 0]
  | 7 => [2, 2, 2, 2, 2, 2, 0, 0, 0]
  | 8 => [2, 0, 2, 2, 2, 2, 2, 2, 2, 2, 2]
  | 9 => [0, 0, 2, 0, 0, 2, 0, 2, 2, 0, 0, 2, 0, 2, 2, 0, 0, 0, 0, 0, 0, 0, 0, 0, 0, 2, 2, 0, 0, 0, 2, 2, 2, 2, 0, 2, 2, 2, 2, 0, 2, 0]
  | _ => []
def am_ft (c k : Nat) : Nat := (am_fts c).getD k 0
def am_nf (c : Nat) : Nat := (am_fts c).length
end
section
/-! ===== the picture: what the machine's heap holds of a memory ===== -/
abbrev am_G : Type := Nat × va_G × (Nat → ClassId) × (Nat → Value)
def gB (G : am_G) : Nat := G.1
def gD (G : am_G) : va_G := G.2.1
def gC (G : am_G) : Nat → ClassId := G.2.2.1
def gS (G : am_G) : Nat → Value := G.2.2.2
def gA (G : am_G) : Nat → Prop := fun q => gB G ≤ q
def rv (G : am_G) : Value → Value
  | .ref n => .ref (gB G + n)
  | .retAddr k => gS G k
  | v => v
def am_fv (G : am_G) (M : am_M) (n c k : Nat) : Value := match am_ft c k with
  | 0 => .int (rI M n k)
  | 1 => .long (rL M n k)
  | _ => va_rf ((rR M n k).map (gB G + ·))
def am_fs (G : am_G) (M : am_M) (n c : Nat) : List Value := (List.range (am_nf c)).map (am_fv G M n c)
def am_cell (G : am_G) (M : am_M) (n : Nat) : va_E := match mKd M n with
  | 0 => .inl (gC G 0, mLn M n, .inl (rI M n))
  | 1 => .inl (gC G 1, mLn M n, .inr (.inl (rL M n)))
  | 2 => .inl (gC G 2, mLn M n, .inl (rI M n))
  | 3 => .inl (gC G 3, mLn M n, .inr (.inr (.inr (.inr fun j => (rR M n j).map (gB G + ·)))))
  | c + 4 => .inr (c, am_fs G M n c)
def am_wd (G : am_G) (M : am_M) : va_W := (List.range (mNx M)).map fun n => (gB G + n, am_cell G M n)
def am_Hp (G : am_G) (M : am_M) (H : Heap) : Prop := H.size = gB G + mNx M ∧ va_P (gD G) am_cl (am_wd G M) H
theorem wd_at {G : am_G} {M : am_M} {n : Nat} (h : n < mNx M) : (am_wd G M)[n]? = some (gB G + n, am_cell G M n) := by simp [am_wd, h]
theorem wd_of {G : am_G} {M : am_M} {k : Nat} {q : Nat × va_E} (h : (am_wd G M)[k]? = some q) : k < mNx M ∧ q = (gB G + k, am_cell G M k) := by
  have hk : k < mNx M := by
    have := (List.getElem?_eq_some_iff.mp h).1
    simpa [am_wd] using this
  rw [wd_at hk] at h
  exact ⟨hk, (Option.some.inj h).symm⟩
theorem wd_D (G : am_G) (M : am_M) : va_D (gA G) (am_wd G M) := by
  refine ⟨fun i j p q hi hj e => ?_, fun k q hk => ?_⟩
  · obtain ⟨-, rfl⟩ := wd_of hi
    obtain ⟨-, rfl⟩ := wd_of hj
    dsimp only at e
    omega
  · obtain ⟨-, rfl⟩ := wd_of hk
    exact Nat.le_add_right _ _
theorem kd_lt {M : am_M} {a t : Nat} (h : mKd M a = t) (ht : t ≠ 999 := by decide) : a < mNx M := by
  unfold mKd at h
  by_cases hl : a < mNx M
  · exact hl
  · rw [if_neg hl] at h
    exact absurd h.symm ht
theorem wd_set {G : am_G} {M M' : am_M} {n : Nat} {e : va_E} (hx : mNx M' = mNx M) (ho : ∀ j, j ≠ n → am_cell G M' j = am_cell G M j) (he : am_cell G M' n = e) : (am_wd G M).set n (gB G + n, e) = am_wd G M' := by
  apply List.ext_getElem?
  intro j
  rw [List.getElem?_set]
  by_cases hj : n = j
  · subst hj
    rw [if_pos rfl]
    by_cases hn : n < mNx M
    · rw [if_pos (by simpa [am_wd] using hn), wd_at (by rw [hx]; exact hn), he]
    · rw [if_neg (by simpa [am_wd] using hn)]
      exact (List.getElem?_eq_none (by simp [am_wd, hx]; omega)).symm
  · rw [if_neg hj]
    by_cases hn : j < mNx M
    · rw [wd_at hn, wd_at (by rw [hx]; exact hn), ho j (fun q => hj q.symm)]
    · rw [List.getElem?_eq_none (by simp [am_wd]; omega), List.getElem?_eq_none (by simp [am_wd, hx]; omega)]
theorem am_range_set {α : Type} {N k : Nat} {f g : Nat → α} {v : α} (hg : g k = v) (ho : ∀ j, j ≠ k → g j = f j) : ((List.range N).map f).set k v = (List.range N).map g := by
  apply List.ext_getElem?
  intro j
  rw [List.getElem?_set]
  by_cases hj : k = j
  · subst hj
    rw [if_pos rfl]
    by_cases hn : k < N
    · rw [if_pos (by simpa using hn)]
      simp [hn, hg]
    · rw [if_neg (by simpa using hn)]
      exact (List.getElem?_eq_none (by simp; omega)).symm
  · rw [if_neg hj]
    by_cases hn : j < N
    · simp [hn, ho j (fun q => hj q.symm)]
    · rw [List.getElem?_eq_none (by simp; omega), List.getElem?_eq_none (by simp; omega)]
/-! cells behind a write -/
theorem cell_obj {G : am_G} {M : am_M} {a c : Nat} (h : mKd M a = c + 4) : am_cell G M a = .inr (c, am_fs G M a c) := by
  unfold am_cell
  rw [h]
theorem cell_I {G : am_G} {M : am_M} {a : Nat} (h : mKd M a = 0) : am_cell G M a = .inl (gC G 0, mLn M a, .inl (rI M a)) := by
  unfold am_cell
  rw [h]
theorem cell_L {G : am_G} {M : am_M} {a : Nat} (h : mKd M a = 1) : am_cell G M a = .inl (gC G 1, mLn M a, .inr (.inl (rL M a))) := by
  unfold am_cell
  rw [h]
theorem cell_B {G : am_G} {M : am_M} {a : Nat} (h : mKd M a = 2) : am_cell G M a = .inl (gC G 2, mLn M a, .inl (rI M a)) := by
  unfold am_cell
  rw [h]
theorem cell_R {G : am_G} {M : am_M} {a : Nat} (h : mKd M a = 3) : am_cell G M a = .inl (gC G 3, mLn M a, .inr (.inr (.inr (.inr fun j => (rR M a j).map (gB G + ·))))) := by
  unfold am_cell
  rw [h]
theorem cell_same {G : am_G} {M M' : am_M} {j : Nat} (hk : mKd M' j = mKd M j) (hl : mLn M' j = mLn M j) (h1 : rI M' j = rI M j) (h2 : rL M' j = rL M j) (h3 : rR M' j = rR M j) : am_cell G M' j = am_cell G M j := by
  unfold am_cell am_fs am_fv
  rw [hk, hl, h1, h2, h3]
theorem rI_wI_ne {M : am_M} {a k : Nat} {v : Int32} {b : Nat} (h : b ≠ a) : rI (wI M a k v) b = rI M b := by
  funext j
  rw [rI_wI, if_neg (fun q => h q.1)]
theorem rL_wL_ne {M : am_M} {a k : Nat} {v : Int64} {b : Nat} (h : b ≠ a) : rL (wL M a k v) b = rL M b := by
  funext j
  rw [rL_wL, if_neg (fun q => h q.1)]
theorem rR_wR_ne {M : am_M} {a k : Nat} {v : Option Nat} {b : Nat} (h : b ≠ a) : rR (wR M a k v) b = rR M b := by
  funext j
  rw [rR_wR, if_neg (fun q => h q.1)]
theorem cell_wI {G : am_G} {M : am_M} {a k : Nat} {v : Int32} {j : Nat} (h : j ≠ a) : am_cell G (wI M a k v) j = am_cell G M j := cell_same rfl rfl (rI_wI_ne h) rfl rfl
theorem cell_wL {G : am_G} {M : am_M} {a k : Nat} {v : Int64} {j : Nat} (h : j ≠ a) : am_cell G (wL M a k v) j = am_cell G M j := cell_same rfl rfl rfl (rL_wL_ne h) rfl
theorem cell_wR {G : am_G} {M : am_M} {a k : Nat} {v : Option Nat} {j : Nat} (h : j ≠ a) : am_cell G (wR M a k v) j = am_cell G M j := cell_same rfl rfl rfl rfl (rR_wR_ne h)
theorem fv_I {G : am_G} {M : am_M} {n c k : Nat} (h : am_ft c k = 0) : am_fv G M n c k = .int (rI M n k) := by
  unfold am_fv
  rw [h]
  rfl
theorem fv_R {G : am_G} {M : am_M} {n c k : Nat} (h : am_ft c k = 2) : am_fv G M n c k = va_rf ((rR M n k).map (gB G + ·)) := by
  unfold am_fv
  rw [h]
  rfl
theorem fs_at {G : am_G} {M : am_M} {n c k : Nat} (h : k < am_nf c) : (am_fs G M n c)[k]? = some (am_fv G M n c k) := by simp [am_fs, h]
theorem fs_wI {G : am_G} {M : am_M} {a c k : Nat} {v : Int32} (h : am_ft c k = 0) : (am_fs G M a c).set k (.int v) = am_fs G (wI M a k v) a c := by
  refine am_range_set ?_ (fun j hj => ?_)
  · rw [fv_I h, rI_wI, if_pos ⟨rfl, rfl⟩]
  · unfold am_fv
    rw [rI_wI, if_neg (fun q => hj q.2)]
    rfl
theorem fs_wR {G : am_G} {M : am_M} {a c k b : Nat} (h : am_ft c k = 2) : (am_fs G M a c).set k (.ref (gB G + b)) = am_fs G (wR M a k (some b)) a c := by
  refine am_range_set ?_ (fun j hj => ?_)
  · rw [fv_R h, rR_wR, if_pos ⟨rfl, rfl⟩]
    rfl
  · unfold am_fv
    rw [rR_wR, if_neg (fun q => hj q.2)]
    rfl
theorem upd_wI {M : am_M} {a k : Nat} {v : Int32} : upd (rI M a) k v = rI (wI M a k v) a := by
  funext j
  rw [rI_wI]
  unfold upd
  by_cases h : j = k <;> simp [h]
theorem upd_wL {M : am_M} {a k : Nat} {v : Int64} : vp_updL (rL M a) k v = rL (wL M a k v) a := by
  funext j
  rw [rL_wL]
  unfold vp_updL
  by_cases h : j = k <;> simp [h]
theorem upd_wR {G : am_G} {M : am_M} {a k b : Nat} : va_up (fun j => (rR M a j).map (gB G + ·)) k (some (gB G + b)) = fun j => (rR (wR M a k (some b)) a j).map (gB G + ·) := by
  funext j
  rw [rR_wR]
  unfold va_up
  by_cases h : j = k <;> simp [h]
/-! a new cell -/
theorem wd_push {G : am_G} {M : am_M} {t n : Nat} : am_wd G (mkC M t n) = am_wd G M ++ [(gB G + mNx M, am_cell G (mkC M t n) (mNx M))] := by
  unfold am_wd
  rw [mNx_mkC, List.range_succ, List.map_append]
  congr 1
  refine List.map_congr_left (fun j hj => ?_)
  have hj : j < mNx M := List.mem_range.mp hj
  have hne : ¬ j = mNx M := Nat.ne_of_lt hj
  rw [cell_same (G := G) (M := M) (M' := mkC M t n) (j := j) ?_ ?_ ?_ ?_ ?_]
  · rw [mKd_mkC, if_neg hne]
  · rw [mLn_mkC, if_neg hne]
  · funext k; rw [rI_mkC, if_neg hne]
  · funext k; rw [rL_mkC, if_neg hne]
  · funext k; rw [rR_mkC, if_neg hne]
theorem am_Hp.push {G : am_G} {M : am_M} {H H1 : Heap} {t n : Nat} (h : am_Hp G M H) (hz : H1.size = H.size + 1) (ho : ∀ q : Nat, q < H.size → H1[q]? = H[q]?) (hc : va_at (gD G) am_cl (gB G + mNx M, am_cell G (mkC M t n) (mNx M)) H1) : am_Hp G (mkC M t n) H1 := by
  refine ⟨by rw [hz, h.1, mNx_mkC]; omega, ?_⟩
  rw [wd_push]
  refine va_P.app (fun k q hk => (h.2 k q hk).kept (ho _ ((h.2 k q hk).lt))) (fun k q hk => ?_)
  have hk0 : k < 1 := (List.getElem?_eq_some_iff.mp hk).1
  rw [show k = 0 by omega] at hk
  cases hk
  exact hc
/-- a cell is written: the others stay -/
theorem am_Hp.put {G : am_G} {M M' : am_M} {H H1 : Heap} {n : Nat} {e : va_E} (h : am_Hp G M H) (hx : mNx M' = mNx M) (ho : ∀ j, j ≠ n → am_cell G M' j = am_cell G M j) (he : am_cell G M' n = e) (hz : H1.size = H.size) (hP : va_P (gD G) am_cl ((am_wd G M).set n (gB G + n, e)) H1) : am_Hp G M' H1 := ⟨by rw [hz, h.1, hx], by rw [← wd_set hx ho he]; exact hP⟩
end
section
/-- the String constants: class, place in its pool, text -/
def am_str : List (String × Nat × String) := [("NumberedSparks$Reader", 80, "world"), ("NumberedSparks$Reader", 53, "seed"), ("NumberedSparks$Reader", 62, "kind"), ("NumberedSparks$Reader", 102, "life"), ("NumberedSparks$Reader", 108, "vary"), ("NumberedSparks$Reader", 114, "speed"), ("NumberedSparks$Reader", 132, "falls"), ("NumberedSparks$Reader", 120, "size"), ("NumberedSparks$Reader", 140, "bounce"), ("NumberedSparks$Reader", 142, "ends"), ("NumberedSparks$Reader", 144, "wrap"), ("NumberedSparks$Reader", 125, "childs"), ("NumberedSparks$Reader", 130, "of"), ("NumberedSparks$Reader", 67, "source"), ("NumberedSparks$Reader", 152, "at"), ("NumberedSparks$Reader", 154, "from"), ("NumberedSparks$Reader", 156, "every"), ("NumberedSparks$Reader", 158, "burst"), ("NumberedSparks$Reader", 160, "until"), ("NumberedSparks$Reader", 162, "jitter"), ("NumberedSparksModel", 201, "world"), ("NumberedSparksModel", 203, "seed"), ("NumberedSparksModel", 208, "kind"), ("NumberedSparksModel", 156, "life"), ("NumberedSparksModel", 162, "vary"), ("NumberedSparksModel", 164, "speed"), ("NumberedSparksModel", 165, "falls"), ("NumberedSparksModel", 169, "size"), ("NumberedSparksModel", 170, "wrap"), ("NumberedSparksModel", 172, "bounce"), ("NumberedSparksModel", 174, "ends"), ("NumberedSparksModel", 176, "childs"), ("NumberedSparksModel", 178, "of"), ("NumberedSparksModel", 212, "source"), ("NumberedSparksModel", 183, "at"), ("NumberedSparksModel", 184, "from"), ("NumberedSparksModel", 185, "every"), ("NumberedSparksModel", 187, "burst"), ("NumberedSparksModel", 189, "until"), ("NumberedSparksModel", 191, "jitter")]
/-- their bytes -/
def am_stx : List (List Nat) := [[119, 111, 114, 108, 100], [115, 101, 101, 100], [107, 105, 110, 100], [108, 105, 102, 101], [118, 97, 114, 121], [115, 112, 101, 101, 100], [102, 97, 108, 108, 115], [115, 105, 122, 101], [98, 111, 117, 110, 99, 101], [101, 110, 100, 115], [119, 114, 97, 112], [99, 104, 105, 108, 100, 115], [111, 102], [115, 111, 117, 114, 99, 101], [97, 116], [102, 114, 111, 109], [101, 118, 101, 114, 121], [98, 117, 114, 115, 116], [117, 110, 116, 105, 108], [106, 105, 116, 116, 101, 114], [119, 111, 114, 108, 100], [115, 101, 101, 100], [107, 105, 110, 100], [108, 105, 102, 101], [118, 97, 114, 121], [115, 112, 101, 101, 100], [102, 97, 108, 108, 115], [115, 105, 122, 101], [119, 114, 97, 112], [98, 111, 117, 110, 99, 101], [101, 110, 100, 115], [99, 104, 105, 108, 100, 115], [111, 102], [115, 111, 117, 114, 99, 101], [97, 116], [102, 114, 111, 109], [101, 118, 101, 114, 121], [98, 117, 114, 115, 116], [117, 110, 116, 105, 108], [106, 105, 116, 116, 101, 114]]
def am_sb (k j : Nat) : Int32 := nI ((am_stx.getD k []).getD j 0)
def am_sl (k : Nat) : Nat := (am_stx.getD k []).length
def am_KL : List Int32 := [1, 0, 0, -9, 1]
def am_KM : List Int32 := [40, 20, 20, 9, 9]
/-! ===== what is held of the tables, of constants and statics ===== -/
def am_nest : Cond → Bool
  | .methodLinkNest .. => true
  | _ => false
def am_gw (w : Cond) : Bool := goodWord w || am_nest w
def am_ws : List Cond := lw_tbl.filter am_gw
theorem am_in {w : Cond} (i : Nat) (h : lw_tbl[i]? = some w) (g : am_gw w = true) : w ∈ am_ws := List.mem_filter.mpr ⟨List.mem_of_getElem? h, g⟩
def am_tys (G : am_G) : List (ClassId × FieldType) := [(gC G 0, .int), (gC G 1, .long), (gC G 2, .byte), (gC G 3, .object RX6)]
/-- one String constant -/
def am_S1 (G : am_G) (U : State) (k : Nat) (own : String) (idx : Nat) (tx : String) : Prop := ∃ a v : Nat, gS G (100 + k) = .ref a ∧ gS G (200 + k) = .ref v ∧ vk_R own idx tx a U ∧ va_O "java/lang/String" a (gA G) U U.heap ∧ va_OF "java/lang/String" "coder" "B" (.int 0) a (gA G) U U.heap ∧ va_OF "java/lang/String" "value" "[B" (.ref v) a (gA G) U U.heap ∧ va_T .byte v (am_sl k) (fun j => .int (am_sb k j)) (gA G) U U.heap
def am_Sp (G : am_G) (U : State) : Prop :=
  (∀ (k : Nat) (own : String) (idx : Nat) (tx : String), am_str[k]? = some (own, idx, tx) → am_S1 G U k own idx tx) ∧
  (∃ a : Nat, gS G 2 = .ref a ∧ va_Z "NumberedSparks" "KIND_LEAST" "[I" (.ref a) (gA G) U U.heap ∧ va_T .int a 5 (fun j => .int (am_KL.getD j 0)) (gA G) U U.heap) ∧
  (∃ a : Nat, gS G 3 = .ref a ∧ va_Z "NumberedSparks" "KIND_MOST" "[I" (.ref a) (gA G) U U.heap ∧ va_T .int a 5 (fun j => .int (am_KM.getD j 0)) (gA G) U U.heap) ∧
  va_Z "java/lang/String" "COMPACT_STRINGS" "Z" (.int 1) (gA G) U U.heap ∧
  va_Z "jdk/internal/util/Preconditions" "SIOOBE_FORMATTER" "Ljava/util/function/BiFunction;" (gS G 4) (gA G) U U.heap ∧
  ∀ k, gS G k = .null ∨ ∃ a : Nat, gS G k = .ref a
def am_Tb (G : am_G) (U : State) : Prop := (∀ w ∈ am_ws, ∀ args : Array Value, w.before args U = true) ∧ va_K (gD G) am_cl (am_tys G) U ∧ va_AO RX6 U ∧ am_Sp G U
theorem am_Sp.moved {G : am_G} {s U : State} (hW : s.WarmedH U.vm) (hq : ∀ a : Nat, a < s.heap.size → ¬ gA G a → U.heap[a]? = s.heap[a]?) (h : am_Sp G s) : am_Sp G U := by
  obtain ⟨h1, ⟨a2, e2, z2, t2⟩, ⟨a3, e3, z3, t3⟩, h4, h5, h6⟩ := h
  refine ⟨fun k own idx tx hk => ?_, ⟨a2, e2, (z2.moved hW.alike).kept hq, (t2.moved hW.alike).kept hq⟩, ⟨a3, e3, (z3.moved hW.alike).kept hq, (t3.moved hW.alike).kept hq⟩, (h4.moved hW.alike).kept hq, (h5.moved hW.alike).kept hq, h6⟩
  obtain ⟨a, v, q1, q2, q3, q4, q5, q6, q7⟩ := h1 k own idx tx hk
  exact ⟨a, v, q1, q2, q3.warm hW, (q4.moved hW.alike).kept hq, (q5.moved hW.alike).kept hq, (q6.moved hW.alike).kept hq, (q7.moved hW.alike).kept hq⟩
theorem am_Tb.moved {G : am_G} {s U : State} (hW : s.WarmedH U.vm) (hq : ∀ a : Nat, a < s.heap.size → ¬ gA G a → U.heap[a]? = s.heap[a]?) (h : am_Tb G s) : am_Tb G U := by
  obtain ⟨h1, h2, h3, h4⟩ := h
  refine ⟨fun w hw args => ?_, va_K.moved hW.alike h2, h3.moved hW.alike, h4.moved hW hq⟩
  have hg : am_gw w = true := (List.mem_filter.mp hw).2
  unfold am_gw at hg
  rcases Bool.or_eq_true _ _ |>.mp hg with hg | hg
  · exact word_at hW (good_of_word hg) (h1 w hw #[])
  · cases w <;> first | exact va_Nw.use rfl (va_Nw.warmM hW (h1 _ hw #[])) | cases hg
theorem rv_cat {G : am_G} {s : State} (h : am_Tb G s) (v : Value) : (rv G v).category = v.category := by
  cases v <;> try rfl
  rename_i k
  rcases h.2.2.2.2.2.2.2.2 k with e | ⟨a, e⟩ <;> simp [rv, e, Value.category]
/-! ===== locals ===== -/
def LV (G : am_G) (nL : Nat) (ls : List Value) (lsR : Array Slot) : Prop := lsR.size = nL ∧ lv_wf lsR ∧ ∀ (i : Nat) (v : Value), ls[i]? = some v → v ≠ .retAddr 0 → lsR[i]? = some (.val (rv G v))
def am_prs (G : am_G) (ls : List Value) : List (Nat × Value) := (List.range ls.length).filterMap fun j => match ls[j]? with
  | some v => if v = .retAddr 0 then none else some (j, rv G v)
  | none => none
theorem prs_mem {G : am_G} {ls : List Value} {j : Nat} {v : Value} (h : ls[j]? = some v) (hv : v ≠ .retAddr 0) : (j, rv G v) ∈ am_prs G ls := by
  refine List.mem_filterMap.mpr ⟨j, List.mem_range.mpr (List.getElem?_eq_some_iff.mp h).1, ?_⟩
  rw [h]
  simp [hv]
theorem prs_of {G : am_G} {ls : List Value} {q : Nat × Value} (h : q ∈ am_prs G ls) : ∃ v, ls[q.1]? = some v ∧ v ≠ .retAddr 0 ∧ q.2 = rv G v := by
  obtain ⟨j, -, hj⟩ := List.mem_filterMap.mp h
  cases hl : ls[j]? with
  | none => rw [hl] at hj; cases hj
  | some v =>
    rw [hl] at hj
    by_cases hv : v = .retAddr 0
    · simp [hv] at hj
    · simp [hv] at hj
      subst hj
      exact ⟨v, hl, hv, rfl⟩
theorem LV.has {G : am_G} {nL : Nat} {ls : List Value} {lsR : Array Slot} (h : LV G nL ls lsR) : lv_has lsR nL (am_prs G ls) := ⟨h.1, h.2.1, fun q hq => by
  obtain ⟨v, h1, h2, h3⟩ := prs_of hq
  rw [h3]
  exact h.2.2 _ _ h1 h2⟩
theorem LV.at {G : am_G} {nL : Nat} {ls : List Value} {lsR : Array Slot} (h : LV G nL ls lsR) {i : Nat} {v : Value} (hi : ls[i]? = some v) (hv : v ≠ .retAddr 0) : lsR[i]? = some (.val (rv G v)) := h.2.2 i v hi hv
def am_clr (ls : List Value) (i : Nat) : List Value := match i with
  | 0 => ls
  | j + 1 => match ls[j]? with
    | some (.long _) => ls.set j (.retAddr 0)
    | some (.double _) => ls.set j (.retAddr 0)
    | _ => ls
def st1 (ls : List Value) (i : Nat) (v : Value) : List Value := (am_clr ls i).set i v
def st2 (ls : List Value) (i : Nat) (v : Value) : List Value := ((am_clr ls i).set i v).set (i + 1) (.retAddr 0)
theorem clr_of {ls : List Value} {i j : Nat} {v : Value} (h : (am_clr ls i)[j]? = some v) (hv : v ≠ .retAddr 0) : ls[j]? = some v ∧ ¬ (j + 1 = i ∧ v.category = 2) := by
  unfold am_clr at h
  split at h
  · exact ⟨h, fun q => by omega⟩
  · rename_i m
    split at h
    · rw [List.getElem?_set] at h
      split at h
      · split at h
        · exact absurd (Option.some.inj h).symm hv
        · cases h
      · rename_i hne
        exact ⟨h, fun q => hne (by omega)⟩
    · rw [List.getElem?_set] at h
      split at h
      · split at h
        · exact absurd (Option.some.inj h).symm hv
        · cases h
      · rename_i hne
        exact ⟨h, fun q => hne (by omega)⟩
    · rename_i h1 h2
      refine ⟨h, fun q => ?_⟩
      have hj : j = m := by omega
      subst hj
      cases v <;> simp [Value.category] at q
      · exact h1 _ h
      · exact h2 _ h
theorem LV.put1 {G : am_G} {s : State} (hT : am_Tb G s) {nL : Nat} {ls : List Value} {lsR lsR' : Array Slot} {i : Nat} {v : Value} (hh : lv_has lsR' nL ((i, rv G v) :: (am_prs G ls).filter (fun q => !(q.1 == i) && !(q.1 + 1 == i && q.2.category == 2)))) : LV G nL (st1 ls i v) lsR' := by
  refine ⟨hh.1, hh.2.1, fun j w hj hw => ?_⟩
  unfold st1 at hj
  rw [List.getElem?_set] at hj
  split at hj
  · split at hj
    · rename_i h1 h2
      subst h1
      cases hj
      exact hh.2.2 (i, rv G v) List.mem_cons_self
    · cases hj
  · rename_i hne
    obtain ⟨h1, h2⟩ := clr_of hj hw
    refine hh.2.2 (j, rv G w) (List.mem_cons_of_mem _ (List.mem_filter.mpr ⟨prs_mem h1 hw, ?_⟩))
    have hji : ¬ j = i := fun q => hne q.symm
    simp only [rv_cat hT]
    simp [hji]
    exact Classical.not_and_iff_not_or_not.mp h2
theorem LV.put2 {G : am_G} {s : State} (hT : am_Tb G s) {nL : Nat} {ls : List Value} {lsR lsR' : Array Slot} {i : Nat} {v : Value} (hh : lv_has lsR' nL ((i, rv G v) :: (am_prs G ls).filter (fun q => !(q.1 == i) && (!(q.1 == i + 1) && !(q.1 + 1 == i && q.2.category == 2))))) : LV G nL (st2 ls i v) lsR' := by
  refine ⟨hh.1, hh.2.1, fun j w hj hw => ?_⟩
  unfold st2 at hj
  rw [List.getElem?_set] at hj
  split at hj
  · split at hj
    · exact absurd (Option.some.inj hj).symm hw
    · cases hj
  · rename_i hne2
    rw [List.getElem?_set] at hj
    split at hj
    · split at hj
      · rename_i h1 h2
        subst h1
        cases hj
        exact hh.2.2 (i, rv G v) List.mem_cons_self
      · cases hj
    · rename_i hne
      obtain ⟨h1, h2⟩ := clr_of hj hw
      refine hh.2.2 (j, rv G w) (List.mem_cons_of_mem _ (List.mem_filter.mpr ⟨prs_mem h1 hw, ?_⟩))
      have hji : ¬ j = i := fun q => hne q.symm
      have hji2 : ¬ j = i + 1 := fun q => hne2 q.symm
      simp only [rv_cat hT]
      simp [hji, hji2]
      exact Classical.not_and_iff_not_or_not.mp h2
/-- fewer locals known -/
def msk : List Bool → List Value → List Value
  | b :: bs, v :: vs => (if b then v else .retAddr 0) :: msk bs vs
  | _, _ => []
theorem msk_of : ∀ {bs : List Bool} {ls : List Value} {i : Nat} {v : Value}, (msk bs ls)[i]? = some v → v ≠ .retAddr 0 → ls[i]? = some v
  | [], ls, i, v, h, _ => by simp [msk] at h
  | b :: bs, [], i, v, h, _ => by simp [msk] at h
  | b :: bs, x :: vs, 0, v, h, hv => by
    cases b
    · simp [msk] at h
      exact absurd h.symm hv
    · simpa [msk] using h
  | b :: bs, x :: vs, i + 1, v, h, hv => by
    simp [msk] at h ⊢
    exact msk_of h hv
theorem LV.msk {G : am_G} {nL : Nat} {ls : List Value} {lsR : Array Slot} (bs : List Bool) (h : LV G nL ls lsR) : LV G nL (msk bs ls) lsR := ⟨h.1, h.2.1, fun i v hi hv => h.2.2 i v (msk_of hi hv) hv⟩
def am_ini1 : List Value → List Value
  | [] => []
  | v :: vs => if v.category = 2 then v :: .retAddr 0 :: am_ini1 vs else v :: am_ini1 vs
def am_ini (n : Nat) (vs : List Value) : List Value := am_ini1 vs ++ List.replicate (n - (am_ini1 vs).length) (.retAddr 0)
theorem ini_sl {G : am_G} {s : State} (hT : am_Tb G s) : ∀ (vs : List Value) (i : Nat) (v : Value), (am_ini1 vs)[i]? = some v → v ≠ .retAddr 0 → (lg_sl (vs.map (rv G)))[i]? = some (.val (rv G v))
  | [], i, v, h, _ => by simp [am_ini1] at h
  | w :: vs, i, v, h, hv => by
    unfold am_ini1 at h
    have hc : (rv G w).category = w.category := rv_cat hT w
    have e : lg_sl ((w :: vs).map (rv G)) = (if w.category = 2 then [.val (rv G w), .second] else [.val (rv G w)]) ++ lg_sl (vs.map (rv G)) := by
      simp [lg_sl, hc]
    rw [e]
    by_cases h2 : w.category = 2
    · rw [if_pos h2] at h ⊢
      match i, h with
      | 0, h => simp at h; subst h; rfl
      | 1, h => simp at h; exact absurd h.symm hv
      | j + 2, h =>
        simp at h
        simpa using ini_sl hT vs j v h hv
    · rw [if_neg h2] at h ⊢
      match i, h with
      | 0, h => simp at h; subst h; rfl
      | j + 1, h =>
        simp at h
        simpa using ini_sl hT vs j v h hv
theorem LV.ini {G : am_G} {s : State} (hT : am_Tb G s) {n : Nat} {vs : List Value} (hn : (lg_sl (vs.map (rv G))).length ≤ n) : LV G n (am_ini n vs) ((lg_sl (vs.map (rv G)) ++ List.replicate (n - (lg_sl (vs.map (rv G))).length) Slot.unset).toArray) := by
  have hl := lv_entry (vs.map (rv G)) hn
  refine ⟨hl.1, hl.2.1, fun i v hi hv => ?_⟩
  unfold am_ini at hi
  rw [List.getElem?_append] at hi
  split at hi
  · have h1 := ini_sl hT vs i v hi hv
    rw [List.getElem?_toArray, List.getElem?_append_left (List.getElem?_eq_some_iff.mp h1).1]
    exact h1
  · rw [List.getElem?_replicate] at hi
    split at hi
    · exact absurd (Option.some.inj hi).symm hv
    · cases hi
theorem sl_len {G : am_G} {s : State} (hT : am_Tb G s) : ∀ vs : List Value, (lg_sl (vs.map (rv G))).length = (vs.map Value.category).sum
  | [] => rfl
  | w :: vs => by
    have hc : (rv G w).category = w.category := rv_cat hT w
    have e : lg_sl ((w :: vs).map (rv G)) = (if w.category = 2 then [.val (rv G w), .second] else [.val (rv G w)]) ++ lg_sl (vs.map (rv G)) := by
      simp [lg_sl, hc]
    rw [e, List.length_append, sl_len hT vs, List.map_cons, List.sum_cons]
    rcases lv_cat w with h | h <;> simp [h]
end
section
/-! ===== the judgement: a walked method, as a value ===== -/
/-- a method: its class, its bytes, its locals, what it returns, its name, how many frames it may nest -/
abbrev am_X : Type := String × ByteArray × Nat × Option FieldType × String × Nat
def xO (X : am_X) : String := X.1
def xC (X : am_X) : ByteArray := X.2.1
def xL (X : am_X) : Nat := X.2.2.1
def xT (X : am_X) : Option FieldType := X.2.2.2.1
def xN (X : am_X) : String := X.2.2.2.2.1
def xD (X : am_X) : Nat := X.2.2.2.2.2
def am_Q (G : am_G) (v : Option Value) (M' : am_M) : Array Value → State → Outcome → State → Prop := fun _ st oc t => oc = .returned (v.map (rv G)) ∧ am_Hp G M' t.heap ∧ va_F (gA G) st t
def am_C (G : am_G) (X : am_X) (p : Program) (R : Room) (s : State) (m : MethodId) (meth : Method) (c : Code) : Prop :=
  p.tables.exec = Jvm.exec ∧ c.code = xC X ∧ c.maxLocals = xL X ∧ meth.sig.returnType = xT X ∧ meth.locks = false ∧ meth.name = xN X ∧ s.vm.findClass (xO X) = some m.cls ∧ xD X ≤ R.frames ∧ 37 * xD X ≤ R.locals ∧ gB G ≤ s.heap.size ∧ am_Tb G s
def Rf (G : am_G) (l : Launch) (X : am_X) (pc : Nat) (ls st : List Value) (M : am_M) (o : am_R) : Prop :=
  ∀ (v : Option Value) (M' : am_M), o = some (v, M') → (mNx M ≤ mNx M' ∧ mUs M ≤ mUs M') ∧
    ∀ (p : Program) (e : Env) (R : Room) (s : State) (m : MethodId) (args : Array Value) (below : List Frame) (meth : Method) (c : Code) (n0 u0 cells slots : Nat) (H : Heap) (locs : List Loc) (lsR : Array Slot),
      am_C G X p R s m meth c → mNx M' ≤ n0 + R.cells → mUs M' ≤ u0 + R.slots → n0 + cells = mNx M → u0 + slots = mUs M → am_Hp G M H → va_S (gA G) s.heap H locs → LV G (xL X) ls lsR →
      W p l e R s m args below meth c H locs cells slots (MQ below (am_Q G v M') args s R.cells R.slots (gA G)) (F0 m pc lsR (st.map (rv G)))
/-- a contract: the method, called with these values over this memory, answers as 'o' says -/
def Ct (G : am_G) (l : Launch) (y : MethodName) (X : am_X) (as : List Value) (M : am_M) (o : am_R) : Prop :=
  ∀ (v : Option Value) (M' : am_M), o = some (v, M') → (mNx M ≤ mNx M' ∧ mUs M ≤ mUs M') ∧
    Met l y [.code y (xC X) (xL X) (xT X)] { frames := xD X, cells := mNx M' - mNx M, slots := mUs M' - mUs M, locals := 37 * xD X } (va_Pc (as.map (rv G)) (fun U => am_Hp G M U.heap ∧ am_Tb G U)) (am_Q G v M') (mNx M' - mNx M) (mUs M' - mUs M) (gA G)
section RfRows
variable {G : am_G} {l : Launch} {X : am_X} {pc : Nat} {ls st : List Value} {M : am_M} {o : am_R}
theorem Rf.no : Rf G l X pc ls st M none := fun v M' h => by cases h
theorem Rf.nm {α : Type} {x : α} {f : α → am_R} (k : ∀ x, Rf G l X pc ls st M (f x)) : Rf G l X pc ls st M (nm x f) := k x
theorem Rf.msk (bs : List Bool) (k : Rf G l X pc (msk bs ls) st M o) : Rf G l X pc ls st M o := by
  intro v M' ho
  obtain ⟨hm, k⟩ := k v M' ho
  exact ⟨hm, fun p e R s m args below meth c n0 u0 cells slots H locs lsR hC h1 h2 h3 h4 hH hS hL => k p e R s m args below meth c n0 u0 cells slots H locs lsR hC h1 h2 h3 h4 hH hS (hL.msk bs)⟩
theorem Rf.ite {c : Prop} [Decidable c] {A B : am_R} (ka : c → Rf G l X pc ls st M A) (kb : ¬ c → Rf G l X pc ls st M B) : Rf G l X pc ls st M (if c then A else B) := by
  by_cases h : c
  · rw [if_pos h]; exact ka h
  · rw [if_neg h]; exact kb h
/-- a step that moves nothing but the frame -/
theorem Rf.go {pc' : Nat} {st' : List Value}
    (h : ∀ (p : Program) (e : Env) (R : Room) (s : State) (m : MethodId) (args : Array Value) (below : List Frame) (meth : Method) (c : Code) (cells slots : Nat) (H : Heap) (locs : List Loc) (lsR : Array Slot) (Q : State → Prop), am_C G X p R s m meth c → LV G (xL X) ls lsR → W p l e R s m args below meth c H locs cells slots Q (F0 m pc' lsR (st'.map (rv G))) → W p l e R s m args below meth c H locs cells slots Q (F0 m pc lsR (st.map (rv G))))
    (k : Rf G l X pc' ls st' M o) : Rf G l X pc ls st M o := by
  intro v M' ho
  obtain ⟨hm, k⟩ := k v M' ho
  exact ⟨hm, fun p e R s m args below meth c n0 u0 cells slots H locs lsR hC h1 h2 h3 h4 hH hS hL => h p e R s m args below meth c cells slots H locs lsR _ hC hL (k p e R s m args below meth c n0 u0 cells slots H locs lsR hC h1 h2 h3 h4 hH hS hL)⟩
/-- a step that moves the locals -/
theorem Rf.gol {pc' : Nat} {ls' st' : List Value}
    (h : ∀ (p : Program) (e : Env) (R : Room) (s : State) (m : MethodId) (args : Array Value) (below : List Frame) (meth : Method) (c : Code) (cells slots : Nat) (H : Heap) (locs : List Loc) (lsR : Array Slot) (Q : State → Prop), am_C G X p R s m meth c → LV G (xL X) ls lsR → (∀ lsR', LV G (xL X) ls' lsR' → W p l e R s m args below meth c H locs cells slots Q (F0 m pc' lsR' (st'.map (rv G)))) → W p l e R s m args below meth c H locs cells slots Q (F0 m pc lsR (st.map (rv G))))
    (k : Rf G l X pc' ls' st' M o) : Rf G l X pc ls st M o := by
  intro v M' ho
  obtain ⟨hm, k⟩ := k v M' ho
  exact ⟨hm, fun p e R s m args below meth c n0 u0 cells slots H locs lsR hC h1 h2 h3 h4 hH hS hL => h p e R s m args below meth c cells slots H locs lsR _ hC hL (fun lsR' hL' => k p e R s m args below meth c n0 u0 cells slots H locs lsR' hC h1 h2 h3 h4 hH hS hL')⟩
variable {x y : Int32} {xl yl : Int64} {i : Nat}
theorem r_iconst {n : Int} (hd : decode (xC X) pc = .ok (.iconst n, 1)) (v : Int32) (hv : Int32.ofInt n = v) (k : Rf G l X (pc + 1) ls (.int v :: st) M o) : Rf G l X pc ls st M o := Rf.go (fun p e R s m args below meth c cells slots H locs lsR Q hC hL k => lv_iconst hC.1 hC.2.1 hd hv k) k
theorem r_bipush {n : Int} (hd : decode (xC X) pc = .ok (.bipush n, 2)) (v : Int32) (hv : (Int8.ofInt n).toInt32 = v) (k : Rf G l X (pc + 2) ls (.int v :: st) M o) : Rf G l X pc ls st M o := Rf.go (fun p e R s m args below meth c cells slots H locs lsR Q hC hL k => lv_bipush hC.1 hC.2.1 hd hv k) k
theorem r_sipush {n : Int} (hd : decode (xC X) pc = .ok (.sipush n, 3)) (v : Int32) (hv : (Int16.ofInt n).toInt32 = v) (k : Rf G l X (pc + 3) ls (.int v :: st) M o) : Rf G l X pc ls st M o := Rf.go (fun p e R s m args below meth c cells slots H locs lsR Q hC hL k => lv_sipush hC.1 hC.2.1 hd hv k) k
theorem r_lconst {n : Fin 2} (hd : decode (xC X) pc = .ok (.lconst n, 1)) (v : Int64) (hv : Int64.ofNat (n : Nat) = v) (k : Rf G l X (pc + 1) ls (.long v :: st) M o) : Rf G l X pc ls st M o := Rf.go (fun p e R s m args below meth c cells slots H locs lsR Q hC hL k => lv_lconst hC.1 hC.2.1 hd hv k) k
theorem r_null (hd : decode (xC X) pc = .ok (.aconst_null, 1)) (k : Rf G l X (pc + 1) ls (.null :: st) M o) : Rf G l X pc ls st M o := Rf.go (fun p e R s m args below meth c cells slots H locs lsR Q hC hL k => lv_null hC.1 hC.2.1 hd k) k
theorem r_ldc {idx : Nat} (hd : decode (xC X) pc = .ok (.ldc idx, 2)) (v : Int32) (hw : Cond.constant (xO X) idx v ∈ am_ws) (k : Rf G l X (pc + 2) ls (.int v :: st) M o) : Rf G l X pc ls st M o := Rf.go (fun p e R s m args below meth c cells slots H locs lsR Q hC hL k => lv_ldc hC.1 hC.2.1 hC.2.2.2.2.2.2.1 (hC.2.2.2.2.2.2.2.2.2.2.1 _ hw _) hd k) k
theorem r_ldc2 {idx : Nat} (hd : decode (xC X) pc = .ok (.ldc2_w idx, 3)) (v : Int64) (hw : Cond.constantLong (xO X) idx v ∈ am_ws) (k : Rf G l X (pc + 3) ls (.long v :: st) M o) : Rf G l X pc ls st M o := Rf.go (fun p e R s m args below meth c cells slots H locs lsR Q hC hL k => lv_ldc2 hC.1 hC.2.1 hC.2.2.2.2.2.2.1 (hC.2.2.2.2.2.2.2.2.2.2.1 _ hw _) hd k) k
theorem r_iload (hd : decode (xC X) pc = .ok (.iload i, 2)) (hl : ls[i]? = some (.int x)) (k : Rf G l X (pc + 2) ls (.int x :: st) M o) : Rf G l X pc ls st M o := Rf.go (fun p e R s m args below meth c cells slots H locs lsR Q hC hL k => lv_iload hC.1 hC.2.1 hd (hL.at hl (fun h => by cases h)) k) k
theorem r_iload_n {j : Fin 4} (hd : decode (xC X) pc = .ok (.iload_n j, 1)) (hl : ls[(j : Nat)]? = some (.int x)) (k : Rf G l X (pc + 1) ls (.int x :: st) M o) : Rf G l X pc ls st M o := Rf.go (fun p e R s m args below meth c cells slots H locs lsR Q hC hL k => lv_iload_n hC.1 hC.2.1 hd rfl (hL.at hl (fun h => by cases h)) k) k
theorem r_lload (hd : decode (xC X) pc = .ok (.lload i, 2)) (hl : ls[i]? = some (.long xl)) (k : Rf G l X (pc + 2) ls (.long xl :: st) M o) : Rf G l X pc ls st M o := Rf.go (fun p e R s m args below meth c cells slots H locs lsR Q hC hL k => lv_lload hC.1 hC.2.1 hd (hL.at hl (fun h => by cases h)) k) k
theorem r_lload_n {j : Fin 4} (hd : decode (xC X) pc = .ok (.lload_n j, 1)) (hl : ls[(j : Nat)]? = some (.long xl)) (k : Rf G l X (pc + 1) ls (.long xl :: st) M o) : Rf G l X pc ls st M o := Rf.go (fun p e R s m args below meth c cells slots H locs lsR Q hC hL k => lv_lload_n hC.1 hC.2.1 hd rfl (hL.at hl (fun h => by cases h)) k) k
theorem r_aload {a : Nat} (hd : decode (xC X) pc = .ok (.aload i, 2)) (hl : ls[i]? = some (.ref a)) (k : Rf G l X (pc + 2) ls (.ref a :: st) M o) : Rf G l X pc ls st M o := Rf.go (fun p e R s m args below meth c cells slots H locs lsR Q hC hL k => lv_aload hC.1 hC.2.1 hd (hL.at hl (fun h => by cases h)) k) k
theorem r_aload_n {a : Nat} {j : Fin 4} (hd : decode (xC X) pc = .ok (.aload_n j, 1)) (hl : ls[(j : Nat)]? = some (.ref a)) (k : Rf G l X (pc + 1) ls (.ref a :: st) M o) : Rf G l X pc ls st M o := Rf.go (fun p e R s m args below meth c cells slots H locs lsR Q hC hL k => lv_aload_n hC.1 hC.2.1 hd rfl (hL.at hl (fun h => by cases h)) k) k
theorem r_aload_N {j : Fin 4} (hd : decode (xC X) pc = .ok (.aload_n j, 1)) (hl : ls[(j : Nat)]? = some .null) (k : Rf G l X (pc + 1) ls (.null :: st) M o) : Rf G l X pc ls st M o := Rf.go (fun p e R s m args below meth c cells slots H locs lsR Q hC hL k => lv_aload_nN hC.1 hC.2.1 hd rfl (hL.at hl (fun h => by cases h)) k) k
theorem r_aloadN (hd : decode (xC X) pc = .ok (.aload i, 2)) (hl : ls[i]? = some .null) (k : Rf G l X (pc + 2) ls (.null :: st) M o) : Rf G l X pc ls st M o := Rf.go (fun p e R s m args below meth c cells slots H locs lsR Q hC hL k => lv_aloadN hC.1 hC.2.1 hd (hL.at hl (fun h => by cases h)) k) k
theorem r_aload_s {a : Nat} {j : Fin 4} (hd : decode (xC X) pc = .ok (.aload_n j, 1)) (hl : ls[(j : Nat)]? = some (.retAddr a)) (ha : a ≠ 0) (k : Rf G l X (pc + 1) ls (.retAddr a :: st) M o) : Rf G l X pc ls st M o := Rf.go (fun p e R s m args below meth c cells slots H locs lsR Q hC hL k => by
  have h1 := hL.at hl (fun h => by cases h; exact ha rfl)
  have h2 : rv G (.retAddr a) = gS G a := rfl
  rw [h2] at h1
  rw [List.map_cons, h2] at k
  rcases hC.2.2.2.2.2.2.2.2.2.2.2.2.2.2.2.2.2.2 a with q | ⟨b, q⟩
  · rw [q] at h1 k
    exact lv_aload_nN hC.1 hC.2.1 hd rfl h1 k
  · rw [q] at h1 k
    exact lv_aload_n hC.1 hC.2.1 hd rfl h1 k) k
theorem r_istore {ls' : List Value} (hd : decode (xC X) pc = .ok (.istore i, 2)) (hi : i < xL X) (hs : st1 ls i (.int x) = ls') (k : Rf G l X (pc + 2) ls' st M o) : Rf G l X pc ls (.int x :: st) M o := Rf.gol (fun p e R s m args below meth c cells slots H locs lsR Q hC hL k => lv_istore hC.1 hC.2.1 hd hL.has hi rfl (fun lsR' h => k lsR' (hs ▸ LV.put1 (lsR := lsR) hC.2.2.2.2.2.2.2.2.2.2 h))) k
theorem r_istore_n {ls' : List Value} {j : Fin 4} (hd : decode (xC X) pc = .ok (.istore_n j, 1)) (hi : (j : Nat) < xL X) (hs : st1 ls j (.int x) = ls') (k : Rf G l X (pc + 1) ls' st M o) : Rf G l X pc ls (.int x :: st) M o := Rf.gol (fun p e R s m args below meth c cells slots H locs lsR Q hC hL k => lv_istore_n hC.1 hC.2.1 hd rfl hL.has hi rfl (fun lsR' h => k lsR' (hs ▸ LV.put1 (lsR := lsR) hC.2.2.2.2.2.2.2.2.2.2 h))) k
theorem r_lstore {ls' : List Value} (hd : decode (xC X) pc = .ok (.lstore i, 2)) (hi : i + 1 < xL X) (hs : st2 ls i (.long xl) = ls') (k : Rf G l X (pc + 2) ls' st M o) : Rf G l X pc ls (.long xl :: st) M o := Rf.gol (fun p e R s m args below meth c cells slots H locs lsR Q hC hL k => lv_lstore hC.1 hC.2.1 hd hL.has hi rfl (fun lsR' h => k lsR' (hs ▸ LV.put2 (lsR := lsR) hC.2.2.2.2.2.2.2.2.2.2 h))) k
theorem r_lstore_n {ls' : List Value} {j : Fin 4} (hd : decode (xC X) pc = .ok (.lstore_n j, 1)) (hi : (j : Nat) + 1 < xL X) (hs : st2 ls j (.long xl) = ls') (k : Rf G l X (pc + 1) ls' st M o) : Rf G l X pc ls (.long xl :: st) M o := Rf.gol (fun p e R s m args below meth c cells slots H locs lsR Q hC hL k => lv_lstore_n hC.1 hC.2.1 hd rfl hL.has hi rfl (fun lsR' h => k lsR' (hs ▸ LV.put2 (lsR := lsR) hC.2.2.2.2.2.2.2.2.2.2 h))) k
theorem r_astore {ls' : List Value} {a : Nat} (hd : decode (xC X) pc = .ok (.astore i, 2)) (hi : i < xL X) (hs : st1 ls i (.ref a) = ls') (k : Rf G l X (pc + 2) ls' st M o) : Rf G l X pc ls (.ref a :: st) M o := Rf.gol (fun p e R s m args below meth c cells slots H locs lsR Q hC hL k => lv_astore hC.1 hC.2.1 hd hL.has hi rfl (fun lsR' h => k lsR' (hs ▸ LV.put1 (lsR := lsR) hC.2.2.2.2.2.2.2.2.2.2 h))) k
theorem r_astore_n {ls' : List Value} {a : Nat} {j : Fin 4} (hd : decode (xC X) pc = .ok (.astore_n j, 1)) (hi : (j : Nat) < xL X) (hs : st1 ls j (.ref a) = ls') (k : Rf G l X (pc + 1) ls' st M o) : Rf G l X pc ls (.ref a :: st) M o := Rf.gol (fun p e R s m args below meth c cells slots H locs lsR Q hC hL k => lv_astore_n hC.1 hC.2.1 hd rfl hL.has hi rfl (fun lsR' h => k lsR' (hs ▸ LV.put1 (lsR := lsR) hC.2.2.2.2.2.2.2.2.2.2 h))) k
theorem r_astoreN {ls' : List Value} (hd : decode (xC X) pc = .ok (.astore i, 2)) (hi : i < xL X) (hs : st1 ls i .null = ls') (k : Rf G l X (pc + 2) ls' st M o) : Rf G l X pc ls (.null :: st) M o := Rf.gol (fun p e R s m args below meth c cells slots H locs lsR Q hC hL k => lv_astoreN hC.1 hC.2.1 hd hL.has hi rfl (fun lsR' h => k lsR' (hs ▸ LV.put1 (lsR := lsR) hC.2.2.2.2.2.2.2.2.2.2 h))) k
theorem r_astore_N {ls' : List Value} {j : Fin 4} (hd : decode (xC X) pc = .ok (.astore_n j, 1)) (hi : (j : Nat) < xL X) (hs : st1 ls j .null = ls') (k : Rf G l X (pc + 1) ls' st M o) : Rf G l X pc ls (.null :: st) M o := Rf.gol (fun p e R s m args below meth c cells slots H locs lsR Q hC hL k => lv_astore_nN hC.1 hC.2.1 hd rfl hL.has hi rfl (fun lsR' h => k lsR' (hs ▸ LV.put1 (lsR := lsR) hC.2.2.2.2.2.2.2.2.2.2 h))) k
theorem r_iinc {ls' : List Value} {n : Int} (hd : decode (xC X) pc = .ok (.iinc i n, 3)) (hi : i < xL X) (hl : ls[i]? = some (.int x)) (hv : x + Int32.ofInt n = y) (hs : st1 ls i (.int y) = ls') (k : Rf G l X (pc + 3) ls' st M o) : Rf G l X pc ls st M o := Rf.gol (fun p e R s m args below meth c cells slots H locs lsR Q hC hL k => by
  obtain ⟨q, hq⟩ := List.getElem?_of_mem (prs_mem (G := G) hl (fun h => by cases h))
  exact lv_iinc hC.1 hC.2.1 hd hL.has (k := q) hq hv hi rfl (fun lsR' h => k lsR' (hs ▸ LV.put1 (lsR := lsR) (v := .int y) hC.2.2.2.2.2.2.2.2.2.2 h))) k
theorem r_iadd (hd : decode (xC X) pc = .ok (.iadd, 1)) (k : Rf G l X (pc + 1) ls (.int (x + y) :: st) M o) : Rf G l X pc ls (.int y :: .int x :: st) M o := Rf.go (fun p e R s m args below meth c cells slots H locs lsR Q hC hL k => lv_iadd hC.1 hC.2.1 hd k) k
theorem r_isub (hd : decode (xC X) pc = .ok (.isub, 1)) (k : Rf G l X (pc + 1) ls (.int (x - y) :: st) M o) : Rf G l X pc ls (.int y :: .int x :: st) M o := Rf.go (fun p e R s m args below meth c cells slots H locs lsR Q hC hL k => lv_isub hC.1 hC.2.1 hd k) k
theorem r_imul (hd : decode (xC X) pc = .ok (.imul, 1)) (k : Rf G l X (pc + 1) ls (.int (x * y) :: st) M o) : Rf G l X pc ls (.int y :: .int x :: st) M o := Rf.go (fun p e R s m args below meth c cells slots H locs lsR Q hC hL k => lv_imul hC.1 hC.2.1 hd k) k
theorem r_iand (hd : decode (xC X) pc = .ok (.iand, 1)) (k : Rf G l X (pc + 1) ls (.int (x &&& y) :: st) M o) : Rf G l X pc ls (.int y :: .int x :: st) M o := Rf.go (fun p e R s m args below meth c cells slots H locs lsR Q hC hL k => lv_iand hC.1 hC.2.1 hd k) k
theorem r_ior (hd : decode (xC X) pc = .ok (.ior, 1)) (k : Rf G l X (pc + 1) ls (.int (x ||| y) :: st) M o) : Rf G l X pc ls (.int y :: .int x :: st) M o := Rf.go (fun p e R s m args below meth c cells slots H locs lsR Q hC hL k => lv_ior hC.1 hC.2.1 hd k) k
theorem r_ixor (hd : decode (xC X) pc = .ok (.ixor, 1)) (k : Rf G l X (pc + 1) ls (.int (x ^^^ y) :: st) M o) : Rf G l X pc ls (.int y :: .int x :: st) M o := Rf.go (fun p e R s m args below meth c cells slots H locs lsR Q hC hL k => lv_ixor hC.1 hC.2.1 hd k) k
theorem r_ishl (hd : decode (xC X) pc = .ok (.ishl, 1)) (k : Rf G l X (pc + 1) ls (.int (x <<< (y &&& 31)) :: st) M o) : Rf G l X pc ls (.int y :: .int x :: st) M o := Rf.go (fun p e R s m args below meth c cells slots H locs lsR Q hC hL k => lv_ishl hC.1 hC.2.1 hd k) k
theorem r_ishr (hd : decode (xC X) pc = .ok (.ishr, 1)) (k : Rf G l X (pc + 1) ls (.int (x >>> (y &&& 31)) :: st) M o) : Rf G l X pc ls (.int y :: .int x :: st) M o := Rf.go (fun p e R s m args below meth c cells slots H locs lsR Q hC hL k => lv_ishr hC.1 hC.2.1 hd k) k
theorem r_iushr (hd : decode (xC X) pc = .ok (.iushr, 1)) (k : Rf G l X (pc + 1) ls (.int ((x.toUInt32 >>> (y.toUInt32 &&& Int32.toUInt32 31)).toInt32) :: st) M o) : Rf G l X pc ls (.int y :: .int x :: st) M o := Rf.go (fun p e R s m args below meth c cells slots H locs lsR Q hC hL k => lv_iushr hC.1 hC.2.1 hd rfl k) k
theorem r_ladd (hd : decode (xC X) pc = .ok (.ladd, 1)) (k : Rf G l X (pc + 1) ls (.long (xl + yl) :: st) M o) : Rf G l X pc ls (.long yl :: .long xl :: st) M o := Rf.go (fun p e R s m args below meth c cells slots H locs lsR Q hC hL k => lv_ladd hC.1 hC.2.1 hd k) k
theorem r_lsub (hd : decode (xC X) pc = .ok (.lsub, 1)) (k : Rf G l X (pc + 1) ls (.long (xl - yl) :: st) M o) : Rf G l X pc ls (.long yl :: .long xl :: st) M o := Rf.go (fun p e R s m args below meth c cells slots H locs lsR Q hC hL k => lv_lsub hC.1 hC.2.1 hd k) k
theorem r_lmul (hd : decode (xC X) pc = .ok (.lmul, 1)) (k : Rf G l X (pc + 1) ls (.long (xl * yl) :: st) M o) : Rf G l X pc ls (.long yl :: .long xl :: st) M o := Rf.go (fun p e R s m args below meth c cells slots H locs lsR Q hC hL k => lv_lmul hC.1 hC.2.1 hd k) k
theorem r_land (hd : decode (xC X) pc = .ok (.land, 1)) (k : Rf G l X (pc + 1) ls (.long (xl &&& yl) :: st) M o) : Rf G l X pc ls (.long yl :: .long xl :: st) M o := Rf.go (fun p e R s m args below meth c cells slots H locs lsR Q hC hL k => lv_land hC.1 hC.2.1 hd k) k
theorem r_lor (hd : decode (xC X) pc = .ok (.lor, 1)) (k : Rf G l X (pc + 1) ls (.long (xl ||| yl) :: st) M o) : Rf G l X pc ls (.long yl :: .long xl :: st) M o := Rf.go (fun p e R s m args below meth c cells slots H locs lsR Q hC hL k => lv_lor hC.1 hC.2.1 hd k) k
theorem r_lxor (hd : decode (xC X) pc = .ok (.lxor, 1)) (k : Rf G l X (pc + 1) ls (.long (xl ^^^ yl) :: st) M o) : Rf G l X pc ls (.long yl :: .long xl :: st) M o := Rf.go (fun p e R s m args below meth c cells slots H locs lsR Q hC hL k => lv_lxor hC.1 hC.2.1 hd k) k
theorem r_lushr (hd : decode (xC X) pc = .ok (.lushr, 1)) (k : Rf G l X (pc + 1) ls (.long ((xl.toUInt64 >>> (y.toInt64.toUInt64 &&& Int64.toUInt64 63)).toInt64) :: st) M o) : Rf G l X pc ls (.int y :: .long xl :: st) M o := Rf.go (fun p e R s m args below meth c cells slots H locs lsR Q hC hL k => lv_lushr hC.1 hC.2.1 hd rfl k) k
theorem r_lcmp (hd : decode (xC X) pc = .ok (.lcmp, 1)) (k : Rf G l X (pc + 1) ls (.int (lg_cmp xl yl) :: st) M o) : Rf G l X pc ls (.long yl :: .long xl :: st) M o := Rf.go (fun p e R s m args below meth c cells slots H locs lsR Q hC hL k => W.lcmp hC.1 hC.2.1 hd k) k
theorem r_ineg (hd : decode (xC X) pc = .ok (.ineg, 1)) (k : Rf G l X (pc + 1) ls (.int (-x) :: st) M o) : Rf G l X pc ls (.int x :: st) M o := Rf.go (fun p e R s m args below meth c cells slots H locs lsR Q hC hL k => lv_ineg hC.1 hC.2.1 hd k) k
theorem r_i2l (hd : decode (xC X) pc = .ok (.i2l, 1)) (k : Rf G l X (pc + 1) ls (.long (x.toInt64) :: st) M o) : Rf G l X pc ls (.int x :: st) M o := Rf.go (fun p e R s m args below meth c cells slots H locs lsR Q hC hL k => lv_i2l hC.1 hC.2.1 hd rfl k) k
theorem r_l2i (hd : decode (xC X) pc = .ok (.l2i, 1)) (k : Rf G l X (pc + 1) ls (.int (xl.toInt32) :: st) M o) : Rf G l X pc ls (.long xl :: st) M o := Rf.go (fun p e R s m args below meth c cells slots H locs lsR Q hC hL k => lv_l2i hC.1 hC.2.1 hd rfl k) k
theorem r_i2b (hd : decode (xC X) pc = .ok (.i2b, 1)) (k : Rf G l X (pc + 1) ls (.int (x.toInt8.toInt32) :: st) M o) : Rf G l X pc ls (.int x :: st) M o := Rf.go (fun p e R s m args below meth c cells slots H locs lsR Q hC hL k => lv_i2b hC.1 hC.2.1 hd rfl k) k
end RfRows
end
section
section RfRows
variable {G : am_G} {l : Launch} {X : am_X} {pc : Nat} {ls st : List Value} {M : am_M} {o : am_R} {x y : Int32} {xl yl : Int64} {i : Nat} {A B : am_R}
theorem r_i2c (hd : decode (xC X) pc = .ok (.i2c, 1)) (k : Rf G l X (pc + 1) ls (.int ((x.toUInt32 % 65536).toInt32) :: st) M o) : Rf G l X pc ls (.int x :: st) M o := Rf.go (fun p e R s m args below meth c cells slots H locs lsR Q hC hL k => lv_i2c hC.1 hC.2.1 hd rfl k) k
theorem r_lshl (hd : decode (xC X) pc = .ok (.lshl, 1)) (k : Rf G l X (pc + 1) ls (.long (xl <<< (y.toInt64 &&& 63)) :: st) M o) : Rf G l X pc ls (.int y :: .long xl :: st) M o := Rf.go (fun p e R s m args below meth c cells slots H locs lsR Q hC hL k => lv_lshl hC.1 hC.2.1 hd rfl k) k
theorem r_dup {v : Value} (hd : decode (xC X) pc = .ok (.dup, 1)) (hv : v.category = 1) (k : Rf G l X (pc + 1) ls (v :: v :: st) M o) : Rf G l X pc ls (v :: st) M o := Rf.go (fun p e R s m args below meth c cells slots H locs lsR Q hC hL k => lv_dup hC.1 hC.2.1 hd (by rw [rv_cat hC.2.2.2.2.2.2.2.2.2.2]; exact hv) k) k
theorem r_pop {v : Value} (hd : decode (xC X) pc = .ok (.pop, 1)) (hv : v.category = 1) (k : Rf G l X (pc + 1) ls st M o) : Rf G l X pc ls (v :: st) M o := Rf.go (fun p e R s m args below meth c cells slots H locs lsR Q hC hL k => lv_pop hC.1 hC.2.1 hd (by rw [rv_cat hC.2.2.2.2.2.2.2.2.2.2]; exact hv) k) k
theorem r_dup2 {v w : Value} (hd : decode (xC X) pc = .ok (.dup2, 1)) (hv : v.category = 1) (hw : w.category = 1) (k : Rf G l X (pc + 1) ls (v :: w :: v :: w :: st) M o) : Rf G l X pc ls (v :: w :: st) M o := Rf.go (fun p e R s m args below meth c cells slots H locs lsR Q hC hL k => lv_dup2_11 hC.1 hC.2.1 hd (by rw [rv_cat hC.2.2.2.2.2.2.2.2.2.2]; exact hv) (by rw [rv_cat hC.2.2.2.2.2.2.2.2.2.2]; exact hw) k) k
theorem r_goto {off : Int} {tgt : Nat} (hd : decode (xC X) pc = .ok (.goto off, 3)) (ht : (pc : Int) + off = (tgt : Int)) (k : Rf G l X tgt ls st M o) : Rf G l X pc ls st M o := Rf.go (fun p e R s m args below meth c cells slots H locs lsR Q hC hL k => lv_goto hC.1 hC.2.1 hd ht k) k
theorem r_ifnull {off : Int} {a : Nat} (hd : decode (xC X) pc = .ok (.ifnull off, 3)) (k : Rf G l X (pc + 3) ls st M o) : Rf G l X pc ls (.ref a :: st) M o := Rf.go (fun p e R s m args below meth c cells slots H locs lsR Q hC hL k => lv_ifnull hC.1 hC.2.1 hd k) k
theorem r_ifnullN {off : Int} {tgt : Nat} (hd : decode (xC X) pc = .ok (.ifnull off, 3)) (ht : (pc : Int) + off = (tgt : Int)) (k : Rf G l X tgt ls st M o) : Rf G l X pc ls (.null :: st) M o := Rf.go (fun p e R s m args below meth c cells slots H locs lsR Q hC hL k => lv_ifnullN hC.1 hC.2.1 hd ht k) k
theorem r_ifnonnull {off : Int} {a tgt : Nat} (hd : decode (xC X) pc = .ok (.ifnonnull off, 3)) (ht : (pc : Int) + off = (tgt : Int)) (k : Rf G l X tgt ls st M o) : Rf G l X pc ls (.ref a :: st) M o := Rf.go (fun p e R s m args below meth c cells slots H locs lsR Q hC hL k => lv_ifnonnull hC.1 hC.2.1 hd ht k) k
theorem r_ifnonnullN {off : Int} (hd : decode (xC X) pc = .ok (.ifnonnull off, 3)) (k : Rf G l X (pc + 3) ls st M o) : Rf G l X pc ls (.null :: st) M o := Rf.go (fun p e R s m args below meth c cells slots H locs lsR Q hC hL k => lv_ifnonnullN hC.1 hC.2.1 hd k) k
theorem r_idiv (hd : decode (xC X) pc = .ok (.idiv, 1)) (k : Rf G l X (pc + 1) ls (.int (x / y) :: st) M o) : Rf G l X pc ls (.int y :: .int x :: st) M (dZ y o) := by
  by_cases h : y = 0
  · rw [dZ, if_pos h]; exact Rf.no
  · rw [dZ, if_neg h]; exact Rf.go (fun p e R s m args below meth c cells slots H locs lsR Q hC hL k => lv_idiv hC.1 hC.2.1 hd h k) k
theorem r_irem (hd : decode (xC X) pc = .ok (.irem, 1)) (k : Rf G l X (pc + 1) ls (.int (x - x / y * y) :: st) M o) : Rf G l X pc ls (.int y :: .int x :: st) M (dZ y o) := by
  by_cases h : y = 0
  · rw [dZ, if_pos h]; exact Rf.no
  · rw [dZ, if_neg h]; exact Rf.go (fun p e R s m args below meth c cells slots H locs lsR Q hC hL k => lv_irem hC.1 hC.2.1 hd h k) k
theorem r_ldiv (hd : decode (xC X) pc = .ok (.ldiv, 1)) (k : Rf G l X (pc + 1) ls (.long (xl / yl) :: st) M o) : Rf G l X pc ls (.long yl :: .long xl :: st) M (dZL yl o) := by
  by_cases h : yl = 0
  · rw [dZL, if_pos h]; exact Rf.no
  · rw [dZL, if_neg h]; exact Rf.go (fun p e R s m args below meth c cells slots H locs lsR Q hC hL k => lv_ldiv hC.1 hC.2.1 hd h k) k
theorem r_lrem (hd : decode (xC X) pc = .ok (.lrem, 1)) (k : Rf G l X (pc + 1) ls (.long (xl - xl / yl * yl) :: st) M o) : Rf G l X pc ls (.long yl :: .long xl :: st) M (dZL yl o) := by
  by_cases h : yl = 0
  · rw [dZL, if_pos h]; exact Rf.no
  · rw [dZL, if_neg h]; exact Rf.go (fun p e R s m args below meth c cells slots H locs lsR Q hC hL k => lv_lrem hC.1 hC.2.1 hd h k) k
/-- a divisor that is a number not 0 -/
theorem r_idivk (hd : decode (xC X) pc = .ok (.idiv, 1)) (h : ¬ y = 0) (k : Rf G l X (pc + 1) ls (.int (x / y) :: st) M o) : Rf G l X pc ls (.int y :: .int x :: st) M o := Rf.go (fun p e R s m args below meth c cells slots H locs lsR Q hC hL k => lv_idiv hC.1 hC.2.1 hd h k) k
theorem r_iremk (hd : decode (xC X) pc = .ok (.irem, 1)) (h : ¬ y = 0) (k : Rf G l X (pc + 1) ls (.int (x - x / y * y) :: st) M o) : Rf G l X pc ls (.int y :: .int x :: st) M o := Rf.go (fun p e R s m args below meth c cells slots H locs lsR Q hC hL k => lv_irem hC.1 hC.2.1 hd h k) k
theorem r_ldivk (hd : decode (xC X) pc = .ok (.ldiv, 1)) (h : ¬ yl = 0) (k : Rf G l X (pc + 1) ls (.long (xl / yl) :: st) M o) : Rf G l X pc ls (.long yl :: .long xl :: st) M o := Rf.go (fun p e R s m args below meth c cells slots H locs lsR Q hC hL k => lv_ldiv hC.1 hC.2.1 hd h k) k
theorem Rf.br {c : Prop} [Decidable c] {pc1 pc2 : Nat} {st' : List Value}
    (h : ∀ (p : Program) (e : Env) (R : Room) (s : State) (m : MethodId) (args : Array Value) (below : List Frame) (meth : Method) (c' : Code) (cells slots : Nat) (H : Heap) (locs : List Loc) (lsR : Array Slot) (Q : State → Prop), am_C G X p R s m meth c' → (c → W p l e R s m args below meth c' H locs cells slots Q (F0 m pc1 lsR (st'.map (rv G)))) → (¬ c → W p l e R s m args below meth c' H locs cells slots Q (F0 m pc2 lsR (st'.map (rv G)))) → W p l e R s m args below meth c' H locs cells slots Q (F0 m pc lsR (st.map (rv G))))
    (ka : Rf G l X pc1 ls st' M A) (kb : Rf G l X pc2 ls st' M B) : Rf G l X pc ls st M (if c then A else B) := by
  by_cases hc : c
  · rw [if_pos hc]
    exact Rf.go (fun p e R s m args below meth c cells slots H locs lsR Q hC hL k => h p e R s m args below meth c cells slots H locs lsR Q hC (fun _ => k) (fun q => absurd hc q)) ka
  · rw [if_neg hc]
    exact Rf.go (fun p e R s m args below meth c cells slots H locs lsR Q hC hL k => h p e R s m args below meth c cells slots H locs lsR Q hC (fun q => absurd q hc) (fun _ => k)) kb
theorem r_if_eq {off : Int} {tgt : Nat} (hd : decode (xC X) pc = .ok (.ifCond .eq off, 3)) (ht : (pc : Int) + off = (tgt : Int)) (ka : Rf G l X tgt ls st M A) (kb : Rf G l X (pc + 3) ls st M B) : Rf G l X pc ls (.int x :: st) M (if x = 0 then A else B) := Rf.br (fun p e R s m args below meth c cells slots H locs lsR Q hC ka kb => lv_if_eq hC.1 hC.2.1 hd ht ka kb) ka kb
theorem r_if_lt {off : Int} {tgt : Nat} (hd : decode (xC X) pc = .ok (.ifCond .lt off, 3)) (ht : (pc : Int) + off = (tgt : Int)) (ka : Rf G l X tgt ls st M A) (kb : Rf G l X (pc + 3) ls st M B) : Rf G l X pc ls (.int x :: st) M (if x < 0 then A else B) := Rf.br (fun p e R s m args below meth c cells slots H locs lsR Q hC ka kb => lv_if_lt hC.1 hC.2.1 hd ht ka kb) ka kb
theorem r_if_ge {off : Int} {tgt : Nat} (hd : decode (xC X) pc = .ok (.ifCond .ge off, 3)) (ht : (pc : Int) + off = (tgt : Int)) (ka : Rf G l X tgt ls st M A) (kb : Rf G l X (pc + 3) ls st M B) : Rf G l X pc ls (.int x :: st) M (if 0 ≤ x then A else B) := Rf.br (fun p e R s m args below meth c cells slots H locs lsR Q hC ka kb => lv_if_ge hC.1 hC.2.1 hd ht ka kb) ka kb
theorem r_if_gt {off : Int} {tgt : Nat} (hd : decode (xC X) pc = .ok (.ifCond .gt off, 3)) (ht : (pc : Int) + off = (tgt : Int)) (ka : Rf G l X tgt ls st M A) (kb : Rf G l X (pc + 3) ls st M B) : Rf G l X pc ls (.int x :: st) M (if 0 < x then A else B) := Rf.br (fun p e R s m args below meth c cells slots H locs lsR Q hC ka kb => lv_if_gt hC.1 hC.2.1 hd ht ka kb) ka kb
theorem r_if_le {off : Int} {tgt : Nat} (hd : decode (xC X) pc = .ok (.ifCond .le off, 3)) (ht : (pc : Int) + off = (tgt : Int)) (ka : Rf G l X tgt ls st M A) (kb : Rf G l X (pc + 3) ls st M B) : Rf G l X pc ls (.int x :: st) M (if x ≤ 0 then A else B) := Rf.br (fun p e R s m args below meth c cells slots H locs lsR Q hC ka kb => lv_if_le hC.1 hC.2.1 hd ht ka kb) ka kb
theorem r_if_ne {off : Int} {tgt : Nat} (hd : decode (xC X) pc = .ok (.ifCond .ne off, 3)) (ht : (pc : Int) + off = (tgt : Int)) (ka : Rf G l X (pc + 3) ls st M A) (kb : Rf G l X tgt ls st M B) : Rf G l X pc ls (.int x :: st) M (if x = 0 then A else B) := Rf.br (fun p e R s m args below meth c cells slots H locs lsR Q hC ka kb => lv_if_ne hC.1 hC.2.1 hd ht kb ka) ka kb
theorem r_icmp_eq {off : Int} {tgt : Nat} (hd : decode (xC X) pc = .ok (.if_icmp .eq off, 3)) (ht : (pc : Int) + off = (tgt : Int)) (ka : Rf G l X tgt ls st M A) (kb : Rf G l X (pc + 3) ls st M B) : Rf G l X pc ls (.int y :: .int x :: st) M (if x = y then A else B) := Rf.br (fun p e R s m args below meth c cells slots H locs lsR Q hC ka kb => lv_icmp_eq hC.1 hC.2.1 hd ht ka kb) ka kb
theorem r_icmp_lt {off : Int} {tgt : Nat} (hd : decode (xC X) pc = .ok (.if_icmp .lt off, 3)) (ht : (pc : Int) + off = (tgt : Int)) (ka : Rf G l X tgt ls st M A) (kb : Rf G l X (pc + 3) ls st M B) : Rf G l X pc ls (.int y :: .int x :: st) M (if x < y then A else B) := Rf.br (fun p e R s m args below meth c cells slots H locs lsR Q hC ka kb => lv_icmp_lt hC.1 hC.2.1 hd ht ka kb) ka kb
theorem r_icmp_ge {off : Int} {tgt : Nat} (hd : decode (xC X) pc = .ok (.if_icmp .ge off, 3)) (ht : (pc : Int) + off = (tgt : Int)) (ka : Rf G l X tgt ls st M A) (kb : Rf G l X (pc + 3) ls st M B) : Rf G l X pc ls (.int y :: .int x :: st) M (if y ≤ x then A else B) := Rf.br (fun p e R s m args below meth c cells slots H locs lsR Q hC ka kb => lv_icmp_ge hC.1 hC.2.1 hd ht ka kb) ka kb
theorem r_icmp_gt {off : Int} {tgt : Nat} (hd : decode (xC X) pc = .ok (.if_icmp .gt off, 3)) (ht : (pc : Int) + off = (tgt : Int)) (ka : Rf G l X tgt ls st M A) (kb : Rf G l X (pc + 3) ls st M B) : Rf G l X pc ls (.int y :: .int x :: st) M (if y < x then A else B) := Rf.br (fun p e R s m args below meth c cells slots H locs lsR Q hC ka kb => lv_icmp_gt hC.1 hC.2.1 hd ht ka kb) ka kb
theorem r_icmp_le {off : Int} {tgt : Nat} (hd : decode (xC X) pc = .ok (.if_icmp .le off, 3)) (ht : (pc : Int) + off = (tgt : Int)) (ka : Rf G l X tgt ls st M A) (kb : Rf G l X (pc + 3) ls st M B) : Rf G l X pc ls (.int y :: .int x :: st) M (if x ≤ y then A else B) := Rf.br (fun p e R s m args below meth c cells slots H locs lsR Q hC ka kb => lv_icmp_le hC.1 hC.2.1 hd ht ka kb) ka kb
theorem r_icmp_ne {off : Int} {tgt : Nat} (hd : decode (xC X) pc = .ok (.if_icmp .ne off, 3)) (ht : (pc : Int) + off = (tgt : Int)) (ka : Rf G l X (pc + 3) ls st M A) (kb : Rf G l X tgt ls st M B) : Rf G l X pc ls (.int y :: .int x :: st) M (if x = y then A else B) := Rf.br (fun p e R s m args below meth c cells slots H locs lsR Q hC ka kb => lv_icmp_ne hC.1 hC.2.1 hd ht kb ka) ka kb
theorem r_tsIn {dflt lo hi off : Int} {offs : Array Int} {len tgt : Nat} (hd : decode (xC X) pc = .ok (.tableswitch dflt lo hi offs, len)) (h1 : ¬ x.toInt < lo) (h2 : ¬ hi < x.toInt) (ho : offs[(x.toInt - lo).toNat]? = some off) (ht : (pc : Int) + off = (tgt : Int)) (k : Rf G l X tgt ls st M o) : Rf G l X pc ls (.int x :: st) M o := Rf.go (fun p e R s m args below meth c cells slots H locs lsR Q hC hL k => lv_tableIn hC.1 hC.2.1 hd h1 h2 ho ht k) k
theorem r_tsOut {dflt lo hi : Int} {offs : Array Int} {len tgt : Nat} (hd : decode (xC X) pc = .ok (.tableswitch dflt lo hi offs, len)) (h : x.toInt < lo ∨ hi < x.toInt) (ht : (pc : Int) + dflt = (tgt : Int)) (k : Rf G l X tgt ls st M o) : Rf G l X pc ls (.int x :: st) M o := Rf.go (fun p e R s m args below meth c cells slots H locs lsR Q hC hL k => lv_tableOut hC.1 hC.2.1 hd h ht k) k
/-! returns -/
theorem Rf.ret {v : Option Value} {st : List Value}
    (h : ∀ (p : Program) (e : Env) (R : Room) (s : State) (m : MethodId) (args : Array Value) (below : List Frame) (meth : Method) (c : Code) (cells slots : Nat) (H : Heap) (locs : List Loc) (lsR : Array Slot) (Qc : Array Value → State → Outcome → State → Prop), am_C G X p R s m meth c → (∀ t : State, t.heap = H → s.WarmedH t.vm → Qc args s (.returned (v.map (rv G))) t) → (∀ q ∈ locs, gA G q.base) → W p l e R s m args below meth c H locs cells slots (MQ below Qc args s cells slots (gA G)) (F0 m pc lsR (st.map (rv G)))) : Rf G l X pc ls st M (some (v, M)) := by
  intro v' M' ho
  cases ho
  refine ⟨⟨Nat.le_refl _, Nat.le_refl _⟩, fun p e R s m args below meth c n0 u0 cells slots H locs lsR hC h1 h2 h3 h4 hH hS hL => ?_⟩
  refine W.widen (k := R.cells) (n := R.slots) (by omega) (by omega) ?_
  exact h p e R s m args below meth c R.cells R.slots H locs lsR _ hC (fun t ht hW => ⟨rfl, by rw [ht]; exact hH, hS.F ht⟩) hS.2.2
theorem r_iret (hd : decode (xC X) pc = .ok (.ireturn, 1)) (hr : xT X = some .int) : Rf G l X pc ls [.int x] M (some (some (.int x), M)) := Rf.ret (fun p e R s m args below meth c cells slots H locs lsR Qc hC hq hf => W.iret hC.1 hC.2.1 (hC.2.2.2.1.trans hr) hq hf hd hC.2.2.2.2.1)
theorem r_zret {ty : FieldType} (hd : decode (xC X) pc = .ok (.ireturn, 1)) (hr : xT X = some ty) (hn : narrow ty (.int x) = .int x) : Rf G l X pc ls [.int x] M (some (some (.int x), M)) := Rf.ret (fun p e R s m args below meth c cells slots H locs lsR Qc hC hq hf => W.zret hC.1 hC.2.1 (hC.2.2.2.1.trans hr) hn hq hf hd hC.2.2.2.2.1)
theorem r_lret (hd : decode (xC X) pc = .ok (.lreturn, 1)) (hr : xT X = some .long) : Rf G l X pc ls [.long xl] M (some (some (.long xl), M)) := Rf.ret (fun p e R s m args below meth c cells slots H locs lsR Qc hC hq hf => W.lret hC.1 hC.2.1 (hC.2.2.2.1.trans hr) hq hf hd hC.2.2.2.2.1)
theorem r_aret {a : Nat} {rt : FieldType} (hd : decode (xC X) pc = .ok (.areturn, 1)) (hr : xT X = some rt) (hrt : (∃ n, rt = .object n) ∨ ∃ t, rt = .array t) : Rf G l X pc ls [.ref a] M (some (some (.ref a), M)) := Rf.ret (fun p e R s m args below meth c cells slots H locs lsR Qc hC hq hf => W.aret hC.1 hC.2.1 (hC.2.2.2.1.trans hr) hrt (Or.inr ⟨_, rfl⟩) hq hf hd hC.2.2.2.2.1)
theorem r_aretN {rt : FieldType} (hd : decode (xC X) pc = .ok (.areturn, 1)) (hr : xT X = some rt) (hrt : (∃ n, rt = .object n) ∨ ∃ t, rt = .array t) : Rf G l X pc ls [.null] M (some (some .null, M)) := Rf.ret (fun p e R s m args below meth c cells slots H locs lsR Qc hC hq hf => W.aret hC.1 hC.2.1 (hC.2.2.2.1.trans hr) hrt (Or.inl rfl) hq hf hd hC.2.2.2.2.1)
theorem r_vret (hd : decode (xC X) pc = .ok (.return_, 1)) (hr : xT X = none) : Rf G l X pc ls [] M (some (none, M)) := Rf.ret (fun p e R s m args below meth c cells slots H locs lsR Qc hC hq hf => W.vret hC.1 hC.2.1 (hC.2.2.2.1.trans hr) hq hf hd hC.2.2.2.2.1)
end RfRows
end
section
/-! ===== rows over the heap ===== -/
def am_dv (c k : Nat) : Value := match am_ft c k with
  | 0 => .int 0
  | 1 => .long 0
  | _ => .null
def am_Cl (c : Nat) (C : String) (T : u_T) (N : Nat) (ty : Nat → FieldType) : Prop :=
  am_cl[c]? = some (C, T, N) ∧ (∀ k, k < N → parseFieldDescriptor (T k).2.2.1 = some (ty k)) ∧ (∀ a, a < N → ∀ b, b < N → a ≠ b → (T a).2.1 ≠ (T b).2.1) ∧ (∀ w ∈ u_ws C T N, w ∈ am_ws) ∧ am_nf c = N ∧ (∀ k, k < N → (T k).1 = C) ∧ ∀ k, k < N → defaultValue (ty k) = am_dv c k
def am_fl (own : String) (idx c k : Nat) (tk : FieldType) (fin : Bool) : Prop := ∃ (C : String) (T : u_T) (N : Nat) (ty : Nat → FieldType), am_Cl c C T N ty ∧ k < N ∧ ty k = tk ∧ (T k).2.2.2 = fin ∧ Cond.fieldLink own idx C (T k).2.1 (T k).2.2.1 ∈ am_ws
theorem cl_lt {c : Nat} {q : vw_C} (h : am_cl[c]? = some q) : c < 10 := (List.getElem?_eq_some_iff.mp h).1
section RfRows
variable {G : am_G} {l : Launch} {X : am_X} {pc : Nat} {ls st : List Value} {M : am_M} {o : am_R} {x y : Int32} {xl yl : Int64} {i : Nat} {A B : am_R}
theorem Rf.goH {pc' : Nat} {st' : List Value}
    (h : ∀ (p : Program) (e : Env) (R : Room) (s : State) (m : MethodId) (args : Array Value) (below : List Frame) (meth : Method) (c : Code) (cells slots : Nat) (H : Heap) (locs : List Loc) (lsR : Array Slot) (Q : State → Prop), am_C G X p R s m meth c → am_Hp G M H → va_S (gA G) s.heap H locs → LV G (xL X) ls lsR → W p l e R s m args below meth c H locs cells slots Q (F0 m pc' lsR (st'.map (rv G))) → W p l e R s m args below meth c H locs cells slots Q (F0 m pc lsR (st.map (rv G))))
    (k : Rf G l X pc' ls st' M o) : Rf G l X pc ls st M o := by
  intro v M' ho
  obtain ⟨hm, k⟩ := k v M' ho
  exact ⟨hm, fun p e R s m args below meth c n0 u0 cells slots H locs lsR hC h1 h2 h3 h4 hH hS hL => h p e R s m args below meth c cells slots H locs lsR _ hC hH hS hL (k p e R s m args below meth c n0 u0 cells slots H locs lsR hC h1 h2 h3 h4 hH hS hL)⟩
theorem Rf.goM {M1 : am_M} {pc' : Nat} {st' : List Value} (hx : mNx M1 = mNx M) (hu : mUs M1 = mUs M)
    (h : ∀ (p : Program) (e : Env) (R : Room) (s : State) (m : MethodId) (args : Array Value) (below : List Frame) (meth : Method) (c : Code) (cells slots : Nat) (H : Heap) (locs : List Loc) (lsR : Array Slot) (Q : State → Prop), am_C G X p R s m meth c → am_Hp G M H → va_S (gA G) s.heap H locs → LV G (xL X) ls lsR → (∀ (H1 : Heap) (locs1 : List Loc), am_Hp G M1 H1 → va_S (gA G) s.heap H1 locs1 → W p l e R s m args below meth c H1 locs1 cells slots Q (F0 m pc' lsR (st'.map (rv G)))) → W p l e R s m args below meth c H locs cells slots Q (F0 m pc lsR (st.map (rv G))))
    (k : Rf G l X pc' ls st' M1 o) : Rf G l X pc ls st M o := by
  intro v M' ho
  obtain ⟨hm, k⟩ := k v M' ho
  rw [hx, hu] at hm
  exact ⟨hm, fun p e R s m args below meth c n0 u0 cells slots H locs lsR hC h1 h2 h3 h4 hH hS hL => h p e R s m args below meth c cells slots H locs lsR _ hC hH hS hL (fun H1 locs1 hH1 hS1 => k p e R s m args below meth c n0 u0 cells slots H1 locs1 lsR hC h1 h2 (by rw [hx]; exact h3) (by rw [hu]; exact h4) hH1 hS1 hL)⟩
theorem Rf.goN {t n pc' : Nat} {st' : List Value}
    (h : ∀ (p : Program) (e : Env) (R : Room) (s : State) (m : MethodId) (args : Array Value) (below : List Frame) (meth : Method) (c : Code) (cells slots : Nat) (H : Heap) (locs : List Loc) (lsR : Array Slot) (Q : State → Prop), am_C G X p R s m meth c → am_Hp G M H → va_S (gA G) s.heap H locs → LV G (xL X) ls lsR → cells + 1 ≤ R.cells → slots + n ≤ R.slots → (∀ (H1 : Heap), am_Hp G (mkC M t n) H1 → va_S (gA G) s.heap H1 locs → W p l e R s m args below meth c H1 locs (cells + 1) (slots + n) Q (F0 m pc' lsR (st'.map (rv G)))) → W p l e R s m args below meth c H locs cells slots Q (F0 m pc lsR (st.map (rv G))))
    (k : Rf G l X pc' ls st' (mkC M t n) o) : Rf G l X pc ls st M o := by
  intro v M' ho
  obtain ⟨hm, k⟩ := k v M' ho
  rw [mNx_mkC, mUs_mkC] at hm
  exact ⟨⟨by omega, by omega⟩, fun p e R s m args below meth c n0 u0 cells slots H locs lsR hC h1 h2 h3 h4 hH hS hL => h p e R s m args below meth c cells slots H locs lsR _ hC hH hS hL (by omega) (by omega) (fun H1 hH1 hS1 => k p e R s m args below meth c n0 u0 (cells + 1) (slots + n) H1 locs lsR hC h1 h2 (by rw [mNx_mkC]; omega) (by rw [mUs_mkC]; omega) hH1 hS1 hL)⟩
/-! fields -/
variable {a b c k idx : Nat} {tk : FieldType} {fin : Bool}
theorem r_fI {f : Int32 → am_R} (hd : decode (xC X) pc = .ok (.getfield idx, 3)) (hf : am_fl (xO X) idx c k tk fin) (ht : am_ft c k = 0) (kk : ∀ x, Rf G l X (pc + 3) ls (.int x :: st) M (f x)) : Rf G l X pc ls (.ref a :: st) M (fI M a (c + 4) k f) := by
  unfold fI
  refine Rf.ite (fun h => ?_) (fun _ => Rf.no)
  obtain ⟨C, T, N, ty, ⟨c1, c2, c3, c4, c5, c6, c7⟩, hk, -, -, hw⟩ := hf
  have hc9 := cl_lt c1
  have ha := kd_lt h (by omega)
  refine Rf.goH (fun p e R s m args below meth cd cells slots H locs lsR Q hC hH hS hL k2 => ?_) (kk (rI M a k))
  exact va_get (Ts := am_ws) hC.1 hC.2.1 (fun w hw => hC.2.2.2.2.2.2.2.2.2.2.1 w hw args) c4 hC.2.2.2.2.2.2.1 hC.2.2.2.2.2.2.2.2.2.2.2.1 hH.2 a (by rw [wd_at ha, cell_obj h]) c1 k hk (hC.2.2.2.2.2.2.2.2.2.2.1 _ hw args) (fun z hz => by rw [c6 k hk] at hz; exact hz) (by rw [fs_at (by omega), fv_I ht]; rfl) hd k2
theorem r_fR {f : Nat → am_R} (hd : decode (xC X) pc = .ok (.getfield idx, 3)) (hf : am_fl (xO X) idx c k tk fin) (ht : am_ft c k = 2) (kk : ∀ b, Rf G l X (pc + 3) ls (.ref b :: st) M (f b)) : Rf G l X pc ls (.ref a :: st) M (fR M a (c + 4) k f) := by
  unfold fR
  refine Rf.ite (fun h => ?_) (fun _ => Rf.no)
  obtain ⟨C, T, N, ty, ⟨c1, c2, c3, c4, c5, c6, c7⟩, hk, -, -, hw⟩ := hf
  have hc9 := cl_lt c1
  have ha := kd_lt h (by omega)
  cases hr : rR M a k with
  | none => exact Rf.no
  | some b =>
    refine Rf.goH (fun p e R s m args below meth cd cells slots H locs lsR Q hC hH hS hL k2 => ?_) (kk b)
    exact va_get (Ts := am_ws) hC.1 hC.2.1 (fun w hw => hC.2.2.2.2.2.2.2.2.2.2.1 w hw args) c4 hC.2.2.2.2.2.2.1 hC.2.2.2.2.2.2.2.2.2.2.2.1 hH.2 a (by rw [wd_at ha, cell_obj h]) c1 k hk (hC.2.2.2.2.2.2.2.2.2.2.1 _ hw args) (fun z hz => by rw [c6 k hk] at hz; exact hz) (by rw [fs_at (by omega), fv_R ht, hr]; rfl) hd k2
/-- a store into a field, by the cell -/
theorem am_putf {p : Program} {e : Env} {R : Room} {s : State} {m : MethodId} {args : Array Value} {below : List Frame} {meth : Method} {cd : Code} {cells slots : Nat} {H : Heap} {locs : List Loc} {lsR : Array Slot} {Q : State → Prop} {M1 : am_M} {v : Value} {rest : List Value} (hC : am_C G X p R s m meth cd) (hH : am_Hp G M H) (hS : va_S (gA G) s.heap H locs) (hd : decode (xC X) pc = .ok (.putfield idx, 3)) (hf : am_fl (xO X) idx c k tk fin) (hfin : fin = false ∨ (xN X = "<init>" ∧ (am_cl.map (fun z => z.1)).getD c "" = xO X)) (h : mKd M a = c + 4) (hn : narrow tk v = v) (hfit : fits tk v = true) (hx : mNx M1 = mNx M) (ho : ∀ j, j ≠ a → am_cell G M1 j = am_cell G M j) (hk1 : mKd M1 a = c + 4) (hset : (am_fs G M a c).set k v = am_fs G M1 a c)
    (kk : ∀ (H1 : Heap) (locs1 : List Loc), am_Hp G M1 H1 → va_S (gA G) s.heap H1 locs1 → W p l e R s m args below meth cd H1 locs1 cells slots Q (F0 m (pc + 3) lsR rest)) : W p l e R s m args below meth cd H locs cells slots Q (F0 m pc lsR (v :: .ref (gB G + a) :: rest)) := by
  obtain ⟨C, T, N, ty, ⟨c1, c2, c3, c4, c5, c6, c7⟩, hk, htk, hfn, hw⟩ := hf
  have hc9 := cl_lt c1
  have ha := kd_lt h (by omega)
  have hts : ∀ w ∈ am_ws, w.before args s = true := fun w hw => hC.2.2.2.2.2.2.2.2.2.2.1 w hw args
  have hK := hC.2.2.2.2.2.2.2.2.2.2.2.1
  have hown := hC.2.2.2.2.2.2.1
  have hlink := hts _ hw
  have he : (am_wd G M)[a]? = some (gB G + a, .inr (c, am_fs G M a c)) := by rw [wd_at ha, cell_obj h]
  have hap := va_apart (own := xO X) hts c4 ty c2 c3 hK c1
  obtain ⟨r, h1, cell, q1, q2, q3, q4⟩ := hH.2 a _ he
  have hr : r = (C, T, N) := Option.some.inj (h1.symm.trans c1)
  subst hr
  obtain ⟨hSl, hfc, kC, hkC, hkind⟩ := hK.1 c _ c1
  obtain ⟨cf, kf, fi, f, hi, hsl⟩ := hSl k hk
  have hi' : s.fieldFound? C (T k).2.1 (T k).2.2.1 = some (cf, kf, fi, f) := by rw [← c6 k hk]; exact hi
  have hlay := hts _ (c4 _ (u_in_lay hk))
  have hd2 : parseFieldDescriptor (T k).2.2.1 = some tk := by rw [← htk]; exact c2 k hk
  have hst := (u_facts hfc hkC (u_lays hts c4 hk) hi).1
  have hl : k < (am_fs G M a c).length := by simp [am_fs]; omega
  have fini : ∀ H' : Heap, H'[gB G + a]? = some (cell.setSlot f.slot v) → H'.size = H.size → (∀ q, q ≠ gB G + a → H'[q]? = H[q]?) → W p l e R s m args below meth cd H' (locs ++ [⟨gB G + a, f.slot⟩]) cells slots Q (F0 m (pc + 3) lsR rest) := by
    intro H' e1 e2 e3
    rw [hsl] at e1 ⊢
    have hP1 := hH.2.set (wd_D G M) (e := .inr (c, (am_fs G M a c).set k v)) he ⟨_, c1, t_OB.to (V := updV (vp_V (am_fs G M a c)) k v) ⟨_, e1, q2, q3, t_set q4 hap hk v⟩ (fun j _ => vp_updV_set hl v j)⟩ e3
    refine kk H' _ (hH.put hx ho (by rw [cell_obj hk1, ← hset]) e2 hP1) (hS.put e2 e3 (Nat.le_add_right _ _))
  by_cases hff : fin = false
  · unfold u_lay at hlay
    rw [if_neg (by rw [hfn, hff]; decide)] at hlay
    have h6 := u_store hfc hkC hkind hlay hi hd2 hn hfit
    exact W.putK hC.1 hC.2.1 (f := f) ⟨hown, hlink, ⟨_, _, _, hi'⟩, hst⟩ (by rw [q2]; exact h6) q1 q3 (by rw [hsl]; exact k2_hasslot (q4 k hk)) rfl rfl hd fini
  · have hft : fin = true := by cases fin <;> simp_all
    obtain ⟨hin2, hdecl⟩ := hfin.resolve_left hff
    have hC' : C = xO X := by
      have h9 : (am_cl.map (fun z => z.1))[c]? = some C := by rw [List.getElem?_map, c1]; rfl
      rw [← hdecl, List.getD_eq_getElem?_getD, h9]
      rfl
    unfold u_lay at hlay
    rw [if_pos (by rw [hfn, hft])] at hlay
    have hcf : m.cls = cf := by
      obtain ⟨_, _, c', _, _, _, -, -, hf', -, -, -, hown2, -⟩ := Cond.laysFinal_spec hlay
      have e1 : c' = cf := by have := hi.symm.trans hf'; simp at this; exact this.1.symm
      rw [c6 k hk, hC'] at hown2
      rw [← e1]; exact Option.some.inj (hown.symm.trans hown2)
    have h6 := u_fits hfc hkC hkind (Or.inr hlay) hi hd2 hn hfit
    exact W.putFinK hC.1 hC.2.1 hown hlink hi' hst hcf (hC.2.2.2.2.2.1.trans hin2) (by rw [q2]; exact h6) q1 q3 (by rw [hsl]; exact k2_hasslot (q4 k hk)) rfl rfl hd fini
theorem r_sI {f : am_M → am_R} (hd : decode (xC X) pc = .ok (.putfield idx, 3)) (hf : am_fl (xO X) idx c k tk false) (ht : am_ft c k = 0) (hn : narrow tk (.int x) = .int x) (hfit : fits tk (.int x) = true) (kk : ∀ M1, Rf G l X (pc + 3) ls st M1 (f M1)) : Rf G l X pc ls (.int x :: .ref a :: st) M (sI M a (c + 4) k x f) := by
  unfold sI
  refine Rf.ite (fun h => ?_) (fun _ => Rf.no)
  refine Rf.goM (M1 := wI M a k x) rfl rfl (fun p e R s m args below meth cd cells slots H locs lsR Q hC hH hS hL k2 => ?_) (kk _)
  exact am_putf (M1 := wI M a k x) (v := .int x) (rest := st.map (rv G)) hC hH hS hd hf (Or.inl rfl) h hn hfit rfl (fun j hj => cell_wI hj) h (fs_wI ht) k2
theorem r_sR {f : am_M → am_R} (hd : decode (xC X) pc = .ok (.putfield idx, 3)) (hf : am_fl (xO X) idx c k tk fin) (ht : am_ft c k = 2) (hfin : fin = false ∨ (xN X = "<init>" ∧ (am_cl.map (fun z => z.1)).getD c "" = xO X)) (hn : ∀ q, narrow tk (.ref q) = .ref q) (hfit : ∀ q, fits tk (.ref q) = true) (kk : ∀ M1, Rf G l X (pc + 3) ls st M1 (f M1)) : Rf G l X pc ls (.ref b :: .ref a :: st) M (sR M a (c + 4) k b f) := by
  unfold sR
  refine Rf.ite (fun h => ?_) (fun _ => Rf.no)
  refine Rf.goM (M1 := wR M a k (some b)) rfl rfl (fun p e R s m args below meth cd cells slots H locs lsR Q hC hH hS hL k2 => ?_) (kk _)
  exact am_putf (M1 := wR M a k (some b)) (v := .ref (gB G + b)) (rest := st.map (rv G)) hC hH hS hd hf hfin h (hn _) (hfit _) rfl (fun j hj => cell_wR hj) h (fs_wR ht) k2
end RfRows
end
section
/-! ===== arrays, new cells, calls ===== -/
section RfRows
variable {G : am_G} {l : Launch} {X : am_X} {pc : Nat} {ls st : List Value} {M : am_M} {o : am_R} {x y : Int32} {xl yl : Int64} {i : Int32} {A B : am_R} {a b c k idx : Nat}
theorem r_aI {f : Int32 → am_R} (hd : decode (xC X) pc = .ok (.iaload, 1)) (kk : ∀ x, Rf G l X (pc + 1) ls (.int x :: st) M (f x)) : Rf G l X pc ls (.int i :: .ref a :: st) M (aI M a i f) := by
  unfold aI
  refine Rf.ite (fun h => ?_) (fun _ => Rf.no)
  refine Rf.goH (fun p e R s m args below meth cd cells slots H locs lsR Q hC hH hS hL k2 => ?_) (kk _)
  exact va_iald hC.1 hC.2.1 hC.2.2.2.2.2.2.2.2.2.2.2.1 hH.2 a 0 (by rw [wd_at (kd_lt h.1), cell_I h.1]) rfl h.2 hd k2
theorem r_aB {f : Int32 → am_R} (hd : decode (xC X) pc = .ok (.baload, 1)) (kk : ∀ x, Rf G l X (pc + 1) ls (.int x :: st) M (f x)) : Rf G l X pc ls (.int i :: .ref a :: st) M (aB M a i f) := by
  unfold aB
  refine Rf.ite (fun h => ?_) (fun _ => Rf.no)
  refine Rf.goH (fun p e R s m args below meth cd cells slots H locs lsR Q hC hH hS hL k2 => ?_) (kk _)
  exact va_bald hC.1 hC.2.1 hC.2.2.2.2.2.2.2.2.2.2.2.1 hH.2 a 2 (by rw [wd_at (kd_lt h.1), cell_B h.1]) rfl h.2 hd k2
theorem r_aL {f : Int64 → am_R} (hd : decode (xC X) pc = .ok (.laload, 1)) (kk : ∀ x, Rf G l X (pc + 1) ls (.long x :: st) M (f x)) : Rf G l X pc ls (.int i :: .ref a :: st) M (aL M a i f) := by
  unfold aL
  refine Rf.ite (fun h => ?_) (fun _ => Rf.no)
  refine Rf.goH (fun p e R s m args below meth cd cells slots H locs lsR Q hC hH hS hL k2 => ?_) (kk _)
  exact va_lald hC.1 hC.2.1 hC.2.2.2.2.2.2.2.2.2.2.2.1 hH.2 a 1 (by rw [wd_at (kd_lt h.1), cell_L h.1]) rfl h.2 hd k2
theorem r_aR {f : Nat → am_R} (hd : decode (xC X) pc = .ok (.aaload, 1)) (kk : ∀ b, Rf G l X (pc + 1) ls (.ref b :: st) M (f b)) : Rf G l X pc ls (.int i :: .ref a :: st) M (aR M a i f) := by
  unfold aR
  refine Rf.ite (fun h => ?_) (fun _ => Rf.no)
  cases hr : rR M a i.toNatClampNeg with
  | none => exact Rf.no
  | some b =>
    refine Rf.goH (fun p e R s m args below meth cd cells slots H locs lsR Q hC hH hS hL k2 => ?_) (kk b)
    refine va_aldq hC.1 hC.2.1 hC.2.2.2.2.2.2.2.2.2.2.2.1 hH.2 a 3 (by rw [wd_at (kd_lt h.1), cell_R h.1]) rfl h.2 hd ?_
    rw [hr]
    exact k2
theorem r_aN {f : Int32 → am_R} (hd : decode (xC X) pc = .ok (.arraylength, 1)) (kk : ∀ x, Rf G l X (pc + 1) ls (.int x :: st) M (f x)) : Rf G l X pc ls (.ref a :: st) M (aN M a f) := by
  unfold aN
  refine Rf.ite (fun h => ?_) (fun _ => Rf.no)
  refine Rf.goH (fun p e R s m args below meth cd cells slots H locs lsR Q hC hH hS hL k2 => ?_) (kk _)
  have ha : a < mNx M := kd_lt (t := mKd M a) rfl (by omega)
  rcases (show mKd M a = 0 ∨ mKd M a = 1 ∨ mKd M a = 2 ∨ mKd M a = 3 by omega) with h1 | h1 | h1 | h1
  · exact va_alen hC.1 hC.2.1 hC.2.2.2.2.2.2.2.2.2.2.2.1 hH.2 a 0 (x := (mLn M a, .inl (rI M a))) (by rw [wd_at ha, cell_I h1]) rfl rfl hd k2
  · exact va_alen hC.1 hC.2.1 hC.2.2.2.2.2.2.2.2.2.2.2.1 hH.2 a 1 (x := (mLn M a, .inr (.inl (rL M a)))) (by rw [wd_at ha, cell_L h1]) rfl rfl hd k2
  · exact va_alen hC.1 hC.2.1 hC.2.2.2.2.2.2.2.2.2.2.2.1 hH.2 a 2 (x := (mLn M a, .inl (rI M a))) (by rw [wd_at ha, cell_B h1]) rfl rfl hd k2
  · exact va_alen hC.1 hC.2.1 hC.2.2.2.2.2.2.2.2.2.2.2.1 hH.2 a 3 (x := (mLn M a, .inr (.inr (.inr (.inr fun j => (rR M a j).map (gB G + ·)))))) (by rw [wd_at ha, cell_R h1]) rfl rfl hd k2
theorem r_tI {f : am_M → am_R} (hd : decode (xC X) pc = .ok (.iastore, 1)) (kk : ∀ M1, Rf G l X (pc + 1) ls st M1 (f M1)) : Rf G l X pc ls (.int x :: .int i :: .ref a :: st) M (tI M a i x f) := by
  unfold tI
  refine Rf.ite (fun h => ?_) (fun _ => Rf.no)
  refine Rf.goM (M1 := wI M a i.toNatClampNeg x) rfl rfl (fun p e R s m args below meth cd cells slots H locs lsR Q hC hH hS hL k2 => ?_) (kk _)
  have he : (am_wd G M)[a]? = some (gB G + a, .inl (gC G 0, mLn M a, .inl (rI M a))) := by rw [wd_at (kd_lt h.1), cell_I h.1]
  have hK := hC.2.2.2.2.2.2.2.2.2.2.2.1
  refine W.iast hC.1 hC.2.1 (hH.2 a _ he) ((hK.2 0 _ rfl).1 (mLn M a) (fun j => .int (rI M a j))) (fun q => by cases q) (by show ¬ (i < 0 ∨ (arrV _ _ _).slots.size ≤ _); rw [arrV_size]; exact h.2) rfl rfl hd fun H1 e z oq => ?_
  refine k2 H1 _ (hH.put rfl (fun j hj => cell_wI hj) (cell_I h.1) z (hH.2.set (wd_D G M) he ?_ oq)) (hS.put z oq (Nat.le_add_right _ _))
  show H1[gB G + a]? = some (vp_cell _ _)
  rw [e, ← upd_wI]
  rw [vp_cell_i, vp_cell_i, arrV_store]
  congr 2
  funext q
  by_cases hq : q = i.toNatClampNeg
  · subst hq
    simp [updV, upd]
  · simp [updV, upd, hq]
theorem r_tB {f : am_M → am_R} (hd : decode (xC X) pc = .ok (.bastore, 1)) (kk : ∀ M1, Rf G l X (pc + 1) ls st M1 (f M1)) : Rf G l X pc ls (.int x :: .int i :: .ref a :: st) M (tB M a i x f) := by
  unfold tB
  refine Rf.ite (fun h => ?_) (fun _ => Rf.no)
  refine Rf.goM (M1 := wI M a i.toNatClampNeg x.toInt8.toInt32) rfl rfl (fun p e R s m args below meth cd cells slots H locs lsR Q hC hH hS hL k2 => ?_) (kk _)
  have he : (am_wd G M)[a]? = some (gB G + a, .inl (gC G 2, mLn M a, .inl (rI M a))) := by rw [wd_at (kd_lt h.1), cell_B h.1]
  have hK := hC.2.2.2.2.2.2.2.2.2.2.2.1
  refine W.bast hC.1 hC.2.1 (hH.2 a _ he) ((hK.2 2 _ rfl).1 (mLn M a) (fun j => .int (rI M a j))) (fun q => by cases q) (by show ¬ (i < 0 ∨ (arrV _ _ _).slots.size ≤ _); rw [arrV_size]; exact h.2) rfl rfl hd fun H1 e z oq => ?_
  refine k2 H1 _ (hH.put rfl (fun j hj => cell_wI hj) (cell_B h.1) z (hH.2.set (wd_D G M) he ?_ oq)) (hS.put z oq (Nat.le_add_right _ _))
  show H1[gB G + a]? = some (vp_cell _ _)
  rw [e, ← upd_wI]
  rw [vp_cell_i, vp_cell_i, arrV_store]
  congr 2
  funext q
  by_cases hq : q = i.toNatClampNeg
  · subst hq
    simp [updV, upd, narrow_byte]
  · simp [updV, upd, hq]
theorem r_tL {f : am_M → am_R} (hd : decode (xC X) pc = .ok (.lastore, 1)) (kk : ∀ M1, Rf G l X (pc + 1) ls st M1 (f M1)) : Rf G l X pc ls (.long xl :: .int i :: .ref a :: st) M (tL M a i xl f) := by
  unfold tL
  refine Rf.ite (fun h => ?_) (fun _ => Rf.no)
  refine Rf.goM (M1 := wL M a i.toNatClampNeg xl) rfl rfl (fun p e R s m args below meth cd cells slots H locs lsR Q hC hH hS hL k2 => ?_) (kk _)
  have he : (am_wd G M)[a]? = some (gB G + a, .inl (gC G 1, mLn M a, .inr (.inl (rL M a)))) := by rw [wd_at (kd_lt h.1), cell_L h.1]
  have hK := hC.2.2.2.2.2.2.2.2.2.2.2.1
  refine W.last hC.1 hC.2.1 (hH.2 a _ he) ((hK.2 1 _ rfl).1 (mLn M a) (fun j => .long (rL M a j))) (fun q => by cases q) (by show ¬ (i < 0 ∨ (arrV _ _ _).slots.size ≤ _); rw [arrV_size]; exact h.2) rfl rfl hd fun H1 e z oq => ?_
  refine k2 H1 _ (hH.put rfl (fun j hj => cell_wL hj) (cell_L h.1) z (hH.2.set (wd_D G M) he ?_ oq)) (hS.put z oq (Nat.le_add_right _ _))
  show H1[gB G + a]? = some (vp_cell _ _)
  rw [e, ← upd_wL]
  rw [vp_cell_l, vp_cell_l, arrV_store]
  congr 2
  funext q
  by_cases hq : q = i.toNatClampNeg
  · subst hq
    simp [updV, vp_updL]
  · simp [updV, vp_updL, hq]
theorem r_tR {f : am_M → am_R} (hd : decode (xC X) pc = .ok (.aastore, 1)) (kk : ∀ M1, Rf G l X (pc + 1) ls st M1 (f M1)) : Rf G l X pc ls (.ref b :: .int i :: .ref a :: st) M (tR M a i 10 b f) := by
  unfold tR
  refine Rf.ite (fun h => ?_) (fun _ => Rf.no)
  refine Rf.goM (M1 := wR M a i.toNatClampNeg (some b)) rfl rfl (fun p e R s m args below meth cd cells slots H locs lsR Q hC hH hS hL k2 => ?_) (kk _)
  have he : (am_wd G M)[a]? = some (gB G + a, .inl (gC G 3, mLn M a, .inr (.inr (.inr (.inr fun j => (rR M a j).map (gB G + ·)))))) := by rw [wd_at (kd_lt h.1), cell_R h.1]
  have hv : (am_wd G M)[b]? = some (gB G + b, .inr (6, am_fs G M b 6)) := by rw [wd_at (kd_lt h.2.1), cell_obj h.2.1]
  have hK := hC.2.2.2.2.2.2.2.2.2.2.2.1
  have hlt : i.toNatClampNeg < mLn M a := Nat.not_le.mp fun q => h.2.2 (Or.inr q)
  have h0 : ¬ i < 0 := fun q => h.2.2 (Or.inl q)
  obtain ⟨r', hr', cellV, g1, g2, g3, -⟩ := hH.2 b _ hv
  have hcls := (hK.1 6 _ (show am_cl[6]? = some (RX6, TX6, 10) from rfl)).2
  obtain ⟨kA, comp, k1, k2', k3, -⟩ := (hK.2 3 _ (show (am_tys G)[3]? = some (gC G 3, .object RX6) from rfl)).2
  have hcomp : comp = (gD G).1 6 := Option.some.inj (k3.symm.trans hcls.1)
  subst hcomp
  obtain ⟨kC, hkC, -⟩ := id hcls.2
  refine W.aast hC.1 hC.2.1 (hH.2 a _ he) (fun q h => by cases h) (fun h => by cases h) k1 k2' rfl hkC ⟨h0, by show _ < (arrV _ _ _).slots.size; rw [arrV_size]; exact hlt⟩ g1 (fun q h => by rw [g3] at h; cases h) (by rw [g2]; exact hkC) (by rw [g2]; exact va_assign hcls) rfl rfl hd fun H1 e z oq => ?_
  refine k2 H1 _ (hH.put rfl (fun j hj => cell_wR hj) (cell_R h.1) z (hH.2.set (wd_D G M) he ?_ oq)) (hS.put z oq (Nat.le_add_right _ _))
  show H1[gB G + a]? = some (vp_cell _ _)
  rw [e, ← upd_wR]
  rw [vp_cell_q, vp_cell_q, arrV_store]
  congr 2
  funext q
  by_cases hq : q = i.toNatClampNeg
  · subst hq
    simp [updV, va_up, va_rf]
  · simp [updV, va_up, hq]
/-- a new array of numbers -/
theorem r_nA {t : Nat} {at' : ArrayType} {f : Nat → am_M → am_R} (ht : (t = 0 ∧ at' = .int) ∨ (t = 1 ∧ at' = .long) ∨ (t = 2 ∧ at' = .byte)) (hd : decode (xC X) pc = .ok (.newarray at', 2)) (hw : Cond.arrayClass (newarray.typeOf at') ∈ am_ws) (kk : ∀ b M1, Rf G l X (pc + 2) ls (.ref b :: st) M1 (f b M1)) : Rf G l X pc ls (.int i :: st) M (nA M t i f) := by
  unfold nA
  refine Rf.ite (fun h => ?_) (fun _ => Rf.no)
  refine Rf.goN (t := t) (n := i.toNatClampNeg) (fun p e R s m args below meth cd cells slots H locs lsR Q hC hH hS hL hr1 hr2 k2 => ?_) (kk _ _)
  have hK := hC.2.2.2.2.2.2.2.2.2.2.2.1
  have hN : mKd (mkC M t i.toNatClampNeg) (mNx M) = t := by rw [mKd_mkC, if_pos rfl]
  have hLn : mLn (mkC M t i.toNatClampNeg) (mNx M) = i.toNatClampNeg := by rw [mLn_mkC, if_pos rfl]
  refine va_newaK hC.1 hC.2.1 (hC.2.2.2.2.2.2.2.2.2.2.1 _ hw args) rfl hd rfl h.1 rfl ?_ hr1 hr2 (h := gB G + mNx M) hH.1 (fun H1 cA e1 z1 o1 hAr hNm => ?_)
  · rcases ht with ⟨rfl, rfl⟩ | ⟨rfl, rfl⟩ | ⟨rfl, rfl⟩
    · have : componentBytes (newarray.typeOf .int) = 4 := rfl
      rw [this]; omega
    · have : componentBytes (newarray.typeOf .long) = 8 := rfl
      rw [this]; omega
    · have : componentBytes (newarray.typeOf .byte) = 1 := rfl
      rw [this]; omega
  · refine k2 H1 (hH.push (by rw [z1, hH.1]) (fun q hq => o1 q (by rw [← hH.1]; exact hq)) ?_) ⟨Nat.le_trans hS.1 (by rw [z1, hH.1]; omega), fun q h1 h2 => (o1 q (by have := hS.1; rw [hH.1] at this; omega)).trans (hS.2.1 q h1 h2), hS.2.2⟩
    rcases ht with ⟨rfl, rfl⟩ | ⟨rfl, rfl⟩ | ⟨rfl, rfl⟩
    · rw [cell_I hN, hLn]
      have hc : cA = gC G 0 := Option.some.inj (hNm.symm.trans (hK.2 0 _ (show (am_tys G)[0]? = some (gC G 0, .int) from rfl)).2)
      subst hc
      show H1[gB G + mNx M]? = some (vp_cell _ _)
      rw [e1, vp_cell_i]
      congr 2
      funext j
      rw [rI_mkC, if_pos rfl]
      rfl
    · rw [cell_L hN, hLn]
      have hc : cA = gC G 1 := Option.some.inj (hNm.symm.trans (hK.2 1 _ (show (am_tys G)[1]? = some (gC G 1, .long) from rfl)).2)
      subst hc
      show H1[gB G + mNx M]? = some (vp_cell _ _)
      rw [e1, vp_cell_l]
      congr 2
      funext j
      rw [rL_mkC, if_pos rfl]
      rfl
    · rw [cell_B hN, hLn]
      have hc : cA = gC G 2 := Option.some.inj (hNm.symm.trans (hK.2 2 _ (show (am_tys G)[2]? = some (gC G 2, .byte) from rfl)).2)
      subst hc
      show H1[gB G + mNx M]? = some (vp_cell _ _)
      rw [e1, vp_cell_i]
      congr 2
      funext j
      rw [rI_mkC, if_pos rfl]
      rfl
theorem r_nR {f : Nat → am_M → am_R} (hd : decode (xC X) pc = .ok (.anewarray idx, 3)) (hw : Cond.classLink (xO X) idx RX6 ∈ am_ws) (kk : ∀ b M1, Rf G l X (pc + 3) ls (.ref b :: st) M1 (f b M1)) : Rf G l X pc ls (.int i :: st) M (nA M 3 i f) := by
  unfold nA
  refine Rf.ite (fun h => ?_) (fun _ => Rf.no)
  refine Rf.goN (t := 3) (n := i.toNatClampNeg) (fun p e R s m args below meth cd cells slots H locs lsR Q hC hH hS hL hr1 hr2 k2 => ?_) (kk _ _)
  have hK := hC.2.2.2.2.2.2.2.2.2.2.2.1
  have hN : mKd (mkC M 3 i.toNatClampNeg) (mNx M) = 3 := by rw [mKd_mkC, if_pos rfl]
  have hLn : mLn (mkC M 3 i.toNatClampNeg) (mNx M) = i.toNatClampNeg := by rw [mLn_mkC, if_pos rfl]
  refine W.anew hC.1 hC.2.1 hC.2.2.2.2.2.2.1 (hC.2.2.2.2.2.2.2.2.2.2.1 _ hw args) (va_AO.use hC.2.2.2.2.2.2.2.2.2.2.2.2.1) rfl hd rfl h.1 (by omega) hr1 hr2 (fun cA kA comp f1 f2 f3 f4 => ?_)
  have hc : cA = gC G 3 := by
    obtain ⟨_, _, _, _, _, h9⟩ := (hK.2 3 _ (show (am_tys G)[3]? = some (gC G 3, .object RX6) from rfl)).2
    exact Option.some.inj (f1.symm.trans h9)
  subst hc
  generalize hH1 : H.push ({ cls := gC G 3, slots := Array.replicate i.toNatClampNeg .null, vm := .none } : Cell) = H1
  have z1 : H1.size = H.size + 1 := by rw [← hH1]; simp
  have o1 : ∀ q : Nat, q < H.size → H1[q]? = H[q]? := fun q hq => by rw [← hH1, Array.getElem?_push, if_neg (Nat.ne_of_lt hq)]
  have k3 := k2 H1 (hH.push z1 o1 ?_) ⟨Nat.le_trans hS.1 (by omega), fun q h1 h2 => (o1 q (Nat.lt_of_lt_of_le h1 hS.1)).trans (hS.2.1 q h1 h2), hS.2.2⟩
  · rw [hH.1]
    exact k3
  · rw [cell_R hN, hLn]
    show H1[gB G + mNx M]? = some (vp_cell _ _)
    rw [← hH.1, ← hH1, vp_cell_q]
    simp only [Array.getElem?_push_size, arrV]
    congr 2
    apply Array.ext
    · simp
    · intro j h1 h2
      simp [rR_mkC, va_rf]
/-- a new object -/
theorem r_nO {C : String} {T : u_T} {N : Nat} {ty : Nat → FieldType} {f : Nat → am_M → am_R} (hcl : am_Cl c C T N ty) (hd : decode (xC X) pc = .ok (.new idx, 3)) (hw : Cond.classLink (xO X) idx C ∈ am_ws) (hw2 : Cond.instantiable C N ∈ am_ws) (hw3 : Cond.initialized C ∈ am_ws) (kk : ∀ b M1, Rf G l X (pc + 3) ls (.ref b :: st) M1 (f b M1)) : Rf G l X pc ls st M (nO M (c + 4) N f) := by
  unfold nO
  refine Rf.goN (t := c + 4) (n := N) (fun p e R s m args below meth cd cells slots H locs lsR Q hC hH hS hL hr1 hr2 k2 => ?_) (kk _ _)
  obtain ⟨c1, c2, c3, c4, c5, c6, c7⟩ := hcl
  have hts : ∀ w ∈ am_ws, w.before args s = true := fun w hw => hC.2.2.2.2.2.2.2.2.2.2.1 w hw args
  have hK := hC.2.2.2.2.2.2.2.2.2.2.2.1
  have hKn := hK.1 c _ c1
  have hN : mKd (mkC M (c + 4) N) (mNx M) = c + 4 := by rw [mKd_mkC, if_pos rfl]
  refine W.newcK hC.1 hC.2.1 hC.2.2.2.2.2.2.1 (hts _ hw) (hts _ hw2) (hts _ hw3) rfl hd hr1 hr2 hKn.2.1 (h := gB G + mNx M) hH.1 fun H1 kC hkC e1 z1 o1 => ?_
  refine k2 H1 (hH.push (by rw [z1, hH.1]) (fun q hq => o1 q (by rw [← hH.1]; exact hq)) ?_) ⟨Nat.le_trans hS.1 (by rw [z1, hH.1]; omega), fun q h1 h2 => (o1 q (by have := hS.1; rw [hH.1] at this; omega)).trans (hS.2.1 q h1 h2), hS.2.2⟩
  rw [cell_obj hN]
  refine ⟨_, c1, (u_born ty hts c4 hKn hkC e1 c2).to (fun j hj => ?_)⟩
  rw [c7 j hj]
  unfold vp_V
  rw [List.getD_eq_getElem?_getD, fs_at (by rw [c5]; exact hj)]
  show am_dv c j = am_fv G (mkC M (c + 4) N) (mNx M) c j
  unfold am_dv am_fv
  rw [rI_mkC, rL_mkC, rR_mkC, if_pos rfl, if_pos rfl, if_pos rfl]
  rfl
end RfRows
end
section
/-! ===== calls ===== -/
/-- what the tables say of a call: the code, the link, the length of its row of arguments -/
def am_mb (y : MethodName) (Xc : am_X) (n : Nat) : Prop := Cond.code y (xC Xc) (xL Xc) (xT Xc) ∈ am_ws ∧ Cond.initialized y.cls ∈ am_ws ∧ (y.cls ≠ "java/lang/invoke/MethodHandle" ∧ y.cls ≠ "java/lang/invoke/VarHandle") ∧ (parseMethodDescriptor y.desc).map (fun d => d.parameters.length) = some n ∧ xL Xc ≤ 18 ∧ am_gw (Cond.code y (xC Xc) (xL Xc) (xT Xc)) = true
section RfCalls
variable {G : am_G} {l : Launch} {X Xc : am_X} {pc : Nat} {ls st rest : List Value} {M : am_M} {o x : am_R} {a b c k idx n : Nat} {y : MethodName} {as : List Value}
theorem am_blind (G : am_G) (M : am_M) (av : List Value) : FrameBlind (va_Pc av (fun U => am_Hp G M U.heap ∧ am_Tb G U)) := by
  intro A U g mk h
  obtain ⟨h1, h2, h3⟩ := h
  exact ⟨h1, h2, h3.moved (U := U.calling g mk A) (State.WarmedH.refl U) (fun _ _ _ => rfl)⟩
theorem am_entry {s : State} {H : Heap} {locs : List Loc} (hT : am_Tb G s) (hH : am_Hp G M H) (hS : va_S (gA G) s.heap H locs) (av : List Value) : ∀ U : State, U.heap = H → s.WarmedH U.vm → va_Pc av (fun U => am_Hp G M U.heap ∧ am_Tb G U) av.toArray U := fun U hU hW => ⟨rfl, by rw [hU]; exact hH, hT.moved hW (fun q h1 h2 => by rw [hU]; exact hS.2.1 q h1 h2)⟩
theorem am_cat {s : State} (hT : am_Tb G s) (h : (rest.map Value.category).sum ≤ 8) : ((rest.map (rv G)).map fun v => v.category).sum ≤ 8 := by
  rw [List.map_map]
  have e : ((fun v : Value => v.category) ∘ rv G) = Value.category := by funext v; exact rv_cat hT v
  rw [e]
  exact h
/-- a call, by its contract: the rest of the walk stands over what comes back -/
theorem Rf.callC {v1 : Option Value} {M1 : am_M} (hx : x = some (v1, M1)) (hc : Ct G l y Xc as M x) (hdp : xD Xc + 1 ≤ xD X)
    (hrun : ∀ (p : Program) (e : Env) (R : Room) (s : State) (m : MethodId) (args : Array Value) (below : List Frame) (meth : Method) (cd : Code) (cells slots : Nat) (H : Heap) (locs : List Loc) (lsR : Array Slot) (mc ms : Nat) (Qc : Array Value → State → Outcome → State → Prop), am_C G X p R s m meth cd → am_Hp G M H → va_S (gA G) s.heap H locs → LV G (xL X) ls lsR → cells + mc ≤ R.cells → slots + ms ≤ R.slots → Met l y [.code y (xC Xc) (xL Xc) (xT Xc)] { frames := xD Xc, cells := mc, slots := ms, locals := 37 * xD Xc } (va_Pc (as.map (rv G)) (fun U => am_Hp G M U.heap ∧ am_Tb G U)) Qc mc ms (gA G) → va_Run p l e R s m args below meth cd H locs cells slots mc ms (F0 m pc lsR (st.map (rv G))) (rest.map (rv G)) (Qc (as.map (rv G)).toArray) (gA G))
    (k : Rf G l X (pc + 3) ls (v1.toList ++ rest) M1 o) : Rf G l X pc ls st M o := by
  intro v M' ho
  obtain ⟨hm1, hMet⟩ := hc v1 M1 hx
  obtain ⟨hm2, k⟩ := k v M' ho
  refine ⟨⟨by omega, by omega⟩, fun p e R s m args below meth cd n0 u0 cells slots H locs lsR hC h1 h2 h3 h4 hH hS hL => ?_⟩
  have hr := hrun p e R s m args below meth cd cells slots H locs lsR _ _ _ hC hH hS hL (by omega) (by omega) hMet
  intro T hT XS
  obtain ⟨vv, st0, t, T', L, h0, X', hLf, e1, e2, ⟨hq1, hq2, hq3⟩, stp⟩ := hr T hT XS
  cases hq1
  have hz := hq3.1
  have hk := hq3.2
  rw [h0] at hz hk
  have key := k p e R s m args below meth cd n0 u0 (cells + (mNx M1 - mNx M)) (slots + (mUs M1 - mUs M)) T'.heap (locs ++ L) lsR hC h1 h2 (by omega) (by omega) (by rw [e1]; exact hq2) ⟨Nat.le_trans hS.1 (by rw [e1]; exact hz), fun q g1 g2 => by rw [e1, hk q (Nat.lt_of_lt_of_le g1 hS.1) g2]; exact hS.2.1 q g1 g2, fun q hq => by
      rcases List.mem_append.mp hq with h | h
      · exact hS.2.2 q h
      · exact hLf q h⟩ hL
  have ev : (v1.toList ++ rest).map (rv G) = (v1.map (rv G)).toList ++ rest.map (rv G) := by cases v1 <;> simp
  rw [ev] at key
  obtain ⟨t2, a1, b1⟩ := key T' rfl X'
  exact ⟨t2, stp t2 a1, b1⟩
theorem am_cb {R : Room} {s : State} {args : Array Value} {m : MethodId} {p : Program} {meth : Method} {cd : Code} {mc ms : Nat} (hC : am_C G X p R s m meth cd) (hb : am_mb y Xc n) (hdp : xD Xc + 1 ≤ xD X) :
    ({ frames := xD Xc, cells := mc, slots := ms, locals := 37 * xD Xc } : Room).frames + 1 ≤ R.frames ∧ 8 + (xL Xc + 11) + ({ frames := xD Xc, cells := mc, slots := ms, locals := 37 * xD Xc } : Room).locals ≤ R.locals ∧ (∀ w ∈ [Cond.code y (xC Xc) (xL Xc) (xT Xc)], ∀ (a' : Array Value) (U : State), s.WarmedH U.vm → w.before a' U = true) ∧ (∀ sig, parseMethodDescriptor y.desc = some sig → n = sig.parameters.length) := by
  obtain ⟨b1, b2, b3, b4, b5, b6⟩ := hb
  have h1 := hC.2.2.2.2.2.2.2.1
  have h2 := hC.2.2.2.2.2.2.2.2.1
  refine ⟨Nat.le_trans hdp h1, by show 8 + (xL Xc + 11) + 37 * xD Xc ≤ _; omega, fun w hw a' U hW => ?_, fun sig h => ?_⟩
  · rw [List.mem_singleton.mp hw]
    exact word_at hW (Or.inl rfl) (hC.2.2.2.2.2.2.2.2.2.2.1 _ b1 #[])
  · rw [h] at b4
    exact (Option.some.inj b4).symm
theorem Rf.callV {v1 : Option Value} {M1 : am_M} {C : String} {T : u_T} {N : Nat} {As : List Value} (hx : x = some (v1, M1)) (hc : Ct G l y Xc (.ref b :: As) M x) (hd : decode (xC X) pc = .ok (.invokevirtual idx, 3)) (hb : am_mb y Xc n) (hw1 : Cond.methodLink (xO X) idx y ∈ am_ws) (hw2 : Cond.instanceMethod y ∈ am_ws) (hw3 : Cond.selects C y y ∈ am_ws) (hcl : am_cl[c]? = some (C, T, N)) (hdp : xD Xc + 1 ≤ xD X) (hn : As.length = n) (hst : st = As.reverse ++ .ref b :: rest) (hcat : (rest.map Value.category).sum ≤ 8) (hk : mKd M b = c + 4)
    (k : Rf G l X (pc + 3) ls (v1.toList ++ rest) M1 o) : Rf G l X pc ls st M o := by
  refine Rf.callC (rest := rest) hx hc hdp (fun p e R s m args below meth cd cells slots H locs lsR mc ms Qc hC hH hS hL hr1 hr2 hM => ?_) k
  obtain ⟨q1, q2, q3, q4⟩ := am_cb (args := args) (mc := mc) (ms := ms) hC hb hdp
  have hts : ∀ w ∈ am_ws, w.before args s = true := fun w hw => hC.2.2.2.2.2.2.2.2.2.2.1 w hw args
  have hT := hC.2.2.2.2.2.2.2.2.2.2
  have hb9 := cl_lt hcl
  have hlt := kd_lt hk (by omega)
  subst hst
  refine va_runV (Ts := am_ws) (C := C) (As := As.map (rv G)) ⟨hC.1, hC.2.1, hC.2.2.1, hC.2.2.2.2.2.2.1, hts⟩ hM ⟨⟨rfl, rfl, q1, q2, q3, List.mem_singleton.mpr rfl, hts _ hb.1, hts _ hb.2.1, hb.2.2.1, q4, hts _ hw1⟩, hts _ hw2, hts _ hw3⟩ ⟨am_blind G M _, va_recv hT.2.1 hH.2 hcl (q0 := b) (ci := c) (fs := am_fs G M b c) (by rw [wd_at hlt, cell_obj hk]), am_entry hT hH hS _⟩ rfl (by rw [List.length_map]; exact hn) hL.1 (by simp [rv]) (lv_room (am_cat hT hcat)) hd ⟨hr1, hr2⟩
theorem Rf.callS {v1 : Option Value} {M1 : am_M} (hx : x = some (v1, M1)) (hc : Ct G l y Xc as M x) (hd : decode (xC X) pc = .ok (.invokestatic idx, 3)) (hb : am_mb y Xc n) (hw1 : Cond.methodLink (xO X) idx y ∈ am_ws) (hw2 : Cond.static y ∈ am_ws) (hdp : xD Xc + 1 ≤ xD X) (hn : as.length = n) (hst : st = as.reverse ++ rest) (hcat : (rest.map Value.category).sum ≤ 8)
    (k : Rf G l X (pc + 3) ls (v1.toList ++ rest) M1 o) : Rf G l X pc ls st M o := by
  refine Rf.callC (rest := rest) hx hc hdp (fun p e R s m args below meth cd cells slots H locs lsR mc ms Qc hC hH hS hL hr1 hr2 hM => ?_) k
  obtain ⟨q1, q2, q3, q4⟩ := am_cb (args := args) (mc := mc) (ms := ms) hC hb hdp
  have hts : ∀ w ∈ am_ws, w.before args s = true := fun w hw => hC.2.2.2.2.2.2.2.2.2.2.1 w hw args
  have hT := hC.2.2.2.2.2.2.2.2.2.2
  subst hst
  refine va_runS (Ts := am_ws) (As := as.map (rv G)) ⟨hC.1, hC.2.1, hC.2.2.1, hC.2.2.2.2.2.2.1, hts⟩ hM ⟨⟨rfl, rfl, q1, q2, q3, List.mem_singleton.mpr rfl, hts _ hb.1, hts _ hb.2.1, hb.2.2.1, q4, hts _ hw1⟩, hts _ hw2⟩ ⟨am_blind G M _, am_entry hT hH hS _⟩ rfl (by rw [List.length_map]; exact hn) hL.1 (by simp) (lv_room (am_cat hT hcat)) hd ⟨hr1, hr2⟩
theorem Rf.callSN {v1 : Option Value} {M1 : am_M} {host : String} (hx : x = some (v1, M1)) (hc : Ct G l y Xc as M x) (hd : decode (xC X) pc = .ok (.invokestatic idx, 3)) (hb : am_mb y Xc n) (hw1 : Cond.methodLinkNest (xO X) idx y host ∈ am_ws) (hw2 : Cond.static y ∈ am_ws) (hdp : xD Xc + 1 ≤ xD X) (hn : as.length = n) (hst : st = as.reverse ++ rest) (hcat : (rest.map Value.category).sum ≤ 8)
    (k : Rf G l X (pc + 3) ls (v1.toList ++ rest) M1 o) : Rf G l X pc ls st M o := by
  refine Rf.callC (rest := rest) hx hc hdp (fun p e R s m args below meth cd cells slots H locs lsR mc ms Qc hC hH hS hL hr1 hr2 hM => ?_) k
  obtain ⟨q1, q2, q3, q4⟩ := am_cb (args := args) (mc := mc) (ms := ms) hC hb hdp
  have hts : ∀ w ∈ am_ws, w.before args s = true := fun w hw => hC.2.2.2.2.2.2.2.2.2.2.1 w hw args
  have hT := hC.2.2.2.2.2.2.2.2.2.2
  subst hst
  refine va_runSN (Ts := am_ws) (As := as.map (rv G)) ⟨hC.1, hC.2.1, hC.2.2.1, hC.2.2.2.2.2.2.1, hts⟩ hM ⟨⟨⟨rfl, rfl, q1, q2, q3, List.mem_singleton.mpr rfl⟩, hts _ hb.1, hts _ hb.2.1, hb.2.2.1, q4, hts _ hw1⟩, hts _ hw2, trivial⟩ ⟨am_blind G M _, am_entry hT hH hS _⟩ rfl (by rw [List.length_map]; exact hn) hL.1 (by simp) (lv_room (am_cat hT hcat)) hd ⟨hr1, hr2⟩
theorem Rf.callI {M1 : am_M} {As : List Value} (hx : x = some (none, M1)) (hc : Ct G l y Xc (.ref b :: As) M x) (hd : decode (xC X) pc = .ok (.invokespecial idx, 3)) (hb : am_mb y Xc n) (hrt : xT Xc = none) (hy : y.name = "<init>") (hw1 : Cond.methodLink (xO X) idx y ∈ am_ws) (hw2 : Cond.instanceMethod y ∈ am_ws) (hdp : xD Xc + 1 ≤ xD X) (hn : As.length = n) (hst : st = As.reverse ++ .ref b :: rest) (hcat : (rest.map Value.category).sum ≤ 8)
    (k : Rf G l X (pc + 3) ls rest M1 o) : Rf G l X pc ls st M o := by
  refine Rf.callC (v1 := none) (rest := rest) hx hc hdp (fun p e R s m args below meth cd cells slots H locs lsR mc ms Qc hC hH hS hL hr1 hr2 hM => ?_) k
  obtain ⟨q1, q2, q3, q4⟩ := am_cb (args := args) (mc := mc) (ms := ms) hC hb hdp
  have hts : ∀ w ∈ am_ws, w.before args s = true := fun w hw => hC.2.2.2.2.2.2.2.2.2.2.1 w hw args
  have hT := hC.2.2.2.2.2.2.2.2.2.2
  have hb1 := hb.1
  rw [hrt] at hM q3 hb1
  subst hst
  refine va_runI (Ts := am_ws) (As := As.map (rv G)) ⟨hC.1, hC.2.1, hC.2.2.1, hC.2.2.2.2.2.2.1, hts⟩ hM ⟨⟨rfl, rfl, q1, q2, q3, List.mem_singleton.mpr rfl, hts _ hb1, hts _ hb.2.1, hb.2.2.1, q4, hts _ hw1⟩, hy, hts _ hw2⟩ ⟨am_blind G M _, am_entry hT hH hS _⟩ rfl (by rw [List.length_map]; exact hn) hL.1 (by simp [rv]) (lv_room (am_cat hT hcat)) hd ⟨hr1, hr2⟩
theorem Rf.callIN {M1 : am_M} {As : List Value} {host : String} (hx : x = some (none, M1)) (hc : Ct G l y Xc (.ref b :: As) M x) (hd : decode (xC X) pc = .ok (.invokespecial idx, 3)) (hb : am_mb y Xc n) (hrt : xT Xc = none) (hy : y.name = "<init>") (hw1 : Cond.methodLinkNest (xO X) idx y host ∈ am_ws) (hw2 : Cond.instanceMethod y ∈ am_ws) (hdp : xD Xc + 1 ≤ xD X) (hn : As.length = n) (hst : st = As.reverse ++ .ref b :: rest) (hcat : (rest.map Value.category).sum ≤ 8)
    (k : Rf G l X (pc + 3) ls rest M1 o) : Rf G l X pc ls st M o := by
  refine Rf.callC (v1 := none) (rest := rest) hx hc hdp (fun p e R s m args below meth cd cells slots H locs lsR mc ms Qc hC hH hS hL hr1 hr2 hM => ?_) k
  obtain ⟨q1, q2, q3, q4⟩ := am_cb (args := args) (mc := mc) (ms := ms) hC hb hdp
  have hts : ∀ w ∈ am_ws, w.before args s = true := fun w hw => hC.2.2.2.2.2.2.2.2.2.2.1 w hw args
  have hT := hC.2.2.2.2.2.2.2.2.2.2
  have hb1 := hb.1
  rw [hrt] at hM q3 hb1
  subst hst
  refine va_runIN (Ts := am_ws) (As := As.map (rv G)) ⟨hC.1, hC.2.1, hC.2.2.1, hC.2.2.2.2.2.2.1, hts⟩ hM ⟨⟨⟨rfl, rfl, q1, q2, q3, List.mem_singleton.mpr rfl⟩, hts _ hb1, hts _ hb.2.1, hb.2.2.1, q4, hts _ hw1⟩, hy, hts _ hw2⟩ ⟨am_blind G M _, am_entry hT hH hS _⟩ rfl (by rw [List.length_map]; exact hn) hL.1 (by simp [rv]) (lv_room (am_cat hT hcat)) hd ⟨hr1, hr2⟩
/-- Object's constructor -/
theorem r_objInit (hd : decode (xC X) pc = .ok (.invokespecial idx, 3)) (hw : Cond.methodLink (xO X) idx objectInit ∈ am_ws) (hw2 : Cond.instanceMethod objectInit ∈ am_ws) (hw3 : Cond.code objectInit ⟨#[0xb1]⟩ 1 none ∈ am_ws) (hcat : (rest.map Value.category).sum ≤ 8) (hdp : 1 ≤ xD X) (k : Rf G l X (pc + 3) ls rest M o) : Rf G l X pc ls (.ref a :: rest) M o := by
  refine Rf.go (fun p e R s m args below meth c cells slots H locs lsR Q hC hL k => ?_) k
  have hT := hC.2.2.2.2.2.2.2.2.2.2
  have h1 := hC.2.2.2.2.2.2.2.1
  have h2 := hC.2.2.2.2.2.2.2.2.1
  have h3 := am_cat (rest := rest) hT hcat
  refine W.objInit hC.1 hC.2.1 hC.2.2.2.2.2.2.1 (hT.1 _ hw args) (hT.1 _ hw2 args) (hT.1 _ hw3 args) rfl (by rw [hC.2.2.1]; exact hL.1) rfl hd (Nat.le_trans hdp h1) (by show 2 * 0 + _ + 12 ≤ _; omega) k
/-- a contract out of a walk -/
theorem Ct.of {as : List Value} (hp : plainName y.cls = true) (hcls : y.cls = xO X) (hnm : y.name = xN X) (has : (as.map Value.category).sum ≤ xL X) (k : Rf G l X 0 (am_ini (xL X) as) [] M o) : Ct G l y X as M o := by
  intro v M' ho
  obtain ⟨hm, k⟩ := k v M' ho
  refine ⟨hm, ?_⟩
  refine Met.ofW (cc := xC X) (maxL := xL X) (ret := xT X) hp rfl ?_
  intro p e s m args below meth c s₁ B hml hv
  obtain ⟨rfl, hH, hT⟩ := hv
  rw [lg_entry_eq]
  have h5 : gB G ≤ s.heap.size := by rw [hH.1]; omega
  have hnm2 : meth.name = xN X := ((name_of_methodNamed B.named B.method).1).trans hnm
  have hown : s.vm.findClass (xO X) = some m.cls := by rw [← hcls]; exact findClass_of_methodNamed B.named
  exact k p e _ s m _ below meth c (mNx M) (mUs M) 0 0 s.heap [] _ ⟨B.exec, B.bytes, hml, B.returns, B.notSynchronized, hnm2, hown, Nat.le_refl _, Nat.le_refl _, h5, hT⟩ (by show _ ≤ mNx M + (mNx M' - mNx M); omega) (by show _ ≤ mUs M + (mUs M' - mUs M); omega) (by omega) (by omega) hH va_S.rf (LV.ini hT (by rw [sl_len hT]; exact has))
end RfCalls
end
section
/-! ===== calls, with what comes back ===== -/
def xV (w : Nat) (r : am_R) : am_R := if 100 ≤ w ∧ w < 140 then r else none
def xI (v : Nat) (i : Int32) (f : Int32 → am_R) : am_R := if (v = 2 ∨ v = 3) ∧ ¬ (i < 0 ∨ 5 ≤ i.toNatClampNeg) then f ((if v = 2 then am_KL else am_KM).getD i.toNatClampNeg 0) else none
def xB (v : Nat) (i : Int32) (f : Int32 → am_R) : am_R := if (200 ≤ v ∧ v < 240) ∧ ¬ (i < 0 ∨ am_sl (v - 200) ≤ i.toNatClampNeg) then f (am_sb (v - 200) i.toNatClampNeg) else none
def xLn (v : Nat) (f : Int32 → am_R) : am_R := if 200 ≤ v ∧ v < 240 then f (Int32.ofNat (am_sl (v - 200))) else none
section RfCalls2
variable {G : am_G} {l : Launch} {X Xc : am_X} {pc : Nat} {ls st rest : List Value} {M : am_M} {o x : am_R} {a b c k idx n : Nat} {y : MethodName} {as As : List Value} {host C : String} {T : u_T} {N : Nat}
theorem r_cvV {f : am_M → am_R} (hc : Ct G l y Xc (.ref b :: As) M x) (hd : decode (xC X) pc = .ok (.invokevirtual idx, 3)) (hb : am_mb y Xc n) (hw1 : Cond.methodLink (xO X) idx y ∈ am_ws) (hw2 : Cond.instanceMethod y ∈ am_ws) (hw3 : Cond.selects C y y ∈ am_ws) (hcl : am_cl[c]? = some (C, T, N)) (hdp : xD Xc + 1 ≤ xD X) (hn : As.length = n) (hst : st = As.reverse ++ .ref b :: rest) (hcat : (rest.map Value.category).sum ≤ 8) (kk : ∀ M1, Rf G l X (pc + 3) ls rest M1 (f M1)) : Rf G l X pc ls st M (cv M b (c + 4) (bV x f)) := by
  unfold cv
  refine Rf.ite (fun hk => ?_) (fun _ => Rf.no)
  rcases hx : x with _ | ⟨_ | v, M1⟩
  · exact Rf.no
  · exact Rf.callV (v1 := none) (M1 := M1) rfl (hx ▸ hc) hd hb hw1 hw2 hw3 hcl hdp hn hst hcat hk (kk M1)
  · exact Rf.no
theorem r_csV {f : am_M → am_R} (hc : Ct G l y Xc as M x) (hd : decode (xC X) pc = .ok (.invokestatic idx, 3)) (hb : am_mb y Xc n) (hw1 : Cond.methodLink (xO X) idx y ∈ am_ws) (hw2 : Cond.static y ∈ am_ws) (hdp : xD Xc + 1 ≤ xD X) (hn : as.length = n) (hst : st = as.reverse ++ rest) (hcat : (rest.map Value.category).sum ≤ 8) (kk : ∀ M1, Rf G l X (pc + 3) ls rest M1 (f M1)) : Rf G l X pc ls st M (bV x f) := by
  rcases hx : x with _ | ⟨_ | v, M1⟩
  · exact Rf.no
  · exact Rf.callS (v1 := none) (M1 := M1) rfl (hx ▸ hc) hd hb hw1 hw2 hdp hn hst hcat (kk M1)
  · exact Rf.no
theorem r_cvI {f : Int32 → am_M → am_R} (hc : Ct G l y Xc (.ref b :: As) M x) (hd : decode (xC X) pc = .ok (.invokevirtual idx, 3)) (hb : am_mb y Xc n) (hw1 : Cond.methodLink (xO X) idx y ∈ am_ws) (hw2 : Cond.instanceMethod y ∈ am_ws) (hw3 : Cond.selects C y y ∈ am_ws) (hcl : am_cl[c]? = some (C, T, N)) (hdp : xD Xc + 1 ≤ xD X) (hn : As.length = n) (hst : st = As.reverse ++ .ref b :: rest) (hcat : (rest.map Value.category).sum ≤ 8) (kk : ∀ r M1, Rf G l X (pc + 3) ls (.int r :: rest) M1 (f r M1)) : Rf G l X pc ls st M (cv M b (c + 4) (bI x f)) := by
  unfold cv
  refine Rf.ite (fun hk => ?_) (fun _ => Rf.no)
  rcases hx : x with _ | ⟨_ | v, M1⟩
  · exact Rf.no
  · exact Rf.no
  · cases v <;> first | exact Rf.no | skip
    rename_i r
    exact Rf.callV (v1 := some (.int r)) (M1 := M1) rfl (hx ▸ hc) hd hb hw1 hw2 hw3 hcl hdp hn hst hcat hk (kk r M1)
theorem r_csI {f : Int32 → am_M → am_R} (hc : Ct G l y Xc as M x) (hd : decode (xC X) pc = .ok (.invokestatic idx, 3)) (hb : am_mb y Xc n) (hw1 : Cond.methodLink (xO X) idx y ∈ am_ws) (hw2 : Cond.static y ∈ am_ws) (hdp : xD Xc + 1 ≤ xD X) (hn : as.length = n) (hst : st = as.reverse ++ rest) (hcat : (rest.map Value.category).sum ≤ 8) (kk : ∀ r M1, Rf G l X (pc + 3) ls (.int r :: rest) M1 (f r M1)) : Rf G l X pc ls st M (bI x f) := by
  rcases hx : x with _ | ⟨_ | v, M1⟩
  · exact Rf.no
  · exact Rf.no
  · cases v <;> first | exact Rf.no | skip
    rename_i r
    exact Rf.callS (v1 := some (.int r)) (M1 := M1) rfl (hx ▸ hc) hd hb hw1 hw2 hdp hn hst hcat (kk r M1)
theorem r_cnI {f : Int32 → am_M → am_R} (hc : Ct G l y Xc as M x) (hd : decode (xC X) pc = .ok (.invokestatic idx, 3)) (hb : am_mb y Xc n) (hw1 : Cond.methodLinkNest (xO X) idx y host ∈ am_ws) (hw2 : Cond.static y ∈ am_ws) (hdp : xD Xc + 1 ≤ xD X) (hn : as.length = n) (hst : st = as.reverse ++ rest) (hcat : (rest.map Value.category).sum ≤ 8) (kk : ∀ r M1, Rf G l X (pc + 3) ls (.int r :: rest) M1 (f r M1)) : Rf G l X pc ls st M (bI x f) := by
  rcases hx : x with _ | ⟨_ | v, M1⟩
  · exact Rf.no
  · exact Rf.no
  · cases v <;> first | exact Rf.no | skip
    rename_i r
    exact Rf.callSN (v1 := some (.int r)) (M1 := M1) rfl (hx ▸ hc) hd hb hw1 hw2 hdp hn hst hcat (kk r M1)
theorem r_cvL {f : Int64 → am_M → am_R} (hc : Ct G l y Xc (.ref b :: As) M x) (hd : decode (xC X) pc = .ok (.invokevirtual idx, 3)) (hb : am_mb y Xc n) (hw1 : Cond.methodLink (xO X) idx y ∈ am_ws) (hw2 : Cond.instanceMethod y ∈ am_ws) (hw3 : Cond.selects C y y ∈ am_ws) (hcl : am_cl[c]? = some (C, T, N)) (hdp : xD Xc + 1 ≤ xD X) (hn : As.length = n) (hst : st = As.reverse ++ .ref b :: rest) (hcat : (rest.map Value.category).sum ≤ 8) (kk : ∀ r M1, Rf G l X (pc + 3) ls (.long r :: rest) M1 (f r M1)) : Rf G l X pc ls st M (cv M b (c + 4) (bL x f)) := by
  unfold cv
  refine Rf.ite (fun hk => ?_) (fun _ => Rf.no)
  rcases hx : x with _ | ⟨_ | v, M1⟩
  · exact Rf.no
  · exact Rf.no
  · cases v <;> first | exact Rf.no | skip
    rename_i r
    exact Rf.callV (v1 := some (.long r)) (M1 := M1) rfl (hx ▸ hc) hd hb hw1 hw2 hw3 hcl hdp hn hst hcat hk (kk r M1)
theorem r_csL {f : Int64 → am_M → am_R} (hc : Ct G l y Xc as M x) (hd : decode (xC X) pc = .ok (.invokestatic idx, 3)) (hb : am_mb y Xc n) (hw1 : Cond.methodLink (xO X) idx y ∈ am_ws) (hw2 : Cond.static y ∈ am_ws) (hdp : xD Xc + 1 ≤ xD X) (hn : as.length = n) (hst : st = as.reverse ++ rest) (hcat : (rest.map Value.category).sum ≤ 8) (kk : ∀ r M1, Rf G l X (pc + 3) ls (.long r :: rest) M1 (f r M1)) : Rf G l X pc ls st M (bL x f) := by
  rcases hx : x with _ | ⟨_ | v, M1⟩
  · exact Rf.no
  · exact Rf.no
  · cases v <;> first | exact Rf.no | skip
    rename_i r
    exact Rf.callS (v1 := some (.long r)) (M1 := M1) rfl (hx ▸ hc) hd hb hw1 hw2 hdp hn hst hcat (kk r M1)
theorem r_cvR {fn : am_M → am_R} {f : Nat → am_M → am_R} (hc : Ct G l y Xc (.ref b :: As) M x) (hd : decode (xC X) pc = .ok (.invokevirtual idx, 3)) (hb : am_mb y Xc n) (hw1 : Cond.methodLink (xO X) idx y ∈ am_ws) (hw2 : Cond.instanceMethod y ∈ am_ws) (hw3 : Cond.selects C y y ∈ am_ws) (hcl : am_cl[c]? = some (C, T, N)) (hdp : xD Xc + 1 ≤ xD X) (hn : As.length = n) (hst : st = As.reverse ++ .ref b :: rest) (hcat : (rest.map Value.category).sum ≤ 8) (kn : ∀ M1, Rf G l X (pc + 3) ls (.null :: rest) M1 (fn M1)) (kk : ∀ r M1, Rf G l X (pc + 3) ls (.ref r :: rest) M1 (f r M1)) : Rf G l X pc ls st M (cv M b (c + 4) (bR x fn f)) := by
  unfold cv
  refine Rf.ite (fun hk => ?_) (fun _ => Rf.no)
  rcases hx : x with _ | ⟨_ | v, M1⟩
  · exact Rf.no
  · exact Rf.no
  · cases v <;> first | exact Rf.no | skip
    · exact Rf.callV (v1 := some .null) (M1 := M1) rfl (hx ▸ hc) hd hb hw1 hw2 hw3 hcl hdp hn hst hcat hk (kn M1)
    · rename_i r
      exact Rf.callV (v1 := some (.ref r)) (M1 := M1) rfl (hx ▸ hc) hd hb hw1 hw2 hw3 hcl hdp hn hst hcat hk (kk r M1)
theorem r_csR {fn : am_M → am_R} {f : Nat → am_M → am_R} (hc : Ct G l y Xc as M x) (hd : decode (xC X) pc = .ok (.invokestatic idx, 3)) (hb : am_mb y Xc n) (hw1 : Cond.methodLink (xO X) idx y ∈ am_ws) (hw2 : Cond.static y ∈ am_ws) (hdp : xD Xc + 1 ≤ xD X) (hn : as.length = n) (hst : st = as.reverse ++ rest) (hcat : (rest.map Value.category).sum ≤ 8) (kn : ∀ M1, Rf G l X (pc + 3) ls (.null :: rest) M1 (fn M1)) (kk : ∀ r M1, Rf G l X (pc + 3) ls (.ref r :: rest) M1 (f r M1)) : Rf G l X pc ls st M (bR x fn f) := by
  rcases hx : x with _ | ⟨_ | v, M1⟩
  · exact Rf.no
  · exact Rf.no
  · cases v <;> first | exact Rf.no | skip
    · exact Rf.callS (v1 := some .null) (M1 := M1) rfl (hx ▸ hc) hd hb hw1 hw2 hdp hn hst hcat (kn M1)
    · rename_i r
      exact Rf.callS (v1 := some (.ref r)) (M1 := M1) rfl (hx ▸ hc) hd hb hw1 hw2 hdp hn hst hcat (kk r M1)
theorem r_ciV {f : am_M → am_R} (hc : Ct G l y Xc (.ref b :: As) M x) (hd : decode (xC X) pc = .ok (.invokespecial idx, 3)) (hb : am_mb y Xc n) (hrt : xT Xc = none) (hy : y.name = "<init>") (hw1 : Cond.methodLink (xO X) idx y ∈ am_ws) (hw2 : Cond.instanceMethod y ∈ am_ws) (hdp : xD Xc + 1 ≤ xD X) (hn : As.length = n) (hst : st = As.reverse ++ .ref b :: rest) (hcat : (rest.map Value.category).sum ≤ 8) (kk : ∀ M1, Rf G l X (pc + 3) ls rest M1 (f M1)) : Rf G l X pc ls st M (bV x f) := by
  rcases hx : x with _ | ⟨_ | v, M1⟩
  · exact Rf.no
  · exact Rf.callI (M1 := M1) rfl (hx ▸ hc) hd hb hrt hy hw1 hw2 hdp hn hst hcat (kk M1)
  · exact Rf.no
theorem r_cinV {f : am_M → am_R} (hc : Ct G l y Xc (.ref b :: As) M x) (hd : decode (xC X) pc = .ok (.invokespecial idx, 3)) (hb : am_mb y Xc n) (hrt : xT Xc = none) (hy : y.name = "<init>") (hw1 : Cond.methodLinkNest (xO X) idx y host ∈ am_ws) (hw2 : Cond.instanceMethod y ∈ am_ws) (hdp : xD Xc + 1 ≤ xD X) (hn : As.length = n) (hst : st = As.reverse ++ .ref b :: rest) (hcat : (rest.map Value.category).sum ≤ 8) (kk : ∀ M1, Rf G l X (pc + 3) ls rest M1 (f M1)) : Rf G l X pc ls st M (bV x f) := by
  rcases hx : x with _ | ⟨_ | v, M1⟩
  · exact Rf.no
  · exact Rf.callIN (M1 := M1) rfl (hx ▸ hc) hd hb hrt hy hw1 hw2 hdp hn hst hcat (kk M1)
  · exact Rf.no
end RfCalls2
end
section
/-! ===== constants, statics, texts, copies ===== -/
def cpy (M : am_M) (a0 : Nat) (sp : Int32) (a1 : Nat) (dp n : Int32) (f : am_M → am_R) : am_R := if (mKd M a0 = 0 ∧ mKd M a1 = 0) ∧ (¬ sp < 0 ∧ ¬ dp < 0 ∧ ¬ n < 0) ∧ sp.toNatClampNeg + n.toNatClampNeg ≤ mLn M a0 ∧ dp.toNatClampNeg + n.toNatClampNeg ≤ mLn M a1 then f (cpI M a0 sp.toNatClampNeg a1 dp.toNatClampNeg n.toNatClampNeg) else none
section RfSp
variable {G : am_G} {l : Launch} {X Xc : am_X} {pc : Nat} {ls st rest : List Value} {M : am_M} {o x : am_R} {a b c k idx n w : Nat} {i : Int32} {y : MethodName} {as As : List Value}
theorem am_s1 {s : State} (hT : am_Tb G s) (h : 100 ≤ w ∧ w < 140) : ∃ (own : String) (idx : Nat) (tx : String) (k : Nat), w = 100 + k ∧ am_S1 G s k own idx tx := by
  have hk : w - 100 < am_str.length := by show w - 100 < 40; omega
  obtain ⟨⟨own, idx, tx⟩, hq⟩ : ∃ q, am_str[w - 100]? = some q := ⟨_, List.getElem?_eq_getElem hk⟩
  exact ⟨own, idx, tx, w - 100, by omega, hT.2.2.2.1 _ own idx tx hq⟩
theorem r_ldcS {tx : String} (hd : decode (xC X) pc = .ok (.ldc idx, 2)) (k : Nat) (hs : am_str[k]? = some (xO X, idx, tx)) (kk : Rf G l X (pc + 2) ls (.retAddr (100 + k) :: st) M o) : Rf G l X pc ls st M o := by
  refine Rf.goH (fun p e R s m args below meth cd cells slots H locs lsR Q hC hH hS hL k2 => ?_) kk
  obtain ⟨a, v, q1, q2, q3, -⟩ := hC.2.2.2.2.2.2.2.2.2.2.2.2.2.1 k _ _ _ hs
  have e : rv G (.retAddr (100 + k)) = .ref a := q1
  rw [List.map_cons, e] at k2
  exact va_ldcS hC.1 hC.2.1 hC.2.2.2.2.2.2.1 q3 hd k2
theorem r_ldcw (hd : decode (xC X) pc = .ok (.ldc_w idx, 3)) (v : Int32) (hw : Cond.constant (xO X) idx v ∈ am_ws) (k : Rf G l X (pc + 3) ls (.int v :: st) M o) : Rf G l X pc ls st M o := Rf.go (fun p e R s m args below meth c cells slots H locs lsR Q hC hL k => lv_ldcw hC.1 hC.2.1 hC.2.2.2.2.2.2.1 (hC.2.2.2.2.2.2.2.2.2.2.1 _ hw _) hd k) k
theorem r_spV (hd : decode (xC X) pc = .ok (.getfield idx, 3)) (hw : Cond.fieldLink (xO X) idx "java/lang/String" "value" "[B" ∈ am_ws) (kk : Rf G l X (pc + 3) ls (.retAddr (w + 100) :: st) M o) : Rf G l X pc ls (.retAddr w :: st) M (xV w o) := by
  unfold xV
  refine Rf.ite (fun h => ?_) (fun _ => Rf.no)
  refine Rf.goH (fun p e R s m args below meth cd cells slots H locs lsR Q hC hH hS hL k2 => ?_) kk
  have hT := hC.2.2.2.2.2.2.2.2.2.2
  obtain ⟨own, ix, tx, k, rfl, a, v, q1, q2, q3, q4, q5, q6, q7⟩ := am_s1 hT h
  have e : rv G (.retAddr (100 + k)) = .ref a := q1
  have e2 : rv G (.retAddr (100 + k + 100)) = .ref v := by rw [show 100 + k + 100 = 200 + k by omega]; exact q2
  rw [List.map_cons, e2] at k2
  rw [List.map_cons, e]
  exact vk_getf hC.1 hC.2.1 q6 hS hC.2.2.2.2.2.2.1 (hT.1 _ hw args) (fun _ h => h) hd k2
theorem r_spC (hd : decode (xC X) pc = .ok (.getfield idx, 3)) (hw : Cond.fieldLink (xO X) idx "java/lang/String" "coder" "B" ∈ am_ws) (kk : Rf G l X (pc + 3) ls (.int 0 :: st) M o) : Rf G l X pc ls (.retAddr w :: st) M (xV w o) := by
  unfold xV
  refine Rf.ite (fun h => ?_) (fun _ => Rf.no)
  refine Rf.goH (fun p e R s m args below meth cd cells slots H locs lsR Q hC hH hS hL k2 => ?_) kk
  have hT := hC.2.2.2.2.2.2.2.2.2.2
  obtain ⟨own, ix, tx, k, rfl, a, v, q1, q2, q3, q4, q5, q6, q7⟩ := am_s1 hT h
  have e : rv G (.retAddr (100 + k)) = .ref a := q1
  rw [List.map_cons, e]
  exact vk_getf hC.1 hC.2.1 q5 hS hC.2.2.2.2.2.2.1 (hT.1 _ hw args) (fun _ h => h) hd k2
theorem r_getZ (hd : decode (xC X) pc = .ok (.getstatic idx, 3)) (hw : Cond.fieldLink (xO X) idx "java/lang/String" "COMPACT_STRINGS" "Z" ∈ am_ws) (kk : Rf G l X (pc + 3) ls (.int 1 :: st) M o) : Rf G l X pc ls st M o := by
  refine Rf.goH (fun p e R s m args below meth cd cells slots H locs lsR Q hC hH hS hL k2 => ?_) kk
  have hT := hC.2.2.2.2.2.2.2.2.2.2
  exact va_gets hC.1 hC.2.1 hT.2.2.2.2.2.2.1 hS hC.2.2.2.2.2.2.1 (hT.1 _ hw args) (fun _ h => h) hd k2
theorem r_getF (hd : decode (xC X) pc = .ok (.getstatic idx, 3)) (hw : Cond.fieldLink (xO X) idx "jdk/internal/util/Preconditions" "SIOOBE_FORMATTER" "Ljava/util/function/BiFunction;" ∈ am_ws) (kk : Rf G l X (pc + 3) ls (.retAddr 4 :: st) M o) : Rf G l X pc ls st M o := by
  refine Rf.goH (fun p e R s m args below meth cd cells slots H locs lsR Q hC hH hS hL k2 => ?_) kk
  have hT := hC.2.2.2.2.2.2.2.2.2.2
  exact va_gets hC.1 hC.2.1 hT.2.2.2.2.2.2.2.1 hS hC.2.2.2.2.2.2.1 (hT.1 _ hw args) (fun _ h => h) hd k2
theorem r_getKL (hd : decode (xC X) pc = .ok (.getstatic idx, 3)) (hw : Cond.fieldLink (xO X) idx "NumberedSparks" "KIND_LEAST" "[I" ∈ am_ws) (kk : Rf G l X (pc + 3) ls (.retAddr 2 :: st) M o) : Rf G l X pc ls st M o := by
  refine Rf.goH (fun p e R s m args below meth cd cells slots H locs lsR Q hC hH hS hL k2 => ?_) kk
  have hT := hC.2.2.2.2.2.2.2.2.2.2
  obtain ⟨a, q1, q2, -⟩ := hT.2.2.2.2.1
  have e : rv G (.retAddr 2) = .ref a := q1
  rw [List.map_cons, e] at k2
  exact va_gets hC.1 hC.2.1 q2 hS hC.2.2.2.2.2.2.1 (hT.1 _ hw args) (fun _ h => h) hd k2
theorem r_getKM (hd : decode (xC X) pc = .ok (.getstatic idx, 3)) (hw : Cond.fieldLink (xO X) idx "NumberedSparks" "KIND_MOST" "[I" ∈ am_ws) (kk : Rf G l X (pc + 3) ls (.retAddr 3 :: st) M o) : Rf G l X pc ls st M o := by
  refine Rf.goH (fun p e R s m args below meth cd cells slots H locs lsR Q hC hH hS hL k2 => ?_) kk
  have hT := hC.2.2.2.2.2.2.2.2.2.2
  obtain ⟨a, q1, q2, -⟩ := hT.2.2.2.2.2.1
  have e : rv G (.retAddr 3) = .ref a := q1
  rw [List.map_cons, e] at k2
  exact va_gets hC.1 hC.2.1 q2 hS hC.2.2.2.2.2.2.1 (hT.1 _ hw args) (fun _ h => h) hd k2
theorem am_tlen {z N : Nat} (h1 : N ≤ z) (h2 : z.toInt32 = Int32.ofNat N) (i : Int32) (hi : i.toNatClampNeg < N) : ¬ z ≤ i.toNatClampNeg := by omega
theorem r_xI {v : Nat} {f : Int32 → am_R} (hd : decode (xC X) pc = .ok (.iaload, 1)) (kk : ∀ x, Rf G l X (pc + 1) ls (.int x :: st) M (f x)) : Rf G l X pc ls (.int i :: .retAddr v :: st) M (xI v i f) := by
  unfold xI
  refine Rf.ite (fun h => ?_) (fun _ => Rf.no)
  refine Rf.goH (fun p e R s m args below meth cd cells slots H locs lsR Q hC hH hS hL k2 => ?_) (kk _)
  have hT := hC.2.2.2.2.2.2.2.2.2.2
  have hlt : i.toNatClampNeg < 5 := Nat.not_le.mp fun q => h.2 (Or.inr q)
  have h0 : ¬ i < 0 := fun q => h.2 (Or.inl q)
  rcases h.1 with rfl | rfl
  · obtain ⟨a, q1, -, q3⟩ := hT.2.2.2.2.1
    obtain ⟨cell, t1, t2, t3, t4, t5, t6, -⟩ := q3.kept hS.2.1
    have e : rv G (.retAddr 2) = .ref a := q1
    rw [List.map_cons, List.map_cons, e]
    exact W.iald hC.1 hC.2.1 t1 t2 t3 (fun q => q.elim h0 (fun z => by omega)) (t6 _ hlt) rfl rfl hd k2
  · obtain ⟨a, q1, -, q3⟩ := hT.2.2.2.2.2.1
    obtain ⟨cell, t1, t2, t3, t4, t5, t6, -⟩ := q3.kept hS.2.1
    have e : rv G (.retAddr 3) = .ref a := q1
    rw [List.map_cons, List.map_cons, e]
    exact W.iald hC.1 hC.2.1 t1 t2 t3 (fun q => q.elim h0 (fun z => by omega)) (t6 _ hlt) rfl rfl hd k2
theorem am_s2 {s : State} (hT : am_Tb G s) (h : 200 ≤ w ∧ w < 240) : ∃ (k v : Nat), w = 200 + k ∧ gS G (200 + k) = .ref v ∧ va_T .byte v (am_sl k) (fun j => .int (am_sb k j)) (gA G) s s.heap := by
  obtain ⟨own, ix, tx, k, hk, a, v, q1, q2, q3, q4, q5, q6, q7⟩ := am_s1 (w := w - 100) hT (by omega)
  exact ⟨k, v, by omega, q2, q7⟩
theorem r_xB {v : Nat} {f : Int32 → am_R} (hd : decode (xC X) pc = .ok (.baload, 1)) (kk : ∀ x, Rf G l X (pc + 1) ls (.int x :: st) M (f x)) : Rf G l X pc ls (.int i :: .retAddr v :: st) M (xB v i f) := by
  unfold xB
  refine Rf.ite (fun h => ?_) (fun _ => Rf.no)
  refine Rf.goH (fun p e R s m args below meth cd cells slots H locs lsR Q hC hH hS hL k2 => ?_) (kk _)
  have hT := hC.2.2.2.2.2.2.2.2.2.2
  obtain ⟨k, v', rfl, q1, q3⟩ := am_s2 hT h.1
  have hlt : i.toNatClampNeg < am_sl k := Nat.not_le.mp fun q => h.2 (Or.inr (by rw [show 200 + k - 200 = k by omega]; exact q))
  have h0 : ¬ i < 0 := fun q => h.2 (Or.inl q)
  obtain ⟨cell, t1, t2, t3, t4, t5, t6, -⟩ := q3.kept hS.2.1
  have e : rv G (.retAddr (200 + k)) = .ref v' := q1
  rw [show 200 + k - 200 = k by omega] at k2
  rw [List.map_cons, List.map_cons, e]
  exact W.bald hC.1 hC.2.1 t1 t2 t3 (fun q => q.elim h0 (fun z => by omega)) (t6 _ hlt) rfl rfl hd k2
theorem r_xLn {v : Nat} {f : Int32 → am_R} (hd : decode (xC X) pc = .ok (.arraylength, 1)) (kk : ∀ x, Rf G l X (pc + 1) ls (.int x :: st) M (f x)) : Rf G l X pc ls (.retAddr v :: st) M (xLn v f) := by
  unfold xLn
  refine Rf.ite (fun h => ?_) (fun _ => Rf.no)
  refine Rf.goH (fun p e R s m args below meth cd cells slots H locs lsR Q hC hH hS hL k2 => ?_) (kk _)
  have hT := hC.2.2.2.2.2.2.2.2.2.2
  obtain ⟨k, v', rfl, q1, q3⟩ := am_s2 hT h
  obtain ⟨cell, t1, t2, t3, t4, t5, t6, -⟩ := q3.kept hS.2.1
  have e : rv G (.retAddr (200 + k)) = .ref v' := q1
  rw [show 200 + k - 200 = k by omega] at k2
  rw [List.map_cons, e]
  exact W.alen hC.1 hC.2.1 t1 t2 t5 rfl rfl hd k2
/-- a method of a String constant -/
theorem r_cvS {f : Int32 → am_M → am_R} (hc : Ct G l y Xc (.retAddr w :: As) M x) (hd : decode (xC X) pc = .ok (.invokevirtual idx, 3)) (hb : am_mb y Xc n) (hw1 : Cond.methodLink (xO X) idx y ∈ am_ws) (hw2 : Cond.instanceMethod y ∈ am_ws) (hw3 : Cond.selects "java/lang/String" y y ∈ am_ws) (hdp : xD Xc + 1 ≤ xD X) (hn : As.length = n) (hst : st = As.reverse ++ .retAddr w :: rest) (hcat : (rest.map Value.category).sum ≤ 8) (kk : ∀ r M1, Rf G l X (pc + 3) ls (.int r :: rest) M1 (f r M1)) : Rf G l X pc ls st M (xV w (bI x f)) := by
  unfold xV
  refine Rf.ite (fun h => ?_) (fun _ => Rf.no)
  rcases hx : x with _ | ⟨_ | v, M1⟩
  · exact Rf.no
  · exact Rf.no
  · cases v <;> first | exact Rf.no | skip
    rename_i r
    refine Rf.callC (v1 := some (.int r)) (M1 := M1) (rest := rest) rfl (hx ▸ hc) hdp (fun p e R s m args below meth cd cells slots H locs lsR mc ms Qc hC hH hS hL hr1 hr2 hM => ?_) (kk r M1)
    obtain ⟨q1, q2, q3, q4⟩ := am_cb (args := args) (mc := mc) (ms := ms) hC hb hdp
    have hts : ∀ w ∈ am_ws, w.before args s = true := fun w hw => hC.2.2.2.2.2.2.2.2.2.2.1 w hw args
    have hT := hC.2.2.2.2.2.2.2.2.2.2
    obtain ⟨own, ix, tx, k, rfl, a, v, z1, z2, z3, z4, z5, z6, z7⟩ := am_s1 hT h
    have e2 : rv G (.retAddr (100 + k)) = .ref a := z1
    subst hst
    have hP := am_entry (M := M) hT hH hS ((.retAddr (100 + k) :: As).map (rv G))
    have hB := am_blind G M ((.retAddr (100 + k) :: As).map (rv G))
    rw [List.map_cons, e2] at hM hP hB ⊢
    obtain ⟨cell, g1, g2, g3, -⟩ := z4.kept hS.2.1
    exact va_runV (Ts := am_ws) (C := "java/lang/String") (As := As.map (rv G)) ⟨hC.1, hC.2.1, hC.2.2.1, hC.2.2.2.2.2.2.1, hts⟩ hM ⟨⟨rfl, rfl, q1, q2, q3, List.mem_singleton.mpr rfl, hts _ hb.1, hts _ hb.2.1, hb.2.2.1, q4, hts _ hw1⟩, hts _ hw2, hts _ hw3⟩ ⟨hB, ⟨cell, g1, g2, g3⟩, hP⟩ rfl (by rw [List.length_map]; exact hn) hL.1 (by simp [e2]) (lv_room (am_cat hT hcat)) hd ⟨hr1, hr2⟩
theorem r_cpy {sp dp nn : Int32} {f : am_M → am_R} (hd : decode (xC X) pc = .ok (.invokestatic idx, 3)) (hw1 : Cond.methodLink (xO X) idx arraycopyName ∈ am_ws) (hw2 : Cond.native arraycopyName ∈ am_ws) (hw3 : Cond.static arraycopyName ∈ am_ws) (hw4 : Cond.initialized "java/lang/System" ∈ am_ws) (hcat : (rest.map Value.category).sum ≤ 8) (hdp : 1 ≤ xD X) (kk : ∀ M1, Rf G l X (pc + 3) ls rest M1 (f M1)) : Rf G l X pc ls (.int nn :: .int dp :: .ref b :: .int sp :: .ref a :: rest) M (cpy M a sp b dp nn f) := by
  unfold cpy
  refine Rf.ite (fun h => ?_) (fun _ => Rf.no)
  obtain ⟨⟨k0, k1⟩, ⟨h1, h2, h3⟩, h4, h5⟩ := h
  refine Rf.goM (M1 := cpI M a sp.toNatClampNeg b dp.toNatClampNeg nn.toNatClampNeg) rfl rfl (fun p e R s m args below meth cd cells slots H locs lsR Q hC hH hS hL kk => ?_) (kk _)
  have hT := hC.2.2.2.2.2.2.2.2.2.2
  have hK := hT.2.1
  have nn' : ∀ z : Int32, ¬ z < 0 → z.toInt = (z.toNatClampNeg : Int) := by
    intro z hz
    have hz0 : (0 : Int) ≤ z.toInt := by
      have := Int32.not_lt.mp hz
      simpa using Int32.le_iff_toInt_le.mp this
    show z.toInt = ((z.toInt.toNat : Nat) : Int)
    omega
  have ha0 : (am_wd G M)[a]? = some (gB G + a, .inl (gC G 0, mLn M a, .inl (rI M a))) := by rw [wd_at (kd_lt k0), cell_I k0]
  have ha1 : (am_wd G M)[b]? = some (gB G + b, .inl (gC G 0, mLn M b, .inl (rI M b))) := by rw [wd_at (kd_lt k1), cell_I k1]
  have hlo := hC.2.2.2.2.2.2.2.2.1
  have hfr := hC.2.2.2.2.2.2.2.1
  have hc8 := am_cat (rest := rest) hT hcat
  intro T hTh XS
  have hc0 : H[gB G + a]? = some (vp_cell (gC G 0) (mLn M a, .inl (rI M a))) := hH.2 a _ ha0
  have hc1 : H[gB G + b]? = some (vp_cell (gC G 0) (mLn M b, .inl (rI M b))) := hH.2 b _ ha1
  have ht : (am_tys G)[0]? = some (gC G 0, .int) := rfl
  obtain ⟨-, kc0, hk0, cm0, hkk0⟩ := (hK.2 0 _ ht).1 (mLn M a) (fun j => .int (rI M a j))
  obtain ⟨-, kc1, hk1, cm1, hkk1⟩ := (hK.2 0 _ ht).1 (mLn M b) (fun j => .int (rI M b j))
  obtain ⟨vm', X', step⟩ := XS.arraycopy hC.1 hC.2.2.2.2.2.2.1 (hT.1 _ hw1 args) (hT.1 _ hw2 args) (hT.1 _ hw3 args) (hT.1 _ hw4 args) (src := gB G + a) (dst := gB G + b) (cs := vp_cell (gC G 0) (mLn M a, .inl (rI M a))) (cd := vp_cell (gC G 0) (mLn M b, .inl (rI M b))) (srcPos := sp) (destPos := dp) (n := nn) (by rw [hTh]; exact hc0) (by rw [hTh]; exact hc1)
    (fun _ h => by cases h) (fun _ h => by cases h) (fun h => by cases h) (fun h => by cases h) hk0 hk1 hkk0 hkk1 (by simp [show refKind .int = false from rfl]) h1 h2 h3
    (by rw [nn' sp h1, nn' nn h3]; show ¬ _ > ((arrV (gC G 0) (mLn M a) (fun j => .int (rI M a j))).slots.size : Int); rw [arrV_size]; omega)
    (by rw [nn' dp h2, nn' nn h3]; show ¬ _ > ((arrV (gC G 0) (mLn M b) (fun j => .int (rI M b j))).slots.size : Int); rw [arrV_size]; omega)
    (fun vm₁ _ i hi => by
      have e : (vp_cell (gC G 0) (mLn M a, .inl (rI M a))).slots.getD (sp.toNatClampNeg + i) .null = .int (rI M a (sp.toNatClampNeg + i)) := by
        show (arrV (gC G 0) (mLn M a) (fun j => .int (rI M a j))).slots.getD _ _ = _
        rw [Array.getD_eq_getD_getElem?, arrV_read _ _ (by omega)]
        rfl
      refine ⟨?_, ?_⟩
      · rw [e]
        rfl
      · rw [e]
        exact trivial)
    (g := F0 m pc lsR (.int nn :: .int dp :: .ref (gB G + b) :: .int sp :: .ref (gB G + a) :: rest.map (rv G))) rfl (by rw [hC.2.2.1]; exact hL.1) (rest := rest.map (rv G)) rfl (by rw [hC.2.1]; exact hd) (Nat.le_trans hdp hfr) (by
      have h37 : nativeFrameWords "java/lang/System" "arraycopy" 5 ≤ 18 := by decide +kernel
      show 2 * 0 + _ + _ ≤ _
      omega)
  have e1 : copied (vp_cell (gC G 0) (mLn M a, .inl (rI M a))) (vp_cell (gC G 0) (mLn M b, .inl (rI M b))) sp dp nn = vp_cell (gC G 0) (mLn M b, .inl (va_cpy (rI M a) (rI M b) sp.toNatClampNeg dp.toNatClampNeg nn.toNatClampNeg)) := va_copied (fun z => .int z) (gC G 0) (gC G 0) (rI M a) (rI M b) h4
  rw [e1] at X' step
  have hl : gB G + b < H.size := (Array.getElem?_eq_some_iff.mp hc1).1
  have hheap : ((T.setVm vm').setCell (gB G + b) (vp_cell (gC G 0) (mLn M b, .inl (va_cpy (rI M a) (rI M b) sp.toNatClampNeg dp.toNatClampNeg nn.toNatClampNeg)))).heap = H.setIfInBounds (gB G + b) (vp_cell (gC G 0) (mLn M b, .inl (va_cpy (rI M a) (rI M b) sp.toNatClampNeg dp.toNatClampNeg nn.toNatClampNeg))) := by rw [← hTh]; rfl
  have oq : ∀ q : Nat, q ≠ gB G + b → (H.setIfInBounds (gB G + b) (vp_cell (gC G 0) (mLn M b, .inl (va_cpy (rI M a) (rI M b) sp.toNatClampNeg dp.toNatClampNeg nn.toNatClampNeg))))[q]? = H[q]? := fun q hq => by simp [Array.getElem?_setIfInBounds, Ne.symm hq]
  have hcell : am_cell G (cpI M a sp.toNatClampNeg b dp.toNatClampNeg nn.toNatClampNeg) b = .inl (gC G 0, mLn M b, .inl (va_cpy (rI M a) (rI M b) sp.toNatClampNeg dp.toNatClampNeg nn.toNatClampNeg)) := by
    rw [cell_I (show mKd (cpI M a sp.toNatClampNeg b dp.toNatClampNeg nn.toNatClampNeg) b = 0 from k1)]
    have : rI (cpI M a sp.toNatClampNeg b dp.toNatClampNeg nn.toNatClampNeg) b = va_cpy (rI M a) (rI M b) sp.toNatClampNeg dp.toNatClampNeg nn.toNatClampNeg := by
      show (if b = b then _ else _) = _
      rw [if_pos rfl]
      rfl
    rw [this]
    rfl
  obtain ⟨t, a1, b1⟩ := kk _ _ (hH.put rfl (fun j hj => cell_same rfl rfl (by show (if j = b then _ else _) = _; rw [if_neg hj]; rfl) rfl rfl) hcell (by simp) (hH.2.set (wd_D G M) ha1 (show (H.setIfInBounds (gB G + b) _)[gB G + b]? = some _ by simp [Array.getElem?_setIfInBounds, hl]) oq)) ⟨by simp; exact hS.1, fun q g1 g2 => by
      rw [oq q (fun e => g2 (by rw [e]; exact Nat.le_add_right _ _))]
      exact hS.2.1 q g1 g2, fun q hq => by
      rcases List.mem_append.mp hq with h | h
      · exact hS.2.2 q h
      · obtain ⟨z, -, hz⟩ := List.mem_map.mp h
        rw [← hz]
        exact Nat.le_add_right _ _⟩ _ hheap X'
  exact ⟨t, step t a1, b1⟩
end RfSp
end
section
/-! ===== words of the tables by their places (printed by wip/whole/gen_tables.py) ===== -/
theorem am_inw {w : Cond} (h : w ∈ lw_tbl) (g : am_gw w = true) : w ∈ am_ws := List.mem_filter.mpr ⟨h, g⟩
theorem am_t1 {w : Cond} (i : Nat) (h : tables_1_1[i]? = some w) (g : am_gw w = true) : w ∈ am_ws := am_inw (List.mem_append_right _ (List.mem_append_left _ (List.mem_of_getElem? h))) g
theorem am_t2 {w : Cond} (i : Nat) (h : tables_1_2[i]? = some w) (g : am_gw w = true) : w ∈ am_ws := am_inw (List.mem_append_right _ (List.mem_append_right _ (List.mem_append_left _ (List.mem_of_getElem? h)))) g
theorem am_t3 {w : Cond} (i : Nat) (h : tables_1_3[i]? = some w) (g : am_gw w = true) : w ∈ am_ws := am_inw (List.mem_append_right _ (List.mem_append_right _ (List.mem_append_right _ (List.mem_append_left _ (List.mem_of_getElem? h))))) g
theorem am_t4 {w : Cond} (i : Nat) (h : tables_1_4[i]? = some w) (g : am_gw w = true) : w ∈ am_ws := am_inw (List.mem_append_right _ (List.mem_append_right _ (List.mem_append_right _ (List.mem_append_right _ (List.mem_append_left _ (List.mem_of_getElem? h)))))) g
theorem am_t5 {w : Cond} (i : Nat) (h : tables_1_5[i]? = some w) (g : am_gw w = true) : w ∈ am_ws := am_inw (List.mem_append_right _ (List.mem_append_right _ (List.mem_append_right _ (List.mem_append_right _ (List.mem_append_right _ (List.mem_append_left _ (List.mem_of_getElem? h))))))) g
theorem am_t6 {w : Cond} (i : Nat) (h : tables_1_6[i]? = some w) (g : am_gw w = true) : w ∈ am_ws := am_inw (List.mem_append_right _ (List.mem_append_right _ (List.mem_append_right _ (List.mem_append_right _ (List.mem_append_right _ (List.mem_append_right _ (List.mem_append_left _ (List.mem_of_getElem? h)))))))) g
theorem am_t7 {w : Cond} (i : Nat) (h : tables_1_7[i]? = some w) (g : am_gw w = true) : w ∈ am_ws := am_inw (List.mem_append_right _ (List.mem_append_right _ (List.mem_append_right _ (List.mem_append_right _ (List.mem_append_right _ (List.mem_append_right _ (List.mem_append_right _ (List.mem_append_left _ (List.mem_of_getElem? h))))))))) g
theorem am_t8 {w : Cond} (i : Nat) (h : tables_1_8[i]? = some w) (g : am_gw w = true) : w ∈ am_ws := am_inw (List.mem_append_right _ (List.mem_append_right _ (List.mem_append_right _ (List.mem_append_right _ (List.mem_append_right _ (List.mem_append_right _ (List.mem_append_right _ (List.mem_append_right _ (List.mem_of_getElem? h))))))))) g
theorem am_tp {w : Cond} (i : Nat) (h : (k2_sels lw_privs)[i]? = some w) (g : am_gw w = true) : w ∈ am_ws := am_inw (List.mem_append_left _ (List.mem_of_getElem? h)) g
theorem wd_0 : (Cond.initialized "NumberedSparksLaw") ∈ am_ws := am_t1 0 rfl rfl
theorem wd_1 : (Cond.initialized "NumberedSparks") ∈ am_ws := am_t1 1 rfl rfl
theorem wd_2 : (Cond.initialized "NumberedSparks$Scene") ∈ am_ws := am_t1 2 rfl rfl
theorem wd_3 : (Cond.initialized "NumberedSparks$Reader") ∈ am_ws := am_t1 3 rfl rfl
theorem wd_4 : (Cond.initialized "NumberedSparks$History") ∈ am_ws := am_t1 4 rfl rfl
theorem wd_5 : (Cond.initialized "NumberedSparks$Output") ∈ am_ws := am_t1 5 rfl rfl
theorem wd_6 : (Cond.initialized "NumberedSparks$Walk") ∈ am_ws := am_t1 6 rfl rfl
theorem wd_7 : (Cond.initialized "NumberedSparks$Spark") ∈ am_ws := am_t1 7 rfl rfl
theorem wd_8 : (Cond.initialized "NumberedSparks$Frame") ∈ am_ws := am_t1 8 rfl rfl
theorem wd_9 : (Cond.initialized "NumberedSparks$Finder") ∈ am_ws := am_t1 9 rfl rfl
theorem wd_10 : (Cond.initialized "NumberedSparksModel") ∈ am_ws := am_t1 10 rfl rfl
theorem wd_11 : (Cond.initialized "java/lang/Math") ∈ am_ws := am_t1 11 rfl rfl
theorem wd_12 : (Cond.initialized "java/util/Arrays") ∈ am_ws := am_t1 12 rfl rfl
theorem wd_13 : (Cond.initialized "java/lang/String") ∈ am_ws := am_t1 13 rfl rfl
theorem wd_14 : (Cond.initialized "java/lang/StringLatin1") ∈ am_ws := am_t1 14 rfl rfl
theorem wd_15 : (Cond.initialized "jdk/internal/util/Preconditions") ∈ am_ws := am_t1 15 rfl rfl
theorem wd_16 : (Cond.initialized "java/lang/StringUTF16") ∈ am_ws := am_t1 16 rfl rfl
theorem wd_17 : (Cond.initialized "java/lang/System") ∈ am_ws := am_t1 17 rfl rfl
theorem wd_18 : (Cond.classLink "NumberedSparksLaw" (7 : Nat) "NumberedSparks") ∈ am_ws := am_t1 18 rfl rfl
theorem wd_19 : (Cond.instantiable "NumberedSparks" (11 : Nat)) ∈ am_ws := am_t1 19 rfl rfl
theorem wd_20 : (Cond.methodLink "NumberedSparksLaw" (9 : Nat) ({ cls := "NumberedSparks", name := "<init>", desc := "()V" } : MethodName)) ∈ am_ws := am_t1 20 rfl rfl
theorem wd_21 : (Cond.instanceMethod ({ cls := "NumberedSparks", name := "<init>", desc := "()V" } : MethodName)) ∈ am_ws := am_t1 21 rfl rfl
theorem wd_22 : (Cond.code ({ cls := "NumberedSparks", name := "<init>", desc := "()V" } : MethodName) prog_1_method_1_code (1 : Nat) (Option.none : Option FieldType)) ∈ am_ws := am_t1 22 rfl rfl
theorem wd_23 : (Cond.methodLink "NumberedSparks" (1 : Nat) ({ cls := "java/lang/Object", name := "<init>", desc := "()V" } : MethodName)) ∈ am_ws := am_t1 23 rfl rfl
theorem wd_24 : (Cond.instanceMethod ({ cls := "java/lang/Object", name := "<init>", desc := "()V" } : MethodName)) ∈ am_ws := am_t1 24 rfl rfl
theorem wd_25 : (Cond.code ({ cls := "java/lang/Object", name := "<init>", desc := "()V" } : MethodName) object_method_1_code (1 : Nat) (Option.none : Option FieldType)) ∈ am_ws := am_t1 25 rfl rfl
theorem wd_26 : (Cond.classLink "NumberedSparks" (13 : Nat) "NumberedSparks$Scene") ∈ am_ws := am_t1 26 rfl rfl
theorem wd_27 : (Cond.instantiable "NumberedSparks$Scene" (8 : Nat)) ∈ am_ws := am_t1 27 rfl rfl
theorem wd_28 : (Cond.methodLinkNest "NumberedSparks" (15 : Nat) ({ cls := "NumberedSparks$Scene", name := "<init>", desc := "()V" } : MethodName) "NumberedSparks") ∈ am_ws := am_t1 28 rfl rfl
theorem wd_29 : (Cond.instanceMethod ({ cls := "NumberedSparks$Scene", name := "<init>", desc := "()V" } : MethodName)) ∈ am_ws := am_t1 29 rfl rfl
theorem wd_30 : (Cond.code ({ cls := "NumberedSparks$Scene", name := "<init>", desc := "()V" } : MethodName) prog_7_method_1_code (1 : Nat) (Option.none : Option FieldType)) ∈ am_ws := am_t1 30 rfl rfl
theorem wd_31 : (Cond.methodLink "NumberedSparks$Scene" (3 : Nat) ({ cls := "java/lang/Object", name := "<init>", desc := "()V" } : MethodName)) ∈ am_ws := am_t1 31 rfl rfl
theorem wd_32 : (Cond.fieldLink "NumberedSparks$Scene" (9 : Nat) "NumberedSparks$Scene" "cells" "[I") ∈ am_ws := am_t1 32 rfl rfl
theorem wd_33 : (Cond.fieldLink "NumberedSparks$Reader" (86 : Nat) "NumberedSparks$Scene" "cells" "[I") ∈ am_ws := am_t1 33 rfl rfl
theorem wd_34 : (Cond.fieldLink "NumberedSparks$Scene" (15 : Nat) "NumberedSparks$Scene" "kinds" "[I") ∈ am_ws := am_t1 34 rfl rfl
theorem wd_35 : (Cond.fieldLink "NumberedSparks$Scene" (18 : Nat) "NumberedSparks$Scene" "sources" "[I") ∈ am_ws := am_t1 35 rfl rfl
theorem wd_36 : (Cond.fieldLink "NumberedSparks$Scene" (27 : Nat) "NumberedSparks$Scene" "kindCount" "I") ∈ am_ws := am_t1 36 rfl rfl
theorem wd_37 : (Cond.fieldLink "NumberedSparks$Walk" (67 : Nat) "NumberedSparks$Scene" "kindCount" "I") ∈ am_ws := am_t1 37 rfl rfl
theorem wd_38 : (Cond.fieldLink "NumberedSparks$Reader" (99 : Nat) "NumberedSparks$Scene" "kindCount" "I") ∈ am_ws := am_t1 38 rfl rfl
theorem wd_39 : (Cond.fieldLink "NumberedSparks" (104 : Nat) "NumberedSparks$Scene" "kindCount" "I") ∈ am_ws := am_t1 39 rfl rfl
theorem wd_40 : (Cond.fieldLink "NumberedSparks$Scene" (31 : Nat) "NumberedSparks$Scene" "sourceCount" "I") ∈ am_ws := am_t1 40 rfl rfl
theorem wd_41 : (Cond.fieldLink "NumberedSparks" (107 : Nat) "NumberedSparks$Scene" "sourceCount" "I") ∈ am_ws := am_t1 41 rfl rfl
theorem wd_42 : (Cond.fieldLink "NumberedSparks$Reader" (146 : Nat) "NumberedSparks$Scene" "sourceCount" "I") ∈ am_ws := am_t1 42 rfl rfl
theorem wd_43 : (Cond.fieldLink "NumberedSparks$Scene" (34 : Nat) "NumberedSparks$Scene" "seed" "I") ∈ am_ws := am_t1 43 rfl rfl
theorem wd_44 : (Cond.fieldLink "NumberedSparks$Reader" (97 : Nat) "NumberedSparks$Scene" "seed" "I") ∈ am_ws := am_t1 44 rfl rfl
theorem wd_45 : (Cond.fieldLink "NumberedSparks$History" (35 : Nat) "NumberedSparks$Scene" "seed" "I") ∈ am_ws := am_t1 45 rfl rfl
theorem wd_46 : (Cond.fieldLink "NumberedSparks" (110 : Nat) "NumberedSparks$Scene" "seed" "I") ∈ am_ws := am_t1 46 rfl rfl
theorem wd_47 : (Cond.fieldLink "NumberedSparks$Scene" (37 : Nat) "NumberedSparks$Scene" "seedTold" "Z") ∈ am_ws := am_t1 47 rfl rfl
theorem wd_48 : (Cond.fieldLink "NumberedSparks$Reader" (92 : Nat) "NumberedSparks$Scene" "seedTold" "Z") ∈ am_ws := am_t1 48 rfl rfl
theorem wd_49 : (Cond.fieldLink "NumberedSparks$Frame" (51 : Nat) "NumberedSparks$Scene" "stands" "Z") ∈ am_ws := am_t1 49 rfl rfl
theorem wd_50 : (Cond.fieldLink "NumberedSparks$Scene" (47 : Nat) "NumberedSparks$Scene" "stands" "Z") ∈ am_ws := am_t1 50 rfl rfl
theorem wd_51 : (Cond.fieldLink "NumberedSparks" (130 : Nat) "NumberedSparks$Scene" "stands" "Z") ∈ am_ws := am_t1 51 rfl rfl
theorem wd_69 : (Cond.arrayClass FieldType.int) ∈ am_ws := am_t1 69 rfl rfl
theorem wd_70 : (Cond.classLink "NumberedSparks" (20 : Nat) "NumberedSparks$Reader") ∈ am_ws := am_t1 70 rfl rfl
theorem wd_71 : (Cond.instantiable "NumberedSparks$Reader" (9 : Nat)) ∈ am_ws := am_t1 71 rfl rfl
theorem wd_72 : (Cond.methodLinkNest "NumberedSparks" (22 : Nat) ({ cls := "NumberedSparks$Reader", name := "<init>", desc := "()V" } : MethodName) "NumberedSparks") ∈ am_ws := am_t1 72 rfl rfl
theorem wd_73 : (Cond.instanceMethod ({ cls := "NumberedSparks$Reader", name := "<init>", desc := "()V" } : MethodName)) ∈ am_ws := am_t1 73 rfl rfl
theorem wd_74 : (Cond.code ({ cls := "NumberedSparks$Reader", name := "<init>", desc := "()V" } : MethodName) prog_6_method_1_code (1 : Nat) (Option.none : Option FieldType)) ∈ am_ws := am_t1 74 rfl rfl
theorem wd_75 : (Cond.methodLink "NumberedSparks$Reader" (3 : Nat) ({ cls := "java/lang/Object", name := "<init>", desc := "()V" } : MethodName)) ∈ am_ws := am_t1 75 rfl rfl
theorem wd_76 : (Cond.classLink "NumberedSparks$Reader" (9 : Nat) "NumberedSparks$Scene") ∈ am_ws := am_t1 76 rfl rfl
theorem wd_77 : (Cond.methodLinkNest "NumberedSparks$Reader" (11 : Nat) ({ cls := "NumberedSparks$Scene", name := "<init>", desc := "()V" } : MethodName) "NumberedSparks") ∈ am_ws := am_t1 77 rfl rfl
theorem wd_78 : (Cond.fieldLink "NumberedSparks$Reader" (12 : Nat) "NumberedSparks$Reader" "draft" "LNumberedSparks$Scene;") ∈ am_ws := am_t1 78 rfl rfl
theorem wd_79 : (Cond.fieldLink "NumberedSparks" (84 : Nat) "NumberedSparks$Reader" "draft" "LNumberedSparks$Scene;") ∈ am_ws := am_t1 79 rfl rfl
theorem wd_80 : (Cond.fieldLink "NumberedSparks$Reader" (38 : Nat) "NumberedSparks$Reader" "fault" "I") ∈ am_ws := am_t1 80 rfl rfl
theorem wd_81 : (Cond.fieldLink "NumberedSparks" (94 : Nat) "NumberedSparks$Reader" "fault" "I") ∈ am_ws := am_t1 81 rfl rfl
theorem wd_82 : (Cond.fieldLink "NumberedSparks$Reader" (18 : Nat) "NumberedSparks$Reader" "faultPlace" "I") ∈ am_ws := am_t1 82 rfl rfl
theorem wd_83 : (Cond.fieldLink "NumberedSparks" (97 : Nat) "NumberedSparks$Reader" "faultPlace" "I") ∈ am_ws := am_t1 83 rfl rfl
theorem wd_84 : (Cond.fieldLink "NumberedSparks$Reader" (22 : Nat) "NumberedSparks$Reader" "text" "[I") ∈ am_ws := am_t1 84 rfl rfl
theorem wd_85 : (Cond.fieldLink "NumberedSparks$Reader" (32 : Nat) "NumberedSparks$Reader" "length" "I") ∈ am_ws := am_t1 85 rfl rfl
theorem wd_86 : (Cond.fieldLink "NumberedSparks$Reader" (50 : Nat) "NumberedSparks$Reader" "token" "I") ∈ am_ws := am_t1 86 rfl rfl
theorem wd_87 : (Cond.fieldLink "NumberedSparks$Reader" (170 : Nat) "NumberedSparks$Reader" "start" "I") ∈ am_ws := am_t1 87 rfl rfl
theorem wd_88 : (Cond.fieldLink "NumberedSparks$Reader" (41 : Nat) "NumberedSparks$Reader" "beyond" "I") ∈ am_ws := am_t1 88 rfl rfl
theorem wd_89 : (Cond.fieldLink "NumberedSparks$Reader" (137 : Nat) "NumberedSparks$Reader" "value" "I") ∈ am_ws := am_t1 89 rfl rfl
theorem wd_109 : (Cond.classLink "NumberedSparks" (27 : Nat) "NumberedSparks$History") ∈ am_ws := am_t1 109 rfl rfl
theorem wd_110 : (Cond.instantiable "NumberedSparks$History" (4 : Nat)) ∈ am_ws := am_t1 110 rfl rfl
theorem wd_111 : (Cond.methodLinkNest "NumberedSparks" (29 : Nat) ({ cls := "NumberedSparks$History", name := "<init>", desc := "()V" } : MethodName) "NumberedSparks") ∈ am_ws := am_t1 111 rfl rfl
theorem wd_112 : (Cond.instanceMethod ({ cls := "NumberedSparks$History", name := "<init>", desc := "()V" } : MethodName)) ∈ am_ws := am_t1 112 rfl rfl
theorem wd_113 : (Cond.code ({ cls := "NumberedSparks$History", name := "<init>", desc := "()V" } : MethodName) prog_4_method_1_code (1 : Nat) (Option.none : Option FieldType)) ∈ am_ws := am_t1 113 rfl rfl
theorem wd_114 : (Cond.methodLink "NumberedSparks$History" (3 : Nat) ({ cls := "java/lang/Object", name := "<init>", desc := "()V" } : MethodName)) ∈ am_ws := am_t1 114 rfl rfl
theorem wd_115 : (Cond.fieldLink "NumberedSparks$History" (11 : Nat) "NumberedSparks$History" "kinds" "[I") ∈ am_ws := am_t1 115 rfl rfl
theorem wd_116 : (Cond.fieldLink "NumberedSparks$History" (15 : Nat) "NumberedSparks$History" "whats" "[I") ∈ am_ws := am_t1 116 rfl rfl
theorem wd_117 : (Cond.fieldLink "NumberedSparks$History" (18 : Nat) "NumberedSparks$History" "values" "[I") ∈ am_ws := am_t1 117 rfl rfl
theorem wd_118 : (Cond.fieldLink "NumberedSparks$History" (21 : Nat) "NumberedSparks$History" "length" "I") ∈ am_ws := am_t1 118 rfl rfl
theorem wd_119 : (Cond.fieldLink "NumberedSparks" (155 : Nat) "NumberedSparks$History" "length" "I") ∈ am_ws := am_t1 119 rfl rfl
theorem wd_129 : (Cond.classLink "NumberedSparks" (34 : Nat) "NumberedSparks$Output") ∈ am_ws := am_t1 129 rfl rfl
theorem wd_130 : (Cond.instantiable "NumberedSparks$Output" (2 : Nat)) ∈ am_ws := am_t1 130 rfl rfl
theorem wd_131 : (Cond.methodLinkNest "NumberedSparks" (36 : Nat) ({ cls := "NumberedSparks$Output", name := "<init>", desc := "()V" } : MethodName) "NumberedSparks") ∈ am_ws := am_t1 131 rfl rfl
theorem wd_132 : (Cond.instanceMethod ({ cls := "NumberedSparks$Output", name := "<init>", desc := "()V" } : MethodName)) ∈ am_ws := am_t1 132 rfl rfl
theorem wd_133 : (Cond.code ({ cls := "NumberedSparks$Output", name := "<init>", desc := "()V" } : MethodName) prog_5_method_1_code (1 : Nat) (Option.none : Option FieldType)) ∈ am_ws := am_t1 133 rfl rfl
theorem wd_134 : (Cond.methodLink "NumberedSparks$Output" (3 : Nat) ({ cls := "java/lang/Object", name := "<init>", desc := "()V" } : MethodName)) ∈ am_ws := am_t1 134 rfl rfl
theorem wd_135 : (Cond.fieldLink "NumberedSparks$Output" (9 : Nat) "NumberedSparks$Output" "bytes" "[I") ∈ am_ws := am_t1 135 rfl rfl
theorem wd_136 : (Cond.fieldLink "NumberedSparks$Output" (15 : Nat) "NumberedSparks$Output" "length" "I") ∈ am_ws := am_t1 136 rfl rfl
theorem wd_137 : (Cond.fieldLink "NumberedSparks" (113 : Nat) "NumberedSparks$Output" "length" "I") ∈ am_ws := am_t1 137 rfl rfl
theorem wd_143 : (Cond.classLink "NumberedSparks" (41 : Nat) "NumberedSparks$Walk") ∈ am_ws := am_t1 143 rfl rfl
theorem wd_144 : (Cond.instantiable "NumberedSparks$Walk" (9 : Nat)) ∈ am_ws := am_t1 144 rfl rfl
theorem wd_145 : (Cond.methodLink "NumberedSparks" (43 : Nat) ({ cls := "NumberedSparks$Walk", name := "<init>", desc := "(LNumberedSparks$Scene;)V" } : MethodName)) ∈ am_ws := am_t1 145 rfl rfl
theorem wd_146 : (Cond.instanceMethod ({ cls := "NumberedSparks$Walk", name := "<init>", desc := "(LNumberedSparks$Scene;)V" } : MethodName)) ∈ am_ws := am_t1 146 rfl rfl
theorem wd_147 : (Cond.code ({ cls := "NumberedSparks$Walk", name := "<init>", desc := "(LNumberedSparks$Scene;)V" } : MethodName) prog_9_method_1_code (3 : Nat) (Option.none : Option FieldType)) ∈ am_ws := am_t1 147 rfl rfl
theorem wd_148 : (Cond.methodLink "NumberedSparks$Walk" (3 : Nat) ({ cls := "java/lang/Object", name := "<init>", desc := "()V" } : MethodName)) ∈ am_ws := am_t1 148 rfl rfl
theorem wd_149 : (Cond.classLink "NumberedSparks$Walk" (9 : Nat) "NumberedSparks$Spark") ∈ am_ws := am_t1 149 rfl rfl
theorem wd_151 : (Cond.instantiable "NumberedSparks$Spark" (10 : Nat)) ∈ am_ws := am_t1 151 rfl rfl
theorem wd_152 : (Cond.methodLink "NumberedSparks$Walk" (34 : Nat) ({ cls := "NumberedSparks$Spark", name := "<init>", desc := "(LNumberedSparks$Scene;)V" } : MethodName)) ∈ am_ws := am_t1 152 rfl rfl
theorem wd_153 : (Cond.instanceMethod ({ cls := "NumberedSparks$Spark", name := "<init>", desc := "(LNumberedSparks$Scene;)V" } : MethodName)) ∈ am_ws := am_t1 153 rfl rfl
theorem wd_154 : (Cond.code ({ cls := "NumberedSparks$Spark", name := "<init>", desc := "(LNumberedSparks$Scene;)V" } : MethodName) prog_8_method_1_code (2 : Nat) (Option.none : Option FieldType)) ∈ am_ws := am_t1 154 rfl rfl
theorem wd_155 : (Cond.methodLink "NumberedSparks$Spark" (3 : Nat) ({ cls := "java/lang/Object", name := "<init>", desc := "()V" } : MethodName)) ∈ am_ws := am_t1 155 rfl rfl
theorem wd_156 : (Cond.fieldLink "NumberedSparks$Spark" (18 : Nat) "NumberedSparks$Spark" "scene" "LNumberedSparks$Scene;") ∈ am_ws := am_t1 156 rfl rfl
theorem wd_157 : (Cond.fieldLink "NumberedSparks$Spark" (9 : Nat) "NumberedSparks$Spark" "start" "[I") ∈ am_ws := am_t1 157 rfl rfl
theorem wd_158 : (Cond.fieldLink "NumberedSparks" (264 : Nat) "NumberedSparks$Spark" "start" "[I") ∈ am_ws := am_t1 158 rfl rfl
theorem wd_159 : (Cond.fieldLink "NumberedSparks$Spark" (15 : Nat) "NumberedSparks$Spark" "speed" "[I") ∈ am_ws := am_t1 159 rfl rfl
theorem wd_160 : (Cond.fieldLink "NumberedSparks" (203 : Nat) "NumberedSparks$Spark" "speed" "[I") ∈ am_ws := am_t1 160 rfl rfl
theorem wd_161 : (Cond.fieldLink "NumberedSparks$Spark" (26 : Nat) "NumberedSparks$Spark" "code" "I") ∈ am_ws := am_t1 161 rfl rfl
theorem wd_162 : (Cond.fieldLink "NumberedSparks$Frame" (97 : Nat) "NumberedSparks$Spark" "code" "I") ∈ am_ws := am_t1 162 rfl rfl
theorem wd_163 : (Cond.fieldLink "NumberedSparks" (249 : Nat) "NumberedSparks$Spark" "code" "I") ∈ am_ws := am_t1 163 rfl rfl
theorem wd_164 : (Cond.fieldLink "NumberedSparks$Spark" (35 : Nat) "NumberedSparks$Spark" "kind" "I") ∈ am_ws := am_t1 164 rfl rfl
theorem wd_165 : (Cond.fieldLink "NumberedSparks$Frame" (100 : Nat) "NumberedSparks$Spark" "kind" "I") ∈ am_ws := am_t1 165 rfl rfl
theorem wd_166 : (Cond.fieldLink "NumberedSparks$Walk" (101 : Nat) "NumberedSparks$Spark" "kind" "I") ∈ am_ws := am_t1 166 rfl rfl
theorem wd_167 : (Cond.fieldLink "NumberedSparks" (180 : Nat) "NumberedSparks$Spark" "kind" "I") ∈ am_ws := am_t1 167 rfl rfl
theorem wd_168 : (Cond.fieldLink "NumberedSparks$Spark" (38 : Nat) "NumberedSparks$Spark" "generation" "I") ∈ am_ws := am_t1 168 rfl rfl
theorem wd_169 : (Cond.fieldLink "NumberedSparks$Walk" (118 : Nat) "NumberedSparks$Spark" "generation" "I") ∈ am_ws := am_t1 169 rfl rfl
theorem wd_170 : (Cond.fieldLink "NumberedSparks" (191 : Nat) "NumberedSparks$Spark" "generation" "I") ∈ am_ws := am_t1 170 rfl rfl
theorem wd_171 : (Cond.fieldLink "NumberedSparks$Spark" (41 : Nat) "NumberedSparks$Spark" "born" "I") ∈ am_ws := am_t1 171 rfl rfl
theorem wd_172 : (Cond.fieldLink "NumberedSparks$Frame" (92 : Nat) "NumberedSparks$Spark" "born" "I") ∈ am_ws := am_t1 172 rfl rfl
theorem wd_173 : (Cond.fieldLink "NumberedSparks$Walk" (112 : Nat) "NumberedSparks$Spark" "born" "I") ∈ am_ws := am_t1 173 rfl rfl
theorem wd_174 : (Cond.fieldLink "NumberedSparks" (197 : Nat) "NumberedSparks$Spark" "born" "I") ∈ am_ws := am_t1 174 rfl rfl
theorem wd_175 : (Cond.fieldLink "NumberedSparks$Spark" (51 : Nat) "NumberedSparks$Spark" "ends" "I") ∈ am_ws := am_t1 175 rfl rfl
theorem wd_176 : (Cond.fieldLink "NumberedSparks$Frame" (103 : Nat) "NumberedSparks$Spark" "ends" "I") ∈ am_ws := am_t1 176 rfl rfl
theorem wd_177 : (Cond.fieldLink "NumberedSparks$Walk" (115 : Nat) "NumberedSparks$Spark" "ends" "I") ∈ am_ws := am_t1 177 rfl rfl
theorem wd_178 : (Cond.fieldLink "NumberedSparks" (200 : Nat) "NumberedSparks$Spark" "ends" "I") ∈ am_ws := am_t1 178 rfl rfl
theorem wd_179 : (Cond.fieldLink "NumberedSparks$Spark" (60 : Nat) "NumberedSparks$Spark" "falls" "I") ∈ am_ws := am_t1 179 rfl rfl
theorem wd_180 : (Cond.fieldLink "NumberedSparks$Spark" (63 : Nat) "NumberedSparks$Spark" "edge" "I") ∈ am_ws := am_t1 180 rfl rfl
theorem wd_202 : (Cond.fieldLink "NumberedSparks$Walk" (30 : Nat) "NumberedSparks$Walk" "scene" "LNumberedSparks$Scene;") ∈ am_ws := am_t1 202 rfl rfl
theorem wd_203 : (Cond.fieldLink "NumberedSparks$Walk" (11 : Nat) "NumberedSparks$Walk" "line" "[LNumberedSparks$Spark;") ∈ am_ws := am_t1 203 rfl rfl
theorem wd_204 : (Cond.fieldLink "NumberedSparks$Walk" (17 : Nat) "NumberedSparks$Walk" "shownRows" "[I") ∈ am_ws := am_t1 204 rfl rfl
theorem wd_205 : (Cond.fieldLink "NumberedSparks$Walk" (21 : Nat) "NumberedSparks$Walk" "nextRoot" "[I") ∈ am_ws := am_t1 205 rfl rfl
theorem wd_206 : (Cond.fieldLink "NumberedSparks$Walk" (24 : Nat) "NumberedSparks$Walk" "beyondRoots" "[I") ∈ am_ws := am_t1 206 rfl rfl
theorem wd_207 : (Cond.fieldLink "NumberedSparks$Walk" (27 : Nat) "NumberedSparks$Walk" "spans" "[I") ∈ am_ws := am_t1 207 rfl rfl
theorem wd_208 : (Cond.fieldLink "NumberedSparks$Walk" (37 : Nat) "NumberedSparks$Walk" "first" "I") ∈ am_ws := am_t1 208 rfl rfl
theorem wd_209 : (Cond.fieldLink "NumberedSparks$Walk" (41 : Nat) "NumberedSparks$Walk" "beyond" "I") ∈ am_ws := am_t1 209 rfl rfl
theorem wd_210 : (Cond.fieldLink "NumberedSparks$Frame" (75 : Nat) "NumberedSparks$Walk" "showing" "I") ∈ am_ws := am_t1 210 rfl rfl
theorem wd_211 : (Cond.fieldLink "NumberedSparks$Walk" (76 : Nat) "NumberedSparks$Walk" "showing" "I") ∈ am_ws := am_t1 211 rfl rfl
theorem wd_212 : (Cond.fieldLink "NumberedSparks" (243 : Nat) "NumberedSparks$Walk" "showing" "I") ∈ am_ws := am_t1 212 rfl rfl
theorem wd_232 : (Cond.classLink "NumberedSparks" (50 : Nat) "NumberedSparks$Frame") ∈ am_ws := am_t1 232 rfl rfl
theorem wd_233 : (Cond.instantiable "NumberedSparks$Frame" (13 : Nat)) ∈ am_ws := am_t1 233 rfl rfl
theorem wd_234 : (Cond.methodLink "NumberedSparks" (52 : Nat) ({ cls := "NumberedSparks$Frame", name := "<init>", desc := "(LNumberedSparks$Scene;LNumberedSparks$Walk;)V" } : MethodName)) ∈ am_ws := am_t1 234 rfl rfl
theorem wd_235 : (Cond.instanceMethod ({ cls := "NumberedSparks$Frame", name := "<init>", desc := "(LNumberedSparks$Scene;LNumberedSparks$Walk;)V" } : MethodName)) ∈ am_ws := am_t1 235 rfl rfl
theorem wd_236 : (Cond.code ({ cls := "NumberedSparks$Frame", name := "<init>", desc := "(LNumberedSparks$Scene;LNumberedSparks$Walk;)V" } : MethodName) prog_3_method_1_code (3 : Nat) (Option.none : Option FieldType)) ∈ am_ws := am_t1 236 rfl rfl
theorem wd_237 : (Cond.methodLink "NumberedSparks$Frame" (3 : Nat) ({ cls := "java/lang/Object", name := "<init>", desc := "()V" } : MethodName)) ∈ am_ws := am_t1 237 rfl rfl
theorem wd_238 : (Cond.fieldLink "NumberedSparks$Frame" (43 : Nat) "NumberedSparks$Frame" "scene" "LNumberedSparks$Scene;") ∈ am_ws := am_t1 238 rfl rfl
theorem wd_239 : (Cond.fieldLink "NumberedSparks$Frame" (47 : Nat) "NumberedSparks$Frame" "walk" "LNumberedSparks$Walk;") ∈ am_ws := am_t1 239 rfl rfl
theorem wd_240 : (Cond.fieldLink "NumberedSparks$Frame" (61 : Nat) "NumberedSparks$Frame" "length" "I") ∈ am_ws := am_t2 0 rfl rfl
theorem wd_241 : (Cond.fieldLink "NumberedSparks" (312 : Nat) "NumberedSparks$Frame" "length" "I") ∈ am_ws := am_t2 1 rfl rfl
theorem wd_242 : (Cond.fieldLink "NumberedSparks$Frame" (9 : Nat) "NumberedSparks$Frame" "codes" "[I") ∈ am_ws := am_t2 2 rfl rfl
theorem wd_243 : (Cond.fieldLink "NumberedSparks" (316 : Nat) "NumberedSparks$Frame" "codes" "[I") ∈ am_ws := am_t2 3 rfl rfl
theorem wd_244 : (Cond.fieldLink "NumberedSparks$Frame" (15 : Nat) "NumberedSparks$Frame" "kinds" "[I") ∈ am_ws := am_t2 4 rfl rfl
theorem wd_245 : (Cond.fieldLink "NumberedSparks" (313 : Nat) "NumberedSparks$Frame" "kinds" "[I") ∈ am_ws := am_t2 5 rfl rfl
theorem wd_246 : (Cond.fieldLink "NumberedSparks$Frame" (18 : Nat) "NumberedSparks$Frame" "borns" "[I") ∈ am_ws := am_t2 6 rfl rfl
theorem wd_247 : (Cond.fieldLink "NumberedSparks" (361 : Nat) "NumberedSparks$Frame" "borns" "[I") ∈ am_ws := am_t2 7 rfl rfl
theorem wd_248 : (Cond.fieldLink "NumberedSparks$Frame" (21 : Nat) "NumberedSparks$Frame" "ends" "[I") ∈ am_ws := am_t2 8 rfl rfl
theorem wd_249 : (Cond.fieldLink "NumberedSparks" (364 : Nat) "NumberedSparks$Frame" "ends" "[I") ∈ am_ws := am_t2 9 rfl rfl
theorem wd_250 : (Cond.fieldLink "NumberedSparks$Frame" (24 : Nat) "NumberedSparks$Frame" "xs" "[I") ∈ am_ws := am_t2 10 rfl rfl
theorem wd_251 : (Cond.fieldLink "NumberedSparks" (326 : Nat) "NumberedSparks$Frame" "xs" "[I") ∈ am_ws := am_t2 11 rfl rfl
theorem wd_252 : (Cond.fieldLink "NumberedSparks$Frame" (27 : Nat) "NumberedSparks$Frame" "ys" "[I") ∈ am_ws := am_t2 12 rfl rfl
theorem wd_253 : (Cond.fieldLink "NumberedSparks" (329 : Nat) "NumberedSparks$Frame" "ys" "[I") ∈ am_ws := am_t2 13 rfl rfl
theorem wd_254 : (Cond.fieldLink "NumberedSparks$Frame" (30 : Nat) "NumberedSparks$Frame" "zs" "[I") ∈ am_ws := am_t2 14 rfl rfl
theorem wd_255 : (Cond.fieldLink "NumberedSparks" (332 : Nat) "NumberedSparks$Frame" "zs" "[I") ∈ am_ws := am_t2 15 rfl rfl
theorem wd_256 : (Cond.fieldLink "NumberedSparks$Frame" (33 : Nat) "NumberedSparks$Frame" "order" "[I") ∈ am_ws := am_t2 16 rfl rfl
theorem wd_257 : (Cond.fieldLink "NumberedSparks" (319 : Nat) "NumberedSparks$Frame" "order" "[I") ∈ am_ws := am_t2 17 rfl rfl
theorem wd_258 : (Cond.fieldLink "NumberedSparks$Frame" (36 : Nat) "NumberedSparks$Frame" "depths" "[I") ∈ am_ws := am_t2 18 rfl rfl
theorem wd_259 : (Cond.fieldLink "NumberedSparks$Frame" (39 : Nat) "NumberedSparks$Frame" "tick" "I") ∈ am_ws := am_t2 19 rfl rfl
theorem wd_287 : (Cond.classLink "NumberedSparks" (59 : Nat) "NumberedSparks$Finder") ∈ am_ws := am_t2 47 rfl rfl
theorem wd_288 : (Cond.instantiable "NumberedSparks$Finder" (4 : Nat)) ∈ am_ws := am_t2 48 rfl rfl
theorem wd_289 : (Cond.methodLink "NumberedSparks" (61 : Nat) ({ cls := "NumberedSparks$Finder", name := "<init>", desc := "(LNumberedSparks$Scene;)V" } : MethodName)) ∈ am_ws := am_t2 49 rfl rfl
theorem wd_290 : (Cond.instanceMethod ({ cls := "NumberedSparks$Finder", name := "<init>", desc := "(LNumberedSparks$Scene;)V" } : MethodName)) ∈ am_ws := am_t2 50 rfl rfl
theorem wd_291 : (Cond.code ({ cls := "NumberedSparks$Finder", name := "<init>", desc := "(LNumberedSparks$Scene;)V" } : MethodName) prog_2_method_1_code (2 : Nat) (Option.none : Option FieldType)) ∈ am_ws := am_t2 51 rfl rfl
theorem wd_292 : (Cond.methodLink "NumberedSparks$Finder" (1 : Nat) ({ cls := "java/lang/Object", name := "<init>", desc := "()V" } : MethodName)) ∈ am_ws := am_t2 52 rfl rfl
theorem wd_293 : (Cond.classLink "NumberedSparks$Finder" (13 : Nat) "NumberedSparks$Spark") ∈ am_ws := am_t2 53 rfl rfl
theorem wd_294 : (Cond.methodLink "NumberedSparks$Finder" (15 : Nat) ({ cls := "NumberedSparks$Spark", name := "<init>", desc := "(LNumberedSparks$Scene;)V" } : MethodName)) ∈ am_ws := am_t2 54 rfl rfl
theorem wd_295 : (Cond.fieldLink "NumberedSparks$Finder" (7 : Nat) "NumberedSparks$Finder" "scene" "LNumberedSparks$Scene;") ∈ am_ws := am_t2 55 rfl rfl
theorem wd_296 : (Cond.fieldLink "NumberedSparks$Finder" (18 : Nat) "NumberedSparks$Finder" "own" "LNumberedSparks$Spark;") ∈ am_ws := am_t2 56 rfl rfl
theorem wd_297 : (Cond.fieldLink "NumberedSparks$Finder" (22 : Nat) "NumberedSparks$Finder" "child" "LNumberedSparks$Spark;") ∈ am_ws := am_t2 57 rfl rfl
theorem wd_298 : (Cond.fieldLink "NumberedSparks$Finder" (25 : Nat) "NumberedSparks$Finder" "grandchild" "LNumberedSparks$Spark;") ∈ am_ws := am_t2 58 rfl rfl
theorem wd_308 : (Cond.fieldLink "NumberedSparks" (9 : Nat) "NumberedSparks" "tape" "[I") ∈ am_ws := am_t2 68 rfl rfl
theorem wd_309 : (Cond.fieldLink "NumberedSparks" (72 : Nat) "NumberedSparks" "tapeLength" "I") ∈ am_ws := am_t2 69 rfl rfl
theorem wd_310 : (Cond.fieldLink "NumberedSparks" (16 : Nat) "NumberedSparks" "scene" "LNumberedSparks$Scene;") ∈ am_ws := am_t2 70 rfl rfl
theorem wd_311 : (Cond.fieldLink "NumberedSparks" (23 : Nat) "NumberedSparks" "reader" "LNumberedSparks$Reader;") ∈ am_ws := am_t2 71 rfl rfl
theorem wd_312 : (Cond.fieldLink "NumberedSparks" (30 : Nat) "NumberedSparks" "history" "LNumberedSparks$History;") ∈ am_ws := am_t2 72 rfl rfl
theorem wd_313 : (Cond.fieldLink "NumberedSparks" (37 : Nat) "NumberedSparks" "out" "LNumberedSparks$Output;") ∈ am_ws := am_t2 73 rfl rfl
theorem wd_314 : (Cond.fieldLink "NumberedSparks" (46 : Nat) "NumberedSparks" "walk" "LNumberedSparks$Walk;") ∈ am_ws := am_t2 74 rfl rfl
theorem wd_315 : (Cond.fieldLink "NumberedSparks" (55 : Nat) "NumberedSparks" "frame" "LNumberedSparks$Frame;") ∈ am_ws := am_t2 75 rfl rfl
theorem wd_316 : (Cond.fieldLink "NumberedSparks" (62 : Nat) "NumberedSparks" "finder" "LNumberedSparks$Finder;") ∈ am_ws := am_t2 76 rfl rfl
theorem wd_317 : (Cond.fieldLink "NumberedSparks" (66 : Nat) "NumberedSparks" "otherFinder" "LNumberedSparks$Finder;") ∈ am_ws := am_t2 77 rfl rfl
theorem wd_318 : (Cond.fieldLink "NumberedSparks" (69 : Nat) "NumberedSparks" "counts" "[I") ∈ am_ws := am_t2 78 rfl rfl
theorem wd_342 : (Cond.methodLink "NumberedSparksLaw" (13 : Nat) ({ cls := "NumberedSparks", name := "feed", desc := "(IIIII)I" } : MethodName)) ∈ am_ws := am_t2 102 rfl rfl
theorem wd_343 : (Cond.instanceMethod ({ cls := "NumberedSparks", name := "feed", desc := "(IIIII)I" } : MethodName)) ∈ am_ws := am_t2 103 rfl rfl
theorem wd_344 : (Cond.selects "NumberedSparks" ({ cls := "NumberedSparks", name := "feed", desc := "(IIIII)I" } : MethodName) ({ cls := "NumberedSparks", name := "feed", desc := "(IIIII)I" } : MethodName)) ∈ am_ws := am_t2 104 rfl rfl
theorem wd_345 : (Cond.code ({ cls := "NumberedSparks", name := "feed", desc := "(IIIII)I" } : MethodName) prog_1_method_2_code (6 : Nat) (Option.some FieldType.int)) ∈ am_ws := am_t2 105 rfl rfl
theorem wd_346 : (Cond.methodLink "NumberedSparks" (76 : Nat) ({ cls := "NumberedSparks", name := "putOnTape", desc := "(I)V" } : MethodName)) ∈ am_ws := am_t2 106 rfl rfl
theorem wd_348 : (Cond.instanceMethod ({ cls := "NumberedSparks", name := "putOnTape", desc := "(I)V" } : MethodName)) ∈ am_ws := am_t2 108 rfl rfl
theorem wd_349 : (Cond.code ({ cls := "NumberedSparks", name := "putOnTape", desc := "(I)V" } : MethodName) prog_1_method_3_code (3 : Nat) (Option.none : Option FieldType)) ∈ am_ws := am_t2 109 rfl rfl
theorem wd_350 : (Cond.methodLink "NumberedSparksLaw" (18 : Nat) ({ cls := "NumberedSparks", name := "end", desc := "(I)I" } : MethodName)) ∈ am_ws := am_t2 110 rfl rfl
theorem wd_351 : (Cond.instanceMethod ({ cls := "NumberedSparks", name := "end", desc := "(I)I" } : MethodName)) ∈ am_ws := am_t2 111 rfl rfl
theorem wd_352 : (Cond.selects "NumberedSparks" ({ cls := "NumberedSparks", name := "end", desc := "(I)I" } : MethodName) ({ cls := "NumberedSparks", name := "end", desc := "(I)I" } : MethodName)) ∈ am_ws := am_t2 112 rfl rfl
theorem wd_353 : (Cond.code ({ cls := "NumberedSparks", name := "end", desc := "(I)I" } : MethodName) prog_1_method_4_code (2 : Nat) (Option.some FieldType.int)) ∈ am_ws := am_t2 113 rfl rfl
theorem wd_354 : (Cond.methodLink "NumberedSparksLaw" (23 : Nat) ({ cls := "NumberedSparks", name := "scene", desc := "()I" } : MethodName)) ∈ am_ws := am_t2 114 rfl rfl
theorem wd_355 : (Cond.instanceMethod ({ cls := "NumberedSparks", name := "scene", desc := "()I" } : MethodName)) ∈ am_ws := am_t2 115 rfl rfl
theorem wd_356 : (Cond.selects "NumberedSparks" ({ cls := "NumberedSparks", name := "scene", desc := "()I" } : MethodName) ({ cls := "NumberedSparks", name := "scene", desc := "()I" } : MethodName)) ∈ am_ws := am_t2 116 rfl rfl
theorem wd_357 : (Cond.code ({ cls := "NumberedSparks", name := "scene", desc := "()I" } : MethodName) prog_1_method_5_code (2 : Nat) (Option.some FieldType.int)) ∈ am_ws := am_t2 117 rfl rfl
theorem wd_358 : (Cond.methodLink "NumberedSparks" (80 : Nat) ({ cls := "NumberedSparks$Reader", name := "read", desc := "([II)I" } : MethodName)) ∈ am_ws := am_t2 118 rfl rfl
theorem wd_359 : (Cond.instanceMethod ({ cls := "NumberedSparks$Reader", name := "read", desc := "([II)I" } : MethodName)) ∈ am_ws := am_t2 119 rfl rfl
theorem wd_360 : (Cond.selects "NumberedSparks$Reader" ({ cls := "NumberedSparks$Reader", name := "read", desc := "([II)I" } : MethodName) ({ cls := "NumberedSparks$Reader", name := "read", desc := "([II)I" } : MethodName)) ∈ am_ws := am_t2 120 rfl rfl
theorem wd_361 : (Cond.code ({ cls := "NumberedSparks$Reader", name := "read", desc := "([II)I" } : MethodName) prog_6_method_2_code (5 : Nat) (Option.some FieldType.int)) ∈ am_ws := am_t2 121 rfl rfl
theorem wd_362 : (Cond.methodLink "NumberedSparks$Reader" (26 : Nat) ({ cls := "java/lang/Math", name := "min", desc := "(II)I" } : MethodName)) ∈ am_ws := am_t2 122 rfl rfl
theorem wd_363 : (Cond.static ({ cls := "java/lang/Math", name := "min", desc := "(II)I" } : MethodName)) ∈ am_ws := am_t2 123 rfl rfl
theorem wd_364 : (Cond.code ({ cls := "java/lang/Math", name := "min", desc := "(II)I" } : MethodName) prog_13_method_69_code (2 : Nat) (Option.some FieldType.int)) ∈ am_ws := am_t2 124 rfl rfl
theorem wd_365 : (Cond.methodLink "NumberedSparks$Reader" (35 : Nat) ({ cls := "NumberedSparks$Scene", name := "clear", desc := "()V" } : MethodName)) ∈ am_ws := am_t2 125 rfl rfl
theorem wd_366 : (Cond.instanceMethod ({ cls := "NumberedSparks$Scene", name := "clear", desc := "()V" } : MethodName)) ∈ am_ws := am_t2 126 rfl rfl
theorem wd_367 : (Cond.selects "NumberedSparks$Scene" ({ cls := "NumberedSparks$Scene", name := "clear", desc := "()V" } : MethodName) ({ cls := "NumberedSparks$Scene", name := "clear", desc := "()V" } : MethodName)) ∈ am_ws := am_t2 127 rfl rfl
theorem wd_368 : (Cond.code ({ cls := "NumberedSparks$Scene", name := "clear", desc := "()V" } : MethodName) prog_7_method_2_code (1 : Nat) (Option.none : Option FieldType)) ∈ am_ws := am_t2 128 rfl rfl
theorem wd_369 : (Cond.methodLink "NumberedSparks$Scene" (21 : Nat) ({ cls := "java/util/Arrays", name := "fill", desc := "([II)V" } : MethodName)) ∈ am_ws := am_t2 129 rfl rfl
theorem wd_370 : (Cond.static ({ cls := "java/util/Arrays", name := "fill", desc := "([II)V" } : MethodName)) ∈ am_ws := am_t2 130 rfl rfl
theorem wd_371 : (Cond.code ({ cls := "java/util/Arrays", name := "fill", desc := "([II)V" } : MethodName) prog_18_method_103_code (4 : Nat) (Option.none : Option FieldType)) ∈ am_ws := am_t2 131 rfl rfl
theorem wd_372 : (Cond.methodLink "NumberedSparks$Reader" (44 : Nat) ({ cls := "NumberedSparks$Reader", name := "advance", desc := "()V" } : MethodName)) ∈ am_ws := am_t2 132 rfl rfl
theorem wd_374 : (Cond.instanceMethod ({ cls := "NumberedSparks$Reader", name := "advance", desc := "()V" } : MethodName)) ∈ am_ws := am_t2 134 rfl rfl
theorem wd_375 : (Cond.code ({ cls := "NumberedSparks$Reader", name := "advance", desc := "()V" } : MethodName) prog_6_method_19_code (1 : Nat) (Option.none : Option FieldType)) ∈ am_ws := am_t2 135 rfl rfl
theorem wd_376 : (Cond.methodLink "NumberedSparks$Reader" (177 : Nat) ({ cls := "NumberedSparks$Reader", name := "byteAt", desc := "(I)I" } : MethodName)) ∈ am_ws := am_t2 136 rfl rfl
theorem wd_378 : (Cond.instanceMethod ({ cls := "NumberedSparks$Reader", name := "byteAt", desc := "(I)I" } : MethodName)) ∈ am_ws := am_t2 138 rfl rfl
theorem wd_379 : (Cond.code ({ cls := "NumberedSparks$Reader", name := "byteAt", desc := "(I)I" } : MethodName) prog_6_method_16_code (2 : Nat) (Option.some FieldType.int)) ∈ am_ws := am_t2 139 rfl rfl
theorem wd_380 : (Cond.methodLink "NumberedSparks$Reader" (185 : Nat) ({ cls := "NumberedSparks$Reader", name := "isLetter", desc := "(I)Z" } : MethodName)) ∈ am_ws := am_t2 140 rfl rfl
theorem wd_381 : (Cond.static ({ cls := "NumberedSparks$Reader", name := "isLetter", desc := "(I)Z" } : MethodName)) ∈ am_ws := am_t2 141 rfl rfl
theorem wd_382 : (Cond.code ({ cls := "NumberedSparks$Reader", name := "isLetter", desc := "(I)Z" } : MethodName) prog_6_method_17_code (1 : Nat) (Option.some FieldType.boolean)) ∈ am_ws := am_t2 142 rfl rfl
theorem wd_383 : (Cond.methodLink "NumberedSparks$Reader" (189 : Nat) ({ cls := "NumberedSparks$Reader", name := "isDigit", desc := "(I)Z" } : MethodName)) ∈ am_ws := am_t2 143 rfl rfl
theorem wd_384 : (Cond.static ({ cls := "NumberedSparks$Reader", name := "isDigit", desc := "(I)Z" } : MethodName)) ∈ am_ws := am_t2 144 rfl rfl
theorem wd_385 : (Cond.code ({ cls := "NumberedSparks$Reader", name := "isDigit", desc := "(I)Z" } : MethodName) prog_6_method_18_code (1 : Nat) (Option.some FieldType.boolean)) ∈ am_ws := am_t2 145 rfl rfl
theorem wd_386 : (Cond.constant "NumberedSparks$Reader" (192 : Nat) (100000000 : Int32)) ∈ am_ws := am_t2 146 rfl rfl
theorem wd_387 : (Cond.methodLink "NumberedSparks$Reader" (47 : Nat) ({ cls := "NumberedSparks$Reader", name := "readWorld", desc := "()V" } : MethodName)) ∈ am_ws := am_t2 147 rfl rfl
theorem wd_389 : (Cond.instanceMethod ({ cls := "NumberedSparks$Reader", name := "readWorld", desc := "()V" } : MethodName)) ∈ am_ws := am_t2 149 rfl rfl
theorem wd_390 : (Cond.code ({ cls := "NumberedSparks$Reader", name := "readWorld", desc := "()V" } : MethodName) prog_6_method_3_code (2 : Nat) (Option.none : Option FieldType)) ∈ am_ws := am_t2 150 rfl rfl
theorem wd_392 : (Cond.methodLink "NumberedSparks$Reader" (82 : Nat) ({ cls := "NumberedSparks$Reader", name := "needWord", desc := "(Ljava/lang/String;)V" } : MethodName)) ∈ am_ws := am_t2 152 rfl rfl
theorem wd_394 : (Cond.instanceMethod ({ cls := "NumberedSparks$Reader", name := "needWord", desc := "(Ljava/lang/String;)V" } : MethodName)) ∈ am_ws := am_t2 154 rfl rfl
theorem wd_395 : (Cond.code ({ cls := "NumberedSparks$Reader", name := "needWord", desc := "(Ljava/lang/String;)V" } : MethodName) prog_6_method_12_code (2 : Nat) (Option.none : Option FieldType)) ∈ am_ws := am_t2 155 rfl rfl
theorem wd_396 : (Cond.methodLink "NumberedSparks$Reader" (134 : Nat) ({ cls := "NumberedSparks$Reader", name := "takeWord", desc := "(Ljava/lang/String;)Z" } : MethodName)) ∈ am_ws := am_t2 156 rfl rfl
theorem wd_398 : (Cond.instanceMethod ({ cls := "NumberedSparks$Reader", name := "takeWord", desc := "(Ljava/lang/String;)Z" } : MethodName)) ∈ am_ws := am_t2 158 rfl rfl
theorem wd_399 : (Cond.code ({ cls := "NumberedSparks$Reader", name := "takeWord", desc := "(Ljava/lang/String;)Z" } : MethodName) prog_6_method_11_code (2 : Nat) (Option.some FieldType.boolean)) ∈ am_ws := am_t2 159 rfl rfl
theorem wd_400 : (Cond.methodLink "NumberedSparks$Reader" (55 : Nat) ({ cls := "NumberedSparks$Reader", name := "isWord", desc := "(Ljava/lang/String;)Z" } : MethodName)) ∈ am_ws := am_t2 160 rfl rfl
theorem wd_402 : (Cond.instanceMethod ({ cls := "NumberedSparks$Reader", name := "isWord", desc := "(Ljava/lang/String;)Z" } : MethodName)) ∈ am_ws := am_t2 162 rfl rfl
theorem wd_403 : (Cond.code ({ cls := "NumberedSparks$Reader", name := "isWord", desc := "(Ljava/lang/String;)Z" } : MethodName) prog_6_method_10_code (3 : Nat) (Option.some FieldType.boolean)) ∈ am_ws := am_t2 163 rfl rfl
theorem wd_404 : (Cond.methodLink "NumberedSparks$Reader" (173 : Nat) ({ cls := "java/lang/String", name := "length", desc := "()I" } : MethodName)) ∈ am_ws := am_t2 164 rfl rfl
theorem wd_405 : (Cond.instanceMethod ({ cls := "java/lang/String", name := "length", desc := "()I" } : MethodName)) ∈ am_ws := am_t2 165 rfl rfl
theorem wd_406 : (Cond.selects "java/lang/String" ({ cls := "java/lang/String", name := "length", desc := "()I" } : MethodName) ({ cls := "java/lang/String", name := "length", desc := "()I" } : MethodName)) ∈ am_ws := am_t2 166 rfl rfl
theorem wd_407 : (Cond.code ({ cls := "java/lang/String", name := "length", desc := "()I" } : MethodName) prog_14_method_54_code (1 : Nat) (Option.some FieldType.int)) ∈ am_ws := am_t2 167 rfl rfl
theorem wd_408 : (Cond.methodLink "java/lang/String" (335 : Nat) ({ cls := "java/lang/String", name := "coder", desc := "()B" } : MethodName)) ∈ am_ws := am_t2 168 rfl rfl
theorem wd_409 : (Cond.instanceMethod ({ cls := "java/lang/String", name := "coder", desc := "()B" } : MethodName)) ∈ am_ws := am_t2 169 rfl rfl
theorem wd_410 : (Cond.selects "java/lang/String" ({ cls := "java/lang/String", name := "coder", desc := "()B" } : MethodName) ({ cls := "java/lang/String", name := "coder", desc := "()B" } : MethodName)) ∈ am_ws := am_t2 170 rfl rfl
theorem wd_411 : (Cond.code ({ cls := "java/lang/String", name := "coder", desc := "()B" } : MethodName) prog_14_method_152_code (1 : Nat) (Option.some FieldType.byte)) ∈ am_ws := am_t2 171 rfl rfl
theorem wd_412 : (Cond.fieldLink "java/lang/String" (38 : Nat) "java/lang/String" "COMPACT_STRINGS" "Z") ∈ am_ws := am_t2 172 rfl rfl
theorem wd_414 : (Cond.methodLink "NumberedSparks$Reader" (181 : Nat) ({ cls := "java/lang/String", name := "charAt", desc := "(I)C" } : MethodName)) ∈ am_ws := am_t2 174 rfl rfl
theorem wd_415 : (Cond.instanceMethod ({ cls := "java/lang/String", name := "charAt", desc := "(I)C" } : MethodName)) ∈ am_ws := am_t2 175 rfl rfl
theorem wd_416 : (Cond.selects "java/lang/String" ({ cls := "java/lang/String", name := "charAt", desc := "(I)C" } : MethodName) ({ cls := "java/lang/String", name := "charAt", desc := "(I)C" } : MethodName)) ∈ am_ws := am_t2 176 rfl rfl
theorem wd_417 : (Cond.code ({ cls := "java/lang/String", name := "charAt", desc := "(I)C" } : MethodName) prog_14_method_56_code (2 : Nat) (Option.some FieldType.char)) ∈ am_ws := am_t2 177 rfl rfl
theorem wd_418 : (Cond.methodLink "java/lang/String" (492 : Nat) ({ cls := "java/lang/String", name := "isLatin1", desc := "()Z" } : MethodName)) ∈ am_ws := am_t2 178 rfl rfl
theorem wd_419 : (Cond.instanceMethod ({ cls := "java/lang/String", name := "isLatin1", desc := "()Z" } : MethodName)) ∈ am_ws := am_t2 179 rfl rfl
theorem wd_420 : (Cond.selects "java/lang/String" ({ cls := "java/lang/String", name := "isLatin1", desc := "()Z" } : MethodName) ({ cls := "java/lang/String", name := "isLatin1", desc := "()Z" } : MethodName)) ∈ am_ws := am_t2 180 rfl rfl
theorem wd_421 : (Cond.code ({ cls := "java/lang/String", name := "isLatin1", desc := "()Z" } : MethodName) prog_14_method_154_code (1 : Nat) (Option.some FieldType.boolean)) ∈ am_ws := am_t2 181 rfl rfl
theorem wd_422 : (Cond.methodLink "java/lang/String" (495 : Nat) ({ cls := "java/lang/StringLatin1", name := "charAt", desc := "([BI)C" } : MethodName)) ∈ am_ws := am_t2 182 rfl rfl
theorem wd_423 : (Cond.static ({ cls := "java/lang/StringLatin1", name := "charAt", desc := "([BI)C" } : MethodName)) ∈ am_ws := am_t2 183 rfl rfl
theorem wd_424 : (Cond.code ({ cls := "java/lang/StringLatin1", name := "charAt", desc := "([BI)C" } : MethodName) prog_15_method_2_code (2 : Nat) (Option.some FieldType.char)) ∈ am_ws := am_t2 184 rfl rfl
theorem wd_425 : (Cond.methodLink "java/lang/StringLatin1" (9 : Nat) ({ cls := "java/lang/String", name := "checkIndex", desc := "(II)V" } : MethodName)) ∈ am_ws := am_t2 185 rfl rfl
theorem wd_426 : (Cond.static ({ cls := "java/lang/String", name := "checkIndex", desc := "(II)V" } : MethodName)) ∈ am_ws := am_t2 186 rfl rfl
theorem wd_427 : (Cond.code ({ cls := "java/lang/String", name := "checkIndex", desc := "(II)V" } : MethodName) prog_14_method_155_code (2 : Nat) (Option.none : Option FieldType)) ∈ am_ws := am_t2 187 rfl rfl
theorem wd_428 : (Cond.fieldLink "java/lang/String" (1053 : Nat) "jdk/internal/util/Preconditions" "SIOOBE_FORMATTER" "Ljava/util/function/BiFunction;") ∈ am_ws := am_t2 188 rfl rfl
theorem wd_430 : (Cond.methodLink "java/lang/String" (1059 : Nat) ({ cls := "jdk/internal/util/Preconditions", name := "checkIndex", desc := "(IILjava/util/function/BiFunction;)I" } : MethodName)) ∈ am_ws := am_t2 190 rfl rfl
theorem wd_431 : (Cond.static ({ cls := "jdk/internal/util/Preconditions", name := "checkIndex", desc := "(IILjava/util/function/BiFunction;)I" } : MethodName)) ∈ am_ws := am_t2 191 rfl rfl
theorem wd_432 : (Cond.code ({ cls := "jdk/internal/util/Preconditions", name := "checkIndex", desc := "(IILjava/util/function/BiFunction;)I" } : MethodName) prog_19_method_11_code (3 : Nat) (Option.some FieldType.int)) ∈ am_ws := am_t2 192 rfl rfl
theorem wd_433 : (Cond.methodLink "java/lang/String" (498 : Nat) ({ cls := "java/lang/StringUTF16", name := "charAt", desc := "([BI)C" } : MethodName)) ∈ am_ws := am_t2 193 rfl rfl
theorem wd_434 : (Cond.static ({ cls := "java/lang/StringUTF16", name := "charAt", desc := "([BI)C" } : MethodName)) ∈ am_ws := am_t2 194 rfl rfl
theorem wd_435 : (Cond.code ({ cls := "java/lang/StringUTF16", name := "charAt", desc := "([BI)C" } : MethodName) prog_16_method_83_code (2 : Nat) (Option.some FieldType.char)) ∈ am_ws := am_t2 195 rfl rfl
theorem wd_436 : (Cond.methodLink "java/lang/StringUTF16" (67 : Nat) ({ cls := "java/lang/StringUTF16", name := "checkIndex", desc := "(I[B)V" } : MethodName)) ∈ am_ws := am_t2 196 rfl rfl
theorem wd_437 : (Cond.static ({ cls := "java/lang/StringUTF16", name := "checkIndex", desc := "(I[B)V" } : MethodName)) ∈ am_ws := am_t2 197 rfl rfl
theorem wd_438 : (Cond.code ({ cls := "java/lang/StringUTF16", name := "checkIndex", desc := "(I[B)V" } : MethodName) prog_16_method_91_code (2 : Nat) (Option.none : Option FieldType)) ∈ am_ws := am_t2 198 rfl rfl
theorem wd_439 : (Cond.methodLink "java/lang/StringUTF16" (48 : Nat) ({ cls := "java/lang/StringUTF16", name := "length", desc := "([B)I" } : MethodName)) ∈ am_ws := am_t2 199 rfl rfl
theorem wd_440 : (Cond.static ({ cls := "java/lang/StringUTF16", name := "length", desc := "([B)I" } : MethodName)) ∈ am_ws := am_t2 200 rfl rfl
theorem wd_441 : (Cond.code ({ cls := "java/lang/StringUTF16", name := "length", desc := "([B)I" } : MethodName) prog_16_method_6_code (1 : Nat) (Option.some FieldType.int)) ∈ am_ws := am_t2 201 rfl rfl
theorem wd_442 : (Cond.methodLink "java/lang/StringUTF16" (414 : Nat) ({ cls := "java/lang/String", name := "checkIndex", desc := "(II)V" } : MethodName)) ∈ am_ws := am_t2 202 rfl rfl
theorem wd_443 : (Cond.methodLink "java/lang/StringUTF16" (71 : Nat) ({ cls := "java/lang/StringUTF16", name := "getChar", desc := "([BI)C" } : MethodName)) ∈ am_ws := am_t2 203 rfl rfl
theorem wd_444 : (Cond.static ({ cls := "java/lang/StringUTF16", name := "getChar", desc := "([BI)C" } : MethodName)) ∈ am_ws := am_t2 204 rfl rfl
theorem wd_445 : (Cond.code ({ cls := "java/lang/StringUTF16", name := "getChar", desc := "([BI)C" } : MethodName) prog_16_method_5_code (2 : Nat) (Option.some FieldType.char)) ∈ am_ws := am_t2 205 rfl rfl
theorem wd_446 : (Cond.fieldLink "java/lang/StringUTF16" (44 : Nat) "java/lang/StringUTF16" "$assertionsDisabled" "Z") ∈ am_ws := am_t2 206 rfl rfl
theorem wd_448 : (Cond.fieldLink "java/lang/StringUTF16" (59 : Nat) "java/lang/StringUTF16" "HI_BYTE_SHIFT" "I") ∈ am_ws := am_t2 208 rfl rfl
theorem wd_450 : (Cond.fieldLink "java/lang/StringUTF16" (63 : Nat) "java/lang/StringUTF16" "LO_BYTE_SHIFT" "I") ∈ am_ws := am_t2 210 rfl rfl
theorem wd_452 : (Cond.methodLink "NumberedSparks$Reader" (72 : Nat) ({ cls := "NumberedSparks$Reader", name := "fail", desc := "(I)V" } : MethodName)) ∈ am_ws := am_t2 212 rfl rfl
theorem wd_454 : (Cond.instanceMethod ({ cls := "NumberedSparks$Reader", name := "fail", desc := "(I)V" } : MethodName)) ∈ am_ws := am_t2 214 rfl rfl
theorem wd_455 : (Cond.code ({ cls := "NumberedSparks$Reader", name := "fail", desc := "(I)V" } : MethodName) prog_6_method_15_code (2 : Nat) (Option.none : Option FieldType)) ∈ am_ws := am_t2 215 rfl rfl
theorem wd_456 : (Cond.methodLink "NumberedSparks$Reader" (89 : Nat) ({ cls := "NumberedSparks$Reader", name := "needNumber", desc := "(II)I" } : MethodName)) ∈ am_ws := am_t2 216 rfl rfl
theorem wd_458 : (Cond.instanceMethod ({ cls := "NumberedSparks$Reader", name := "needNumber", desc := "(II)I" } : MethodName)) ∈ am_ws := am_t2 218 rfl rfl
theorem wd_459 : (Cond.code ({ cls := "NumberedSparks$Reader", name := "needNumber", desc := "(II)I" } : MethodName) prog_6_method_14_code (4 : Nat) (Option.some FieldType.int)) ∈ am_ws := am_t2 219 rfl rfl
theorem wd_460 : (Cond.methodLink "NumberedSparks$Reader" (76 : Nat) ({ cls := "NumberedSparks$Reader", name := "needSign", desc := "(C)V" } : MethodName)) ∈ am_ws := am_t2 220 rfl rfl
theorem wd_462 : (Cond.instanceMethod ({ cls := "NumberedSparks$Reader", name := "needSign", desc := "(C)V" } : MethodName)) ∈ am_ws := am_t2 222 rfl rfl
theorem wd_463 : (Cond.code ({ cls := "NumberedSparks$Reader", name := "needSign", desc := "(C)V" } : MethodName) prog_6_method_13_code (2 : Nat) (Option.none : Option FieldType)) ∈ am_ws := am_t2 223 rfl rfl
theorem wd_465 : (Cond.methodLink "NumberedSparks$Reader" (59 : Nat) ({ cls := "NumberedSparks$Reader", name := "readSeed", desc := "()V" } : MethodName)) ∈ am_ws := am_t2 225 rfl rfl
theorem wd_467 : (Cond.instanceMethod ({ cls := "NumberedSparks$Reader", name := "readSeed", desc := "()V" } : MethodName)) ∈ am_ws := am_t2 227 rfl rfl
theorem wd_468 : (Cond.code ({ cls := "NumberedSparks$Reader", name := "readSeed", desc := "()V" } : MethodName) prog_6_method_4_code (1 : Nat) (Option.none : Option FieldType)) ∈ am_ws := am_t2 228 rfl rfl
theorem wd_469 : (Cond.constant "NumberedSparks$Reader" (96 : Nat) (999999 : Int32)) ∈ am_ws := am_t2 229 rfl rfl
theorem wd_471 : (Cond.methodLink "NumberedSparks$Reader" (64 : Nat) ({ cls := "NumberedSparks$Reader", name := "readKind", desc := "()V" } : MethodName)) ∈ am_ws := am_t2 231 rfl rfl
theorem wd_473 : (Cond.instanceMethod ({ cls := "NumberedSparks$Reader", name := "readKind", desc := "()V" } : MethodName)) ∈ am_ws := am_t2 233 rfl rfl
theorem wd_474 : (Cond.code ({ cls := "NumberedSparks$Reader", name := "readKind", desc := "()V" } : MethodName) prog_6_method_5_code (2 : Nat) (Option.none : Option FieldType)) ∈ am_ws := am_t2 234 rfl rfl
theorem wd_476 : (Cond.methodLink "NumberedSparks$Reader" (104 : Nat) ({ cls := "NumberedSparks$Scene", name := "setKind", desc := "(III)V" } : MethodName)) ∈ am_ws := am_t2 236 rfl rfl
theorem wd_477 : (Cond.instanceMethod ({ cls := "NumberedSparks$Scene", name := "setKind", desc := "(III)V" } : MethodName)) ∈ am_ws := am_t2 237 rfl rfl
theorem wd_478 : (Cond.selects "NumberedSparks$Scene" ({ cls := "NumberedSparks$Scene", name := "setKind", desc := "(III)V" } : MethodName) ({ cls := "NumberedSparks$Scene", name := "setKind", desc := "(III)V" } : MethodName)) ∈ am_ws := am_t2 238 rfl rfl
theorem wd_479 : (Cond.code ({ cls := "NumberedSparks$Scene", name := "setKind", desc := "(III)V" } : MethodName) prog_7_method_10_code (5 : Nat) (Option.none : Option FieldType)) ∈ am_ws := am_t2 239 rfl rfl
theorem wd_481 : (Cond.methodLink "NumberedSparks$Reader" (110 : Nat) ({ cls := "NumberedSparks$Reader", name := "numberBehind", desc := "(Ljava/lang/String;III)I" } : MethodName)) ∈ am_ws := am_t3 1 rfl rfl
theorem wd_483 : (Cond.instanceMethod ({ cls := "NumberedSparks$Reader", name := "numberBehind", desc := "(Ljava/lang/String;III)I" } : MethodName)) ∈ am_ws := am_t3 3 rfl rfl
theorem wd_484 : (Cond.code ({ cls := "NumberedSparks$Reader", name := "numberBehind", desc := "(Ljava/lang/String;III)I" } : MethodName) prog_6_method_9_code (5 : Nat) (Option.some FieldType.int)) ∈ am_ws := am_t3 4 rfl rfl
theorem wd_486 : (Cond.methodLink "NumberedSparks$Reader" (116 : Nat) ({ cls := "NumberedSparks$Reader", name := "readFalls", desc := "()I" } : MethodName)) ∈ am_ws := am_t3 6 rfl rfl
theorem wd_488 : (Cond.instanceMethod ({ cls := "NumberedSparks$Reader", name := "readFalls", desc := "()I" } : MethodName)) ∈ am_ws := am_t3 8 rfl rfl
theorem wd_489 : (Cond.code ({ cls := "NumberedSparks$Reader", name := "readFalls", desc := "()I" } : MethodName) prog_6_method_6_code (3 : Nat) (Option.some FieldType.int)) ∈ am_ws := am_t3 9 rfl rfl
theorem wd_492 : (Cond.methodLink "NumberedSparks$Reader" (122 : Nat) ({ cls := "NumberedSparks$Reader", name := "readEdge", desc := "()I" } : MethodName)) ∈ am_ws := am_t3 12 rfl rfl
theorem wd_494 : (Cond.instanceMethod ({ cls := "NumberedSparks$Reader", name := "readEdge", desc := "()I" } : MethodName)) ∈ am_ws := am_t3 14 rfl rfl
theorem wd_495 : (Cond.code ({ cls := "NumberedSparks$Reader", name := "readEdge", desc := "()I" } : MethodName) prog_6_method_7_code (1 : Nat) (Option.some FieldType.int)) ∈ am_ws := am_t3 15 rfl rfl
theorem wd_500 : (Cond.methodLink "NumberedSparks$Reader" (127 : Nat) ({ cls := "NumberedSparks$Scene", name := "ofKind", desc := "(II)I" } : MethodName)) ∈ am_ws := am_t3 20 rfl rfl
theorem wd_501 : (Cond.instanceMethod ({ cls := "NumberedSparks$Scene", name := "ofKind", desc := "(II)I" } : MethodName)) ∈ am_ws := am_t3 21 rfl rfl
theorem wd_502 : (Cond.selects "NumberedSparks$Scene" ({ cls := "NumberedSparks$Scene", name := "ofKind", desc := "(II)I" } : MethodName) ({ cls := "NumberedSparks$Scene", name := "ofKind", desc := "(II)I" } : MethodName)) ∈ am_ws := am_t3 22 rfl rfl
theorem wd_503 : (Cond.code ({ cls := "NumberedSparks$Scene", name := "ofKind", desc := "(II)I" } : MethodName) prog_7_method_9_code (4 : Nat) (Option.some FieldType.int)) ∈ am_ws := am_t3 23 rfl rfl
theorem wd_506 : (Cond.methodLink "NumberedSparks$Reader" (69 : Nat) ({ cls := "NumberedSparks$Reader", name := "readSource", desc := "()V" } : MethodName)) ∈ am_ws := am_t3 26 rfl rfl
theorem wd_508 : (Cond.instanceMethod ({ cls := "NumberedSparks$Reader", name := "readSource", desc := "()V" } : MethodName)) ∈ am_ws := am_t3 28 rfl rfl
theorem wd_509 : (Cond.code ({ cls := "NumberedSparks$Reader", name := "readSource", desc := "()V" } : MethodName) prog_6_method_8_code (3 : Nat) (Option.none : Option FieldType)) ∈ am_ws := am_t3 29 rfl rfl
theorem wd_510 : (Cond.methodLink "NumberedSparks$Reader" (149 : Nat) ({ cls := "NumberedSparks$Scene", name := "setSource", desc := "(III)V" } : MethodName)) ∈ am_ws := am_t3 30 rfl rfl
theorem wd_511 : (Cond.instanceMethod ({ cls := "NumberedSparks$Scene", name := "setSource", desc := "(III)V" } : MethodName)) ∈ am_ws := am_t3 31 rfl rfl
theorem wd_512 : (Cond.selects "NumberedSparks$Scene" ({ cls := "NumberedSparks$Scene", name := "setSource", desc := "(III)V" } : MethodName) ({ cls := "NumberedSparks$Scene", name := "setSource", desc := "(III)V" } : MethodName)) ∈ am_ws := am_t3 32 rfl rfl
theorem wd_513 : (Cond.code ({ cls := "NumberedSparks$Scene", name := "setSource", desc := "(III)V" } : MethodName) prog_7_method_12_code (5 : Nat) (Option.none : Option FieldType)) ∈ am_ws := am_t3 33 rfl rfl
theorem wd_520 : (Cond.methodLink "NumberedSparks$Reader" (164 : Nat) ({ cls := "NumberedSparks$Scene", name := "ofSource", desc := "(II)I" } : MethodName)) ∈ am_ws := am_t3 40 rfl rfl
theorem wd_521 : (Cond.instanceMethod ({ cls := "NumberedSparks$Scene", name := "ofSource", desc := "(II)I" } : MethodName)) ∈ am_ws := am_t3 41 rfl rfl
theorem wd_522 : (Cond.selects "NumberedSparks$Scene" ({ cls := "NumberedSparks$Scene", name := "ofSource", desc := "(II)I" } : MethodName) ({ cls := "NumberedSparks$Scene", name := "ofSource", desc := "(II)I" } : MethodName)) ∈ am_ws := am_t3 42 rfl rfl
theorem wd_523 : (Cond.code ({ cls := "NumberedSparks$Scene", name := "ofSource", desc := "(II)I" } : MethodName) prog_7_method_11_code (4 : Nat) (Option.some FieldType.int)) ∈ am_ws := am_t3 43 rfl rfl
theorem wd_524 : (Cond.methodLink "NumberedSparks$Reader" (167 : Nat) ({ cls := "NumberedSparks$Scene", name := "burstsUpTo", desc := "(II)I" } : MethodName)) ∈ am_ws := am_t3 44 rfl rfl
theorem wd_525 : (Cond.instanceMethod ({ cls := "NumberedSparks$Scene", name := "burstsUpTo", desc := "(II)I" } : MethodName)) ∈ am_ws := am_t3 45 rfl rfl
theorem wd_526 : (Cond.selects "NumberedSparks$Scene" ({ cls := "NumberedSparks$Scene", name := "burstsUpTo", desc := "(II)I" } : MethodName) ({ cls := "NumberedSparks$Scene", name := "burstsUpTo", desc := "(II)I" } : MethodName)) ∈ am_ws := am_t3 46 rfl rfl
theorem wd_527 : (Cond.code ({ cls := "NumberedSparks$Scene", name := "burstsUpTo", desc := "(II)I" } : MethodName) prog_7_method_18_code (6 : Nat) (Option.some FieldType.int)) ∈ am_ws := am_t3 47 rfl rfl
theorem wd_528 : (Cond.methodLink "NumberedSparks$Scene" (84 : Nat) ({ cls := "NumberedSparks$Scene", name := "ofSource", desc := "(II)I" } : MethodName)) ∈ am_ws := am_t3 48 rfl rfl
theorem wd_529 : (Cond.methodLink "NumberedSparks$Scene" (94 : Nat) ({ cls := "java/lang/Math", name := "min", desc := "(II)I" } : MethodName)) ∈ am_ws := am_t3 49 rfl rfl
theorem wd_530 : (Cond.methodLink "NumberedSparks" (87 : Nat) ({ cls := "NumberedSparks$Scene", name := "become", desc := "(LNumberedSparks$Scene;)V" } : MethodName)) ∈ am_ws := am_t3 50 rfl rfl
theorem wd_531 : (Cond.instanceMethod ({ cls := "NumberedSparks$Scene", name := "become", desc := "(LNumberedSparks$Scene;)V" } : MethodName)) ∈ am_ws := am_t3 51 rfl rfl
theorem wd_532 : (Cond.selects "NumberedSparks$Scene" ({ cls := "NumberedSparks$Scene", name := "become", desc := "(LNumberedSparks$Scene;)V" } : MethodName) ({ cls := "NumberedSparks$Scene", name := "become", desc := "(LNumberedSparks$Scene;)V" } : MethodName)) ∈ am_ws := am_t3 52 rfl rfl
theorem wd_533 : (Cond.code ({ cls := "NumberedSparks$Scene", name := "become", desc := "(LNumberedSparks$Scene;)V" } : MethodName) prog_7_method_3_code (2 : Nat) (Option.none : Option FieldType)) ∈ am_ws := am_t3 53 rfl rfl
theorem wd_534 : (Cond.methodLink "NumberedSparks$Scene" (41 : Nat) ({ cls := "java/lang/System", name := "arraycopy", desc := "(Ljava/lang/Object;ILjava/lang/Object;II)V" } : MethodName)) ∈ am_ws := am_t3 54 rfl rfl
theorem wd_535 : (Cond.static ({ cls := "java/lang/System", name := "arraycopy", desc := "(Ljava/lang/Object;ILjava/lang/Object;II)V" } : MethodName)) ∈ am_ws := am_t3 55 rfl rfl
theorem wd_536 : (Cond.native ({ cls := "java/lang/System", name := "arraycopy", desc := "(Ljava/lang/Object;ILjava/lang/Object;II)V" } : MethodName)) ∈ am_ws := am_t3 56 rfl rfl
theorem wd_537 : (Cond.methodLink "NumberedSparks" (90 : Nat) ({ cls := "NumberedSparks$History", name := "forget", desc := "()V" } : MethodName)) ∈ am_ws := am_t3 57 rfl rfl
theorem wd_538 : (Cond.instanceMethod ({ cls := "NumberedSparks$History", name := "forget", desc := "()V" } : MethodName)) ∈ am_ws := am_t3 58 rfl rfl
theorem wd_539 : (Cond.selects "NumberedSparks$History" ({ cls := "NumberedSparks$History", name := "forget", desc := "()V" } : MethodName) ({ cls := "NumberedSparks$History", name := "forget", desc := "()V" } : MethodName)) ∈ am_ws := am_t3 59 rfl rfl
theorem wd_540 : (Cond.code ({ cls := "NumberedSparks$History", name := "forget", desc := "()V" } : MethodName) prog_4_method_2_code (1 : Nat) (Option.none : Option FieldType)) ∈ am_ws := am_t3 60 rfl rfl
theorem wd_541 : (Cond.methodLink "NumberedSparks" (93 : Nat) ({ cls := "NumberedSparks$Frame", name := "forget", desc := "()V" } : MethodName)) ∈ am_ws := am_t3 61 rfl rfl
theorem wd_542 : (Cond.instanceMethod ({ cls := "NumberedSparks$Frame", name := "forget", desc := "()V" } : MethodName)) ∈ am_ws := am_t3 62 rfl rfl
theorem wd_543 : (Cond.selects "NumberedSparks$Frame" ({ cls := "NumberedSparks$Frame", name := "forget", desc := "()V" } : MethodName) ({ cls := "NumberedSparks$Frame", name := "forget", desc := "()V" } : MethodName)) ∈ am_ws := am_t3 63 rfl rfl
theorem wd_544 : (Cond.code ({ cls := "NumberedSparks$Frame", name := "forget", desc := "()V" } : MethodName) prog_3_method_2_code (1 : Nat) (Option.none : Option FieldType)) ∈ am_ws := am_t3 64 rfl rfl
theorem wd_545 : (Cond.arrayClass FieldType.byte) ∈ am_ws := am_t3 65 rfl rfl
theorem wd_546 : (Cond.methodLink "NumberedSparksLaw" (28 : Nat) ({ cls := "NumberedSparks", name := "fault", desc := "(I)I" } : MethodName)) ∈ am_ws := am_t3 66 rfl rfl
theorem wd_547 : (Cond.instanceMethod ({ cls := "NumberedSparks", name := "fault", desc := "(I)I" } : MethodName)) ∈ am_ws := am_t3 67 rfl rfl
theorem wd_548 : (Cond.selects "NumberedSparks" ({ cls := "NumberedSparks", name := "fault", desc := "(I)I" } : MethodName) ({ cls := "NumberedSparks", name := "fault", desc := "(I)I" } : MethodName)) ∈ am_ws := am_t3 68 rfl rfl
theorem wd_549 : (Cond.code ({ cls := "NumberedSparks", name := "fault", desc := "(I)I" } : MethodName) prog_1_method_6_code (2 : Nat) (Option.some FieldType.int)) ∈ am_ws := am_t3 69 rfl rfl
theorem wd_550 : (Cond.methodLink "NumberedSparksLaw" (32 : Nat) ({ cls := "NumberedSparks", name := "count", desc := "(I)I" } : MethodName)) ∈ am_ws := am_t3 70 rfl rfl
theorem wd_551 : (Cond.instanceMethod ({ cls := "NumberedSparks", name := "count", desc := "(I)I" } : MethodName)) ∈ am_ws := am_t3 71 rfl rfl
theorem wd_552 : (Cond.selects "NumberedSparks" ({ cls := "NumberedSparks", name := "count", desc := "(I)I" } : MethodName) ({ cls := "NumberedSparks", name := "count", desc := "(I)I" } : MethodName)) ∈ am_ws := am_t3 72 rfl rfl
theorem wd_553 : (Cond.code ({ cls := "NumberedSparks", name := "count", desc := "(I)I" } : MethodName) prog_1_method_7_code (2 : Nat) (Option.some FieldType.int)) ∈ am_ws := am_t3 73 rfl rfl
theorem wd_554 : (Cond.methodLink "NumberedSparks" (100 : Nat) ({ cls := "NumberedSparks$Scene", name := "cellsAlong", desc := "(I)I" } : MethodName)) ∈ am_ws := am_t3 74 rfl rfl
theorem wd_555 : (Cond.instanceMethod ({ cls := "NumberedSparks$Scene", name := "cellsAlong", desc := "(I)I" } : MethodName)) ∈ am_ws := am_t3 75 rfl rfl
theorem wd_556 : (Cond.selects "NumberedSparks$Scene" ({ cls := "NumberedSparks$Scene", name := "cellsAlong", desc := "(I)I" } : MethodName) ({ cls := "NumberedSparks$Scene", name := "cellsAlong", desc := "(I)I" } : MethodName)) ∈ am_ws := am_t3 76 rfl rfl
theorem wd_557 : (Cond.code ({ cls := "NumberedSparks$Scene", name := "cellsAlong", desc := "(I)I" } : MethodName) prog_7_method_4_code (2 : Nat) (Option.some FieldType.int)) ∈ am_ws := am_t3 77 rfl rfl
theorem wd_558 : (Cond.methodLink "NumberedSparksLaw" (36 : Nat) ({ cls := "NumberedSparks", name := "kind", desc := "(II)I" } : MethodName)) ∈ am_ws := am_t3 78 rfl rfl
theorem wd_559 : (Cond.instanceMethod ({ cls := "NumberedSparks", name := "kind", desc := "(II)I" } : MethodName)) ∈ am_ws := am_t3 79 rfl rfl
theorem wd_560 : (Cond.selects "NumberedSparks" ({ cls := "NumberedSparks", name := "kind", desc := "(II)I" } : MethodName) ({ cls := "NumberedSparks", name := "kind", desc := "(II)I" } : MethodName)) ∈ am_ws := am_t3 80 rfl rfl
theorem wd_561 : (Cond.code ({ cls := "NumberedSparks", name := "kind", desc := "(II)I" } : MethodName) prog_1_method_8_code (3 : Nat) (Option.some FieldType.int)) ∈ am_ws := am_t3 81 rfl rfl
theorem wd_562 : (Cond.methodLink "NumberedSparks" (116 : Nat) ({ cls := "NumberedSparks$Scene", name := "isKind", desc := "(I)Z" } : MethodName)) ∈ am_ws := am_t3 82 rfl rfl
theorem wd_563 : (Cond.instanceMethod ({ cls := "NumberedSparks$Scene", name := "isKind", desc := "(I)Z" } : MethodName)) ∈ am_ws := am_t3 83 rfl rfl
theorem wd_564 : (Cond.selects "NumberedSparks$Scene" ({ cls := "NumberedSparks$Scene", name := "isKind", desc := "(I)Z" } : MethodName) ({ cls := "NumberedSparks$Scene", name := "isKind", desc := "(I)Z" } : MethodName)) ∈ am_ws := am_t3 84 rfl rfl
theorem wd_565 : (Cond.code ({ cls := "NumberedSparks$Scene", name := "isKind", desc := "(I)Z" } : MethodName) prog_7_method_7_code (2 : Nat) (Option.some FieldType.boolean)) ∈ am_ws := am_t3 85 rfl rfl
theorem wd_566 : (Cond.methodLink "NumberedSparks" (120 : Nat) ({ cls := "NumberedSparks$Scene", name := "ofKind", desc := "(II)I" } : MethodName)) ∈ am_ws := am_t3 86 rfl rfl
theorem wd_567 : (Cond.methodLink "NumberedSparksLaw" (41 : Nat) ({ cls := "NumberedSparks", name := "source", desc := "(II)I" } : MethodName)) ∈ am_ws := am_t3 87 rfl rfl
theorem wd_568 : (Cond.instanceMethod ({ cls := "NumberedSparks", name := "source", desc := "(II)I" } : MethodName)) ∈ am_ws := am_t3 88 rfl rfl
theorem wd_569 : (Cond.selects "NumberedSparks" ({ cls := "NumberedSparks", name := "source", desc := "(II)I" } : MethodName) ({ cls := "NumberedSparks", name := "source", desc := "(II)I" } : MethodName)) ∈ am_ws := am_t3 89 rfl rfl
theorem wd_570 : (Cond.code ({ cls := "NumberedSparks", name := "source", desc := "(II)I" } : MethodName) prog_1_method_9_code (3 : Nat) (Option.some FieldType.int)) ∈ am_ws := am_t3 90 rfl rfl
theorem wd_571 : (Cond.methodLink "NumberedSparks" (124 : Nat) ({ cls := "NumberedSparks$Scene", name := "isSource", desc := "(I)Z" } : MethodName)) ∈ am_ws := am_t3 91 rfl rfl
theorem wd_572 : (Cond.instanceMethod ({ cls := "NumberedSparks$Scene", name := "isSource", desc := "(I)Z" } : MethodName)) ∈ am_ws := am_t3 92 rfl rfl
theorem wd_573 : (Cond.selects "NumberedSparks$Scene" ({ cls := "NumberedSparks$Scene", name := "isSource", desc := "(I)Z" } : MethodName) ({ cls := "NumberedSparks$Scene", name := "isSource", desc := "(I)Z" } : MethodName)) ∈ am_ws := am_t3 93 rfl rfl
theorem wd_574 : (Cond.code ({ cls := "NumberedSparks$Scene", name := "isSource", desc := "(I)Z" } : MethodName) prog_7_method_8_code (2 : Nat) (Option.some FieldType.boolean)) ∈ am_ws := am_t3 94 rfl rfl
theorem wd_575 : (Cond.methodLink "NumberedSparks" (127 : Nat) ({ cls := "NumberedSparks$Scene", name := "ofSource", desc := "(II)I" } : MethodName)) ∈ am_ws := am_t3 95 rfl rfl
theorem wd_576 : (Cond.methodLink "NumberedSparksLaw" (45 : Nat) ({ cls := "NumberedSparks", name := "seed", desc := "(I)I" } : MethodName)) ∈ am_ws := am_t3 96 rfl rfl
theorem wd_577 : (Cond.instanceMethod ({ cls := "NumberedSparks", name := "seed", desc := "(I)I" } : MethodName)) ∈ am_ws := am_t3 97 rfl rfl
theorem wd_578 : (Cond.selects "NumberedSparks" ({ cls := "NumberedSparks", name := "seed", desc := "(I)I" } : MethodName) ({ cls := "NumberedSparks", name := "seed", desc := "(I)I" } : MethodName)) ∈ am_ws := am_t3 98 rfl rfl
theorem wd_579 : (Cond.code ({ cls := "NumberedSparks", name := "seed", desc := "(I)I" } : MethodName) prog_1_method_10_code (3 : Nat) (Option.some FieldType.int)) ∈ am_ws := am_t3 99 rfl rfl
theorem wd_580 : (Cond.constant "NumberedSparks" (134 : Nat) (999999 : Int32)) ∈ am_ws := am_t3 100 rfl rfl
theorem wd_581 : (Cond.methodLink "NumberedSparks" (135 : Nat) ({ cls := "NumberedSparks$History", name := "remember", desc := "(III)V" } : MethodName)) ∈ am_ws := am_t3 101 rfl rfl
theorem wd_582 : (Cond.instanceMethod ({ cls := "NumberedSparks$History", name := "remember", desc := "(III)V" } : MethodName)) ∈ am_ws := am_t3 102 rfl rfl
theorem wd_583 : (Cond.selects "NumberedSparks$History" ({ cls := "NumberedSparks$History", name := "remember", desc := "(III)V" } : MethodName) ({ cls := "NumberedSparks$History", name := "remember", desc := "(III)V" } : MethodName)) ∈ am_ws := am_t3 103 rfl rfl
theorem wd_584 : (Cond.code ({ cls := "NumberedSparks$History", name := "remember", desc := "(III)V" } : MethodName) prog_4_method_4_code (4 : Nat) (Option.none : Option FieldType)) ∈ am_ws := am_t3 104 rfl rfl
theorem wd_585 : (Cond.methodLink "NumberedSparks$History" (25 : Nat) ({ cls := "java/lang/System", name := "arraycopy", desc := "(Ljava/lang/Object;ILjava/lang/Object;II)V" } : MethodName)) ∈ am_ws := am_t3 105 rfl rfl
theorem wd_586 : (Cond.methodLink "NumberedSparksLaw" (201 : Nat) ({ cls := "NumberedSparks", name := "sets", desc := "(III)I" } : MethodName)) ∈ am_ws := am_t3 106 rfl rfl
theorem wd_587 : (Cond.instanceMethod ({ cls := "NumberedSparks", name := "sets", desc := "(III)I" } : MethodName)) ∈ am_ws := am_t3 107 rfl rfl
theorem wd_588 : (Cond.selects "NumberedSparks" ({ cls := "NumberedSparks", name := "sets", desc := "(III)I" } : MethodName) ({ cls := "NumberedSparks", name := "sets", desc := "(III)I" } : MethodName)) ∈ am_ws := am_t3 108 rfl rfl
theorem wd_589 : (Cond.code ({ cls := "NumberedSparks", name := "sets", desc := "(III)I" } : MethodName) prog_1_method_11_code (5 : Nat) (Option.some FieldType.int)) ∈ am_ws := am_t3 109 rfl rfl
theorem wd_590 : (Cond.fieldLink "NumberedSparks" (139 : Nat) "NumberedSparks" "KIND_LEAST" "[I") ∈ am_ws := am_t3 110 rfl rfl
theorem wd_592 : (Cond.fieldLink "NumberedSparks" (142 : Nat) "NumberedSparks" "KIND_MOST" "[I") ∈ am_ws := am_t3 112 rfl rfl
theorem wd_594 : (Cond.methodLink "NumberedSparks" (145 : Nat) ({ cls := "NumberedSparks$Scene", name := "setKind", desc := "(III)V" } : MethodName)) ∈ am_ws := am_t3 114 rfl rfl
theorem wd_595 : (Cond.methodLink "NumberedSparksLaw" (205 : Nat) ({ cls := "NumberedSparks", name := "undo", desc := "()I" } : MethodName)) ∈ am_ws := am_t3 115 rfl rfl
theorem wd_596 : (Cond.instanceMethod ({ cls := "NumberedSparks", name := "undo", desc := "()I" } : MethodName)) ∈ am_ws := am_t3 116 rfl rfl
theorem wd_597 : (Cond.selects "NumberedSparks" ({ cls := "NumberedSparks", name := "undo", desc := "()I" } : MethodName) ({ cls := "NumberedSparks", name := "undo", desc := "()I" } : MethodName)) ∈ am_ws := am_t3 117 rfl rfl
theorem wd_598 : (Cond.code ({ cls := "NumberedSparks", name := "undo", desc := "()I" } : MethodName) prog_1_method_12_code (1 : Nat) (Option.some FieldType.int)) ∈ am_ws := am_t3 118 rfl rfl
theorem wd_599 : (Cond.methodLink "NumberedSparks" (148 : Nat) ({ cls := "NumberedSparks$History", name := "isEmpty", desc := "()Z" } : MethodName)) ∈ am_ws := am_t3 119 rfl rfl
theorem wd_600 : (Cond.instanceMethod ({ cls := "NumberedSparks$History", name := "isEmpty", desc := "()Z" } : MethodName)) ∈ am_ws := am_t3 120 rfl rfl
theorem wd_601 : (Cond.selects "NumberedSparks$History" ({ cls := "NumberedSparks$History", name := "isEmpty", desc := "()Z" } : MethodName) ({ cls := "NumberedSparks$History", name := "isEmpty", desc := "()Z" } : MethodName)) ∈ am_ws := am_t3 121 rfl rfl
theorem wd_602 : (Cond.code ({ cls := "NumberedSparks$History", name := "isEmpty", desc := "()Z" } : MethodName) prog_4_method_3_code (1 : Nat) (Option.some FieldType.boolean)) ∈ am_ws := am_t3 122 rfl rfl
theorem wd_603 : (Cond.methodLink "NumberedSparks" (152 : Nat) ({ cls := "NumberedSparks$History", name := "takeBack", desc := "(LNumberedSparks$Scene;)V" } : MethodName)) ∈ am_ws := am_t3 123 rfl rfl
theorem wd_604 : (Cond.instanceMethod ({ cls := "NumberedSparks$History", name := "takeBack", desc := "(LNumberedSparks$Scene;)V" } : MethodName)) ∈ am_ws := am_t3 124 rfl rfl
theorem wd_605 : (Cond.selects "NumberedSparks$History" ({ cls := "NumberedSparks$History", name := "takeBack", desc := "(LNumberedSparks$Scene;)V" } : MethodName) ({ cls := "NumberedSparks$History", name := "takeBack", desc := "(LNumberedSparks$Scene;)V" } : MethodName)) ∈ am_ws := am_t3 125 rfl rfl
theorem wd_606 : (Cond.code ({ cls := "NumberedSparks$History", name := "takeBack", desc := "(LNumberedSparks$Scene;)V" } : MethodName) prog_4_method_5_code (2 : Nat) (Option.none : Option FieldType)) ∈ am_ws := am_t3 126 rfl rfl
theorem wd_607 : (Cond.methodLink "NumberedSparks$History" (31 : Nat) ({ cls := "NumberedSparks$History", name := "isEmpty", desc := "()Z" } : MethodName)) ∈ am_ws := am_t3 127 rfl rfl
theorem wd_608 : (Cond.methodLink "NumberedSparks$History" (40 : Nat) ({ cls := "NumberedSparks$Scene", name := "setKind", desc := "(III)V" } : MethodName)) ∈ am_ws := am_t3 128 rfl rfl
theorem wd_609 : (Cond.methodLink "NumberedSparksLaw" (49 : Nat) ({ cls := "NumberedSparks", name := "mixed", desc := "(II)J" } : MethodName)) ∈ am_ws := am_t3 129 rfl rfl
theorem wd_610 : (Cond.instanceMethod ({ cls := "NumberedSparks", name := "mixed", desc := "(II)J" } : MethodName)) ∈ am_ws := am_t3 130 rfl rfl
theorem wd_611 : (Cond.selects "NumberedSparks" ({ cls := "NumberedSparks", name := "mixed", desc := "(II)J" } : MethodName) ({ cls := "NumberedSparks", name := "mixed", desc := "(II)J" } : MethodName)) ∈ am_ws := am_t3 131 rfl rfl
theorem wd_612 : (Cond.code ({ cls := "NumberedSparks", name := "mixed", desc := "(II)J" } : MethodName) prog_1_method_13_code (3 : Nat) (Option.some FieldType.long)) ∈ am_ws := am_t3 132 rfl rfl
theorem wd_613 : (Cond.methodLink "NumberedSparks" (156 : Nat) ({ cls := "NumberedSparks$Scene", name := "mix", desc := "(II)J" } : MethodName)) ∈ am_ws := am_t3 133 rfl rfl
theorem wd_614 : (Cond.instanceMethod ({ cls := "NumberedSparks$Scene", name := "mix", desc := "(II)J" } : MethodName)) ∈ am_ws := am_t3 134 rfl rfl
theorem wd_615 : (Cond.selects "NumberedSparks$Scene" ({ cls := "NumberedSparks$Scene", name := "mix", desc := "(II)J" } : MethodName) ({ cls := "NumberedSparks$Scene", name := "mix", desc := "(II)J" } : MethodName)) ∈ am_ws := am_t3 135 rfl rfl
theorem wd_616 : (Cond.code ({ cls := "NumberedSparks$Scene", name := "mix", desc := "(II)J" } : MethodName) prog_7_method_13_code (5 : Nat) (Option.some FieldType.long)) ∈ am_ws := am_t3 136 rfl rfl
theorem wd_617 : (Cond.constantLong "NumberedSparks$Scene" (58 : Nat) (-7046029254386353131 : Int64)) ∈ am_ws := am_t3 137 rfl rfl
theorem wd_618 : (Cond.constantLong "NumberedSparks$Scene" (60 : Nat) (-3335678366873096957 : Int64)) ∈ am_ws := am_t3 138 rfl rfl
theorem wd_619 : (Cond.constantLong "NumberedSparks$Scene" (62 : Nat) (-4658895280553007687 : Int64)) ∈ am_ws := am_t3 139 rfl rfl
theorem wd_620 : (Cond.constantLong "NumberedSparks$Scene" (64 : Nat) (-7723592293110705685 : Int64)) ∈ am_ws := am_t3 140 rfl rfl
theorem wd_621 : (Cond.methodLink "NumberedSparksLaw" (54 : Nat) ({ cls := "NumberedSparks", name := "is", desc := "(I)I" } : MethodName)) ∈ am_ws := am_t3 141 rfl rfl
theorem wd_622 : (Cond.instanceMethod ({ cls := "NumberedSparks", name := "is", desc := "(I)I" } : MethodName)) ∈ am_ws := am_t3 142 rfl rfl
theorem wd_623 : (Cond.selects "NumberedSparks" ({ cls := "NumberedSparks", name := "is", desc := "(I)I" } : MethodName) ({ cls := "NumberedSparks", name := "is", desc := "(I)I" } : MethodName)) ∈ am_ws := am_t3 143 rfl rfl
theorem wd_624 : (Cond.code ({ cls := "NumberedSparks", name := "is", desc := "(I)I" } : MethodName) prog_1_method_14_code (2 : Nat) (Option.some FieldType.int)) ∈ am_ws := am_t3 144 rfl rfl
theorem wd_625 : (Cond.methodLink "NumberedSparks" (160 : Nat) ({ cls := "NumberedSparks$Scene", name := "hasSpark", desc := "(I)Z" } : MethodName)) ∈ am_ws := am_t3 145 rfl rfl
theorem wd_626 : (Cond.instanceMethod ({ cls := "NumberedSparks$Scene", name := "hasSpark", desc := "(I)Z" } : MethodName)) ∈ am_ws := am_t3 146 rfl rfl
theorem wd_627 : (Cond.selects "NumberedSparks$Scene" ({ cls := "NumberedSparks$Scene", name := "hasSpark", desc := "(I)Z" } : MethodName) ({ cls := "NumberedSparks$Scene", name := "hasSpark", desc := "(I)Z" } : MethodName)) ∈ am_ws := am_t3 147 rfl rfl
theorem wd_628 : (Cond.code ({ cls := "NumberedSparks$Scene", name := "hasSpark", desc := "(I)Z" } : MethodName) prog_7_method_16_code (6 : Nat) (Option.some FieldType.boolean)) ∈ am_ws := am_t3 148 rfl rfl
theorem wd_629 : (Cond.methodLinkNest "NumberedSparks$Scene" (74 : Nat) ({ cls := "NumberedSparks", name := "sourceOf", desc := "(I)I" } : MethodName) "NumberedSparks") ∈ am_ws := am_t3 149 rfl rfl
theorem wd_630 : (Cond.static ({ cls := "NumberedSparks", name := "sourceOf", desc := "(I)I" } : MethodName)) ∈ am_ws := am_t3 150 rfl rfl
theorem wd_631 : (Cond.code ({ cls := "NumberedSparks", name := "sourceOf", desc := "(I)I" } : MethodName) prog_1_method_62_code (1 : Nat) (Option.some FieldType.int)) ∈ am_ws := am_t3 151 rfl rfl
theorem wd_632 : (Cond.methodLink "NumberedSparks$Scene" (77 : Nat) ({ cls := "NumberedSparks$Scene", name := "isSource", desc := "(I)Z" } : MethodName)) ∈ am_ws := am_t3 152 rfl rfl
theorem wd_633 : (Cond.methodLinkNest "NumberedSparks$Scene" (81 : Nat) ({ cls := "NumberedSparks", name := "numberOf", desc := "(I)I" } : MethodName) "NumberedSparks") ∈ am_ws := am_t3 153 rfl rfl
theorem wd_634 : (Cond.static ({ cls := "NumberedSparks", name := "numberOf", desc := "(I)I" } : MethodName)) ∈ am_ws := am_t3 154 rfl rfl
theorem wd_635 : (Cond.code ({ cls := "NumberedSparks", name := "numberOf", desc := "(I)I" } : MethodName) prog_1_method_63_code (1 : Nat) (Option.some FieldType.int)) ∈ am_ws := am_t3 155 rfl rfl
theorem wd_636 : (Cond.methodLink "NumberedSparks$Scene" (88 : Nat) ({ cls := "NumberedSparks$Scene", name := "ofKind", desc := "(II)I" } : MethodName)) ∈ am_ws := am_t3 156 rfl rfl
theorem wd_637 : (Cond.methodLink "NumberedSparksLaw" (58 : Nat) ({ cls := "NumberedSparks", name := "child", desc := "(II)I" } : MethodName)) ∈ am_ws := am_t3 157 rfl rfl
theorem wd_638 : (Cond.instanceMethod ({ cls := "NumberedSparks", name := "child", desc := "(II)I" } : MethodName)) ∈ am_ws := am_t3 158 rfl rfl
theorem wd_639 : (Cond.selects "NumberedSparks" ({ cls := "NumberedSparks", name := "child", desc := "(II)I" } : MethodName) ({ cls := "NumberedSparks", name := "child", desc := "(II)I" } : MethodName)) ∈ am_ws := am_t3 159 rfl rfl
theorem wd_640 : (Cond.code ({ cls := "NumberedSparks", name := "child", desc := "(II)I" } : MethodName) prog_1_method_15_code (4 : Nat) (Option.some FieldType.int)) ∈ am_ws := am_t3 160 rfl rfl
theorem wd_641 : (Cond.methodLink "NumberedSparks" (163 : Nat) ({ cls := "NumberedSparks", name := "generationOf", desc := "(I)I" } : MethodName)) ∈ am_ws := am_t3 161 rfl rfl
theorem wd_642 : (Cond.static ({ cls := "NumberedSparks", name := "generationOf", desc := "(I)I" } : MethodName)) ∈ am_ws := am_t3 162 rfl rfl
theorem wd_643 : (Cond.code ({ cls := "NumberedSparks", name := "generationOf", desc := "(I)I" } : MethodName) prog_1_method_65_code (1 : Nat) (Option.some FieldType.int)) ∈ am_ws := am_t3 163 rfl rfl
theorem wd_644 : (Cond.methodLink "NumberedSparks" (166 : Nat) ({ cls := "NumberedSparks$Scene", name := "kindOfSpark", desc := "(I)I" } : MethodName)) ∈ am_ws := am_t3 164 rfl rfl
theorem wd_645 : (Cond.instanceMethod ({ cls := "NumberedSparks$Scene", name := "kindOfSpark", desc := "(I)I" } : MethodName)) ∈ am_ws := am_t3 165 rfl rfl
theorem wd_646 : (Cond.selects "NumberedSparks$Scene" ({ cls := "NumberedSparks$Scene", name := "kindOfSpark", desc := "(I)I" } : MethodName) ({ cls := "NumberedSparks$Scene", name := "kindOfSpark", desc := "(I)I" } : MethodName)) ∈ am_ws := am_t3 166 rfl rfl
theorem wd_647 : (Cond.code ({ cls := "NumberedSparks$Scene", name := "kindOfSpark", desc := "(I)I" } : MethodName) prog_7_method_17_code (4 : Nat) (Option.some FieldType.int)) ∈ am_ws := am_t3 167 rfl rfl
theorem wd_648 : (Cond.methodLinkNest "NumberedSparks$Scene" (91 : Nat) ({ cls := "NumberedSparks", name := "generationOf", desc := "(I)I" } : MethodName) "NumberedSparks") ∈ am_ws := am_t3 168 rfl rfl
theorem wd_649 : (Cond.methodLink "NumberedSparks" (169 : Nat) ({ cls := "NumberedSparks", name := "codeOfChild", desc := "(III)I" } : MethodName)) ∈ am_ws := am_t3 169 rfl rfl
theorem wd_650 : (Cond.static ({ cls := "NumberedSparks", name := "codeOfChild", desc := "(III)I" } : MethodName)) ∈ am_ws := am_t3 170 rfl rfl
theorem wd_651 : (Cond.code ({ cls := "NumberedSparks", name := "codeOfChild", desc := "(III)I" } : MethodName) prog_1_method_66_code (3 : Nat) (Option.some FieldType.int)) ∈ am_ws := am_t3 171 rfl rfl
theorem wd_652 : (Cond.methodLink "NumberedSparksLaw" (62 : Nat) ({ cls := "NumberedSparks", name := "parent", desc := "(I)I" } : MethodName)) ∈ am_ws := am_t3 172 rfl rfl
theorem wd_653 : (Cond.instanceMethod ({ cls := "NumberedSparks", name := "parent", desc := "(I)I" } : MethodName)) ∈ am_ws := am_t3 173 rfl rfl
theorem wd_654 : (Cond.selects "NumberedSparks" ({ cls := "NumberedSparks", name := "parent", desc := "(I)I" } : MethodName) ({ cls := "NumberedSparks", name := "parent", desc := "(I)I" } : MethodName)) ∈ am_ws := am_t3 174 rfl rfl
theorem wd_655 : (Cond.code ({ cls := "NumberedSparks", name := "parent", desc := "(I)I" } : MethodName) prog_1_method_16_code (2 : Nat) (Option.some FieldType.int)) ∈ am_ws := am_t3 175 rfl rfl
theorem wd_656 : (Cond.methodLink "NumberedSparks" (173 : Nat) ({ cls := "NumberedSparks", name := "codeOfParent", desc := "(I)I" } : MethodName)) ∈ am_ws := am_t3 176 rfl rfl
theorem wd_657 : (Cond.static ({ cls := "NumberedSparks", name := "codeOfParent", desc := "(I)I" } : MethodName)) ∈ am_ws := am_t3 177 rfl rfl
theorem wd_658 : (Cond.code ({ cls := "NumberedSparks", name := "codeOfParent", desc := "(I)I" } : MethodName) prog_1_method_67_code (1 : Nat) (Option.some FieldType.int)) ∈ am_ws := am_t3 178 rfl rfl
theorem wd_659 : (Cond.methodLink "NumberedSparksLaw" (66 : Nat) ({ cls := "NumberedSparks", name := "spark", desc := "(II)I" } : MethodName)) ∈ am_ws := am_t3 179 rfl rfl
theorem wd_660 : (Cond.instanceMethod ({ cls := "NumberedSparks", name := "spark", desc := "(II)I" } : MethodName)) ∈ am_ws := am_t3 180 rfl rfl
theorem wd_661 : (Cond.selects "NumberedSparks" ({ cls := "NumberedSparks", name := "spark", desc := "(II)I" } : MethodName) ({ cls := "NumberedSparks", name := "spark", desc := "(II)I" } : MethodName)) ∈ am_ws := am_t3 181 rfl rfl
theorem wd_662 : (Cond.code ({ cls := "NumberedSparks", name := "spark", desc := "(II)I" } : MethodName) prog_1_method_17_code (4 : Nat) (Option.some FieldType.int)) ∈ am_ws := am_t3 182 rfl rfl
theorem wd_663 : (Cond.methodLink "NumberedSparks" (176 : Nat) ({ cls := "NumberedSparks$Finder", name := "find", desc := "(I)LNumberedSparks$Spark;" } : MethodName)) ∈ am_ws := am_t3 183 rfl rfl
theorem wd_664 : (Cond.instanceMethod ({ cls := "NumberedSparks$Finder", name := "find", desc := "(I)LNumberedSparks$Spark;" } : MethodName)) ∈ am_ws := am_t3 184 rfl rfl
theorem wd_665 : (Cond.selects "NumberedSparks$Finder" ({ cls := "NumberedSparks$Finder", name := "find", desc := "(I)LNumberedSparks$Spark;" } : MethodName) ({ cls := "NumberedSparks$Finder", name := "find", desc := "(I)LNumberedSparks$Spark;" } : MethodName)) ∈ am_ws := am_t3 185 rfl rfl
theorem wd_666 : (Cond.code ({ cls := "NumberedSparks$Finder", name := "find", desc := "(I)LNumberedSparks$Spark;" } : MethodName) prog_2_method_2_code (5 : Nat) (Option.some (FieldType.object "NumberedSparks$Spark"))) ∈ am_ws := am_t3 186 rfl rfl
theorem wd_667 : (Cond.methodLink "NumberedSparks$Finder" (28 : Nat) ({ cls := "NumberedSparks$Scene", name := "hasSpark", desc := "(I)Z" } : MethodName)) ∈ am_ws := am_t3 187 rfl rfl
theorem wd_668 : (Cond.methodLinkNest "NumberedSparks$Finder" (34 : Nat) ({ cls := "NumberedSparks", name := "sourceOf", desc := "(I)I" } : MethodName) "NumberedSparks") ∈ am_ws := am_t3 188 rfl rfl
theorem wd_669 : (Cond.methodLinkNest "NumberedSparks$Finder" (40 : Nat) ({ cls := "NumberedSparks", name := "numberOf", desc := "(I)I" } : MethodName) "NumberedSparks") ∈ am_ws := am_t3 189 rfl rfl
theorem wd_670 : (Cond.methodLink "NumberedSparks$Finder" (43 : Nat) ({ cls := "NumberedSparks$Scene", name := "birthTick", desc := "(II)I" } : MethodName)) ∈ am_ws := am_t3 190 rfl rfl
theorem wd_671 : (Cond.instanceMethod ({ cls := "NumberedSparks$Scene", name := "birthTick", desc := "(II)I" } : MethodName)) ∈ am_ws := am_t3 191 rfl rfl
theorem wd_672 : (Cond.selects "NumberedSparks$Scene" ({ cls := "NumberedSparks$Scene", name := "birthTick", desc := "(II)I" } : MethodName) ({ cls := "NumberedSparks$Scene", name := "birthTick", desc := "(II)I" } : MethodName)) ∈ am_ws := am_t3 192 rfl rfl
theorem wd_673 : (Cond.code ({ cls := "NumberedSparks$Scene", name := "birthTick", desc := "(II)I" } : MethodName) prog_7_method_20_code (3 : Nat) (Option.some FieldType.int)) ∈ am_ws := am_t3 193 rfl rfl
theorem wd_674 : (Cond.methodLink "NumberedSparks$Scene" (102 : Nat) ({ cls := "NumberedSparks$Scene", name := "plannedTick", desc := "(II)I" } : MethodName)) ∈ am_ws := am_t3 194 rfl rfl
theorem wd_675 : (Cond.instanceMethod ({ cls := "NumberedSparks$Scene", name := "plannedTick", desc := "(II)I" } : MethodName)) ∈ am_ws := am_t3 195 rfl rfl
theorem wd_676 : (Cond.selects "NumberedSparks$Scene" ({ cls := "NumberedSparks$Scene", name := "plannedTick", desc := "(II)I" } : MethodName) ({ cls := "NumberedSparks$Scene", name := "plannedTick", desc := "(II)I" } : MethodName)) ∈ am_ws := am_t3 196 rfl rfl
theorem wd_677 : (Cond.code ({ cls := "NumberedSparks$Scene", name := "plannedTick", desc := "(II)I" } : MethodName) prog_7_method_19_code (4 : Nat) (Option.some FieldType.int)) ∈ am_ws := am_t3 197 rfl rfl
theorem wd_678 : (Cond.methodLink "NumberedSparks$Scene" (99 : Nat) ({ cls := "java/lang/Math", name := "max", desc := "(II)I" } : MethodName)) ∈ am_ws := am_t3 198 rfl rfl
theorem wd_679 : (Cond.static ({ cls := "java/lang/Math", name := "max", desc := "(II)I" } : MethodName)) ∈ am_ws := am_t3 199 rfl rfl
theorem wd_680 : (Cond.code ({ cls := "java/lang/Math", name := "max", desc := "(II)I" } : MethodName) prog_13_method_65_code (2 : Nat) (Option.some FieldType.int)) ∈ am_ws := am_t3 200 rfl rfl
theorem wd_681 : (Cond.methodLinkNest "NumberedSparks$Scene" (105 : Nat) ({ cls := "NumberedSparks", name := "codeOfRoot", desc := "(II)I" } : MethodName) "NumberedSparks") ∈ am_ws := am_t3 201 rfl rfl
theorem wd_682 : (Cond.static ({ cls := "NumberedSparks", name := "codeOfRoot", desc := "(II)I" } : MethodName)) ∈ am_ws := am_t3 202 rfl rfl
theorem wd_683 : (Cond.code ({ cls := "NumberedSparks", name := "codeOfRoot", desc := "(II)I" } : MethodName) prog_1_method_64_code (2 : Nat) (Option.some FieldType.int)) ∈ am_ws := am_t3 203 rfl rfl
theorem wd_684 : (Cond.methodLink "NumberedSparks$Scene" (70 : Nat) ({ cls := "NumberedSparks$Scene", name := "draw", desc := "(III)I" } : MethodName)) ∈ am_ws := am_t3 204 rfl rfl
theorem wd_685 : (Cond.instanceMethod ({ cls := "NumberedSparks$Scene", name := "draw", desc := "(III)I" } : MethodName)) ∈ am_ws := am_t3 205 rfl rfl
theorem wd_686 : (Cond.selects "NumberedSparks$Scene" ({ cls := "NumberedSparks$Scene", name := "draw", desc := "(III)I" } : MethodName) ({ cls := "NumberedSparks$Scene", name := "draw", desc := "(III)I" } : MethodName)) ∈ am_ws := am_t3 206 rfl rfl
theorem wd_687 : (Cond.code ({ cls := "NumberedSparks$Scene", name := "draw", desc := "(III)I" } : MethodName) prog_7_method_14_code (4 : Nat) (Option.some FieldType.int)) ∈ am_ws := am_t3 207 rfl rfl
theorem wd_688 : (Cond.methodLink "NumberedSparks$Scene" (66 : Nat) ({ cls := "NumberedSparks$Scene", name := "mix", desc := "(II)J" } : MethodName)) ∈ am_ws := am_t3 208 rfl rfl
theorem wd_689 : (Cond.methodLink "NumberedSparks$Finder" (47 : Nat) ({ cls := "NumberedSparks$Spark", name := "beginAtSource", desc := "(III)V" } : MethodName)) ∈ am_ws := am_t3 209 rfl rfl
theorem wd_690 : (Cond.instanceMethod ({ cls := "NumberedSparks$Spark", name := "beginAtSource", desc := "(III)V" } : MethodName)) ∈ am_ws := am_t3 210 rfl rfl
theorem wd_691 : (Cond.selects "NumberedSparks$Spark" ({ cls := "NumberedSparks$Spark", name := "beginAtSource", desc := "(III)V" } : MethodName) ({ cls := "NumberedSparks$Spark", name := "beginAtSource", desc := "(III)V" } : MethodName)) ∈ am_ws := am_t3 211 rfl rfl
theorem wd_692 : (Cond.code ({ cls := "NumberedSparks$Spark", name := "beginAtSource", desc := "(III)V" } : MethodName) prog_8_method_2_code (5 : Nat) (Option.none : Option FieldType)) ∈ am_ws := am_t3 212 rfl rfl
theorem wd_693 : (Cond.methodLinkNest "NumberedSparks$Spark" (22 : Nat) ({ cls := "NumberedSparks", name := "codeOfRoot", desc := "(II)I" } : MethodName) "NumberedSparks") ∈ am_ws := am_t3 213 rfl rfl
theorem wd_694 : (Cond.methodLink "NumberedSparks$Spark" (30 : Nat) ({ cls := "NumberedSparks$Scene", name := "ofSource", desc := "(II)I" } : MethodName)) ∈ am_ws := am_t3 214 rfl rfl
theorem wd_695 : (Cond.methodLink "NumberedSparks$Spark" (44 : Nat) ({ cls := "NumberedSparks$Scene", name := "ofKind", desc := "(II)I" } : MethodName)) ∈ am_ws := am_t3 215 rfl rfl
theorem wd_696 : (Cond.methodLink "NumberedSparks$Spark" (47 : Nat) ({ cls := "NumberedSparks$Scene", name := "draw", desc := "(III)I" } : MethodName)) ∈ am_ws := am_t3 216 rfl rfl
theorem wd_697 : (Cond.methodLink "NumberedSparks$Finder" (51 : Nat) ({ cls := "NumberedSparks$Spark", name := "fly", desc := "()V" } : MethodName)) ∈ am_ws := am_t3 217 rfl rfl
theorem wd_698 : (Cond.instanceMethod ({ cls := "NumberedSparks$Spark", name := "fly", desc := "()V" } : MethodName)) ∈ am_ws := am_t3 218 rfl rfl
theorem wd_699 : (Cond.selects "NumberedSparks$Spark" ({ cls := "NumberedSparks$Spark", name := "fly", desc := "()V" } : MethodName) ({ cls := "NumberedSparks$Spark", name := "fly", desc := "()V" } : MethodName)) ∈ am_ws := am_t3 219 rfl rfl
theorem wd_700 : (Cond.code ({ cls := "NumberedSparks$Spark", name := "fly", desc := "()V" } : MethodName) prog_8_method_4_code (3 : Nat) (Option.none : Option FieldType)) ∈ am_ws := am_t3 220 rfl rfl
theorem wd_701 : (Cond.methodLink "NumberedSparks$Spark" (66 : Nat) ({ cls := "NumberedSparks$Spark", name := "ageBeyond", desc := "(II)I" } : MethodName)) ∈ am_ws := am_t3 221 rfl rfl
theorem wd_703 : (Cond.instanceMethod ({ cls := "NumberedSparks$Spark", name := "ageBeyond", desc := "(II)I" } : MethodName)) ∈ am_ws := am_t3 223 rfl rfl
theorem wd_704 : (Cond.code ({ cls := "NumberedSparks$Spark", name := "ageBeyond", desc := "(II)I" } : MethodName) prog_8_method_5_code (8 : Nat) (Option.some FieldType.int)) ∈ am_ws := am_t3 224 rfl rfl
theorem wd_705 : (Cond.methodLink "NumberedSparks$Spark" (74 : Nat) ({ cls := "NumberedSparks$Scene", name := "cellsAlong", desc := "(I)I" } : MethodName)) ∈ am_ws := am_t3 225 rfl rfl
theorem wd_706 : (Cond.methodLink "NumberedSparks$Spark" (69 : Nat) ({ cls := "java/lang/Math", name := "min", desc := "(II)I" } : MethodName)) ∈ am_ws := am_t3 226 rfl rfl
theorem wd_707 : (Cond.methodLinkNest "NumberedSparks$Finder" (54 : Nat) ({ cls := "NumberedSparks", name := "generationOf", desc := "(I)I" } : MethodName) "NumberedSparks") ∈ am_ws := am_t3 227 rfl rfl
theorem wd_708 : (Cond.methodLink "NumberedSparks$Finder" (57 : Nat) ({ cls := "NumberedSparks$Spark", name := "beginAsChild", desc := "(LNumberedSparks$Spark;I)V" } : MethodName)) ∈ am_ws := am_t3 228 rfl rfl
theorem wd_709 : (Cond.instanceMethod ({ cls := "NumberedSparks$Spark", name := "beginAsChild", desc := "(LNumberedSparks$Spark;I)V" } : MethodName)) ∈ am_ws := am_t3 229 rfl rfl
theorem wd_710 : (Cond.selects "NumberedSparks$Spark" ({ cls := "NumberedSparks$Spark", name := "beginAsChild", desc := "(LNumberedSparks$Spark;I)V" } : MethodName) ({ cls := "NumberedSparks$Spark", name := "beginAsChild", desc := "(LNumberedSparks$Spark;I)V" } : MethodName)) ∈ am_ws := am_t3 230 rfl rfl
theorem wd_711 : (Cond.code ({ cls := "NumberedSparks$Spark", name := "beginAsChild", desc := "(LNumberedSparks$Spark;I)V" } : MethodName) prog_8_method_3_code (4 : Nat) (Option.none : Option FieldType)) ∈ am_ws := am_t3 231 rfl rfl
theorem wd_712 : (Cond.methodLinkNest "NumberedSparks$Spark" (54 : Nat) ({ cls := "NumberedSparks", name := "codeOfChild", desc := "(III)I" } : MethodName) "NumberedSparks") ∈ am_ws := am_t3 232 rfl rfl
theorem wd_713 : (Cond.methodLink "NumberedSparks$Spark" (57 : Nat) ({ cls := "NumberedSparks$Spark", name := "placeAt", desc := "(II)I" } : MethodName)) ∈ am_ws := am_t3 233 rfl rfl
theorem wd_714 : (Cond.instanceMethod ({ cls := "NumberedSparks$Spark", name := "placeAt", desc := "(II)I" } : MethodName)) ∈ am_ws := am_t3 234 rfl rfl
theorem wd_715 : (Cond.selects "NumberedSparks$Spark" ({ cls := "NumberedSparks$Spark", name := "placeAt", desc := "(II)I" } : MethodName) ({ cls := "NumberedSparks$Spark", name := "placeAt", desc := "(II)I" } : MethodName)) ∈ am_ws := am_t3 235 rfl rfl
theorem wd_716 : (Cond.code ({ cls := "NumberedSparks$Spark", name := "placeAt", desc := "(II)I" } : MethodName) prog_8_method_8_code (6 : Nat) (Option.some FieldType.int)) ∈ am_ws := am_t3 236 rfl rfl
theorem wd_717 : (Cond.methodLink "NumberedSparks$Spark" (78 : Nat) ({ cls := "NumberedSparks$Spark", name := "freePlace", desc := "(II)I" } : MethodName)) ∈ am_ws := am_t3 237 rfl rfl
theorem wd_719 : (Cond.instanceMethod ({ cls := "NumberedSparks$Spark", name := "freePlace", desc := "(II)I" } : MethodName)) ∈ am_ws := am_t3 239 rfl rfl
theorem wd_720 : (Cond.code ({ cls := "NumberedSparks$Spark", name := "freePlace", desc := "(II)I" } : MethodName) prog_8_method_7_code (4 : Nat) (Option.some FieldType.int)) ∈ am_ws := am_t4 0 rfl rfl
theorem wd_721 : (Cond.methodLink "NumberedSparks$Spark" (81 : Nat) ({ cls := "java/lang/Math", name := "floorMod", desc := "(II)I" } : MethodName)) ∈ am_ws := am_t4 1 rfl rfl
theorem wd_722 : (Cond.static ({ cls := "java/lang/Math", name := "floorMod", desc := "(II)I" } : MethodName)) ∈ am_ws := am_t4 2 rfl rfl
theorem wd_723 : (Cond.code ({ cls := "java/lang/Math", name := "floorMod", desc := "(II)I" } : MethodName) prog_13_method_50_code (3 : Nat) (Option.some FieldType.int)) ∈ am_ws := am_t4 3 rfl rfl
theorem wd_724 : (Cond.methodLink "NumberedSparks" (185 : Nat) ({ cls := "NumberedSparks", name := "sourceOf", desc := "(I)I" } : MethodName)) ∈ am_ws := am_t4 4 rfl rfl
theorem wd_725 : (Cond.methodLink "NumberedSparks" (188 : Nat) ({ cls := "NumberedSparks", name := "numberOf", desc := "(I)I" } : MethodName)) ∈ am_ws := am_t4 5 rfl rfl
theorem wd_726 : (Cond.methodLink "NumberedSparks" (194 : Nat) ({ cls := "NumberedSparks$Scene", name := "colourOf", desc := "(I)I" } : MethodName)) ∈ am_ws := am_t4 6 rfl rfl
theorem wd_727 : (Cond.instanceMethod ({ cls := "NumberedSparks$Scene", name := "colourOf", desc := "(I)I" } : MethodName)) ∈ am_ws := am_t4 7 rfl rfl
theorem wd_728 : (Cond.selects "NumberedSparks$Scene" ({ cls := "NumberedSparks$Scene", name := "colourOf", desc := "(I)I" } : MethodName) ({ cls := "NumberedSparks$Scene", name := "colourOf", desc := "(I)I" } : MethodName)) ∈ am_ws := am_t4 8 rfl rfl
theorem wd_729 : (Cond.code ({ cls := "NumberedSparks$Scene", name := "colourOf", desc := "(I)I" } : MethodName) prog_7_method_15_code (2 : Nat) (Option.some FieldType.int)) ∈ am_ws := am_t4 9 rfl rfl
theorem wd_730 : (Cond.methodLink "NumberedSparksLaw" (70 : Nat) ({ cls := "NumberedSparks", name := "place", desc := "(III)I" } : MethodName)) ∈ am_ws := am_t4 10 rfl rfl
theorem wd_731 : (Cond.instanceMethod ({ cls := "NumberedSparks", name := "place", desc := "(III)I" } : MethodName)) ∈ am_ws := am_t4 11 rfl rfl
theorem wd_732 : (Cond.selects "NumberedSparks" ({ cls := "NumberedSparks", name := "place", desc := "(III)I" } : MethodName) ({ cls := "NumberedSparks", name := "place", desc := "(III)I" } : MethodName)) ∈ am_ws := am_t4 12 rfl rfl
theorem wd_733 : (Cond.code ({ cls := "NumberedSparks", name := "place", desc := "(III)I" } : MethodName) prog_1_method_18_code (5 : Nat) (Option.some FieldType.int)) ∈ am_ws := am_t4 13 rfl rfl
theorem wd_734 : (Cond.methodLink "NumberedSparks" (206 : Nat) ({ cls := "NumberedSparks", name := "isTick", desc := "(I)Z" } : MethodName)) ∈ am_ws := am_t4 14 rfl rfl
theorem wd_735 : (Cond.static ({ cls := "NumberedSparks", name := "isTick", desc := "(I)Z" } : MethodName)) ∈ am_ws := am_t4 15 rfl rfl
theorem wd_736 : (Cond.code ({ cls := "NumberedSparks", name := "isTick", desc := "(I)Z" } : MethodName) prog_1_method_59_code (1 : Nat) (Option.some FieldType.boolean)) ∈ am_ws := am_t4 16 rfl rfl
theorem wd_737 : (Cond.methodLink "NumberedSparks" (209 : Nat) ({ cls := "NumberedSparks", name := "isAxis", desc := "(I)Z" } : MethodName)) ∈ am_ws := am_t4 17 rfl rfl
theorem wd_738 : (Cond.static ({ cls := "NumberedSparks", name := "isAxis", desc := "(I)Z" } : MethodName)) ∈ am_ws := am_t4 18 rfl rfl
theorem wd_739 : (Cond.code ({ cls := "NumberedSparks", name := "isAxis", desc := "(I)Z" } : MethodName) prog_1_method_60_code (1 : Nat) (Option.some FieldType.boolean)) ∈ am_ws := am_t4 19 rfl rfl
theorem wd_740 : (Cond.methodLink "NumberedSparks" (212 : Nat) ({ cls := "NumberedSparks$Spark", name := "isThere", desc := "(I)Z" } : MethodName)) ∈ am_ws := am_t4 20 rfl rfl
theorem wd_741 : (Cond.instanceMethod ({ cls := "NumberedSparks$Spark", name := "isThere", desc := "(I)Z" } : MethodName)) ∈ am_ws := am_t4 21 rfl rfl
theorem wd_742 : (Cond.selects "NumberedSparks$Spark" ({ cls := "NumberedSparks$Spark", name := "isThere", desc := "(I)Z" } : MethodName) ({ cls := "NumberedSparks$Spark", name := "isThere", desc := "(I)Z" } : MethodName)) ∈ am_ws := am_t4 22 rfl rfl
theorem wd_743 : (Cond.code ({ cls := "NumberedSparks$Spark", name := "isThere", desc := "(I)Z" } : MethodName) prog_8_method_6_code (2 : Nat) (Option.some FieldType.boolean)) ∈ am_ws := am_t4 23 rfl rfl
theorem wd_744 : (Cond.methodLink "NumberedSparks" (215 : Nat) ({ cls := "NumberedSparks$Spark", name := "placeAt", desc := "(II)I" } : MethodName)) ∈ am_ws := am_t4 24 rfl rfl
theorem wd_745 : (Cond.methodLink "NumberedSparksLaw" (75 : Nat) ({ cls := "NumberedSparks", name := "size", desc := "(II)I" } : MethodName)) ∈ am_ws := am_t4 25 rfl rfl
theorem wd_746 : (Cond.instanceMethod ({ cls := "NumberedSparks", name := "size", desc := "(II)I" } : MethodName)) ∈ am_ws := am_t4 26 rfl rfl
theorem wd_747 : (Cond.selects "NumberedSparks" ({ cls := "NumberedSparks", name := "size", desc := "(II)I" } : MethodName) ({ cls := "NumberedSparks", name := "size", desc := "(II)I" } : MethodName)) ∈ am_ws := am_t4 27 rfl rfl
theorem wd_748 : (Cond.code ({ cls := "NumberedSparks", name := "size", desc := "(II)I" } : MethodName) prog_1_method_19_code (6 : Nat) (Option.some FieldType.int)) ∈ am_ws := am_t4 28 rfl rfl
theorem wd_749 : (Cond.methodLink "NumberedSparks" (218 : Nat) ({ cls := "java/lang/Math", name := "max", desc := "(II)I" } : MethodName)) ∈ am_ws := am_t4 29 rfl rfl
theorem wd_750 : (Cond.methodLink "NumberedSparksLaw" (79 : Nat) ({ cls := "NumberedSparks", name := "edges", desc := "(I)I" } : MethodName)) ∈ am_ws := am_t4 30 rfl rfl
theorem wd_751 : (Cond.instanceMethod ({ cls := "NumberedSparks", name := "edges", desc := "(I)I" } : MethodName)) ∈ am_ws := am_t4 31 rfl rfl
theorem wd_752 : (Cond.selects "NumberedSparks" ({ cls := "NumberedSparks", name := "edges", desc := "(I)I" } : MethodName) ({ cls := "NumberedSparks", name := "edges", desc := "(I)I" } : MethodName)) ∈ am_ws := am_t4 32 rfl rfl
theorem wd_753 : (Cond.code ({ cls := "NumberedSparks", name := "edges", desc := "(I)I" } : MethodName) prog_1_method_20_code (5 : Nat) (Option.some FieldType.int)) ∈ am_ws := am_t4 33 rfl rfl
theorem wd_754 : (Cond.methodLink "NumberedSparks" (223 : Nat) ({ cls := "NumberedSparks$Spark", name := "edgesAt", desc := "(I)I" } : MethodName)) ∈ am_ws := am_t4 34 rfl rfl
theorem wd_755 : (Cond.instanceMethod ({ cls := "NumberedSparks$Spark", name := "edgesAt", desc := "(I)I" } : MethodName)) ∈ am_ws := am_t4 35 rfl rfl
theorem wd_756 : (Cond.selects "NumberedSparks$Spark" ({ cls := "NumberedSparks$Spark", name := "edgesAt", desc := "(I)I" } : MethodName) ({ cls := "NumberedSparks$Spark", name := "edgesAt", desc := "(I)I" } : MethodName)) ∈ am_ws := am_t4 36 rfl rfl
theorem wd_757 : (Cond.code ({ cls := "NumberedSparks$Spark", name := "edgesAt", desc := "(I)I" } : MethodName) prog_8_method_10_code (7 : Nat) (Option.some FieldType.int)) ∈ am_ws := am_t4 37 rfl rfl
theorem wd_758 : (Cond.methodLink "NumberedSparks$Spark" (84 : Nat) ({ cls := "java/lang/Math", name := "max", desc := "(II)I" } : MethodName)) ∈ am_ws := am_t4 38 rfl rfl
theorem wd_759 : (Cond.methodLink "NumberedSparks$Spark" (87 : Nat) ({ cls := "java/lang/Math", name := "floorDiv", desc := "(II)I" } : MethodName)) ∈ am_ws := am_t4 39 rfl rfl
theorem wd_760 : (Cond.static ({ cls := "java/lang/Math", name := "floorDiv", desc := "(II)I" } : MethodName)) ∈ am_ws := am_t4 40 rfl rfl
theorem wd_761 : (Cond.code ({ cls := "java/lang/Math", name := "floorDiv", desc := "(II)I" } : MethodName) prog_13_method_47_code (3 : Nat) (Option.some FieldType.int)) ∈ am_ws := am_t4 41 rfl rfl
theorem wd_762 : (Cond.methodLink "NumberedSparks$Spark" (90 : Nat) ({ cls := "java/lang/Math", name := "abs", desc := "(I)I" } : MethodName)) ∈ am_ws := am_t4 42 rfl rfl
theorem wd_763 : (Cond.static ({ cls := "java/lang/Math", name := "abs", desc := "(I)I" } : MethodName)) ∈ am_ws := am_t4 43 rfl rfl
theorem wd_764 : (Cond.code ({ cls := "java/lang/Math", name := "abs", desc := "(I)I" } : MethodName) prog_13_method_59_code (1 : Nat) (Option.some FieldType.int)) ∈ am_ws := am_t4 44 rfl rfl
theorem wd_765 : (Cond.methodLink "NumberedSparksLaw" (193 : Nat) ({ cls := "NumberedSparks", name := "over", desc := "(I)I" } : MethodName)) ∈ am_ws := am_t4 45 rfl rfl
theorem wd_766 : (Cond.instanceMethod ({ cls := "NumberedSparks", name := "over", desc := "(I)I" } : MethodName)) ∈ am_ws := am_t4 46 rfl rfl
theorem wd_767 : (Cond.selects "NumberedSparks" ({ cls := "NumberedSparks", name := "over", desc := "(I)I" } : MethodName) ({ cls := "NumberedSparks", name := "over", desc := "(I)I" } : MethodName)) ∈ am_ws := am_t4 47 rfl rfl
theorem wd_768 : (Cond.code ({ cls := "NumberedSparks", name := "over", desc := "(I)I" } : MethodName) prog_1_method_21_code (4 : Nat) (Option.some FieldType.int)) ∈ am_ws := am_t4 48 rfl rfl
theorem wd_769 : (Cond.methodLink "NumberedSparksLaw" (189 : Nat) ({ cls := "NumberedSparks", name := "reach", desc := "(III)I" } : MethodName)) ∈ am_ws := am_t4 49 rfl rfl
theorem wd_770 : (Cond.instanceMethod ({ cls := "NumberedSparks", name := "reach", desc := "(III)I" } : MethodName)) ∈ am_ws := am_t4 50 rfl rfl
theorem wd_771 : (Cond.selects "NumberedSparks" ({ cls := "NumberedSparks", name := "reach", desc := "(III)I" } : MethodName) ({ cls := "NumberedSparks", name := "reach", desc := "(III)I" } : MethodName)) ∈ am_ws := am_t4 51 rfl rfl
theorem wd_772 : (Cond.code ({ cls := "NumberedSparks", name := "reach", desc := "(III)I" } : MethodName) prog_1_method_22_code (8 : Nat) (Option.some FieldType.int)) ∈ am_ws := am_t4 52 rfl rfl
theorem wd_773 : (Cond.methodLink "NumberedSparks" (226 : Nat) ({ cls := "java/lang/Math", name := "min", desc := "(II)I" } : MethodName)) ∈ am_ws := am_t4 53 rfl rfl
theorem wd_774 : (Cond.methodLink "NumberedSparksLaw" (153 : Nat) ({ cls := "NumberedSparks", name := "cellsOf", desc := "(I)I" } : MethodName)) ∈ am_ws := am_t4 54 rfl rfl
theorem wd_775 : (Cond.instanceMethod ({ cls := "NumberedSparks", name := "cellsOf", desc := "(I)I" } : MethodName)) ∈ am_ws := am_t4 55 rfl rfl
theorem wd_776 : (Cond.selects "NumberedSparks" ({ cls := "NumberedSparks", name := "cellsOf", desc := "(I)I" } : MethodName) ({ cls := "NumberedSparks", name := "cellsOf", desc := "(I)I" } : MethodName)) ∈ am_ws := am_t4 56 rfl rfl
theorem wd_777 : (Cond.code ({ cls := "NumberedSparks", name := "cellsOf", desc := "(I)I" } : MethodName) prog_1_method_23_code (6 : Nat) (Option.some FieldType.int)) ∈ am_ws := am_t4 57 rfl rfl
theorem wd_778 : (Cond.methodLink "NumberedSparks" (229 : Nat) ({ cls := "NumberedSparks$Spark", name := "cellAt", desc := "(I)I" } : MethodName)) ∈ am_ws := am_t4 58 rfl rfl
theorem wd_779 : (Cond.instanceMethod ({ cls := "NumberedSparks$Spark", name := "cellAt", desc := "(I)I" } : MethodName)) ∈ am_ws := am_t4 59 rfl rfl
theorem wd_780 : (Cond.selects "NumberedSparks$Spark" ({ cls := "NumberedSparks$Spark", name := "cellAt", desc := "(I)I" } : MethodName) ({ cls := "NumberedSparks$Spark", name := "cellAt", desc := "(I)I" } : MethodName)) ∈ am_ws := am_t4 60 rfl rfl
theorem wd_781 : (Cond.code ({ cls := "NumberedSparks$Spark", name := "cellAt", desc := "(I)I" } : MethodName) prog_8_method_9_code (5 : Nat) (Option.some FieldType.int)) ∈ am_ws := am_t4 61 rfl rfl
theorem wd_782 : (Cond.methodLink "NumberedSparks" (232 : Nat) ({ cls := "NumberedSparks", name := "isAmong", desc := "(II)Z" } : MethodName)) ∈ am_ws := am_t4 62 rfl rfl
theorem wd_784 : (Cond.instanceMethod ({ cls := "NumberedSparks", name := "isAmong", desc := "(II)Z" } : MethodName)) ∈ am_ws := am_t4 64 rfl rfl
theorem wd_785 : (Cond.code ({ cls := "NumberedSparks", name := "isAmong", desc := "(II)Z" } : MethodName) prog_1_method_24_code (4 : Nat) (Option.some FieldType.boolean)) ∈ am_ws := am_t4 65 rfl rfl
theorem wd_786 : (Cond.methodLink "NumberedSparksLaw" (157 : Nat) ({ cls := "NumberedSparks", name := "meets", desc := "(II)I" } : MethodName)) ∈ am_ws := am_t4 66 rfl rfl
theorem wd_787 : (Cond.instanceMethod ({ cls := "NumberedSparks", name := "meets", desc := "(II)I" } : MethodName)) ∈ am_ws := am_t4 67 rfl rfl
theorem wd_788 : (Cond.selects "NumberedSparks" ({ cls := "NumberedSparks", name := "meets", desc := "(II)I" } : MethodName) ({ cls := "NumberedSparks", name := "meets", desc := "(II)I" } : MethodName)) ∈ am_ws := am_t4 68 rfl rfl
theorem wd_789 : (Cond.code ({ cls := "NumberedSparks", name := "meets", desc := "(II)I" } : MethodName) prog_1_method_25_code (7 : Nat) (Option.some FieldType.int)) ∈ am_ws := am_t4 69 rfl rfl
theorem wd_790 : (Cond.methodLink "NumberedSparksLaw" (185 : Nat) ({ cls := "NumberedSparks", name := "kin", desc := "(II)I" } : MethodName)) ∈ am_ws := am_t4 70 rfl rfl
theorem wd_791 : (Cond.instanceMethod ({ cls := "NumberedSparks", name := "kin", desc := "(II)I" } : MethodName)) ∈ am_ws := am_t4 71 rfl rfl
theorem wd_792 : (Cond.selects "NumberedSparks" ({ cls := "NumberedSparks", name := "kin", desc := "(II)I" } : MethodName) ({ cls := "NumberedSparks", name := "kin", desc := "(II)I" } : MethodName)) ∈ am_ws := am_t4 72 rfl rfl
theorem wd_793 : (Cond.code ({ cls := "NumberedSparks", name := "kin", desc := "(II)I" } : MethodName) prog_1_method_26_code (3 : Nat) (Option.some FieldType.int)) ∈ am_ws := am_t4 73 rfl rfl
theorem wd_794 : (Cond.methodLink "NumberedSparksLaw" (133 : Nat) ({ cls := "NumberedSparks", name := "line", desc := "(II)I" } : MethodName)) ∈ am_ws := am_t4 74 rfl rfl
theorem wd_795 : (Cond.instanceMethod ({ cls := "NumberedSparks", name := "line", desc := "(II)I" } : MethodName)) ∈ am_ws := am_t4 75 rfl rfl
theorem wd_796 : (Cond.selects "NumberedSparks" ({ cls := "NumberedSparks", name := "line", desc := "(II)I" } : MethodName) ({ cls := "NumberedSparks", name := "line", desc := "(II)I" } : MethodName)) ∈ am_ws := am_t4 76 rfl rfl
theorem wd_797 : (Cond.code ({ cls := "NumberedSparks", name := "line", desc := "(II)I" } : MethodName) prog_1_method_27_code (7 : Nat) (Option.some FieldType.int)) ∈ am_ws := am_t4 77 rfl rfl
theorem wd_798 : (Cond.methodLink "NumberedSparks" (236 : Nat) ({ cls := "NumberedSparks$Walk", name := "startWithRoot", desc := "(II)V" } : MethodName)) ∈ am_ws := am_t4 78 rfl rfl
theorem wd_799 : (Cond.instanceMethod ({ cls := "NumberedSparks$Walk", name := "startWithRoot", desc := "(II)V" } : MethodName)) ∈ am_ws := am_t4 79 rfl rfl
theorem wd_800 : (Cond.selects "NumberedSparks$Walk" ({ cls := "NumberedSparks$Walk", name := "startWithRoot", desc := "(II)V" } : MethodName) ({ cls := "NumberedSparks$Walk", name := "startWithRoot", desc := "(II)V" } : MethodName)) ∈ am_ws := am_t4 80 rfl rfl
theorem wd_801 : (Cond.code ({ cls := "NumberedSparks$Walk", name := "startWithRoot", desc := "(II)V" } : MethodName) prog_9_method_3_code (4 : Nat) (Option.none : Option FieldType)) ∈ am_ws := am_t4 81 rfl rfl
theorem wd_802 : (Cond.methodLink "NumberedSparks$Walk" (63 : Nat) ({ cls := "NumberedSparks$Walk", name := "start", desc := "(II)V" } : MethodName)) ∈ am_ws := am_t4 82 rfl rfl
theorem wd_803 : (Cond.instanceMethod ({ cls := "NumberedSparks$Walk", name := "start", desc := "(II)V" } : MethodName)) ∈ am_ws := am_t4 83 rfl rfl
theorem wd_804 : (Cond.selects "NumberedSparks$Walk" ({ cls := "NumberedSparks$Walk", name := "start", desc := "(II)V" } : MethodName) ({ cls := "NumberedSparks$Walk", name := "start", desc := "(II)V" } : MethodName)) ∈ am_ws := am_t4 84 rfl rfl
theorem wd_805 : (Cond.code ({ cls := "NumberedSparks$Walk", name := "start", desc := "(II)V" } : MethodName) prog_9_method_2_code (6 : Nat) (Option.none : Option FieldType)) ∈ am_ws := am_t4 85 rfl rfl
theorem wd_806 : (Cond.methodLink "NumberedSparks$Walk" (44 : Nat) ({ cls := "NumberedSparks$Walk", name := "measureSpans", desc := "()V" } : MethodName)) ∈ am_ws := am_t4 86 rfl rfl
theorem wd_808 : (Cond.instanceMethod ({ cls := "NumberedSparks$Walk", name := "measureSpans", desc := "()V" } : MethodName)) ∈ am_ws := am_t4 88 rfl rfl
theorem wd_809 : (Cond.code ({ cls := "NumberedSparks$Walk", name := "measureSpans", desc := "()V" } : MethodName) prog_9_method_4_code (4 : Nat) (Option.none : Option FieldType)) ∈ am_ws := am_t4 89 rfl rfl
theorem wd_810 : (Cond.methodLink "NumberedSparks$Walk" (70 : Nat) ({ cls := "NumberedSparks$Scene", name := "ofKind", desc := "(II)I" } : MethodName)) ∈ am_ws := am_t4 90 rfl rfl
theorem wd_811 : (Cond.methodLink "NumberedSparks$Walk" (73 : Nat) ({ cls := "NumberedSparks$Walk", name := "spanBehind", desc := "(II)I" } : MethodName)) ∈ am_ws := am_t4 91 rfl rfl
theorem wd_813 : (Cond.instanceMethod ({ cls := "NumberedSparks$Walk", name := "spanBehind", desc := "(II)I" } : MethodName)) ∈ am_ws := am_t4 93 rfl rfl
theorem wd_814 : (Cond.code ({ cls := "NumberedSparks$Walk", name := "spanBehind", desc := "(II)I" } : MethodName) prog_9_method_6_code (3 : Nat) (Option.some FieldType.int)) ∈ am_ws := am_t4 94 rfl rfl
theorem wd_815 : (Cond.methodLink "NumberedSparks$Walk" (57 : Nat) ({ cls := "NumberedSparks$Walk", name := "spanOf", desc := "(II)I" } : MethodName)) ∈ am_ws := am_t4 95 rfl rfl
theorem wd_817 : (Cond.instanceMethod ({ cls := "NumberedSparks$Walk", name := "spanOf", desc := "(II)I" } : MethodName)) ∈ am_ws := am_t4 97 rfl rfl
theorem wd_818 : (Cond.code ({ cls := "NumberedSparks$Walk", name := "spanOf", desc := "(II)I" } : MethodName) prog_9_method_5_code (4 : Nat) (Option.some FieldType.int)) ∈ am_ws := am_t4 98 rfl rfl
theorem wd_819 : (Cond.methodLink "NumberedSparks$Walk" (47 : Nat) ({ cls := "NumberedSparks$Scene", name := "isSource", desc := "(I)Z" } : MethodName)) ∈ am_ws := am_t4 99 rfl rfl
theorem wd_820 : (Cond.methodLink "NumberedSparks$Walk" (53 : Nat) ({ cls := "NumberedSparks$Scene", name := "ofSource", desc := "(II)I" } : MethodName)) ∈ am_ws := am_t4 100 rfl rfl
theorem wd_821 : (Cond.methodLink "NumberedSparks$Walk" (60 : Nat) ({ cls := "NumberedSparks$Scene", name := "burstsUpTo", desc := "(II)I" } : MethodName)) ∈ am_ws := am_t4 101 rfl rfl
theorem wd_822 : (Cond.methodLink "NumberedSparks" (240 : Nat) ({ cls := "NumberedSparks$Walk", name := "stepRoot", desc := "()Z" } : MethodName)) ∈ am_ws := am_t4 102 rfl rfl
theorem wd_823 : (Cond.instanceMethod ({ cls := "NumberedSparks$Walk", name := "stepRoot", desc := "()Z" } : MethodName)) ∈ am_ws := am_t4 103 rfl rfl
theorem wd_824 : (Cond.selects "NumberedSparks$Walk" ({ cls := "NumberedSparks$Walk", name := "stepRoot", desc := "()Z" } : MethodName) ({ cls := "NumberedSparks$Walk", name := "stepRoot", desc := "()Z" } : MethodName)) ∈ am_ws := am_t4 104 rfl rfl
theorem wd_825 : (Cond.code ({ cls := "NumberedSparks$Walk", name := "stepRoot", desc := "()Z" } : MethodName) prog_9_method_7_code (7 : Nat) (Option.some FieldType.boolean)) ∈ am_ws := am_t4 105 rfl rfl
theorem wd_826 : (Cond.methodLink "NumberedSparks$Walk" (79 : Nat) ({ cls := "NumberedSparks$Walk", name := "sourceOfLeastRoot", desc := "()I" } : MethodName)) ∈ am_ws := am_t4 106 rfl rfl
theorem wd_828 : (Cond.instanceMethod ({ cls := "NumberedSparks$Walk", name := "sourceOfLeastRoot", desc := "()I" } : MethodName)) ∈ am_ws := am_t4 108 rfl rfl
theorem wd_829 : (Cond.code ({ cls := "NumberedSparks$Walk", name := "sourceOfLeastRoot", desc := "()I" } : MethodName) prog_9_method_11_code (3 : Nat) (Option.some FieldType.int)) ∈ am_ws := am_t4 109 rfl rfl
theorem wd_830 : (Cond.methodLink "NumberedSparks$Walk" (83 : Nat) ({ cls := "NumberedSparks$Scene", name := "birthTick", desc := "(II)I" } : MethodName)) ∈ am_ws := am_t4 110 rfl rfl
theorem wd_831 : (Cond.methodLink "NumberedSparks$Walk" (86 : Nat) ({ cls := "NumberedSparks$Spark", name := "beginAtSource", desc := "(III)V" } : MethodName)) ∈ am_ws := am_t4 111 rfl rfl
theorem wd_832 : (Cond.methodLink "NumberedSparks$Walk" (90 : Nat) ({ cls := "NumberedSparks$Walk", name := "isOutside", desc := "(LNumberedSparks$Spark;)Z" } : MethodName)) ∈ am_ws := am_t4 112 rfl rfl
theorem wd_834 : (Cond.instanceMethod ({ cls := "NumberedSparks$Walk", name := "isOutside", desc := "(LNumberedSparks$Spark;)Z" } : MethodName)) ∈ am_ws := am_t4 114 rfl rfl
theorem wd_835 : (Cond.code ({ cls := "NumberedSparks$Walk", name := "isOutside", desc := "(LNumberedSparks$Spark;)Z" } : MethodName) prog_9_method_9_code (2 : Nat) (Option.some FieldType.boolean)) ∈ am_ws := am_t4 115 rfl rfl
theorem wd_836 : (Cond.methodLink "NumberedSparks$Walk" (94 : Nat) ({ cls := "NumberedSparks$Spark", name := "fly", desc := "()V" } : MethodName)) ∈ am_ws := am_t4 116 rfl rfl
theorem wd_837 : (Cond.methodLink "NumberedSparks$Walk" (97 : Nat) ({ cls := "NumberedSparks$Walk", name := "show", desc := "(I)V" } : MethodName)) ∈ am_ws := am_t4 117 rfl rfl
theorem wd_839 : (Cond.instanceMethod ({ cls := "NumberedSparks$Walk", name := "show", desc := "(I)V" } : MethodName)) ∈ am_ws := am_t4 119 rfl rfl
theorem wd_840 : (Cond.code ({ cls := "NumberedSparks$Walk", name := "show", desc := "(I)V" } : MethodName) prog_9_method_10_code (2 : Nat) (Option.none : Option FieldType)) ∈ am_ws := am_t4 120 rfl rfl
theorem wd_841 : (Cond.methodLink "NumberedSparks$Walk" (104 : Nat) ({ cls := "NumberedSparks$Walk", name := "stepChild", desc := "(LNumberedSparks$Spark;II)V" } : MethodName)) ∈ am_ws := am_t4 121 rfl rfl
theorem wd_843 : (Cond.instanceMethod ({ cls := "NumberedSparks$Walk", name := "stepChild", desc := "(LNumberedSparks$Spark;II)V" } : MethodName)) ∈ am_ws := am_t4 123 rfl rfl
theorem wd_844 : (Cond.code ({ cls := "NumberedSparks$Walk", name := "stepChild", desc := "(LNumberedSparks$Spark;II)V" } : MethodName) prog_9_method_8_code (8 : Nat) (Option.none : Option FieldType)) ∈ am_ws := am_t4 124 rfl rfl
theorem wd_845 : (Cond.methodLink "NumberedSparks$Walk" (108 : Nat) ({ cls := "NumberedSparks$Spark", name := "beginAsChild", desc := "(LNumberedSparks$Spark;I)V" } : MethodName)) ∈ am_ws := am_t4 125 rfl rfl
theorem wd_846 : (Cond.methodLink "NumberedSparks" (246 : Nat) ({ cls := "NumberedSparks$Walk", name := "shown", desc := "(I)LNumberedSparks$Spark;" } : MethodName)) ∈ am_ws := am_t4 126 rfl rfl
theorem wd_847 : (Cond.instanceMethod ({ cls := "NumberedSparks$Walk", name := "shown", desc := "(I)LNumberedSparks$Spark;" } : MethodName)) ∈ am_ws := am_t4 127 rfl rfl
theorem wd_848 : (Cond.selects "NumberedSparks$Walk" ({ cls := "NumberedSparks$Walk", name := "shown", desc := "(I)LNumberedSparks$Spark;" } : MethodName) ({ cls := "NumberedSparks$Walk", name := "shown", desc := "(I)LNumberedSparks$Spark;" } : MethodName)) ∈ am_ws := am_t4 128 rfl rfl
theorem wd_849 : (Cond.code ({ cls := "NumberedSparks$Walk", name := "shown", desc := "(I)LNumberedSparks$Spark;" } : MethodName) prog_9_method_12_code (2 : Nat) (Option.some (FieldType.object "NumberedSparks$Spark"))) ∈ am_ws := am_t4 129 rfl rfl
theorem wd_850 : (Cond.methodLink "NumberedSparks" (252 : Nat) ({ cls := "NumberedSparks", name := "comesOf", desc := "(II)Z" } : MethodName)) ∈ am_ws := am_t4 130 rfl rfl
theorem wd_851 : (Cond.static ({ cls := "NumberedSparks", name := "comesOf", desc := "(II)Z" } : MethodName)) ∈ am_ws := am_t4 131 rfl rfl
theorem wd_852 : (Cond.code ({ cls := "NumberedSparks", name := "comesOf", desc := "(II)Z" } : MethodName) prog_1_method_68_code (4 : Nat) (Option.some FieldType.boolean)) ∈ am_ws := am_t4 132 rfl rfl
theorem wd_853 : (Cond.methodLink "NumberedSparksLaw" (209 : Nat) ({ cls := "NumberedSparks", name := "tell", desc := "(I)I" } : MethodName)) ∈ am_ws := am_t4 133 rfl rfl
theorem wd_854 : (Cond.instanceMethod ({ cls := "NumberedSparks", name := "tell", desc := "(I)I" } : MethodName)) ∈ am_ws := am_t4 134 rfl rfl
theorem wd_855 : (Cond.selects "NumberedSparks" ({ cls := "NumberedSparks", name := "tell", desc := "(I)I" } : MethodName) ({ cls := "NumberedSparks", name := "tell", desc := "(I)I" } : MethodName)) ∈ am_ws := am_t4 135 rfl rfl
theorem wd_856 : (Cond.code ({ cls := "NumberedSparks", name := "tell", desc := "(I)I" } : MethodName) prog_1_method_28_code (4 : Nat) (Option.some FieldType.int)) ∈ am_ws := am_t4 136 rfl rfl
theorem wd_857 : (Cond.methodLink "NumberedSparks" (255 : Nat) ({ cls := "NumberedSparks$Output", name := "clear", desc := "()V" } : MethodName)) ∈ am_ws := am_t4 137 rfl rfl
theorem wd_858 : (Cond.instanceMethod ({ cls := "NumberedSparks$Output", name := "clear", desc := "()V" } : MethodName)) ∈ am_ws := am_t4 138 rfl rfl
theorem wd_859 : (Cond.selects "NumberedSparks$Output" ({ cls := "NumberedSparks$Output", name := "clear", desc := "()V" } : MethodName) ({ cls := "NumberedSparks$Output", name := "clear", desc := "()V" } : MethodName)) ∈ am_ws := am_t4 139 rfl rfl
theorem wd_860 : (Cond.code ({ cls := "NumberedSparks$Output", name := "clear", desc := "()V" } : MethodName) prog_5_method_2_code (1 : Nat) (Option.none : Option FieldType)) ∈ am_ws := am_t4 140 rfl rfl
theorem wd_861 : (Cond.methodLink "NumberedSparks" (258 : Nat) ({ cls := "NumberedSparks$Output", name := "put", desc := "(I)V" } : MethodName)) ∈ am_ws := am_t4 141 rfl rfl
theorem wd_862 : (Cond.instanceMethod ({ cls := "NumberedSparks$Output", name := "put", desc := "(I)V" } : MethodName)) ∈ am_ws := am_t4 142 rfl rfl
theorem wd_863 : (Cond.selects "NumberedSparks$Output" ({ cls := "NumberedSparks$Output", name := "put", desc := "(I)V" } : MethodName) ({ cls := "NumberedSparks$Output", name := "put", desc := "(I)V" } : MethodName)) ∈ am_ws := am_t4 143 rfl rfl
theorem wd_864 : (Cond.code ({ cls := "NumberedSparks$Output", name := "put", desc := "(I)V" } : MethodName) prog_5_method_3_code (2 : Nat) (Option.none : Option FieldType)) ∈ am_ws := am_t4 144 rfl rfl
theorem wd_865 : (Cond.methodLink "NumberedSparks" (261 : Nat) ({ cls := "NumberedSparks$Output", name := "putNumber", desc := "(I)V" } : MethodName)) ∈ am_ws := am_t4 145 rfl rfl
theorem wd_866 : (Cond.instanceMethod ({ cls := "NumberedSparks$Output", name := "putNumber", desc := "(I)V" } : MethodName)) ∈ am_ws := am_t4 146 rfl rfl
theorem wd_867 : (Cond.selects "NumberedSparks$Output" ({ cls := "NumberedSparks$Output", name := "putNumber", desc := "(I)V" } : MethodName) ({ cls := "NumberedSparks$Output", name := "putNumber", desc := "(I)V" } : MethodName)) ∈ am_ws := am_t4 147 rfl rfl
theorem wd_868 : (Cond.code ({ cls := "NumberedSparks$Output", name := "putNumber", desc := "(I)V" } : MethodName) prog_5_method_4_code (4 : Nat) (Option.none : Option FieldType)) ∈ am_ws := am_t4 148 rfl rfl
theorem wd_869 : (Cond.methodLink "NumberedSparks$Output" (19 : Nat) ({ cls := "NumberedSparks$Output", name := "put", desc := "(I)V" } : MethodName)) ∈ am_ws := am_t4 149 rfl rfl
theorem wd_870 : (Cond.methodLink "NumberedSparksLaw" (149 : Nat) ({ cls := "NumberedSparks", name := "octet", desc := "(I)I" } : MethodName)) ∈ am_ws := am_t4 150 rfl rfl
theorem wd_871 : (Cond.instanceMethod ({ cls := "NumberedSparks", name := "octet", desc := "(I)I" } : MethodName)) ∈ am_ws := am_t4 151 rfl rfl
theorem wd_872 : (Cond.selects "NumberedSparks" ({ cls := "NumberedSparks", name := "octet", desc := "(I)I" } : MethodName) ({ cls := "NumberedSparks", name := "octet", desc := "(I)I" } : MethodName)) ∈ am_ws := am_t4 152 rfl rfl
theorem wd_873 : (Cond.code ({ cls := "NumberedSparks", name := "octet", desc := "(I)I" } : MethodName) prog_1_method_29_code (2 : Nat) (Option.some FieldType.int)) ∈ am_ws := am_t4 153 rfl rfl
theorem wd_874 : (Cond.methodLink "NumberedSparks" (267 : Nat) ({ cls := "NumberedSparks$Output", name := "byteAt", desc := "(I)I" } : MethodName)) ∈ am_ws := am_t4 154 rfl rfl
theorem wd_875 : (Cond.instanceMethod ({ cls := "NumberedSparks$Output", name := "byteAt", desc := "(I)I" } : MethodName)) ∈ am_ws := am_t4 155 rfl rfl
theorem wd_876 : (Cond.selects "NumberedSparks$Output" ({ cls := "NumberedSparks$Output", name := "byteAt", desc := "(I)I" } : MethodName) ({ cls := "NumberedSparks$Output", name := "byteAt", desc := "(I)I" } : MethodName)) ∈ am_ws := am_t4 156 rfl rfl
theorem wd_877 : (Cond.code ({ cls := "NumberedSparks$Output", name := "byteAt", desc := "(I)I" } : MethodName) prog_5_method_5_code (2 : Nat) (Option.some FieldType.int)) ∈ am_ws := am_t4 157 rfl rfl
theorem wd_878 : (Cond.methodLink "NumberedSparksLaw" (83 : Nat) ({ cls := "NumberedSparks", name := "births", desc := "(III)I" } : MethodName)) ∈ am_ws := am_t4 158 rfl rfl
theorem wd_879 : (Cond.instanceMethod ({ cls := "NumberedSparks", name := "births", desc := "(III)I" } : MethodName)) ∈ am_ws := am_t4 159 rfl rfl
theorem wd_880 : (Cond.selects "NumberedSparks" ({ cls := "NumberedSparks", name := "births", desc := "(III)I" } : MethodName) ({ cls := "NumberedSparks", name := "births", desc := "(III)I" } : MethodName)) ∈ am_ws := am_t4 160 rfl rfl
theorem wd_881 : (Cond.code ({ cls := "NumberedSparks", name := "births", desc := "(III)I" } : MethodName) prog_1_method_30_code (4 : Nat) (Option.some FieldType.int)) ∈ am_ws := am_t4 161 rfl rfl
theorem wd_882 : (Cond.methodLink "NumberedSparks" (270 : Nat) ({ cls := "NumberedSparks", name := "isWindow", desc := "(II)Z" } : MethodName)) ∈ am_ws := am_t4 162 rfl rfl
theorem wd_884 : (Cond.instanceMethod ({ cls := "NumberedSparks", name := "isWindow", desc := "(II)Z" } : MethodName)) ∈ am_ws := am_t4 164 rfl rfl
theorem wd_885 : (Cond.code ({ cls := "NumberedSparks", name := "isWindow", desc := "(II)Z" } : MethodName) prog_1_method_61_code (3 : Nat) (Option.some FieldType.boolean)) ∈ am_ws := am_t4 165 rfl rfl
theorem wd_886 : (Cond.methodLink "NumberedSparks" (273 : Nat) ({ cls := "NumberedSparks$Scene", name := "bornBefore", desc := "(II)I" } : MethodName)) ∈ am_ws := am_t4 166 rfl rfl
theorem wd_887 : (Cond.instanceMethod ({ cls := "NumberedSparks$Scene", name := "bornBefore", desc := "(II)I" } : MethodName)) ∈ am_ws := am_t4 167 rfl rfl
theorem wd_888 : (Cond.selects "NumberedSparks$Scene" ({ cls := "NumberedSparks$Scene", name := "bornBefore", desc := "(II)I" } : MethodName) ({ cls := "NumberedSparks$Scene", name := "bornBefore", desc := "(II)I" } : MethodName)) ∈ am_ws := am_t4 168 rfl rfl
theorem wd_889 : (Cond.code ({ cls := "NumberedSparks$Scene", name := "bornBefore", desc := "(II)I" } : MethodName) prog_7_method_21_code (8 : Nat) (Option.some FieldType.int)) ∈ am_ws := am_t4 169 rfl rfl
theorem wd_890 : (Cond.methodLink "NumberedSparks$Scene" (108 : Nat) ({ cls := "NumberedSparks$Scene", name := "burstsUpTo", desc := "(II)I" } : MethodName)) ∈ am_ws := am_t4 170 rfl rfl
theorem wd_891 : (Cond.methodLink "NumberedSparks$Scene" (111 : Nat) ({ cls := "NumberedSparks$Scene", name := "birthTick", desc := "(II)I" } : MethodName)) ∈ am_ws := am_t4 171 rfl rfl
theorem wd_892 : (Cond.methodLink "NumberedSparksLaw" (161 : Nat) ({ cls := "NumberedSparks", name := "bornAs", desc := "(II)I" } : MethodName)) ∈ am_ws := am_t4 172 rfl rfl
theorem wd_893 : (Cond.instanceMethod ({ cls := "NumberedSparks", name := "bornAs", desc := "(II)I" } : MethodName)) ∈ am_ws := am_t4 173 rfl rfl
theorem wd_894 : (Cond.selects "NumberedSparks" ({ cls := "NumberedSparks", name := "bornAs", desc := "(II)I" } : MethodName) ({ cls := "NumberedSparks", name := "bornAs", desc := "(II)I" } : MethodName)) ∈ am_ws := am_t4 174 rfl rfl
theorem wd_895 : (Cond.code ({ cls := "NumberedSparks", name := "bornAs", desc := "(II)I" } : MethodName) prog_1_method_31_code (3 : Nat) (Option.some FieldType.int)) ∈ am_ws := am_t4 175 rfl rfl
theorem wd_896 : (Cond.methodLink "NumberedSparks" (276 : Nat) ({ cls := "NumberedSparks$Scene", name := "codeOfBirth", desc := "(II)I" } : MethodName)) ∈ am_ws := am_t4 176 rfl rfl
theorem wd_897 : (Cond.instanceMethod ({ cls := "NumberedSparks$Scene", name := "codeOfBirth", desc := "(II)I" } : MethodName)) ∈ am_ws := am_t4 177 rfl rfl
theorem wd_898 : (Cond.selects "NumberedSparks$Scene" ({ cls := "NumberedSparks$Scene", name := "codeOfBirth", desc := "(II)I" } : MethodName) ({ cls := "NumberedSparks$Scene", name := "codeOfBirth", desc := "(II)I" } : MethodName)) ∈ am_ws := am_t4 178 rfl rfl
theorem wd_899 : (Cond.code ({ cls := "NumberedSparks$Scene", name := "codeOfBirth", desc := "(II)I" } : MethodName) prog_7_method_23_code (8 : Nat) (Option.some FieldType.int)) ∈ am_ws := am_t4 179 rfl rfl
theorem wd_900 : (Cond.methodLink "NumberedSparks$Scene" (117 : Nat) ({ cls := "NumberedSparks$Scene", name := "tickOfBirth", desc := "(II)I" } : MethodName)) ∈ am_ws := am_t4 180 rfl rfl
theorem wd_901 : (Cond.instanceMethod ({ cls := "NumberedSparks$Scene", name := "tickOfBirth", desc := "(II)I" } : MethodName)) ∈ am_ws := am_t4 181 rfl rfl
theorem wd_902 : (Cond.selects "NumberedSparks$Scene" ({ cls := "NumberedSparks$Scene", name := "tickOfBirth", desc := "(II)I" } : MethodName) ({ cls := "NumberedSparks$Scene", name := "tickOfBirth", desc := "(II)I" } : MethodName)) ∈ am_ws := am_t4 182 rfl rfl
theorem wd_903 : (Cond.code ({ cls := "NumberedSparks$Scene", name := "tickOfBirth", desc := "(II)I" } : MethodName) prog_7_method_22_code (7 : Nat) (Option.some FieldType.int)) ∈ am_ws := am_t4 183 rfl rfl
theorem wd_904 : (Cond.methodLink "NumberedSparks$Scene" (114 : Nat) ({ cls := "NumberedSparks$Scene", name := "bornBefore", desc := "(II)I" } : MethodName)) ∈ am_ws := am_t4 184 rfl rfl
theorem wd_905 : (Cond.methodLink "NumberedSparksLaw" (165 : Nat) ({ cls := "NumberedSparks", name := "latest", desc := "(II)I" } : MethodName)) ∈ am_ws := am_t4 185 rfl rfl
theorem wd_906 : (Cond.instanceMethod ({ cls := "NumberedSparks", name := "latest", desc := "(II)I" } : MethodName)) ∈ am_ws := am_t4 186 rfl rfl
theorem wd_907 : (Cond.selects "NumberedSparks" ({ cls := "NumberedSparks", name := "latest", desc := "(II)I" } : MethodName) ({ cls := "NumberedSparks", name := "latest", desc := "(II)I" } : MethodName)) ∈ am_ws := am_t4 187 rfl rfl
theorem wd_908 : (Cond.code ({ cls := "NumberedSparks", name := "latest", desc := "(II)I" } : MethodName) prog_1_method_32_code (4 : Nat) (Option.some FieldType.int)) ∈ am_ws := am_t4 188 rfl rfl
theorem wd_909 : (Cond.methodLink "NumberedSparksLaw" (225 : Nat) ({ cls := "NumberedSparks", name := "next", desc := "(II)I" } : MethodName)) ∈ am_ws := am_t4 189 rfl rfl
theorem wd_910 : (Cond.instanceMethod ({ cls := "NumberedSparks", name := "next", desc := "(II)I" } : MethodName)) ∈ am_ws := am_t4 190 rfl rfl
theorem wd_911 : (Cond.selects "NumberedSparks" ({ cls := "NumberedSparks", name := "next", desc := "(II)I" } : MethodName) ({ cls := "NumberedSparks", name := "next", desc := "(II)I" } : MethodName)) ∈ am_ws := am_t4 191 rfl rfl
theorem wd_912 : (Cond.code ({ cls := "NumberedSparks", name := "next", desc := "(II)I" } : MethodName) prog_1_method_33_code (4 : Nat) (Option.some FieldType.int)) ∈ am_ws := am_t4 192 rfl rfl
theorem wd_913 : (Cond.methodLink "NumberedSparks" (279 : Nat) ({ cls := "NumberedSparks$Scene", name := "tickOfBirth", desc := "(II)I" } : MethodName)) ∈ am_ws := am_t4 193 rfl rfl
theorem wd_914 : (Cond.methodLink "NumberedSparksLaw" (229 : Nat) ({ cls := "NumberedSparks", name := "lull", desc := "(IIII)I" } : MethodName)) ∈ am_ws := am_t4 194 rfl rfl
theorem wd_915 : (Cond.instanceMethod ({ cls := "NumberedSparks", name := "lull", desc := "(IIII)I" } : MethodName)) ∈ am_ws := am_t4 195 rfl rfl
theorem wd_916 : (Cond.selects "NumberedSparks" ({ cls := "NumberedSparks", name := "lull", desc := "(IIII)I" } : MethodName) ({ cls := "NumberedSparks", name := "lull", desc := "(IIII)I" } : MethodName)) ∈ am_ws := am_t4 196 rfl rfl
theorem wd_917 : (Cond.code ({ cls := "NumberedSparks", name := "lull", desc := "(IIII)I" } : MethodName) prog_1_method_34_code (9 : Nat) (Option.some FieldType.int)) ∈ am_ws := am_t4 197 rfl rfl
theorem wd_918 : (Cond.methodLink "NumberedSparks" (282 : Nat) ({ cls := "NumberedSparks$Scene", name := "countBirths", desc := "(III[I)V" } : MethodName)) ∈ am_ws := am_t4 198 rfl rfl
theorem wd_919 : (Cond.instanceMethod ({ cls := "NumberedSparks$Scene", name := "countBirths", desc := "(III[I)V" } : MethodName)) ∈ am_ws := am_t4 199 rfl rfl
theorem wd_920 : (Cond.selects "NumberedSparks$Scene" ({ cls := "NumberedSparks$Scene", name := "countBirths", desc := "(III[I)V" } : MethodName) ({ cls := "NumberedSparks$Scene", name := "countBirths", desc := "(III[I)V" } : MethodName)) ∈ am_ws := am_t4 200 rfl rfl
theorem wd_921 : (Cond.code ({ cls := "NumberedSparks$Scene", name := "countBirths", desc := "(III[I)V" } : MethodName) prog_7_method_24_code (9 : Nat) (Option.none : Option FieldType)) ∈ am_ws := am_t4 201 rfl rfl
theorem wd_922 : (Cond.methodLink "NumberedSparksLaw" (87 : Nat) ({ cls := "NumberedSparks", name := "endings", desc := "(II)I" } : MethodName)) ∈ am_ws := am_t4 202 rfl rfl
theorem wd_923 : (Cond.instanceMethod ({ cls := "NumberedSparks", name := "endings", desc := "(II)I" } : MethodName)) ∈ am_ws := am_t4 203 rfl rfl
theorem wd_924 : (Cond.selects "NumberedSparks" ({ cls := "NumberedSparks", name := "endings", desc := "(II)I" } : MethodName) ({ cls := "NumberedSparks", name := "endings", desc := "(II)I" } : MethodName)) ∈ am_ws := am_t4 204 rfl rfl
theorem wd_925 : (Cond.code ({ cls := "NumberedSparks", name := "endings", desc := "(II)I" } : MethodName) prog_1_method_35_code (7 : Nat) (Option.some FieldType.int)) ∈ am_ws := am_t4 205 rfl rfl
theorem wd_926 : (Cond.methodLink "NumberedSparks" (286 : Nat) ({ cls := "NumberedSparks$Walk", name := "start", desc := "(II)V" } : MethodName)) ∈ am_ws := am_t4 206 rfl rfl
theorem wd_927 : (Cond.constant "NumberedSparks" (288 : Nat) (1000000 : Int32)) ∈ am_ws := am_t4 207 rfl rfl
theorem wd_928 : (Cond.methodLink "NumberedSparksLaw" (129 : Nat) ({ cls := "NumberedSparks", name := "peak", desc := "(III)I" } : MethodName)) ∈ am_ws := am_t4 208 rfl rfl
theorem wd_929 : (Cond.instanceMethod ({ cls := "NumberedSparks", name := "peak", desc := "(III)I" } : MethodName)) ∈ am_ws := am_t4 209 rfl rfl
theorem wd_930 : (Cond.selects "NumberedSparks" ({ cls := "NumberedSparks", name := "peak", desc := "(III)I" } : MethodName) ({ cls := "NumberedSparks", name := "peak", desc := "(III)I" } : MethodName)) ∈ am_ws := am_t4 210 rfl rfl
theorem wd_931 : (Cond.code ({ cls := "NumberedSparks", name := "peak", desc := "(III)I" } : MethodName) prog_1_method_36_code (8 : Nat) (Option.some FieldType.int)) ∈ am_ws := am_t4 211 rfl rfl
theorem wd_932 : (Cond.methodLink "NumberedSparks" (289 : Nat) ({ cls := "NumberedSparks", name := "countComingAndGoing", desc := "(II)V" } : MethodName)) ∈ am_ws := am_t4 212 rfl rfl
theorem wd_934 : (Cond.instanceMethod ({ cls := "NumberedSparks", name := "countComingAndGoing", desc := "(II)V" } : MethodName)) ∈ am_ws := am_t4 214 rfl rfl
theorem wd_935 : (Cond.code ({ cls := "NumberedSparks", name := "countComingAndGoing", desc := "(II)V" } : MethodName) prog_1_method_37_code (8 : Nat) (Option.none : Option FieldType)) ∈ am_ws := am_t4 215 rfl rfl
theorem wd_936 : (Cond.methodLink "NumberedSparks" (292 : Nat) ({ cls := "java/util/Arrays", name := "fill", desc := "([II)V" } : MethodName)) ∈ am_ws := am_t4 216 rfl rfl
theorem wd_937 : (Cond.methodLink "NumberedSparksLaw" (125 : Nat) ({ cls := "NumberedSparks", name := "firstIn", desc := "(III)I" } : MethodName)) ∈ am_ws := am_t4 217 rfl rfl
theorem wd_938 : (Cond.instanceMethod ({ cls := "NumberedSparks", name := "firstIn", desc := "(III)I" } : MethodName)) ∈ am_ws := am_t4 218 rfl rfl
theorem wd_939 : (Cond.selects "NumberedSparks" ({ cls := "NumberedSparks", name := "firstIn", desc := "(III)I" } : MethodName) ({ cls := "NumberedSparks", name := "firstIn", desc := "(III)I" } : MethodName)) ∈ am_ws := am_t4 219 rfl rfl
theorem wd_940 : (Cond.code ({ cls := "NumberedSparks", name := "firstIn", desc := "(III)I" } : MethodName) prog_1_method_38_code (8 : Nat) (Option.some FieldType.int)) ∈ am_ws := am_t4 220 rfl rfl
theorem wd_941 : (Cond.methodLink "NumberedSparks" (298 : Nat) ({ cls := "NumberedSparks$Scene", name := "isCell", desc := "(II)Z" } : MethodName)) ∈ am_ws := am_t4 221 rfl rfl
theorem wd_942 : (Cond.instanceMethod ({ cls := "NumberedSparks$Scene", name := "isCell", desc := "(II)Z" } : MethodName)) ∈ am_ws := am_t4 222 rfl rfl
theorem wd_943 : (Cond.selects "NumberedSparks$Scene" ({ cls := "NumberedSparks$Scene", name := "isCell", desc := "(II)Z" } : MethodName) ({ cls := "NumberedSparks$Scene", name := "isCell", desc := "(II)Z" } : MethodName)) ∈ am_ws := am_t4 223 rfl rfl
theorem wd_944 : (Cond.code ({ cls := "NumberedSparks$Scene", name := "isCell", desc := "(II)Z" } : MethodName) prog_7_method_5_code (3 : Nat) (Option.some FieldType.boolean)) ∈ am_ws := am_t4 224 rfl rfl
theorem wd_945 : (Cond.methodLink "NumberedSparks$Scene" (50 : Nat) ({ cls := "NumberedSparks$Scene", name := "cellsAlong", desc := "(I)I" } : MethodName)) ∈ am_ws := am_t4 225 rfl rfl
theorem wd_946 : (Cond.methodLink "NumberedSparks" (301 : Nat) ({ cls := "NumberedSparks$Spark", name := "firstInColumn", desc := "(IIII)I" } : MethodName)) ∈ am_ws := am_t4 226 rfl rfl
theorem wd_947 : (Cond.instanceMethod ({ cls := "NumberedSparks$Spark", name := "firstInColumn", desc := "(IIII)I" } : MethodName)) ∈ am_ws := am_t4 227 rfl rfl
theorem wd_948 : (Cond.selects "NumberedSparks$Spark" ({ cls := "NumberedSparks$Spark", name := "firstInColumn", desc := "(IIII)I" } : MethodName) ({ cls := "NumberedSparks$Spark", name := "firstInColumn", desc := "(IIII)I" } : MethodName)) ∈ am_ws := am_t4 228 rfl rfl
theorem wd_949 : (Cond.code ({ cls := "NumberedSparks$Spark", name := "firstInColumn", desc := "(IIII)I" } : MethodName) prog_8_method_11_code (8 : Nat) (Option.some FieldType.int)) ∈ am_ws := am_t4 229 rfl rfl
theorem wd_950 : (Cond.methodLink "NumberedSparksLaw" (197 : Nat) ({ cls := "NumberedSparks", name := "flux", desc := "(IIII)I" } : MethodName)) ∈ am_ws := am_t4 230 rfl rfl
theorem wd_951 : (Cond.instanceMethod ({ cls := "NumberedSparks", name := "flux", desc := "(IIII)I" } : MethodName)) ∈ am_ws := am_t4 231 rfl rfl
theorem wd_952 : (Cond.selects "NumberedSparks" ({ cls := "NumberedSparks", name := "flux", desc := "(IIII)I" } : MethodName) ({ cls := "NumberedSparks", name := "flux", desc := "(IIII)I" } : MethodName)) ∈ am_ws := am_t4 232 rfl rfl
theorem wd_953 : (Cond.code ({ cls := "NumberedSparks", name := "flux", desc := "(IIII)I" } : MethodName) prog_1_method_39_code (8 : Nat) (Option.some FieldType.int)) ∈ am_ws := am_t4 233 rfl rfl
theorem wd_954 : (Cond.methodLink "NumberedSparks" (305 : Nat) ({ cls := "NumberedSparks$Spark", name := "crossings", desc := "(IIIZ)I" } : MethodName)) ∈ am_ws := am_t4 234 rfl rfl
theorem wd_955 : (Cond.instanceMethod ({ cls := "NumberedSparks$Spark", name := "crossings", desc := "(IIIZ)I" } : MethodName)) ∈ am_ws := am_t4 235 rfl rfl
theorem wd_956 : (Cond.selects "NumberedSparks$Spark" ({ cls := "NumberedSparks$Spark", name := "crossings", desc := "(IIIZ)I" } : MethodName) ({ cls := "NumberedSparks$Spark", name := "crossings", desc := "(IIIZ)I" } : MethodName)) ∈ am_ws := am_t4 236 rfl rfl
theorem wd_957 : (Cond.code ({ cls := "NumberedSparks$Spark", name := "crossings", desc := "(IIIZ)I" } : MethodName) prog_8_method_12_code (11 : Nat) (Option.some FieldType.int)) ∈ am_ws := am_t4 237 rfl rfl
theorem wd_958 : (Cond.methodLink "NumberedSparksLaw" (91 : Nat) ({ cls := "NumberedSparks", name := "many", desc := "(II)I" } : MethodName)) ∈ am_ws := am_t4 238 rfl rfl
theorem wd_959 : (Cond.instanceMethod ({ cls := "NumberedSparks", name := "many", desc := "(II)I" } : MethodName)) ∈ am_ws := am_t4 239 rfl rfl
theorem wd_960 : (Cond.selects "NumberedSparks" ({ cls := "NumberedSparks", name := "many", desc := "(II)I" } : MethodName) ({ cls := "NumberedSparks", name := "many", desc := "(II)I" } : MethodName)) ∈ am_ws := am_t5 0 rfl rfl
theorem wd_961 : (Cond.code ({ cls := "NumberedSparks", name := "many", desc := "(II)I" } : MethodName) prog_1_method_40_code (5 : Nat) (Option.some FieldType.int)) ∈ am_ws := am_t5 1 rfl rfl
theorem wd_962 : (Cond.methodLink "NumberedSparks" (309 : Nat) ({ cls := "NumberedSparks$Frame", name := "shows", desc := "(I)Z" } : MethodName)) ∈ am_ws := am_t5 2 rfl rfl
theorem wd_963 : (Cond.instanceMethod ({ cls := "NumberedSparks$Frame", name := "shows", desc := "(I)Z" } : MethodName)) ∈ am_ws := am_t5 3 rfl rfl
theorem wd_964 : (Cond.selects "NumberedSparks$Frame" ({ cls := "NumberedSparks$Frame", name := "shows", desc := "(I)Z" } : MethodName) ({ cls := "NumberedSparks$Frame", name := "shows", desc := "(I)Z" } : MethodName)) ∈ am_ws := am_t5 4 rfl rfl
theorem wd_965 : (Cond.code ({ cls := "NumberedSparks$Frame", name := "shows", desc := "(I)Z" } : MethodName) prog_3_method_3_code (4 : Nat) (Option.some FieldType.boolean)) ∈ am_ws := am_t5 5 rfl rfl
theorem wd_966 : (Cond.methodLinkNest "NumberedSparks$Frame" (57 : Nat) ({ cls := "NumberedSparks", name := "isTick", desc := "(I)Z" } : MethodName) "NumberedSparks") ∈ am_ws := am_t5 6 rfl rfl
theorem wd_967 : (Cond.methodLink "NumberedSparks$Frame" (64 : Nat) ({ cls := "NumberedSparks$Walk", name := "start", desc := "(II)V" } : MethodName)) ∈ am_ws := am_t5 7 rfl rfl
theorem wd_968 : (Cond.constant "NumberedSparks$Frame" (70 : Nat) (1000000 : Int32)) ∈ am_ws := am_t5 8 rfl rfl
theorem wd_969 : (Cond.methodLink "NumberedSparks$Frame" (71 : Nat) ({ cls := "NumberedSparks$Walk", name := "stepRoot", desc := "()Z" } : MethodName)) ∈ am_ws := am_t5 9 rfl rfl
theorem wd_970 : (Cond.methodLink "NumberedSparks$Frame" (78 : Nat) ({ cls := "NumberedSparks$Walk", name := "shown", desc := "(I)LNumberedSparks$Spark;" } : MethodName)) ∈ am_ws := am_t5 10 rfl rfl
theorem wd_971 : (Cond.methodLink "NumberedSparks$Frame" (82 : Nat) ({ cls := "NumberedSparks$Frame", name := "append", desc := "(LNumberedSparks$Spark;I)V" } : MethodName)) ∈ am_ws := am_t5 11 rfl rfl
theorem wd_973 : (Cond.instanceMethod ({ cls := "NumberedSparks$Frame", name := "append", desc := "(LNumberedSparks$Spark;I)V" } : MethodName)) ∈ am_ws := am_t5 13 rfl rfl
theorem wd_974 : (Cond.code ({ cls := "NumberedSparks$Frame", name := "append", desc := "(LNumberedSparks$Spark;I)V" } : MethodName) prog_3_method_4_code (4 : Nat) (Option.none : Option FieldType)) ∈ am_ws := am_t5 14 rfl rfl
theorem wd_975 : (Cond.methodLink "NumberedSparks$Frame" (89 : Nat) ({ cls := "NumberedSparks$Frame", name := "grow", desc := "()V" } : MethodName)) ∈ am_ws := am_t5 15 rfl rfl
theorem wd_977 : (Cond.instanceMethod ({ cls := "NumberedSparks$Frame", name := "grow", desc := "()V" } : MethodName)) ∈ am_ws := am_t5 17 rfl rfl
theorem wd_978 : (Cond.code ({ cls := "NumberedSparks$Frame", name := "grow", desc := "()V" } : MethodName) prog_3_method_5_code (2 : Nat) (Option.none : Option FieldType)) ∈ am_ws := am_t5 18 rfl rfl
theorem wd_979 : (Cond.methodLink "NumberedSparks$Frame" (109 : Nat) ({ cls := "java/util/Arrays", name := "copyOf", desc := "([II)[I" } : MethodName)) ∈ am_ws := am_t5 19 rfl rfl
theorem wd_980 : (Cond.static ({ cls := "java/util/Arrays", name := "copyOf", desc := "([II)[I" } : MethodName)) ∈ am_ws := am_t5 20 rfl rfl
theorem wd_981 : (Cond.code ({ cls := "java/util/Arrays", name := "copyOf", desc := "([II)[I" } : MethodName) prog_18_method_123_code (3 : Nat) (Option.some (FieldType.array FieldType.int))) ∈ am_ws := am_t5 21 rfl rfl
theorem wd_982 : (Cond.methodLink "java/util/Arrays" (316 : Nat) ({ cls := "[I", name := "clone", desc := "()Ljava/lang/Object;" } : MethodName)) ∈ am_ws := am_t5 22 rfl rfl
theorem wd_984 : (Cond.native ({ cls := "java/lang/Object", name := "clone", desc := "()Ljava/lang/Object;" } : MethodName)) ∈ am_ws := am_t5 24 rfl rfl
theorem wd_985 : (Cond.instanceMethod ({ cls := "java/lang/Object", name := "clone", desc := "()Ljava/lang/Object;" } : MethodName)) ∈ am_ws := am_t5 25 rfl rfl
theorem wd_986 : (Cond.selects "[I" ({ cls := "[I", name := "clone", desc := "()Ljava/lang/Object;" } : MethodName) ({ cls := "java/lang/Object", name := "clone", desc := "()Ljava/lang/Object;" } : MethodName)) ∈ am_ws := am_t5 26 rfl rfl
theorem wd_988 : (Cond.classLink "java/util/Arrays" (317 : Nat) "[I") ∈ am_ws := am_t5 28 rfl rfl
theorem wd_989 : (Cond.methodLink "java/util/Arrays" (304 : Nat) ({ cls := "java/lang/Math", name := "min", desc := "(II)I" } : MethodName)) ∈ am_ws := am_t5 29 rfl rfl
theorem wd_990 : (Cond.methodLink "java/util/Arrays" (150 : Nat) ({ cls := "java/lang/System", name := "arraycopy", desc := "(Ljava/lang/Object;ILjava/lang/Object;II)V" } : MethodName)) ∈ am_ws := am_t5 30 rfl rfl
theorem wd_991 : (Cond.methodLink "NumberedSparks$Frame" (105 : Nat) ({ cls := "NumberedSparks$Spark", name := "placeAt", desc := "(II)I" } : MethodName)) ∈ am_ws := am_t5 31 rfl rfl
theorem wd_992 : (Cond.methodLink "NumberedSparks$Frame" (86 : Nat) ({ cls := "NumberedSparks$Frame", name := "putInOrder", desc := "()V" } : MethodName)) ∈ am_ws := am_t5 32 rfl rfl
theorem wd_994 : (Cond.instanceMethod ({ cls := "NumberedSparks$Frame", name := "putInOrder", desc := "()V" } : MethodName)) ∈ am_ws := am_t5 34 rfl rfl
theorem wd_995 : (Cond.code ({ cls := "NumberedSparks$Frame", name := "putInOrder", desc := "()V" } : MethodName) prog_3_method_6_code (5 : Nat) (Option.none : Option FieldType)) ∈ am_ws := am_t5 35 rfl rfl
theorem wd_996 : (Cond.methodLink "NumberedSparks$Frame" (115 : Nat) ({ cls := "java/util/Arrays", name := "fill", desc := "([II)V" } : MethodName)) ∈ am_ws := am_t5 36 rfl rfl
theorem wd_997 : (Cond.methodLink "NumberedSparks$Frame" (119 : Nat) ({ cls := "NumberedSparks$Frame", name := "depthOf", desc := "(I)I" } : MethodName)) ∈ am_ws := am_t5 37 rfl rfl
theorem wd_999 : (Cond.instanceMethod ({ cls := "NumberedSparks$Frame", name := "depthOf", desc := "(I)I" } : MethodName)) ∈ am_ws := am_t5 39 rfl rfl
theorem wd_1000 : (Cond.code ({ cls := "NumberedSparks$Frame", name := "depthOf", desc := "(I)I" } : MethodName) prog_3_method_7_code (2 : Nat) (Option.some FieldType.int)) ∈ am_ws := am_t5 40 rfl rfl
theorem wd_1001 : (Cond.methodLink "NumberedSparks$Frame" (123 : Nat) ({ cls := "java/lang/Math", name := "min", desc := "(II)I" } : MethodName)) ∈ am_ws := am_t5 41 rfl rfl
theorem wd_1002 : (Cond.methodLink "NumberedSparks$Frame" (128 : Nat) ({ cls := "java/lang/Math", name := "max", desc := "(II)I" } : MethodName)) ∈ am_ws := am_t5 42 rfl rfl
theorem wd_1003 : (Cond.methodLink "NumberedSparksLaw" (95 : Nat) ({ cls := "NumberedSparks", name := "drawn", desc := "(II)I" } : MethodName)) ∈ am_ws := am_t5 43 rfl rfl
theorem wd_1004 : (Cond.instanceMethod ({ cls := "NumberedSparks", name := "drawn", desc := "(II)I" } : MethodName)) ∈ am_ws := am_t5 44 rfl rfl
theorem wd_1005 : (Cond.selects "NumberedSparks" ({ cls := "NumberedSparks", name := "drawn", desc := "(II)I" } : MethodName) ({ cls := "NumberedSparks", name := "drawn", desc := "(II)I" } : MethodName)) ∈ am_ws := am_t5 45 rfl rfl
theorem wd_1006 : (Cond.code ({ cls := "NumberedSparks", name := "drawn", desc := "(II)I" } : MethodName) prog_1_method_41_code (3 : Nat) (Option.some FieldType.int)) ∈ am_ws := am_t5 46 rfl rfl
theorem wd_1007 : (Cond.methodLink "NumberedSparksLaw" (99 : Nat) ({ cls := "NumberedSparks", name := "digest", desc := "(I)J" } : MethodName)) ∈ am_ws := am_t5 47 rfl rfl
theorem wd_1008 : (Cond.instanceMethod ({ cls := "NumberedSparks", name := "digest", desc := "(I)J" } : MethodName)) ∈ am_ws := am_t5 48 rfl rfl
theorem wd_1009 : (Cond.selects "NumberedSparks" ({ cls := "NumberedSparks", name := "digest", desc := "(I)J" } : MethodName) ({ cls := "NumberedSparks", name := "digest", desc := "(I)J" } : MethodName)) ∈ am_ws := am_t5 49 rfl rfl
theorem wd_1010 : (Cond.code ({ cls := "NumberedSparks", name := "digest", desc := "(I)J" } : MethodName) prog_1_method_42_code (6 : Nat) (Option.some FieldType.long)) ∈ am_ws := am_t5 50 rfl rfl
theorem wd_1011 : (Cond.constantLong "NumberedSparks" (322 : Nat) (17 : Int64)) ∈ am_ws := am_t5 51 rfl rfl
theorem wd_1012 : (Cond.constantLong "NumberedSparks" (324 : Nat) (31 : Int64)) ∈ am_ws := am_t5 52 rfl rfl
theorem wd_1013 : (Cond.methodLink "NumberedSparksLaw" (104 : Nat) ({ cls := "NumberedSparks", name := "inColumn", desc := "(III)I" } : MethodName)) ∈ am_ws := am_t5 53 rfl rfl
theorem wd_1014 : (Cond.instanceMethod ({ cls := "NumberedSparks", name := "inColumn", desc := "(III)I" } : MethodName)) ∈ am_ws := am_t5 54 rfl rfl
theorem wd_1015 : (Cond.selects "NumberedSparks" ({ cls := "NumberedSparks", name := "inColumn", desc := "(III)I" } : MethodName) ({ cls := "NumberedSparks", name := "inColumn", desc := "(III)I" } : MethodName)) ∈ am_ws := am_t5 55 rfl rfl
theorem wd_1016 : (Cond.code ({ cls := "NumberedSparks", name := "inColumn", desc := "(III)I" } : MethodName) prog_1_method_43_code (6 : Nat) (Option.some FieldType.int)) ∈ am_ws := am_t5 56 rfl rfl
theorem wd_1017 : (Cond.methodLink "NumberedSparks" (335 : Nat) ({ cls := "NumberedSparks$Frame", name := "isInColumn", desc := "(III)Z" } : MethodName)) ∈ am_ws := am_t5 57 rfl rfl
theorem wd_1018 : (Cond.instanceMethod ({ cls := "NumberedSparks$Frame", name := "isInColumn", desc := "(III)Z" } : MethodName)) ∈ am_ws := am_t5 58 rfl rfl
theorem wd_1019 : (Cond.selects "NumberedSparks$Frame" ({ cls := "NumberedSparks$Frame", name := "isInColumn", desc := "(III)Z" } : MethodName) ({ cls := "NumberedSparks$Frame", name := "isInColumn", desc := "(III)Z" } : MethodName)) ∈ am_ws := am_t5 59 rfl rfl
theorem wd_1020 : (Cond.code ({ cls := "NumberedSparks$Frame", name := "isInColumn", desc := "(III)Z" } : MethodName) prog_3_method_9_code (4 : Nat) (Option.some FieldType.boolean)) ∈ am_ws := am_t5 60 rfl rfl
theorem wd_1021 : (Cond.methodLink "NumberedSparks$Frame" (131 : Nat) ({ cls := "NumberedSparks$Frame", name := "placeOf", desc := "(II)I" } : MethodName)) ∈ am_ws := am_t5 61 rfl rfl
theorem wd_1022 : (Cond.instanceMethod ({ cls := "NumberedSparks$Frame", name := "placeOf", desc := "(II)I" } : MethodName)) ∈ am_ws := am_t5 62 rfl rfl
theorem wd_1023 : (Cond.selects "NumberedSparks$Frame" ({ cls := "NumberedSparks$Frame", name := "placeOf", desc := "(II)I" } : MethodName) ({ cls := "NumberedSparks$Frame", name := "placeOf", desc := "(II)I" } : MethodName)) ∈ am_ws := am_t5 63 rfl rfl
theorem wd_1024 : (Cond.code ({ cls := "NumberedSparks$Frame", name := "placeOf", desc := "(II)I" } : MethodName) prog_3_method_8_code (3 : Nat) (Option.some FieldType.int)) ∈ am_ws := am_t5 64 rfl rfl
theorem wd_1025 : (Cond.methodLink "NumberedSparksLaw" (108 : Nat) ({ cls := "NumberedSparks", name := "top", desc := "(III)I" } : MethodName)) ∈ am_ws := am_t5 65 rfl rfl
theorem wd_1026 : (Cond.instanceMethod ({ cls := "NumberedSparks", name := "top", desc := "(III)I" } : MethodName)) ∈ am_ws := am_t5 66 rfl rfl
theorem wd_1027 : (Cond.selects "NumberedSparks" ({ cls := "NumberedSparks", name := "top", desc := "(III)I" } : MethodName) ({ cls := "NumberedSparks", name := "top", desc := "(III)I" } : MethodName)) ∈ am_ws := am_t5 67 rfl rfl
theorem wd_1028 : (Cond.code ({ cls := "NumberedSparks", name := "top", desc := "(III)I" } : MethodName) prog_1_method_44_code (4 : Nat) (Option.some FieldType.int)) ∈ am_ws := am_t5 68 rfl rfl
theorem wd_1029 : (Cond.methodLink "NumberedSparks" (339 : Nat) ({ cls := "NumberedSparks$Frame", name := "fromTop", desc := "(III)I" } : MethodName)) ∈ am_ws := am_t5 69 rfl rfl
theorem wd_1030 : (Cond.instanceMethod ({ cls := "NumberedSparks$Frame", name := "fromTop", desc := "(III)I" } : MethodName)) ∈ am_ws := am_t5 70 rfl rfl
theorem wd_1031 : (Cond.selects "NumberedSparks$Frame" ({ cls := "NumberedSparks$Frame", name := "fromTop", desc := "(III)I" } : MethodName) ({ cls := "NumberedSparks$Frame", name := "fromTop", desc := "(III)I" } : MethodName)) ∈ am_ws := am_t5 71 rfl rfl
theorem wd_1032 : (Cond.code ({ cls := "NumberedSparks$Frame", name := "fromTop", desc := "(III)I" } : MethodName) prog_3_method_12_code (6 : Nat) (Option.some FieldType.int)) ∈ am_ws := am_t5 72 rfl rfl
theorem wd_1033 : (Cond.methodLink "NumberedSparks$Frame" (134 : Nat) ({ cls := "NumberedSparks$Frame", name := "isInColumn", desc := "(III)Z" } : MethodName)) ∈ am_ws := am_t5 73 rfl rfl
theorem wd_1034 : (Cond.methodLink "NumberedSparksLaw" (221 : Nat) ({ cls := "NumberedSparks", name := "below", desc := "(IIII)I" } : MethodName)) ∈ am_ws := am_t5 74 rfl rfl
theorem wd_1035 : (Cond.instanceMethod ({ cls := "NumberedSparks", name := "below", desc := "(IIII)I" } : MethodName)) ∈ am_ws := am_t5 75 rfl rfl
theorem wd_1036 : (Cond.selects "NumberedSparks" ({ cls := "NumberedSparks", name := "below", desc := "(IIII)I" } : MethodName) ({ cls := "NumberedSparks", name := "below", desc := "(IIII)I" } : MethodName)) ∈ am_ws := am_t5 76 rfl rfl
theorem wd_1037 : (Cond.code ({ cls := "NumberedSparks", name := "below", desc := "(IIII)I" } : MethodName) prog_1_method_45_code (5 : Nat) (Option.some FieldType.int)) ∈ am_ws := am_t5 77 rfl rfl
theorem wd_1038 : (Cond.methodLink "NumberedSparksLaw" (112 : Nat) ({ cls := "NumberedSparks", name := "fullest", desc := "(II)I" } : MethodName)) ∈ am_ws := am_t5 78 rfl rfl
theorem wd_1039 : (Cond.instanceMethod ({ cls := "NumberedSparks", name := "fullest", desc := "(II)I" } : MethodName)) ∈ am_ws := am_t5 79 rfl rfl
theorem wd_1040 : (Cond.selects "NumberedSparks" ({ cls := "NumberedSparks", name := "fullest", desc := "(II)I" } : MethodName) ({ cls := "NumberedSparks", name := "fullest", desc := "(II)I" } : MethodName)) ∈ am_ws := am_t5 80 rfl rfl
theorem wd_1041 : (Cond.code ({ cls := "NumberedSparks", name := "fullest", desc := "(II)I" } : MethodName) prog_1_method_46_code (5 : Nat) (Option.some FieldType.int)) ∈ am_ws := am_t5 81 rfl rfl
theorem wd_1042 : (Cond.methodLink "NumberedSparks" (342 : Nat) ({ cls := "NumberedSparks$Frame", name := "countColumns", desc := "([I)V" } : MethodName)) ∈ am_ws := am_t5 82 rfl rfl
theorem wd_1043 : (Cond.instanceMethod ({ cls := "NumberedSparks$Frame", name := "countColumns", desc := "([I)V" } : MethodName)) ∈ am_ws := am_t5 83 rfl rfl
theorem wd_1044 : (Cond.selects "NumberedSparks$Frame" ({ cls := "NumberedSparks$Frame", name := "countColumns", desc := "([I)V" } : MethodName) ({ cls := "NumberedSparks$Frame", name := "countColumns", desc := "([I)V" } : MethodName)) ∈ am_ws := am_t5 84 rfl rfl
theorem wd_1045 : (Cond.code ({ cls := "NumberedSparks$Frame", name := "countColumns", desc := "([I)V" } : MethodName) prog_3_method_13_code (4 : Nat) (Option.none : Option FieldType)) ∈ am_ws := am_t5 85 rfl rfl
theorem wd_1046 : (Cond.methodLink "NumberedSparks$Frame" (138 : Nat) ({ cls := "NumberedSparks$Frame", name := "columnOf", desc := "(I)I" } : MethodName)) ∈ am_ws := am_t5 86 rfl rfl
theorem wd_1047 : (Cond.instanceMethod ({ cls := "NumberedSparks$Frame", name := "columnOf", desc := "(I)I" } : MethodName)) ∈ am_ws := am_t5 87 rfl rfl
theorem wd_1048 : (Cond.selects "NumberedSparks$Frame" ({ cls := "NumberedSparks$Frame", name := "columnOf", desc := "(I)I" } : MethodName) ({ cls := "NumberedSparks$Frame", name := "columnOf", desc := "(I)I" } : MethodName)) ∈ am_ws := am_t5 88 rfl rfl
theorem wd_1049 : (Cond.code ({ cls := "NumberedSparks$Frame", name := "columnOf", desc := "(I)I" } : MethodName) prog_3_method_10_code (2 : Nat) (Option.some FieldType.int)) ∈ am_ws := am_t5 89 rfl rfl
theorem wd_1050 : (Cond.methodLink "NumberedSparksLaw" (217 : Nat) ({ cls := "NumberedSparks", name := "columns", desc := "(I)I" } : MethodName)) ∈ am_ws := am_t5 90 rfl rfl
theorem wd_1051 : (Cond.instanceMethod ({ cls := "NumberedSparks", name := "columns", desc := "(I)I" } : MethodName)) ∈ am_ws := am_t5 91 rfl rfl
theorem wd_1052 : (Cond.selects "NumberedSparks" ({ cls := "NumberedSparks", name := "columns", desc := "(I)I" } : MethodName) ({ cls := "NumberedSparks", name := "columns", desc := "(I)I" } : MethodName)) ∈ am_ws := am_t5 92 rfl rfl
theorem wd_1053 : (Cond.code ({ cls := "NumberedSparks", name := "columns", desc := "(I)I" } : MethodName) prog_1_method_47_code (4 : Nat) (Option.some FieldType.int)) ∈ am_ws := am_t5 93 rfl rfl
theorem wd_1054 : (Cond.methodLink "NumberedSparksLaw" (116 : Nat) ({ cls := "NumberedSparks", name := "nearest", desc := "(IIII)I" } : MethodName)) ∈ am_ws := am_t5 94 rfl rfl
theorem wd_1055 : (Cond.instanceMethod ({ cls := "NumberedSparks", name := "nearest", desc := "(IIII)I" } : MethodName)) ∈ am_ws := am_t5 95 rfl rfl
theorem wd_1056 : (Cond.selects "NumberedSparks" ({ cls := "NumberedSparks", name := "nearest", desc := "(IIII)I" } : MethodName) ({ cls := "NumberedSparks", name := "nearest", desc := "(IIII)I" } : MethodName)) ∈ am_ws := am_t5 96 rfl rfl
theorem wd_1057 : (Cond.code ({ cls := "NumberedSparks", name := "nearest", desc := "(IIII)I" } : MethodName) prog_1_method_48_code (9 : Nat) (Option.some FieldType.int)) ∈ am_ws := am_t5 97 rfl rfl
theorem wd_1058 : (Cond.methodLink "NumberedSparks" (346 : Nat) ({ cls := "NumberedSparks$Scene", name := "isCellOfWorld", desc := "(III)Z" } : MethodName)) ∈ am_ws := am_t5 98 rfl rfl
theorem wd_1059 : (Cond.instanceMethod ({ cls := "NumberedSparks$Scene", name := "isCellOfWorld", desc := "(III)Z" } : MethodName)) ∈ am_ws := am_t5 99 rfl rfl
theorem wd_1060 : (Cond.selects "NumberedSparks$Scene" ({ cls := "NumberedSparks$Scene", name := "isCellOfWorld", desc := "(III)Z" } : MethodName) ({ cls := "NumberedSparks$Scene", name := "isCellOfWorld", desc := "(III)Z" } : MethodName)) ∈ am_ws := am_t5 100 rfl rfl
theorem wd_1061 : (Cond.code ({ cls := "NumberedSparks$Scene", name := "isCellOfWorld", desc := "(III)Z" } : MethodName) prog_7_method_6_code (4 : Nat) (Option.some FieldType.boolean)) ∈ am_ws := am_t5 101 rfl rfl
theorem wd_1062 : (Cond.methodLink "NumberedSparks$Scene" (54 : Nat) ({ cls := "NumberedSparks$Scene", name := "isCell", desc := "(II)Z" } : MethodName)) ∈ am_ws := am_t5 102 rfl rfl
theorem wd_1063 : (Cond.methodLink "NumberedSparks" (349 : Nat) ({ cls := "NumberedSparks$Frame", name := "farSquared", desc := "(IIII)I" } : MethodName)) ∈ am_ws := am_t5 103 rfl rfl
theorem wd_1064 : (Cond.instanceMethod ({ cls := "NumberedSparks$Frame", name := "farSquared", desc := "(IIII)I" } : MethodName)) ∈ am_ws := am_t5 104 rfl rfl
theorem wd_1065 : (Cond.selects "NumberedSparks$Frame" ({ cls := "NumberedSparks$Frame", name := "farSquared", desc := "(IIII)I" } : MethodName) ({ cls := "NumberedSparks$Frame", name := "farSquared", desc := "(IIII)I" } : MethodName)) ∈ am_ws := am_t5 105 rfl rfl
theorem wd_1066 : (Cond.code ({ cls := "NumberedSparks$Frame", name := "farSquared", desc := "(IIII)I" } : MethodName) prog_3_method_11_code (8 : Nat) (Option.some FieldType.int)) ∈ am_ws := am_t5 106 rfl rfl
theorem wd_1067 : (Cond.methodLink "NumberedSparksLaw" (177 : Nat) ({ cls := "NumberedSparks", name := "within", desc := "(IIIII)I" } : MethodName)) ∈ am_ws := am_t5 107 rfl rfl
theorem wd_1068 : (Cond.instanceMethod ({ cls := "NumberedSparks", name := "within", desc := "(IIIII)I" } : MethodName)) ∈ am_ws := am_t5 108 rfl rfl
theorem wd_1069 : (Cond.selects "NumberedSparks" ({ cls := "NumberedSparks", name := "within", desc := "(IIIII)I" } : MethodName) ({ cls := "NumberedSparks", name := "within", desc := "(IIIII)I" } : MethodName)) ∈ am_ws := am_t5 109 rfl rfl
theorem wd_1070 : (Cond.code ({ cls := "NumberedSparks", name := "within", desc := "(IIIII)I" } : MethodName) prog_1_method_49_code (8 : Nat) (Option.some FieldType.int)) ∈ am_ws := am_t5 110 rfl rfl
theorem wd_1071 : (Cond.methodLink "NumberedSparksLaw" (121 : Nat) ({ cls := "NumberedSparks", name := "twos", desc := "(I)J" } : MethodName)) ∈ am_ws := am_t5 111 rfl rfl
theorem wd_1072 : (Cond.instanceMethod ({ cls := "NumberedSparks", name := "twos", desc := "(I)J" } : MethodName)) ∈ am_ws := am_t5 112 rfl rfl
theorem wd_1073 : (Cond.selects "NumberedSparks" ({ cls := "NumberedSparks", name := "twos", desc := "(I)J" } : MethodName) ({ cls := "NumberedSparks", name := "twos", desc := "(I)J" } : MethodName)) ∈ am_ws := am_t5 113 rfl rfl
theorem wd_1074 : (Cond.code ({ cls := "NumberedSparks", name := "twos", desc := "(I)J" } : MethodName) prog_1_method_50_code (2 : Nat) (Option.some FieldType.long)) ∈ am_ws := am_t5 114 rfl rfl
theorem wd_1075 : (Cond.constantLong "NumberedSparks" (352 : Nat) (-2 : Int64)) ∈ am_ws := am_t5 115 rfl rfl
theorem wd_1076 : (Cond.methodLink "NumberedSparks" (354 : Nat) ({ cls := "NumberedSparks$Frame", name := "countTwos", desc := "([I)J" } : MethodName)) ∈ am_ws := am_t5 116 rfl rfl
theorem wd_1077 : (Cond.instanceMethod ({ cls := "NumberedSparks$Frame", name := "countTwos", desc := "([I)J" } : MethodName)) ∈ am_ws := am_t5 117 rfl rfl
theorem wd_1078 : (Cond.selects "NumberedSparks$Frame" ({ cls := "NumberedSparks$Frame", name := "countTwos", desc := "([I)J" } : MethodName) ({ cls := "NumberedSparks$Frame", name := "countTwos", desc := "([I)J" } : MethodName)) ∈ am_ws := am_t5 118 rfl rfl
theorem wd_1079 : (Cond.code ({ cls := "NumberedSparks$Frame", name := "countTwos", desc := "([I)J" } : MethodName) prog_3_method_15_code (7 : Nat) (Option.some FieldType.long)) ∈ am_ws := am_t5 119 rfl rfl
theorem wd_1080 : (Cond.methodLink "NumberedSparks$Frame" (141 : Nat) ({ cls := "NumberedSparks$Frame", name := "forgetColumns", desc := "(II[I)V" } : MethodName)) ∈ am_ws := am_t5 120 rfl rfl
theorem wd_1082 : (Cond.instanceMethod ({ cls := "NumberedSparks$Frame", name := "forgetColumns", desc := "(II[I)V" } : MethodName)) ∈ am_ws := am_t5 122 rfl rfl
theorem wd_1083 : (Cond.code ({ cls := "NumberedSparks$Frame", name := "forgetColumns", desc := "(II[I)V" } : MethodName) prog_3_method_16_code (6 : Nat) (Option.none : Option FieldType)) ∈ am_ws := am_t5 123 rfl rfl
theorem wd_1084 : (Cond.methodLink "NumberedSparksLaw" (137 : Nat) ({ cls := "NumberedSparks", name := "box", desc := "(II)I" } : MethodName)) ∈ am_ws := am_t5 124 rfl rfl
theorem wd_1085 : (Cond.instanceMethod ({ cls := "NumberedSparks", name := "box", desc := "(II)I" } : MethodName)) ∈ am_ws := am_t5 125 rfl rfl
theorem wd_1086 : (Cond.selects "NumberedSparks" ({ cls := "NumberedSparks", name := "box", desc := "(II)I" } : MethodName) ({ cls := "NumberedSparks", name := "box", desc := "(II)I" } : MethodName)) ∈ am_ws := am_t5 126 rfl rfl
theorem wd_1087 : (Cond.code ({ cls := "NumberedSparks", name := "box", desc := "(II)I" } : MethodName) prog_1_method_51_code (6 : Nat) (Option.some FieldType.int)) ∈ am_ws := am_t5 127 rfl rfl
theorem wd_1088 : (Cond.methodLink "NumberedSparks" (358 : Nat) ({ cls := "NumberedSparks$Frame", name := "placeOf", desc := "(II)I" } : MethodName)) ∈ am_ws := am_t5 128 rfl rfl
theorem wd_1089 : (Cond.methodLink "NumberedSparksLaw" (141 : Nat) ({ cls := "NumberedSparks", name := "middle", desc := "(II)I" } : MethodName)) ∈ am_ws := am_t5 129 rfl rfl
theorem wd_1090 : (Cond.instanceMethod ({ cls := "NumberedSparks", name := "middle", desc := "(II)I" } : MethodName)) ∈ am_ws := am_t5 130 rfl rfl
theorem wd_1091 : (Cond.selects "NumberedSparks" ({ cls := "NumberedSparks", name := "middle", desc := "(II)I" } : MethodName) ({ cls := "NumberedSparks", name := "middle", desc := "(II)I" } : MethodName)) ∈ am_ws := am_t5 131 rfl rfl
theorem wd_1092 : (Cond.code ({ cls := "NumberedSparks", name := "middle", desc := "(II)I" } : MethodName) prog_1_method_52_code (5 : Nat) (Option.some FieldType.int)) ∈ am_ws := am_t5 132 rfl rfl
theorem wd_1093 : (Cond.methodLink "NumberedSparksLaw" (173 : Nat) ({ cls := "NumberedSparks", name := "both", desc := "(II)I" } : MethodName)) ∈ am_ws := am_t5 133 rfl rfl
theorem wd_1094 : (Cond.instanceMethod ({ cls := "NumberedSparks", name := "both", desc := "(II)I" } : MethodName)) ∈ am_ws := am_t5 134 rfl rfl
theorem wd_1095 : (Cond.selects "NumberedSparks" ({ cls := "NumberedSparks", name := "both", desc := "(II)I" } : MethodName) ({ cls := "NumberedSparks", name := "both", desc := "(II)I" } : MethodName)) ∈ am_ws := am_t5 135 rfl rfl
theorem wd_1096 : (Cond.code ({ cls := "NumberedSparks", name := "both", desc := "(II)I" } : MethodName) prog_1_method_53_code (5 : Nat) (Option.some FieldType.int)) ∈ am_ws := am_t5 136 rfl rfl
theorem wd_1097 : (Cond.methodLink "NumberedSparksLaw" (181 : Nat) ({ cls := "NumberedSparks", name := "ofAge", desc := "(III)I" } : MethodName)) ∈ am_ws := am_t5 137 rfl rfl
theorem wd_1098 : (Cond.instanceMethod ({ cls := "NumberedSparks", name := "ofAge", desc := "(III)I" } : MethodName)) ∈ am_ws := am_t5 138 rfl rfl
theorem wd_1099 : (Cond.selects "NumberedSparks" ({ cls := "NumberedSparks", name := "ofAge", desc := "(III)I" } : MethodName) ({ cls := "NumberedSparks", name := "ofAge", desc := "(III)I" } : MethodName)) ∈ am_ws := am_t5 139 rfl rfl
theorem wd_1100 : (Cond.code ({ cls := "NumberedSparks", name := "ofAge", desc := "(III)I" } : MethodName) prog_1_method_54_code (9 : Nat) (Option.some FieldType.int)) ∈ am_ws := am_t5 140 rfl rfl
theorem wd_1101 : (Cond.methodLink "NumberedSparksLaw" (213 : Nat) ({ cls := "NumberedSparks", name := "colours", desc := "(II)I" } : MethodName)) ∈ am_ws := am_t5 141 rfl rfl
theorem wd_1102 : (Cond.instanceMethod ({ cls := "NumberedSparks", name := "colours", desc := "(II)I" } : MethodName)) ∈ am_ws := am_t5 142 rfl rfl
theorem wd_1103 : (Cond.selects "NumberedSparks" ({ cls := "NumberedSparks", name := "colours", desc := "(II)I" } : MethodName) ({ cls := "NumberedSparks", name := "colours", desc := "(II)I" } : MethodName)) ∈ am_ws := am_t5 143 rfl rfl
theorem wd_1104 : (Cond.code ({ cls := "NumberedSparks", name := "colours", desc := "(II)I" } : MethodName) prog_1_method_55_code (5 : Nat) (Option.some FieldType.int)) ∈ am_ws := am_t5 144 rfl rfl
theorem wd_1105 : (Cond.methodLink "NumberedSparksLaw" (233 : Nat) ({ cls := "NumberedSparks", name := "twins", desc := "(I)I" } : MethodName)) ∈ am_ws := am_t5 145 rfl rfl
theorem wd_1106 : (Cond.instanceMethod ({ cls := "NumberedSparks", name := "twins", desc := "(I)I" } : MethodName)) ∈ am_ws := am_t5 146 rfl rfl
theorem wd_1107 : (Cond.selects "NumberedSparks" ({ cls := "NumberedSparks", name := "twins", desc := "(I)I" } : MethodName) ({ cls := "NumberedSparks", name := "twins", desc := "(I)I" } : MethodName)) ∈ am_ws := am_t5 147 rfl rfl
theorem wd_1108 : (Cond.code ({ cls := "NumberedSparks", name := "twins", desc := "(I)I" } : MethodName) prog_1_method_56_code (6 : Nat) (Option.some FieldType.int)) ∈ am_ws := am_t5 148 rfl rfl
theorem wd_1109 : (Cond.methodLink "NumberedSparksLaw" (145 : Nat) ({ cls := "NumberedSparks", name := "picture", desc := "(I)I" } : MethodName)) ∈ am_ws := am_t5 149 rfl rfl
theorem wd_1110 : (Cond.instanceMethod ({ cls := "NumberedSparks", name := "picture", desc := "(I)I" } : MethodName)) ∈ am_ws := am_t5 150 rfl rfl
theorem wd_1111 : (Cond.selects "NumberedSparks" ({ cls := "NumberedSparks", name := "picture", desc := "(I)I" } : MethodName) ({ cls := "NumberedSparks", name := "picture", desc := "(I)I" } : MethodName)) ∈ am_ws := am_t5 151 rfl rfl
theorem wd_1112 : (Cond.code ({ cls := "NumberedSparks", name := "picture", desc := "(I)I" } : MethodName) prog_1_method_57_code (6 : Nat) (Option.some FieldType.int)) ∈ am_ws := am_t5 152 rfl rfl
theorem wd_1113 : (Cond.methodLink "NumberedSparks" (366 : Nat) ({ cls := "NumberedSparks$Frame", name := "markTops", desc := "([I)V" } : MethodName)) ∈ am_ws := am_t5 153 rfl rfl
theorem wd_1114 : (Cond.instanceMethod ({ cls := "NumberedSparks$Frame", name := "markTops", desc := "([I)V" } : MethodName)) ∈ am_ws := am_t5 154 rfl rfl
theorem wd_1115 : (Cond.selects "NumberedSparks$Frame" ({ cls := "NumberedSparks$Frame", name := "markTops", desc := "([I)V" } : MethodName) ({ cls := "NumberedSparks$Frame", name := "markTops", desc := "([I)V" } : MethodName)) ∈ am_ws := am_t5 155 rfl rfl
theorem wd_1116 : (Cond.code ({ cls := "NumberedSparks$Frame", name := "markTops", desc := "([I)V" } : MethodName) prog_3_method_17_code (4 : Nat) (Option.none : Option FieldType)) ∈ am_ws := am_t5 156 rfl rfl
theorem wd_1117 : (Cond.methodLink "NumberedSparksLaw" (169 : Nat) ({ cls := "NumberedSparks", name := "layer", desc := "(II)I" } : MethodName)) ∈ am_ws := am_t5 157 rfl rfl
theorem wd_1118 : (Cond.instanceMethod ({ cls := "NumberedSparks", name := "layer", desc := "(II)I" } : MethodName)) ∈ am_ws := am_t5 158 rfl rfl
theorem wd_1119 : (Cond.selects "NumberedSparks" ({ cls := "NumberedSparks", name := "layer", desc := "(II)I" } : MethodName) ({ cls := "NumberedSparks", name := "layer", desc := "(II)I" } : MethodName)) ∈ am_ws := am_t5 159 rfl rfl
theorem wd_1120 : (Cond.code ({ cls := "NumberedSparks", name := "layer", desc := "(II)I" } : MethodName) prog_1_method_58_code (6 : Nat) (Option.some FieldType.int)) ∈ am_ws := am_t5 160 rfl rfl
theorem wd_1121 : (Cond.methodLink "NumberedSparks" (369 : Nat) ({ cls := "NumberedSparks$Frame", name := "countLayer", desc := "(I[I)V" } : MethodName)) ∈ am_ws := am_t5 161 rfl rfl
theorem wd_1122 : (Cond.instanceMethod ({ cls := "NumberedSparks$Frame", name := "countLayer", desc := "(I[I)V" } : MethodName)) ∈ am_ws := am_t5 162 rfl rfl
theorem wd_1123 : (Cond.selects "NumberedSparks$Frame" ({ cls := "NumberedSparks$Frame", name := "countLayer", desc := "(I[I)V" } : MethodName) ({ cls := "NumberedSparks$Frame", name := "countLayer", desc := "(I[I)V" } : MethodName)) ∈ am_ws := am_t5 163 rfl rfl
theorem wd_1124 : (Cond.code ({ cls := "NumberedSparks$Frame", name := "countLayer", desc := "(I[I)V" } : MethodName) prog_3_method_14_code (5 : Nat) (Option.none : Option FieldType)) ∈ am_ws := am_t5 164 rfl rfl
theorem wd_1125 : (Cond.classLink "NumberedSparksLaw" (10 : Nat) "NumberedSparksModel") ∈ am_ws := am_t5 165 rfl rfl
theorem wd_1126 : (Cond.instantiable "NumberedSparksModel" (42 : Nat)) ∈ am_ws := am_t5 166 rfl rfl
theorem wd_1127 : (Cond.methodLink "NumberedSparksLaw" (12 : Nat) ({ cls := "NumberedSparksModel", name := "<init>", desc := "()V" } : MethodName)) ∈ am_ws := am_t5 167 rfl rfl
theorem wd_1128 : (Cond.instanceMethod ({ cls := "NumberedSparksModel", name := "<init>", desc := "()V" } : MethodName)) ∈ am_ws := am_t5 168 rfl rfl
theorem wd_1129 : (Cond.code ({ cls := "NumberedSparksModel", name := "<init>", desc := "()V" } : MethodName) prog_11_method_1_code (1 : Nat) (Option.none : Option FieldType)) ∈ am_ws := am_t5 169 rfl rfl
theorem wd_1130 : (Cond.methodLink "NumberedSparksModel" (1 : Nat) ({ cls := "java/lang/Object", name := "<init>", desc := "()V" } : MethodName)) ∈ am_ws := am_t5 170 rfl rfl
theorem wd_1131 : (Cond.constant "NumberedSparksModel" (64 : Nat) (64000 : Int32)) ∈ am_ws := am_t5 171 rfl rfl
theorem wd_1132 : (Cond.fieldLink "NumberedSparksModel" (219 : Nat) "NumberedSparksModel" "isThere" "Z") ∈ am_ws := am_t5 172 rfl rfl
theorem wd_1133 : (Cond.fieldLink "NumberedSparksModel" (7 : Nat) "NumberedSparksModel" "wide" "[I") ∈ am_ws := am_t5 173 rfl rfl
theorem wd_1134 : (Cond.fieldLink "NumberedSparksModel" (222 : Nat) "NumberedSparksModel" "seed" "I") ∈ am_ws := am_t5 174 rfl rfl
theorem wd_1135 : (Cond.fieldLink "NumberedSparksModel" (224 : Nat) "NumberedSparksModel" "kinds" "I") ∈ am_ws := am_t5 175 rfl rfl
theorem wd_1136 : (Cond.fieldLink "NumberedSparksModel" (13 : Nat) "NumberedSparksModel" "kind" "[I") ∈ am_ws := am_t5 176 rfl rfl
theorem wd_1137 : (Cond.fieldLink "NumberedSparksModel" (227 : Nat) "NumberedSparksModel" "sources" "I") ∈ am_ws := am_t5 177 rfl rfl
theorem wd_1138 : (Cond.fieldLink "NumberedSparksModel" (16 : Nat) "NumberedSparksModel" "source" "[I") ∈ am_ws := am_t5 178 rfl rfl
theorem wd_1139 : (Cond.fieldLink "NumberedSparksModel" (19 : Nat) "NumberedSparksModel" "freshWide" "[I") ∈ am_ws := am_t5 179 rfl rfl
theorem wd_1140 : (Cond.fieldLink "NumberedSparksModel" (198 : Nat) "NumberedSparksModel" "freshSeed" "I") ∈ am_ws := am_t5 180 rfl rfl
theorem wd_1141 : (Cond.fieldLink "NumberedSparksModel" (153 : Nat) "NumberedSparksModel" "freshKinds" "I") ∈ am_ws := am_t5 181 rfl rfl
theorem wd_1142 : (Cond.fieldLink "NumberedSparksModel" (22 : Nat) "NumberedSparksModel" "freshKind" "[I") ∈ am_ws := am_t5 182 rfl rfl
theorem wd_1143 : (Cond.fieldLink "NumberedSparksModel" (180 : Nat) "NumberedSparksModel" "freshSources" "I") ∈ am_ws := am_t5 183 rfl rfl
theorem wd_1144 : (Cond.fieldLink "NumberedSparksModel" (25 : Nat) "NumberedSparksModel" "freshSource" "[I") ∈ am_ws := am_t5 184 rfl rfl
theorem wd_1145 : (Cond.fieldLink "NumberedSparksModel" (28 : Nat) "NumberedSparksModel" "tape" "[B") ∈ am_ws := am_t5 185 rfl rfl
theorem wd_1146 : (Cond.fieldLink "NumberedSparksModel" (74 : Nat) "NumberedSparksModel" "taped" "I") ∈ am_ws := am_t5 186 rfl rfl
theorem wd_1147 : (Cond.fieldLink "NumberedSparksModel" (92 : Nat) "NumberedSparksModel" "size" "I") ∈ am_ws := am_t5 187 rfl rfl
theorem wd_1148 : (Cond.fieldLink "NumberedSparksModel" (95 : Nat) "NumberedSparksModel" "at" "I") ∈ am_ws := am_t5 188 rfl rfl
theorem wd_1149 : (Cond.fieldLink "NumberedSparksModel" (102 : Nat) "NumberedSparksModel" "from" "I") ∈ am_ws := am_t5 189 rfl rfl
theorem wd_1150 : (Cond.fieldLink "NumberedSparksModel" (105 : Nat) "NumberedSparksModel" "token" "I") ∈ am_ws := am_t5 190 rfl rfl
theorem wd_1151 : (Cond.fieldLink "NumberedSparksModel" (116 : Nat) "NumberedSparksModel" "value" "I") ∈ am_ws := am_t5 191 rfl rfl
theorem wd_1152 : (Cond.fieldLink "NumberedSparksModel" (85 : Nat) "NumberedSparksModel" "faultKind" "I") ∈ am_ws := am_t5 192 rfl rfl
theorem wd_1153 : (Cond.fieldLink "NumberedSparksModel" (32 : Nat) "NumberedSparksModel" "faultPlace" "I") ∈ am_ws := am_t5 193 rfl rfl
theorem wd_1154 : (Cond.fieldLink "NumberedSparksModel" (193 : Nat) "NumberedSparksModel" "isSeeded" "Z") ∈ am_ws := am_t5 194 rfl rfl
theorem wd_1155 : (Cond.fieldLink "NumberedSparksModel" (230 : Nat) "NumberedSparksModel" "acts" "I") ∈ am_ws := am_t5 195 rfl rfl
theorem wd_1156 : (Cond.fieldLink "NumberedSparksModel" (36 : Nat) "NumberedSparksModel" "actAt" "[I") ∈ am_ws := am_t5 196 rfl rfl
theorem wd_1157 : (Cond.fieldLink "NumberedSparksModel" (39 : Nat) "NumberedSparksModel" "actWas" "[I") ∈ am_ws := am_t5 197 rfl rfl
theorem wd_1158 : (Cond.fieldLink "NumberedSparksModel" (278 : Nat) "NumberedSparksModel" "itsKind" "I") ∈ am_ws := am_t5 198 rfl rfl
theorem wd_1159 : (Cond.fieldLink "NumberedSparksModel" (292 : Nat) "NumberedSparksModel" "born" "I") ∈ am_ws := am_t5 199 rfl rfl
theorem wd_1160 : (Cond.fieldLink "NumberedSparksModel" (303 : Nat) "NumberedSparksModel" "ends" "I") ∈ am_ws := am_t5 200 rfl rfl
theorem wd_1161 : (Cond.fieldLink "NumberedSparksModel" (42 : Nat) "NumberedSparksModel" "begin" "[I") ∈ am_ws := am_t5 201 rfl rfl
theorem wd_1162 : (Cond.fieldLink "NumberedSparksModel" (45 : Nat) "NumberedSparksModel" "speed" "[I") ∈ am_ws := am_t5 202 rfl rfl
theorem wd_1163 : (Cond.fieldLink "NumberedSparksModel" (48 : Nat) "NumberedSparksModel" "lastPlace" "[I") ∈ am_ws := am_t5 203 rfl rfl
theorem wd_1164 : (Cond.fieldLink "NumberedSparksModel" (51 : Nat) "NumberedSparksModel" "cellsOfOne" "[I") ∈ am_ws := am_t5 204 rfl rfl
theorem wd_1165 : (Cond.fieldLink "NumberedSparksModel" (361 : Nat) "NumberedSparksModel" "many" "I") ∈ am_ws := am_t5 205 rfl rfl
theorem wd_1166 : (Cond.fieldLink "NumberedSparksModel" (54 : Nat) "NumberedSparksModel" "keys" "[J") ∈ am_ws := am_t5 206 rfl rfl
theorem wd_1167 : (Cond.fieldLink "NumberedSparksModel" (58 : Nat) "NumberedSparksModel" "place0" "[I") ∈ am_ws := am_t5 207 rfl rfl
theorem wd_1168 : (Cond.fieldLink "NumberedSparksModel" (61 : Nat) "NumberedSparksModel" "place1" "[I") ∈ am_ws := am_t5 208 rfl rfl
theorem wd_1169 : (Cond.fieldLink "NumberedSparksModel" (65 : Nat) "NumberedSparksModel" "heaps" "[I") ∈ am_ws := am_t5 209 rfl rfl
theorem wd_1170 : (Cond.fieldLink "NumberedSparksModel" (443 : Nat) "NumberedSparksModel" "leftOver" "I") ∈ am_ws := am_t5 210 rfl rfl
theorem wd_1171 : (Cond.fieldLink "NumberedSparksModel" (68 : Nat) "NumberedSparksModel" "told" "[B") ∈ am_ws := am_t5 211 rfl rfl
theorem wd_1172 : (Cond.fieldLink "NumberedSparksModel" (233 : Nat) "NumberedSparksModel" "toldMany" "I") ∈ am_ws := am_t5 212 rfl rfl
theorem wd_1258 : (Cond.arrayClass FieldType.long) ∈ am_ws := am_t6 58 rfl rfl
theorem wd_1259 : (Cond.methodLink "NumberedSparksLaw" (17 : Nat) ({ cls := "NumberedSparksModel", name := "feed", desc := "(IIIII)I" } : MethodName)) ∈ am_ws := am_t6 59 rfl rfl
theorem wd_1260 : (Cond.instanceMethod ({ cls := "NumberedSparksModel", name := "feed", desc := "(IIIII)I" } : MethodName)) ∈ am_ws := am_t6 60 rfl rfl
theorem wd_1261 : (Cond.selects "NumberedSparksModel" ({ cls := "NumberedSparksModel", name := "feed", desc := "(IIIII)I" } : MethodName) ({ cls := "NumberedSparksModel", name := "feed", desc := "(IIIII)I" } : MethodName)) ∈ am_ws := am_t6 61 rfl rfl
theorem wd_1262 : (Cond.code ({ cls := "NumberedSparksModel", name := "feed", desc := "(IIIII)I" } : MethodName) prog_11_method_5_code (6 : Nat) (Option.some FieldType.int)) ∈ am_ws := am_t6 62 rfl rfl
theorem wd_1263 : (Cond.methodLink "NumberedSparksModel" (77 : Nat) ({ cls := "NumberedSparksModel", name := "puts4", desc := "(I)V" } : MethodName)) ∈ am_ws := am_t6 63 rfl rfl
theorem wd_1265 : (Cond.instanceMethod ({ cls := "NumberedSparksModel", name := "puts4", desc := "(I)V" } : MethodName)) ∈ am_ws := am_t6 65 rfl rfl
theorem wd_1266 : (Cond.code ({ cls := "NumberedSparksModel", name := "puts4", desc := "(I)V" } : MethodName) prog_11_method_4_code (3 : Nat) (Option.none : Option FieldType)) ∈ am_ws := am_t6 66 rfl rfl
theorem wd_1267 : (Cond.methodLink "NumberedSparksLaw" (22 : Nat) ({ cls := "NumberedSparksModel", name := "end", desc := "(I)I" } : MethodName)) ∈ am_ws := am_t6 67 rfl rfl
theorem wd_1268 : (Cond.instanceMethod ({ cls := "NumberedSparksModel", name := "end", desc := "(I)I" } : MethodName)) ∈ am_ws := am_t6 68 rfl rfl
theorem wd_1269 : (Cond.selects "NumberedSparksModel" ({ cls := "NumberedSparksModel", name := "end", desc := "(I)I" } : MethodName) ({ cls := "NumberedSparksModel", name := "end", desc := "(I)I" } : MethodName)) ∈ am_ws := am_t6 69 rfl rfl
theorem wd_1270 : (Cond.code ({ cls := "NumberedSparksModel", name := "end", desc := "(I)I" } : MethodName) prog_11_method_6_code (2 : Nat) (Option.some FieldType.int)) ∈ am_ws := am_t6 70 rfl rfl
theorem wd_1271 : (Cond.methodLink "NumberedSparksModel" (81 : Nat) ({ cls := "NumberedSparksModel", name := "in", desc := "(JJJ)Z" } : MethodName)) ∈ am_ws := am_t6 71 rfl rfl
theorem wd_1272 : (Cond.static ({ cls := "NumberedSparksModel", name := "in", desc := "(JJJ)Z" } : MethodName)) ∈ am_ws := am_t6 72 rfl rfl
theorem wd_1273 : (Cond.code ({ cls := "NumberedSparksModel", name := "in", desc := "(JJJ)Z" } : MethodName) prog_11_method_3_code (6 : Nat) (Option.some FieldType.boolean)) ∈ am_ws := am_t6 73 rfl rfl
theorem wd_1274 : (Cond.methodLink "NumberedSparksLaw" (27 : Nat) ({ cls := "NumberedSparksModel", name := "scene", desc := "()I" } : MethodName)) ∈ am_ws := am_t6 74 rfl rfl
theorem wd_1275 : (Cond.instanceMethod ({ cls := "NumberedSparksModel", name := "scene", desc := "()I" } : MethodName)) ∈ am_ws := am_t6 75 rfl rfl
theorem wd_1276 : (Cond.selects "NumberedSparksModel" ({ cls := "NumberedSparksModel", name := "scene", desc := "()I" } : MethodName) ({ cls := "NumberedSparksModel", name := "scene", desc := "()I" } : MethodName)) ∈ am_ws := am_t6 76 rfl rfl
theorem wd_1277 : (Cond.code ({ cls := "NumberedSparksModel", name := "scene", desc := "()I" } : MethodName) prog_11_method_20_code (3 : Nat) (Option.some FieldType.int)) ∈ am_ws := am_t6 77 rfl rfl
theorem wd_1278 : (Cond.methodLink "NumberedSparksModel" (140 : Nat) ({ cls := "NumberedSparksModel", name := "advance", desc := "()V" } : MethodName)) ∈ am_ws := am_t6 78 rfl rfl
theorem wd_1280 : (Cond.instanceMethod ({ cls := "NumberedSparksModel", name := "advance", desc := "()V" } : MethodName)) ∈ am_ws := am_t6 80 rfl rfl
theorem wd_1281 : (Cond.code ({ cls := "NumberedSparksModel", name := "advance", desc := "()V" } : MethodName) prog_11_method_10_code (2 : Nat) (Option.none : Option FieldType)) ∈ am_ws := am_t6 81 rfl rfl
theorem wd_1282 : (Cond.methodLink "NumberedSparksModel" (98 : Nat) ({ cls := "NumberedSparksModel", name := "see", desc := "(I)I" } : MethodName)) ∈ am_ws := am_t6 82 rfl rfl
theorem wd_1284 : (Cond.instanceMethod ({ cls := "NumberedSparksModel", name := "see", desc := "(I)I" } : MethodName)) ∈ am_ws := am_t6 84 rfl rfl
theorem wd_1285 : (Cond.code ({ cls := "NumberedSparksModel", name := "see", desc := "(I)I" } : MethodName) prog_11_method_9_code (2 : Nat) (Option.some FieldType.int)) ∈ am_ws := am_t6 85 rfl rfl
theorem wd_1286 : (Cond.constantLong "NumberedSparksModel" (108 : Nat) (97 : Int64)) ∈ am_ws := am_t6 86 rfl rfl
theorem wd_1287 : (Cond.constantLong "NumberedSparksModel" (110 : Nat) (122 : Int64)) ∈ am_ws := am_t6 87 rfl rfl
theorem wd_1288 : (Cond.constantLong "NumberedSparksModel" (112 : Nat) (48 : Int64)) ∈ am_ws := am_t6 88 rfl rfl
theorem wd_1289 : (Cond.constantLong "NumberedSparksModel" (114 : Nat) (57 : Int64)) ∈ am_ws := am_t6 89 rfl rfl
theorem wd_1290 : (Cond.constant "NumberedSparksModel" (119 : Nat) (9999999 : Int32)) ∈ am_ws := am_t6 90 rfl rfl
theorem wd_1291 : (Cond.methodLink "NumberedSparksModel" (120 : Nat) ({ cls := "java/lang/Math", name := "min", desc := "(II)I" } : MethodName)) ∈ am_ws := am_t6 91 rfl rfl
theorem wd_1292 : (Cond.methodLink "NumberedSparksModel" (146 : Nat) ({ cls := "NumberedSparksModel", name := "errs", desc := "(II)V" } : MethodName)) ∈ am_ws := am_t6 92 rfl rfl
theorem wd_1294 : (Cond.instanceMethod ({ cls := "NumberedSparksModel", name := "errs", desc := "(II)V" } : MethodName)) ∈ am_ws := am_t6 94 rfl rfl
theorem wd_1295 : (Cond.code ({ cls := "NumberedSparksModel", name := "errs", desc := "(II)V" } : MethodName) prog_11_method_8_code (3 : Nat) (Option.none : Option FieldType)) ∈ am_ws := am_t6 95 rfl rfl
theorem wd_1296 : (Cond.methodLink "NumberedSparksModel" (88 : Nat) ({ cls := "NumberedSparksModel", name := "good", desc := "()Z" } : MethodName)) ∈ am_ws := am_t6 96 rfl rfl
theorem wd_1298 : (Cond.instanceMethod ({ cls := "NumberedSparksModel", name := "good", desc := "()Z" } : MethodName)) ∈ am_ws := am_t6 98 rfl rfl
theorem wd_1299 : (Cond.code ({ cls := "NumberedSparksModel", name := "good", desc := "()Z" } : MethodName) prog_11_method_7_code (1 : Nat) (Option.some FieldType.boolean)) ∈ am_ws := am_t6 99 rfl rfl
theorem wd_1300 : (Cond.methodLink "NumberedSparksModel" (216 : Nat) ({ cls := "NumberedSparksModel", name := "readLine", desc := "(I)V" } : MethodName)) ∈ am_ws := am_t6 100 rfl rfl
theorem wd_1302 : (Cond.instanceMethod ({ cls := "NumberedSparksModel", name := "readLine", desc := "(I)V" } : MethodName)) ∈ am_ws := am_t6 102 rfl rfl
theorem wd_1303 : (Cond.code ({ cls := "NumberedSparksModel", name := "readLine", desc := "(I)V" } : MethodName) prog_11_method_19_code (3 : Nat) (Option.none : Option FieldType)) ∈ am_ws := am_t6 103 rfl rfl
theorem wd_1305 : (Cond.methodLink "NumberedSparksModel" (158 : Nat) ({ cls := "NumberedSparksModel", name := "passes", desc := "(Ljava/lang/String;)V" } : MethodName)) ∈ am_ws := am_t6 105 rfl rfl
theorem wd_1307 : (Cond.instanceMethod ({ cls := "NumberedSparksModel", name := "passes", desc := "(Ljava/lang/String;)V" } : MethodName)) ∈ am_ws := am_t6 107 rfl rfl
theorem wd_1308 : (Cond.code ({ cls := "NumberedSparksModel", name := "passes", desc := "(Ljava/lang/String;)V" } : MethodName) prog_11_method_13_code (2 : Nat) (Option.none : Option FieldType)) ∈ am_ws := am_t6 108 rfl rfl
theorem wd_1309 : (Cond.methodLink "NumberedSparksModel" (143 : Nat) ({ cls := "NumberedSparksModel", name := "takes", desc := "(Ljava/lang/String;)Z" } : MethodName)) ∈ am_ws := am_t6 109 rfl rfl
theorem wd_1311 : (Cond.instanceMethod ({ cls := "NumberedSparksModel", name := "takes", desc := "(Ljava/lang/String;)Z" } : MethodName)) ∈ am_ws := am_t6 111 rfl rfl
theorem wd_1312 : (Cond.code ({ cls := "NumberedSparksModel", name := "takes", desc := "(Ljava/lang/String;)Z" } : MethodName) prog_11_method_12_code (2 : Nat) (Option.some FieldType.boolean)) ∈ am_ws := am_t6 112 rfl rfl
theorem wd_1313 : (Cond.methodLink "NumberedSparksModel" (136 : Nat) ({ cls := "NumberedSparksModel", name := "isWord", desc := "(Ljava/lang/String;)Z" } : MethodName)) ∈ am_ws := am_t6 113 rfl rfl
theorem wd_1315 : (Cond.instanceMethod ({ cls := "NumberedSparksModel", name := "isWord", desc := "(Ljava/lang/String;)Z" } : MethodName)) ∈ am_ws := am_t6 115 rfl rfl
theorem wd_1316 : (Cond.code ({ cls := "NumberedSparksModel", name := "isWord", desc := "(Ljava/lang/String;)Z" } : MethodName) prog_11_method_11_code (4 : Nat) (Option.some FieldType.boolean)) ∈ am_ws := am_t6 116 rfl rfl
theorem wd_1317 : (Cond.methodLink "NumberedSparksModel" (126 : Nat) ({ cls := "java/lang/String", name := "length", desc := "()I" } : MethodName)) ∈ am_ws := am_t6 117 rfl rfl
theorem wd_1318 : (Cond.methodLink "NumberedSparksModel" (132 : Nat) ({ cls := "java/lang/String", name := "charAt", desc := "(I)C" } : MethodName)) ∈ am_ws := am_t6 118 rfl rfl
theorem wd_1319 : (Cond.methodLink "NumberedSparksModel" (150 : Nat) ({ cls := "NumberedSparksModel", name := "number", desc := "(II)I" } : MethodName)) ∈ am_ws := am_t6 119 rfl rfl
theorem wd_1321 : (Cond.instanceMethod ({ cls := "NumberedSparksModel", name := "number", desc := "(II)I" } : MethodName)) ∈ am_ws := am_t6 121 rfl rfl
theorem wd_1322 : (Cond.code ({ cls := "NumberedSparksModel", name := "number", desc := "(II)I" } : MethodName) prog_11_method_14_code (4 : Nat) (Option.some FieldType.int)) ∈ am_ws := am_t6 122 rfl rfl
theorem wd_1324 : (Cond.methodLink "NumberedSparksModel" (205 : Nat) ({ cls := "NumberedSparksModel", name := "readSeed", desc := "()V" } : MethodName)) ∈ am_ws := am_t6 124 rfl rfl
theorem wd_1326 : (Cond.instanceMethod ({ cls := "NumberedSparksModel", name := "readSeed", desc := "()V" } : MethodName)) ∈ am_ws := am_t6 126 rfl rfl
theorem wd_1327 : (Cond.code ({ cls := "NumberedSparksModel", name := "readSeed", desc := "()V" } : MethodName) prog_11_method_18_code (1 : Nat) (Option.none : Option FieldType)) ∈ am_ws := am_t6 127 rfl rfl
theorem wd_1328 : (Cond.constant "NumberedSparksModel" (197 : Nat) (999999 : Int32)) ∈ am_ws := am_t6 128 rfl rfl
theorem wd_1330 : (Cond.methodLink "NumberedSparksModel" (209 : Nat) ({ cls := "NumberedSparksModel", name := "readKind", desc := "()V" } : MethodName)) ∈ am_ws := am_t6 130 rfl rfl
theorem wd_1332 : (Cond.instanceMethod ({ cls := "NumberedSparksModel", name := "readKind", desc := "()V" } : MethodName)) ∈ am_ws := am_t6 132 rfl rfl
theorem wd_1333 : (Cond.code ({ cls := "NumberedSparksModel", name := "readKind", desc := "()V" } : MethodName) prog_11_method_16_code (2 : Nat) (Option.none : Option FieldType)) ∈ am_ws := am_t6 133 rfl rfl
theorem wd_1338 : (Cond.methodLink "NumberedSparksModel" (167 : Nat) ({ cls := "NumberedSparksModel", name := "falls", desc := "()I" } : MethodName)) ∈ am_ws := am_t6 138 rfl rfl
theorem wd_1340 : (Cond.instanceMethod ({ cls := "NumberedSparksModel", name := "falls", desc := "()I" } : MethodName)) ∈ am_ws := am_t6 140 rfl rfl
theorem wd_1341 : (Cond.code ({ cls := "NumberedSparksModel", name := "falls", desc := "()I" } : MethodName) prog_11_method_15_code (3 : Nat) (Option.some FieldType.int)) ∈ am_ws := am_t6 141 rfl rfl
theorem wd_1349 : (Cond.methodLink "NumberedSparksModel" (213 : Nat) ({ cls := "NumberedSparksModel", name := "readSource", desc := "()V" } : MethodName)) ∈ am_ws := am_t6 149 rfl rfl
theorem wd_1351 : (Cond.instanceMethod ({ cls := "NumberedSparksModel", name := "readSource", desc := "()V" } : MethodName)) ∈ am_ws := am_t6 151 rfl rfl
theorem wd_1352 : (Cond.code ({ cls := "NumberedSparksModel", name := "readSource", desc := "()V" } : MethodName) prog_11_method_17_code (3 : Nat) (Option.none : Option FieldType)) ∈ am_ws := am_t6 152 rfl rfl
theorem wd_1359 : (Cond.methodLink "NumberedSparksLaw" (31 : Nat) ({ cls := "NumberedSparksModel", name := "fault", desc := "(I)I" } : MethodName)) ∈ am_ws := am_t6 159 rfl rfl
theorem wd_1360 : (Cond.instanceMethod ({ cls := "NumberedSparksModel", name := "fault", desc := "(I)I" } : MethodName)) ∈ am_ws := am_t6 160 rfl rfl
theorem wd_1361 : (Cond.selects "NumberedSparksModel" ({ cls := "NumberedSparksModel", name := "fault", desc := "(I)I" } : MethodName) ({ cls := "NumberedSparksModel", name := "fault", desc := "(I)I" } : MethodName)) ∈ am_ws := am_t6 161 rfl rfl
theorem wd_1362 : (Cond.code ({ cls := "NumberedSparksModel", name := "fault", desc := "(I)I" } : MethodName) prog_11_method_21_code (2 : Nat) (Option.some FieldType.int)) ∈ am_ws := am_t6 162 rfl rfl
theorem wd_1363 : (Cond.methodLink "NumberedSparksLaw" (35 : Nat) ({ cls := "NumberedSparksModel", name := "count", desc := "(I)I" } : MethodName)) ∈ am_ws := am_t6 163 rfl rfl
theorem wd_1364 : (Cond.instanceMethod ({ cls := "NumberedSparksModel", name := "count", desc := "(I)I" } : MethodName)) ∈ am_ws := am_t6 164 rfl rfl
theorem wd_1365 : (Cond.selects "NumberedSparksModel" ({ cls := "NumberedSparksModel", name := "count", desc := "(I)I" } : MethodName) ({ cls := "NumberedSparksModel", name := "count", desc := "(I)I" } : MethodName)) ∈ am_ws := am_t6 165 rfl rfl
theorem wd_1366 : (Cond.code ({ cls := "NumberedSparksModel", name := "count", desc := "(I)I" } : MethodName) prog_11_method_22_code (2 : Nat) (Option.some FieldType.int)) ∈ am_ws := am_t6 166 rfl rfl
theorem wd_1367 : (Cond.methodLink "NumberedSparksLaw" (40 : Nat) ({ cls := "NumberedSparksModel", name := "kind", desc := "(II)I" } : MethodName)) ∈ am_ws := am_t6 167 rfl rfl
theorem wd_1368 : (Cond.instanceMethod ({ cls := "NumberedSparksModel", name := "kind", desc := "(II)I" } : MethodName)) ∈ am_ws := am_t6 168 rfl rfl
theorem wd_1369 : (Cond.selects "NumberedSparksModel" ({ cls := "NumberedSparksModel", name := "kind", desc := "(II)I" } : MethodName) ({ cls := "NumberedSparksModel", name := "kind", desc := "(II)I" } : MethodName)) ∈ am_ws := am_t6 169 rfl rfl
theorem wd_1370 : (Cond.code ({ cls := "NumberedSparksModel", name := "kind", desc := "(II)I" } : MethodName) prog_11_method_23_code (3 : Nat) (Option.some FieldType.int)) ∈ am_ws := am_t6 170 rfl rfl
theorem wd_1371 : (Cond.constantLong "NumberedSparksModel" (236 : Nat) (7 : Int64)) ∈ am_ws := am_t6 171 rfl rfl
theorem wd_1372 : (Cond.methodLink "NumberedSparksLaw" (44 : Nat) ({ cls := "NumberedSparksModel", name := "source", desc := "(II)I" } : MethodName)) ∈ am_ws := am_t6 172 rfl rfl
theorem wd_1373 : (Cond.instanceMethod ({ cls := "NumberedSparksModel", name := "source", desc := "(II)I" } : MethodName)) ∈ am_ws := am_t6 173 rfl rfl
theorem wd_1374 : (Cond.selects "NumberedSparksModel" ({ cls := "NumberedSparksModel", name := "source", desc := "(II)I" } : MethodName) ({ cls := "NumberedSparksModel", name := "source", desc := "(II)I" } : MethodName)) ∈ am_ws := am_t6 174 rfl rfl
theorem wd_1375 : (Cond.code ({ cls := "NumberedSparksModel", name := "source", desc := "(II)I" } : MethodName) prog_11_method_27_code (3 : Nat) (Option.some FieldType.int)) ∈ am_ws := am_t6 175 rfl rfl
theorem wd_1376 : (Cond.constantLong "NumberedSparksModel" (244 : Nat) (9 : Int64)) ∈ am_ws := am_t6 176 rfl rfl
theorem wd_1377 : (Cond.methodLink "NumberedSparksModel" (246 : Nat) ({ cls := "NumberedSparksModel", name := "roots", desc := "(I)I" } : MethodName)) ∈ am_ws := am_t6 177 rfl rfl
theorem wd_1379 : (Cond.instanceMethod ({ cls := "NumberedSparksModel", name := "roots", desc := "(I)I" } : MethodName)) ∈ am_ws := am_t6 179 rfl rfl
theorem wd_1380 : (Cond.code ({ cls := "NumberedSparksModel", name := "roots", desc := "(I)I" } : MethodName) prog_11_method_26_code (2 : Nat) (Option.some FieldType.int)) ∈ am_ws := am_t6 180 rfl rfl
theorem wd_1381 : (Cond.methodLink "NumberedSparksModel" (241 : Nat) ({ cls := "NumberedSparksModel", name := "groups", desc := "(I)I" } : MethodName)) ∈ am_ws := am_t6 181 rfl rfl
theorem wd_1383 : (Cond.instanceMethod ({ cls := "NumberedSparksModel", name := "groups", desc := "(I)I" } : MethodName)) ∈ am_ws := am_t6 183 rfl rfl
theorem wd_1384 : (Cond.code ({ cls := "NumberedSparksModel", name := "groups", desc := "(I)I" } : MethodName) prog_11_method_25_code (3 : Nat) (Option.some FieldType.int)) ∈ am_ws := am_t6 184 rfl rfl
theorem wd_1385 : (Cond.methodLink "NumberedSparksModel" (238 : Nat) ({ cls := "NumberedSparksModel", name := "ofSource", desc := "(II)I" } : MethodName)) ∈ am_ws := am_t6 185 rfl rfl
theorem wd_1387 : (Cond.instanceMethod ({ cls := "NumberedSparksModel", name := "ofSource", desc := "(II)I" } : MethodName)) ∈ am_ws := am_t6 187 rfl rfl
theorem wd_1388 : (Cond.code ({ cls := "NumberedSparksModel", name := "ofSource", desc := "(II)I" } : MethodName) prog_11_method_24_code (3 : Nat) (Option.some FieldType.int)) ∈ am_ws := am_t6 188 rfl rfl
theorem wd_1389 : (Cond.methodLink "NumberedSparksLaw" (48 : Nat) ({ cls := "NumberedSparksModel", name := "seed", desc := "(I)I" } : MethodName)) ∈ am_ws := am_t6 189 rfl rfl
theorem wd_1390 : (Cond.instanceMethod ({ cls := "NumberedSparksModel", name := "seed", desc := "(I)I" } : MethodName)) ∈ am_ws := am_t6 190 rfl rfl
theorem wd_1391 : (Cond.selects "NumberedSparksModel" ({ cls := "NumberedSparksModel", name := "seed", desc := "(I)I" } : MethodName) ({ cls := "NumberedSparksModel", name := "seed", desc := "(I)I" } : MethodName)) ∈ am_ws := am_t6 191 rfl rfl
theorem wd_1392 : (Cond.code ({ cls := "NumberedSparksModel", name := "seed", desc := "(I)I" } : MethodName) prog_11_method_29_code (3 : Nat) (Option.some FieldType.int)) ∈ am_ws := am_t6 192 rfl rfl
theorem wd_1393 : (Cond.constantLong "NumberedSparksModel" (249 : Nat) (999999 : Int64)) ∈ am_ws := am_t6 193 rfl rfl
theorem wd_1394 : (Cond.methodLink "NumberedSparksModel" (251 : Nat) ({ cls := "NumberedSparksModel", name := "keeps", desc := "(II)V" } : MethodName)) ∈ am_ws := am_t6 194 rfl rfl
theorem wd_1396 : (Cond.instanceMethod ({ cls := "NumberedSparksModel", name := "keeps", desc := "(II)V" } : MethodName)) ∈ am_ws := am_t6 196 rfl rfl
theorem wd_1397 : (Cond.code ({ cls := "NumberedSparksModel", name := "keeps", desc := "(II)V" } : MethodName) prog_11_method_28_code (4 : Nat) (Option.none : Option FieldType)) ∈ am_ws := am_t6 197 rfl rfl
theorem wd_1398 : (Cond.methodLink "NumberedSparksLaw" (204 : Nat) ({ cls := "NumberedSparksModel", name := "sets", desc := "(III)I" } : MethodName)) ∈ am_ws := am_t6 198 rfl rfl
theorem wd_1399 : (Cond.instanceMethod ({ cls := "NumberedSparksModel", name := "sets", desc := "(III)I" } : MethodName)) ∈ am_ws := am_t6 199 rfl rfl
theorem wd_1400 : (Cond.selects "NumberedSparksModel" ({ cls := "NumberedSparksModel", name := "sets", desc := "(III)I" } : MethodName) ({ cls := "NumberedSparksModel", name := "sets", desc := "(III)I" } : MethodName)) ∈ am_ws := am_t6 200 rfl rfl
theorem wd_1401 : (Cond.code ({ cls := "NumberedSparksModel", name := "sets", desc := "(III)I" } : MethodName) prog_11_method_30_code (8 : Nat) (Option.some FieldType.int)) ∈ am_ws := am_t6 201 rfl rfl
theorem wd_1402 : (Cond.constantLong "NumberedSparksModel" (254 : Nat) (4 : Int64)) ∈ am_ws := am_t6 202 rfl rfl
theorem wd_1403 : (Cond.methodLink "NumberedSparksLaw" (208 : Nat) ({ cls := "NumberedSparksModel", name := "undo", desc := "()I" } : MethodName)) ∈ am_ws := am_t6 203 rfl rfl
theorem wd_1404 : (Cond.instanceMethod ({ cls := "NumberedSparksModel", name := "undo", desc := "()I" } : MethodName)) ∈ am_ws := am_t6 204 rfl rfl
theorem wd_1405 : (Cond.selects "NumberedSparksModel" ({ cls := "NumberedSparksModel", name := "undo", desc := "()I" } : MethodName) ({ cls := "NumberedSparksModel", name := "undo", desc := "()I" } : MethodName)) ∈ am_ws := am_t6 205 rfl rfl
theorem wd_1406 : (Cond.code ({ cls := "NumberedSparksModel", name := "undo", desc := "()I" } : MethodName) prog_11_method_31_code (1 : Nat) (Option.some FieldType.int)) ∈ am_ws := am_t6 206 rfl rfl
theorem wd_1407 : (Cond.methodLink "NumberedSparksLaw" (53 : Nat) ({ cls := "NumberedSparksModel", name := "mixed", desc := "(II)J" } : MethodName)) ∈ am_ws := am_t6 207 rfl rfl
theorem wd_1408 : (Cond.instanceMethod ({ cls := "NumberedSparksModel", name := "mixed", desc := "(II)J" } : MethodName)) ∈ am_ws := am_t6 208 rfl rfl
theorem wd_1409 : (Cond.selects "NumberedSparksModel" ({ cls := "NumberedSparksModel", name := "mixed", desc := "(II)J" } : MethodName) ({ cls := "NumberedSparksModel", name := "mixed", desc := "(II)J" } : MethodName)) ∈ am_ws := am_t6 209 rfl rfl
theorem wd_1410 : (Cond.code ({ cls := "NumberedSparksModel", name := "mixed", desc := "(II)J" } : MethodName) prog_11_method_33_code (3 : Nat) (Option.some FieldType.long)) ∈ am_ws := am_t6 210 rfl rfl
theorem wd_1411 : (Cond.methodLink "NumberedSparksModel" (264 : Nat) ({ cls := "NumberedSparksModel", name := "mixedOf", desc := "(II)J" } : MethodName)) ∈ am_ws := am_t6 211 rfl rfl
theorem wd_1413 : (Cond.instanceMethod ({ cls := "NumberedSparksModel", name := "mixedOf", desc := "(II)J" } : MethodName)) ∈ am_ws := am_t6 213 rfl rfl
theorem wd_1414 : (Cond.code ({ cls := "NumberedSparksModel", name := "mixedOf", desc := "(II)J" } : MethodName) prog_11_method_32_code (5 : Nat) (Option.some FieldType.long)) ∈ am_ws := am_t6 214 rfl rfl
theorem wd_1415 : (Cond.constantLong "NumberedSparksModel" (256 : Nat) (-7046029254386353131 : Int64)) ∈ am_ws := am_t6 215 rfl rfl
theorem wd_1416 : (Cond.constantLong "NumberedSparksModel" (258 : Nat) (-3335678366873096957 : Int64)) ∈ am_ws := am_t6 216 rfl rfl
theorem wd_1417 : (Cond.constantLong "NumberedSparksModel" (260 : Nat) (-4658895280553007687 : Int64)) ∈ am_ws := am_t6 217 rfl rfl
theorem wd_1418 : (Cond.constantLong "NumberedSparksModel" (262 : Nat) (-7723592293110705685 : Int64)) ∈ am_ws := am_t6 218 rfl rfl
theorem wd_1419 : (Cond.methodLink "NumberedSparksLaw" (57 : Nat) ({ cls := "NumberedSparksModel", name := "is", desc := "(I)I" } : MethodName)) ∈ am_ws := am_t6 219 rfl rfl
theorem wd_1420 : (Cond.instanceMethod ({ cls := "NumberedSparksModel", name := "is", desc := "(I)I" } : MethodName)) ∈ am_ws := am_t6 220 rfl rfl
theorem wd_1421 : (Cond.selects "NumberedSparksModel" ({ cls := "NumberedSparksModel", name := "is", desc := "(I)I" } : MethodName) ({ cls := "NumberedSparksModel", name := "is", desc := "(I)I" } : MethodName)) ∈ am_ws := am_t6 221 rfl rfl
theorem wd_1422 : (Cond.code ({ cls := "NumberedSparksModel", name := "is", desc := "(I)I" } : MethodName) prog_11_method_49_code (2 : Nat) (Option.some FieldType.int)) ∈ am_ws := am_t6 222 rfl rfl
theorem wd_1423 : (Cond.methodLink "NumberedSparksModel" (318 : Nat) ({ cls := "NumberedSparksModel", name := "isSpark", desc := "(I)Z" } : MethodName)) ∈ am_ws := am_t6 223 rfl rfl
theorem wd_1425 : (Cond.instanceMethod ({ cls := "NumberedSparksModel", name := "isSpark", desc := "(I)Z" } : MethodName)) ∈ am_ws := am_t6 225 rfl rfl
theorem wd_1426 : (Cond.code ({ cls := "NumberedSparksModel", name := "isSpark", desc := "(I)Z" } : MethodName) prog_11_method_38_code (5 : Nat) (Option.some FieldType.boolean)) ∈ am_ws := am_t6 226 rfl rfl
theorem wd_1427 : (Cond.methodLink "NumberedSparksModel" (268 : Nat) ({ cls := "NumberedSparksModel", name := "first", desc := "(I)I" } : MethodName)) ∈ am_ws := am_t6 227 rfl rfl
theorem wd_1428 : (Cond.static ({ cls := "NumberedSparksModel", name := "first", desc := "(I)I" } : MethodName)) ∈ am_ws := am_t6 228 rfl rfl
theorem wd_1429 : (Cond.code ({ cls := "NumberedSparksModel", name := "first", desc := "(I)I" } : MethodName) prog_11_method_35_code (1 : Nat) (Option.some FieldType.int)) ∈ am_ws := am_t6 229 rfl rfl
theorem wd_1430 : (Cond.methodLink "NumberedSparksModel" (271 : Nat) ({ cls := "NumberedSparksModel", name := "hasChild", desc := "(II)Z" } : MethodName)) ∈ am_ws := am_t6 230 rfl rfl
theorem wd_1432 : (Cond.instanceMethod ({ cls := "NumberedSparksModel", name := "hasChild", desc := "(II)Z" } : MethodName)) ∈ am_ws := am_t6 232 rfl rfl
theorem wd_1433 : (Cond.code ({ cls := "NumberedSparksModel", name := "hasChild", desc := "(II)Z" } : MethodName) prog_11_method_37_code (3 : Nat) (Option.some FieldType.boolean)) ∈ am_ws := am_t6 233 rfl rfl
theorem wd_1434 : (Cond.methodLink "NumberedSparksModel" (275 : Nat) ({ cls := "NumberedSparksModel", name := "second", desc := "(I)I" } : MethodName)) ∈ am_ws := am_t6 234 rfl rfl
theorem wd_1435 : (Cond.static ({ cls := "NumberedSparksModel", name := "second", desc := "(I)I" } : MethodName)) ∈ am_ws := am_t6 235 rfl rfl
theorem wd_1436 : (Cond.code ({ cls := "NumberedSparksModel", name := "second", desc := "(I)I" } : MethodName) prog_11_method_36_code (1 : Nat) (Option.some FieldType.int)) ∈ am_ws := am_t6 236 rfl rfl
theorem wd_1437 : (Cond.methodLink "NumberedSparksLaw" (61 : Nat) ({ cls := "NumberedSparksModel", name := "child", desc := "(II)I" } : MethodName)) ∈ am_ws := am_t6 237 rfl rfl
theorem wd_1438 : (Cond.instanceMethod ({ cls := "NumberedSparksModel", name := "child", desc := "(II)I" } : MethodName)) ∈ am_ws := am_t6 238 rfl rfl
theorem wd_1439 : (Cond.selects "NumberedSparksModel" ({ cls := "NumberedSparksModel", name := "child", desc := "(II)I" } : MethodName) ({ cls := "NumberedSparksModel", name := "child", desc := "(II)I" } : MethodName)) ∈ am_ws := am_t6 239 rfl rfl
theorem wd_1440 : (Cond.code ({ cls := "NumberedSparksModel", name := "child", desc := "(II)I" } : MethodName) prog_11_method_52_code (3 : Nat) (Option.some FieldType.int)) ∈ am_ws := am_t7 0 rfl rfl
theorem wd_1441 : (Cond.methodLink "NumberedSparksModel" (327 : Nat) ({ cls := "NumberedSparksModel", name := "childOf", desc := "(II)I" } : MethodName)) ∈ am_ws := am_t7 1 rfl rfl
theorem wd_1443 : (Cond.instanceMethod ({ cls := "NumberedSparksModel", name := "childOf", desc := "(II)I" } : MethodName)) ∈ am_ws := am_t7 3 rfl rfl
theorem wd_1444 : (Cond.code ({ cls := "NumberedSparksModel", name := "childOf", desc := "(II)I" } : MethodName) prog_11_method_51_code (4 : Nat) (Option.some FieldType.int)) ∈ am_ws := am_t7 4 rfl rfl
theorem wd_1445 : (Cond.methodLink "NumberedSparksModel" (321 : Nat) ({ cls := "NumberedSparksModel", name := "generation", desc := "(I)I" } : MethodName)) ∈ am_ws := am_t7 5 rfl rfl
theorem wd_1446 : (Cond.static ({ cls := "NumberedSparksModel", name := "generation", desc := "(I)I" } : MethodName)) ∈ am_ws := am_t7 6 rfl rfl
theorem wd_1447 : (Cond.code ({ cls := "NumberedSparksModel", name := "generation", desc := "(I)I" } : MethodName) prog_11_method_48_code (1 : Nat) (Option.some FieldType.int)) ∈ am_ws := am_t7 7 rfl rfl
theorem wd_1448 : (Cond.methodLink "NumberedSparksModel" (324 : Nat) ({ cls := "NumberedSparksModel", name := "kindOf", desc := "(I)I" } : MethodName)) ∈ am_ws := am_t7 8 rfl rfl
theorem wd_1450 : (Cond.instanceMethod ({ cls := "NumberedSparksModel", name := "kindOf", desc := "(I)I" } : MethodName)) ∈ am_ws := am_t7 10 rfl rfl
theorem wd_1451 : (Cond.code ({ cls := "NumberedSparksModel", name := "kindOf", desc := "(I)I" } : MethodName) prog_11_method_50_code (5 : Nat) (Option.some FieldType.int)) ∈ am_ws := am_t7 11 rfl rfl
theorem wd_1452 : (Cond.methodLink "NumberedSparksLaw" (65 : Nat) ({ cls := "NumberedSparksModel", name := "parent", desc := "(I)I" } : MethodName)) ∈ am_ws := am_t7 12 rfl rfl
theorem wd_1453 : (Cond.instanceMethod ({ cls := "NumberedSparksModel", name := "parent", desc := "(I)I" } : MethodName)) ∈ am_ws := am_t7 13 rfl rfl
theorem wd_1454 : (Cond.selects "NumberedSparksModel" ({ cls := "NumberedSparksModel", name := "parent", desc := "(I)I" } : MethodName) ({ cls := "NumberedSparksModel", name := "parent", desc := "(I)I" } : MethodName)) ∈ am_ws := am_t7 14 rfl rfl
theorem wd_1455 : (Cond.code ({ cls := "NumberedSparksModel", name := "parent", desc := "(I)I" } : MethodName) prog_11_method_54_code (2 : Nat) (Option.some FieldType.int)) ∈ am_ws := am_t7 15 rfl rfl
theorem wd_1456 : (Cond.methodLink "NumberedSparksModel" (330 : Nat) ({ cls := "NumberedSparksModel", name := "parentOf", desc := "(I)I" } : MethodName)) ∈ am_ws := am_t7 16 rfl rfl
theorem wd_1457 : (Cond.static ({ cls := "NumberedSparksModel", name := "parentOf", desc := "(I)I" } : MethodName)) ∈ am_ws := am_t7 17 rfl rfl
theorem wd_1458 : (Cond.code ({ cls := "NumberedSparksModel", name := "parentOf", desc := "(I)I" } : MethodName) prog_11_method_53_code (1 : Nat) (Option.some FieldType.int)) ∈ am_ws := am_t7 18 rfl rfl
theorem wd_1459 : (Cond.methodLink "NumberedSparksLaw" (69 : Nat) ({ cls := "NumberedSparksModel", name := "spark", desc := "(II)I" } : MethodName)) ∈ am_ws := am_t7 19 rfl rfl
theorem wd_1460 : (Cond.instanceMethod ({ cls := "NumberedSparksModel", name := "spark", desc := "(II)I" } : MethodName)) ∈ am_ws := am_t7 20 rfl rfl
theorem wd_1461 : (Cond.selects "NumberedSparksModel" ({ cls := "NumberedSparksModel", name := "spark", desc := "(II)I" } : MethodName) ({ cls := "NumberedSparksModel", name := "spark", desc := "(II)I" } : MethodName)) ∈ am_ws := am_t7 21 rfl rfl
theorem wd_1462 : (Cond.code ({ cls := "NumberedSparksModel", name := "spark", desc := "(II)I" } : MethodName) prog_11_method_55_code (3 : Nat) (Option.some FieldType.int)) ∈ am_ws := am_t7 22 rfl rfl
theorem wd_1463 : (Cond.methodLink "NumberedSparksModel" (333 : Nat) ({ cls := "NumberedSparksModel", name := "lays", desc := "(I)V" } : MethodName)) ∈ am_ws := am_t7 23 rfl rfl
theorem wd_1465 : (Cond.instanceMethod ({ cls := "NumberedSparksModel", name := "lays", desc := "(I)V" } : MethodName)) ∈ am_ws := am_t7 25 rfl rfl
theorem wd_1466 : (Cond.code ({ cls := "NumberedSparksModel", name := "lays", desc := "(I)V" } : MethodName) prog_11_method_47_code (3 : Nat) (Option.none : Option FieldType)) ∈ am_ws := am_t7 26 rfl rfl
theorem wd_1467 : (Cond.methodLink "NumberedSparksModel" (312 : Nat) ({ cls := "NumberedSparksModel", name := "laysRoot", desc := "(I)V" } : MethodName)) ∈ am_ws := am_t7 27 rfl rfl
theorem wd_1469 : (Cond.instanceMethod ({ cls := "NumberedSparksModel", name := "laysRoot", desc := "(I)V" } : MethodName)) ∈ am_ws := am_t7 29 rfl rfl
theorem wd_1470 : (Cond.code ({ cls := "NumberedSparksModel", name := "laysRoot", desc := "(I)V" } : MethodName) prog_11_method_45_code (6 : Nat) (Option.none : Option FieldType)) ∈ am_ws := am_t7 30 rfl rfl
theorem wd_1471 : (Cond.methodLink "NumberedSparksModel" (295 : Nat) ({ cls := "NumberedSparksModel", name := "draw", desc := "(III)I" } : MethodName)) ∈ am_ws := am_t7 31 rfl rfl
theorem wd_1473 : (Cond.instanceMethod ({ cls := "NumberedSparksModel", name := "draw", desc := "(III)I" } : MethodName)) ∈ am_ws := am_t7 33 rfl rfl
theorem wd_1474 : (Cond.code ({ cls := "NumberedSparksModel", name := "draw", desc := "(III)I" } : MethodName) prog_11_method_34_code (4 : Nat) (Option.some FieldType.int)) ∈ am_ws := am_t7 34 rfl rfl
theorem wd_1475 : (Cond.methodLink "NumberedSparksModel" (305 : Nat) ({ cls := "NumberedSparksModel", name := "laysOne", desc := "(III)V" } : MethodName)) ∈ am_ws := am_t7 35 rfl rfl
theorem wd_1477 : (Cond.instanceMethod ({ cls := "NumberedSparksModel", name := "laysOne", desc := "(III)V" } : MethodName)) ∈ am_ws := am_t7 37 rfl rfl
theorem wd_1478 : (Cond.code ({ cls := "NumberedSparksModel", name := "laysOne", desc := "(III)V" } : MethodName) prog_11_method_44_code (7 : Nat) (Option.none : Option FieldType)) ∈ am_ws := am_t7 38 rfl rfl
theorem wd_1479 : (Cond.methodLink "NumberedSparksModel" (286 : Nat) ({ cls := "NumberedSparksModel", name := "edge", desc := "()I" } : MethodName)) ∈ am_ws := am_t7 39 rfl rfl
theorem wd_1481 : (Cond.instanceMethod ({ cls := "NumberedSparksModel", name := "edge", desc := "()I" } : MethodName)) ∈ am_ws := am_t7 41 rfl rfl
theorem wd_1482 : (Cond.code ({ cls := "NumberedSparksModel", name := "edge", desc := "()I" } : MethodName) prog_11_method_40_code (1 : Nat) (Option.some FieldType.int)) ∈ am_ws := am_t7 42 rfl rfl
theorem wd_1483 : (Cond.methodLink "NumberedSparksModel" (299 : Nat) ({ cls := "NumberedSparksModel", name := "isBeyond", desc := "(I)Z" } : MethodName)) ∈ am_ws := am_t7 43 rfl rfl
theorem wd_1485 : (Cond.instanceMethod ({ cls := "NumberedSparksModel", name := "isBeyond", desc := "(I)Z" } : MethodName)) ∈ am_ws := am_t7 45 rfl rfl
theorem wd_1486 : (Cond.code ({ cls := "NumberedSparksModel", name := "isBeyond", desc := "(I)Z" } : MethodName) prog_11_method_43_code (4 : Nat) (Option.some FieldType.boolean)) ∈ am_ws := am_t7 46 rfl rfl
theorem wd_1487 : (Cond.methodLink "NumberedSparksModel" (281 : Nat) ({ cls := "NumberedSparksModel", name := "raw", desc := "(II)I" } : MethodName)) ∈ am_ws := am_t7 47 rfl rfl
theorem wd_1489 : (Cond.instanceMethod ({ cls := "NumberedSparksModel", name := "raw", desc := "(II)I" } : MethodName)) ∈ am_ws := am_t7 49 rfl rfl
theorem wd_1490 : (Cond.code ({ cls := "NumberedSparksModel", name := "raw", desc := "(II)I" } : MethodName) prog_11_method_39_code (4 : Nat) (Option.some FieldType.int)) ∈ am_ws := am_t7 50 rfl rfl
theorem wd_1491 : (Cond.methodLink "NumberedSparksModel" (284 : Nat) ({ cls := "NumberedSparksModel", name := "world", desc := "(I)I" } : MethodName)) ∈ am_ws := am_t7 51 rfl rfl
theorem wd_1493 : (Cond.instanceMethod ({ cls := "NumberedSparksModel", name := "world", desc := "(I)I" } : MethodName)) ∈ am_ws := am_t7 53 rfl rfl
theorem wd_1494 : (Cond.code ({ cls := "NumberedSparksModel", name := "world", desc := "(I)I" } : MethodName) prog_11_method_41_code (2 : Nat) (Option.some FieldType.int)) ∈ am_ws := am_t7 54 rfl rfl
theorem wd_1495 : (Cond.methodLink "NumberedSparksModel" (315 : Nat) ({ cls := "NumberedSparksModel", name := "laysChild", desc := "(I)V" } : MethodName)) ∈ am_ws := am_t7 55 rfl rfl
theorem wd_1497 : (Cond.instanceMethod ({ cls := "NumberedSparksModel", name := "laysChild", desc := "(I)V" } : MethodName)) ∈ am_ws := am_t7 57 rfl rfl
theorem wd_1498 : (Cond.code ({ cls := "NumberedSparksModel", name := "laysChild", desc := "(I)V" } : MethodName) prog_11_method_46_code (3 : Nat) (Option.none : Option FieldType)) ∈ am_ws := am_t7 58 rfl rfl
theorem wd_1499 : (Cond.methodLink "NumberedSparksModel" (309 : Nat) ({ cls := "NumberedSparksModel", name := "placeBy", desc := "(II)I" } : MethodName)) ∈ am_ws := am_t7 59 rfl rfl
theorem wd_1501 : (Cond.instanceMethod ({ cls := "NumberedSparksModel", name := "placeBy", desc := "(II)I" } : MethodName)) ∈ am_ws := am_t7 61 rfl rfl
theorem wd_1502 : (Cond.code ({ cls := "NumberedSparksModel", name := "placeBy", desc := "(II)I" } : MethodName) prog_11_method_42_code (6 : Nat) (Option.some FieldType.int)) ∈ am_ws := am_t7 62 rfl rfl
theorem wd_1503 : (Cond.methodLink "NumberedSparksModel" (289 : Nat) ({ cls := "java/lang/Math", name := "floorMod", desc := "(II)I" } : MethodName)) ∈ am_ws := am_t7 63 rfl rfl
theorem wd_1504 : (Cond.methodLink "NumberedSparksLaw" (74 : Nat) ({ cls := "NumberedSparksModel", name := "place", desc := "(III)I" } : MethodName)) ∈ am_ws := am_t7 64 rfl rfl
theorem wd_1505 : (Cond.instanceMethod ({ cls := "NumberedSparksModel", name := "place", desc := "(III)I" } : MethodName)) ∈ am_ws := am_t7 65 rfl rfl
theorem wd_1506 : (Cond.selects "NumberedSparksModel" ({ cls := "NumberedSparksModel", name := "place", desc := "(III)I" } : MethodName) ({ cls := "NumberedSparksModel", name := "place", desc := "(III)I" } : MethodName)) ∈ am_ws := am_t7 66 rfl rfl
theorem wd_1507 : (Cond.code ({ cls := "NumberedSparksModel", name := "place", desc := "(III)I" } : MethodName) prog_11_method_57_code (4 : Nat) (Option.some FieldType.int)) ∈ am_ws := am_t7 67 rfl rfl
theorem wd_1508 : (Cond.methodLink "NumberedSparksModel" (338 : Nat) ({ cls := "NumberedSparksModel", name := "isTick", desc := "(I)Z" } : MethodName)) ∈ am_ws := am_t7 68 rfl rfl
theorem wd_1510 : (Cond.instanceMethod ({ cls := "NumberedSparksModel", name := "isTick", desc := "(I)Z" } : MethodName)) ∈ am_ws := am_t7 70 rfl rfl
theorem wd_1511 : (Cond.code ({ cls := "NumberedSparksModel", name := "isTick", desc := "(I)Z" } : MethodName) prog_11_method_56_code (2 : Nat) (Option.some FieldType.boolean)) ∈ am_ws := am_t7 71 rfl rfl
theorem wd_1512 : (Cond.constantLong "NumberedSparksModel" (336 : Nat) (30000 : Int64)) ∈ am_ws := am_t7 72 rfl rfl
theorem wd_1513 : (Cond.constantLong "NumberedSparksModel" (341 : Nat) (2 : Int64)) ∈ am_ws := am_t7 73 rfl rfl
theorem wd_1514 : (Cond.methodLink "NumberedSparksLaw" (78 : Nat) ({ cls := "NumberedSparksModel", name := "size", desc := "(II)I" } : MethodName)) ∈ am_ws := am_t7 74 rfl rfl
theorem wd_1515 : (Cond.instanceMethod ({ cls := "NumberedSparksModel", name := "size", desc := "(II)I" } : MethodName)) ∈ am_ws := am_t7 75 rfl rfl
theorem wd_1516 : (Cond.selects "NumberedSparksModel" ({ cls := "NumberedSparksModel", name := "size", desc := "(II)I" } : MethodName) ({ cls := "NumberedSparksModel", name := "size", desc := "(II)I" } : MethodName)) ∈ am_ws := am_t7 76 rfl rfl
theorem wd_1517 : (Cond.code ({ cls := "NumberedSparksModel", name := "size", desc := "(II)I" } : MethodName) prog_11_method_58_code (3 : Nat) (Option.some FieldType.int)) ∈ am_ws := am_t7 77 rfl rfl
theorem wd_1518 : (Cond.methodLink "NumberedSparksModel" (343 : Nat) ({ cls := "java/lang/Math", name := "max", desc := "(II)I" } : MethodName)) ∈ am_ws := am_t7 78 rfl rfl
theorem wd_1519 : (Cond.methodLink "NumberedSparksLaw" (82 : Nat) ({ cls := "NumberedSparksModel", name := "edges", desc := "(I)I" } : MethodName)) ∈ am_ws := am_t7 79 rfl rfl
theorem wd_1520 : (Cond.instanceMethod ({ cls := "NumberedSparksModel", name := "edges", desc := "(I)I" } : MethodName)) ∈ am_ws := am_t7 80 rfl rfl
theorem wd_1521 : (Cond.selects "NumberedSparksModel" ({ cls := "NumberedSparksModel", name := "edges", desc := "(I)I" } : MethodName) ({ cls := "NumberedSparksModel", name := "edges", desc := "(I)I" } : MethodName)) ∈ am_ws := am_t7 81 rfl rfl
theorem wd_1522 : (Cond.code ({ cls := "NumberedSparksModel", name := "edges", desc := "(I)I" } : MethodName) prog_11_method_60_code (4 : Nat) (Option.some FieldType.int)) ∈ am_ws := am_t7 82 rfl rfl
theorem wd_1523 : (Cond.methodLink "NumberedSparksModel" (352 : Nat) ({ cls := "NumberedSparksModel", name := "overAt", desc := "(I)I" } : MethodName)) ∈ am_ws := am_t7 83 rfl rfl
theorem wd_1525 : (Cond.instanceMethod ({ cls := "NumberedSparksModel", name := "overAt", desc := "(I)I" } : MethodName)) ∈ am_ws := am_t7 85 rfl rfl
theorem wd_1526 : (Cond.code ({ cls := "NumberedSparksModel", name := "overAt", desc := "(I)I" } : MethodName) prog_11_method_59_code (4 : Nat) (Option.some FieldType.int)) ∈ am_ws := am_t7 86 rfl rfl
theorem wd_1527 : (Cond.methodLink "NumberedSparksModel" (346 : Nat) ({ cls := "java/lang/Math", name := "floorDiv", desc := "(II)I" } : MethodName)) ∈ am_ws := am_t7 87 rfl rfl
theorem wd_1528 : (Cond.methodLink "NumberedSparksModel" (349 : Nat) ({ cls := "java/lang/Math", name := "abs", desc := "(I)I" } : MethodName)) ∈ am_ws := am_t7 88 rfl rfl
theorem wd_1529 : (Cond.methodLink "NumberedSparksLaw" (196 : Nat) ({ cls := "NumberedSparksModel", name := "over", desc := "(I)I" } : MethodName)) ∈ am_ws := am_t7 89 rfl rfl
theorem wd_1530 : (Cond.instanceMethod ({ cls := "NumberedSparksModel", name := "over", desc := "(I)I" } : MethodName)) ∈ am_ws := am_t7 90 rfl rfl
theorem wd_1531 : (Cond.selects "NumberedSparksModel" ({ cls := "NumberedSparksModel", name := "over", desc := "(I)I" } : MethodName) ({ cls := "NumberedSparksModel", name := "over", desc := "(I)I" } : MethodName)) ∈ am_ws := am_t7 91 rfl rfl
theorem wd_1532 : (Cond.code ({ cls := "NumberedSparksModel", name := "over", desc := "(I)I" } : MethodName) prog_11_method_61_code (3 : Nat) (Option.some FieldType.int)) ∈ am_ws := am_t7 92 rfl rfl
theorem wd_1533 : (Cond.methodLink "NumberedSparksLaw" (156 : Nat) ({ cls := "NumberedSparksModel", name := "cellsOf", desc := "(I)I" } : MethodName)) ∈ am_ws := am_t7 93 rfl rfl
theorem wd_1534 : (Cond.instanceMethod ({ cls := "NumberedSparksModel", name := "cellsOf", desc := "(I)I" } : MethodName)) ∈ am_ws := am_t7 94 rfl rfl
theorem wd_1535 : (Cond.selects "NumberedSparksModel" ({ cls := "NumberedSparksModel", name := "cellsOf", desc := "(I)I" } : MethodName) ({ cls := "NumberedSparksModel", name := "cellsOf", desc := "(I)I" } : MethodName)) ∈ am_ws := am_t7 95 rfl rfl
theorem wd_1536 : (Cond.code ({ cls := "NumberedSparksModel", name := "cellsOf", desc := "(I)I" } : MethodName) prog_11_method_63_code (6 : Nat) (Option.some FieldType.int)) ∈ am_ws := am_t7 96 rfl rfl
theorem wd_1537 : (Cond.methodLink "NumberedSparksModel" (355 : Nat) ({ cls := "NumberedSparksModel", name := "cellBy", desc := "(I)I" } : MethodName)) ∈ am_ws := am_t7 97 rfl rfl
theorem wd_1539 : (Cond.instanceMethod ({ cls := "NumberedSparksModel", name := "cellBy", desc := "(I)I" } : MethodName)) ∈ am_ws := am_t7 99 rfl rfl
theorem wd_1540 : (Cond.code ({ cls := "NumberedSparksModel", name := "cellBy", desc := "(I)I" } : MethodName) prog_11_method_62_code (2 : Nat) (Option.some FieldType.int)) ∈ am_ws := am_t7 100 rfl rfl
theorem wd_1541 : (Cond.methodLink "NumberedSparksLaw" (160 : Nat) ({ cls := "NumberedSparksModel", name := "meets", desc := "(II)I" } : MethodName)) ∈ am_ws := am_t7 101 rfl rfl
theorem wd_1542 : (Cond.instanceMethod ({ cls := "NumberedSparksModel", name := "meets", desc := "(II)I" } : MethodName)) ∈ am_ws := am_t7 102 rfl rfl
theorem wd_1543 : (Cond.selects "NumberedSparksModel" ({ cls := "NumberedSparksModel", name := "meets", desc := "(II)I" } : MethodName) ({ cls := "NumberedSparksModel", name := "meets", desc := "(II)I" } : MethodName)) ∈ am_ws := am_t7 103 rfl rfl
theorem wd_1544 : (Cond.code ({ cls := "NumberedSparksModel", name := "meets", desc := "(II)I" } : MethodName) prog_11_method_64_code (6 : Nat) (Option.some FieldType.int)) ∈ am_ws := am_t7 104 rfl rfl
theorem wd_1545 : (Cond.methodLink "NumberedSparksLaw" (192 : Nat) ({ cls := "NumberedSparksModel", name := "reach", desc := "(III)I" } : MethodName)) ∈ am_ws := am_t7 105 rfl rfl
theorem wd_1546 : (Cond.instanceMethod ({ cls := "NumberedSparksModel", name := "reach", desc := "(III)I" } : MethodName)) ∈ am_ws := am_t7 106 rfl rfl
theorem wd_1547 : (Cond.selects "NumberedSparksModel" ({ cls := "NumberedSparksModel", name := "reach", desc := "(III)I" } : MethodName) ({ cls := "NumberedSparksModel", name := "reach", desc := "(III)I" } : MethodName)) ∈ am_ws := am_t7 107 rfl rfl
theorem wd_1548 : (Cond.code ({ cls := "NumberedSparksModel", name := "reach", desc := "(III)I" } : MethodName) prog_11_method_65_code (6 : Nat) (Option.some FieldType.int)) ∈ am_ws := am_t7 108 rfl rfl
theorem wd_1549 : (Cond.methodLink "NumberedSparksLaw" (188 : Nat) ({ cls := "NumberedSparksModel", name := "kin", desc := "(II)I" } : MethodName)) ∈ am_ws := am_t7 109 rfl rfl
theorem wd_1550 : (Cond.instanceMethod ({ cls := "NumberedSparksModel", name := "kin", desc := "(II)I" } : MethodName)) ∈ am_ws := am_t7 110 rfl rfl
theorem wd_1551 : (Cond.selects "NumberedSparksModel" ({ cls := "NumberedSparksModel", name := "kin", desc := "(II)I" } : MethodName) ({ cls := "NumberedSparksModel", name := "kin", desc := "(II)I" } : MethodName)) ∈ am_ws := am_t7 111 rfl rfl
theorem wd_1552 : (Cond.code ({ cls := "NumberedSparksModel", name := "kin", desc := "(II)I" } : MethodName) prog_11_method_66_code (3 : Nat) (Option.some FieldType.int)) ∈ am_ws := am_t7 112 rfl rfl
theorem wd_1553 : (Cond.methodLink "NumberedSparksLaw" (136 : Nat) ({ cls := "NumberedSparksModel", name := "line", desc := "(II)I" } : MethodName)) ∈ am_ws := am_t7 113 rfl rfl
theorem wd_1554 : (Cond.instanceMethod ({ cls := "NumberedSparksModel", name := "line", desc := "(II)I" } : MethodName)) ∈ am_ws := am_t7 114 rfl rfl
theorem wd_1555 : (Cond.selects "NumberedSparksModel" ({ cls := "NumberedSparksModel", name := "line", desc := "(II)I" } : MethodName) ({ cls := "NumberedSparksModel", name := "line", desc := "(II)I" } : MethodName)) ∈ am_ws := am_t7 115 rfl rfl
theorem wd_1556 : (Cond.code ({ cls := "NumberedSparksModel", name := "line", desc := "(II)I" } : MethodName) prog_11_method_67_code (8 : Nat) (Option.some FieldType.int)) ∈ am_ws := am_t7 116 rfl rfl
theorem wd_1557 : (Cond.methodLink "NumberedSparksModel" (358 : Nat) ({ cls := "NumberedSparksModel", name := "isFrom", desc := "(II)Z" } : MethodName)) ∈ am_ws := am_t7 117 rfl rfl
theorem wd_1558 : (Cond.static ({ cls := "NumberedSparksModel", name := "isFrom", desc := "(II)Z" } : MethodName)) ∈ am_ws := am_t7 118 rfl rfl
theorem wd_1559 : (Cond.code ({ cls := "NumberedSparksModel", name := "isFrom", desc := "(II)Z" } : MethodName) prog_11_method_68_code (3 : Nat) (Option.some FieldType.boolean)) ∈ am_ws := am_t7 119 rfl rfl
theorem wd_1560 : (Cond.methodLink "NumberedSparksLaw" (94 : Nat) ({ cls := "NumberedSparksModel", name := "many", desc := "(II)I" } : MethodName)) ∈ am_ws := am_t7 120 rfl rfl
theorem wd_1561 : (Cond.instanceMethod ({ cls := "NumberedSparksModel", name := "many", desc := "(II)I" } : MethodName)) ∈ am_ws := am_t7 121 rfl rfl
theorem wd_1562 : (Cond.selects "NumberedSparksModel" ({ cls := "NumberedSparksModel", name := "many", desc := "(II)I" } : MethodName) ({ cls := "NumberedSparksModel", name := "many", desc := "(II)I" } : MethodName)) ∈ am_ws := am_t7 122 rfl rfl
theorem wd_1563 : (Cond.code ({ cls := "NumberedSparksModel", name := "many", desc := "(II)I" } : MethodName) prog_11_method_77_code (5 : Nat) (Option.some FieldType.int)) ∈ am_ws := am_t7 123 rfl rfl
theorem wd_1564 : (Cond.constantLong "NumberedSparksModel" (385 : Nat) (-1 : Int64)) ∈ am_ws := am_t7 124 rfl rfl
theorem wd_1565 : (Cond.methodLink "NumberedSparksModel" (377 : Nat) ({ cls := "NumberedSparksModel", name := "gathers", desc := "(I)V" } : MethodName)) ∈ am_ws := am_t7 125 rfl rfl
theorem wd_1567 : (Cond.instanceMethod ({ cls := "NumberedSparksModel", name := "gathers", desc := "(I)V" } : MethodName)) ∈ am_ws := am_t7 127 rfl rfl
theorem wd_1568 : (Cond.code ({ cls := "NumberedSparksModel", name := "gathers", desc := "(I)V" } : MethodName) prog_11_method_74_code (6 : Nat) (Option.none : Option FieldType)) ∈ am_ws := am_t7 128 rfl rfl
theorem wd_1569 : (Cond.methodLink "NumberedSparksModel" (367 : Nat) ({ cls := "NumberedSparksModel", name := "firstGroup", desc := "(II)I" } : MethodName)) ∈ am_ws := am_t7 129 rfl rfl
theorem wd_1571 : (Cond.instanceMethod ({ cls := "NumberedSparksModel", name := "firstGroup", desc := "(II)I" } : MethodName)) ∈ am_ws := am_t7 131 rfl rfl
theorem wd_1572 : (Cond.code ({ cls := "NumberedSparksModel", name := "firstGroup", desc := "(II)I" } : MethodName) prog_11_method_69_code (4 : Nat) (Option.some FieldType.int)) ∈ am_ws := am_t7 132 rfl rfl
theorem wd_1573 : (Cond.methodLink "NumberedSparksModel" (370 : Nat) ({ cls := "NumberedSparksModel", name := "isGroup", desc := "(III)Z" } : MethodName)) ∈ am_ws := am_t7 133 rfl rfl
theorem wd_1575 : (Cond.instanceMethod ({ cls := "NumberedSparksModel", name := "isGroup", desc := "(III)Z" } : MethodName)) ∈ am_ws := am_t7 135 rfl rfl
theorem wd_1576 : (Cond.code ({ cls := "NumberedSparksModel", name := "isGroup", desc := "(III)Z" } : MethodName) prog_11_method_70_code (4 : Nat) (Option.some FieldType.boolean)) ∈ am_ws := am_t7 136 rfl rfl
theorem wd_1577 : (Cond.methodLink "NumberedSparksModel" (374 : Nat) ({ cls := "NumberedSparksModel", name := "comesLine", desc := "(II)V" } : MethodName)) ∈ am_ws := am_t7 137 rfl rfl
theorem wd_1579 : (Cond.instanceMethod ({ cls := "NumberedSparksModel", name := "comesLine", desc := "(II)V" } : MethodName)) ∈ am_ws := am_t7 139 rfl rfl
theorem wd_1580 : (Cond.code ({ cls := "NumberedSparksModel", name := "comesLine", desc := "(II)V" } : MethodName) prog_11_method_72_code (4 : Nat) (Option.none : Option FieldType)) ∈ am_ws := am_t7 140 rfl rfl
theorem wd_1581 : (Cond.methodLink "NumberedSparksModel" (364 : Nat) ({ cls := "NumberedSparksModel", name := "comes", desc := "(II)V" } : MethodName)) ∈ am_ws := am_t7 141 rfl rfl
theorem wd_1583 : (Cond.instanceMethod ({ cls := "NumberedSparksModel", name := "comes", desc := "(II)V" } : MethodName)) ∈ am_ws := am_t7 143 rfl rfl
theorem wd_1584 : (Cond.code ({ cls := "NumberedSparksModel", name := "comes", desc := "(II)V" } : MethodName) prog_11_method_71_code (3 : Nat) (Option.none : Option FieldType)) ∈ am_ws := am_t7 144 rfl rfl
theorem wd_1585 : (Cond.methodLink "NumberedSparksModel" (387 : Nat) ({ cls := "NumberedSparksModel", name := "codeAt", desc := "(I)I" } : MethodName)) ∈ am_ws := am_t7 145 rfl rfl
theorem wd_1587 : (Cond.instanceMethod ({ cls := "NumberedSparksModel", name := "codeAt", desc := "(I)I" } : MethodName)) ∈ am_ws := am_t7 147 rfl rfl
theorem wd_1588 : (Cond.code ({ cls := "NumberedSparksModel", name := "codeAt", desc := "(I)I" } : MethodName) prog_11_method_76_code (2 : Nat) (Option.some FieldType.int)) ∈ am_ws := am_t7 148 rfl rfl
theorem wd_1589 : (Cond.constantLong "NumberedSparksModel" (383 : Nat) (2147483647 : Int64)) ∈ am_ws := am_t7 149 rfl rfl
theorem wd_1590 : (Cond.methodLink "NumberedSparksLaw" (98 : Nat) ({ cls := "NumberedSparksModel", name := "drawn", desc := "(II)I" } : MethodName)) ∈ am_ws := am_t7 150 rfl rfl
theorem wd_1591 : (Cond.instanceMethod ({ cls := "NumberedSparksModel", name := "drawn", desc := "(II)I" } : MethodName)) ∈ am_ws := am_t7 151 rfl rfl
theorem wd_1592 : (Cond.selects "NumberedSparksModel" ({ cls := "NumberedSparksModel", name := "drawn", desc := "(II)I" } : MethodName) ({ cls := "NumberedSparksModel", name := "drawn", desc := "(II)I" } : MethodName)) ∈ am_ws := am_t7 152 rfl rfl
theorem wd_1593 : (Cond.code ({ cls := "NumberedSparksModel", name := "drawn", desc := "(II)I" } : MethodName) prog_11_method_78_code (3 : Nat) (Option.some FieldType.int)) ∈ am_ws := am_t7 153 rfl rfl
theorem wd_1594 : (Cond.methodLink "NumberedSparksModel" (390 : Nat) ({ cls := "NumberedSparksModel", name := "laysFrame", desc := "(I)V" } : MethodName)) ∈ am_ws := am_t7 154 rfl rfl
theorem wd_1596 : (Cond.instanceMethod ({ cls := "NumberedSparksModel", name := "laysFrame", desc := "(I)V" } : MethodName)) ∈ am_ws := am_t7 156 rfl rfl
theorem wd_1597 : (Cond.code ({ cls := "NumberedSparksModel", name := "laysFrame", desc := "(I)V" } : MethodName) prog_11_method_75_code (2 : Nat) (Option.none : Option FieldType)) ∈ am_ws := am_t7 157 rfl rfl
theorem wd_1598 : (Cond.methodLink "NumberedSparksModel" (380 : Nat) ({ cls := "NumberedSparksModel", name := "sorts", desc := "()V" } : MethodName)) ∈ am_ws := am_t7 158 rfl rfl
theorem wd_1600 : (Cond.instanceMethod ({ cls := "NumberedSparksModel", name := "sorts", desc := "()V" } : MethodName)) ∈ am_ws := am_t7 160 rfl rfl
theorem wd_1601 : (Cond.code ({ cls := "NumberedSparksModel", name := "sorts", desc := "()V" } : MethodName) prog_11_method_73_code (6 : Nat) (Option.none : Option FieldType)) ∈ am_ws := am_t7 161 rfl rfl
theorem wd_1602 : (Cond.methodLink "NumberedSparksLaw" (103 : Nat) ({ cls := "NumberedSparksModel", name := "digest", desc := "(I)J" } : MethodName)) ∈ am_ws := am_t7 162 rfl rfl
theorem wd_1603 : (Cond.instanceMethod ({ cls := "NumberedSparksModel", name := "digest", desc := "(I)J" } : MethodName)) ∈ am_ws := am_t7 163 rfl rfl
theorem wd_1604 : (Cond.selects "NumberedSparksModel" ({ cls := "NumberedSparksModel", name := "digest", desc := "(I)J" } : MethodName) ({ cls := "NumberedSparksModel", name := "digest", desc := "(I)J" } : MethodName)) ∈ am_ws := am_t7 164 rfl rfl
theorem wd_1605 : (Cond.code ({ cls := "NumberedSparksModel", name := "digest", desc := "(I)J" } : MethodName) prog_11_method_80_code (6 : Nat) (Option.some FieldType.long)) ∈ am_ws := am_t7 165 rfl rfl
theorem wd_1606 : (Cond.constantLong "NumberedSparksModel" (393 : Nat) (17 : Int64)) ∈ am_ws := am_t7 166 rfl rfl
theorem wd_1607 : (Cond.constantLong "NumberedSparksModel" (395 : Nat) (31 : Int64)) ∈ am_ws := am_t7 167 rfl rfl
theorem wd_1608 : (Cond.methodLink "NumberedSparksLaw" (107 : Nat) ({ cls := "NumberedSparksModel", name := "inColumn", desc := "(III)I" } : MethodName)) ∈ am_ws := am_t7 168 rfl rfl
theorem wd_1609 : (Cond.instanceMethod ({ cls := "NumberedSparksModel", name := "inColumn", desc := "(III)I" } : MethodName)) ∈ am_ws := am_t7 169 rfl rfl
theorem wd_1610 : (Cond.selects "NumberedSparksModel" ({ cls := "NumberedSparksModel", name := "inColumn", desc := "(III)I" } : MethodName) ({ cls := "NumberedSparksModel", name := "inColumn", desc := "(III)I" } : MethodName)) ∈ am_ws := am_t7 170 rfl rfl
theorem wd_1611 : (Cond.code ({ cls := "NumberedSparksModel", name := "inColumn", desc := "(III)I" } : MethodName) prog_11_method_83_code (6 : Nat) (Option.some FieldType.int)) ∈ am_ws := am_t7 171 rfl rfl
theorem wd_1612 : (Cond.methodLink "NumberedSparksModel" (397 : Nat) ({ cls := "NumberedSparksModel", name := "isColumn", desc := "(II)Z" } : MethodName)) ∈ am_ws := am_t7 172 rfl rfl
theorem wd_1614 : (Cond.instanceMethod ({ cls := "NumberedSparksModel", name := "isColumn", desc := "(II)Z" } : MethodName)) ∈ am_ws := am_t7 174 rfl rfl
theorem wd_1615 : (Cond.code ({ cls := "NumberedSparksModel", name := "isColumn", desc := "(II)Z" } : MethodName) prog_11_method_81_code (3 : Nat) (Option.some FieldType.boolean)) ∈ am_ws := am_t7 175 rfl rfl
theorem wd_1616 : (Cond.methodLink "NumberedSparksModel" (400 : Nat) ({ cls := "NumberedSparksModel", name := "laysColumns", desc := "(I)V" } : MethodName)) ∈ am_ws := am_t7 176 rfl rfl
theorem wd_1618 : (Cond.instanceMethod ({ cls := "NumberedSparksModel", name := "laysColumns", desc := "(I)V" } : MethodName)) ∈ am_ws := am_t7 178 rfl rfl
theorem wd_1619 : (Cond.code ({ cls := "NumberedSparksModel", name := "laysColumns", desc := "(I)V" } : MethodName) prog_11_method_82_code (3 : Nat) (Option.none : Option FieldType)) ∈ am_ws := am_t7 179 rfl rfl
theorem wd_1620 : (Cond.methodLink "NumberedSparksLaw" (111 : Nat) ({ cls := "NumberedSparksModel", name := "top", desc := "(III)I" } : MethodName)) ∈ am_ws := am_t7 180 rfl rfl
theorem wd_1621 : (Cond.instanceMethod ({ cls := "NumberedSparksModel", name := "top", desc := "(III)I" } : MethodName)) ∈ am_ws := am_t7 181 rfl rfl
theorem wd_1622 : (Cond.selects "NumberedSparksModel" ({ cls := "NumberedSparksModel", name := "top", desc := "(III)I" } : MethodName) ({ cls := "NumberedSparksModel", name := "top", desc := "(III)I" } : MethodName)) ∈ am_ws := am_t7 182 rfl rfl
theorem wd_1623 : (Cond.code ({ cls := "NumberedSparksModel", name := "top", desc := "(III)I" } : MethodName) prog_11_method_85_code (5 : Nat) (Option.some FieldType.int)) ∈ am_ws := am_t7 183 rfl rfl
theorem wd_1624 : (Cond.methodLink "NumberedSparksModel" (403 : Nat) ({ cls := "NumberedSparksModel", name := "topOf", desc := "(II)I" } : MethodName)) ∈ am_ws := am_t7 184 rfl rfl
theorem wd_1626 : (Cond.instanceMethod ({ cls := "NumberedSparksModel", name := "topOf", desc := "(II)I" } : MethodName)) ∈ am_ws := am_t7 186 rfl rfl
theorem wd_1627 : (Cond.code ({ cls := "NumberedSparksModel", name := "topOf", desc := "(II)I" } : MethodName) prog_11_method_84_code (5 : Nat) (Option.some FieldType.int)) ∈ am_ws := am_t7 187 rfl rfl
theorem wd_1628 : (Cond.methodLink "NumberedSparksLaw" (115 : Nat) ({ cls := "NumberedSparksModel", name := "fullest", desc := "(II)I" } : MethodName)) ∈ am_ws := am_t7 188 rfl rfl
theorem wd_1629 : (Cond.instanceMethod ({ cls := "NumberedSparksModel", name := "fullest", desc := "(II)I" } : MethodName)) ∈ am_ws := am_t7 189 rfl rfl
theorem wd_1630 : (Cond.selects "NumberedSparksModel" ({ cls := "NumberedSparksModel", name := "fullest", desc := "(II)I" } : MethodName) ({ cls := "NumberedSparksModel", name := "fullest", desc := "(II)I" } : MethodName)) ∈ am_ws := am_t7 190 rfl rfl
theorem wd_1631 : (Cond.code ({ cls := "NumberedSparksModel", name := "fullest", desc := "(II)I" } : MethodName) prog_11_method_86_code (5 : Nat) (Option.some FieldType.int)) ∈ am_ws := am_t7 191 rfl rfl
theorem wd_1632 : (Cond.methodLink "NumberedSparksLaw" (120 : Nat) ({ cls := "NumberedSparksModel", name := "nearest", desc := "(IIII)I" } : MethodName)) ∈ am_ws := am_t7 192 rfl rfl
theorem wd_1633 : (Cond.instanceMethod ({ cls := "NumberedSparksModel", name := "nearest", desc := "(IIII)I" } : MethodName)) ∈ am_ws := am_t7 193 rfl rfl
theorem wd_1634 : (Cond.selects "NumberedSparksModel" ({ cls := "NumberedSparksModel", name := "nearest", desc := "(IIII)I" } : MethodName) ({ cls := "NumberedSparksModel", name := "nearest", desc := "(IIII)I" } : MethodName)) ∈ am_ws := am_t7 194 rfl rfl
theorem wd_1635 : (Cond.code ({ cls := "NumberedSparksModel", name := "nearest", desc := "(IIII)I" } : MethodName) prog_11_method_89_code (12 : Nat) (Option.some FieldType.int)) ∈ am_ws := am_t7 195 rfl rfl
theorem wd_1636 : (Cond.methodLink "NumberedSparksModel" (408 : Nat) ({ cls := "NumberedSparksModel", name := "isCell", desc := "(III)Z" } : MethodName)) ∈ am_ws := am_t7 196 rfl rfl
theorem wd_1638 : (Cond.instanceMethod ({ cls := "NumberedSparksModel", name := "isCell", desc := "(III)Z" } : MethodName)) ∈ am_ws := am_t7 198 rfl rfl
theorem wd_1639 : (Cond.code ({ cls := "NumberedSparksModel", name := "isCell", desc := "(III)Z" } : MethodName) prog_11_method_87_code (4 : Nat) (Option.some FieldType.boolean)) ∈ am_ws := am_t7 199 rfl rfl
theorem wd_1640 : (Cond.methodLink "NumberedSparksModel" (411 : Nat) ({ cls := "NumberedSparksModel", name := "squares", desc := "(IIIII)J" } : MethodName)) ∈ am_ws := am_t7 200 rfl rfl
theorem wd_1642 : (Cond.instanceMethod ({ cls := "NumberedSparksModel", name := "squares", desc := "(IIIII)J" } : MethodName)) ∈ am_ws := am_t7 202 rfl rfl
theorem wd_1643 : (Cond.code ({ cls := "NumberedSparksModel", name := "squares", desc := "(IIIII)J" } : MethodName) prog_11_method_88_code (12 : Nat) (Option.some FieldType.long)) ∈ am_ws := am_t7 203 rfl rfl
theorem wd_1644 : (Cond.constantLong "NumberedSparksModel" (406 : Nat) (8 : Int64)) ∈ am_ws := am_t7 204 rfl rfl
theorem wd_1645 : (Cond.methodLink "NumberedSparksLaw" (180 : Nat) ({ cls := "NumberedSparksModel", name := "within", desc := "(IIIII)I" } : MethodName)) ∈ am_ws := am_t7 205 rfl rfl
theorem wd_1646 : (Cond.instanceMethod ({ cls := "NumberedSparksModel", name := "within", desc := "(IIIII)I" } : MethodName)) ∈ am_ws := am_t7 206 rfl rfl
theorem wd_1647 : (Cond.selects "NumberedSparksModel" ({ cls := "NumberedSparksModel", name := "within", desc := "(IIIII)I" } : MethodName) ({ cls := "NumberedSparksModel", name := "within", desc := "(IIIII)I" } : MethodName)) ∈ am_ws := am_t7 207 rfl rfl
theorem wd_1648 : (Cond.code ({ cls := "NumberedSparksModel", name := "within", desc := "(IIIII)I" } : MethodName) prog_11_method_90_code (8 : Nat) (Option.some FieldType.int)) ∈ am_ws := am_t7 208 rfl rfl
theorem wd_1649 : (Cond.constantLong "NumberedSparksModel" (415 : Nat) (600 : Int64)) ∈ am_ws := am_t7 209 rfl rfl
theorem wd_1650 : (Cond.methodLink "NumberedSparksLaw" (124 : Nat) ({ cls := "NumberedSparksModel", name := "twos", desc := "(I)J" } : MethodName)) ∈ am_ws := am_t7 210 rfl rfl
theorem wd_1651 : (Cond.instanceMethod ({ cls := "NumberedSparksModel", name := "twos", desc := "(I)J" } : MethodName)) ∈ am_ws := am_t7 211 rfl rfl
theorem wd_1652 : (Cond.selects "NumberedSparksModel" ({ cls := "NumberedSparksModel", name := "twos", desc := "(I)J" } : MethodName) ({ cls := "NumberedSparksModel", name := "twos", desc := "(I)J" } : MethodName)) ∈ am_ws := am_t7 212 rfl rfl
theorem wd_1653 : (Cond.code ({ cls := "NumberedSparksModel", name := "twos", desc := "(I)J" } : MethodName) prog_11_method_92_code (5 : Nat) (Option.some FieldType.long)) ∈ am_ws := am_t7 213 rfl rfl
theorem wd_1654 : (Cond.constantLong "NumberedSparksModel" (420 : Nat) (-2 : Int64)) ∈ am_ws := am_t7 214 rfl rfl
theorem wd_1655 : (Cond.methodLink "NumberedSparksModel" (422 : Nat) ({ cls := "NumberedSparksModel", name := "laysHeaps", desc := "(I)V" } : MethodName)) ∈ am_ws := am_t7 215 rfl rfl
theorem wd_1657 : (Cond.instanceMethod ({ cls := "NumberedSparksModel", name := "laysHeaps", desc := "(I)V" } : MethodName)) ∈ am_ws := am_t7 217 rfl rfl
theorem wd_1658 : (Cond.code ({ cls := "NumberedSparksModel", name := "laysHeaps", desc := "(I)V" } : MethodName) prog_11_method_91_code (3 : Nat) (Option.none : Option FieldType)) ∈ am_ws := am_t7 218 rfl rfl
theorem wd_1659 : (Cond.methodLink "NumberedSparksModel" (417 : Nat) ({ cls := "NumberedSparksModel", name := "placeAt", desc := "(III)I" } : MethodName)) ∈ am_ws := am_t7 219 rfl rfl
theorem wd_1661 : (Cond.instanceMethod ({ cls := "NumberedSparksModel", name := "placeAt", desc := "(III)I" } : MethodName)) ∈ am_ws := am_t7 221 rfl rfl
theorem wd_1662 : (Cond.code ({ cls := "NumberedSparksModel", name := "placeAt", desc := "(III)I" } : MethodName) prog_11_method_79_code (4 : Nat) (Option.some FieldType.int)) ∈ am_ws := am_t7 222 rfl rfl
theorem wd_1663 : (Cond.methodLink "NumberedSparksLaw" (128 : Nat) ({ cls := "NumberedSparksModel", name := "firstIn", desc := "(III)I" } : MethodName)) ∈ am_ws := am_t7 223 rfl rfl
theorem wd_1664 : (Cond.instanceMethod ({ cls := "NumberedSparksModel", name := "firstIn", desc := "(III)I" } : MethodName)) ∈ am_ws := am_t7 224 rfl rfl
theorem wd_1665 : (Cond.selects "NumberedSparksModel" ({ cls := "NumberedSparksModel", name := "firstIn", desc := "(III)I" } : MethodName) ({ cls := "NumberedSparksModel", name := "firstIn", desc := "(III)I" } : MethodName)) ∈ am_ws := am_t7 225 rfl rfl
theorem wd_1666 : (Cond.code ({ cls := "NumberedSparksModel", name := "firstIn", desc := "(III)I" } : MethodName) prog_11_method_93_code (5 : Nat) (Option.some FieldType.int)) ∈ am_ws := am_t7 226 rfl rfl
theorem wd_1667 : (Cond.methodLink "NumberedSparksModel" (425 : Nat) ({ cls := "NumberedSparksModel", name := "inColumn", desc := "(III)I" } : MethodName)) ∈ am_ws := am_t7 227 rfl rfl
theorem wd_1668 : (Cond.methodLink "NumberedSparksLaw" (132 : Nat) ({ cls := "NumberedSparksModel", name := "peak", desc := "(III)I" } : MethodName)) ∈ am_ws := am_t7 228 rfl rfl
theorem wd_1669 : (Cond.instanceMethod ({ cls := "NumberedSparksModel", name := "peak", desc := "(III)I" } : MethodName)) ∈ am_ws := am_t7 229 rfl rfl
theorem wd_1670 : (Cond.selects "NumberedSparksModel" ({ cls := "NumberedSparksModel", name := "peak", desc := "(III)I" } : MethodName) ({ cls := "NumberedSparksModel", name := "peak", desc := "(III)I" } : MethodName)) ∈ am_ws := am_t7 230 rfl rfl
theorem wd_1671 : (Cond.code ({ cls := "NumberedSparksModel", name := "peak", desc := "(III)I" } : MethodName) prog_11_method_94_code (7 : Nat) (Option.some FieldType.int)) ∈ am_ws := am_t7 231 rfl rfl
theorem wd_1672 : (Cond.constantLong "NumberedSparksModel" (428 : Nat) (30001 : Int64)) ∈ am_ws := am_t7 232 rfl rfl
theorem wd_1673 : (Cond.constantLong "NumberedSparksModel" (430 : Nat) (60 : Int64)) ∈ am_ws := am_t7 233 rfl rfl
theorem wd_1674 : (Cond.methodLink "NumberedSparksLaw" (140 : Nat) ({ cls := "NumberedSparksModel", name := "box", desc := "(II)I" } : MethodName)) ∈ am_ws := am_t7 234 rfl rfl
theorem wd_1675 : (Cond.instanceMethod ({ cls := "NumberedSparksModel", name := "box", desc := "(II)I" } : MethodName)) ∈ am_ws := am_t7 235 rfl rfl
theorem wd_1676 : (Cond.selects "NumberedSparksModel" ({ cls := "NumberedSparksModel", name := "box", desc := "(II)I" } : MethodName) ({ cls := "NumberedSparksModel", name := "box", desc := "(II)I" } : MethodName)) ∈ am_ws := am_t7 236 rfl rfl
theorem wd_1677 : (Cond.code ({ cls := "NumberedSparksModel", name := "box", desc := "(II)I" } : MethodName) prog_11_method_95_code (6 : Nat) (Option.some FieldType.int)) ∈ am_ws := am_t7 237 rfl rfl
theorem wd_1678 : (Cond.constantLong "NumberedSparksModel" (432 : Nat) (5 : Int64)) ∈ am_ws := am_t7 238 rfl rfl
theorem wd_1679 : (Cond.methodLink "NumberedSparksLaw" (144 : Nat) ({ cls := "NumberedSparksModel", name := "middle", desc := "(II)I" } : MethodName)) ∈ am_ws := am_t7 239 rfl rfl
theorem wd_1680 : (Cond.instanceMethod ({ cls := "NumberedSparksModel", name := "middle", desc := "(II)I" } : MethodName)) ∈ am_ws := am_t8 0 rfl rfl
theorem wd_1681 : (Cond.selects "NumberedSparksModel" ({ cls := "NumberedSparksModel", name := "middle", desc := "(II)I" } : MethodName) ({ cls := "NumberedSparksModel", name := "middle", desc := "(II)I" } : MethodName)) ∈ am_ws := am_t8 1 rfl rfl
theorem wd_1682 : (Cond.code ({ cls := "NumberedSparksModel", name := "middle", desc := "(II)I" } : MethodName) prog_11_method_96_code (6 : Nat) (Option.some FieldType.int)) ∈ am_ws := am_t8 2 rfl rfl
theorem wd_1683 : (Cond.methodLink "NumberedSparksLaw" (176 : Nat) ({ cls := "NumberedSparksModel", name := "both", desc := "(II)I" } : MethodName)) ∈ am_ws := am_t8 3 rfl rfl
theorem wd_1684 : (Cond.instanceMethod ({ cls := "NumberedSparksModel", name := "both", desc := "(II)I" } : MethodName)) ∈ am_ws := am_t8 4 rfl rfl
theorem wd_1685 : (Cond.selects "NumberedSparksModel" ({ cls := "NumberedSparksModel", name := "both", desc := "(II)I" } : MethodName) ({ cls := "NumberedSparksModel", name := "both", desc := "(II)I" } : MethodName)) ∈ am_ws := am_t8 5 rfl rfl
theorem wd_1686 : (Cond.code ({ cls := "NumberedSparksModel", name := "both", desc := "(II)I" } : MethodName) prog_11_method_97_code (5 : Nat) (Option.some FieldType.int)) ∈ am_ws := am_t8 6 rfl rfl
theorem wd_1687 : (Cond.methodLink "NumberedSparksLaw" (184 : Nat) ({ cls := "NumberedSparksModel", name := "ofAge", desc := "(III)I" } : MethodName)) ∈ am_ws := am_t8 7 rfl rfl
theorem wd_1688 : (Cond.instanceMethod ({ cls := "NumberedSparksModel", name := "ofAge", desc := "(III)I" } : MethodName)) ∈ am_ws := am_t8 8 rfl rfl
theorem wd_1689 : (Cond.selects "NumberedSparksModel" ({ cls := "NumberedSparksModel", name := "ofAge", desc := "(III)I" } : MethodName) ({ cls := "NumberedSparksModel", name := "ofAge", desc := "(III)I" } : MethodName)) ∈ am_ws := am_t8 9 rfl rfl
theorem wd_1690 : (Cond.code ({ cls := "NumberedSparksModel", name := "ofAge", desc := "(III)I" } : MethodName) prog_11_method_98_code (10 : Nat) (Option.some FieldType.int)) ∈ am_ws := am_t8 10 rfl rfl
theorem wd_1691 : (Cond.methodLink "NumberedSparksLaw" (200 : Nat) ({ cls := "NumberedSparksModel", name := "flux", desc := "(IIII)I" } : MethodName)) ∈ am_ws := am_t8 11 rfl rfl
theorem wd_1692 : (Cond.instanceMethod ({ cls := "NumberedSparksModel", name := "flux", desc := "(IIII)I" } : MethodName)) ∈ am_ws := am_t8 12 rfl rfl
theorem wd_1693 : (Cond.selects "NumberedSparksModel" ({ cls := "NumberedSparksModel", name := "flux", desc := "(IIII)I" } : MethodName) ({ cls := "NumberedSparksModel", name := "flux", desc := "(IIII)I" } : MethodName)) ∈ am_ws := am_t8 13 rfl rfl
theorem wd_1694 : (Cond.code ({ cls := "NumberedSparksModel", name := "flux", desc := "(IIII)I" } : MethodName) prog_11_method_99_code (10 : Nat) (Option.some FieldType.int)) ∈ am_ws := am_t8 14 rfl rfl
theorem wd_1695 : (Cond.methodLink "NumberedSparksLaw" (216 : Nat) ({ cls := "NumberedSparksModel", name := "colours", desc := "(II)I" } : MethodName)) ∈ am_ws := am_t8 15 rfl rfl
theorem wd_1696 : (Cond.instanceMethod ({ cls := "NumberedSparksModel", name := "colours", desc := "(II)I" } : MethodName)) ∈ am_ws := am_t8 16 rfl rfl
theorem wd_1697 : (Cond.selects "NumberedSparksModel" ({ cls := "NumberedSparksModel", name := "colours", desc := "(II)I" } : MethodName) ({ cls := "NumberedSparksModel", name := "colours", desc := "(II)I" } : MethodName)) ∈ am_ws := am_t8 17 rfl rfl
theorem wd_1698 : (Cond.code ({ cls := "NumberedSparksModel", name := "colours", desc := "(II)I" } : MethodName) prog_11_method_100_code (5 : Nat) (Option.some FieldType.int)) ∈ am_ws := am_t8 18 rfl rfl
theorem wd_1699 : (Cond.methodLink "NumberedSparksLaw" (220 : Nat) ({ cls := "NumberedSparksModel", name := "columns", desc := "(I)I" } : MethodName)) ∈ am_ws := am_t8 19 rfl rfl
theorem wd_1700 : (Cond.instanceMethod ({ cls := "NumberedSparksModel", name := "columns", desc := "(I)I" } : MethodName)) ∈ am_ws := am_t8 20 rfl rfl
theorem wd_1701 : (Cond.selects "NumberedSparksModel" ({ cls := "NumberedSparksModel", name := "columns", desc := "(I)I" } : MethodName) ({ cls := "NumberedSparksModel", name := "columns", desc := "(I)I" } : MethodName)) ∈ am_ws := am_t8 21 rfl rfl
theorem wd_1702 : (Cond.code ({ cls := "NumberedSparksModel", name := "columns", desc := "(I)I" } : MethodName) prog_11_method_101_code (4 : Nat) (Option.some FieldType.int)) ∈ am_ws := am_t8 22 rfl rfl
theorem wd_1703 : (Cond.methodLink "NumberedSparksLaw" (224 : Nat) ({ cls := "NumberedSparksModel", name := "below", desc := "(IIII)I" } : MethodName)) ∈ am_ws := am_t8 23 rfl rfl
theorem wd_1704 : (Cond.instanceMethod ({ cls := "NumberedSparksModel", name := "below", desc := "(IIII)I" } : MethodName)) ∈ am_ws := am_t8 24 rfl rfl
theorem wd_1705 : (Cond.selects "NumberedSparksModel" ({ cls := "NumberedSparksModel", name := "below", desc := "(IIII)I" } : MethodName) ({ cls := "NumberedSparksModel", name := "below", desc := "(IIII)I" } : MethodName)) ∈ am_ws := am_t8 25 rfl rfl
theorem wd_1706 : (Cond.code ({ cls := "NumberedSparksModel", name := "below", desc := "(IIII)I" } : MethodName) prog_11_method_102_code (7 : Nat) (Option.some FieldType.int)) ∈ am_ws := am_t8 26 rfl rfl
theorem wd_1707 : (Cond.methodLink "NumberedSparksLaw" (236 : Nat) ({ cls := "NumberedSparksModel", name := "twins", desc := "(I)I" } : MethodName)) ∈ am_ws := am_t8 27 rfl rfl
theorem wd_1708 : (Cond.instanceMethod ({ cls := "NumberedSparksModel", name := "twins", desc := "(I)I" } : MethodName)) ∈ am_ws := am_t8 28 rfl rfl
theorem wd_1709 : (Cond.selects "NumberedSparksModel" ({ cls := "NumberedSparksModel", name := "twins", desc := "(I)I" } : MethodName) ({ cls := "NumberedSparksModel", name := "twins", desc := "(I)I" } : MethodName)) ∈ am_ws := am_t8 29 rfl rfl
theorem wd_1710 : (Cond.code ({ cls := "NumberedSparksModel", name := "twins", desc := "(I)I" } : MethodName) prog_11_method_103_code (8 : Nat) (Option.some FieldType.int)) ∈ am_ws := am_t8 30 rfl rfl
theorem wd_1711 : (Cond.methodLink "NumberedSparksLaw" (86 : Nat) ({ cls := "NumberedSparksModel", name := "births", desc := "(III)I" } : MethodName)) ∈ am_ws := am_t8 31 rfl rfl
theorem wd_1712 : (Cond.instanceMethod ({ cls := "NumberedSparksModel", name := "births", desc := "(III)I" } : MethodName)) ∈ am_ws := am_t8 32 rfl rfl
theorem wd_1713 : (Cond.selects "NumberedSparksModel" ({ cls := "NumberedSparksModel", name := "births", desc := "(III)I" } : MethodName) ({ cls := "NumberedSparksModel", name := "births", desc := "(III)I" } : MethodName)) ∈ am_ws := am_t8 33 rfl rfl
theorem wd_1714 : (Cond.code ({ cls := "NumberedSparksModel", name := "births", desc := "(III)I" } : MethodName) prog_11_method_106_code (6 : Nat) (Option.some FieldType.int)) ∈ am_ws := am_t8 34 rfl rfl
theorem wd_1715 : (Cond.methodLink "NumberedSparksModel" (434 : Nat) ({ cls := "NumberedSparksModel", name := "isSpan", desc := "(III)Z" } : MethodName)) ∈ am_ws := am_t8 35 rfl rfl
theorem wd_1717 : (Cond.instanceMethod ({ cls := "NumberedSparksModel", name := "isSpan", desc := "(III)Z" } : MethodName)) ∈ am_ws := am_t8 37 rfl rfl
theorem wd_1718 : (Cond.code ({ cls := "NumberedSparksModel", name := "isSpan", desc := "(III)Z" } : MethodName) prog_11_method_104_code (4 : Nat) (Option.some FieldType.boolean)) ∈ am_ws := am_t8 38 rfl rfl
theorem wd_1719 : (Cond.methodLink "NumberedSparksModel" (437 : Nat) ({ cls := "NumberedSparksModel", name := "bornOf", desc := "(I)I" } : MethodName)) ∈ am_ws := am_t8 39 rfl rfl
theorem wd_1721 : (Cond.instanceMethod ({ cls := "NumberedSparksModel", name := "bornOf", desc := "(I)I" } : MethodName)) ∈ am_ws := am_t8 41 rfl rfl
theorem wd_1722 : (Cond.code ({ cls := "NumberedSparksModel", name := "bornOf", desc := "(I)I" } : MethodName) prog_11_method_105_code (4 : Nat) (Option.some FieldType.int)) ∈ am_ws := am_t8 42 rfl rfl
theorem wd_1723 : (Cond.methodLink "NumberedSparksLaw" (90 : Nat) ({ cls := "NumberedSparksModel", name := "endings", desc := "(II)I" } : MethodName)) ∈ am_ws := am_t8 43 rfl rfl
theorem wd_1724 : (Cond.instanceMethod ({ cls := "NumberedSparksModel", name := "endings", desc := "(II)I" } : MethodName)) ∈ am_ws := am_t8 44 rfl rfl
theorem wd_1725 : (Cond.selects "NumberedSparksModel" ({ cls := "NumberedSparksModel", name := "endings", desc := "(II)I" } : MethodName) ({ cls := "NumberedSparksModel", name := "endings", desc := "(II)I" } : MethodName)) ∈ am_ws := am_t8 45 rfl rfl
theorem wd_1726 : (Cond.code ({ cls := "NumberedSparksModel", name := "endings", desc := "(II)I" } : MethodName) prog_11_method_107_code (8 : Nat) (Option.some FieldType.int)) ∈ am_ws := am_t8 46 rfl rfl
theorem wd_1727 : (Cond.methodLink "NumberedSparksModel" (440 : Nat) ({ cls := "NumberedSparksModel", name := "endingsOf", desc := "(III)I" } : MethodName)) ∈ am_ws := am_t8 47 rfl rfl
theorem wd_1729 : (Cond.instanceMethod ({ cls := "NumberedSparksModel", name := "endingsOf", desc := "(III)I" } : MethodName)) ∈ am_ws := am_t8 49 rfl rfl
theorem wd_1730 : (Cond.code ({ cls := "NumberedSparksModel", name := "endingsOf", desc := "(III)I" } : MethodName) prog_11_method_108_code (6 : Nat) (Option.some FieldType.int)) ∈ am_ws := am_t8 50 rfl rfl
theorem wd_1731 : (Cond.methodLink "NumberedSparksLaw" (164 : Nat) ({ cls := "NumberedSparksModel", name := "bornAs", desc := "(II)I" } : MethodName)) ∈ am_ws := am_t8 51 rfl rfl
theorem wd_1732 : (Cond.instanceMethod ({ cls := "NumberedSparksModel", name := "bornAs", desc := "(II)I" } : MethodName)) ∈ am_ws := am_t8 52 rfl rfl
theorem wd_1733 : (Cond.selects "NumberedSparksModel" ({ cls := "NumberedSparksModel", name := "bornAs", desc := "(II)I" } : MethodName) ({ cls := "NumberedSparksModel", name := "bornAs", desc := "(II)I" } : MethodName)) ∈ am_ws := am_t8 53 rfl rfl
theorem wd_1734 : (Cond.code ({ cls := "NumberedSparksModel", name := "bornAs", desc := "(II)I" } : MethodName) prog_11_method_111_code (6 : Nat) (Option.some FieldType.int)) ∈ am_ws := am_t8 54 rfl rfl
theorem wd_1735 : (Cond.methodLink "NumberedSparksModel" (446 : Nat) ({ cls := "NumberedSparksModel", name := "lastBirth", desc := "(I)I" } : MethodName)) ∈ am_ws := am_t8 55 rfl rfl
theorem wd_1737 : (Cond.instanceMethod ({ cls := "NumberedSparksModel", name := "lastBirth", desc := "(I)I" } : MethodName)) ∈ am_ws := am_t8 57 rfl rfl
theorem wd_1738 : (Cond.code ({ cls := "NumberedSparksModel", name := "lastBirth", desc := "(I)I" } : MethodName) prog_11_method_110_code (2 : Nat) (Option.some FieldType.int)) ∈ am_ws := am_t8 58 rfl rfl
theorem wd_1739 : (Cond.methodLink "NumberedSparksModel" (449 : Nat) ({ cls := "NumberedSparksModel", name := "bornIn", desc := "(IIIZ)I" } : MethodName)) ∈ am_ws := am_t8 59 rfl rfl
theorem wd_1741 : (Cond.instanceMethod ({ cls := "NumberedSparksModel", name := "bornIn", desc := "(IIIZ)I" } : MethodName)) ∈ am_ws := am_t8 61 rfl rfl
theorem wd_1742 : (Cond.code ({ cls := "NumberedSparksModel", name := "bornIn", desc := "(IIIZ)I" } : MethodName) prog_11_method_109_code (12 : Nat) (Option.some FieldType.int)) ∈ am_ws := am_t8 62 rfl rfl
theorem wd_1743 : (Cond.methodLink "NumberedSparksLaw" (168 : Nat) ({ cls := "NumberedSparksModel", name := "latest", desc := "(II)I" } : MethodName)) ∈ am_ws := am_t8 63 rfl rfl
theorem wd_1744 : (Cond.instanceMethod ({ cls := "NumberedSparksModel", name := "latest", desc := "(II)I" } : MethodName)) ∈ am_ws := am_t8 64 rfl rfl
theorem wd_1745 : (Cond.selects "NumberedSparksModel" ({ cls := "NumberedSparksModel", name := "latest", desc := "(II)I" } : MethodName) ({ cls := "NumberedSparksModel", name := "latest", desc := "(II)I" } : MethodName)) ∈ am_ws := am_t8 65 rfl rfl
theorem wd_1746 : (Cond.code ({ cls := "NumberedSparksModel", name := "latest", desc := "(II)I" } : MethodName) prog_11_method_112_code (5 : Nat) (Option.some FieldType.int)) ∈ am_ws := am_t8 66 rfl rfl
theorem wd_1747 : (Cond.methodLink "NumberedSparksLaw" (228 : Nat) ({ cls := "NumberedSparksModel", name := "next", desc := "(II)I" } : MethodName)) ∈ am_ws := am_t8 67 rfl rfl
theorem wd_1748 : (Cond.instanceMethod ({ cls := "NumberedSparksModel", name := "next", desc := "(II)I" } : MethodName)) ∈ am_ws := am_t8 68 rfl rfl
theorem wd_1749 : (Cond.selects "NumberedSparksModel" ({ cls := "NumberedSparksModel", name := "next", desc := "(II)I" } : MethodName) ({ cls := "NumberedSparksModel", name := "next", desc := "(II)I" } : MethodName)) ∈ am_ws := am_t8 69 rfl rfl
theorem wd_1750 : (Cond.code ({ cls := "NumberedSparksModel", name := "next", desc := "(II)I" } : MethodName) prog_11_method_113_code (4 : Nat) (Option.some FieldType.int)) ∈ am_ws := am_t8 70 rfl rfl
theorem wd_1751 : (Cond.methodLink "NumberedSparksLaw" (232 : Nat) ({ cls := "NumberedSparksModel", name := "lull", desc := "(IIII)I" } : MethodName)) ∈ am_ws := am_t8 71 rfl rfl
theorem wd_1752 : (Cond.instanceMethod ({ cls := "NumberedSparksModel", name := "lull", desc := "(IIII)I" } : MethodName)) ∈ am_ws := am_t8 72 rfl rfl
theorem wd_1753 : (Cond.selects "NumberedSparksModel" ({ cls := "NumberedSparksModel", name := "lull", desc := "(IIII)I" } : MethodName) ({ cls := "NumberedSparksModel", name := "lull", desc := "(IIII)I" } : MethodName)) ∈ am_ws := am_t8 73 rfl rfl
theorem wd_1754 : (Cond.code ({ cls := "NumberedSparksModel", name := "lull", desc := "(IIII)I" } : MethodName) prog_11_method_114_code (9 : Nat) (Option.some FieldType.int)) ∈ am_ws := am_t8 74 rfl rfl
theorem wd_1755 : (Cond.methodLink "NumberedSparksLaw" (148 : Nat) ({ cls := "NumberedSparksModel", name := "picture", desc := "(I)I" } : MethodName)) ∈ am_ws := am_t8 75 rfl rfl
theorem wd_1756 : (Cond.instanceMethod ({ cls := "NumberedSparksModel", name := "picture", desc := "(I)I" } : MethodName)) ∈ am_ws := am_t8 76 rfl rfl
theorem wd_1757 : (Cond.selects "NumberedSparksModel" ({ cls := "NumberedSparksModel", name := "picture", desc := "(I)I" } : MethodName) ({ cls := "NumberedSparksModel", name := "picture", desc := "(I)I" } : MethodName)) ∈ am_ws := am_t8 77 rfl rfl
theorem wd_1758 : (Cond.code ({ cls := "NumberedSparksModel", name := "picture", desc := "(I)I" } : MethodName) prog_11_method_117_code (5 : Nat) (Option.some FieldType.int)) ∈ am_ws := am_t8 78 rfl rfl
theorem wd_1759 : (Cond.methodLink "NumberedSparksModel" (453 : Nat) ({ cls := "NumberedSparksModel", name := "says", desc := "(I)V" } : MethodName)) ∈ am_ws := am_t8 79 rfl rfl
theorem wd_1761 : (Cond.instanceMethod ({ cls := "NumberedSparksModel", name := "says", desc := "(I)V" } : MethodName)) ∈ am_ws := am_t8 81 rfl rfl
theorem wd_1762 : (Cond.code ({ cls := "NumberedSparksModel", name := "says", desc := "(I)V" } : MethodName) prog_11_method_115_code (2 : Nat) (Option.none : Option FieldType)) ∈ am_ws := am_t8 82 rfl rfl
theorem wd_1763 : (Cond.methodLink "NumberedSparksLaw" (172 : Nat) ({ cls := "NumberedSparksModel", name := "layer", desc := "(II)I" } : MethodName)) ∈ am_ws := am_t8 83 rfl rfl
theorem wd_1764 : (Cond.instanceMethod ({ cls := "NumberedSparksModel", name := "layer", desc := "(II)I" } : MethodName)) ∈ am_ws := am_t8 84 rfl rfl
theorem wd_1765 : (Cond.selects "NumberedSparksModel" ({ cls := "NumberedSparksModel", name := "layer", desc := "(II)I" } : MethodName) ({ cls := "NumberedSparksModel", name := "layer", desc := "(II)I" } : MethodName)) ∈ am_ws := am_t8 85 rfl rfl
theorem wd_1766 : (Cond.code ({ cls := "NumberedSparksModel", name := "layer", desc := "(II)I" } : MethodName) prog_11_method_118_code (6 : Nat) (Option.some FieldType.int)) ∈ am_ws := am_t8 86 rfl rfl
theorem wd_1767 : (Cond.methodLink "NumberedSparksLaw" (212 : Nat) ({ cls := "NumberedSparksModel", name := "tell", desc := "(I)I" } : MethodName)) ∈ am_ws := am_t8 87 rfl rfl
theorem wd_1768 : (Cond.instanceMethod ({ cls := "NumberedSparksModel", name := "tell", desc := "(I)I" } : MethodName)) ∈ am_ws := am_t8 88 rfl rfl
theorem wd_1769 : (Cond.selects "NumberedSparksModel" ({ cls := "NumberedSparksModel", name := "tell", desc := "(I)I" } : MethodName) ({ cls := "NumberedSparksModel", name := "tell", desc := "(I)I" } : MethodName)) ∈ am_ws := am_t8 89 rfl rfl
theorem wd_1770 : (Cond.code ({ cls := "NumberedSparksModel", name := "tell", desc := "(I)I" } : MethodName) prog_11_method_119_code (3 : Nat) (Option.some FieldType.int)) ∈ am_ws := am_t8 90 rfl rfl
theorem wd_1771 : (Cond.methodLink "NumberedSparksModel" (456 : Nat) ({ cls := "NumberedSparksModel", name := "saysNumber", desc := "(I)V" } : MethodName)) ∈ am_ws := am_t8 91 rfl rfl
theorem wd_1773 : (Cond.instanceMethod ({ cls := "NumberedSparksModel", name := "saysNumber", desc := "(I)V" } : MethodName)) ∈ am_ws := am_t8 93 rfl rfl
theorem wd_1774 : (Cond.code ({ cls := "NumberedSparksModel", name := "saysNumber", desc := "(I)V" } : MethodName) prog_11_method_116_code (3 : Nat) (Option.none : Option FieldType)) ∈ am_ws := am_t8 94 rfl rfl
theorem wd_1775 : (Cond.methodLink "NumberedSparksLaw" (152 : Nat) ({ cls := "NumberedSparksModel", name := "octet", desc := "(I)I" } : MethodName)) ∈ am_ws := am_t8 95 rfl rfl
theorem wd_1776 : (Cond.instanceMethod ({ cls := "NumberedSparksModel", name := "octet", desc := "(I)I" } : MethodName)) ∈ am_ws := am_t8 96 rfl rfl
theorem wd_1777 : (Cond.selects "NumberedSparksModel" ({ cls := "NumberedSparksModel", name := "octet", desc := "(I)I" } : MethodName) ({ cls := "NumberedSparksModel", name := "octet", desc := "(I)I" } : MethodName)) ∈ am_ws := am_t8 97 rfl rfl
theorem wd_1778 : (Cond.code ({ cls := "NumberedSparksModel", name := "octet", desc := "(I)I" } : MethodName) prog_11_method_120_code (2 : Nat) (Option.some FieldType.int)) ∈ am_ws := am_t8 98 rfl rfl
theorem wd_1779 : (Cond.fieldLink "java/lang/String" (9 : Nat) "java/lang/String" "value" "[B") ∈ am_ws := am_t8 99 rfl rfl
theorem wd_1780 : (Cond.fieldLink "java/lang/String" (15 : Nat) "java/lang/String" "coder" "B") ∈ am_ws := am_t8 100 rfl rfl
theorem wp_0 : Cond.selects "NumberedSparks" ({ cls := "NumberedSparks", name := "putOnTape", desc := "(I)V" } : MethodName) ({ cls := "NumberedSparks", name := "putOnTape", desc := "(I)V" } : MethodName) ∈ am_ws := am_tp 0 rfl rfl
theorem wp_1 : Cond.selects "NumberedSparks$Reader" ({ cls := "NumberedSparks$Reader", name := "advance", desc := "()V" } : MethodName) ({ cls := "NumberedSparks$Reader", name := "advance", desc := "()V" } : MethodName) ∈ am_ws := am_tp 1 rfl rfl
theorem wp_2 : Cond.selects "NumberedSparks$Reader" ({ cls := "NumberedSparks$Reader", name := "byteAt", desc := "(I)I" } : MethodName) ({ cls := "NumberedSparks$Reader", name := "byteAt", desc := "(I)I" } : MethodName) ∈ am_ws := am_tp 2 rfl rfl
theorem wp_3 : Cond.selects "NumberedSparks$Reader" ({ cls := "NumberedSparks$Reader", name := "readWorld", desc := "()V" } : MethodName) ({ cls := "NumberedSparks$Reader", name := "readWorld", desc := "()V" } : MethodName) ∈ am_ws := am_tp 3 rfl rfl
theorem wp_4 : Cond.selects "NumberedSparks$Reader" ({ cls := "NumberedSparks$Reader", name := "needWord", desc := "(Ljava/lang/String;)V" } : MethodName) ({ cls := "NumberedSparks$Reader", name := "needWord", desc := "(Ljava/lang/String;)V" } : MethodName) ∈ am_ws := am_tp 4 rfl rfl
theorem wp_5 : Cond.selects "NumberedSparks$Reader" ({ cls := "NumberedSparks$Reader", name := "takeWord", desc := "(Ljava/lang/String;)Z" } : MethodName) ({ cls := "NumberedSparks$Reader", name := "takeWord", desc := "(Ljava/lang/String;)Z" } : MethodName) ∈ am_ws := am_tp 5 rfl rfl
theorem wp_6 : Cond.selects "NumberedSparks$Reader" ({ cls := "NumberedSparks$Reader", name := "isWord", desc := "(Ljava/lang/String;)Z" } : MethodName) ({ cls := "NumberedSparks$Reader", name := "isWord", desc := "(Ljava/lang/String;)Z" } : MethodName) ∈ am_ws := am_tp 6 rfl rfl
theorem wp_7 : Cond.selects "NumberedSparks$Reader" ({ cls := "NumberedSparks$Reader", name := "fail", desc := "(I)V" } : MethodName) ({ cls := "NumberedSparks$Reader", name := "fail", desc := "(I)V" } : MethodName) ∈ am_ws := am_tp 7 rfl rfl
theorem wp_8 : Cond.selects "NumberedSparks$Reader" ({ cls := "NumberedSparks$Reader", name := "needNumber", desc := "(II)I" } : MethodName) ({ cls := "NumberedSparks$Reader", name := "needNumber", desc := "(II)I" } : MethodName) ∈ am_ws := am_tp 8 rfl rfl
theorem wp_9 : Cond.selects "NumberedSparks$Reader" ({ cls := "NumberedSparks$Reader", name := "needSign", desc := "(C)V" } : MethodName) ({ cls := "NumberedSparks$Reader", name := "needSign", desc := "(C)V" } : MethodName) ∈ am_ws := am_tp 9 rfl rfl
theorem wp_10 : Cond.selects "NumberedSparks$Reader" ({ cls := "NumberedSparks$Reader", name := "readSeed", desc := "()V" } : MethodName) ({ cls := "NumberedSparks$Reader", name := "readSeed", desc := "()V" } : MethodName) ∈ am_ws := am_tp 10 rfl rfl
theorem wp_11 : Cond.selects "NumberedSparks$Reader" ({ cls := "NumberedSparks$Reader", name := "readKind", desc := "()V" } : MethodName) ({ cls := "NumberedSparks$Reader", name := "readKind", desc := "()V" } : MethodName) ∈ am_ws := am_tp 11 rfl rfl
theorem wp_12 : Cond.selects "NumberedSparks$Reader" ({ cls := "NumberedSparks$Reader", name := "numberBehind", desc := "(Ljava/lang/String;III)I" } : MethodName) ({ cls := "NumberedSparks$Reader", name := "numberBehind", desc := "(Ljava/lang/String;III)I" } : MethodName) ∈ am_ws := am_tp 12 rfl rfl
theorem wp_13 : Cond.selects "NumberedSparks$Reader" ({ cls := "NumberedSparks$Reader", name := "readFalls", desc := "()I" } : MethodName) ({ cls := "NumberedSparks$Reader", name := "readFalls", desc := "()I" } : MethodName) ∈ am_ws := am_tp 13 rfl rfl
theorem wp_14 : Cond.selects "NumberedSparks$Reader" ({ cls := "NumberedSparks$Reader", name := "readEdge", desc := "()I" } : MethodName) ({ cls := "NumberedSparks$Reader", name := "readEdge", desc := "()I" } : MethodName) ∈ am_ws := am_tp 14 rfl rfl
theorem wp_15 : Cond.selects "NumberedSparks$Reader" ({ cls := "NumberedSparks$Reader", name := "readSource", desc := "()V" } : MethodName) ({ cls := "NumberedSparks$Reader", name := "readSource", desc := "()V" } : MethodName) ∈ am_ws := am_tp 15 rfl rfl
theorem wp_16 : Cond.selects "NumberedSparks$Spark" ({ cls := "NumberedSparks$Spark", name := "ageBeyond", desc := "(II)I" } : MethodName) ({ cls := "NumberedSparks$Spark", name := "ageBeyond", desc := "(II)I" } : MethodName) ∈ am_ws := am_tp 16 rfl rfl
theorem wp_17 : Cond.selects "NumberedSparks$Spark" ({ cls := "NumberedSparks$Spark", name := "freePlace", desc := "(II)I" } : MethodName) ({ cls := "NumberedSparks$Spark", name := "freePlace", desc := "(II)I" } : MethodName) ∈ am_ws := am_tp 17 rfl rfl
theorem wp_18 : Cond.selects "NumberedSparks" ({ cls := "NumberedSparks", name := "isAmong", desc := "(II)Z" } : MethodName) ({ cls := "NumberedSparks", name := "isAmong", desc := "(II)Z" } : MethodName) ∈ am_ws := am_tp 18 rfl rfl
theorem wp_19 : Cond.selects "NumberedSparks$Walk" ({ cls := "NumberedSparks$Walk", name := "measureSpans", desc := "()V" } : MethodName) ({ cls := "NumberedSparks$Walk", name := "measureSpans", desc := "()V" } : MethodName) ∈ am_ws := am_tp 19 rfl rfl
theorem wp_20 : Cond.selects "NumberedSparks$Walk" ({ cls := "NumberedSparks$Walk", name := "spanBehind", desc := "(II)I" } : MethodName) ({ cls := "NumberedSparks$Walk", name := "spanBehind", desc := "(II)I" } : MethodName) ∈ am_ws := am_tp 20 rfl rfl
theorem wp_21 : Cond.selects "NumberedSparks$Walk" ({ cls := "NumberedSparks$Walk", name := "spanOf", desc := "(II)I" } : MethodName) ({ cls := "NumberedSparks$Walk", name := "spanOf", desc := "(II)I" } : MethodName) ∈ am_ws := am_tp 21 rfl rfl
theorem wp_22 : Cond.selects "NumberedSparks$Walk" ({ cls := "NumberedSparks$Walk", name := "sourceOfLeastRoot", desc := "()I" } : MethodName) ({ cls := "NumberedSparks$Walk", name := "sourceOfLeastRoot", desc := "()I" } : MethodName) ∈ am_ws := am_tp 22 rfl rfl
theorem wp_23 : Cond.selects "NumberedSparks$Walk" ({ cls := "NumberedSparks$Walk", name := "isOutside", desc := "(LNumberedSparks$Spark;)Z" } : MethodName) ({ cls := "NumberedSparks$Walk", name := "isOutside", desc := "(LNumberedSparks$Spark;)Z" } : MethodName) ∈ am_ws := am_tp 23 rfl rfl
theorem wp_24 : Cond.selects "NumberedSparks$Walk" ({ cls := "NumberedSparks$Walk", name := "show", desc := "(I)V" } : MethodName) ({ cls := "NumberedSparks$Walk", name := "show", desc := "(I)V" } : MethodName) ∈ am_ws := am_tp 24 rfl rfl
theorem wp_25 : Cond.selects "NumberedSparks$Walk" ({ cls := "NumberedSparks$Walk", name := "stepChild", desc := "(LNumberedSparks$Spark;II)V" } : MethodName) ({ cls := "NumberedSparks$Walk", name := "stepChild", desc := "(LNumberedSparks$Spark;II)V" } : MethodName) ∈ am_ws := am_tp 25 rfl rfl
theorem wp_26 : Cond.selects "NumberedSparks" ({ cls := "NumberedSparks", name := "isWindow", desc := "(II)Z" } : MethodName) ({ cls := "NumberedSparks", name := "isWindow", desc := "(II)Z" } : MethodName) ∈ am_ws := am_tp 26 rfl rfl
theorem wp_27 : Cond.selects "NumberedSparks" ({ cls := "NumberedSparks", name := "countComingAndGoing", desc := "(II)V" } : MethodName) ({ cls := "NumberedSparks", name := "countComingAndGoing", desc := "(II)V" } : MethodName) ∈ am_ws := am_tp 27 rfl rfl
theorem wp_28 : Cond.selects "NumberedSparks$Frame" ({ cls := "NumberedSparks$Frame", name := "append", desc := "(LNumberedSparks$Spark;I)V" } : MethodName) ({ cls := "NumberedSparks$Frame", name := "append", desc := "(LNumberedSparks$Spark;I)V" } : MethodName) ∈ am_ws := am_tp 28 rfl rfl
theorem wp_29 : Cond.selects "NumberedSparks$Frame" ({ cls := "NumberedSparks$Frame", name := "grow", desc := "()V" } : MethodName) ({ cls := "NumberedSparks$Frame", name := "grow", desc := "()V" } : MethodName) ∈ am_ws := am_tp 29 rfl rfl
theorem wp_30 : Cond.selects "NumberedSparks$Frame" ({ cls := "NumberedSparks$Frame", name := "putInOrder", desc := "()V" } : MethodName) ({ cls := "NumberedSparks$Frame", name := "putInOrder", desc := "()V" } : MethodName) ∈ am_ws := am_tp 30 rfl rfl
theorem wp_31 : Cond.selects "NumberedSparks$Frame" ({ cls := "NumberedSparks$Frame", name := "depthOf", desc := "(I)I" } : MethodName) ({ cls := "NumberedSparks$Frame", name := "depthOf", desc := "(I)I" } : MethodName) ∈ am_ws := am_tp 31 rfl rfl
theorem wp_32 : Cond.selects "NumberedSparks$Frame" ({ cls := "NumberedSparks$Frame", name := "forgetColumns", desc := "(II[I)V" } : MethodName) ({ cls := "NumberedSparks$Frame", name := "forgetColumns", desc := "(II[I)V" } : MethodName) ∈ am_ws := am_tp 32 rfl rfl
theorem wp_33 : Cond.selects "NumberedSparksModel" ({ cls := "NumberedSparksModel", name := "puts4", desc := "(I)V" } : MethodName) ({ cls := "NumberedSparksModel", name := "puts4", desc := "(I)V" } : MethodName) ∈ am_ws := am_tp 33 rfl rfl
theorem wp_34 : Cond.selects "NumberedSparksModel" ({ cls := "NumberedSparksModel", name := "advance", desc := "()V" } : MethodName) ({ cls := "NumberedSparksModel", name := "advance", desc := "()V" } : MethodName) ∈ am_ws := am_tp 34 rfl rfl
theorem wp_35 : Cond.selects "NumberedSparksModel" ({ cls := "NumberedSparksModel", name := "see", desc := "(I)I" } : MethodName) ({ cls := "NumberedSparksModel", name := "see", desc := "(I)I" } : MethodName) ∈ am_ws := am_tp 35 rfl rfl
theorem wp_36 : Cond.selects "NumberedSparksModel" ({ cls := "NumberedSparksModel", name := "errs", desc := "(II)V" } : MethodName) ({ cls := "NumberedSparksModel", name := "errs", desc := "(II)V" } : MethodName) ∈ am_ws := am_tp 36 rfl rfl
theorem wp_37 : Cond.selects "NumberedSparksModel" ({ cls := "NumberedSparksModel", name := "good", desc := "()Z" } : MethodName) ({ cls := "NumberedSparksModel", name := "good", desc := "()Z" } : MethodName) ∈ am_ws := am_tp 37 rfl rfl
theorem wp_38 : Cond.selects "NumberedSparksModel" ({ cls := "NumberedSparksModel", name := "readLine", desc := "(I)V" } : MethodName) ({ cls := "NumberedSparksModel", name := "readLine", desc := "(I)V" } : MethodName) ∈ am_ws := am_tp 38 rfl rfl
theorem wp_39 : Cond.selects "NumberedSparksModel" ({ cls := "NumberedSparksModel", name := "passes", desc := "(Ljava/lang/String;)V" } : MethodName) ({ cls := "NumberedSparksModel", name := "passes", desc := "(Ljava/lang/String;)V" } : MethodName) ∈ am_ws := am_tp 39 rfl rfl
theorem wp_40 : Cond.selects "NumberedSparksModel" ({ cls := "NumberedSparksModel", name := "takes", desc := "(Ljava/lang/String;)Z" } : MethodName) ({ cls := "NumberedSparksModel", name := "takes", desc := "(Ljava/lang/String;)Z" } : MethodName) ∈ am_ws := am_tp 40 rfl rfl
theorem wp_41 : Cond.selects "NumberedSparksModel" ({ cls := "NumberedSparksModel", name := "isWord", desc := "(Ljava/lang/String;)Z" } : MethodName) ({ cls := "NumberedSparksModel", name := "isWord", desc := "(Ljava/lang/String;)Z" } : MethodName) ∈ am_ws := am_tp 41 rfl rfl
theorem wp_42 : Cond.selects "NumberedSparksModel" ({ cls := "NumberedSparksModel", name := "number", desc := "(II)I" } : MethodName) ({ cls := "NumberedSparksModel", name := "number", desc := "(II)I" } : MethodName) ∈ am_ws := am_tp 42 rfl rfl
theorem wp_43 : Cond.selects "NumberedSparksModel" ({ cls := "NumberedSparksModel", name := "readSeed", desc := "()V" } : MethodName) ({ cls := "NumberedSparksModel", name := "readSeed", desc := "()V" } : MethodName) ∈ am_ws := am_tp 43 rfl rfl
theorem wp_44 : Cond.selects "NumberedSparksModel" ({ cls := "NumberedSparksModel", name := "readKind", desc := "()V" } : MethodName) ({ cls := "NumberedSparksModel", name := "readKind", desc := "()V" } : MethodName) ∈ am_ws := am_tp 44 rfl rfl
theorem wp_45 : Cond.selects "NumberedSparksModel" ({ cls := "NumberedSparksModel", name := "falls", desc := "()I" } : MethodName) ({ cls := "NumberedSparksModel", name := "falls", desc := "()I" } : MethodName) ∈ am_ws := am_tp 45 rfl rfl
theorem wp_46 : Cond.selects "NumberedSparksModel" ({ cls := "NumberedSparksModel", name := "readSource", desc := "()V" } : MethodName) ({ cls := "NumberedSparksModel", name := "readSource", desc := "()V" } : MethodName) ∈ am_ws := am_tp 46 rfl rfl
theorem wp_47 : Cond.selects "NumberedSparksModel" ({ cls := "NumberedSparksModel", name := "roots", desc := "(I)I" } : MethodName) ({ cls := "NumberedSparksModel", name := "roots", desc := "(I)I" } : MethodName) ∈ am_ws := am_tp 47 rfl rfl
theorem wp_48 : Cond.selects "NumberedSparksModel" ({ cls := "NumberedSparksModel", name := "groups", desc := "(I)I" } : MethodName) ({ cls := "NumberedSparksModel", name := "groups", desc := "(I)I" } : MethodName) ∈ am_ws := am_tp 48 rfl rfl
theorem wp_49 : Cond.selects "NumberedSparksModel" ({ cls := "NumberedSparksModel", name := "ofSource", desc := "(II)I" } : MethodName) ({ cls := "NumberedSparksModel", name := "ofSource", desc := "(II)I" } : MethodName) ∈ am_ws := am_tp 49 rfl rfl
theorem wp_50 : Cond.selects "NumberedSparksModel" ({ cls := "NumberedSparksModel", name := "keeps", desc := "(II)V" } : MethodName) ({ cls := "NumberedSparksModel", name := "keeps", desc := "(II)V" } : MethodName) ∈ am_ws := am_tp 50 rfl rfl
theorem wp_51 : Cond.selects "NumberedSparksModel" ({ cls := "NumberedSparksModel", name := "mixedOf", desc := "(II)J" } : MethodName) ({ cls := "NumberedSparksModel", name := "mixedOf", desc := "(II)J" } : MethodName) ∈ am_ws := am_tp 51 rfl rfl
theorem wp_52 : Cond.selects "NumberedSparksModel" ({ cls := "NumberedSparksModel", name := "isSpark", desc := "(I)Z" } : MethodName) ({ cls := "NumberedSparksModel", name := "isSpark", desc := "(I)Z" } : MethodName) ∈ am_ws := am_tp 52 rfl rfl
theorem wp_53 : Cond.selects "NumberedSparksModel" ({ cls := "NumberedSparksModel", name := "hasChild", desc := "(II)Z" } : MethodName) ({ cls := "NumberedSparksModel", name := "hasChild", desc := "(II)Z" } : MethodName) ∈ am_ws := am_tp 53 rfl rfl
theorem wp_54 : Cond.selects "NumberedSparksModel" ({ cls := "NumberedSparksModel", name := "childOf", desc := "(II)I" } : MethodName) ({ cls := "NumberedSparksModel", name := "childOf", desc := "(II)I" } : MethodName) ∈ am_ws := am_tp 54 rfl rfl
theorem wp_55 : Cond.selects "NumberedSparksModel" ({ cls := "NumberedSparksModel", name := "kindOf", desc := "(I)I" } : MethodName) ({ cls := "NumberedSparksModel", name := "kindOf", desc := "(I)I" } : MethodName) ∈ am_ws := am_tp 55 rfl rfl
theorem wp_56 : Cond.selects "NumberedSparksModel" ({ cls := "NumberedSparksModel", name := "lays", desc := "(I)V" } : MethodName) ({ cls := "NumberedSparksModel", name := "lays", desc := "(I)V" } : MethodName) ∈ am_ws := am_tp 56 rfl rfl
theorem wp_57 : Cond.selects "NumberedSparksModel" ({ cls := "NumberedSparksModel", name := "laysRoot", desc := "(I)V" } : MethodName) ({ cls := "NumberedSparksModel", name := "laysRoot", desc := "(I)V" } : MethodName) ∈ am_ws := am_tp 57 rfl rfl
theorem wp_58 : Cond.selects "NumberedSparksModel" ({ cls := "NumberedSparksModel", name := "draw", desc := "(III)I" } : MethodName) ({ cls := "NumberedSparksModel", name := "draw", desc := "(III)I" } : MethodName) ∈ am_ws := am_tp 58 rfl rfl
theorem wp_59 : Cond.selects "NumberedSparksModel" ({ cls := "NumberedSparksModel", name := "laysOne", desc := "(III)V" } : MethodName) ({ cls := "NumberedSparksModel", name := "laysOne", desc := "(III)V" } : MethodName) ∈ am_ws := am_tp 59 rfl rfl
theorem wp_60 : Cond.selects "NumberedSparksModel" ({ cls := "NumberedSparksModel", name := "edge", desc := "()I" } : MethodName) ({ cls := "NumberedSparksModel", name := "edge", desc := "()I" } : MethodName) ∈ am_ws := am_tp 60 rfl rfl
theorem wp_61 : Cond.selects "NumberedSparksModel" ({ cls := "NumberedSparksModel", name := "isBeyond", desc := "(I)Z" } : MethodName) ({ cls := "NumberedSparksModel", name := "isBeyond", desc := "(I)Z" } : MethodName) ∈ am_ws := am_tp 61 rfl rfl
theorem wp_62 : Cond.selects "NumberedSparksModel" ({ cls := "NumberedSparksModel", name := "raw", desc := "(II)I" } : MethodName) ({ cls := "NumberedSparksModel", name := "raw", desc := "(II)I" } : MethodName) ∈ am_ws := am_tp 62 rfl rfl
theorem wp_63 : Cond.selects "NumberedSparksModel" ({ cls := "NumberedSparksModel", name := "world", desc := "(I)I" } : MethodName) ({ cls := "NumberedSparksModel", name := "world", desc := "(I)I" } : MethodName) ∈ am_ws := am_tp 63 rfl rfl
theorem wp_64 : Cond.selects "NumberedSparksModel" ({ cls := "NumberedSparksModel", name := "laysChild", desc := "(I)V" } : MethodName) ({ cls := "NumberedSparksModel", name := "laysChild", desc := "(I)V" } : MethodName) ∈ am_ws := am_tp 64 rfl rfl
theorem wp_65 : Cond.selects "NumberedSparksModel" ({ cls := "NumberedSparksModel", name := "placeBy", desc := "(II)I" } : MethodName) ({ cls := "NumberedSparksModel", name := "placeBy", desc := "(II)I" } : MethodName) ∈ am_ws := am_tp 65 rfl rfl
theorem wp_66 : Cond.selects "NumberedSparksModel" ({ cls := "NumberedSparksModel", name := "isTick", desc := "(I)Z" } : MethodName) ({ cls := "NumberedSparksModel", name := "isTick", desc := "(I)Z" } : MethodName) ∈ am_ws := am_tp 66 rfl rfl
theorem wp_67 : Cond.selects "NumberedSparksModel" ({ cls := "NumberedSparksModel", name := "overAt", desc := "(I)I" } : MethodName) ({ cls := "NumberedSparksModel", name := "overAt", desc := "(I)I" } : MethodName) ∈ am_ws := am_tp 67 rfl rfl
theorem wp_68 : Cond.selects "NumberedSparksModel" ({ cls := "NumberedSparksModel", name := "cellBy", desc := "(I)I" } : MethodName) ({ cls := "NumberedSparksModel", name := "cellBy", desc := "(I)I" } : MethodName) ∈ am_ws := am_tp 68 rfl rfl
theorem wp_69 : Cond.selects "NumberedSparksModel" ({ cls := "NumberedSparksModel", name := "gathers", desc := "(I)V" } : MethodName) ({ cls := "NumberedSparksModel", name := "gathers", desc := "(I)V" } : MethodName) ∈ am_ws := am_tp 69 rfl rfl
theorem wp_70 : Cond.selects "NumberedSparksModel" ({ cls := "NumberedSparksModel", name := "firstGroup", desc := "(II)I" } : MethodName) ({ cls := "NumberedSparksModel", name := "firstGroup", desc := "(II)I" } : MethodName) ∈ am_ws := am_tp 70 rfl rfl
theorem wp_71 : Cond.selects "NumberedSparksModel" ({ cls := "NumberedSparksModel", name := "isGroup", desc := "(III)Z" } : MethodName) ({ cls := "NumberedSparksModel", name := "isGroup", desc := "(III)Z" } : MethodName) ∈ am_ws := am_tp 71 rfl rfl
theorem wp_72 : Cond.selects "NumberedSparksModel" ({ cls := "NumberedSparksModel", name := "comesLine", desc := "(II)V" } : MethodName) ({ cls := "NumberedSparksModel", name := "comesLine", desc := "(II)V" } : MethodName) ∈ am_ws := am_tp 72 rfl rfl
theorem wp_73 : Cond.selects "NumberedSparksModel" ({ cls := "NumberedSparksModel", name := "comes", desc := "(II)V" } : MethodName) ({ cls := "NumberedSparksModel", name := "comes", desc := "(II)V" } : MethodName) ∈ am_ws := am_tp 73 rfl rfl
theorem wp_74 : Cond.selects "NumberedSparksModel" ({ cls := "NumberedSparksModel", name := "codeAt", desc := "(I)I" } : MethodName) ({ cls := "NumberedSparksModel", name := "codeAt", desc := "(I)I" } : MethodName) ∈ am_ws := am_tp 74 rfl rfl
theorem wp_75 : Cond.selects "NumberedSparksModel" ({ cls := "NumberedSparksModel", name := "laysFrame", desc := "(I)V" } : MethodName) ({ cls := "NumberedSparksModel", name := "laysFrame", desc := "(I)V" } : MethodName) ∈ am_ws := am_tp 75 rfl rfl
theorem wp_76 : Cond.selects "NumberedSparksModel" ({ cls := "NumberedSparksModel", name := "sorts", desc := "()V" } : MethodName) ({ cls := "NumberedSparksModel", name := "sorts", desc := "()V" } : MethodName) ∈ am_ws := am_tp 76 rfl rfl
theorem wp_77 : Cond.selects "NumberedSparksModel" ({ cls := "NumberedSparksModel", name := "isColumn", desc := "(II)Z" } : MethodName) ({ cls := "NumberedSparksModel", name := "isColumn", desc := "(II)Z" } : MethodName) ∈ am_ws := am_tp 77 rfl rfl
theorem wp_78 : Cond.selects "NumberedSparksModel" ({ cls := "NumberedSparksModel", name := "laysColumns", desc := "(I)V" } : MethodName) ({ cls := "NumberedSparksModel", name := "laysColumns", desc := "(I)V" } : MethodName) ∈ am_ws := am_tp 78 rfl rfl
theorem wp_79 : Cond.selects "NumberedSparksModel" ({ cls := "NumberedSparksModel", name := "topOf", desc := "(II)I" } : MethodName) ({ cls := "NumberedSparksModel", name := "topOf", desc := "(II)I" } : MethodName) ∈ am_ws := am_tp 79 rfl rfl
theorem wp_80 : Cond.selects "NumberedSparksModel" ({ cls := "NumberedSparksModel", name := "isCell", desc := "(III)Z" } : MethodName) ({ cls := "NumberedSparksModel", name := "isCell", desc := "(III)Z" } : MethodName) ∈ am_ws := am_tp 80 rfl rfl
theorem wp_81 : Cond.selects "NumberedSparksModel" ({ cls := "NumberedSparksModel", name := "squares", desc := "(IIIII)J" } : MethodName) ({ cls := "NumberedSparksModel", name := "squares", desc := "(IIIII)J" } : MethodName) ∈ am_ws := am_tp 81 rfl rfl
theorem wp_82 : Cond.selects "NumberedSparksModel" ({ cls := "NumberedSparksModel", name := "laysHeaps", desc := "(I)V" } : MethodName) ({ cls := "NumberedSparksModel", name := "laysHeaps", desc := "(I)V" } : MethodName) ∈ am_ws := am_tp 82 rfl rfl
theorem wp_83 : Cond.selects "NumberedSparksModel" ({ cls := "NumberedSparksModel", name := "placeAt", desc := "(III)I" } : MethodName) ({ cls := "NumberedSparksModel", name := "placeAt", desc := "(III)I" } : MethodName) ∈ am_ws := am_tp 83 rfl rfl
theorem wp_84 : Cond.selects "NumberedSparksModel" ({ cls := "NumberedSparksModel", name := "isSpan", desc := "(III)Z" } : MethodName) ({ cls := "NumberedSparksModel", name := "isSpan", desc := "(III)Z" } : MethodName) ∈ am_ws := am_tp 84 rfl rfl
theorem wp_85 : Cond.selects "NumberedSparksModel" ({ cls := "NumberedSparksModel", name := "bornOf", desc := "(I)I" } : MethodName) ({ cls := "NumberedSparksModel", name := "bornOf", desc := "(I)I" } : MethodName) ∈ am_ws := am_tp 85 rfl rfl
theorem wp_86 : Cond.selects "NumberedSparksModel" ({ cls := "NumberedSparksModel", name := "endingsOf", desc := "(III)I" } : MethodName) ({ cls := "NumberedSparksModel", name := "endingsOf", desc := "(III)I" } : MethodName) ∈ am_ws := am_tp 86 rfl rfl
theorem wp_87 : Cond.selects "NumberedSparksModel" ({ cls := "NumberedSparksModel", name := "lastBirth", desc := "(I)I" } : MethodName) ({ cls := "NumberedSparksModel", name := "lastBirth", desc := "(I)I" } : MethodName) ∈ am_ws := am_tp 87 rfl rfl
theorem wp_88 : Cond.selects "NumberedSparksModel" ({ cls := "NumberedSparksModel", name := "bornIn", desc := "(IIIZ)I" } : MethodName) ({ cls := "NumberedSparksModel", name := "bornIn", desc := "(IIIZ)I" } : MethodName) ∈ am_ws := am_tp 88 rfl rfl
theorem wp_89 : Cond.selects "NumberedSparksModel" ({ cls := "NumberedSparksModel", name := "says", desc := "(I)V" } : MethodName) ({ cls := "NumberedSparksModel", name := "says", desc := "(I)V" } : MethodName) ∈ am_ws := am_tp 89 rfl rfl
theorem wp_90 : Cond.selects "NumberedSparksModel" ({ cls := "NumberedSparksModel", name := "saysNumber", desc := "(I)V" } : MethodName) ({ cls := "NumberedSparksModel", name := "saysNumber", desc := "(I)V" } : MethodName) ∈ am_ws := am_tp 90 rfl rfl
theorem am_u0 : ∀ w ∈ u_ws RX0 TX0 4, w ∈ am_ws := List.forall_mem_cons.mpr ⟨am_t2 59 rfl rfl, List.forall_mem_cons.mpr ⟨am_t2 61 rfl rfl, List.forall_mem_cons.mpr ⟨am_t2 63 rfl rfl, List.forall_mem_cons.mpr ⟨am_t2 65 rfl rfl, fun _ h => absurd h List.not_mem_nil⟩⟩⟩⟩
theorem am_c0 : am_Cl 0 RX0 TX0 4 tyX0 := ⟨rfl, tyX0_ok, nmX0, am_u0, rfl, by decide +kernel, by decide +kernel⟩
theorem am_u1 : ∀ w ∈ u_ws RX1 TX1 13, w ∈ am_ws := List.forall_mem_cons.mpr ⟨am_t2 20 rfl rfl, List.forall_mem_cons.mpr ⟨am_t2 22 rfl rfl, List.forall_mem_cons.mpr ⟨am_t2 24 rfl rfl, List.forall_mem_cons.mpr ⟨am_t2 26 rfl rfl, List.forall_mem_cons.mpr ⟨am_t2 28 rfl rfl, List.forall_mem_cons.mpr ⟨am_t2 30 rfl rfl, List.forall_mem_cons.mpr ⟨am_t2 32 rfl rfl, List.forall_mem_cons.mpr ⟨am_t2 34 rfl rfl, List.forall_mem_cons.mpr ⟨am_t2 36 rfl rfl, List.forall_mem_cons.mpr ⟨am_t2 38 rfl rfl, List.forall_mem_cons.mpr ⟨am_t2 40 rfl rfl, List.forall_mem_cons.mpr ⟨am_t2 42 rfl rfl, List.forall_mem_cons.mpr ⟨am_t2 44 rfl rfl, fun _ h => absurd h List.not_mem_nil⟩⟩⟩⟩⟩⟩⟩⟩⟩⟩⟩⟩⟩
theorem am_c1 : am_Cl 1 RX1 TX1 13 tyX1 := ⟨rfl, tyX1_ok, nmX1, am_u1, rfl, by decide +kernel, by decide +kernel⟩
theorem am_u2 : ∀ w ∈ u_ws RX2 TX2 4, w ∈ am_ws := List.forall_mem_cons.mpr ⟨am_t1 120 rfl rfl, List.forall_mem_cons.mpr ⟨am_t1 122 rfl rfl, List.forall_mem_cons.mpr ⟨am_t1 124 rfl rfl, List.forall_mem_cons.mpr ⟨am_t1 126 rfl rfl, fun _ h => absurd h List.not_mem_nil⟩⟩⟩⟩
theorem am_c2 : am_Cl 2 RX2 TX2 4 tyX2 := ⟨rfl, tyX2_ok, nmX2, am_u2, rfl, by decide +kernel, by decide +kernel⟩
theorem am_u3 : ∀ w ∈ u_ws RX3 TX3 2, w ∈ am_ws := List.forall_mem_cons.mpr ⟨am_t1 138 rfl rfl, List.forall_mem_cons.mpr ⟨am_t1 140 rfl rfl, fun _ h => absurd h List.not_mem_nil⟩⟩
theorem am_c3 : am_Cl 3 RX3 TX3 2 tyX3 := ⟨rfl, tyX3_ok, nmX3, am_u3, rfl, by decide +kernel, by decide +kernel⟩
theorem am_u4 : ∀ w ∈ u_ws RX4 TX4 9, w ∈ am_ws := List.forall_mem_cons.mpr ⟨am_t1 90 rfl rfl, List.forall_mem_cons.mpr ⟨am_t1 92 rfl rfl, List.forall_mem_cons.mpr ⟨am_t1 94 rfl rfl, List.forall_mem_cons.mpr ⟨am_t1 96 rfl rfl, List.forall_mem_cons.mpr ⟨am_t1 98 rfl rfl, List.forall_mem_cons.mpr ⟨am_t1 100 rfl rfl, List.forall_mem_cons.mpr ⟨am_t1 102 rfl rfl, List.forall_mem_cons.mpr ⟨am_t1 104 rfl rfl, List.forall_mem_cons.mpr ⟨am_t1 106 rfl rfl, fun _ h => absurd h List.not_mem_nil⟩⟩⟩⟩⟩⟩⟩⟩⟩
theorem am_c4 : am_Cl 4 RX4 TX4 9 tyX4 := ⟨rfl, tyX4_ok, nmX4, am_u4, rfl, by decide +kernel, by decide +kernel⟩
theorem am_u5 : ∀ w ∈ u_ws RX5 TX5 8, w ∈ am_ws := List.forall_mem_cons.mpr ⟨am_t1 52 rfl rfl, List.forall_mem_cons.mpr ⟨am_t1 54 rfl rfl, List.forall_mem_cons.mpr ⟨am_t1 56 rfl rfl, List.forall_mem_cons.mpr ⟨am_t1 58 rfl rfl, List.forall_mem_cons.mpr ⟨am_t1 60 rfl rfl, List.forall_mem_cons.mpr ⟨am_t1 62 rfl rfl, List.forall_mem_cons.mpr ⟨am_t1 64 rfl rfl, List.forall_mem_cons.mpr ⟨am_t1 66 rfl rfl, fun _ h => absurd h List.not_mem_nil⟩⟩⟩⟩⟩⟩⟩⟩
theorem am_c5 : am_Cl 5 RX5 TX5 8 tyX5 := ⟨rfl, tyX5_ok, nmX5, am_u5, rfl, by decide +kernel, by decide +kernel⟩
theorem am_u6 : ∀ w ∈ u_ws RX6 TX6 10, w ∈ am_ws := List.forall_mem_cons.mpr ⟨am_t1 181 rfl rfl, List.forall_mem_cons.mpr ⟨am_t1 183 rfl rfl, List.forall_mem_cons.mpr ⟨am_t1 185 rfl rfl, List.forall_mem_cons.mpr ⟨am_t1 187 rfl rfl, List.forall_mem_cons.mpr ⟨am_t1 189 rfl rfl, List.forall_mem_cons.mpr ⟨am_t1 191 rfl rfl, List.forall_mem_cons.mpr ⟨am_t1 193 rfl rfl, List.forall_mem_cons.mpr ⟨am_t1 195 rfl rfl, List.forall_mem_cons.mpr ⟨am_t1 197 rfl rfl, List.forall_mem_cons.mpr ⟨am_t1 199 rfl rfl, fun _ h => absurd h List.not_mem_nil⟩⟩⟩⟩⟩⟩⟩⟩⟩⟩
theorem am_c6 : am_Cl 6 RX6 TX6 10 tyX6 := ⟨rfl, tyX6_ok, nmX6, am_u6, rfl, by decide +kernel, by decide +kernel⟩
theorem am_u7 : ∀ w ∈ u_ws RX7 TX7 9, w ∈ am_ws := List.forall_mem_cons.mpr ⟨am_t1 213 rfl rfl, List.forall_mem_cons.mpr ⟨am_t1 215 rfl rfl, List.forall_mem_cons.mpr ⟨am_t1 217 rfl rfl, List.forall_mem_cons.mpr ⟨am_t1 219 rfl rfl, List.forall_mem_cons.mpr ⟨am_t1 221 rfl rfl, List.forall_mem_cons.mpr ⟨am_t1 223 rfl rfl, List.forall_mem_cons.mpr ⟨am_t1 225 rfl rfl, List.forall_mem_cons.mpr ⟨am_t1 227 rfl rfl, List.forall_mem_cons.mpr ⟨am_t1 229 rfl rfl, fun _ h => absurd h List.not_mem_nil⟩⟩⟩⟩⟩⟩⟩⟩⟩
theorem am_c7 : am_Cl 7 RX7 TX7 9 tyX7 := ⟨rfl, tyX7_ok, nmX7, am_u7, rfl, by decide +kernel, by decide +kernel⟩
theorem am_u8 : ∀ w ∈ u_ws RX8 TX8 11, w ∈ am_ws := List.forall_mem_cons.mpr ⟨am_t2 79 rfl rfl, List.forall_mem_cons.mpr ⟨am_t2 81 rfl rfl, List.forall_mem_cons.mpr ⟨am_t2 83 rfl rfl, List.forall_mem_cons.mpr ⟨am_t2 85 rfl rfl, List.forall_mem_cons.mpr ⟨am_t2 87 rfl rfl, List.forall_mem_cons.mpr ⟨am_t2 89 rfl rfl, List.forall_mem_cons.mpr ⟨am_t2 91 rfl rfl, List.forall_mem_cons.mpr ⟨am_t2 93 rfl rfl, List.forall_mem_cons.mpr ⟨am_t2 95 rfl rfl, List.forall_mem_cons.mpr ⟨am_t2 97 rfl rfl, List.forall_mem_cons.mpr ⟨am_t2 99 rfl rfl, fun _ h => absurd h List.not_mem_nil⟩⟩⟩⟩⟩⟩⟩⟩⟩⟩⟩
theorem am_c8 : am_Cl 8 RX8 TX8 11 tyX8 := ⟨rfl, tyX8_ok, nmX8, am_u8, rfl, by decide +kernel, by decide +kernel⟩
theorem am_u9 : ∀ w ∈ u_ws RX9 TX9 42, w ∈ am_ws := List.forall_mem_cons.mpr ⟨am_t5 213 rfl rfl, List.forall_mem_cons.mpr ⟨am_t5 215 rfl rfl, List.forall_mem_cons.mpr ⟨am_t5 217 rfl rfl, List.forall_mem_cons.mpr ⟨am_t5 219 rfl rfl, List.forall_mem_cons.mpr ⟨am_t5 221 rfl rfl, List.forall_mem_cons.mpr ⟨am_t5 223 rfl rfl, List.forall_mem_cons.mpr ⟨am_t5 225 rfl rfl, List.forall_mem_cons.mpr ⟨am_t5 227 rfl rfl, List.forall_mem_cons.mpr ⟨am_t5 229 rfl rfl, List.forall_mem_cons.mpr ⟨am_t5 231 rfl rfl, List.forall_mem_cons.mpr ⟨am_t5 233 rfl rfl, List.forall_mem_cons.mpr ⟨am_t5 235 rfl rfl, List.forall_mem_cons.mpr ⟨am_t5 237 rfl rfl, List.forall_mem_cons.mpr ⟨am_t5 239 rfl rfl, List.forall_mem_cons.mpr ⟨am_t6 1 rfl rfl, List.forall_mem_cons.mpr ⟨am_t6 3 rfl rfl, List.forall_mem_cons.mpr ⟨am_t6 5 rfl rfl, List.forall_mem_cons.mpr ⟨am_t6 7 rfl rfl, List.forall_mem_cons.mpr ⟨am_t6 9 rfl rfl, List.forall_mem_cons.mpr ⟨am_t6 11 rfl rfl, List.forall_mem_cons.mpr ⟨am_t6 13 rfl rfl, List.forall_mem_cons.mpr ⟨am_t6 15 rfl rfl, List.forall_mem_cons.mpr ⟨am_t6 17 rfl rfl, List.forall_mem_cons.mpr ⟨am_t6 19 rfl rfl, List.forall_mem_cons.mpr ⟨am_t6 21 rfl rfl, List.forall_mem_cons.mpr ⟨am_t6 23 rfl rfl, List.forall_mem_cons.mpr ⟨am_t6 25 rfl rfl, List.forall_mem_cons.mpr ⟨am_t6 27 rfl rfl, List.forall_mem_cons.mpr ⟨am_t6 29 rfl rfl, List.forall_mem_cons.mpr ⟨am_t6 31 rfl rfl, List.forall_mem_cons.mpr ⟨am_t6 33 rfl rfl, List.forall_mem_cons.mpr ⟨am_t6 35 rfl rfl, List.forall_mem_cons.mpr ⟨am_t6 37 rfl rfl, List.forall_mem_cons.mpr ⟨am_t6 39 rfl rfl, List.forall_mem_cons.mpr ⟨am_t6 41 rfl rfl, List.forall_mem_cons.mpr ⟨am_t6 43 rfl rfl, List.forall_mem_cons.mpr ⟨am_t6 45 rfl rfl, List.forall_mem_cons.mpr ⟨am_t6 47 rfl rfl, List.forall_mem_cons.mpr ⟨am_t6 49 rfl rfl, List.forall_mem_cons.mpr ⟨am_t6 51 rfl rfl, List.forall_mem_cons.mpr ⟨am_t6 53 rfl rfl, List.forall_mem_cons.mpr ⟨am_t6 55 rfl rfl, fun _ h => absurd h List.not_mem_nil⟩⟩⟩⟩⟩⟩⟩⟩⟩⟩⟩⟩⟩⟩⟩⟩⟩⟩⟩⟩⟩⟩⟩⟩⟩⟩⟩⟩⟩⟩⟩⟩⟩⟩⟩⟩⟩⟩⟩⟩⟩⟩
theorem am_c9 : am_Cl 9 RX9 TX9 42 tyX9 := ⟨rfl, tyX9_ok, nmX9, am_u9, rfl, by decide +kernel, by decide +kernel⟩
theorem fl_Scen_9 : am_fl "NumberedSparks$Scene" 9 5 0 (.array .int) true := ⟨RX5, TX5, 8, tyX5, am_c5, by decide, rfl, rfl, wd_32⟩
theorem fl_Read_86 : am_fl "NumberedSparks$Reader" 86 5 0 (.array .int) true := ⟨RX5, TX5, 8, tyX5, am_c5, by decide, rfl, rfl, wd_33⟩
theorem fl_Scen_15 : am_fl "NumberedSparks$Scene" 15 5 1 (.array .int) true := ⟨RX5, TX5, 8, tyX5, am_c5, by decide, rfl, rfl, wd_34⟩
theorem fl_Scen_18 : am_fl "NumberedSparks$Scene" 18 5 2 (.array .int) true := ⟨RX5, TX5, 8, tyX5, am_c5, by decide, rfl, rfl, wd_35⟩
theorem fl_Scen_27 : am_fl "NumberedSparks$Scene" 27 5 3 .int false := ⟨RX5, TX5, 8, tyX5, am_c5, by decide, rfl, rfl, wd_36⟩
theorem fl_Walk_67 : am_fl "NumberedSparks$Walk" 67 5 3 .int false := ⟨RX5, TX5, 8, tyX5, am_c5, by decide, rfl, rfl, wd_37⟩
theorem fl_Read_99 : am_fl "NumberedSparks$Reader" 99 5 3 .int false := ⟨RX5, TX5, 8, tyX5, am_c5, by decide, rfl, rfl, wd_38⟩
theorem fl_NS_104 : am_fl "NumberedSparks" 104 5 3 .int false := ⟨RX5, TX5, 8, tyX5, am_c5, by decide, rfl, rfl, wd_39⟩
theorem fl_Scen_31 : am_fl "NumberedSparks$Scene" 31 5 4 .int false := ⟨RX5, TX5, 8, tyX5, am_c5, by decide, rfl, rfl, wd_40⟩
theorem fl_NS_107 : am_fl "NumberedSparks" 107 5 4 .int false := ⟨RX5, TX5, 8, tyX5, am_c5, by decide, rfl, rfl, wd_41⟩
theorem fl_Read_146 : am_fl "NumberedSparks$Reader" 146 5 4 .int false := ⟨RX5, TX5, 8, tyX5, am_c5, by decide, rfl, rfl, wd_42⟩
theorem fl_Scen_34 : am_fl "NumberedSparks$Scene" 34 5 5 .int false := ⟨RX5, TX5, 8, tyX5, am_c5, by decide, rfl, rfl, wd_43⟩
theorem fl_Read_97 : am_fl "NumberedSparks$Reader" 97 5 5 .int false := ⟨RX5, TX5, 8, tyX5, am_c5, by decide, rfl, rfl, wd_44⟩
theorem fl_Hist_35 : am_fl "NumberedSparks$History" 35 5 5 .int false := ⟨RX5, TX5, 8, tyX5, am_c5, by decide, rfl, rfl, wd_45⟩
theorem fl_NS_110 : am_fl "NumberedSparks" 110 5 5 .int false := ⟨RX5, TX5, 8, tyX5, am_c5, by decide, rfl, rfl, wd_46⟩
theorem fl_Scen_37 : am_fl "NumberedSparks$Scene" 37 5 6 .boolean false := ⟨RX5, TX5, 8, tyX5, am_c5, by decide, rfl, rfl, wd_47⟩
theorem fl_Read_92 : am_fl "NumberedSparks$Reader" 92 5 6 .boolean false := ⟨RX5, TX5, 8, tyX5, am_c5, by decide, rfl, rfl, wd_48⟩
theorem fl_Fram_51 : am_fl "NumberedSparks$Frame" 51 5 7 .boolean false := ⟨RX5, TX5, 8, tyX5, am_c5, by decide, rfl, rfl, wd_49⟩
theorem fl_Scen_47 : am_fl "NumberedSparks$Scene" 47 5 7 .boolean false := ⟨RX5, TX5, 8, tyX5, am_c5, by decide, rfl, rfl, wd_50⟩
theorem fl_NS_130 : am_fl "NumberedSparks" 130 5 7 .boolean false := ⟨RX5, TX5, 8, tyX5, am_c5, by decide, rfl, rfl, wd_51⟩
theorem fl_Read_12 : am_fl "NumberedSparks$Reader" 12 4 0 (.object "NumberedSparks$Scene") true := ⟨RX4, TX4, 9, tyX4, am_c4, by decide, rfl, rfl, wd_78⟩
theorem fl_NS_84 : am_fl "NumberedSparks" 84 4 0 (.object "NumberedSparks$Scene") true := ⟨RX4, TX4, 9, tyX4, am_c4, by decide, rfl, rfl, wd_79⟩
theorem fl_Read_38 : am_fl "NumberedSparks$Reader" 38 4 1 .int false := ⟨RX4, TX4, 9, tyX4, am_c4, by decide, rfl, rfl, wd_80⟩
theorem fl_NS_94 : am_fl "NumberedSparks" 94 4 1 .int false := ⟨RX4, TX4, 9, tyX4, am_c4, by decide, rfl, rfl, wd_81⟩
theorem fl_Read_18 : am_fl "NumberedSparks$Reader" 18 4 2 .int false := ⟨RX4, TX4, 9, tyX4, am_c4, by decide, rfl, rfl, wd_82⟩
theorem fl_NS_97 : am_fl "NumberedSparks" 97 4 2 .int false := ⟨RX4, TX4, 9, tyX4, am_c4, by decide, rfl, rfl, wd_83⟩
theorem fl_Read_22 : am_fl "NumberedSparks$Reader" 22 4 3 (.array .int) false := ⟨RX4, TX4, 9, tyX4, am_c4, by decide, rfl, rfl, wd_84⟩
theorem fl_Read_32 : am_fl "NumberedSparks$Reader" 32 4 4 .int false := ⟨RX4, TX4, 9, tyX4, am_c4, by decide, rfl, rfl, wd_85⟩
theorem fl_Read_50 : am_fl "NumberedSparks$Reader" 50 4 5 .int false := ⟨RX4, TX4, 9, tyX4, am_c4, by decide, rfl, rfl, wd_86⟩
theorem fl_Read_170 : am_fl "NumberedSparks$Reader" 170 4 6 .int false := ⟨RX4, TX4, 9, tyX4, am_c4, by decide, rfl, rfl, wd_87⟩
theorem fl_Read_41 : am_fl "NumberedSparks$Reader" 41 4 7 .int false := ⟨RX4, TX4, 9, tyX4, am_c4, by decide, rfl, rfl, wd_88⟩
theorem fl_Read_137 : am_fl "NumberedSparks$Reader" 137 4 8 .int false := ⟨RX4, TX4, 9, tyX4, am_c4, by decide, rfl, rfl, wd_89⟩
theorem fl_Hist_11 : am_fl "NumberedSparks$History" 11 2 0 (.array .int) true := ⟨RX2, TX2, 4, tyX2, am_c2, by decide, rfl, rfl, wd_115⟩
theorem fl_Hist_15 : am_fl "NumberedSparks$History" 15 2 1 (.array .int) true := ⟨RX2, TX2, 4, tyX2, am_c2, by decide, rfl, rfl, wd_116⟩
theorem fl_Hist_18 : am_fl "NumberedSparks$History" 18 2 2 (.array .int) true := ⟨RX2, TX2, 4, tyX2, am_c2, by decide, rfl, rfl, wd_117⟩
theorem fl_Hist_21 : am_fl "NumberedSparks$History" 21 2 3 .int false := ⟨RX2, TX2, 4, tyX2, am_c2, by decide, rfl, rfl, wd_118⟩
theorem fl_NS_155 : am_fl "NumberedSparks" 155 2 3 .int false := ⟨RX2, TX2, 4, tyX2, am_c2, by decide, rfl, rfl, wd_119⟩
theorem fl_Outp_9 : am_fl "NumberedSparks$Output" 9 3 0 (.array .int) true := ⟨RX3, TX3, 2, tyX3, am_c3, by decide, rfl, rfl, wd_135⟩
theorem fl_Outp_15 : am_fl "NumberedSparks$Output" 15 3 1 .int false := ⟨RX3, TX3, 2, tyX3, am_c3, by decide, rfl, rfl, wd_136⟩
theorem fl_NS_113 : am_fl "NumberedSparks" 113 3 1 .int false := ⟨RX3, TX3, 2, tyX3, am_c3, by decide, rfl, rfl, wd_137⟩
theorem fl_Sprk_18 : am_fl "NumberedSparks$Spark" 18 6 0 (.object "NumberedSparks$Scene") true := ⟨RX6, TX6, 10, tyX6, am_c6, by decide, rfl, rfl, wd_156⟩
theorem fl_Sprk_9 : am_fl "NumberedSparks$Spark" 9 6 1 (.array .int) true := ⟨RX6, TX6, 10, tyX6, am_c6, by decide, rfl, rfl, wd_157⟩
theorem fl_NS_264 : am_fl "NumberedSparks" 264 6 1 (.array .int) true := ⟨RX6, TX6, 10, tyX6, am_c6, by decide, rfl, rfl, wd_158⟩
theorem fl_Sprk_15 : am_fl "NumberedSparks$Spark" 15 6 2 (.array .int) true := ⟨RX6, TX6, 10, tyX6, am_c6, by decide, rfl, rfl, wd_159⟩
theorem fl_NS_203 : am_fl "NumberedSparks" 203 6 2 (.array .int) true := ⟨RX6, TX6, 10, tyX6, am_c6, by decide, rfl, rfl, wd_160⟩
theorem fl_Sprk_26 : am_fl "NumberedSparks$Spark" 26 6 3 .int false := ⟨RX6, TX6, 10, tyX6, am_c6, by decide, rfl, rfl, wd_161⟩
theorem fl_Fram_97 : am_fl "NumberedSparks$Frame" 97 6 3 .int false := ⟨RX6, TX6, 10, tyX6, am_c6, by decide, rfl, rfl, wd_162⟩
theorem fl_NS_249 : am_fl "NumberedSparks" 249 6 3 .int false := ⟨RX6, TX6, 10, tyX6, am_c6, by decide, rfl, rfl, wd_163⟩
theorem fl_Sprk_35 : am_fl "NumberedSparks$Spark" 35 6 4 .int false := ⟨RX6, TX6, 10, tyX6, am_c6, by decide, rfl, rfl, wd_164⟩
theorem fl_Fram_100 : am_fl "NumberedSparks$Frame" 100 6 4 .int false := ⟨RX6, TX6, 10, tyX6, am_c6, by decide, rfl, rfl, wd_165⟩
theorem fl_Walk_101 : am_fl "NumberedSparks$Walk" 101 6 4 .int false := ⟨RX6, TX6, 10, tyX6, am_c6, by decide, rfl, rfl, wd_166⟩
theorem fl_NS_180 : am_fl "NumberedSparks" 180 6 4 .int false := ⟨RX6, TX6, 10, tyX6, am_c6, by decide, rfl, rfl, wd_167⟩
theorem fl_Sprk_38 : am_fl "NumberedSparks$Spark" 38 6 5 .int false := ⟨RX6, TX6, 10, tyX6, am_c6, by decide, rfl, rfl, wd_168⟩
theorem fl_Walk_118 : am_fl "NumberedSparks$Walk" 118 6 5 .int false := ⟨RX6, TX6, 10, tyX6, am_c6, by decide, rfl, rfl, wd_169⟩
theorem fl_NS_191 : am_fl "NumberedSparks" 191 6 5 .int false := ⟨RX6, TX6, 10, tyX6, am_c6, by decide, rfl, rfl, wd_170⟩
theorem fl_Sprk_41 : am_fl "NumberedSparks$Spark" 41 6 6 .int false := ⟨RX6, TX6, 10, tyX6, am_c6, by decide, rfl, rfl, wd_171⟩
theorem fl_Fram_92 : am_fl "NumberedSparks$Frame" 92 6 6 .int false := ⟨RX6, TX6, 10, tyX6, am_c6, by decide, rfl, rfl, wd_172⟩
theorem fl_Walk_112 : am_fl "NumberedSparks$Walk" 112 6 6 .int false := ⟨RX6, TX6, 10, tyX6, am_c6, by decide, rfl, rfl, wd_173⟩
theorem fl_NS_197 : am_fl "NumberedSparks" 197 6 6 .int false := ⟨RX6, TX6, 10, tyX6, am_c6, by decide, rfl, rfl, wd_174⟩
theorem fl_Sprk_51 : am_fl "NumberedSparks$Spark" 51 6 7 .int false := ⟨RX6, TX6, 10, tyX6, am_c6, by decide, rfl, rfl, wd_175⟩
theorem fl_Fram_103 : am_fl "NumberedSparks$Frame" 103 6 7 .int false := ⟨RX6, TX6, 10, tyX6, am_c6, by decide, rfl, rfl, wd_176⟩
theorem fl_Walk_115 : am_fl "NumberedSparks$Walk" 115 6 7 .int false := ⟨RX6, TX6, 10, tyX6, am_c6, by decide, rfl, rfl, wd_177⟩
theorem fl_NS_200 : am_fl "NumberedSparks" 200 6 7 .int false := ⟨RX6, TX6, 10, tyX6, am_c6, by decide, rfl, rfl, wd_178⟩
theorem fl_Sprk_60 : am_fl "NumberedSparks$Spark" 60 6 8 .int false := ⟨RX6, TX6, 10, tyX6, am_c6, by decide, rfl, rfl, wd_179⟩
theorem fl_Sprk_63 : am_fl "NumberedSparks$Spark" 63 6 9 .int false := ⟨RX6, TX6, 10, tyX6, am_c6, by decide, rfl, rfl, wd_180⟩
theorem fl_Walk_30 : am_fl "NumberedSparks$Walk" 30 7 0 (.object "NumberedSparks$Scene") true := ⟨RX7, TX7, 9, tyX7, am_c7, by decide, rfl, rfl, wd_202⟩
theorem fl_Walk_11 : am_fl "NumberedSparks$Walk" 11 7 1 (.array (.object "NumberedSparks$Spark")) true := ⟨RX7, TX7, 9, tyX7, am_c7, by decide, rfl, rfl, wd_203⟩
theorem fl_Walk_17 : am_fl "NumberedSparks$Walk" 17 7 2 (.array .int) true := ⟨RX7, TX7, 9, tyX7, am_c7, by decide, rfl, rfl, wd_204⟩
theorem fl_Walk_21 : am_fl "NumberedSparks$Walk" 21 7 3 (.array .int) true := ⟨RX7, TX7, 9, tyX7, am_c7, by decide, rfl, rfl, wd_205⟩
theorem fl_Walk_24 : am_fl "NumberedSparks$Walk" 24 7 4 (.array .int) true := ⟨RX7, TX7, 9, tyX7, am_c7, by decide, rfl, rfl, wd_206⟩
theorem fl_Walk_27 : am_fl "NumberedSparks$Walk" 27 7 5 (.array .int) true := ⟨RX7, TX7, 9, tyX7, am_c7, by decide, rfl, rfl, wd_207⟩
theorem fl_Walk_37 : am_fl "NumberedSparks$Walk" 37 7 6 .int false := ⟨RX7, TX7, 9, tyX7, am_c7, by decide, rfl, rfl, wd_208⟩
theorem fl_Walk_41 : am_fl "NumberedSparks$Walk" 41 7 7 .int false := ⟨RX7, TX7, 9, tyX7, am_c7, by decide, rfl, rfl, wd_209⟩
theorem fl_Fram_75 : am_fl "NumberedSparks$Frame" 75 7 8 .int false := ⟨RX7, TX7, 9, tyX7, am_c7, by decide, rfl, rfl, wd_210⟩
theorem fl_Walk_76 : am_fl "NumberedSparks$Walk" 76 7 8 .int false := ⟨RX7, TX7, 9, tyX7, am_c7, by decide, rfl, rfl, wd_211⟩
theorem fl_NS_243 : am_fl "NumberedSparks" 243 7 8 .int false := ⟨RX7, TX7, 9, tyX7, am_c7, by decide, rfl, rfl, wd_212⟩
theorem fl_Fram_43 : am_fl "NumberedSparks$Frame" 43 1 0 (.object "NumberedSparks$Scene") true := ⟨RX1, TX1, 13, tyX1, am_c1, by decide, rfl, rfl, wd_238⟩
theorem fl_Fram_47 : am_fl "NumberedSparks$Frame" 47 1 1 (.object "NumberedSparks$Walk") true := ⟨RX1, TX1, 13, tyX1, am_c1, by decide, rfl, rfl, wd_239⟩
theorem fl_Fram_61 : am_fl "NumberedSparks$Frame" 61 1 2 .int false := ⟨RX1, TX1, 13, tyX1, am_c1, by decide, rfl, rfl, wd_240⟩
theorem fl_NS_312 : am_fl "NumberedSparks" 312 1 2 .int false := ⟨RX1, TX1, 13, tyX1, am_c1, by decide, rfl, rfl, wd_241⟩
theorem fl_Fram_9 : am_fl "NumberedSparks$Frame" 9 1 3 (.array .int) false := ⟨RX1, TX1, 13, tyX1, am_c1, by decide, rfl, rfl, wd_242⟩
theorem fl_NS_316 : am_fl "NumberedSparks" 316 1 3 (.array .int) false := ⟨RX1, TX1, 13, tyX1, am_c1, by decide, rfl, rfl, wd_243⟩
theorem fl_Fram_15 : am_fl "NumberedSparks$Frame" 15 1 4 (.array .int) false := ⟨RX1, TX1, 13, tyX1, am_c1, by decide, rfl, rfl, wd_244⟩
theorem fl_NS_313 : am_fl "NumberedSparks" 313 1 4 (.array .int) false := ⟨RX1, TX1, 13, tyX1, am_c1, by decide, rfl, rfl, wd_245⟩
theorem fl_Fram_18 : am_fl "NumberedSparks$Frame" 18 1 5 (.array .int) false := ⟨RX1, TX1, 13, tyX1, am_c1, by decide, rfl, rfl, wd_246⟩
theorem fl_NS_361 : am_fl "NumberedSparks" 361 1 5 (.array .int) false := ⟨RX1, TX1, 13, tyX1, am_c1, by decide, rfl, rfl, wd_247⟩
theorem fl_Fram_21 : am_fl "NumberedSparks$Frame" 21 1 6 (.array .int) false := ⟨RX1, TX1, 13, tyX1, am_c1, by decide, rfl, rfl, wd_248⟩
theorem fl_NS_364 : am_fl "NumberedSparks" 364 1 6 (.array .int) false := ⟨RX1, TX1, 13, tyX1, am_c1, by decide, rfl, rfl, wd_249⟩
theorem fl_Fram_24 : am_fl "NumberedSparks$Frame" 24 1 7 (.array .int) false := ⟨RX1, TX1, 13, tyX1, am_c1, by decide, rfl, rfl, wd_250⟩
theorem fl_NS_326 : am_fl "NumberedSparks" 326 1 7 (.array .int) false := ⟨RX1, TX1, 13, tyX1, am_c1, by decide, rfl, rfl, wd_251⟩
theorem fl_Fram_27 : am_fl "NumberedSparks$Frame" 27 1 8 (.array .int) false := ⟨RX1, TX1, 13, tyX1, am_c1, by decide, rfl, rfl, wd_252⟩
theorem fl_NS_329 : am_fl "NumberedSparks" 329 1 8 (.array .int) false := ⟨RX1, TX1, 13, tyX1, am_c1, by decide, rfl, rfl, wd_253⟩
theorem fl_Fram_30 : am_fl "NumberedSparks$Frame" 30 1 9 (.array .int) false := ⟨RX1, TX1, 13, tyX1, am_c1, by decide, rfl, rfl, wd_254⟩
theorem fl_NS_332 : am_fl "NumberedSparks" 332 1 9 (.array .int) false := ⟨RX1, TX1, 13, tyX1, am_c1, by decide, rfl, rfl, wd_255⟩
theorem fl_Fram_33 : am_fl "NumberedSparks$Frame" 33 1 10 (.array .int) false := ⟨RX1, TX1, 13, tyX1, am_c1, by decide, rfl, rfl, wd_256⟩
theorem fl_NS_319 : am_fl "NumberedSparks" 319 1 10 (.array .int) false := ⟨RX1, TX1, 13, tyX1, am_c1, by decide, rfl, rfl, wd_257⟩
theorem fl_Fram_36 : am_fl "NumberedSparks$Frame" 36 1 11 (.array .int) true := ⟨RX1, TX1, 13, tyX1, am_c1, by decide, rfl, rfl, wd_258⟩
theorem fl_Fram_39 : am_fl "NumberedSparks$Frame" 39 1 12 .int false := ⟨RX1, TX1, 13, tyX1, am_c1, by decide, rfl, rfl, wd_259⟩
theorem fl_Find_7 : am_fl "NumberedSparks$Finder" 7 0 0 (.object "NumberedSparks$Scene") true := ⟨RX0, TX0, 4, tyX0, am_c0, by decide, rfl, rfl, wd_295⟩
theorem fl_Find_18 : am_fl "NumberedSparks$Finder" 18 0 1 (.object "NumberedSparks$Spark") true := ⟨RX0, TX0, 4, tyX0, am_c0, by decide, rfl, rfl, wd_296⟩
theorem fl_Find_22 : am_fl "NumberedSparks$Finder" 22 0 2 (.object "NumberedSparks$Spark") true := ⟨RX0, TX0, 4, tyX0, am_c0, by decide, rfl, rfl, wd_297⟩
theorem fl_Find_25 : am_fl "NumberedSparks$Finder" 25 0 3 (.object "NumberedSparks$Spark") true := ⟨RX0, TX0, 4, tyX0, am_c0, by decide, rfl, rfl, wd_298⟩
theorem fl_NS_9 : am_fl "NumberedSparks" 9 8 0 (.array .int) true := ⟨RX8, TX8, 11, tyX8, am_c8, by decide, rfl, rfl, wd_308⟩
theorem fl_NS_72 : am_fl "NumberedSparks" 72 8 1 .int false := ⟨RX8, TX8, 11, tyX8, am_c8, by decide, rfl, rfl, wd_309⟩
theorem fl_NS_16 : am_fl "NumberedSparks" 16 8 2 (.object "NumberedSparks$Scene") true := ⟨RX8, TX8, 11, tyX8, am_c8, by decide, rfl, rfl, wd_310⟩
theorem fl_NS_23 : am_fl "NumberedSparks" 23 8 3 (.object "NumberedSparks$Reader") true := ⟨RX8, TX8, 11, tyX8, am_c8, by decide, rfl, rfl, wd_311⟩
theorem fl_NS_30 : am_fl "NumberedSparks" 30 8 4 (.object "NumberedSparks$History") true := ⟨RX8, TX8, 11, tyX8, am_c8, by decide, rfl, rfl, wd_312⟩
theorem fl_NS_37 : am_fl "NumberedSparks" 37 8 5 (.object "NumberedSparks$Output") true := ⟨RX8, TX8, 11, tyX8, am_c8, by decide, rfl, rfl, wd_313⟩
theorem fl_NS_46 : am_fl "NumberedSparks" 46 8 6 (.object "NumberedSparks$Walk") true := ⟨RX8, TX8, 11, tyX8, am_c8, by decide, rfl, rfl, wd_314⟩
theorem fl_NS_55 : am_fl "NumberedSparks" 55 8 7 (.object "NumberedSparks$Frame") true := ⟨RX8, TX8, 11, tyX8, am_c8, by decide, rfl, rfl, wd_315⟩
theorem fl_NS_62 : am_fl "NumberedSparks" 62 8 8 (.object "NumberedSparks$Finder") true := ⟨RX8, TX8, 11, tyX8, am_c8, by decide, rfl, rfl, wd_316⟩
theorem fl_NS_66 : am_fl "NumberedSparks" 66 8 9 (.object "NumberedSparks$Finder") true := ⟨RX8, TX8, 11, tyX8, am_c8, by decide, rfl, rfl, wd_317⟩
theorem fl_NS_69 : am_fl "NumberedSparks" 69 8 10 (.array .int) true := ⟨RX8, TX8, 11, tyX8, am_c8, by decide, rfl, rfl, wd_318⟩
theorem fl_Md_219 : am_fl "NumberedSparksModel" 219 9 1 .boolean false := ⟨RX9, TX9, 42, tyX9, am_c9, by decide, rfl, rfl, wd_1132⟩
theorem fl_Md_7 : am_fl "NumberedSparksModel" 7 9 2 (.array .int) true := ⟨RX9, TX9, 42, tyX9, am_c9, by decide, rfl, rfl, wd_1133⟩
theorem fl_Md_222 : am_fl "NumberedSparksModel" 222 9 3 .int false := ⟨RX9, TX9, 42, tyX9, am_c9, by decide, rfl, rfl, wd_1134⟩
theorem fl_Md_224 : am_fl "NumberedSparksModel" 224 9 4 .int false := ⟨RX9, TX9, 42, tyX9, am_c9, by decide, rfl, rfl, wd_1135⟩
theorem fl_Md_13 : am_fl "NumberedSparksModel" 13 9 5 (.array .int) true := ⟨RX9, TX9, 42, tyX9, am_c9, by decide, rfl, rfl, wd_1136⟩
theorem fl_Md_227 : am_fl "NumberedSparksModel" 227 9 6 .int false := ⟨RX9, TX9, 42, tyX9, am_c9, by decide, rfl, rfl, wd_1137⟩
theorem fl_Md_16 : am_fl "NumberedSparksModel" 16 9 7 (.array .int) true := ⟨RX9, TX9, 42, tyX9, am_c9, by decide, rfl, rfl, wd_1138⟩
theorem fl_Md_19 : am_fl "NumberedSparksModel" 19 9 8 (.array .int) true := ⟨RX9, TX9, 42, tyX9, am_c9, by decide, rfl, rfl, wd_1139⟩
theorem fl_Md_198 : am_fl "NumberedSparksModel" 198 9 9 .int false := ⟨RX9, TX9, 42, tyX9, am_c9, by decide, rfl, rfl, wd_1140⟩
theorem fl_Md_153 : am_fl "NumberedSparksModel" 153 9 10 .int false := ⟨RX9, TX9, 42, tyX9, am_c9, by decide, rfl, rfl, wd_1141⟩
theorem fl_Md_22 : am_fl "NumberedSparksModel" 22 9 11 (.array .int) true := ⟨RX9, TX9, 42, tyX9, am_c9, by decide, rfl, rfl, wd_1142⟩
theorem fl_Md_180 : am_fl "NumberedSparksModel" 180 9 12 .int false := ⟨RX9, TX9, 42, tyX9, am_c9, by decide, rfl, rfl, wd_1143⟩
theorem fl_Md_25 : am_fl "NumberedSparksModel" 25 9 13 (.array .int) true := ⟨RX9, TX9, 42, tyX9, am_c9, by decide, rfl, rfl, wd_1144⟩
theorem fl_Md_28 : am_fl "NumberedSparksModel" 28 9 14 (.array .byte) true := ⟨RX9, TX9, 42, tyX9, am_c9, by decide, rfl, rfl, wd_1145⟩
theorem fl_Md_74 : am_fl "NumberedSparksModel" 74 9 15 .int false := ⟨RX9, TX9, 42, tyX9, am_c9, by decide, rfl, rfl, wd_1146⟩
theorem fl_Md_92 : am_fl "NumberedSparksModel" 92 9 16 .int false := ⟨RX9, TX9, 42, tyX9, am_c9, by decide, rfl, rfl, wd_1147⟩
theorem fl_Md_95 : am_fl "NumberedSparksModel" 95 9 17 .int false := ⟨RX9, TX9, 42, tyX9, am_c9, by decide, rfl, rfl, wd_1148⟩
theorem fl_Md_102 : am_fl "NumberedSparksModel" 102 9 18 .int false := ⟨RX9, TX9, 42, tyX9, am_c9, by decide, rfl, rfl, wd_1149⟩
theorem fl_Md_105 : am_fl "NumberedSparksModel" 105 9 19 .int false := ⟨RX9, TX9, 42, tyX9, am_c9, by decide, rfl, rfl, wd_1150⟩
theorem fl_Md_116 : am_fl "NumberedSparksModel" 116 9 20 .int false := ⟨RX9, TX9, 42, tyX9, am_c9, by decide, rfl, rfl, wd_1151⟩
theorem fl_Md_85 : am_fl "NumberedSparksModel" 85 9 21 .int false := ⟨RX9, TX9, 42, tyX9, am_c9, by decide, rfl, rfl, wd_1152⟩
theorem fl_Md_32 : am_fl "NumberedSparksModel" 32 9 22 .int false := ⟨RX9, TX9, 42, tyX9, am_c9, by decide, rfl, rfl, wd_1153⟩
theorem fl_Md_193 : am_fl "NumberedSparksModel" 193 9 23 .boolean false := ⟨RX9, TX9, 42, tyX9, am_c9, by decide, rfl, rfl, wd_1154⟩
theorem fl_Md_230 : am_fl "NumberedSparksModel" 230 9 24 .int false := ⟨RX9, TX9, 42, tyX9, am_c9, by decide, rfl, rfl, wd_1155⟩
theorem fl_Md_36 : am_fl "NumberedSparksModel" 36 9 25 (.array .int) true := ⟨RX9, TX9, 42, tyX9, am_c9, by decide, rfl, rfl, wd_1156⟩
theorem fl_Md_39 : am_fl "NumberedSparksModel" 39 9 26 (.array .int) true := ⟨RX9, TX9, 42, tyX9, am_c9, by decide, rfl, rfl, wd_1157⟩
theorem fl_Md_278 : am_fl "NumberedSparksModel" 278 9 27 .int false := ⟨RX9, TX9, 42, tyX9, am_c9, by decide, rfl, rfl, wd_1158⟩
theorem fl_Md_292 : am_fl "NumberedSparksModel" 292 9 28 .int false := ⟨RX9, TX9, 42, tyX9, am_c9, by decide, rfl, rfl, wd_1159⟩
theorem fl_Md_303 : am_fl "NumberedSparksModel" 303 9 29 .int false := ⟨RX9, TX9, 42, tyX9, am_c9, by decide, rfl, rfl, wd_1160⟩
theorem fl_Md_42 : am_fl "NumberedSparksModel" 42 9 30 (.array .int) true := ⟨RX9, TX9, 42, tyX9, am_c9, by decide, rfl, rfl, wd_1161⟩
theorem fl_Md_45 : am_fl "NumberedSparksModel" 45 9 31 (.array .int) true := ⟨RX9, TX9, 42, tyX9, am_c9, by decide, rfl, rfl, wd_1162⟩
theorem fl_Md_48 : am_fl "NumberedSparksModel" 48 9 32 (.array .int) true := ⟨RX9, TX9, 42, tyX9, am_c9, by decide, rfl, rfl, wd_1163⟩
theorem fl_Md_51 : am_fl "NumberedSparksModel" 51 9 33 (.array .int) true := ⟨RX9, TX9, 42, tyX9, am_c9, by decide, rfl, rfl, wd_1164⟩
theorem fl_Md_361 : am_fl "NumberedSparksModel" 361 9 34 .int false := ⟨RX9, TX9, 42, tyX9, am_c9, by decide, rfl, rfl, wd_1165⟩
theorem fl_Md_54 : am_fl "NumberedSparksModel" 54 9 35 (.array .long) true := ⟨RX9, TX9, 42, tyX9, am_c9, by decide, rfl, rfl, wd_1166⟩
theorem fl_Md_58 : am_fl "NumberedSparksModel" 58 9 36 (.array .int) true := ⟨RX9, TX9, 42, tyX9, am_c9, by decide, rfl, rfl, wd_1167⟩
theorem fl_Md_61 : am_fl "NumberedSparksModel" 61 9 37 (.array .int) true := ⟨RX9, TX9, 42, tyX9, am_c9, by decide, rfl, rfl, wd_1168⟩
theorem fl_Md_65 : am_fl "NumberedSparksModel" 65 9 38 (.array .int) true := ⟨RX9, TX9, 42, tyX9, am_c9, by decide, rfl, rfl, wd_1169⟩
theorem fl_Md_443 : am_fl "NumberedSparksModel" 443 9 39 .int false := ⟨RX9, TX9, 42, tyX9, am_c9, by decide, rfl, rfl, wd_1170⟩
theorem fl_Md_68 : am_fl "NumberedSparksModel" 68 9 40 (.array .byte) true := ⟨RX9, TX9, 42, tyX9, am_c9, by decide, rfl, rfl, wd_1171⟩
theorem fl_Md_233 : am_fl "NumberedSparksModel" 233 9 41 .int false := ⟨RX9, TX9, 42, tyX9, am_c9, by decide, rfl, rfl, wd_1172⟩
end
section
/-! ===== naming, decode tables, narrow returns ===== -/
abbrev am_Dec (cc : ByteArray) (t : List (Nat × Instr × Nat)) : Prop := t.all (fun q => decide (decode cc q.1 = .ok (q.2.1, q.2.2))) = true
theorem am_Dec.at {cc : ByteArray} {t : List (Nat × Instr × Nat)} (h : am_Dec cc t) (j : Nat) {pc : Nat} {i : Instr} {n : Nat} (hj : t[j]? = some (pc, i, n)) : decode cc pc = .ok (i, n) := by
  have h1 := List.all_eq_true.mp h _ (List.mem_of_getElem? hj)
  exact of_decide_eq_true h1
def zR (ty : FieldType) (x : Int32) (r : am_R) : am_R := if narrow ty (.int x) = .int x then r else none
section RfNm
variable {G : am_G} {l : Launch} {X : am_X} {pc : Nat} {ls st : List Value} {M : am_M} {o : am_R} {x y : Int32} {i : Nat}
theorem r_nmi {e : Int32} {f : Int32 → am_R} (k : ∀ x, Rf G l X pc ls (.int x :: st) M (f x)) : Rf G l X pc ls (.int e :: st) M (nm e f) := k e
theorem r_nml {e : Int64} {f : Int64 → am_R} (k : ∀ x, Rf G l X pc ls (.long x :: st) M (f x)) : Rf G l X pc ls (.long e :: st) M (nm e f) := k e
theorem r_iincn {n : Int} {v : Int32} {f : Int32 → am_R} (hd : decode (xC X) pc = .ok (.iinc i n, 3)) (hi : i < xL X) (hl : ls[i]? = some (.int x)) (hv : Int32.ofInt n = v) (ls' : Int32 → List Value) (hs : ∀ y, st1 ls i (.int y) = ls' y) (k : ∀ y, Rf G l X (pc + 3) (ls' y) st M (f y)) : Rf G l X pc ls st M (nm (x + v) f) := r_iinc hd hi hl (by rw [hv]) (hs _) (k _)
theorem r_zretC {ty : FieldType} (hd : decode (xC X) pc = .ok (.ireturn, 1)) (hr : xT X = some ty) : Rf G l X pc ls [.int x] M (zR ty x (some (some (.int x), M))) := by
  unfold zR
  exact Rf.ite (fun h => r_zret hd hr h) (fun _ => Rf.no)
theorem swn {k : Int} {v : Int32} (hk : v.toInt = k) (h : ¬ x = v) : x.toInt ≠ k := fun e => h (Int32.toInt_inj.mp (by rw [e, hk]))
end RfNm
def nz (w : Nat) (r : am_R) : am_R := if w = 0 then none else r
theorem r_aload_sv {G : am_G} {l : Launch} {X : am_X} {pc : Nat} {ls st : List Value} {M : am_M} {o : am_R} {a : Nat} {j : Fin 4} (hd : decode (xC X) pc = .ok (.aload_n j, 1)) (hl : ls[(j : Nat)]? = some (.retAddr a)) (k : Rf G l X (pc + 1) ls (.retAddr a :: st) M o) : Rf G l X pc ls st M (nz a o) := by
  unfold nz
  exact Rf.ite (fun _ => Rf.no) (fun h => r_aload_s hd hl h k)
end
section
/-! ===== methods' heads and decode tables (printed by wip/whole/emit.py) ===== -/
def y_Scen_init : MethodName := ⟨"NumberedSparks$Scene", "<init>", "()V"⟩
abbrev X_Scen_init : am_X := ("NumberedSparks$Scene", prog_7_method_1_code, 1, none, "<init>", 1)
theorem mb_Scen_init : am_mb y_Scen_init X_Scen_init 0 := ⟨wd_30, wd_2, ⟨by decide +kernel, by decide +kernel⟩, by decide +kernel, by decide, rfl⟩
def T_Scen_init : List (Nat × Instr × Nat) := [(0, .aload_n 0, 1), (1, .invokespecial 3, 3), (4, .aload_n 0, 1), (5, .iconst 3, 1), (6, .newarray .int, 2), (8, .putfield 9, 3), (11, .aload_n 0, 1), (12, .bipush 40, 2), (14, .newarray .int, 2), (16, .putfield 15, 3), (19, .aload_n 0, 1), (20, .bipush 40, 2), (22, .newarray .int, 2), (24, .putfield 18, 3), (27, .return_, 1)]
theorem dt_Scen_init : am_Dec (xC X_Scen_init) T_Scen_init := by decide +kernel
def y_Read_init : MethodName := ⟨"NumberedSparks$Reader", "<init>", "()V"⟩
abbrev X_Read_init : am_X := ("NumberedSparks$Reader", prog_6_method_1_code, 1, none, "<init>", 2)
theorem mb_Read_init : am_mb y_Read_init X_Read_init 0 := ⟨wd_74, wd_3, ⟨by decide +kernel, by decide +kernel⟩, by decide +kernel, by decide, rfl⟩
def T_Read_init : List (Nat × Instr × Nat) := [(0, .aload_n 0, 1), (1, .invokespecial 3, 3), (4, .aload_n 0, 1), (5, .new 9, 3), (8, .dup, 1), (9, .invokespecial 11, 3), (12, .putfield 12, 3), (15, .aload_n 0, 1), (16, .iconst (-1), 1), (17, .putfield 18, 3), (20, .aload_n 0, 1), (21, .iconst 0, 1), (22, .newarray .int, 2), (24, .putfield 22, 3), (27, .return_, 1)]
theorem dt_Read_init : am_Dec (xC X_Read_init) T_Read_init := by decide +kernel
def y_Hist_init : MethodName := ⟨"NumberedSparks$History", "<init>", "()V"⟩
abbrev X_Hist_init : am_X := ("NumberedSparks$History", prog_4_method_1_code, 1, none, "<init>", 1)
theorem mb_Hist_init : am_mb y_Hist_init X_Hist_init 0 := ⟨wd_113, wd_4, ⟨by decide +kernel, by decide +kernel⟩, by decide +kernel, by decide, rfl⟩
def T_Hist_init : List (Nat × Instr × Nat) := [(0, .aload_n 0, 1), (1, .invokespecial 3, 3), (4, .aload_n 0, 1), (5, .bipush 10, 2), (7, .newarray .int, 2), (9, .putfield 11, 3), (12, .aload_n 0, 1), (13, .bipush 10, 2), (15, .newarray .int, 2), (17, .putfield 15, 3), (20, .aload_n 0, 1), (21, .bipush 10, 2), (23, .newarray .int, 2), (25, .putfield 18, 3), (28, .return_, 1)]
theorem dt_Hist_init : am_Dec (xC X_Hist_init) T_Hist_init := by decide +kernel
def y_Outp_init : MethodName := ⟨"NumberedSparks$Output", "<init>", "()V"⟩
abbrev X_Outp_init : am_X := ("NumberedSparks$Output", prog_5_method_1_code, 1, none, "<init>", 1)
theorem mb_Outp_init : am_mb y_Outp_init X_Outp_init 0 := ⟨wd_133, wd_5, ⟨by decide +kernel, by decide +kernel⟩, by decide +kernel, by decide, rfl⟩
def T_Outp_init : List (Nat × Instr × Nat) := [(0, .aload_n 0, 1), (1, .invokespecial 3, 3), (4, .aload_n 0, 1), (5, .sipush 1640, 3), (8, .newarray .int, 2), (10, .putfield 9, 3), (13, .return_, 1)]
theorem dt_Outp_init : am_Dec (xC X_Outp_init) T_Outp_init := by decide +kernel
def y_Sprk_init : MethodName := ⟨"NumberedSparks$Spark", "<init>", "(LNumberedSparks$Scene;)V"⟩
abbrev X_Sprk_init : am_X := ("NumberedSparks$Spark", prog_8_method_1_code, 2, none, "<init>", 1)
theorem mb_Sprk_init : am_mb y_Sprk_init X_Sprk_init 1 := ⟨wd_154, wd_7, ⟨by decide +kernel, by decide +kernel⟩, by decide +kernel, by decide, rfl⟩
def T_Sprk_init : List (Nat × Instr × Nat) := [(0, .aload_n 0, 1), (1, .invokespecial 3, 3), (4, .aload_n 0, 1), (5, .iconst 3, 1), (6, .newarray .int, 2), (8, .putfield 9, 3), (11, .aload_n 0, 1), (12, .iconst 3, 1), (13, .newarray .int, 2), (15, .putfield 15, 3), (18, .aload_n 0, 1), (19, .aload_n 1, 1), (20, .putfield 18, 3), (23, .return_, 1)]
theorem dt_Sprk_init : am_Dec (xC X_Sprk_init) T_Sprk_init := by decide +kernel
def y_Walk_init : MethodName := ⟨"NumberedSparks$Walk", "<init>", "(LNumberedSparks$Scene;)V"⟩
abbrev X_Walk_init : am_X := ("NumberedSparks$Walk", prog_9_method_1_code, 3, none, "<init>", 2)
theorem mb_Walk_init : am_mb y_Walk_init X_Walk_init 1 := ⟨wd_147, wd_6, ⟨by decide +kernel, by decide +kernel⟩, by decide +kernel, by decide, rfl⟩
def T_Walk_init : List (Nat × Instr × Nat) := [(0, .aload_n 0, 1), (1, .invokespecial 3, 3), (4, .aload_n 0, 1), (5, .bipush 7, 2), (7, .anewarray 9, 3), (10, .putfield 11, 3), (13, .aload_n 0, 1), (14, .bipush 7, 2), (16, .newarray .int, 2), (18, .putfield 17, 3), (21, .aload_n 0, 1), (22, .iconst 4, 1), (23, .newarray .int, 2), (25, .putfield 21, 3), (28, .aload_n 0, 1), (29, .iconst 4, 1), (30, .newarray .int, 2), (32, .putfield 24, 3), (35, .aload_n 0, 1), (36, .bipush 15, 2), (38, .newarray .int, 2), (40, .putfield 27, 3), (43, .aload_n 0, 1), (44, .aload_n 1, 1), (45, .putfield 30, 3), (48, .iconst 0, 1), (49, .istore_n 2, 1), (50, .iload_n 2, 1), (51, .bipush 7, 2), (53, .if_icmp .ge 23, 3), (56, .aload_n 0, 1), (57, .getfield 11, 3), (60, .iload_n 2, 1), (61, .new 9, 3), (64, .dup, 1), (65, .aload_n 1, 1), (66, .invokespecial 34, 3), (69, .aastore, 1), (70, .iinc 2 1, 3), (73, .goto (-23), 3), (76, .return_, 1)]
theorem dt_Walk_init : am_Dec (xC X_Walk_init) T_Walk_init := by decide +kernel
def y_Fram_init : MethodName := ⟨"NumberedSparks$Frame", "<init>", "(LNumberedSparks$Scene;LNumberedSparks$Walk;)V"⟩
abbrev X_Fram_init : am_X := ("NumberedSparks$Frame", prog_3_method_1_code, 3, none, "<init>", 1)
theorem mb_Fram_init : am_mb y_Fram_init X_Fram_init 2 := ⟨wd_236, wd_8, ⟨by decide +kernel, by decide +kernel⟩, by decide +kernel, by decide, rfl⟩
def T_Fram_init : List (Nat × Instr × Nat) := [(0, .aload_n 0, 1), (1, .invokespecial 3, 3), (4, .aload_n 0, 1), (5, .bipush 16, 2), (7, .newarray .int, 2), (9, .putfield 9, 3), (12, .aload_n 0, 1), (13, .bipush 16, 2), (15, .newarray .int, 2), (17, .putfield 15, 3), (20, .aload_n 0, 1), (21, .bipush 16, 2), (23, .newarray .int, 2), (25, .putfield 18, 3), (28, .aload_n 0, 1), (29, .bipush 16, 2), (31, .newarray .int, 2), (33, .putfield 21, 3), (36, .aload_n 0, 1), (37, .bipush 16, 2), (39, .newarray .int, 2), (41, .putfield 24, 3), (44, .aload_n 0, 1), (45, .bipush 16, 2), (47, .newarray .int, 2), (49, .putfield 27, 3), (52, .aload_n 0, 1), (53, .bipush 16, 2), (55, .newarray .int, 2), (57, .putfield 30, 3), (60, .aload_n 0, 1), (61, .bipush 16, 2), (63, .newarray .int, 2), (65, .putfield 33, 3), (68, .aload_n 0, 1), (69, .sipush 320, 3), (72, .newarray .int, 2), (74, .putfield 36, 3), (77, .aload_n 0, 1), (78, .iconst (-1), 1), (79, .putfield 39, 3), (82, .aload_n 0, 1), (83, .aload_n 1, 1), (84, .putfield 43, 3), (87, .aload_n 0, 1), (88, .aload_n 2, 1), (89, .putfield 47, 3), (92, .return_, 1)]
theorem dt_Fram_init : am_Dec (xC X_Fram_init) T_Fram_init := by decide +kernel
def y_Find_init : MethodName := ⟨"NumberedSparks$Finder", "<init>", "(LNumberedSparks$Scene;)V"⟩
abbrev X_Find_init : am_X := ("NumberedSparks$Finder", prog_2_method_1_code, 2, none, "<init>", 2)
theorem mb_Find_init : am_mb y_Find_init X_Find_init 1 := ⟨wd_291, wd_9, ⟨by decide +kernel, by decide +kernel⟩, by decide +kernel, by decide, rfl⟩
def T_Find_init : List (Nat × Instr × Nat) := [(0, .aload_n 0, 1), (1, .invokespecial 1, 3), (4, .aload_n 0, 1), (5, .aload_n 1, 1), (6, .putfield 7, 3), (9, .aload_n 0, 1), (10, .new 13, 3), (13, .dup, 1), (14, .aload_n 1, 1), (15, .invokespecial 15, 3), (18, .putfield 18, 3), (21, .aload_n 0, 1), (22, .new 13, 3), (25, .dup, 1), (26, .aload_n 1, 1), (27, .invokespecial 15, 3), (30, .putfield 22, 3), (33, .aload_n 0, 1), (34, .new 13, 3), (37, .dup, 1), (38, .aload_n 1, 1), (39, .invokespecial 15, 3), (42, .putfield 25, 3), (45, .return_, 1)]
theorem dt_Find_init : am_Dec (xC X_Find_init) T_Find_init := by decide +kernel
def y_NS_init : MethodName := ⟨"NumberedSparks", "<init>", "()V"⟩
abbrev X_NS_init : am_X := ("NumberedSparks", prog_1_method_1_code, 1, none, "<init>", 3)
theorem mb_NS_init : am_mb y_NS_init X_NS_init 0 := ⟨wd_22, wd_1, ⟨by decide +kernel, by decide +kernel⟩, by decide +kernel, by decide, rfl⟩
def T_NS_init : List (Nat × Instr × Nat) := [(0, .aload_n 0, 1), (1, .invokespecial 1, 3), (4, .aload_n 0, 1), (5, .sipush 500, 3), (8, .newarray .int, 2), (10, .putfield 9, 3), (13, .aload_n 0, 1), (14, .new 13, 3), (17, .dup, 1), (18, .invokespecial 15, 3), (21, .putfield 16, 3), (24, .aload_n 0, 1), (25, .new 20, 3), (28, .dup, 1), (29, .invokespecial 22, 3), (32, .putfield 23, 3), (35, .aload_n 0, 1), (36, .new 27, 3), (39, .dup, 1), (40, .invokespecial 29, 3), (43, .putfield 30, 3), (46, .aload_n 0, 1), (47, .new 34, 3), (50, .dup, 1), (51, .invokespecial 36, 3), (54, .putfield 37, 3), (57, .aload_n 0, 1), (58, .new 41, 3), (61, .dup, 1), (62, .aload_n 0, 1), (63, .getfield 16, 3), (66, .invokespecial 43, 3), (69, .putfield 46, 3), (72, .aload_n 0, 1), (73, .new 50, 3), (76, .dup, 1), (77, .aload_n 0, 1), (78, .getfield 16, 3), (81, .aload_n 0, 1), (82, .getfield 46, 3), (85, .invokespecial 52, 3), (88, .putfield 55, 3), (91, .aload_n 0, 1), (92, .new 59, 3), (95, .dup, 1), (96, .aload_n 0, 1), (97, .getfield 16, 3), (100, .invokespecial 61, 3), (103, .putfield 62, 3), (106, .aload_n 0, 1), (107, .new 59, 3), (110, .dup, 1), (111, .aload_n 0, 1), (112, .getfield 16, 3), (115, .invokespecial 61, 3), (118, .putfield 66, 3), (121, .aload_n 0, 1), (122, .sipush 2000, 3), (125, .newarray .int, 2), (127, .putfield 69, 3), (130, .return_, 1)]
theorem dt_NS_init : am_Dec (xC X_NS_init) T_NS_init := by decide +kernel
def y_NS_putOnTape : MethodName := ⟨"NumberedSparks", "putOnTape", "(I)V"⟩
abbrev X_NS_putOnTape : am_X := ("NumberedSparks", prog_1_method_3_code, 3, none, "putOnTape", 0)
theorem mb_NS_putOnTape : am_mb y_NS_putOnTape X_NS_putOnTape 1 := ⟨wd_349, wd_1, ⟨by decide +kernel, by decide +kernel⟩, by decide +kernel, by decide, rfl⟩
def T_NS_putOnTape : List (Nat × Instr × Nat) := [(0, .bipush 24, 2), (2, .istore_n 2, 1), (3, .iload_n 2, 1), (4, .ifCond .lt 54, 3), (7, .aload_n 0, 1), (8, .getfield 72, 3), (11, .ifCond .lt 41, 3), (14, .aload_n 0, 1), (15, .getfield 72, 3), (18, .aload_n 0, 1), (19, .getfield 9, 3), (22, .arraylength, 1), (23, .if_icmp .ge 29, 3), (26, .aload_n 0, 1), (27, .getfield 9, 3), (30, .aload_n 0, 1), (31, .getfield 72, 3), (34, .iload_n 1, 1), (35, .iload_n 2, 1), (36, .iushr, 1), (37, .sipush 255, 3), (40, .iand, 1), (41, .iastore, 1), (42, .aload_n 0, 1), (43, .dup, 1), (44, .getfield 72, 3), (47, .iconst 1, 1), (48, .iadd, 1), (49, .putfield 72, 3), (52, .iinc 2 (-8), 3), (55, .goto (-52), 3), (58, .return_, 1)]
theorem dt_NS_putOnTape : am_Dec (xC X_NS_putOnTape) T_NS_putOnTape := by decide +kernel
def y_NS_feed : MethodName := ⟨"NumberedSparks", "feed", "(IIIII)I"⟩
abbrev X_NS_feed : am_X := ("NumberedSparks", prog_1_method_2_code, 6, (some FieldType.int), "feed", 1)
theorem mb_NS_feed : am_mb y_NS_feed X_NS_feed 5 := ⟨wd_345, wd_1, ⟨by decide +kernel, by decide +kernel⟩, by decide +kernel, by decide, rfl⟩
def T_NS_feed : List (Nat × Instr × Nat) := [(0, .aload_n 0, 1), (1, .getfield 72, 3), (4, .bipush 20, 2), (6, .iadd, 1), (7, .sipush 500, 3), (10, .if_icmp .le 5, 3), (13, .iconst (-1), 1), (14, .ireturn, 1), (15, .aload_n 0, 1), (16, .iload_n 1, 1), (17, .invokevirtual 76, 3), (20, .aload_n 0, 1), (21, .iload_n 2, 1), (22, .invokevirtual 76, 3), (25, .aload_n 0, 1), (26, .iload_n 3, 1), (27, .invokevirtual 76, 3), (30, .aload_n 0, 1), (31, .iload 4, 2), (33, .invokevirtual 76, 3), (36, .aload_n 0, 1), (37, .iload 5, 2), (39, .invokevirtual 76, 3), (42, .aload_n 0, 1), (43, .getfield 72, 3), (46, .ireturn, 1)]
theorem dt_NS_feed : am_Dec (xC X_NS_feed) T_NS_feed := by decide +kernel
def y_NS_end : MethodName := ⟨"NumberedSparks", "end", "(I)I"⟩
abbrev X_NS_end : am_X := ("NumberedSparks", prog_1_method_4_code, 2, (some FieldType.int), "end", 0)
theorem mb_NS_end : am_mb y_NS_end X_NS_end 1 := ⟨wd_353, wd_1, ⟨by decide +kernel, by decide +kernel⟩, by decide +kernel, by decide, rfl⟩
def T_NS_end : List (Nat × Instr × Nat) := [(0, .iload_n 1, 1), (1, .ifCond .lt 11, 3), (4, .iload_n 1, 1), (5, .aload_n 0, 1), (6, .getfield 72, 3), (9, .if_icmp .le 5, 3), (12, .iconst (-1), 1), (13, .ireturn, 1), (14, .aload_n 0, 1), (15, .iload_n 1, 1), (16, .putfield 72, 3), (19, .iload_n 1, 1), (20, .ireturn, 1)]
theorem dt_NS_end : am_Dec (xC X_NS_end) T_NS_end := by decide +kernel
def y_Math_min : MethodName := ⟨"java/lang/Math", "min", "(II)I"⟩
abbrev X_Math_min : am_X := ("java/lang/Math", prog_13_method_69_code, 2, (some FieldType.int), "min", 0)
theorem mb_Math_min : am_mb y_Math_min X_Math_min 2 := ⟨wd_364, wd_11, ⟨by decide +kernel, by decide +kernel⟩, by decide +kernel, by decide, rfl⟩
def T_Math_min : List (Nat × Instr × Nat) := [(0, .iload_n 0, 1), (1, .iload_n 1, 1), (2, .if_icmp .gt 7, 3), (5, .iload_n 0, 1), (6, .goto 4, 3), (9, .iload_n 1, 1), (10, .ireturn, 1)]
theorem dt_Math_min : am_Dec (xC X_Math_min) T_Math_min := by decide +kernel
def y_Arr_fill : MethodName := ⟨"java/util/Arrays", "fill", "([II)V"⟩
abbrev X_Arr_fill : am_X := ("java/util/Arrays", prog_18_method_103_code, 4, none, "fill", 0)
theorem mb_Arr_fill : am_mb y_Arr_fill X_Arr_fill 2 := ⟨wd_371, wd_12, ⟨by decide +kernel, by decide +kernel⟩, by decide +kernel, by decide, rfl⟩
def T_Arr_fill : List (Nat × Instr × Nat) := [(0, .iconst 0, 1), (1, .istore_n 2, 1), (2, .aload_n 0, 1), (3, .arraylength, 1), (4, .istore_n 3, 1), (5, .iload_n 2, 1), (6, .iload_n 3, 1), (7, .if_icmp .ge 13, 3), (10, .aload_n 0, 1), (11, .iload_n 2, 1), (12, .iload_n 1, 1), (13, .iastore, 1), (14, .iinc 2 1, 3), (17, .goto (-12), 3), (20, .return_, 1)]
theorem dt_Arr_fill : am_Dec (xC X_Arr_fill) T_Arr_fill := by decide +kernel
def y_Scen_clear : MethodName := ⟨"NumberedSparks$Scene", "clear", "()V"⟩
abbrev X_Scen_clear : am_X := ("NumberedSparks$Scene", prog_7_method_2_code, 1, none, "clear", 1)
theorem mb_Scen_clear : am_mb y_Scen_clear X_Scen_clear 0 := ⟨wd_368, wd_2, ⟨by decide +kernel, by decide +kernel⟩, by decide +kernel, by decide, rfl⟩
def T_Scen_clear : List (Nat × Instr × Nat) := [(0, .aload_n 0, 1), (1, .getfield 9, 3), (4, .iconst 0, 1), (5, .invokestatic 21, 3), (8, .aload_n 0, 1), (9, .getfield 15, 3), (12, .iconst 0, 1), (13, .invokestatic 21, 3), (16, .aload_n 0, 1), (17, .getfield 18, 3), (20, .iconst 0, 1), (21, .invokestatic 21, 3), (24, .aload_n 0, 1), (25, .iconst 0, 1), (26, .putfield 27, 3), (29, .aload_n 0, 1), (30, .iconst 0, 1), (31, .putfield 31, 3), (34, .aload_n 0, 1), (35, .iconst 0, 1), (36, .putfield 34, 3), (39, .aload_n 0, 1), (40, .iconst 0, 1), (41, .putfield 37, 3), (44, .return_, 1)]
theorem dt_Scen_clear : am_Dec (xC X_Scen_clear) T_Scen_clear := by decide +kernel
def y_Read_byteAt : MethodName := ⟨"NumberedSparks$Reader", "byteAt", "(I)I"⟩
abbrev X_Read_byteAt : am_X := ("NumberedSparks$Reader", prog_6_method_16_code, 2, (some FieldType.int), "byteAt", 0)
theorem mb_Read_byteAt : am_mb y_Read_byteAt X_Read_byteAt 1 := ⟨wd_379, wd_3, ⟨by decide +kernel, by decide +kernel⟩, by decide +kernel, by decide, rfl⟩
def T_Read_byteAt : List (Nat × Instr × Nat) := [(0, .iload_n 1, 1), (1, .ifCond .lt 29, 3), (4, .iload_n 1, 1), (5, .aload_n 0, 1), (6, .getfield 32, 3), (9, .if_icmp .ge 21, 3), (12, .iload_n 1, 1), (13, .aload_n 0, 1), (14, .getfield 22, 3), (17, .arraylength, 1), (18, .if_icmp .ge 12, 3), (21, .aload_n 0, 1), (22, .getfield 22, 3), (25, .iload_n 1, 1), (26, .iaload, 1), (27, .goto 4, 3), (30, .iconst (-1), 1), (31, .ireturn, 1)]
theorem dt_Read_byteAt : am_Dec (xC X_Read_byteAt) T_Read_byteAt := by decide +kernel
def y_Read_isLetter : MethodName := ⟨"NumberedSparks$Reader", "isLetter", "(I)Z"⟩
abbrev X_Read_isLetter : am_X := ("NumberedSparks$Reader", prog_6_method_17_code, 1, (some FieldType.boolean), "isLetter", 0)
theorem mb_Read_isLetter : am_mb y_Read_isLetter X_Read_isLetter 1 := ⟨wd_382, wd_3, ⟨by decide +kernel, by decide +kernel⟩, by decide +kernel, by decide, rfl⟩
def T_Read_isLetter : List (Nat × Instr × Nat) := [(0, .iload_n 0, 1), (1, .bipush 97, 2), (3, .if_icmp .lt 13, 3), (6, .iload_n 0, 1), (7, .bipush 122, 2), (9, .if_icmp .gt 7, 3), (12, .iconst 1, 1), (13, .goto 4, 3), (16, .iconst 0, 1), (17, .ireturn, 1)]
theorem dt_Read_isLetter : am_Dec (xC X_Read_isLetter) T_Read_isLetter := by decide +kernel
def y_Read_isDigit : MethodName := ⟨"NumberedSparks$Reader", "isDigit", "(I)Z"⟩
abbrev X_Read_isDigit : am_X := ("NumberedSparks$Reader", prog_6_method_18_code, 1, (some FieldType.boolean), "isDigit", 0)
theorem mb_Read_isDigit : am_mb y_Read_isDigit X_Read_isDigit 1 := ⟨wd_385, wd_3, ⟨by decide +kernel, by decide +kernel⟩, by decide +kernel, by decide, rfl⟩
def T_Read_isDigit : List (Nat × Instr × Nat) := [(0, .iload_n 0, 1), (1, .bipush 48, 2), (3, .if_icmp .lt 13, 3), (6, .iload_n 0, 1), (7, .bipush 57, 2), (9, .if_icmp .gt 7, 3), (12, .iconst 1, 1), (13, .goto 4, 3), (16, .iconst 0, 1), (17, .ireturn, 1)]
theorem dt_Read_isDigit : am_Dec (xC X_Read_isDigit) T_Read_isDigit := by decide +kernel
def y_Read_advance : MethodName := ⟨"NumberedSparks$Reader", "advance", "()V"⟩
abbrev X_Read_advance : am_X := ("NumberedSparks$Reader", prog_6_method_19_code, 1, none, "advance", 1)
theorem mb_Read_advance : am_mb y_Read_advance X_Read_advance 0 := ⟨wd_375, wd_3, ⟨by decide +kernel, by decide +kernel⟩, by decide +kernel, by decide, rfl⟩
def T_Read_advance : List (Nat × Instr × Nat) := [(0, .aload_n 0, 1), (1, .aload_n 0, 1), (2, .getfield 41, 3), (5, .putfield 170, 3), (8, .aload_n 0, 1), (9, .getfield 170, 3), (12, .aload_n 0, 1), (13, .getfield 32, 3), (16, .if_icmp .ge 42, 3), (19, .aload_n 0, 1), (20, .aload_n 0, 1), (21, .getfield 170, 3), (24, .invokevirtual 177, 3), (27, .bipush 32, 2), (29, .if_icmp .eq 16, 3), (32, .aload_n 0, 1), (33, .aload_n 0, 1), (34, .getfield 170, 3), (37, .invokevirtual 177, 3), (40, .bipush 10, 2), (42, .if_icmp .ne 16, 3), (45, .aload_n 0, 1), (46, .dup, 1), (47, .getfield 170, 3), (50, .iconst 1, 1), (51, .iadd, 1), (52, .putfield 170, 3), (55, .goto (-47), 3), (58, .aload_n 0, 1), (59, .aload_n 0, 1), (60, .getfield 170, 3), (63, .putfield 41, 3), (66, .aload_n 0, 1), (67, .aload_n 0, 1), (68, .aload_n 0, 1), (69, .getfield 170, 3), (72, .invokevirtual 177, 3), (75, .putfield 137, 3), (78, .aload_n 0, 1), (79, .getfield 170, 3), (82, .aload_n 0, 1), (83, .getfield 32, 3), (86, .if_icmp .lt 11, 3), (89, .aload_n 0, 1), (90, .iconst 0, 1), (91, .putfield 50, 3), (94, .goto 157, 3), (97, .aload_n 0, 1), (98, .getfield 137, 3), (101, .invokestatic 185, 3), (104, .ifCond .eq 46, 3), (107, .aload_n 0, 1), (108, .iconst 1, 1), (109, .putfield 50, 3), (112, .aload_n 0, 1), (113, .getfield 41, 3), (116, .aload_n 0, 1), (117, .getfield 32, 3), (120, .if_icmp .ge 131, 3), (123, .aload_n 0, 1), (124, .aload_n 0, 1), (125, .getfield 41, 3), (128, .invokevirtual 177, 3), (131, .invokestatic 185, 3), (134, .ifCond .eq 117, 3), (137, .aload_n 0, 1), (138, .dup, 1), (139, .getfield 41, 3), (142, .iconst 1, 1), (143, .iadd, 1), (144, .putfield 41, 3), (147, .goto (-35), 3), (150, .aload_n 0, 1), (151, .getfield 137, 3), (154, .invokestatic 189, 3), (157, .ifCond .eq 79, 3), (160, .aload_n 0, 1), (161, .iconst 2, 1), (162, .putfield 50, 3), (165, .aload_n 0, 1), (166, .iconst 0, 1), (167, .putfield 137, 3), (170, .aload_n 0, 1), (171, .getfield 41, 3), (174, .aload_n 0, 1), (175, .getfield 32, 3), (178, .if_icmp .ge 73, 3), (181, .aload_n 0, 1), (182, .aload_n 0, 1), (183, .getfield 41, 3), (186, .invokevirtual 177, 3), (189, .invokestatic 189, 3), (192, .ifCond .eq 59, 3), (195, .aload_n 0, 1), (196, .ldc 192, 2), (198, .aload_n 0, 1), (199, .getfield 137, 3), (202, .bipush 10, 2), (204, .imul, 1), (205, .aload_n 0, 1), (206, .aload_n 0, 1), (207, .getfield 41, 3), (210, .invokevirtual 177, 3), (213, .iadd, 1), (214, .bipush 48, 2), (216, .isub, 1), (217, .invokestatic 26, 3), (220, .putfield 137, 3), (223, .aload_n 0, 1), (224, .dup, 1), (225, .getfield 41, 3), (228, .iconst 1, 1), (229, .iadd, 1), (230, .putfield 41, 3), (233, .goto (-63), 3), (236, .aload_n 0, 1), (237, .iconst 3, 1), (238, .putfield 50, 3), (241, .aload_n 0, 1), (242, .dup, 1), (243, .getfield 41, 3), (246, .iconst 1, 1), (247, .iadd, 1), (248, .putfield 41, 3), (251, .return_, 1)]
theorem dt_Read_advance : am_Dec (xC X_Read_advance) T_Read_advance := by decide +kernel
def y_Str_coder : MethodName := ⟨"java/lang/String", "coder", "()B"⟩
abbrev X_Str_coder : am_X := ("java/lang/String", prog_14_method_152_code, 1, (some FieldType.byte), "coder", 0)
theorem mb_Str_coder : am_mb y_Str_coder X_Str_coder 0 := ⟨wd_411, wd_13, ⟨by decide +kernel, by decide +kernel⟩, by decide +kernel, by decide, rfl⟩
def T_Str_coder : List (Nat × Instr × Nat) := [(0, .getstatic 38, 3), (3, .ifCond .eq 10, 3), (6, .aload_n 0, 1), (7, .getfield 15, 3), (10, .goto 4, 3), (13, .iconst 1, 1), (14, .ireturn, 1)]
theorem dt_Str_coder : am_Dec (xC X_Str_coder) T_Str_coder := by decide +kernel
def y_Str_length : MethodName := ⟨"java/lang/String", "length", "()I"⟩
abbrev X_Str_length : am_X := ("java/lang/String", prog_14_method_54_code, 1, (some FieldType.int), "length", 1)
theorem mb_Str_length : am_mb y_Str_length X_Str_length 0 := ⟨wd_407, wd_13, ⟨by decide +kernel, by decide +kernel⟩, by decide +kernel, by decide, rfl⟩
def T_Str_length : List (Nat × Instr × Nat) := [(0, .aload_n 0, 1), (1, .getfield 9, 3), (4, .arraylength, 1), (5, .aload_n 0, 1), (6, .invokevirtual 335, 3), (9, .ishr, 1), (10, .ireturn, 1)]
theorem dt_Str_length : am_Dec (xC X_Str_length) T_Str_length := by decide +kernel
def y_Str_isLatin1 : MethodName := ⟨"java/lang/String", "isLatin1", "()Z"⟩
abbrev X_Str_isLatin1 : am_X := ("java/lang/String", prog_14_method_154_code, 1, (some FieldType.boolean), "isLatin1", 0)
theorem mb_Str_isLatin1 : am_mb y_Str_isLatin1 X_Str_isLatin1 0 := ⟨wd_421, wd_13, ⟨by decide +kernel, by decide +kernel⟩, by decide +kernel, by decide, rfl⟩
def T_Str_isLatin1 : List (Nat × Instr × Nat) := [(0, .getstatic 38, 3), (3, .ifCond .eq 14, 3), (6, .aload_n 0, 1), (7, .getfield 15, 3), (10, .ifCond .ne 7, 3), (13, .iconst 1, 1), (14, .goto 4, 3), (17, .iconst 0, 1), (18, .ireturn, 1)]
theorem dt_Str_isLatin1 : am_Dec (xC X_Str_isLatin1) T_Str_isLatin1 := by decide +kernel
def y_Prec_checkIndex : MethodName := ⟨"jdk/internal/util/Preconditions", "checkIndex", "(IILjava/util/function/BiFunction;)I"⟩
abbrev X_Prec_checkIndex : am_X := ("jdk/internal/util/Preconditions", prog_19_method_11_code, 3, (some FieldType.int), "checkIndex", 0)
theorem mb_Prec_checkIndex : am_mb y_Prec_checkIndex X_Prec_checkIndex 3 := ⟨wd_432, wd_15, ⟨by decide +kernel, by decide +kernel⟩, by decide +kernel, by decide, rfl⟩
def T_Prec_checkIndex : List (Nat × Instr × Nat) := [(0, .iload_n 0, 1), (1, .ifCond .lt 8, 3), (4, .iload_n 0, 1), (5, .iload_n 1, 1), (6, .if_icmp .lt 10, 3), (9, .aload_n 2, 1), (10, .iload_n 0, 1), (11, .iload_n 1, 1), (12, .invokestatic 95, 3), (15, .athrow, 1), (16, .iload_n 0, 1), (17, .ireturn, 1)]
theorem dt_Prec_checkIndex : am_Dec (xC X_Prec_checkIndex) T_Prec_checkIndex := by decide +kernel
def y_Str_checkIndex : MethodName := ⟨"java/lang/String", "checkIndex", "(II)V"⟩
abbrev X_Str_checkIndex : am_X := ("java/lang/String", prog_14_method_155_code, 2, none, "checkIndex", 1)
theorem mb_Str_checkIndex : am_mb y_Str_checkIndex X_Str_checkIndex 2 := ⟨wd_427, wd_13, ⟨by decide +kernel, by decide +kernel⟩, by decide +kernel, by decide, rfl⟩
def T_Str_checkIndex : List (Nat × Instr × Nat) := [(0, .iload_n 0, 1), (1, .iload_n 1, 1), (2, .getstatic 1053, 3), (5, .invokestatic 1059, 3), (8, .pop, 1), (9, .return_, 1)]
theorem dt_Str_checkIndex : am_Dec (xC X_Str_checkIndex) T_Str_checkIndex := by decide +kernel
def y_Lat_charAt : MethodName := ⟨"java/lang/StringLatin1", "charAt", "([BI)C"⟩
abbrev X_Lat_charAt : am_X := ("java/lang/StringLatin1", prog_15_method_2_code, 2, (some FieldType.char), "charAt", 2)
theorem mb_Lat_charAt : am_mb y_Lat_charAt X_Lat_charAt 2 := ⟨wd_424, wd_14, ⟨by decide +kernel, by decide +kernel⟩, by decide +kernel, by decide, rfl⟩
def T_Lat_charAt : List (Nat × Instr × Nat) := [(0, .iload_n 1, 1), (1, .aload_n 0, 1), (2, .arraylength, 1), (3, .invokestatic 9, 3), (6, .aload_n 0, 1), (7, .iload_n 1, 1), (8, .baload, 1), (9, .sipush 255, 3), (12, .iand, 1), (13, .i2c, 1), (14, .ireturn, 1)]
theorem dt_Lat_charAt : am_Dec (xC X_Lat_charAt) T_Lat_charAt := by decide +kernel
def y_Str_charAt : MethodName := ⟨"java/lang/String", "charAt", "(I)C"⟩
abbrev X_Str_charAt : am_X := ("java/lang/String", prog_14_method_56_code, 2, (some FieldType.char), "charAt", 3)
theorem mb_Str_charAt : am_mb y_Str_charAt X_Str_charAt 1 := ⟨wd_417, wd_13, ⟨by decide +kernel, by decide +kernel⟩, by decide +kernel, by decide, rfl⟩
def T_Str_charAt : List (Nat × Instr × Nat) := [(0, .aload_n 0, 1), (1, .invokevirtual 492, 3), (4, .ifCond .eq 12, 3), (7, .aload_n 0, 1), (8, .getfield 9, 3), (11, .iload_n 1, 1), (12, .invokestatic 495, 3), (15, .ireturn, 1), (16, .aload_n 0, 1), (17, .getfield 9, 3), (20, .iload_n 1, 1), (21, .invokestatic 498, 3), (24, .ireturn, 1)]
theorem dt_Str_charAt : am_Dec (xC X_Str_charAt) T_Str_charAt := by decide +kernel
def y_Read_isWord : MethodName := ⟨"NumberedSparks$Reader", "isWord", "(Ljava/lang/String;)Z"⟩
abbrev X_Read_isWord : am_X := ("NumberedSparks$Reader", prog_6_method_10_code, 3, (some FieldType.boolean), "isWord", 4)
theorem mb_Read_isWord : am_mb y_Read_isWord X_Read_isWord 1 := ⟨wd_403, wd_3, ⟨by decide +kernel, by decide +kernel⟩, by decide +kernel, by decide, rfl⟩
def T_Read_isWord : List (Nat × Instr × Nat) := [(0, .aload_n 0, 1), (1, .getfield 38, 3), (4, .ifCond .ne 27, 3), (7, .aload_n 0, 1), (8, .getfield 50, 3), (11, .iconst 1, 1), (12, .if_icmp .ne 19, 3), (15, .aload_n 0, 1), (16, .getfield 41, 3), (19, .aload_n 0, 1), (20, .getfield 170, 3), (23, .isub, 1), (24, .aload_n 1, 1), (25, .invokevirtual 173, 3), (28, .if_icmp .eq 5, 3), (31, .iconst 0, 1), (32, .ireturn, 1), (33, .iconst 0, 1), (34, .istore_n 2, 1), (35, .iload_n 2, 1), (36, .aload_n 1, 1), (37, .invokevirtual 173, 3), (40, .if_icmp .ge 29, 3), (43, .aload_n 0, 1), (44, .aload_n 0, 1), (45, .getfield 170, 3), (48, .iload_n 2, 1), (49, .iadd, 1), (50, .invokevirtual 177, 3), (53, .aload_n 1, 1), (54, .iload_n 2, 1), (55, .invokevirtual 181, 3), (58, .if_icmp .eq 5, 3), (61, .iconst 0, 1), (62, .ireturn, 1), (63, .iinc 2 1, 3), (66, .goto (-31), 3), (69, .iconst 1, 1), (70, .ireturn, 1)]
theorem dt_Read_isWord : am_Dec (xC X_Read_isWord) T_Read_isWord := by decide +kernel
def y_Read_takeWord : MethodName := ⟨"NumberedSparks$Reader", "takeWord", "(Ljava/lang/String;)Z"⟩
abbrev X_Read_takeWord : am_X := ("NumberedSparks$Reader", prog_6_method_11_code, 2, (some FieldType.boolean), "takeWord", 5)
theorem mb_Read_takeWord : am_mb y_Read_takeWord X_Read_takeWord 1 := ⟨wd_399, wd_3, ⟨by decide +kernel, by decide +kernel⟩, by decide +kernel, by decide, rfl⟩
def T_Read_takeWord : List (Nat × Instr × Nat) := [(0, .aload_n 0, 1), (1, .aload_n 1, 1), (2, .invokevirtual 55, 3), (5, .ifCond .ne 5, 3), (8, .iconst 0, 1), (9, .ireturn, 1), (10, .aload_n 0, 1), (11, .invokevirtual 44, 3), (14, .iconst 1, 1), (15, .ireturn, 1)]
theorem dt_Read_takeWord : am_Dec (xC X_Read_takeWord) T_Read_takeWord := by decide +kernel
def y_Read_fail : MethodName := ⟨"NumberedSparks$Reader", "fail", "(I)V"⟩
abbrev X_Read_fail : am_X := ("NumberedSparks$Reader", prog_6_method_15_code, 2, none, "fail", 0)
theorem mb_Read_fail : am_mb y_Read_fail X_Read_fail 1 := ⟨wd_455, wd_3, ⟨by decide +kernel, by decide +kernel⟩, by decide +kernel, by decide, rfl⟩
def T_Read_fail : List (Nat × Instr × Nat) := [(0, .aload_n 0, 1), (1, .getfield 38, 3), (4, .ifCond .ne 16, 3), (7, .aload_n 0, 1), (8, .iload_n 1, 1), (9, .putfield 38, 3), (12, .aload_n 0, 1), (13, .aload_n 0, 1), (14, .getfield 170, 3), (17, .putfield 18, 3), (20, .return_, 1)]
theorem dt_Read_fail : am_Dec (xC X_Read_fail) T_Read_fail := by decide +kernel
def y_Read_needWord : MethodName := ⟨"NumberedSparks$Reader", "needWord", "(Ljava/lang/String;)V"⟩
abbrev X_Read_needWord : am_X := ("NumberedSparks$Reader", prog_6_method_12_code, 2, none, "needWord", 6)
theorem mb_Read_needWord : am_mb y_Read_needWord X_Read_needWord 1 := ⟨wd_395, wd_3, ⟨by decide +kernel, by decide +kernel⟩, by decide +kernel, by decide, rfl⟩
def T_Read_needWord : List (Nat × Instr × Nat) := [(0, .aload_n 0, 1), (1, .aload_n 1, 1), (2, .invokevirtual 134, 3), (5, .ifCond .ne 8, 3), (8, .aload_n 0, 1), (9, .iconst 1, 1), (10, .invokevirtual 72, 3), (13, .return_, 1)]
theorem dt_Read_needWord : am_Dec (xC X_Read_needWord) T_Read_needWord := by decide +kernel
def y_Read_needNumber : MethodName := ⟨"NumberedSparks$Reader", "needNumber", "(II)I"⟩
abbrev X_Read_needNumber : am_X := ("NumberedSparks$Reader", prog_6_method_14_code, 4, (some FieldType.int), "needNumber", 2)
theorem mb_Read_needNumber : am_mb y_Read_needNumber X_Read_needNumber 2 := ⟨wd_459, wd_3, ⟨by decide +kernel, by decide +kernel⟩, by decide +kernel, by decide, rfl⟩
def T_Read_needNumber : List (Nat × Instr × Nat) := [(0, .aload_n 0, 1), (1, .getfield 50, 3), (4, .iconst 2, 1), (5, .if_icmp .eq 10, 3), (8, .aload_n 0, 1), (9, .iconst 1, 1), (10, .invokevirtual 72, 3), (13, .iconst 0, 1), (14, .ireturn, 1), (15, .aload_n 0, 1), (16, .getfield 137, 3), (19, .istore_n 3, 1), (20, .iload_n 3, 1), (21, .iload_n 1, 1), (22, .if_icmp .lt 8, 3), (25, .iload_n 3, 1), (26, .iload_n 2, 1), (27, .if_icmp .le 10, 3), (30, .aload_n 0, 1), (31, .iconst 2, 1), (32, .invokevirtual 72, 3), (35, .iconst 0, 1), (36, .ireturn, 1), (37, .aload_n 0, 1), (38, .getfield 38, 3), (41, .ifCond .ne 7, 3), (44, .aload_n 0, 1), (45, .invokevirtual 44, 3), (48, .iload_n 3, 1), (49, .ireturn, 1)]
theorem dt_Read_needNumber : am_Dec (xC X_Read_needNumber) T_Read_needNumber := by decide +kernel
def y_Read_needSign : MethodName := ⟨"NumberedSparks$Reader", "needSign", "(C)V"⟩
abbrev X_Read_needSign : am_X := ("NumberedSparks$Reader", prog_6_method_13_code, 2, none, "needSign", 2)
theorem mb_Read_needSign : am_mb y_Read_needSign X_Read_needSign 1 := ⟨wd_463, wd_3, ⟨by decide +kernel, by decide +kernel⟩, by decide +kernel, by decide, rfl⟩
def T_Read_needSign : List (Nat × Instr × Nat) := [(0, .aload_n 0, 1), (1, .getfield 38, 3), (4, .ifCond .ne 26, 3), (7, .aload_n 0, 1), (8, .getfield 50, 3), (11, .iconst 3, 1), (12, .if_icmp .ne 18, 3), (15, .aload_n 0, 1), (16, .getfield 137, 3), (19, .iload_n 1, 1), (20, .if_icmp .ne 10, 3), (23, .aload_n 0, 1), (24, .invokevirtual 44, 3), (27, .goto 8, 3), (30, .aload_n 0, 1), (31, .iconst 1, 1), (32, .invokevirtual 72, 3), (35, .return_, 1)]
theorem dt_Read_needSign : am_Dec (xC X_Read_needSign) T_Read_needSign := by decide +kernel
def y_Read_readWorld : MethodName := ⟨"NumberedSparks$Reader", "readWorld", "()V"⟩
abbrev X_Read_readWorld : am_X := ("NumberedSparks$Reader", prog_6_method_3_code, 2, none, "readWorld", 7)
theorem mb_Read_readWorld : am_mb y_Read_readWorld X_Read_readWorld 0 := ⟨wd_390, wd_3, ⟨by decide +kernel, by decide +kernel⟩, by decide +kernel, by decide, rfl⟩
def T_Read_readWorld : List (Nat × Instr × Nat) := [(0, .aload_n 0, 1), (1, .ldc 80, 2), (3, .invokevirtual 82, 3), (6, .iconst 0, 1), (7, .istore_n 1, 1), (8, .iload_n 1, 1), (9, .iconst 3, 1), (10, .if_icmp .ge 25, 3), (13, .aload_n 0, 1), (14, .getfield 12, 3), (17, .getfield 86, 3), (20, .iload_n 1, 1), (21, .aload_n 0, 1), (22, .iconst 1, 1), (23, .bipush 40, 2), (25, .invokevirtual 89, 3), (28, .iastore, 1), (29, .iinc 1 1, 3), (32, .goto (-24), 3), (35, .aload_n 0, 1), (36, .bipush 59, 2), (38, .invokevirtual 76, 3), (41, .return_, 1)]
theorem dt_Read_readWorld : am_Dec (xC X_Read_readWorld) T_Read_readWorld := by decide +kernel
def y_Read_readSeed : MethodName := ⟨"NumberedSparks$Reader", "readSeed", "()V"⟩
abbrev X_Read_readSeed : am_X := ("NumberedSparks$Reader", prog_6_method_4_code, 1, none, "readSeed", 3)
theorem mb_Read_readSeed : am_mb y_Read_readSeed X_Read_readSeed 0 := ⟨wd_468, wd_3, ⟨by decide +kernel, by decide +kernel⟩, by decide +kernel, by decide, rfl⟩
def T_Read_readSeed : List (Nat × Instr × Nat) := [(0, .aload_n 0, 1), (1, .getfield 12, 3), (4, .getfield 92, 3), (7, .ifCond .eq 9, 3), (10, .aload_n 0, 1), (11, .iconst 3, 1), (12, .invokevirtual 72, 3), (15, .return_, 1), (16, .aload_n 0, 1), (17, .invokevirtual 44, 3), (20, .aload_n 0, 1), (21, .getfield 12, 3), (24, .iconst 1, 1), (25, .putfield 92, 3), (28, .aload_n 0, 1), (29, .getfield 12, 3), (32, .aload_n 0, 1), (33, .iconst 0, 1), (34, .ldc 96, 2), (36, .invokevirtual 89, 3), (39, .putfield 97, 3), (42, .return_, 1)]
theorem dt_Read_readSeed : am_Dec (xC X_Read_readSeed) T_Read_readSeed := by decide +kernel
def y_Scen_setKind : MethodName := ⟨"NumberedSparks$Scene", "setKind", "(III)V"⟩
abbrev X_Scen_setKind : am_X := ("NumberedSparks$Scene", prog_7_method_10_code, 5, none, "setKind", 0)
theorem mb_Scen_setKind : am_mb y_Scen_setKind X_Scen_setKind 3 := ⟨wd_479, wd_2, ⟨by decide +kernel, by decide +kernel⟩, by decide +kernel, by decide, rfl⟩
def T_Scen_setKind : List (Nat × Instr × Nat) := [(0, .iload_n 1, 1), (1, .bipush 8, 2), (3, .imul, 1), (4, .iload_n 2, 1), (5, .iadd, 1), (6, .istore 4, 2), (8, .iload 4, 2), (10, .ifCond .lt 21, 3), (13, .iload 4, 2), (15, .aload_n 0, 1), (16, .getfield 15, 3), (19, .arraylength, 1), (20, .if_icmp .ge 11, 3), (23, .aload_n 0, 1), (24, .getfield 15, 3), (27, .iload 4, 2), (29, .iload_n 3, 1), (30, .iastore, 1), (31, .return_, 1)]
theorem dt_Scen_setKind : am_Dec (xC X_Scen_setKind) T_Scen_setKind := by decide +kernel
def y_Read_numberBehind : MethodName := ⟨"NumberedSparks$Reader", "numberBehind", "(Ljava/lang/String;III)I"⟩
abbrev X_Read_numberBehind : am_X := ("NumberedSparks$Reader", prog_6_method_9_code, 5, (some FieldType.int), "numberBehind", 6)
theorem mb_Read_numberBehind : am_mb y_Read_numberBehind X_Read_numberBehind 4 := ⟨wd_484, wd_3, ⟨by decide +kernel, by decide +kernel⟩, by decide +kernel, by decide, rfl⟩
def T_Read_numberBehind : List (Nat × Instr × Nat) := [(0, .aload_n 0, 1), (1, .aload_n 1, 1), (2, .invokevirtual 134, 3), (5, .ifCond .eq 12, 3), (8, .aload_n 0, 1), (9, .iload_n 2, 1), (10, .iload_n 3, 1), (11, .invokevirtual 89, 3), (14, .goto 5, 3), (17, .iload 4, 2), (19, .ireturn, 1)]
theorem dt_Read_numberBehind : am_Dec (xC X_Read_numberBehind) T_Read_numberBehind := by decide +kernel
def y_Read_readFalls : MethodName := ⟨"NumberedSparks$Reader", "readFalls", "()I"⟩
abbrev X_Read_readFalls : am_X := ("NumberedSparks$Reader", prog_6_method_6_code, 3, (some FieldType.int), "readFalls", 6)
theorem mb_Read_readFalls : am_mb y_Read_readFalls X_Read_readFalls 0 := ⟨wd_489, wd_3, ⟨by decide +kernel, by decide +kernel⟩, by decide +kernel, by decide, rfl⟩
def T_Read_readFalls : List (Nat × Instr × Nat) := [(0, .aload_n 0, 1), (1, .ldc 132, 2), (3, .invokevirtual 134, 3), (6, .ifCond .ne 5, 3), (9, .iconst 0, 1), (10, .ireturn, 1), (11, .aload_n 0, 1), (12, .getfield 38, 3), (15, .ifCond .ne 24, 3), (18, .aload_n 0, 1), (19, .getfield 50, 3), (22, .iconst 3, 1), (23, .if_icmp .ne 16, 3), (26, .aload_n 0, 1), (27, .getfield 137, 3), (30, .bipush 45, 2), (32, .if_icmp .ne 7, 3), (35, .iconst 1, 1), (36, .goto 4, 3), (39, .iconst 0, 1), (40, .istore_n 1, 1), (41, .iload_n 1, 1), (42, .ifCond .eq 7, 3), (45, .aload_n 0, 1), (46, .invokevirtual 44, 3), (49, .aload_n 0, 1), (50, .iconst 0, 1), (51, .bipush 9, 2), (53, .invokevirtual 89, 3), (56, .istore_n 2, 1), (57, .iload_n 1, 1), (58, .ifCond .eq 8, 3), (61, .iload_n 2, 1), (62, .ineg, 1), (63, .goto 4, 3), (66, .iload_n 2, 1), (67, .ireturn, 1)]
theorem dt_Read_readFalls : am_Dec (xC X_Read_readFalls) T_Read_readFalls := by decide +kernel
def y_Read_readEdge : MethodName := ⟨"NumberedSparks$Reader", "readEdge", "()I"⟩
abbrev X_Read_readEdge : am_X := ("NumberedSparks$Reader", prog_6_method_7_code, 1, (some FieldType.int), "readEdge", 6)
theorem mb_Read_readEdge : am_mb y_Read_readEdge X_Read_readEdge 0 := ⟨wd_495, wd_3, ⟨by decide +kernel, by decide +kernel⟩, by decide +kernel, by decide, rfl⟩
def T_Read_readEdge : List (Nat × Instr × Nat) := [(0, .aload_n 0, 1), (1, .ldc 140, 2), (3, .invokevirtual 134, 3), (6, .ifCond .eq 5, 3), (9, .iconst 1, 1), (10, .ireturn, 1), (11, .aload_n 0, 1), (12, .ldc 142, 2), (14, .invokevirtual 134, 3), (17, .ifCond .eq 5, 3), (20, .iconst 2, 1), (21, .ireturn, 1), (22, .aload_n 0, 1), (23, .ldc 144, 2), (25, .invokevirtual 134, 3), (28, .pop, 1), (29, .iconst 0, 1), (30, .ireturn, 1)]
theorem dt_Read_readEdge : am_Dec (xC X_Read_readEdge) T_Read_readEdge := by decide +kernel
def y_Scen_ofKind : MethodName := ⟨"NumberedSparks$Scene", "ofKind", "(II)I"⟩
abbrev X_Scen_ofKind : am_X := ("NumberedSparks$Scene", prog_7_method_9_code, 4, (some FieldType.int), "ofKind", 0)
theorem mb_Scen_ofKind : am_mb y_Scen_ofKind X_Scen_ofKind 2 := ⟨wd_503, wd_2, ⟨by decide +kernel, by decide +kernel⟩, by decide +kernel, by decide, rfl⟩
def T_Scen_ofKind : List (Nat × Instr × Nat) := [(0, .iload_n 1, 1), (1, .bipush 8, 2), (3, .imul, 1), (4, .iload_n 2, 1), (5, .iadd, 1), (6, .istore_n 3, 1), (7, .iload_n 3, 1), (8, .ifCond .lt 21, 3), (11, .iload_n 3, 1), (12, .aload_n 0, 1), (13, .getfield 15, 3), (16, .arraylength, 1), (17, .if_icmp .ge 12, 3), (20, .aload_n 0, 1), (21, .getfield 15, 3), (24, .iload_n 3, 1), (25, .iaload, 1), (26, .goto 4, 3), (29, .iconst 0, 1), (30, .ireturn, 1)]
theorem dt_Scen_ofKind : am_Dec (xC X_Scen_ofKind) T_Scen_ofKind := by decide +kernel
def y_Read_readKind : MethodName := ⟨"NumberedSparks$Reader", "readKind", "()V"⟩
abbrev X_Read_readKind : am_X := ("NumberedSparks$Reader", prog_6_method_5_code, 2, none, "readKind", 7)
theorem mb_Read_readKind : am_mb y_Read_readKind X_Read_readKind 0 := ⟨wd_474, wd_3, ⟨by decide +kernel, by decide +kernel⟩, by decide +kernel, by decide, rfl⟩
def T_Read_readKind : List (Nat × Instr × Nat) := [(0, .aload_n 0, 1), (1, .getfield 12, 3), (4, .getfield 99, 3), (7, .istore_n 1, 1), (8, .iload_n 1, 1), (9, .iconst 5, 1), (10, .if_icmp .lt 9, 3), (13, .aload_n 0, 1), (14, .iconst 3, 1), (15, .invokevirtual 72, 3), (18, .return_, 1), (19, .aload_n 0, 1), (20, .invokevirtual 44, 3), (23, .aload_n 0, 1), (24, .ldc 102, 2), (26, .invokevirtual 82, 3), (29, .aload_n 0, 1), (30, .getfield 12, 3), (33, .iload_n 1, 1), (34, .iconst 0, 1), (35, .aload_n 0, 1), (36, .iconst 1, 1), (37, .bipush 40, 2), (39, .invokevirtual 89, 3), (42, .invokevirtual 104, 3), (45, .aload_n 0, 1), (46, .getfield 12, 3), (49, .iload_n 1, 1), (50, .iconst 1, 1), (51, .aload_n 0, 1), (52, .ldc 108, 2), (54, .iconst 0, 1), (55, .bipush 20, 2), (57, .iconst 0, 1), (58, .invokevirtual 110, 3), (61, .invokevirtual 104, 3), (64, .aload_n 0, 1), (65, .getfield 12, 3), (68, .iload_n 1, 1), (69, .iconst 2, 1), (70, .aload_n 0, 1), (71, .ldc 114, 2), (73, .iconst 0, 1), (74, .bipush 20, 2), (76, .iconst 0, 1), (77, .invokevirtual 110, 3), (80, .invokevirtual 104, 3), (83, .aload_n 0, 1), (84, .getfield 12, 3), (87, .iload_n 1, 1), (88, .iconst 3, 1), (89, .aload_n 0, 1), (90, .invokevirtual 116, 3), (93, .invokevirtual 104, 3), (96, .aload_n 0, 1), (97, .getfield 12, 3), (100, .iload_n 1, 1), (101, .iconst 4, 1), (102, .aload_n 0, 1), (103, .ldc 120, 2), (105, .iconst 1, 1), (106, .bipush 9, 2), (108, .iconst 1, 1), (109, .invokevirtual 110, 3), (112, .invokevirtual 104, 3), (115, .aload_n 0, 1), (116, .getfield 12, 3), (119, .iload_n 1, 1), (120, .iconst 5, 1), (121, .aload_n 0, 1), (122, .invokevirtual 122, 3), (125, .invokevirtual 104, 3), (128, .aload_n 0, 1), (129, .getfield 12, 3), (132, .iload_n 1, 1), (133, .bipush 6, 2), (135, .aload_n 0, 1), (136, .ldc 125, 2), (138, .iconst 1, 1), (139, .iconst 2, 1), (140, .iconst 0, 1), (141, .invokevirtual 110, 3), (144, .invokevirtual 104, 3), (147, .aload_n 0, 1), (148, .getfield 12, 3), (151, .iload_n 1, 1), (152, .bipush 7, 2), (154, .iconst (-1), 1), (155, .invokevirtual 104, 3), (158, .aload_n 0, 1), (159, .getfield 12, 3), (162, .iload_n 1, 1), (163, .bipush 6, 2), (165, .invokevirtual 127, 3), (168, .ifCond .le 27, 3), (171, .aload_n 0, 1), (172, .ldc 130, 2), (174, .invokevirtual 82, 3), (177, .aload_n 0, 1), (178, .getfield 12, 3), (181, .iload_n 1, 1), (182, .bipush 7, 2), (184, .aload_n 0, 1), (185, .iconst 0, 1), (186, .iload_n 1, 1), (187, .iconst 1, 1), (188, .isub, 1), (189, .invokevirtual 89, 3), (192, .invokevirtual 104, 3), (195, .aload_n 0, 1), (196, .getfield 12, 3), (199, .dup, 1), (200, .getfield 99, 3), (203, .iconst 1, 1), (204, .iadd, 1), (205, .putfield 99, 3), (208, .return_, 1)]
theorem dt_Read_readKind : am_Dec (xC X_Read_readKind) T_Read_readKind := by decide +kernel
def y_Scen_setSource : MethodName := ⟨"NumberedSparks$Scene", "setSource", "(III)V"⟩
abbrev X_Scen_setSource : am_X := ("NumberedSparks$Scene", prog_7_method_12_code, 5, none, "setSource", 0)
theorem mb_Scen_setSource : am_mb y_Scen_setSource X_Scen_setSource 3 := ⟨wd_513, wd_2, ⟨by decide +kernel, by decide +kernel⟩, by decide +kernel, by decide, rfl⟩
def T_Scen_setSource : List (Nat × Instr × Nat) := [(0, .iload_n 1, 1), (1, .bipush 10, 2), (3, .imul, 1), (4, .iload_n 2, 1), (5, .iadd, 1), (6, .istore 4, 2), (8, .iload 4, 2), (10, .ifCond .lt 21, 3), (13, .iload 4, 2), (15, .aload_n 0, 1), (16, .getfield 18, 3), (19, .arraylength, 1), (20, .if_icmp .ge 11, 3), (23, .aload_n 0, 1), (24, .getfield 18, 3), (27, .iload 4, 2), (29, .iload_n 3, 1), (30, .iastore, 1), (31, .return_, 1)]
theorem dt_Scen_setSource : am_Dec (xC X_Scen_setSource) T_Scen_setSource := by decide +kernel
def y_Scen_ofSource : MethodName := ⟨"NumberedSparks$Scene", "ofSource", "(II)I"⟩
abbrev X_Scen_ofSource : am_X := ("NumberedSparks$Scene", prog_7_method_11_code, 4, (some FieldType.int), "ofSource", 0)
theorem mb_Scen_ofSource : am_mb y_Scen_ofSource X_Scen_ofSource 2 := ⟨wd_523, wd_2, ⟨by decide +kernel, by decide +kernel⟩, by decide +kernel, by decide, rfl⟩
def T_Scen_ofSource : List (Nat × Instr × Nat) := [(0, .iload_n 1, 1), (1, .bipush 10, 2), (3, .imul, 1), (4, .iload_n 2, 1), (5, .iadd, 1), (6, .istore_n 3, 1), (7, .iload_n 3, 1), (8, .ifCond .lt 21, 3), (11, .iload_n 3, 1), (12, .aload_n 0, 1), (13, .getfield 18, 3), (16, .arraylength, 1), (17, .if_icmp .ge 12, 3), (20, .aload_n 0, 1), (21, .getfield 18, 3), (24, .iload_n 3, 1), (25, .iaload, 1), (26, .goto 4, 3), (29, .iconst 0, 1), (30, .ireturn, 1)]
theorem dt_Scen_ofSource : am_Dec (xC X_Scen_ofSource) T_Scen_ofSource := by decide +kernel
def y_Scen_burstsUpTo : MethodName := ⟨"NumberedSparks$Scene", "burstsUpTo", "(II)I"⟩
abbrev X_Scen_burstsUpTo : am_X := ("NumberedSparks$Scene", prog_7_method_18_code, 6, (some FieldType.int), "burstsUpTo", 1)
theorem mb_Scen_burstsUpTo : am_mb y_Scen_burstsUpTo X_Scen_burstsUpTo 2 := ⟨wd_527, wd_2, ⟨by decide +kernel, by decide +kernel⟩, by decide +kernel, by decide, rfl⟩
def T_Scen_burstsUpTo : List (Nat × Instr × Nat) := [(0, .aload_n 0, 1), (1, .iload_n 1, 1), (2, .iconst 4, 1), (3, .invokevirtual 84, 3), (6, .istore_n 3, 1), (7, .iload_n 2, 1), (8, .aload_n 0, 1), (9, .iload_n 1, 1), (10, .bipush 7, 2), (12, .invokevirtual 84, 3), (15, .invokestatic 94, 3), (18, .istore 4, 2), (20, .aload_n 0, 1), (21, .iload_n 1, 1), (22, .iconst 5, 1), (23, .invokevirtual 84, 3), (26, .istore 5, 2), (28, .iload 4, 2), (30, .iload_n 3, 1), (31, .if_icmp .lt 9, 3), (34, .iload 5, 2), (36, .iconst 1, 1), (37, .if_icmp .ge 7, 3), (40, .iconst 0, 1), (41, .goto 12, 3), (44, .iload 4, 2), (46, .iload_n 3, 1), (47, .isub, 1), (48, .iload 5, 2), (50, .idiv, 1), (51, .iconst 1, 1), (52, .iadd, 1), (53, .ireturn, 1)]
theorem dt_Scen_burstsUpTo : am_Dec (xC X_Scen_burstsUpTo) T_Scen_burstsUpTo := by decide +kernel
def y_Read_readSource : MethodName := ⟨"NumberedSparks$Reader", "readSource", "()V"⟩
abbrev X_Read_readSource : am_X := ("NumberedSparks$Reader", prog_6_method_8_code, 3, none, "readSource", 7)
theorem mb_Read_readSource : am_mb y_Read_readSource X_Read_readSource 0 := ⟨wd_509, wd_3, ⟨by decide +kernel, by decide +kernel⟩, by decide +kernel, by decide, rfl⟩
def T_Read_readSource : List (Nat × Instr × Nat) := [(0, .aload_n 0, 1), (1, .getfield 12, 3), (4, .getfield 146, 3), (7, .istore_n 1, 1), (8, .iload_n 1, 1), (9, .iconst 4, 1), (10, .if_icmp .lt 9, 3), (13, .aload_n 0, 1), (14, .iconst 3, 1), (15, .invokevirtual 72, 3), (18, .return_, 1), (19, .aload_n 0, 1), (20, .invokevirtual 44, 3), (23, .aload_n 0, 1), (24, .getfield 12, 3), (27, .iload_n 1, 1), (28, .iconst 0, 1), (29, .aload_n 0, 1), (30, .iconst 0, 1), (31, .aload_n 0, 1), (32, .getfield 12, 3), (35, .getfield 99, 3), (38, .iconst 1, 1), (39, .isub, 1), (40, .invokevirtual 89, 3), (43, .invokevirtual 149, 3), (46, .aload_n 0, 1), (47, .ldc 152, 2), (49, .invokevirtual 82, 3), (52, .iconst 0, 1), (53, .istore_n 2, 1), (54, .iload_n 2, 1), (55, .iconst 3, 1), (56, .if_icmp .ge 36, 3), (59, .aload_n 0, 1), (60, .getfield 12, 3), (63, .iload_n 1, 1), (64, .iconst 1, 1), (65, .iload_n 2, 1), (66, .iadd, 1), (67, .aload_n 0, 1), (68, .iconst 0, 1), (69, .aload_n 0, 1), (70, .getfield 12, 3), (73, .getfield 86, 3), (76, .iload_n 2, 1), (77, .iaload, 1), (78, .iconst 1, 1), (79, .isub, 1), (80, .invokevirtual 89, 3), (83, .invokevirtual 149, 3), (86, .iinc 2 1, 3), (89, .goto (-35), 3), (92, .aload_n 0, 1), (93, .ldc 154, 2), (95, .invokevirtual 82, 3), (98, .aload_n 0, 1), (99, .getfield 12, 3), (102, .iload_n 1, 1), (103, .iconst 4, 1), (104, .aload_n 0, 1), (105, .iconst 0, 1), (106, .sipush 9999, 3), (109, .invokevirtual 89, 3), (112, .invokevirtual 149, 3), (115, .aload_n 0, 1), (116, .ldc 156, 2), (118, .invokevirtual 82, 3), (121, .aload_n 0, 1), (122, .getfield 12, 3), (125, .iload_n 1, 1), (126, .iconst 5, 1), (127, .aload_n 0, 1), (128, .iconst 1, 1), (129, .bipush 99, 2), (131, .invokevirtual 89, 3), (134, .invokevirtual 149, 3), (137, .aload_n 0, 1), (138, .getfield 12, 3), (141, .iload_n 1, 1), (142, .bipush 6, 2), (144, .aload_n 0, 1), (145, .ldc 158, 2), (147, .iconst 1, 1), (148, .iconst 5, 1), (149, .iconst 1, 1), (150, .invokevirtual 110, 3), (153, .invokevirtual 149, 3), (156, .aload_n 0, 1), (157, .getfield 12, 3), (160, .iload_n 1, 1), (161, .bipush 7, 2), (163, .aload_n 0, 1), (164, .ldc 160, 2), (166, .iconst 0, 1), (167, .sipush 9999, 3), (170, .sipush 9999, 3), (173, .invokevirtual 110, 3), (176, .invokevirtual 149, 3), (179, .aload_n 0, 1), (180, .getfield 12, 3), (183, .iload_n 1, 1), (184, .bipush 8, 2), (186, .aload_n 0, 1), (187, .ldc 162, 2), (189, .iconst 0, 1), (190, .bipush 20, 2), (192, .iconst 0, 1), (193, .invokevirtual 110, 3), (196, .invokevirtual 149, 3), (199, .aload_n 0, 1), (200, .getfield 12, 3), (203, .iload_n 1, 1), (204, .aload_n 0, 1), (205, .getfield 12, 3), (208, .iload_n 1, 1), (209, .bipush 7, 2), (211, .invokevirtual 164, 3), (214, .invokevirtual 167, 3), (217, .istore_n 2, 1), (218, .aload_n 0, 1), (219, .getfield 12, 3), (222, .iload_n 1, 1), (223, .bipush 9, 2), (225, .iload_n 2, 1), (226, .aload_n 0, 1), (227, .getfield 12, 3), (230, .iload_n 1, 1), (231, .bipush 6, 2), (233, .invokevirtual 164, 3), (236, .imul, 1), (237, .invokevirtual 149, 3), (240, .aload_n 0, 1), (241, .getfield 12, 3), (244, .dup, 1), (245, .getfield 146, 3), (248, .iconst 1, 1), (249, .iadd, 1), (250, .putfield 146, 3), (253, .return_, 1)]
theorem dt_Read_readSource : am_Dec (xC X_Read_readSource) T_Read_readSource := by decide +kernel
def y_Read_read : MethodName := ⟨"NumberedSparks$Reader", "read", "([II)I"⟩
abbrev X_Read_read : am_X := ("NumberedSparks$Reader", prog_6_method_2_code, 5, (some FieldType.int), "read", 8)
theorem mb_Read_read : am_mb y_Read_read X_Read_read 2 := ⟨wd_361, wd_3, ⟨by decide +kernel, by decide +kernel⟩, by decide +kernel, by decide, rfl⟩
def T_Read_read : List (Nat × Instr × Nat) := [(0, .aload_n 0, 1), (1, .aload_n 1, 1), (2, .putfield 22, 3), (5, .aload_n 0, 1), (6, .iload_n 2, 1), (7, .aload_n 1, 1), (8, .arraylength, 1), (9, .invokestatic 26, 3), (12, .putfield 32, 3), (15, .aload_n 0, 1), (16, .getfield 12, 3), (19, .invokevirtual 35, 3), (22, .aload_n 0, 1), (23, .iconst 0, 1), (24, .putfield 38, 3), (27, .aload_n 0, 1), (28, .iconst (-1), 1), (29, .putfield 18, 3), (32, .aload_n 0, 1), (33, .iconst 0, 1), (34, .putfield 41, 3), (37, .aload_n 0, 1), (38, .invokevirtual 44, 3), (41, .aload_n 0, 1), (42, .invokevirtual 47, 3), (45, .iconst 1, 1), (46, .istore_n 3, 1), (47, .iconst 0, 1), (48, .istore 4, 2), (50, .iload 4, 2), (52, .sipush 500, 3), (55, .if_icmp .ge 85, 3), (58, .aload_n 0, 1), (59, .getfield 38, 3), (62, .ifCond .ne 78, 3), (65, .aload_n 0, 1), (66, .getfield 50, 3), (69, .ifCond .eq 71, 3), (72, .aload_n 0, 1), (73, .ldc 53, 2), (75, .invokevirtual 55, 3), (78, .ifCond .eq 10, 3), (81, .aload_n 0, 1), (82, .invokevirtual 59, 3), (85, .goto 40, 3), (88, .aload_n 0, 1), (89, .ldc 62, 2), (91, .invokevirtual 55, 3), (94, .ifCond .eq 10, 3), (97, .aload_n 0, 1), (98, .invokevirtual 64, 3), (101, .goto 24, 3), (104, .aload_n 0, 1), (105, .ldc 67, 2), (107, .invokevirtual 55, 3), (110, .ifCond .eq 10, 3), (113, .aload_n 0, 1), (114, .invokevirtual 69, 3), (117, .goto 8, 3), (120, .aload_n 0, 1), (121, .iconst 1, 1), (122, .invokevirtual 72, 3), (125, .aload_n 0, 1), (126, .bipush 59, 2), (128, .invokevirtual 76, 3), (131, .iinc 3 1, 3), (134, .iinc 4 1, 3), (137, .goto (-87), 3), (140, .aload_n 0, 1), (141, .getfield 38, 3), (144, .ifCond .ne 7, 3), (147, .iload_n 3, 1), (148, .goto 4, 3), (151, .iconst (-1), 1), (152, .ireturn, 1)]
theorem dt_Read_read : am_Dec (xC X_Read_read) T_Read_read := by decide +kernel
def y_Scen_become : MethodName := ⟨"NumberedSparks$Scene", "become", "(LNumberedSparks$Scene;)V"⟩
abbrev X_Scen_become : am_X := ("NumberedSparks$Scene", prog_7_method_3_code, 2, none, "become", 1)
theorem mb_Scen_become : am_mb y_Scen_become X_Scen_become 1 := ⟨wd_533, wd_2, ⟨by decide +kernel, by decide +kernel⟩, by decide +kernel, by decide, rfl⟩
def T_Scen_become : List (Nat × Instr × Nat) := [(0, .aload_n 1, 1), (1, .getfield 9, 3), (4, .iconst 0, 1), (5, .aload_n 0, 1), (6, .getfield 9, 3), (9, .iconst 0, 1), (10, .aload_n 0, 1), (11, .getfield 9, 3), (14, .arraylength, 1), (15, .invokestatic 41, 3), (18, .aload_n 1, 1), (19, .getfield 15, 3), (22, .iconst 0, 1), (23, .aload_n 0, 1), (24, .getfield 15, 3), (27, .iconst 0, 1), (28, .aload_n 0, 1), (29, .getfield 15, 3), (32, .arraylength, 1), (33, .invokestatic 41, 3), (36, .aload_n 1, 1), (37, .getfield 18, 3), (40, .iconst 0, 1), (41, .aload_n 0, 1), (42, .getfield 18, 3), (45, .iconst 0, 1), (46, .aload_n 0, 1), (47, .getfield 18, 3), (50, .arraylength, 1), (51, .invokestatic 41, 3), (54, .aload_n 0, 1), (55, .aload_n 1, 1), (56, .getfield 27, 3), (59, .putfield 27, 3), (62, .aload_n 0, 1), (63, .aload_n 1, 1), (64, .getfield 31, 3), (67, .putfield 31, 3), (70, .aload_n 0, 1), (71, .aload_n 1, 1), (72, .getfield 34, 3), (75, .putfield 34, 3), (78, .aload_n 0, 1), (79, .iconst 1, 1), (80, .putfield 47, 3), (83, .return_, 1)]
theorem dt_Scen_become : am_Dec (xC X_Scen_become) T_Scen_become := by decide +kernel
def y_Hist_forget : MethodName := ⟨"NumberedSparks$History", "forget", "()V"⟩
abbrev X_Hist_forget : am_X := ("NumberedSparks$History", prog_4_method_2_code, 1, none, "forget", 0)
theorem mb_Hist_forget : am_mb y_Hist_forget X_Hist_forget 0 := ⟨wd_540, wd_4, ⟨by decide +kernel, by decide +kernel⟩, by decide +kernel, by decide, rfl⟩
def T_Hist_forget : List (Nat × Instr × Nat) := [(0, .aload_n 0, 1), (1, .iconst 0, 1), (2, .putfield 21, 3), (5, .return_, 1)]
theorem dt_Hist_forget : am_Dec (xC X_Hist_forget) T_Hist_forget := by decide +kernel
def y_Fram_forget : MethodName := ⟨"NumberedSparks$Frame", "forget", "()V"⟩
abbrev X_Fram_forget : am_X := ("NumberedSparks$Frame", prog_3_method_2_code, 1, none, "forget", 0)
theorem mb_Fram_forget : am_mb y_Fram_forget X_Fram_forget 0 := ⟨wd_544, wd_8, ⟨by decide +kernel, by decide +kernel⟩, by decide +kernel, by decide, rfl⟩
def T_Fram_forget : List (Nat × Instr × Nat) := [(0, .aload_n 0, 1), (1, .iconst (-1), 1), (2, .putfield 39, 3), (5, .return_, 1)]
theorem dt_Fram_forget : am_Dec (xC X_Fram_forget) T_Fram_forget := by decide +kernel
def y_NS_scene : MethodName := ⟨"NumberedSparks", "scene", "()I"⟩
abbrev X_NS_scene : am_X := ("NumberedSparks", prog_1_method_5_code, 2, (some FieldType.int), "scene", 9)
theorem mb_NS_scene : am_mb y_NS_scene X_NS_scene 0 := ⟨wd_357, wd_1, ⟨by decide +kernel, by decide +kernel⟩, by decide +kernel, by decide, rfl⟩
def T_NS_scene : List (Nat × Instr × Nat) := [(0, .aload_n 0, 1), (1, .getfield 23, 3), (4, .aload_n 0, 1), (5, .getfield 9, 3), (8, .aload_n 0, 1), (9, .getfield 72, 3), (12, .invokevirtual 80, 3), (15, .istore_n 1, 1), (16, .aload_n 0, 1), (17, .iconst 0, 1), (18, .putfield 72, 3), (21, .iload_n 1, 1), (22, .ifCond .ge 6, 3), (25, .bipush (-4), 2), (27, .ireturn, 1), (28, .aload_n 0, 1), (29, .getfield 16, 3), (32, .aload_n 0, 1), (33, .getfield 23, 3), (36, .getfield 84, 3), (39, .invokevirtual 87, 3), (42, .aload_n 0, 1), (43, .getfield 30, 3), (46, .invokevirtual 90, 3), (49, .aload_n 0, 1), (50, .getfield 55, 3), (53, .invokevirtual 93, 3), (56, .iload_n 1, 1), (57, .ireturn, 1)]
theorem dt_NS_scene : am_Dec (xC X_NS_scene) T_NS_scene := by decide +kernel
def y_NS_fault : MethodName := ⟨"NumberedSparks", "fault", "(I)I"⟩
abbrev X_NS_fault : am_X := ("NumberedSparks", prog_1_method_6_code, 2, (some FieldType.int), "fault", 0)
theorem mb_NS_fault : am_mb y_NS_fault X_NS_fault 1 := ⟨wd_549, wd_1, ⟨by decide +kernel, by decide +kernel⟩, by decide +kernel, by decide, rfl⟩
def T_NS_fault : List (Nat × Instr × Nat) := [(0, .iload_n 1, 1), (1, .ifCond .ne 11, 3), (4, .aload_n 0, 1), (5, .getfield 23, 3), (8, .getfield 94, 3), (11, .ireturn, 1), (12, .iload_n 1, 1), (13, .iconst 1, 1), (14, .if_icmp .ne 13, 3), (17, .aload_n 0, 1), (18, .getfield 23, 3), (21, .getfield 97, 3), (24, .goto 4, 3), (27, .iconst (-1), 1), (28, .ireturn, 1)]
theorem dt_NS_fault : am_Dec (xC X_NS_fault) T_NS_fault := by decide +kernel
def y_Scen_cellsAlong : MethodName := ⟨"NumberedSparks$Scene", "cellsAlong", "(I)I"⟩
abbrev X_Scen_cellsAlong : am_X := ("NumberedSparks$Scene", prog_7_method_4_code, 2, (some FieldType.int), "cellsAlong", 0)
theorem mb_Scen_cellsAlong : am_mb y_Scen_cellsAlong X_Scen_cellsAlong 1 := ⟨wd_557, wd_2, ⟨by decide +kernel, by decide +kernel⟩, by decide +kernel, by decide, rfl⟩
def T_Scen_cellsAlong : List (Nat × Instr × Nat) := [(0, .iload_n 1, 1), (1, .ifCond .lt 21, 3), (4, .iload_n 1, 1), (5, .aload_n 0, 1), (6, .getfield 9, 3), (9, .arraylength, 1), (10, .if_icmp .ge 12, 3), (13, .aload_n 0, 1), (14, .getfield 9, 3), (17, .iload_n 1, 1), (18, .iaload, 1), (19, .goto 4, 3), (22, .iconst 0, 1), (23, .ireturn, 1)]
theorem dt_Scen_cellsAlong : am_Dec (xC X_Scen_cellsAlong) T_Scen_cellsAlong := by decide +kernel
def y_NS_count : MethodName := ⟨"NumberedSparks", "count", "(I)I"⟩
abbrev X_NS_count : am_X := ("NumberedSparks", prog_1_method_7_code, 2, (some FieldType.int), "count", 1)
theorem mb_NS_count : am_mb y_NS_count X_NS_count 1 := ⟨wd_553, wd_1, ⟨by decide +kernel, by decide +kernel⟩, by decide +kernel, by decide, rfl⟩
def T_NS_count : List (Nat × Instr × Nat) := [(0, .iload_n 1, 1), (1, .tableswitch 93 0 7 #[47, 47, 47, 56, 64, 72, 80, 85], 47), (48, .aload_n 0, 1), (49, .getfield 16, 3), (52, .iload_n 1, 1), (53, .invokevirtual 100, 3), (56, .ireturn, 1), (57, .aload_n 0, 1), (58, .getfield 16, 3), (61, .getfield 104, 3), (64, .ireturn, 1), (65, .aload_n 0, 1), (66, .getfield 16, 3), (69, .getfield 107, 3), (72, .ireturn, 1), (73, .aload_n 0, 1), (74, .getfield 16, 3), (77, .getfield 110, 3), (80, .ireturn, 1), (81, .aload_n 0, 1), (82, .getfield 72, 3), (85, .ireturn, 1), (86, .aload_n 0, 1), (87, .getfield 37, 3), (90, .getfield 113, 3), (93, .ireturn, 1), (94, .iconst (-1), 1), (95, .ireturn, 1)]
theorem dt_NS_count : am_Dec (xC X_NS_count) T_NS_count := by decide +kernel
def y_Scen_isKind : MethodName := ⟨"NumberedSparks$Scene", "isKind", "(I)Z"⟩
abbrev X_Scen_isKind : am_X := ("NumberedSparks$Scene", prog_7_method_7_code, 2, (some FieldType.boolean), "isKind", 0)
theorem mb_Scen_isKind : am_mb y_Scen_isKind X_Scen_isKind 1 := ⟨wd_565, wd_2, ⟨by decide +kernel, by decide +kernel⟩, by decide +kernel, by decide, rfl⟩
def T_Scen_isKind : List (Nat × Instr × Nat) := [(0, .iload_n 1, 1), (1, .ifCond .lt 15, 3), (4, .iload_n 1, 1), (5, .aload_n 0, 1), (6, .getfield 27, 3), (9, .if_icmp .ge 7, 3), (12, .iconst 1, 1), (13, .goto 4, 3), (16, .iconst 0, 1), (17, .ireturn, 1)]
theorem dt_Scen_isKind : am_Dec (xC X_Scen_isKind) T_Scen_isKind := by decide +kernel
def y_NS_kind : MethodName := ⟨"NumberedSparks", "kind", "(II)I"⟩
abbrev X_NS_kind : am_X := ("NumberedSparks", prog_1_method_8_code, 3, (some FieldType.int), "kind", 1)
theorem mb_NS_kind : am_mb y_NS_kind X_NS_kind 2 := ⟨wd_561, wd_1, ⟨by decide +kernel, by decide +kernel⟩, by decide +kernel, by decide, rfl⟩
def T_NS_kind : List (Nat × Instr × Nat) := [(0, .aload_n 0, 1), (1, .getfield 16, 3), (4, .iload_n 1, 1), (5, .invokevirtual 116, 3), (8, .ifCond .eq 13, 3), (11, .iload_n 2, 1), (12, .ifCond .lt 9, 3), (15, .iload_n 2, 1), (16, .bipush 8, 2), (18, .if_icmp .lt 6, 3), (21, .bipush (-99), 2), (23, .ireturn, 1), (24, .aload_n 0, 1), (25, .getfield 16, 3), (28, .iload_n 1, 1), (29, .iload_n 2, 1), (30, .invokevirtual 120, 3), (33, .ireturn, 1)]
theorem dt_NS_kind : am_Dec (xC X_NS_kind) T_NS_kind := by decide +kernel
def y_Scen_isSource : MethodName := ⟨"NumberedSparks$Scene", "isSource", "(I)Z"⟩
abbrev X_Scen_isSource : am_X := ("NumberedSparks$Scene", prog_7_method_8_code, 2, (some FieldType.boolean), "isSource", 0)
theorem mb_Scen_isSource : am_mb y_Scen_isSource X_Scen_isSource 1 := ⟨wd_574, wd_2, ⟨by decide +kernel, by decide +kernel⟩, by decide +kernel, by decide, rfl⟩
def T_Scen_isSource : List (Nat × Instr × Nat) := [(0, .iload_n 1, 1), (1, .ifCond .lt 15, 3), (4, .iload_n 1, 1), (5, .aload_n 0, 1), (6, .getfield 31, 3), (9, .if_icmp .ge 7, 3), (12, .iconst 1, 1), (13, .goto 4, 3), (16, .iconst 0, 1), (17, .ireturn, 1)]
theorem dt_Scen_isSource : am_Dec (xC X_Scen_isSource) T_Scen_isSource := by decide +kernel
def y_NS_source : MethodName := ⟨"NumberedSparks", "source", "(II)I"⟩
abbrev X_NS_source : am_X := ("NumberedSparks", prog_1_method_9_code, 3, (some FieldType.int), "source", 1)
theorem mb_NS_source : am_mb y_NS_source X_NS_source 2 := ⟨wd_570, wd_1, ⟨by decide +kernel, by decide +kernel⟩, by decide +kernel, by decide, rfl⟩
def T_NS_source : List (Nat × Instr × Nat) := [(0, .aload_n 0, 1), (1, .getfield 16, 3), (4, .iload_n 1, 1), (5, .invokevirtual 124, 3), (8, .ifCond .eq 13, 3), (11, .iload_n 2, 1), (12, .ifCond .lt 9, 3), (15, .iload_n 2, 1), (16, .bipush 10, 2), (18, .if_icmp .lt 6, 3), (21, .bipush (-2), 2), (23, .ireturn, 1), (24, .aload_n 0, 1), (25, .getfield 16, 3), (28, .iload_n 1, 1), (29, .iload_n 2, 1), (30, .invokevirtual 127, 3), (33, .ireturn, 1)]
theorem dt_NS_source : am_Dec (xC X_NS_source) T_NS_source := by decide +kernel
def y_Hist_remember : MethodName := ⟨"NumberedSparks$History", "remember", "(III)V"⟩
abbrev X_Hist_remember : am_X := ("NumberedSparks$History", prog_4_method_4_code, 4, none, "remember", 1)
theorem mb_Hist_remember : am_mb y_Hist_remember X_Hist_remember 3 := ⟨wd_584, wd_4, ⟨by decide +kernel, by decide +kernel⟩, by decide +kernel, by decide, rfl⟩
def T_Hist_remember : List (Nat × Instr × Nat) := [(0, .aload_n 0, 1), (1, .getfield 21, 3), (4, .bipush 10, 2), (6, .if_icmp .lt 54, 3), (9, .aload_n 0, 1), (10, .getfield 11, 3), (13, .iconst 1, 1), (14, .aload_n 0, 1), (15, .getfield 11, 3), (18, .iconst 0, 1), (19, .bipush 9, 2), (21, .invokestatic 25, 3), (24, .aload_n 0, 1), (25, .getfield 15, 3), (28, .iconst 1, 1), (29, .aload_n 0, 1), (30, .getfield 15, 3), (33, .iconst 0, 1), (34, .bipush 9, 2), (36, .invokestatic 25, 3), (39, .aload_n 0, 1), (40, .getfield 18, 3), (43, .iconst 1, 1), (44, .aload_n 0, 1), (45, .getfield 18, 3), (48, .iconst 0, 1), (49, .bipush 9, 2), (51, .invokestatic 25, 3), (54, .aload_n 0, 1), (55, .bipush 9, 2), (57, .putfield 21, 3), (60, .aload_n 0, 1), (61, .getfield 11, 3), (64, .aload_n 0, 1), (65, .getfield 21, 3), (68, .iload_n 1, 1), (69, .iastore, 1), (70, .aload_n 0, 1), (71, .getfield 15, 3), (74, .aload_n 0, 1), (75, .getfield 21, 3), (78, .iload_n 2, 1), (79, .iastore, 1), (80, .aload_n 0, 1), (81, .getfield 18, 3), (84, .aload_n 0, 1), (85, .getfield 21, 3), (88, .iload_n 3, 1), (89, .iastore, 1), (90, .aload_n 0, 1), (91, .dup, 1), (92, .getfield 21, 3), (95, .iconst 1, 1), (96, .iadd, 1), (97, .putfield 21, 3), (100, .return_, 1)]
theorem dt_Hist_remember : am_Dec (xC X_Hist_remember) T_Hist_remember := by decide +kernel
def y_NS_seed : MethodName := ⟨"NumberedSparks", "seed", "(I)I"⟩
abbrev X_NS_seed : am_X := ("NumberedSparks", prog_1_method_10_code, 3, (some FieldType.int), "seed", 2)
theorem mb_NS_seed : am_mb y_NS_seed X_NS_seed 1 := ⟨wd_579, wd_1, ⟨by decide +kernel, by decide +kernel⟩, by decide +kernel, by decide, rfl⟩
def T_NS_seed : List (Nat × Instr × Nat) := [(0, .aload_n 0, 1), (1, .getfield 16, 3), (4, .getfield 130, 3), (7, .ifCond .eq 13, 3), (10, .iload_n 1, 1), (11, .ifCond .lt 9, 3), (14, .iload_n 1, 1), (15, .ldc 134, 2), (17, .if_icmp .le 6, 3), (20, .bipush (-2), 2), (22, .ireturn, 1), (23, .aload_n 0, 1), (24, .getfield 16, 3), (27, .getfield 110, 3), (30, .istore_n 2, 1), (31, .iload_n 1, 1), (32, .iload_n 2, 1), (33, .if_icmp .eq 28, 3), (36, .aload_n 0, 1), (37, .getfield 30, 3), (40, .iconst (-1), 1), (41, .iconst 0, 1), (42, .iload_n 2, 1), (43, .invokevirtual 135, 3), (46, .aload_n 0, 1), (47, .getfield 16, 3), (50, .iload_n 1, 1), (51, .putfield 110, 3), (54, .aload_n 0, 1), (55, .getfield 55, 3), (58, .invokevirtual 93, 3), (61, .iload_n 2, 1), (62, .ireturn, 1)]
theorem dt_NS_seed : am_Dec (xC X_NS_seed) T_NS_seed := by decide +kernel
def y_NS_sets : MethodName := ⟨"NumberedSparks", "sets", "(III)I"⟩
abbrev X_NS_sets : am_X := ("NumberedSparks", prog_1_method_11_code, 5, (some FieldType.int), "sets", 2)
theorem mb_NS_sets : am_mb y_NS_sets X_NS_sets 3 := ⟨wd_589, wd_1, ⟨by decide +kernel, by decide +kernel⟩, by decide +kernel, by decide, rfl⟩
def T_NS_sets : List (Nat × Instr × Nat) := [(0, .aload_n 0, 1), (1, .getfield 16, 3), (4, .iload_n 1, 1), (5, .invokevirtual 116, 3), (8, .ifCond .eq 12, 3), (11, .iload_n 2, 1), (12, .ifCond .lt 8, 3), (15, .iload_n 2, 1), (16, .iconst 4, 1), (17, .if_icmp .le 6, 3), (20, .bipush (-99), 2), (22, .ireturn, 1), (23, .iload_n 3, 1), (24, .getstatic 139, 3), (27, .iload_n 2, 1), (28, .iaload, 1), (29, .if_icmp .lt 12, 3), (32, .iload_n 3, 1), (33, .getstatic 142, 3), (36, .iload_n 2, 1), (37, .iaload, 1), (38, .if_icmp .le 6, 3), (41, .bipush (-99), 2), (43, .ireturn, 1), (44, .aload_n 0, 1), (45, .getfield 16, 3), (48, .iload_n 1, 1), (49, .iload_n 2, 1), (50, .invokevirtual 120, 3), (53, .istore 4, 2), (55, .iload_n 3, 1), (56, .iload 4, 2), (58, .if_icmp .eq 31, 3), (61, .aload_n 0, 1), (62, .getfield 30, 3), (65, .iload_n 1, 1), (66, .iload_n 2, 1), (67, .iload 4, 2), (69, .invokevirtual 135, 3), (72, .aload_n 0, 1), (73, .getfield 16, 3), (76, .iload_n 1, 1), (77, .iload_n 2, 1), (78, .iload_n 3, 1), (79, .invokevirtual 145, 3), (82, .aload_n 0, 1), (83, .getfield 55, 3), (86, .invokevirtual 93, 3), (89, .iload 4, 2), (91, .ireturn, 1)]
theorem dt_NS_sets : am_Dec (xC X_NS_sets) T_NS_sets := by decide +kernel
def y_Hist_isEmpty : MethodName := ⟨"NumberedSparks$History", "isEmpty", "()Z"⟩
abbrev X_Hist_isEmpty : am_X := ("NumberedSparks$History", prog_4_method_3_code, 1, (some FieldType.boolean), "isEmpty", 0)
theorem mb_Hist_isEmpty : am_mb y_Hist_isEmpty X_Hist_isEmpty 0 := ⟨wd_602, wd_4, ⟨by decide +kernel, by decide +kernel⟩, by decide +kernel, by decide, rfl⟩
def T_Hist_isEmpty : List (Nat × Instr × Nat) := [(0, .aload_n 0, 1), (1, .getfield 21, 3), (4, .ifCond .gt 7, 3), (7, .iconst 1, 1), (8, .goto 4, 3), (11, .iconst 0, 1), (12, .ireturn, 1)]
theorem dt_Hist_isEmpty : am_Dec (xC X_Hist_isEmpty) T_Hist_isEmpty := by decide +kernel
def y_Hist_takeBack : MethodName := ⟨"NumberedSparks$History", "takeBack", "(LNumberedSparks$Scene;)V"⟩
abbrev X_Hist_takeBack : am_X := ("NumberedSparks$History", prog_4_method_5_code, 2, none, "takeBack", 1)
theorem mb_Hist_takeBack : am_mb y_Hist_takeBack X_Hist_takeBack 1 := ⟨wd_606, wd_4, ⟨by decide +kernel, by decide +kernel⟩, by decide +kernel, by decide, rfl⟩
def T_Hist_takeBack : List (Nat × Instr × Nat) := [(0, .aload_n 0, 1), (1, .invokevirtual 31, 3), (4, .ifCond .eq 4, 3), (7, .return_, 1), (8, .aload_n 0, 1), (9, .dup, 1), (10, .getfield 21, 3), (13, .iconst 1, 1), (14, .isub, 1), (15, .putfield 21, 3), (18, .aload_n 0, 1), (19, .getfield 11, 3), (22, .aload_n 0, 1), (23, .getfield 21, 3), (26, .iaload, 1), (27, .iconst (-1), 1), (28, .if_icmp .ne 19, 3), (31, .aload_n 1, 1), (32, .aload_n 0, 1), (33, .getfield 18, 3), (36, .aload_n 0, 1), (37, .getfield 21, 3), (40, .iaload, 1), (41, .putfield 35, 3), (44, .goto 34, 3), (47, .aload_n 1, 1), (48, .aload_n 0, 1), (49, .getfield 11, 3), (52, .aload_n 0, 1), (53, .getfield 21, 3), (56, .iaload, 1), (57, .aload_n 0, 1), (58, .getfield 15, 3), (61, .aload_n 0, 1), (62, .getfield 21, 3), (65, .iaload, 1), (66, .aload_n 0, 1), (67, .getfield 18, 3), (70, .aload_n 0, 1), (71, .getfield 21, 3), (74, .iaload, 1), (75, .invokevirtual 40, 3), (78, .return_, 1)]
theorem dt_Hist_takeBack : am_Dec (xC X_Hist_takeBack) T_Hist_takeBack := by decide +kernel
def y_NS_undo : MethodName := ⟨"NumberedSparks", "undo", "()I"⟩
abbrev X_NS_undo : am_X := ("NumberedSparks", prog_1_method_12_code, 1, (some FieldType.int), "undo", 2)
theorem mb_NS_undo : am_mb y_NS_undo X_NS_undo 0 := ⟨wd_598, wd_1, ⟨by decide +kernel, by decide +kernel⟩, by decide +kernel, by decide, rfl⟩
def T_NS_undo : List (Nat × Instr × Nat) := [(0, .aload_n 0, 1), (1, .getfield 16, 3), (4, .getfield 130, 3), (7, .ifCond .ne 6, 3), (10, .bipush (-2), 2), (12, .ireturn, 1), (13, .aload_n 0, 1), (14, .getfield 30, 3), (17, .invokevirtual 148, 3), (20, .ifCond .eq 5, 3), (23, .iconst (-1), 1), (24, .ireturn, 1), (25, .aload_n 0, 1), (26, .getfield 30, 3), (29, .aload_n 0, 1), (30, .getfield 16, 3), (33, .invokevirtual 152, 3), (36, .aload_n 0, 1), (37, .getfield 55, 3), (40, .invokevirtual 93, 3), (43, .aload_n 0, 1), (44, .getfield 30, 3), (47, .getfield 155, 3), (50, .ireturn, 1)]
theorem dt_NS_undo : am_Dec (xC X_NS_undo) T_NS_undo := by decide +kernel
def y_Scen_mix : MethodName := ⟨"NumberedSparks$Scene", "mix", "(II)J"⟩
abbrev X_Scen_mix : am_X := ("NumberedSparks$Scene", prog_7_method_13_code, 5, (some FieldType.long), "mix", 0)
theorem mb_Scen_mix : am_mb y_Scen_mix X_Scen_mix 2 := ⟨wd_616, wd_2, ⟨by decide +kernel, by decide +kernel⟩, by decide +kernel, by decide, rfl⟩
def T_Scen_mix : List (Nat × Instr × Nat) := [(0, .aload_n 0, 1), (1, .getfield 34, 3), (4, .i2l, 1), (5, .iload_n 1, 1), (6, .i2l, 1), (7, .ldc2_w 58, 3), (10, .lmul, 1), (11, .ladd, 1), (12, .iload_n 2, 1), (13, .i2l, 1), (14, .ldc2_w 60, 3), (17, .lmul, 1), (18, .ladd, 1), (19, .lstore_n 3, 1), (20, .lload_n 3, 1), (21, .lload_n 3, 1), (22, .bipush 30, 2), (24, .lushr, 1), (25, .lxor, 1), (26, .ldc2_w 62, 3), (29, .lmul, 1), (30, .lstore_n 3, 1), (31, .lload_n 3, 1), (32, .lload_n 3, 1), (33, .bipush 27, 2), (35, .lushr, 1), (36, .lxor, 1), (37, .ldc2_w 64, 3), (40, .lmul, 1), (41, .lstore_n 3, 1), (42, .lload_n 3, 1), (43, .lload_n 3, 1), (44, .bipush 31, 2), (46, .lushr, 1), (47, .lxor, 1), (48, .lreturn, 1)]
theorem dt_Scen_mix : am_Dec (xC X_Scen_mix) T_Scen_mix := by decide +kernel
def y_NS_mixed : MethodName := ⟨"NumberedSparks", "mixed", "(II)J"⟩
abbrev X_NS_mixed : am_X := ("NumberedSparks", prog_1_method_13_code, 3, (some FieldType.long), "mixed", 1)
theorem mb_NS_mixed : am_mb y_NS_mixed X_NS_mixed 2 := ⟨wd_612, wd_1, ⟨by decide +kernel, by decide +kernel⟩, by decide +kernel, by decide, rfl⟩
def T_NS_mixed : List (Nat × Instr × Nat) := [(0, .aload_n 0, 1), (1, .getfield 16, 3), (4, .getfield 130, 3), (7, .ifCond .eq 15, 3), (10, .aload_n 0, 1), (11, .getfield 16, 3), (14, .iload_n 1, 1), (15, .iload_n 2, 1), (16, .invokevirtual 156, 3), (19, .goto 4, 3), (22, .lconst 0, 1), (23, .lreturn, 1)]
theorem dt_NS_mixed : am_Dec (xC X_NS_mixed) T_NS_mixed := by decide +kernel
def y_NS_sourceOf : MethodName := ⟨"NumberedSparks", "sourceOf", "(I)I"⟩
abbrev X_NS_sourceOf : am_X := ("NumberedSparks", prog_1_method_62_code, 1, (some FieldType.int), "sourceOf", 0)
theorem mb_NS_sourceOf : am_mb y_NS_sourceOf X_NS_sourceOf 1 := ⟨wd_631, wd_1, ⟨by decide +kernel, by decide +kernel⟩, by decide +kernel, by decide, rfl⟩
def T_NS_sourceOf : List (Nat × Instr × Nat) := [(0, .iload_n 0, 1), (1, .bipush 8, 2), (3, .ishr, 1), (4, .iconst 3, 1), (5, .iand, 1), (6, .ireturn, 1)]
theorem dt_NS_sourceOf : am_Dec (xC X_NS_sourceOf) T_NS_sourceOf := by decide +kernel
def y_NS_numberOf : MethodName := ⟨"NumberedSparks", "numberOf", "(I)I"⟩
abbrev X_NS_numberOf : am_X := ("NumberedSparks", prog_1_method_63_code, 1, (some FieldType.int), "numberOf", 0)
theorem mb_NS_numberOf : am_mb y_NS_numberOf X_NS_numberOf 1 := ⟨wd_635, wd_1, ⟨by decide +kernel, by decide +kernel⟩, by decide +kernel, by decide, rfl⟩
def T_NS_numberOf : List (Nat × Instr × Nat) := [(0, .iload_n 0, 1), (1, .bipush 10, 2), (3, .ishr, 1), (4, .ireturn, 1)]
theorem dt_NS_numberOf : am_Dec (xC X_NS_numberOf) T_NS_numberOf := by decide +kernel
def y_Scen_hasSpark : MethodName := ⟨"NumberedSparks$Scene", "hasSpark", "(I)Z"⟩
abbrev X_Scen_hasSpark : am_X := ("NumberedSparks$Scene", prog_7_method_16_code, 6, (some FieldType.boolean), "hasSpark", 1)
theorem mb_Scen_hasSpark : am_mb y_Scen_hasSpark X_Scen_hasSpark 1 := ⟨wd_628, wd_2, ⟨by decide +kernel, by decide +kernel⟩, by decide +kernel, by decide, rfl⟩
def T_Scen_hasSpark : List (Nat × Instr × Nat) := [(0, .aload_n 0, 1), (1, .getfield 47, 3), (4, .ifCond .eq 7, 3), (7, .iload_n 1, 1), (8, .ifCond .ge 5, 3), (11, .iconst 0, 1), (12, .ireturn, 1), (13, .iload_n 1, 1), (14, .invokestatic 74, 3), (17, .istore_n 2, 1), (18, .aload_n 0, 1), (19, .iload_n 2, 1), (20, .invokevirtual 77, 3), (23, .ifCond .eq 17, 3), (26, .iload_n 1, 1), (27, .invokestatic 81, 3), (30, .aload_n 0, 1), (31, .iload_n 2, 1), (32, .bipush 9, 2), (34, .invokevirtual 84, 3), (37, .if_icmp .lt 5, 3), (40, .iconst 0, 1), (41, .ireturn, 1), (42, .aload_n 0, 1), (43, .iload_n 2, 1), (44, .iconst 0, 1), (45, .invokevirtual 84, 3), (48, .istore_n 3, 1), (49, .iload_n 1, 1), (50, .iconst 4, 1), (51, .ishr, 1), (52, .bipush 15, 2), (54, .iand, 1), (55, .istore 4, 2), (57, .iload_n 1, 1), (58, .bipush 15, 2), (60, .iand, 1), (61, .istore 5, 2), (63, .iload 4, 2), (65, .ifCond .ne 14, 3), (68, .iload 5, 2), (70, .ifCond .ne 7, 3), (73, .iconst 1, 1), (74, .goto 4, 3), (77, .iconst 0, 1), (78, .ireturn, 1), (79, .iload 4, 2), (81, .aload_n 0, 1), (82, .iload_n 3, 1), (83, .bipush 6, 2), (85, .invokevirtual 88, 3), (88, .if_icmp .le 5, 3), (91, .iconst 0, 1), (92, .ireturn, 1), (93, .iload 5, 2), (95, .aload_n 0, 1), (96, .aload_n 0, 1), (97, .iload_n 3, 1), (98, .bipush 7, 2), (100, .invokevirtual 88, 3), (103, .bipush 6, 2), (105, .invokevirtual 88, 3), (108, .if_icmp .gt 7, 3), (111, .iconst 1, 1), (112, .goto 4, 3), (115, .iconst 0, 1), (116, .ireturn, 1)]
theorem dt_Scen_hasSpark : am_Dec (xC X_Scen_hasSpark) T_Scen_hasSpark := by decide +kernel
def y_NS_is : MethodName := ⟨"NumberedSparks", "is", "(I)I"⟩
abbrev X_NS_is : am_X := ("NumberedSparks", prog_1_method_14_code, 2, (some FieldType.int), "is", 2)
theorem mb_NS_is : am_mb y_NS_is X_NS_is 1 := ⟨wd_624, wd_1, ⟨by decide +kernel, by decide +kernel⟩, by decide +kernel, by decide, rfl⟩
def T_NS_is : List (Nat × Instr × Nat) := [(0, .aload_n 0, 1), (1, .getfield 16, 3), (4, .getfield 130, 3), (7, .ifCond .ne 6, 3), (10, .bipush (-2), 2), (12, .ireturn, 1), (13, .aload_n 0, 1), (14, .getfield 16, 3), (17, .iload_n 1, 1), (18, .invokevirtual 160, 3), (21, .ifCond .eq 7, 3), (24, .iconst 1, 1), (25, .goto 4, 3), (28, .iconst 0, 1), (29, .ireturn, 1)]
theorem dt_NS_is : am_Dec (xC X_NS_is) T_NS_is := by decide +kernel
def y_NS_generationOf : MethodName := ⟨"NumberedSparks", "generationOf", "(I)I"⟩
abbrev X_NS_generationOf : am_X := ("NumberedSparks", prog_1_method_65_code, 1, (some FieldType.int), "generationOf", 0)
theorem mb_NS_generationOf : am_mb y_NS_generationOf X_NS_generationOf 1 := ⟨wd_643, wd_1, ⟨by decide +kernel, by decide +kernel⟩, by decide +kernel, by decide, rfl⟩
def T_NS_generationOf : List (Nat × Instr × Nat) := [(0, .iload_n 0, 1), (1, .bipush 15, 2), (3, .iand, 1), (4, .ifCond .eq 5, 3), (7, .iconst 2, 1), (8, .ireturn, 1), (9, .iload_n 0, 1), (10, .sipush 255, 3), (13, .iand, 1), (14, .ifCond .eq 7, 3), (17, .iconst 1, 1), (18, .goto 4, 3), (21, .iconst 0, 1), (22, .ireturn, 1)]
theorem dt_NS_generationOf : am_Dec (xC X_NS_generationOf) T_NS_generationOf := by decide +kernel
def y_Scen_kindOfSpark : MethodName := ⟨"NumberedSparks$Scene", "kindOfSpark", "(I)I"⟩
abbrev X_Scen_kindOfSpark : am_X := ("NumberedSparks$Scene", prog_7_method_17_code, 4, (some FieldType.int), "kindOfSpark", 1)
theorem mb_Scen_kindOfSpark : am_mb y_Scen_kindOfSpark X_Scen_kindOfSpark 1 := ⟨wd_647, wd_2, ⟨by decide +kernel, by decide +kernel⟩, by decide +kernel, by decide, rfl⟩
def T_Scen_kindOfSpark : List (Nat × Instr × Nat) := [(0, .aload_n 0, 1), (1, .iload_n 1, 1), (2, .invokestatic 74, 3), (5, .iconst 0, 1), (6, .invokevirtual 84, 3), (9, .istore_n 2, 1), (10, .iconst 0, 1), (11, .istore_n 3, 1), (12, .iload_n 3, 1), (13, .iload_n 1, 1), (14, .invokestatic 91, 3), (17, .if_icmp .ge 22, 3), (20, .iload_n 3, 1), (21, .iconst 3, 1), (22, .if_icmp .ge 17, 3), (25, .aload_n 0, 1), (26, .iload_n 2, 1), (27, .bipush 7, 2), (29, .invokevirtual 88, 3), (32, .istore_n 2, 1), (33, .iinc 3 1, 3), (36, .goto (-24), 3), (39, .iload_n 2, 1), (40, .ireturn, 1)]
theorem dt_Scen_kindOfSpark : am_Dec (xC X_Scen_kindOfSpark) T_Scen_kindOfSpark := by decide +kernel
def y_NS_codeOfChild : MethodName := ⟨"NumberedSparks", "codeOfChild", "(III)I"⟩
abbrev X_NS_codeOfChild : am_X := ("NumberedSparks", prog_1_method_66_code, 3, (some FieldType.int), "codeOfChild", 0)
theorem mb_NS_codeOfChild : am_mb y_NS_codeOfChild X_NS_codeOfChild 3 := ⟨wd_651, wd_1, ⟨by decide +kernel, by decide +kernel⟩, by decide +kernel, by decide, rfl⟩
def T_NS_codeOfChild : List (Nat × Instr × Nat) := [(0, .iload_n 0, 1), (1, .iload_n 1, 1), (2, .ifCond .ne 8, 3), (5, .bipush 16, 2), (7, .goto 4, 3), (10, .iconst 1, 1), (11, .iconst 1, 1), (12, .iload_n 2, 1), (13, .iadd, 1), (14, .imul, 1), (15, .iadd, 1), (16, .ireturn, 1)]
theorem dt_NS_codeOfChild : am_Dec (xC X_NS_codeOfChild) T_NS_codeOfChild := by decide +kernel
def y_NS_child : MethodName := ⟨"NumberedSparks", "child", "(II)I"⟩
abbrev X_NS_child : am_X := ("NumberedSparks", prog_1_method_15_code, 4, (some FieldType.int), "child", 2)
theorem mb_NS_child : am_mb y_NS_child X_NS_child 2 := ⟨wd_640, wd_1, ⟨by decide +kernel, by decide +kernel⟩, by decide +kernel, by decide, rfl⟩
def T_NS_child : List (Nat × Instr × Nat) := [(0, .aload_n 0, 1), (1, .getfield 16, 3), (4, .iload_n 1, 1), (5, .invokevirtual 160, 3), (8, .ifCond .ne 6, 3), (11, .bipush (-2), 2), (13, .ireturn, 1), (14, .iload_n 1, 1), (15, .invokestatic 163, 3), (18, .istore_n 3, 1), (19, .iload_n 3, 1), (20, .iconst 2, 1), (21, .if_icmp .eq 28, 3), (24, .iload_n 2, 1), (25, .ifCond .lt 24, 3), (28, .iload_n 2, 1), (29, .aload_n 0, 1), (30, .getfield 16, 3), (33, .aload_n 0, 1), (34, .getfield 16, 3), (37, .iload_n 1, 1), (38, .invokevirtual 166, 3), (41, .bipush 6, 2), (43, .invokevirtual 120, 3), (46, .if_icmp .lt 5, 3), (49, .iconst (-1), 1), (50, .ireturn, 1), (51, .iload_n 1, 1), (52, .iload_n 3, 1), (53, .iload_n 2, 1), (54, .invokestatic 169, 3), (57, .ireturn, 1)]
theorem dt_NS_child : am_Dec (xC X_NS_child) T_NS_child := by decide +kernel
def y_NS_codeOfParent : MethodName := ⟨"NumberedSparks", "codeOfParent", "(I)I"⟩
abbrev X_NS_codeOfParent : am_X := ("NumberedSparks", prog_1_method_67_code, 1, (some FieldType.int), "codeOfParent", 0)
theorem mb_NS_codeOfParent : am_mb y_NS_codeOfParent X_NS_codeOfParent 1 := ⟨wd_658, wd_1, ⟨by decide +kernel, by decide +kernel⟩, by decide +kernel, by decide, rfl⟩
def T_NS_codeOfParent : List (Nat × Instr × Nat) := [(0, .iload_n 0, 1), (1, .bipush 15, 2), (3, .iand, 1), (4, .ifCond .eq 8, 3), (7, .iload_n 0, 1), (8, .bipush (-16), 2), (10, .iand, 1), (11, .ireturn, 1), (12, .iload_n 0, 1), (13, .sipush 255, 3), (16, .iand, 1), (17, .ifCond .eq 11, 3), (20, .iload_n 0, 1), (21, .sipush (-256), 3), (24, .iand, 1), (25, .goto 4, 3), (28, .iconst (-1), 1), (29, .ireturn, 1)]
theorem dt_NS_codeOfParent : am_Dec (xC X_NS_codeOfParent) T_NS_codeOfParent := by decide +kernel
def y_NS_parent : MethodName := ⟨"NumberedSparks", "parent", "(I)I"⟩
abbrev X_NS_parent : am_X := ("NumberedSparks", prog_1_method_16_code, 2, (some FieldType.int), "parent", 2)
theorem mb_NS_parent : am_mb y_NS_parent X_NS_parent 1 := ⟨wd_655, wd_1, ⟨by decide +kernel, by decide +kernel⟩, by decide +kernel, by decide, rfl⟩
def T_NS_parent : List (Nat × Instr × Nat) := [(0, .aload_n 0, 1), (1, .getfield 16, 3), (4, .iload_n 1, 1), (5, .invokevirtual 160, 3), (8, .ifCond .ne 6, 3), (11, .bipush (-2), 2), (13, .ireturn, 1), (14, .iload_n 1, 1), (15, .invokestatic 173, 3), (18, .ireturn, 1)]
theorem dt_NS_parent : am_Dec (xC X_NS_parent) T_NS_parent := by decide +kernel
def y_Math_max : MethodName := ⟨"java/lang/Math", "max", "(II)I"⟩
abbrev X_Math_max : am_X := ("java/lang/Math", prog_13_method_65_code, 2, (some FieldType.int), "max", 0)
theorem mb_Math_max : am_mb y_Math_max X_Math_max 2 := ⟨wd_680, wd_11, ⟨by decide +kernel, by decide +kernel⟩, by decide +kernel, by decide, rfl⟩
def T_Math_max : List (Nat × Instr × Nat) := [(0, .iload_n 0, 1), (1, .iload_n 1, 1), (2, .if_icmp .lt 7, 3), (5, .iload_n 0, 1), (6, .goto 4, 3), (9, .iload_n 1, 1), (10, .ireturn, 1)]
theorem dt_Math_max : am_Dec (xC X_Math_max) T_Math_max := by decide +kernel
def y_Scen_plannedTick : MethodName := ⟨"NumberedSparks$Scene", "plannedTick", "(II)I"⟩
abbrev X_Scen_plannedTick : am_X := ("NumberedSparks$Scene", prog_7_method_19_code, 4, (some FieldType.int), "plannedTick", 1)
theorem mb_Scen_plannedTick : am_mb y_Scen_plannedTick X_Scen_plannedTick 2 := ⟨wd_677, wd_2, ⟨by decide +kernel, by decide +kernel⟩, by decide +kernel, by decide, rfl⟩
def T_Scen_plannedTick : List (Nat × Instr × Nat) := [(0, .iconst 1, 1), (1, .aload_n 0, 1), (2, .iload_n 1, 1), (3, .bipush 6, 2), (5, .invokevirtual 84, 3), (8, .invokestatic 99, 3), (11, .istore_n 3, 1), (12, .aload_n 0, 1), (13, .iload_n 1, 1), (14, .iconst 4, 1), (15, .invokevirtual 84, 3), (18, .iload_n 2, 1), (19, .iload_n 3, 1), (20, .idiv, 1), (21, .aload_n 0, 1), (22, .iload_n 1, 1), (23, .iconst 5, 1), (24, .invokevirtual 84, 3), (27, .imul, 1), (28, .iadd, 1), (29, .ireturn, 1)]
theorem dt_Scen_plannedTick : am_Dec (xC X_Scen_plannedTick) T_Scen_plannedTick := by decide +kernel
def y_NS_codeOfRoot : MethodName := ⟨"NumberedSparks", "codeOfRoot", "(II)I"⟩
abbrev X_NS_codeOfRoot : am_X := ("NumberedSparks", prog_1_method_64_code, 2, (some FieldType.int), "codeOfRoot", 0)
theorem mb_NS_codeOfRoot : am_mb y_NS_codeOfRoot X_NS_codeOfRoot 2 := ⟨wd_683, wd_1, ⟨by decide +kernel, by decide +kernel⟩, by decide +kernel, by decide, rfl⟩
def T_NS_codeOfRoot : List (Nat × Instr × Nat) := [(0, .sipush 256, 3), (3, .iconst 4, 1), (4, .iload_n 1, 1), (5, .imul, 1), (6, .iload_n 0, 1), (7, .iadd, 1), (8, .imul, 1), (9, .ireturn, 1)]
theorem dt_NS_codeOfRoot : am_Dec (xC X_NS_codeOfRoot) T_NS_codeOfRoot := by decide +kernel
def y_Scen_draw : MethodName := ⟨"NumberedSparks$Scene", "draw", "(III)I"⟩
abbrev X_Scen_draw : am_X := ("NumberedSparks$Scene", prog_7_method_14_code, 4, (some FieldType.int), "draw", 1)
theorem mb_Scen_draw : am_mb y_Scen_draw X_Scen_draw 3 := ⟨wd_687, wd_2, ⟨by decide +kernel, by decide +kernel⟩, by decide +kernel, by decide, rfl⟩
def T_Scen_draw : List (Nat × Instr × Nat) := [(0, .iload_n 3, 1), (1, .iconst 1, 1), (2, .if_icmp .le 19, 3), (5, .aload_n 0, 1), (6, .iload_n 1, 1), (7, .iload_n 2, 1), (8, .invokevirtual 66, 3), (11, .bipush 33, 2), (13, .lushr, 1), (14, .iload_n 3, 1), (15, .i2l, 1), (16, .lrem, 1), (17, .l2i, 1), (18, .goto 4, 3), (21, .iconst 0, 1), (22, .ireturn, 1)]
theorem dt_Scen_draw : am_Dec (xC X_Scen_draw) T_Scen_draw := by decide +kernel
def y_Scen_birthTick : MethodName := ⟨"NumberedSparks$Scene", "birthTick", "(II)I"⟩
abbrev X_Scen_birthTick : am_X := ("NumberedSparks$Scene", prog_7_method_20_code, 3, (some FieldType.int), "birthTick", 2)
theorem mb_Scen_birthTick : am_mb y_Scen_birthTick X_Scen_birthTick 2 := ⟨wd_673, wd_2, ⟨by decide +kernel, by decide +kernel⟩, by decide +kernel, by decide, rfl⟩
def T_Scen_birthTick : List (Nat × Instr × Nat) := [(0, .aload_n 0, 1), (1, .iload_n 1, 1), (2, .iload_n 2, 1), (3, .invokevirtual 102, 3), (6, .aload_n 0, 1), (7, .iload_n 1, 1), (8, .iload_n 2, 1), (9, .invokestatic 105, 3), (12, .iconst 0, 1), (13, .aload_n 0, 1), (14, .iload_n 1, 1), (15, .bipush 8, 2), (17, .invokevirtual 84, 3), (20, .iconst 1, 1), (21, .iadd, 1), (22, .invokevirtual 70, 3), (25, .iadd, 1), (26, .ireturn, 1)]
theorem dt_Scen_birthTick : am_Dec (xC X_Scen_birthTick) T_Scen_birthTick := by decide +kernel
def y_Sprk_beginAtSource : MethodName := ⟨"NumberedSparks$Spark", "beginAtSource", "(III)V"⟩
abbrev X_Sprk_beginAtSource : am_X := ("NumberedSparks$Spark", prog_8_method_2_code, 5, none, "beginAtSource", 2)
theorem mb_Sprk_beginAtSource : am_mb y_Sprk_beginAtSource X_Sprk_beginAtSource 3 := ⟨wd_692, wd_7, ⟨by decide +kernel, by decide +kernel⟩, by decide +kernel, by decide, rfl⟩
def T_Sprk_beginAtSource : List (Nat × Instr × Nat) := [(0, .aload_n 0, 1), (1, .iload_n 1, 1), (2, .iload_n 2, 1), (3, .invokestatic 22, 3), (6, .putfield 26, 3), (9, .aload_n 0, 1), (10, .aload_n 0, 1), (11, .getfield 18, 3), (14, .iload_n 1, 1), (15, .iconst 0, 1), (16, .invokevirtual 30, 3), (19, .putfield 35, 3), (22, .aload_n 0, 1), (23, .iconst 0, 1), (24, .putfield 38, 3), (27, .aload_n 0, 1), (28, .iload_n 3, 1), (29, .putfield 41, 3), (32, .aload_n 0, 1), (33, .aload_n 0, 1), (34, .getfield 41, 3), (37, .aload_n 0, 1), (38, .getfield 18, 3), (41, .aload_n 0, 1), (42, .getfield 35, 3), (45, .iconst 0, 1), (46, .invokevirtual 44, 3), (49, .iadd, 1), (50, .aload_n 0, 1), (51, .getfield 18, 3), (54, .aload_n 0, 1), (55, .getfield 26, 3), (58, .iconst 1, 1), (59, .aload_n 0, 1), (60, .getfield 18, 3), (63, .aload_n 0, 1), (64, .getfield 35, 3), (67, .iconst 1, 1), (68, .invokevirtual 44, 3), (71, .iconst 1, 1), (72, .iadd, 1), (73, .invokevirtual 47, 3), (76, .iadd, 1), (77, .putfield 51, 3), (80, .iconst 0, 1), (81, .istore 4, 2), (83, .iload 4, 2), (85, .iconst 3, 1), (86, .if_icmp .ge 33, 3), (89, .aload_n 0, 1), (90, .getfield 9, 3), (93, .iload 4, 2), (95, .bipush 8, 2), (97, .aload_n 0, 1), (98, .getfield 18, 3), (101, .iload_n 1, 1), (102, .iconst 1, 1), (103, .iload 4, 2), (105, .iadd, 1), (106, .invokevirtual 30, 3), (109, .imul, 1), (110, .iconst 4, 1), (111, .iadd, 1), (112, .iastore, 1), (113, .iinc 4 1, 3), (116, .goto (-33), 3), (119, .return_, 1)]
theorem dt_Sprk_beginAtSource : am_Dec (xC X_Sprk_beginAtSource) T_Sprk_beginAtSource := by decide +kernel
def y_Sprk_ageBeyond : MethodName := ⟨"NumberedSparks$Spark", "ageBeyond", "(II)I"⟩
abbrev X_Sprk_ageBeyond : am_X := ("NumberedSparks$Spark", prog_8_method_5_code, 8, (some FieldType.int), "ageBeyond", 1)
theorem mb_Sprk_ageBeyond : am_mb y_Sprk_ageBeyond X_Sprk_ageBeyond 2 := ⟨wd_704, wd_7, ⟨by decide +kernel, by decide +kernel⟩, by decide +kernel, by decide, rfl⟩
def T_Sprk_ageBeyond : List (Nat × Instr × Nat) := [(0, .aload_n 0, 1), (1, .getfield 18, 3), (4, .iload_n 1, 1), (5, .invokevirtual 74, 3), (8, .bipush 8, 2), (10, .imul, 1), (11, .istore_n 3, 1), (12, .aload_n 0, 1), (13, .getfield 9, 3), (16, .iload_n 1, 1), (17, .iaload, 1), (18, .istore 4, 2), (20, .aload_n 0, 1), (21, .getfield 15, 3), (24, .iload_n 1, 1), (25, .iaload, 1), (26, .istore 5, 2), (28, .iload_n 1, 1), (29, .iconst 1, 1), (30, .if_icmp .ne 10, 3), (33, .aload_n 0, 1), (34, .getfield 60, 3), (37, .goto 4, 3), (40, .iconst 0, 1), (41, .istore 6, 2), (43, .iload 5, 2), (45, .ifCond .ne 10, 3), (48, .iload 6, 2), (50, .ifCond .ne 5, 3), (53, .iload_n 2, 1), (54, .ireturn, 1), (55, .iconst 1, 1), (56, .istore 7, 2), (58, .iload 7, 2), (60, .iload_n 2, 1), (61, .if_icmp .ge 37, 3), (64, .iload 4, 2), (66, .iload 5, 2), (68, .iadd, 1), (69, .istore 4, 2), (71, .iload 5, 2), (73, .iload 6, 2), (75, .iadd, 1), (76, .istore 5, 2), (78, .iload 4, 2), (80, .ifCond .lt 9, 3), (83, .iload 4, 2), (85, .iload_n 3, 1), (86, .if_icmp .lt 6, 3), (89, .iload 7, 2), (91, .ireturn, 1), (92, .iinc 7 1, 3), (95, .goto (-37), 3), (98, .iload_n 2, 1), (99, .ireturn, 1)]
theorem dt_Sprk_ageBeyond : am_Dec (xC X_Sprk_ageBeyond) T_Sprk_ageBeyond := by decide +kernel
def y_Sprk_fly : MethodName := ⟨"NumberedSparks$Spark", "fly", "()V"⟩
abbrev X_Sprk_fly : am_X := ("NumberedSparks$Spark", prog_8_method_4_code, 3, none, "fly", 2)
theorem mb_Sprk_fly : am_mb y_Sprk_fly X_Sprk_fly 0 := ⟨wd_700, wd_7, ⟨by decide +kernel, by decide +kernel⟩, by decide +kernel, by decide, rfl⟩
def T_Sprk_fly : List (Nat × Instr × Nat) := [(0, .aload_n 0, 1), (1, .aload_n 0, 1), (2, .getfield 18, 3), (5, .aload_n 0, 1), (6, .getfield 35, 3), (9, .iconst 3, 1), (10, .invokevirtual 44, 3), (13, .putfield 60, 3), (16, .aload_n 0, 1), (17, .aload_n 0, 1), (18, .getfield 18, 3), (21, .aload_n 0, 1), (22, .getfield 35, 3), (25, .iconst 5, 1), (26, .invokevirtual 44, 3), (29, .putfield 63, 3), (32, .aload_n 0, 1), (33, .getfield 18, 3), (36, .aload_n 0, 1), (37, .getfield 35, 3), (40, .iconst 2, 1), (41, .invokevirtual 44, 3), (44, .istore_n 1, 1), (45, .iconst 0, 1), (46, .istore_n 2, 1), (47, .iload_n 2, 1), (48, .iconst 3, 1), (49, .if_icmp .ge 36, 3), (52, .aload_n 0, 1), (53, .getfield 15, 3), (56, .iload_n 2, 1), (57, .aload_n 0, 1), (58, .getfield 18, 3), (61, .aload_n 0, 1), (62, .getfield 26, 3), (65, .iconst 2, 1), (66, .iload_n 2, 1), (67, .iadd, 1), (68, .iconst 2, 1), (69, .iload_n 1, 1), (70, .imul, 1), (71, .iconst 1, 1), (72, .iadd, 1), (73, .invokevirtual 47, 3), (76, .iload_n 1, 1), (77, .isub, 1), (78, .iastore, 1), (79, .iinc 2 1, 3), (82, .goto (-35), 3), (85, .aload_n 0, 1), (86, .getfield 63, 3), (89, .iconst 2, 1), (90, .if_icmp .ne 46, 3), (93, .iconst 0, 1), (94, .istore_n 2, 1), (95, .iload_n 2, 1), (96, .iconst 3, 1), (97, .if_icmp .ge 39, 3), (100, .aload_n 0, 1), (101, .aload_n 0, 1), (102, .getfield 51, 3), (105, .aload_n 0, 1), (106, .getfield 41, 3), (109, .aload_n 0, 1), (110, .iload_n 2, 1), (111, .aload_n 0, 1), (112, .getfield 51, 3), (115, .aload_n 0, 1), (116, .getfield 41, 3), (119, .isub, 1), (120, .invokevirtual 66, 3), (123, .iadd, 1), (124, .invokestatic 69, 3), (127, .putfield 51, 3), (130, .iinc 2 1, 3), (133, .goto (-38), 3), (136, .return_, 1)]
theorem dt_Sprk_fly : am_Dec (xC X_Sprk_fly) T_Sprk_fly := by decide +kernel
def y_Sprk_freePlace : MethodName := ⟨"NumberedSparks$Spark", "freePlace", "(II)I"⟩
abbrev X_Sprk_freePlace : am_X := ("NumberedSparks$Spark", prog_8_method_7_code, 4, (some FieldType.int), "freePlace", 0)
theorem mb_Sprk_freePlace : am_mb y_Sprk_freePlace X_Sprk_freePlace 2 := ⟨wd_720, wd_7, ⟨by decide +kernel, by decide +kernel⟩, by decide +kernel, by decide, rfl⟩
def T_Sprk_freePlace : List (Nat × Instr × Nat) := [(0, .iload_n 1, 1), (1, .ifCond .lt 12, 3), (4, .iload_n 1, 1), (5, .aload_n 0, 1), (6, .getfield 9, 3), (9, .arraylength, 1), (10, .if_icmp .lt 5, 3), (13, .iconst 0, 1), (14, .ireturn, 1), (15, .aload_n 0, 1), (16, .getfield 9, 3), (19, .iload_n 1, 1), (20, .iaload, 1), (21, .iload_n 2, 1), (22, .aload_n 0, 1), (23, .getfield 15, 3), (26, .iload_n 1, 1), (27, .iaload, 1), (28, .imul, 1), (29, .iadd, 1), (30, .istore_n 3, 1), (31, .iload_n 1, 1), (32, .iconst 1, 1), (33, .if_icmp .ne 20, 3), (36, .iload_n 3, 1), (37, .aload_n 0, 1), (38, .getfield 60, 3), (41, .iload_n 2, 1), (42, .imul, 1), (43, .iload_n 2, 1), (44, .iconst 1, 1), (45, .isub, 1), (46, .imul, 1), (47, .iconst 2, 1), (48, .idiv, 1), (49, .iadd, 1), (50, .goto 4, 3), (53, .iload_n 3, 1), (54, .ireturn, 1)]
theorem dt_Sprk_freePlace : am_Dec (xC X_Sprk_freePlace) T_Sprk_freePlace := by decide +kernel
def y_Math_floorMod : MethodName := ⟨"java/lang/Math", "floorMod", "(II)I"⟩
abbrev X_Math_floorMod : am_X := ("java/lang/Math", prog_13_method_50_code, 3, (some FieldType.int), "floorMod", 0)
theorem mb_Math_floorMod : am_mb y_Math_floorMod X_Math_floorMod 2 := ⟨wd_723, wd_11, ⟨by decide +kernel, by decide +kernel⟩, by decide +kernel, by decide, rfl⟩
def T_Math_floorMod : List (Nat × Instr × Nat) := [(0, .iload_n 0, 1), (1, .iload_n 1, 1), (2, .irem, 1), (3, .istore_n 2, 1), (4, .iload_n 0, 1), (5, .iload_n 1, 1), (6, .ixor, 1), (7, .ifCond .ge 11, 3), (10, .iload_n 2, 1), (11, .ifCond .eq 7, 3), (14, .iload_n 2, 1), (15, .iload_n 1, 1), (16, .iadd, 1), (17, .ireturn, 1), (18, .iload_n 2, 1), (19, .ireturn, 1)]
theorem dt_Math_floorMod : am_Dec (xC X_Math_floorMod) T_Math_floorMod := by decide +kernel
def y_Sprk_placeAt : MethodName := ⟨"NumberedSparks$Spark", "placeAt", "(II)I"⟩
abbrev X_Sprk_placeAt : am_X := ("NumberedSparks$Spark", prog_8_method_8_code, 6, (some FieldType.int), "placeAt", 1)
theorem mb_Sprk_placeAt : am_mb y_Sprk_placeAt X_Sprk_placeAt 2 := ⟨wd_716, wd_7, ⟨by decide +kernel, by decide +kernel⟩, by decide +kernel, by decide, rfl⟩
def T_Sprk_placeAt : List (Nat × Instr × Nat) := [(0, .aload_n 0, 1), (1, .iload_n 1, 1), (2, .iload_n 2, 1), (3, .invokevirtual 78, 3), (6, .istore_n 3, 1), (7, .aload_n 0, 1), (8, .getfield 18, 3), (11, .iload_n 1, 1), (12, .invokevirtual 74, 3), (15, .bipush 8, 2), (17, .imul, 1), (18, .istore 4, 2), (20, .iload_n 3, 1), (21, .ifCond .lt 9, 3), (24, .iload_n 3, 1), (25, .iload 4, 2), (27, .if_icmp .lt 17, 3), (30, .iload 4, 2), (32, .iconst 1, 1), (33, .if_icmp .lt 11, 3), (36, .aload_n 0, 1), (37, .getfield 63, 3), (40, .iconst 2, 1), (41, .if_icmp .ne 5, 3), (44, .iload_n 3, 1), (45, .ireturn, 1), (46, .aload_n 0, 1), (47, .getfield 63, 3), (50, .ifCond .ne 10, 3), (53, .iload_n 3, 1), (54, .iload 4, 2), (56, .invokestatic 81, 3), (59, .ireturn, 1), (60, .iload_n 3, 1), (61, .iconst 2, 1), (62, .iload 4, 2), (64, .imul, 1), (65, .invokestatic 81, 3), (68, .istore 5, 2), (70, .iload 5, 2), (72, .iload 4, 2), (74, .if_icmp .ge 8, 3), (77, .iload 5, 2), (79, .goto 12, 3), (82, .iconst 2, 1), (83, .iload 4, 2), (85, .imul, 1), (86, .iconst 1, 1), (87, .isub, 1), (88, .iload 5, 2), (90, .isub, 1), (91, .ireturn, 1)]
theorem dt_Sprk_placeAt : am_Dec (xC X_Sprk_placeAt) T_Sprk_placeAt := by decide +kernel
def y_Sprk_beginAsChild : MethodName := ⟨"NumberedSparks$Spark", "beginAsChild", "(LNumberedSparks$Spark;I)V"⟩
abbrev X_Sprk_beginAsChild : am_X := ("NumberedSparks$Spark", prog_8_method_3_code, 4, none, "beginAsChild", 2)
theorem mb_Sprk_beginAsChild : am_mb y_Sprk_beginAsChild X_Sprk_beginAsChild 2 := ⟨wd_711, wd_7, ⟨by decide +kernel, by decide +kernel⟩, by decide +kernel, by decide, rfl⟩
def T_Sprk_beginAsChild : List (Nat × Instr × Nat) := [(0, .aload_n 0, 1), (1, .aload_n 1, 1), (2, .getfield 26, 3), (5, .aload_n 1, 1), (6, .getfield 38, 3), (9, .iload_n 2, 1), (10, .invokestatic 54, 3), (13, .putfield 26, 3), (16, .aload_n 0, 1), (17, .aload_n 0, 1), (18, .getfield 18, 3), (21, .aload_n 1, 1), (22, .getfield 35, 3), (25, .bipush 7, 2), (27, .invokevirtual 44, 3), (30, .putfield 35, 3), (33, .aload_n 0, 1), (34, .aload_n 1, 1), (35, .getfield 38, 3), (38, .iconst 1, 1), (39, .iadd, 1), (40, .putfield 38, 3), (43, .aload_n 0, 1), (44, .aload_n 1, 1), (45, .getfield 51, 3), (48, .putfield 41, 3), (51, .aload_n 0, 1), (52, .aload_n 0, 1), (53, .getfield 41, 3), (56, .aload_n 0, 1), (57, .getfield 18, 3), (60, .aload_n 0, 1), (61, .getfield 35, 3), (64, .iconst 0, 1), (65, .invokevirtual 44, 3), (68, .iadd, 1), (69, .aload_n 0, 1), (70, .getfield 18, 3), (73, .aload_n 0, 1), (74, .getfield 26, 3), (77, .iconst 1, 1), (78, .aload_n 0, 1), (79, .getfield 18, 3), (82, .aload_n 0, 1), (83, .getfield 35, 3), (86, .iconst 1, 1), (87, .invokevirtual 44, 3), (90, .iconst 1, 1), (91, .iadd, 1), (92, .invokevirtual 47, 3), (95, .iadd, 1), (96, .putfield 51, 3), (99, .iconst 0, 1), (100, .istore_n 3, 1), (101, .iload_n 3, 1), (102, .iconst 3, 1), (103, .if_icmp .ge 31, 3), (106, .aload_n 0, 1), (107, .getfield 9, 3), (110, .iload_n 3, 1), (111, .aload_n 1, 1), (112, .iload_n 3, 1), (113, .aload_n 1, 1), (114, .getfield 51, 3), (117, .iconst 1, 1), (118, .isub, 1), (119, .aload_n 1, 1), (120, .getfield 41, 3), (123, .isub, 1), (124, .invokevirtual 57, 3), (127, .iastore, 1), (128, .iinc 3 1, 3), (131, .goto (-30), 3), (134, .return_, 1)]
theorem dt_Sprk_beginAsChild : am_Dec (xC X_Sprk_beginAsChild) T_Sprk_beginAsChild := by decide +kernel
def y_Find_find : MethodName := ⟨"NumberedSparks$Finder", "find", "(I)LNumberedSparks$Spark;"⟩
abbrev X_Find_find : am_X := ("NumberedSparks$Finder", prog_2_method_2_code, 5, (some (FieldType.object "NumberedSparks$Spark")), "find", 3)
theorem mb_Find_find : am_mb y_Find_find X_Find_find 1 := ⟨wd_666, wd_9, ⟨by decide +kernel, by decide +kernel⟩, by decide +kernel, by decide, rfl⟩
def T_Find_find : List (Nat × Instr × Nat) := [(0, .aload_n 0, 1), (1, .getfield 7, 3), (4, .iload_n 1, 1), (5, .invokevirtual 28, 3), (8, .ifCond .ne 5, 3), (11, .aconst_null, 1), (12, .areturn, 1), (13, .iload_n 1, 1), (14, .invokestatic 34, 3), (17, .istore_n 2, 1), (18, .iload_n 1, 1), (19, .invokestatic 40, 3), (22, .istore_n 3, 1), (23, .aload_n 0, 1), (24, .getfield 18, 3), (27, .iload_n 2, 1), (28, .iload_n 3, 1), (29, .aload_n 0, 1), (30, .getfield 7, 3), (33, .iload_n 2, 1), (34, .iload_n 3, 1), (35, .invokevirtual 43, 3), (38, .invokevirtual 47, 3), (41, .aload_n 0, 1), (42, .getfield 18, 3), (45, .invokevirtual 51, 3), (48, .iload_n 1, 1), (49, .invokestatic 54, 3), (52, .istore 4, 2), (54, .iload 4, 2), (56, .ifCond .ne 8, 3), (59, .aload_n 0, 1), (60, .getfield 18, 3), (63, .areturn, 1), (64, .aload_n 0, 1), (65, .getfield 22, 3), (68, .aload_n 0, 1), (69, .getfield 18, 3), (72, .iload_n 1, 1), (73, .iconst 4, 1), (74, .ishr, 1), (75, .bipush 15, 2), (77, .iand, 1), (78, .iconst 1, 1), (79, .isub, 1), (80, .invokevirtual 57, 3), (83, .aload_n 0, 1), (84, .getfield 22, 3), (87, .invokevirtual 51, 3), (90, .iload 4, 2), (92, .iconst 1, 1), (93, .if_icmp .ne 8, 3), (96, .aload_n 0, 1), (97, .getfield 22, 3), (100, .areturn, 1), (101, .aload_n 0, 1), (102, .getfield 25, 3), (105, .aload_n 0, 1), (106, .getfield 22, 3), (109, .iload_n 1, 1), (110, .bipush 15, 2), (112, .iand, 1), (113, .iconst 1, 1), (114, .isub, 1), (115, .invokevirtual 57, 3), (118, .aload_n 0, 1), (119, .getfield 25, 3), (122, .invokevirtual 51, 3), (125, .aload_n 0, 1), (126, .getfield 25, 3), (129, .areturn, 1)]
theorem dt_Find_find : am_Dec (xC X_Find_find) T_Find_find := by decide +kernel
def y_Scen_colourOf : MethodName := ⟨"NumberedSparks$Scene", "colourOf", "(I)I"⟩
abbrev X_Scen_colourOf : am_X := ("NumberedSparks$Scene", prog_7_method_15_code, 2, (some FieldType.int), "colourOf", 2)
theorem mb_Scen_colourOf : am_mb y_Scen_colourOf X_Scen_colourOf 1 := ⟨wd_729, wd_2, ⟨by decide +kernel, by decide +kernel⟩, by decide +kernel, by decide, rfl⟩
def T_Scen_colourOf : List (Nat × Instr × Nat) := [(0, .aload_n 0, 1), (1, .iload_n 1, 1), (2, .iconst 5, 1), (3, .bipush 8, 2), (5, .invokevirtual 70, 3), (8, .ireturn, 1)]
theorem dt_Scen_colourOf : am_Dec (xC X_Scen_colourOf) T_Scen_colourOf := by decide +kernel
def y_NS_spark : MethodName := ⟨"NumberedSparks", "spark", "(II)I"⟩
abbrev X_NS_spark : am_X := ("NumberedSparks", prog_1_method_17_code, 4, (some FieldType.int), "spark", 4)
theorem mb_NS_spark : am_mb y_NS_spark X_NS_spark 2 := ⟨wd_662, wd_1, ⟨by decide +kernel, by decide +kernel⟩, by decide +kernel, by decide, rfl⟩
def T_NS_spark : List (Nat × Instr × Nat) := [(0, .aload_n 0, 1), (1, .getfield 62, 3), (4, .iload_n 1, 1), (5, .invokevirtual 176, 3), (8, .astore_n 3, 1), (9, .aload_n 3, 1), (10, .ifnonnull 6, 3), (13, .bipush (-99), 2), (15, .ireturn, 1), (16, .iload_n 2, 1), (17, .tableswitch 104 0 9 #[55, 60, 65, 70, 75, 84, 89, 94, 94, 94], 55), (72, .aload_n 3, 1), (73, .getfield 180, 3), (76, .ireturn, 1), (77, .iload_n 1, 1), (78, .invokestatic 185, 3), (81, .ireturn, 1), (82, .iload_n 1, 1), (83, .invokestatic 188, 3), (86, .ireturn, 1), (87, .aload_n 3, 1), (88, .getfield 191, 3), (91, .ireturn, 1), (92, .aload_n 0, 1), (93, .getfield 16, 3), (96, .iload_n 1, 1), (97, .invokevirtual 194, 3), (100, .ireturn, 1), (101, .aload_n 3, 1), (102, .getfield 197, 3), (105, .ireturn, 1), (106, .aload_n 3, 1), (107, .getfield 200, 3), (110, .ireturn, 1), (111, .aload_n 3, 1), (112, .getfield 203, 3), (115, .iload_n 2, 1), (116, .bipush 7, 2), (118, .isub, 1), (119, .iaload, 1), (120, .ireturn, 1), (121, .bipush (-99), 2), (123, .ireturn, 1)]
theorem dt_NS_spark : am_Dec (xC X_NS_spark) T_NS_spark := by decide +kernel
def y_NS_isTick : MethodName := ⟨"NumberedSparks", "isTick", "(I)Z"⟩
abbrev X_NS_isTick : am_X := ("NumberedSparks", prog_1_method_59_code, 1, (some FieldType.boolean), "isTick", 0)
theorem mb_NS_isTick : am_mb y_NS_isTick X_NS_isTick 1 := ⟨wd_736, wd_1, ⟨by decide +kernel, by decide +kernel⟩, by decide +kernel, by decide, rfl⟩
def T_NS_isTick : List (Nat × Instr × Nat) := [(0, .iload_n 0, 1), (1, .ifCond .lt 14, 3), (4, .iload_n 0, 1), (5, .sipush 30000, 3), (8, .if_icmp .gt 7, 3), (11, .iconst 1, 1), (12, .goto 4, 3), (15, .iconst 0, 1), (16, .ireturn, 1)]
theorem dt_NS_isTick : am_Dec (xC X_NS_isTick) T_NS_isTick := by decide +kernel
def y_NS_isAxis : MethodName := ⟨"NumberedSparks", "isAxis", "(I)Z"⟩
abbrev X_NS_isAxis : am_X := ("NumberedSparks", prog_1_method_60_code, 1, (some FieldType.boolean), "isAxis", 0)
theorem mb_NS_isAxis : am_mb y_NS_isAxis X_NS_isAxis 1 := ⟨wd_739, wd_1, ⟨by decide +kernel, by decide +kernel⟩, by decide +kernel, by decide, rfl⟩
def T_NS_isAxis : List (Nat × Instr × Nat) := [(0, .iload_n 0, 1), (1, .ifCond .lt 12, 3), (4, .iload_n 0, 1), (5, .iconst 2, 1), (6, .if_icmp .gt 7, 3), (9, .iconst 1, 1), (10, .goto 4, 3), (13, .iconst 0, 1), (14, .ireturn, 1)]
theorem dt_NS_isAxis : am_Dec (xC X_NS_isAxis) T_NS_isAxis := by decide +kernel
def y_Sprk_isThere : MethodName := ⟨"NumberedSparks$Spark", "isThere", "(I)Z"⟩
abbrev X_Sprk_isThere : am_X := ("NumberedSparks$Spark", prog_8_method_6_code, 2, (some FieldType.boolean), "isThere", 0)
theorem mb_Sprk_isThere : am_mb y_Sprk_isThere X_Sprk_isThere 1 := ⟨wd_743, wd_7, ⟨by decide +kernel, by decide +kernel⟩, by decide +kernel, by decide, rfl⟩
def T_Sprk_isThere : List (Nat × Instr × Nat) := [(0, .aload_n 0, 1), (1, .getfield 41, 3), (4, .iload_n 1, 1), (5, .if_icmp .gt 15, 3), (8, .iload_n 1, 1), (9, .aload_n 0, 1), (10, .getfield 51, 3), (13, .if_icmp .ge 7, 3), (16, .iconst 1, 1), (17, .goto 4, 3), (20, .iconst 0, 1), (21, .ireturn, 1)]
theorem dt_Sprk_isThere : am_Dec (xC X_Sprk_isThere) T_Sprk_isThere := by decide +kernel
def y_NS_place : MethodName := ⟨"NumberedSparks", "place", "(III)I"⟩
abbrev X_NS_place : am_X := ("NumberedSparks", prog_1_method_18_code, 5, (some FieldType.int), "place", 4)
theorem mb_NS_place : am_mb y_NS_place X_NS_place 3 := ⟨wd_733, wd_1, ⟨by decide +kernel, by decide +kernel⟩, by decide +kernel, by decide, rfl⟩
def T_NS_place : List (Nat × Instr × Nat) := [(0, .aload_n 0, 1), (1, .getfield 62, 3), (4, .iload_n 1, 1), (5, .invokevirtual 176, 3), (8, .astore 4, 2), (10, .aload 4, 2), (12, .ifnull 17, 3), (15, .iload_n 2, 1), (16, .invokestatic 206, 3), (19, .ifCond .eq 10, 3), (22, .iload_n 3, 1), (23, .invokestatic 209, 3), (26, .ifCond .ne 6, 3), (29, .bipush (-2), 2), (31, .ireturn, 1), (32, .aload 4, 2), (34, .iload_n 2, 1), (35, .invokevirtual 212, 3), (38, .ifCond .eq 19, 3), (41, .aload 4, 2), (43, .iload_n 3, 1), (44, .iload_n 2, 1), (45, .aload 4, 2), (47, .getfield 197, 3), (50, .isub, 1), (51, .invokevirtual 215, 3), (54, .goto 4, 3), (57, .iconst (-1), 1), (58, .ireturn, 1)]
theorem dt_NS_place : am_Dec (xC X_NS_place) T_NS_place := by decide +kernel
def y_NS_size : MethodName := ⟨"NumberedSparks", "size", "(II)I"⟩
abbrev X_NS_size : am_X := ("NumberedSparks", prog_1_method_19_code, 6, (some FieldType.int), "size", 4)
theorem mb_NS_size : am_mb y_NS_size X_NS_size 2 := ⟨wd_748, wd_1, ⟨by decide +kernel, by decide +kernel⟩, by decide +kernel, by decide, rfl⟩
def T_NS_size : List (Nat × Instr × Nat) := [(0, .aload_n 0, 1), (1, .getfield 62, 3), (4, .iload_n 1, 1), (5, .invokevirtual 176, 3), (8, .astore_n 3, 1), (9, .aload_n 3, 1), (10, .ifnull 10, 3), (13, .iload_n 2, 1), (14, .invokestatic 206, 3), (17, .ifCond .ne 6, 3), (20, .bipush (-2), 2), (22, .ireturn, 1), (23, .aload_n 3, 1), (24, .iload_n 2, 1), (25, .invokevirtual 212, 3), (28, .ifCond .ne 5, 3), (31, .iconst (-1), 1), (32, .ireturn, 1), (33, .iload_n 2, 1), (34, .aload_n 3, 1), (35, .getfield 197, 3), (38, .isub, 1), (39, .istore 4, 2), (41, .iconst 1, 1), (42, .aload_n 3, 1), (43, .getfield 200, 3), (46, .aload_n 3, 1), (47, .getfield 197, 3), (50, .isub, 1), (51, .invokestatic 218, 3), (54, .istore 5, 2), (56, .iconst 1, 1), (57, .aload_n 0, 1), (58, .getfield 16, 3), (61, .aload_n 3, 1), (62, .getfield 180, 3), (65, .iconst 4, 1), (66, .invokevirtual 120, 3), (69, .iconst 4, 1), (70, .iload 4, 2), (72, .imul, 1), (73, .iload 5, 2), (75, .idiv, 1), (76, .isub, 1), (77, .invokestatic 218, 3), (80, .ireturn, 1)]
theorem dt_NS_size : am_Dec (xC X_NS_size) T_NS_size := by decide +kernel
def y_Math_floorDiv : MethodName := ⟨"java/lang/Math", "floorDiv", "(II)I"⟩
abbrev X_Math_floorDiv : am_X := ("java/lang/Math", prog_13_method_47_code, 3, (some FieldType.int), "floorDiv", 0)
theorem mb_Math_floorDiv : am_mb y_Math_floorDiv X_Math_floorDiv 2 := ⟨wd_761, wd_11, ⟨by decide +kernel, by decide +kernel⟩, by decide +kernel, by decide, rfl⟩
def T_Math_floorDiv : List (Nat × Instr × Nat) := [(0, .iload_n 0, 1), (1, .iload_n 1, 1), (2, .idiv, 1), (3, .istore_n 2, 1), (4, .iload_n 0, 1), (5, .iload_n 1, 1), (6, .ixor, 1), (7, .ifCond .ge 14, 3), (10, .iload_n 2, 1), (11, .iload_n 1, 1), (12, .imul, 1), (13, .iload_n 0, 1), (14, .if_icmp .eq 7, 3), (17, .iload_n 2, 1), (18, .iconst 1, 1), (19, .isub, 1), (20, .ireturn, 1), (21, .iload_n 2, 1), (22, .ireturn, 1)]
theorem dt_Math_floorDiv : am_Dec (xC X_Math_floorDiv) T_Math_floorDiv := by decide +kernel
def y_Math_abs : MethodName := ⟨"java/lang/Math", "abs", "(I)I"⟩
abbrev X_Math_abs : am_X := ("java/lang/Math", prog_13_method_59_code, 1, (some FieldType.int), "abs", 0)
theorem mb_Math_abs : am_mb y_Math_abs X_Math_abs 1 := ⟨wd_764, wd_11, ⟨by decide +kernel, by decide +kernel⟩, by decide +kernel, by decide, rfl⟩
def T_Math_abs : List (Nat × Instr × Nat) := [(0, .iload_n 0, 1), (1, .ifCond .ge 8, 3), (4, .iload_n 0, 1), (5, .ineg, 1), (6, .goto 4, 3), (9, .iload_n 0, 1), (10, .ireturn, 1)]
theorem dt_Math_abs : am_Dec (xC X_Math_abs) T_Math_abs := by decide +kernel
def y_Sprk_edgesAt : MethodName := ⟨"NumberedSparks$Spark", "edgesAt", "(I)I"⟩
abbrev X_Sprk_edgesAt : am_X := ("NumberedSparks$Spark", prog_8_method_10_code, 7, (some FieldType.int), "edgesAt", 1)
theorem mb_Sprk_edgesAt : am_mb y_Sprk_edgesAt X_Sprk_edgesAt 1 := ⟨wd_757, wd_7, ⟨by decide +kernel, by decide +kernel⟩, by decide +kernel, by decide, rfl⟩
def T_Sprk_edgesAt : List (Nat × Instr × Nat) := [(0, .iconst 0, 1), (1, .istore_n 2, 1), (2, .iconst 0, 1), (3, .istore_n 3, 1), (4, .iload_n 3, 1), (5, .iconst 3, 1), (6, .if_icmp .ge 73, 3), (9, .aload_n 0, 1), (10, .getfield 63, 3), (13, .iconst 2, 1), (14, .if_icmp .eq 65, 3), (17, .iconst 1, 1), (18, .aload_n 0, 1), (19, .getfield 18, 3), (22, .iload_n 3, 1), (23, .invokevirtual 74, 3), (26, .bipush 8, 2), (28, .imul, 1), (29, .invokestatic 84, 3), (32, .istore 4, 2), (34, .aload_n 0, 1), (35, .iload_n 3, 1), (36, .iload_n 1, 1), (37, .invokevirtual 78, 3), (40, .iload 4, 2), (42, .invokestatic 87, 3), (45, .istore 5, 2), (47, .aload_n 0, 1), (48, .iload_n 3, 1), (49, .iload_n 1, 1), (50, .iconst 1, 1), (51, .isub, 1), (52, .invokevirtual 78, 3), (55, .iload 4, 2), (57, .invokestatic 87, 3), (60, .istore 6, 2), (62, .iload_n 2, 1), (63, .iload 5, 2), (65, .iload 6, 2), (67, .isub, 1), (68, .invokestatic 90, 3), (71, .iadd, 1), (72, .istore_n 2, 1), (73, .iinc 3 1, 3), (76, .goto (-72), 3), (79, .iload_n 2, 1), (80, .ireturn, 1)]
theorem dt_Sprk_edgesAt : am_Dec (xC X_Sprk_edgesAt) T_Sprk_edgesAt := by decide +kernel
def y_NS_edges : MethodName := ⟨"NumberedSparks", "edges", "(I)I"⟩
abbrev X_NS_edges : am_X := ("NumberedSparks", prog_1_method_20_code, 5, (some FieldType.int), "edges", 4)
theorem mb_NS_edges : am_mb y_NS_edges X_NS_edges 1 := ⟨wd_753, wd_1, ⟨by decide +kernel, by decide +kernel⟩, by decide +kernel, by decide, rfl⟩
def T_NS_edges : List (Nat × Instr × Nat) := [(0, .aload_n 0, 1), (1, .getfield 62, 3), (4, .iload_n 1, 1), (5, .invokevirtual 176, 3), (8, .astore_n 2, 1), (9, .aload_n 2, 1), (10, .ifnonnull 6, 3), (13, .bipush (-2), 2), (15, .ireturn, 1), (16, .iconst 0, 1), (17, .istore_n 3, 1), (18, .iconst 1, 1), (19, .istore 4, 2), (21, .iload 4, 2), (23, .aload_n 2, 1), (24, .getfield 200, 3), (27, .aload_n 2, 1), (28, .getfield 197, 3), (31, .isub, 1), (32, .if_icmp .ge 18, 3), (35, .iload_n 3, 1), (36, .aload_n 2, 1), (37, .iload 4, 2), (39, .invokevirtual 223, 3), (42, .iadd, 1), (43, .istore_n 3, 1), (44, .iinc 4 1, 3), (47, .goto (-26), 3), (50, .iload_n 3, 1), (51, .ireturn, 1)]
theorem dt_NS_edges : am_Dec (xC X_NS_edges) T_NS_edges := by decide +kernel
def y_NS_over : MethodName := ⟨"NumberedSparks", "over", "(I)I"⟩
abbrev X_NS_over : am_X := ("NumberedSparks", prog_1_method_21_code, 4, (some FieldType.int), "over", 4)
theorem mb_NS_over : am_mb y_NS_over X_NS_over 1 := ⟨wd_768, wd_1, ⟨by decide +kernel, by decide +kernel⟩, by decide +kernel, by decide, rfl⟩
def T_NS_over : List (Nat × Instr × Nat) := [(0, .aload_n 0, 1), (1, .getfield 62, 3), (4, .iload_n 1, 1), (5, .invokevirtual 176, 3), (8, .astore_n 2, 1), (9, .aload_n 2, 1), (10, .ifnonnull 6, 3), (13, .bipush (-2), 2), (15, .ireturn, 1), (16, .iconst 1, 1), (17, .istore_n 3, 1), (18, .iload_n 3, 1), (19, .aload_n 2, 1), (20, .getfield 200, 3), (23, .aload_n 2, 1), (24, .getfield 197, 3), (27, .isub, 1), (28, .if_icmp .ge 24, 3), (31, .aload_n 2, 1), (32, .iload_n 3, 1), (33, .invokevirtual 223, 3), (36, .ifCond .le 10, 3), (39, .aload_n 2, 1), (40, .getfield 197, 3), (43, .iload_n 3, 1), (44, .iadd, 1), (45, .ireturn, 1), (46, .iinc 3 1, 3), (49, .goto (-31), 3), (52, .iconst (-1), 1), (53, .ireturn, 1)]
theorem dt_NS_over : am_Dec (xC X_NS_over) T_NS_over := by decide +kernel
def y_NS_reach : MethodName := ⟨"NumberedSparks", "reach", "(III)I"⟩
abbrev X_NS_reach : am_X := ("NumberedSparks", prog_1_method_22_code, 8, (some FieldType.int), "reach", 4)
theorem mb_NS_reach : am_mb y_NS_reach X_NS_reach 3 := ⟨wd_772, wd_1, ⟨by decide +kernel, by decide +kernel⟩, by decide +kernel, by decide, rfl⟩
def T_NS_reach : List (Nat × Instr × Nat) := [(0, .aload_n 0, 1), (1, .getfield 62, 3), (4, .iload_n 1, 1), (5, .invokevirtual 176, 3), (8, .astore 4, 2), (10, .aload 4, 2), (12, .ifnull 19, 3), (15, .iload_n 2, 1), (16, .invokestatic 209, 3), (19, .ifCond .eq 12, 3), (22, .iload_n 3, 1), (23, .ifCond .lt 8, 3), (26, .iload_n 3, 1), (27, .iconst 1, 1), (28, .if_icmp .le 6, 3), (31, .bipush (-2), 2), (33, .ireturn, 1), (34, .aload 4, 2), (36, .iload_n 2, 1), (37, .iconst 0, 1), (38, .invokevirtual 215, 3), (41, .istore 5, 2), (43, .iconst 1, 1), (44, .istore 6, 2), (46, .iload 6, 2), (48, .aload 4, 2), (50, .getfield 200, 3), (53, .aload 4, 2), (55, .getfield 197, 3), (58, .isub, 1), (59, .if_icmp .ge 42, 3), (62, .aload 4, 2), (64, .iload_n 2, 1), (65, .iload 6, 2), (67, .invokevirtual 215, 3), (70, .istore 7, 2), (72, .iload_n 3, 1), (73, .ifCond .ne 13, 3), (76, .iload 5, 2), (78, .iload 7, 2), (80, .invokestatic 226, 3), (83, .goto 10, 3), (86, .iload 5, 2), (88, .iload 7, 2), (90, .invokestatic 218, 3), (93, .istore 5, 2), (95, .iinc 6 1, 3), (98, .goto (-52), 3), (101, .iload 5, 2), (103, .ireturn, 1)]
theorem dt_NS_reach : am_Dec (xC X_NS_reach) T_NS_reach := by decide +kernel
def y_Sprk_cellAt : MethodName := ⟨"NumberedSparks$Spark", "cellAt", "(I)I"⟩
abbrev X_Sprk_cellAt : am_X := ("NumberedSparks$Spark", prog_8_method_9_code, 5, (some FieldType.int), "cellAt", 2)
theorem mb_Sprk_cellAt : am_mb y_Sprk_cellAt X_Sprk_cellAt 1 := ⟨wd_781, wd_7, ⟨by decide +kernel, by decide +kernel⟩, by decide +kernel, by decide, rfl⟩
def T_Sprk_cellAt : List (Nat × Instr × Nat) := [(0, .aload_n 0, 1), (1, .iconst 0, 1), (2, .iload_n 1, 1), (3, .invokevirtual 57, 3), (6, .bipush 8, 2), (8, .idiv, 1), (9, .istore_n 2, 1), (10, .aload_n 0, 1), (11, .iconst 1, 1), (12, .iload_n 1, 1), (13, .invokevirtual 57, 3), (16, .bipush 8, 2), (18, .idiv, 1), (19, .istore_n 3, 1), (20, .aload_n 0, 1), (21, .iconst 2, 1), (22, .iload_n 1, 1), (23, .invokevirtual 57, 3), (26, .bipush 8, 2), (28, .idiv, 1), (29, .istore 4, 2), (31, .iload 4, 2), (33, .bipush 40, 2), (35, .imul, 1), (36, .iload_n 3, 1), (37, .iadd, 1), (38, .bipush 40, 2), (40, .imul, 1), (41, .iload_n 2, 1), (42, .iadd, 1), (43, .ireturn, 1)]
theorem dt_Sprk_cellAt : am_Dec (xC X_Sprk_cellAt) T_Sprk_cellAt := by decide +kernel
def y_NS_isAmong : MethodName := ⟨"NumberedSparks", "isAmong", "(II)Z"⟩
abbrev X_NS_isAmong : am_X := ("NumberedSparks", prog_1_method_24_code, 4, (some FieldType.boolean), "isAmong", 0)
theorem mb_NS_isAmong : am_mb y_NS_isAmong X_NS_isAmong 2 := ⟨wd_785, wd_1, ⟨by decide +kernel, by decide +kernel⟩, by decide +kernel, by decide, rfl⟩
def T_NS_isAmong : List (Nat × Instr × Nat) := [(0, .iconst 0, 1), (1, .istore_n 3, 1), (2, .iload_n 3, 1), (3, .iload_n 2, 1), (4, .if_icmp .ge 30, 3), (7, .iload_n 3, 1), (8, .aload_n 0, 1), (9, .getfield 69, 3), (12, .arraylength, 1), (13, .if_icmp .ge 21, 3), (16, .aload_n 0, 1), (17, .getfield 69, 3), (20, .iload_n 3, 1), (21, .iaload, 1), (22, .iload_n 1, 1), (23, .if_icmp .ne 5, 3), (26, .iconst 1, 1), (27, .ireturn, 1), (28, .iinc 3 1, 3), (31, .goto (-29), 3), (34, .iconst 0, 1), (35, .ireturn, 1)]
theorem dt_NS_isAmong : am_Dec (xC X_NS_isAmong) T_NS_isAmong := by decide +kernel
def y_NS_cellsOf : MethodName := ⟨"NumberedSparks", "cellsOf", "(I)I"⟩
abbrev X_NS_cellsOf : am_X := ("NumberedSparks", prog_1_method_23_code, 6, (some FieldType.int), "cellsOf", 4)
theorem mb_NS_cellsOf : am_mb y_NS_cellsOf X_NS_cellsOf 1 := ⟨wd_777, wd_1, ⟨by decide +kernel, by decide +kernel⟩, by decide +kernel, by decide, rfl⟩
def T_NS_cellsOf : List (Nat × Instr × Nat) := [(0, .aload_n 0, 1), (1, .getfield 62, 3), (4, .iload_n 1, 1), (5, .invokevirtual 176, 3), (8, .astore_n 2, 1), (9, .aload_n 2, 1), (10, .ifnonnull 6, 3), (13, .bipush (-2), 2), (15, .ireturn, 1), (16, .iconst 0, 1), (17, .istore_n 3, 1), (18, .iconst 0, 1), (19, .istore 4, 2), (21, .iload 4, 2), (23, .aload_n 2, 1), (24, .getfield 200, 3), (27, .aload_n 2, 1), (28, .getfield 197, 3), (31, .isub, 1), (32, .if_icmp .ge 47, 3), (35, .aload_n 2, 1), (36, .iload 4, 2), (38, .invokevirtual 229, 3), (41, .istore 5, 2), (43, .iload_n 3, 1), (44, .aload_n 0, 1), (45, .getfield 69, 3), (48, .arraylength, 1), (49, .if_icmp .ge 24, 3), (52, .aload_n 0, 1), (53, .iload 5, 2), (55, .iload_n 3, 1), (56, .invokevirtual 232, 3), (59, .ifCond .ne 14, 3), (62, .aload_n 0, 1), (63, .getfield 69, 3), (66, .iload_n 3, 1), (67, .iload 5, 2), (69, .iastore, 1), (70, .iinc 3 1, 3), (73, .iinc 4 1, 3), (76, .goto (-55), 3), (79, .iload_n 3, 1), (80, .ireturn, 1)]
theorem dt_NS_cellsOf : am_Dec (xC X_NS_cellsOf) T_NS_cellsOf := by decide +kernel
def y_NS_meets : MethodName := ⟨"NumberedSparks", "meets", "(II)I"⟩
abbrev X_NS_meets : am_X := ("NumberedSparks", prog_1_method_25_code, 7, (some FieldType.int), "meets", 4)
theorem mb_NS_meets : am_mb y_NS_meets X_NS_meets 2 := ⟨wd_789, wd_1, ⟨by decide +kernel, by decide +kernel⟩, by decide +kernel, by decide, rfl⟩
def T_NS_meets : List (Nat × Instr × Nat) := [(0, .aload_n 0, 1), (1, .getfield 62, 3), (4, .iload_n 1, 1), (5, .invokevirtual 176, 3), (8, .astore_n 3, 1), (9, .aload_n 0, 1), (10, .getfield 66, 3), (13, .iload_n 2, 1), (14, .invokevirtual 176, 3), (17, .astore 4, 2), (19, .aload_n 3, 1), (20, .ifnull 13, 3), (23, .aload 4, 2), (25, .ifnull 8, 3), (28, .iload_n 1, 1), (29, .iload_n 2, 1), (30, .if_icmp .ne 6, 3), (33, .bipush (-2), 2), (35, .ireturn, 1), (36, .aload_n 3, 1), (37, .getfield 200, 3), (40, .aload 4, 2), (42, .getfield 200, 3), (45, .invokestatic 226, 3), (48, .istore 5, 2), (50, .aload_n 3, 1), (51, .getfield 197, 3), (54, .aload 4, 2), (56, .getfield 197, 3), (59, .invokestatic 218, 3), (62, .istore 6, 2), (64, .iload 6, 2), (66, .iload 5, 2), (68, .if_icmp .ge 39, 3), (71, .aload_n 3, 1), (72, .iload 6, 2), (74, .aload_n 3, 1), (75, .getfield 197, 3), (78, .isub, 1), (79, .invokevirtual 229, 3), (82, .aload 4, 2), (84, .iload 6, 2), (86, .aload 4, 2), (88, .getfield 197, 3), (91, .isub, 1), (92, .invokevirtual 229, 3), (95, .if_icmp .ne 6, 3), (98, .iload 6, 2), (100, .ireturn, 1), (101, .iinc 6 1, 3), (104, .goto (-40), 3), (107, .iconst (-1), 1), (108, .ireturn, 1)]
theorem dt_NS_meets : am_Dec (xC X_NS_meets) T_NS_meets := by decide +kernel
def y_NS_kin : MethodName := ⟨"NumberedSparks", "kin", "(II)I"⟩
abbrev X_NS_kin : am_X := ("NumberedSparks", prog_1_method_26_code, 3, (some FieldType.int), "kin", 2)
theorem mb_NS_kin : am_mb y_NS_kin X_NS_kin 2 := ⟨wd_793, wd_1, ⟨by decide +kernel, by decide +kernel⟩, by decide +kernel, by decide, rfl⟩
def T_NS_kin : List (Nat × Instr × Nat) := [(0, .aload_n 0, 1), (1, .getfield 16, 3), (4, .iload_n 1, 1), (5, .invokevirtual 160, 3), (8, .ifCond .eq 14, 3), (11, .aload_n 0, 1), (12, .getfield 16, 3), (15, .iload_n 2, 1), (16, .invokevirtual 160, 3), (19, .ifCond .ne 6, 3), (22, .bipush (-2), 2), (24, .ireturn, 1), (25, .iload_n 1, 1), (26, .iload_n 2, 1), (27, .if_icmp .ne 5, 3), (30, .iload_n 1, 1), (31, .ireturn, 1), (32, .iload_n 1, 1), (33, .iconst 4, 1), (34, .ishr, 1), (35, .iload_n 2, 1), (36, .iconst 4, 1), (37, .ishr, 1), (38, .if_icmp .ne 8, 3), (41, .iload_n 1, 1), (42, .bipush (-16), 2), (44, .iand, 1), (45, .ireturn, 1), (46, .iload_n 1, 1), (47, .bipush 8, 2), (49, .ishr, 1), (50, .iload_n 2, 1), (51, .bipush 8, 2), (53, .ishr, 1), (54, .if_icmp .ne 11, 3), (57, .iload_n 1, 1), (58, .sipush (-256), 3), (61, .iand, 1), (62, .goto 4, 3), (65, .iconst (-1), 1), (66, .ireturn, 1)]
theorem dt_NS_kin : am_Dec (xC X_NS_kin) T_NS_kin := by decide +kernel
def y_Walk_spanOf : MethodName := ⟨"NumberedSparks$Walk", "spanOf", "(II)I"⟩
abbrev X_Walk_spanOf : am_X := ("NumberedSparks$Walk", prog_9_method_5_code, 4, (some FieldType.int), "spanOf", 0)
theorem mb_Walk_spanOf : am_mb y_Walk_spanOf X_Walk_spanOf 2 := ⟨wd_818, wd_6, ⟨by decide +kernel, by decide +kernel⟩, by decide +kernel, by decide, rfl⟩
def T_Walk_spanOf : List (Nat × Instr × Nat) := [(0, .iload_n 1, 1), (1, .iconst 5, 1), (2, .imul, 1), (3, .iload_n 2, 1), (4, .iadd, 1), (5, .istore_n 3, 1), (6, .iload_n 3, 1), (7, .ifCond .lt 21, 3), (10, .iload_n 3, 1), (11, .aload_n 0, 1), (12, .getfield 27, 3), (15, .arraylength, 1), (16, .if_icmp .ge 12, 3), (19, .aload_n 0, 1), (20, .getfield 27, 3), (23, .iload_n 3, 1), (24, .iaload, 1), (25, .goto 4, 3), (28, .iconst 0, 1), (29, .ireturn, 1)]
theorem dt_Walk_spanOf : am_Dec (xC X_Walk_spanOf) T_Walk_spanOf := by decide +kernel
def y_Walk_spanBehind : MethodName := ⟨"NumberedSparks$Walk", "spanBehind", "(II)I"⟩
abbrev X_Walk_spanBehind : am_X := ("NumberedSparks$Walk", prog_9_method_6_code, 3, (some FieldType.int), "spanBehind", 1)
theorem mb_Walk_spanBehind : am_mb y_Walk_spanBehind X_Walk_spanBehind 2 := ⟨wd_814, wd_6, ⟨by decide +kernel, by decide +kernel⟩, by decide +kernel, by decide, rfl⟩
def T_Walk_spanBehind : List (Nat × Instr × Nat) := [(0, .iload_n 1, 1), (1, .iconst 2, 1), (2, .if_icmp .ge 17, 3), (5, .aload_n 0, 1), (6, .getfield 30, 3), (9, .iload_n 2, 1), (10, .bipush 6, 2), (12, .invokevirtual 70, 3), (15, .iconst 1, 1), (16, .if_icmp .ge 5, 3), (19, .iconst 0, 1), (20, .ireturn, 1), (21, .aload_n 0, 1), (22, .iload_n 1, 1), (23, .iconst 1, 1), (24, .iadd, 1), (25, .aload_n 0, 1), (26, .getfield 30, 3), (29, .iload_n 2, 1), (30, .bipush 7, 2), (32, .invokevirtual 70, 3), (35, .invokevirtual 57, 3), (38, .ireturn, 1)]
theorem dt_Walk_spanBehind : am_Dec (xC X_Walk_spanBehind) T_Walk_spanBehind := by decide +kernel
def y_Walk_measureSpans : MethodName := ⟨"NumberedSparks$Walk", "measureSpans", "()V"⟩
abbrev X_Walk_measureSpans : am_X := ("NumberedSparks$Walk", prog_9_method_4_code, 4, none, "measureSpans", 2)
theorem mb_Walk_measureSpans : am_mb y_Walk_measureSpans X_Walk_measureSpans 0 := ⟨wd_809, wd_6, ⟨by decide +kernel, by decide +kernel⟩, by decide +kernel, by decide, rfl⟩
def T_Walk_measureSpans : List (Nat × Instr × Nat) := [(0, .iconst 2, 1), (1, .istore_n 1, 1), (2, .iload_n 1, 1), (3, .ifCond .lt 71, 3), (6, .iconst 0, 1), (7, .istore_n 2, 1), (8, .iload_n 2, 1), (9, .aload_n 0, 1), (10, .getfield 30, 3), (13, .getfield 67, 3), (16, .if_icmp .ge 52, 3), (19, .iload_n 2, 1), (20, .iconst 5, 1), (21, .if_icmp .ge 47, 3), (24, .aload_n 0, 1), (25, .getfield 30, 3), (28, .iload_n 2, 1), (29, .iconst 0, 1), (30, .invokevirtual 70, 3), (33, .aload_n 0, 1), (34, .getfield 30, 3), (37, .iload_n 2, 1), (38, .iconst 1, 1), (39, .invokevirtual 70, 3), (42, .iadd, 1), (43, .istore_n 3, 1), (44, .aload_n 0, 1), (45, .getfield 27, 3), (48, .iload_n 1, 1), (49, .iconst 5, 1), (50, .imul, 1), (51, .iload_n 2, 1), (52, .iadd, 1), (53, .iload_n 3, 1), (54, .aload_n 0, 1), (55, .iload_n 1, 1), (56, .iload_n 2, 1), (57, .invokevirtual 73, 3), (60, .iadd, 1), (61, .iastore, 1), (62, .iinc 2 1, 3), (65, .goto (-57), 3), (68, .iinc 1 (-1), 3), (71, .goto (-69), 3), (74, .return_, 1)]
theorem dt_Walk_measureSpans : am_Dec (xC X_Walk_measureSpans) T_Walk_measureSpans := by decide +kernel
def y_Walk_start : MethodName := ⟨"NumberedSparks$Walk", "start", "(II)V"⟩
abbrev X_Walk_start : am_X := ("NumberedSparks$Walk", prog_9_method_2_code, 6, none, "start", 3)
theorem mb_Walk_start : am_mb y_Walk_start X_Walk_start 2 := ⟨wd_805, wd_6, ⟨by decide +kernel, by decide +kernel⟩, by decide +kernel, by decide, rfl⟩
def T_Walk_start : List (Nat × Instr × Nat) := [(0, .aload_n 0, 1), (1, .iload_n 1, 1), (2, .putfield 37, 3), (5, .aload_n 0, 1), (6, .iload_n 2, 1), (7, .putfield 41, 3), (10, .aload_n 0, 1), (11, .invokevirtual 44, 3), (14, .iconst 0, 1), (15, .istore_n 3, 1), (16, .iload_n 3, 1), (17, .iconst 4, 1), (18, .if_icmp .ge 114, 3), (21, .aload_n 0, 1), (22, .getfield 21, 3), (25, .iload_n 3, 1), (26, .iconst 0, 1), (27, .iastore, 1), (28, .aload_n 0, 1), (29, .getfield 24, 3), (32, .iload_n 3, 1), (33, .iconst 0, 1), (34, .iastore, 1), (35, .aload_n 0, 1), (36, .getfield 30, 3), (39, .iload_n 3, 1), (40, .invokevirtual 47, 3), (43, .ifCond .eq 83, 3), (46, .aload_n 0, 1), (47, .getfield 30, 3), (50, .iload_n 3, 1), (51, .bipush 6, 2), (53, .invokevirtual 53, 3), (56, .istore 4, 2), (58, .aload_n 0, 1), (59, .iconst 0, 1), (60, .aload_n 0, 1), (61, .getfield 30, 3), (64, .iload_n 3, 1), (65, .iconst 0, 1), (66, .invokevirtual 53, 3), (69, .invokevirtual 57, 3), (72, .istore 5, 2), (74, .aload_n 0, 1), (75, .getfield 21, 3), (78, .iload_n 3, 1), (79, .aload_n 0, 1), (80, .getfield 30, 3), (83, .iload_n 3, 1), (84, .iload_n 1, 1), (85, .aload_n 0, 1), (86, .getfield 30, 3), (89, .iload_n 3, 1), (90, .bipush 8, 2), (92, .invokevirtual 53, 3), (95, .isub, 1), (96, .iload 5, 2), (98, .isub, 1), (99, .invokevirtual 60, 3), (102, .iload 4, 2), (104, .imul, 1), (105, .iastore, 1), (106, .aload_n 0, 1), (107, .getfield 24, 3), (110, .iload_n 3, 1), (111, .aload_n 0, 1), (112, .getfield 30, 3), (115, .iload_n 3, 1), (116, .iload_n 2, 1), (117, .iconst 1, 1), (118, .isub, 1), (119, .invokevirtual 60, 3), (122, .iload 4, 2), (124, .imul, 1), (125, .iastore, 1), (126, .iinc 3 1, 3), (129, .goto (-113), 3), (132, .return_, 1)]
theorem dt_Walk_start : am_Dec (xC X_Walk_start) T_Walk_start := by decide +kernel
def y_Walk_startWithRoot : MethodName := ⟨"NumberedSparks$Walk", "startWithRoot", "(II)V"⟩
abbrev X_Walk_startWithRoot : am_X := ("NumberedSparks$Walk", prog_9_method_3_code, 4, none, "startWithRoot", 4)
theorem mb_Walk_startWithRoot : am_mb y_Walk_startWithRoot X_Walk_startWithRoot 2 := ⟨wd_801, wd_6, ⟨by decide +kernel, by decide +kernel⟩, by decide +kernel, by decide, rfl⟩
def T_Walk_startWithRoot : List (Nat × Instr × Nat) := [(0, .aload_n 0, 1), (1, .iconst 0, 1), (2, .sipush 30001, 3), (5, .invokevirtual 63, 3), (8, .iconst 0, 1), (9, .istore_n 3, 1), (10, .iload_n 3, 1), (11, .iconst 4, 1), (12, .if_icmp .ge 43, 3), (15, .aload_n 0, 1), (16, .getfield 21, 3), (19, .iload_n 3, 1), (20, .iload_n 3, 1), (21, .iload_n 1, 1), (22, .if_icmp .ne 7, 3), (25, .iload_n 2, 1), (26, .goto 4, 3), (29, .iconst 0, 1), (30, .iastore, 1), (31, .aload_n 0, 1), (32, .getfield 24, 3), (35, .iload_n 3, 1), (36, .iload_n 3, 1), (37, .iload_n 1, 1), (38, .if_icmp .ne 9, 3), (41, .iload_n 2, 1), (42, .iconst 1, 1), (43, .iadd, 1), (44, .goto 4, 3), (47, .iconst 0, 1), (48, .iastore, 1), (49, .iinc 3 1, 3), (52, .goto (-42), 3), (55, .return_, 1)]
theorem dt_Walk_startWithRoot : am_Dec (xC X_Walk_startWithRoot) T_Walk_startWithRoot := by decide +kernel
def y_Walk_sourceOfLeastRoot : MethodName := ⟨"NumberedSparks$Walk", "sourceOfLeastRoot", "()I"⟩
abbrev X_Walk_sourceOfLeastRoot : am_X := ("NumberedSparks$Walk", prog_9_method_11_code, 3, (some FieldType.int), "sourceOfLeastRoot", 0)
theorem mb_Walk_sourceOfLeastRoot : am_mb y_Walk_sourceOfLeastRoot X_Walk_sourceOfLeastRoot 0 := ⟨wd_829, wd_6, ⟨by decide +kernel, by decide +kernel⟩, by decide +kernel, by decide, rfl⟩
def T_Walk_sourceOfLeastRoot : List (Nat × Instr × Nat) := [(0, .iconst (-1), 1), (1, .istore_n 1, 1), (2, .iconst 0, 1), (3, .istore_n 2, 1), (4, .iload_n 2, 1), (5, .iconst 4, 1), (6, .if_icmp .ge 46, 3), (9, .aload_n 0, 1), (10, .getfield 21, 3), (13, .iload_n 2, 1), (14, .iaload, 1), (15, .aload_n 0, 1), (16, .getfield 24, 3), (19, .iload_n 2, 1), (20, .iaload, 1), (21, .if_icmp .ge 25, 3), (24, .iload_n 1, 1), (25, .iconst (-1), 1), (26, .if_icmp .eq 18, 3), (29, .aload_n 0, 1), (30, .getfield 21, 3), (33, .iload_n 2, 1), (34, .iaload, 1), (35, .aload_n 0, 1), (36, .getfield 21, 3), (39, .iload_n 1, 1), (40, .iaload, 1), (41, .if_icmp .ge 5, 3), (44, .iload_n 2, 1), (45, .istore_n 1, 1), (46, .iinc 2 1, 3), (49, .goto (-45), 3), (52, .iload_n 1, 1), (53, .ireturn, 1)]
theorem dt_Walk_sourceOfLeastRoot : am_Dec (xC X_Walk_sourceOfLeastRoot) T_Walk_sourceOfLeastRoot := by decide +kernel
def y_Walk_isOutside : MethodName := ⟨"NumberedSparks$Walk", "isOutside", "(LNumberedSparks$Spark;)Z"⟩
abbrev X_Walk_isOutside : am_X := ("NumberedSparks$Walk", prog_9_method_9_code, 2, (some FieldType.boolean), "isOutside", 2)
theorem mb_Walk_isOutside : am_mb y_Walk_isOutside X_Walk_isOutside 1 := ⟨wd_835, wd_6, ⟨by decide +kernel, by decide +kernel⟩, by decide +kernel, by decide, rfl⟩
def T_Walk_isOutside : List (Nat × Instr × Nat) := [(0, .aload_n 1, 1), (1, .getfield 112, 3), (4, .aload_n 0, 1), (5, .getfield 41, 3), (8, .if_icmp .ge 27, 3), (11, .aload_n 1, 1), (12, .getfield 115, 3), (15, .aload_n 0, 1), (16, .aload_n 1, 1), (17, .getfield 118, 3), (20, .aload_n 1, 1), (21, .getfield 101, 3), (24, .invokevirtual 73, 3), (27, .iadd, 1), (28, .aload_n 0, 1), (29, .getfield 37, 3), (32, .if_icmp .gt 7, 3), (35, .iconst 1, 1), (36, .goto 4, 3), (39, .iconst 0, 1), (40, .ireturn, 1)]
theorem dt_Walk_isOutside : am_Dec (xC X_Walk_isOutside) T_Walk_isOutside := by decide +kernel
def y_Walk_show : MethodName := ⟨"NumberedSparks$Walk", "show", "(I)V"⟩
abbrev X_Walk_show : am_X := ("NumberedSparks$Walk", prog_9_method_10_code, 2, none, "show", 0)
theorem mb_Walk_show : am_mb y_Walk_show X_Walk_show 1 := ⟨wd_840, wd_6, ⟨by decide +kernel, by decide +kernel⟩, by decide +kernel, by decide, rfl⟩
def T_Walk_show : List (Nat × Instr × Nat) := [(0, .iload_n 1, 1), (1, .ifCond .lt 25, 3), (4, .iload_n 1, 1), (5, .bipush 7, 2), (7, .if_icmp .ge 19, 3), (10, .aload_n 0, 1), (11, .getfield 76, 3), (14, .ifCond .lt 12, 3), (17, .aload_n 0, 1), (18, .getfield 76, 3), (21, .bipush 7, 2), (23, .if_icmp .lt 4, 3), (26, .return_, 1), (27, .aload_n 0, 1), (28, .getfield 11, 3), (31, .iload_n 1, 1), (32, .aaload, 1), (33, .getfield 112, 3), (36, .aload_n 0, 1), (37, .getfield 41, 3), (40, .if_icmp .ge 39, 3), (43, .aload_n 0, 1), (44, .getfield 11, 3), (47, .iload_n 1, 1), (48, .aaload, 1), (49, .getfield 115, 3), (52, .aload_n 0, 1), (53, .getfield 37, 3), (56, .if_icmp .le 23, 3), (59, .aload_n 0, 1), (60, .getfield 17, 3), (63, .aload_n 0, 1), (64, .getfield 76, 3), (67, .iload_n 1, 1), (68, .iastore, 1), (69, .aload_n 0, 1), (70, .dup, 1), (71, .getfield 76, 3), (74, .iconst 1, 1), (75, .iadd, 1), (76, .putfield 76, 3), (79, .return_, 1)]
theorem dt_Walk_show : am_Dec (xC X_Walk_show) T_Walk_show := by decide +kernel
def y_Walk_stepChild : MethodName := ⟨"NumberedSparks$Walk", "stepChild", "(LNumberedSparks$Spark;II)V"⟩
abbrev X_Walk_stepChild : am_X := ("NumberedSparks$Walk", prog_9_method_8_code, 8, none, "stepChild", 3)
theorem mb_Walk_stepChild : am_mb y_Walk_stepChild X_Walk_stepChild 3 := ⟨wd_844, wd_6, ⟨by decide +kernel, by decide +kernel⟩, by decide +kernel, by decide, rfl⟩
def T_Walk_stepChild : List (Nat × Instr × Nat) := [(0, .iload_n 3, 1), (1, .ifCond .lt 11, 3), (4, .iload_n 3, 1), (5, .iconst 2, 1), (6, .iadd, 1), (7, .bipush 7, 2), (9, .if_icmp .lt 4, 3), (12, .return_, 1), (13, .aload_n 0, 1), (14, .getfield 11, 3), (17, .iload_n 3, 1), (18, .aaload, 1), (19, .astore 4, 2), (21, .aload 4, 2), (23, .aload_n 1, 1), (24, .iload_n 2, 1), (25, .invokevirtual 108, 3), (28, .aload_n 0, 1), (29, .aload 4, 2), (31, .invokevirtual 90, 3), (34, .ifCond .eq 4, 3), (37, .return_, 1), (38, .aload 4, 2), (40, .invokevirtual 94, 3), (43, .aload_n 0, 1), (44, .iload_n 3, 1), (45, .invokevirtual 97, 3), (48, .aload_n 0, 1), (49, .getfield 30, 3), (52, .aload 4, 2), (54, .getfield 101, 3), (57, .bipush 6, 2), (59, .invokevirtual 70, 3), (62, .istore 5, 2), (64, .iconst 0, 1), (65, .istore 6, 2), (67, .iload 6, 2), (69, .iload 5, 2), (71, .if_icmp .ge 61, 3), (74, .iload 6, 2), (76, .iconst 2, 1), (77, .if_icmp .ge 55, 3), (80, .aload_n 0, 1), (81, .getfield 11, 3), (84, .iload_n 3, 1), (85, .iconst 1, 1), (86, .iadd, 1), (87, .iload 6, 2), (89, .iadd, 1), (90, .aaload, 1), (91, .astore 7, 2), (93, .aload 7, 2), (95, .aload 4, 2), (97, .iload 6, 2), (99, .invokevirtual 108, 3), (102, .aload_n 0, 1), (103, .aload 7, 2), (105, .invokevirtual 90, 3), (108, .ifCond .ne 18, 3), (111, .aload 7, 2), (113, .invokevirtual 94, 3), (116, .aload_n 0, 1), (117, .iload_n 3, 1), (118, .iconst 1, 1), (119, .iadd, 1), (120, .iload 6, 2), (122, .iadd, 1), (123, .invokevirtual 97, 3), (126, .iinc 6 1, 3), (129, .goto (-62), 3), (132, .return_, 1)]
theorem dt_Walk_stepChild : am_Dec (xC X_Walk_stepChild) T_Walk_stepChild := by decide +kernel
def y_Walk_stepRoot : MethodName := ⟨"NumberedSparks$Walk", "stepRoot", "()Z"⟩
abbrev X_Walk_stepRoot : am_X := ("NumberedSparks$Walk", prog_9_method_7_code, 7, (some FieldType.boolean), "stepRoot", 4)
theorem mb_Walk_stepRoot : am_mb y_Walk_stepRoot X_Walk_stepRoot 0 := ⟨wd_825, wd_6, ⟨by decide +kernel, by decide +kernel⟩, by decide +kernel, by decide, rfl⟩
def T_Walk_stepRoot : List (Nat × Instr × Nat) := [(0, .aload_n 0, 1), (1, .iconst 0, 1), (2, .putfield 76, 3), (5, .aload_n 0, 1), (6, .invokevirtual 79, 3), (9, .istore_n 1, 1), (10, .iload_n 1, 1), (11, .iconst (-1), 1), (12, .if_icmp .ne 5, 3), (15, .iconst 0, 1), (16, .ireturn, 1), (17, .aload_n 0, 1), (18, .getfield 21, 3), (21, .iload_n 1, 1), (22, .iaload, 1), (23, .istore_n 2, 1), (24, .aload_n 0, 1), (25, .getfield 21, 3), (28, .iload_n 1, 1), (29, .dup2, 1), (30, .iaload, 1), (31, .iconst 1, 1), (32, .iadd, 1), (33, .iastore, 1), (34, .aload_n 0, 1), (35, .getfield 11, 3), (38, .iconst 0, 1), (39, .aaload, 1), (40, .astore_n 3, 1), (41, .aload_n 3, 1), (42, .iload_n 1, 1), (43, .iload_n 2, 1), (44, .aload_n 0, 1), (45, .getfield 30, 3), (48, .iload_n 1, 1), (49, .iload_n 2, 1), (50, .invokevirtual 83, 3), (53, .invokevirtual 86, 3), (56, .aload_n 0, 1), (57, .aload_n 3, 1), (58, .invokevirtual 90, 3), (61, .ifCond .eq 5, 3), (64, .iconst 1, 1), (65, .ireturn, 1), (66, .aload_n 3, 1), (67, .invokevirtual 94, 3), (70, .aload_n 0, 1), (71, .iconst 0, 1), (72, .invokevirtual 97, 3), (75, .aload_n 0, 1), (76, .getfield 30, 3), (79, .aload_n 3, 1), (80, .getfield 101, 3), (83, .bipush 6, 2), (85, .invokevirtual 70, 3), (88, .istore 4, 2), (90, .iconst 0, 1), (91, .istore 5, 2), (93, .iload 5, 2), (95, .iload 4, 2), (97, .if_icmp .ge 32, 3), (100, .iload 5, 2), (102, .iconst 2, 1), (103, .if_icmp .ge 26, 3), (106, .iconst 1, 1), (107, .iload 5, 2), (109, .iconst 3, 1), (110, .imul, 1), (111, .iadd, 1), (112, .istore 6, 2), (114, .aload_n 0, 1), (115, .aload_n 3, 1), (116, .iload 5, 2), (118, .iload 6, 2), (120, .invokevirtual 104, 3), (123, .iinc 5 1, 3), (126, .goto (-33), 3), (129, .iconst 1, 1), (130, .ireturn, 1)]
theorem dt_Walk_stepRoot : am_Dec (xC X_Walk_stepRoot) T_Walk_stepRoot := by decide +kernel
def y_Walk_shown : MethodName := ⟨"NumberedSparks$Walk", "shown", "(I)LNumberedSparks$Spark;"⟩
abbrev X_Walk_shown : am_X := ("NumberedSparks$Walk", prog_9_method_12_code, 2, (some (FieldType.object "NumberedSparks$Spark")), "shown", 0)
theorem mb_Walk_shown : am_mb y_Walk_shown X_Walk_shown 1 := ⟨wd_849, wd_6, ⟨by decide +kernel, by decide +kernel⟩, by decide +kernel, by decide, rfl⟩
def T_Walk_shown : List (Nat × Instr × Nat) := [(0, .aload_n 0, 1), (1, .getfield 11, 3), (4, .iload_n 1, 1), (5, .ifCond .lt 20, 3), (8, .iload_n 1, 1), (9, .aload_n 0, 1), (10, .getfield 76, 3), (13, .if_icmp .ge 12, 3), (16, .aload_n 0, 1), (17, .getfield 17, 3), (20, .iload_n 1, 1), (21, .iaload, 1), (22, .goto 4, 3), (25, .iconst 0, 1), (26, .aaload, 1), (27, .areturn, 1)]
theorem dt_Walk_shown : am_Dec (xC X_Walk_shown) T_Walk_shown := by decide +kernel
def y_NS_comesOf : MethodName := ⟨"NumberedSparks", "comesOf", "(II)Z"⟩
abbrev X_NS_comesOf : am_X := ("NumberedSparks", prog_1_method_68_code, 4, (some FieldType.boolean), "comesOf", 1)
theorem mb_NS_comesOf : am_mb y_NS_comesOf X_NS_comesOf 2 := ⟨wd_852, wd_1, ⟨by decide +kernel, by decide +kernel⟩, by decide +kernel, by decide, rfl⟩
def T_NS_comesOf : List (Nat × Instr × Nat) := [(0, .iload_n 1, 1), (1, .invokestatic 163, 3), (4, .istore_n 2, 1), (5, .iload_n 2, 1), (6, .ifCond .ne 9, 3), (9, .sipush 255, 3), (12, .goto 14, 3), (15, .iload_n 2, 1), (16, .iconst 1, 1), (17, .if_icmp .ne 8, 3), (20, .bipush 15, 2), (22, .goto 4, 3), (25, .iconst 0, 1), (26, .istore_n 3, 1), (27, .iload_n 0, 1), (28, .iload_n 3, 1), (29, .iconst (-1), 1), (30, .ixor, 1), (31, .iand, 1), (32, .iload_n 1, 1), (33, .if_icmp .ne 7, 3), (36, .iconst 1, 1), (37, .goto 4, 3), (40, .iconst 0, 1), (41, .ireturn, 1)]
theorem dt_NS_comesOf : am_Dec (xC X_NS_comesOf) T_NS_comesOf := by decide +kernel
def y_NS_line : MethodName := ⟨"NumberedSparks", "line", "(II)I"⟩
abbrev X_NS_line : am_X := ("NumberedSparks", prog_1_method_27_code, 7, (some FieldType.int), "line", 5)
theorem mb_NS_line : am_mb y_NS_line X_NS_line 2 := ⟨wd_797, wd_1, ⟨by decide +kernel, by decide +kernel⟩, by decide +kernel, by decide, rfl⟩
def T_NS_line : List (Nat × Instr × Nat) := [(0, .aload_n 0, 1), (1, .getfield 16, 3), (4, .iload_n 1, 1), (5, .invokevirtual 160, 3), (8, .ifCond .eq 12, 3), (11, .iload_n 2, 1), (12, .ifCond .lt 8, 3), (15, .iload_n 2, 1), (16, .iconst 1, 1), (17, .if_icmp .le 6, 3), (20, .bipush (-2), 2), (22, .ireturn, 1), (23, .aload_n 0, 1), (24, .getfield 46, 3), (27, .iload_n 1, 1), (28, .invokestatic 185, 3), (31, .iload_n 1, 1), (32, .invokestatic 188, 3), (35, .invokevirtual 236, 3), (38, .iconst 0, 1), (39, .istore_n 3, 1), (40, .iconst 0, 1), (41, .istore 4, 2), (43, .aload_n 0, 1), (44, .getfield 46, 3), (47, .invokevirtual 240, 3), (50, .ifCond .eq 62, 3), (53, .iconst 0, 1), (54, .istore 5, 2), (56, .iload 5, 2), (58, .aload_n 0, 1), (59, .getfield 46, 3), (62, .getfield 243, 3), (65, .if_icmp .ge 47, 3), (68, .aload_n 0, 1), (69, .getfield 46, 3), (72, .iload 5, 2), (74, .invokevirtual 246, 3), (77, .astore 6, 2), (79, .aload 6, 2), (81, .getfield 249, 3), (84, .iload_n 1, 1), (85, .invokestatic 252, 3), (88, .ifCond .eq 18, 3), (91, .iinc 3 1, 3), (94, .iload 4, 2), (96, .aload 6, 2), (98, .getfield 200, 3), (101, .invokestatic 218, 3), (104, .istore 4, 2), (106, .iinc 5 1, 3), (109, .goto (-53), 3), (112, .iload_n 2, 1), (113, .ifCond .ne 7, 3), (116, .iload_n 3, 1), (117, .goto 5, 3), (120, .iload 4, 2), (122, .ireturn, 1)]
theorem dt_NS_line : am_Dec (xC X_NS_line) T_NS_line := by decide +kernel
def y_Outp_clear : MethodName := ⟨"NumberedSparks$Output", "clear", "()V"⟩
abbrev X_Outp_clear : am_X := ("NumberedSparks$Output", prog_5_method_2_code, 1, none, "clear", 0)
theorem mb_Outp_clear : am_mb y_Outp_clear X_Outp_clear 0 := ⟨wd_860, wd_5, ⟨by decide +kernel, by decide +kernel⟩, by decide +kernel, by decide, rfl⟩
def T_Outp_clear : List (Nat × Instr × Nat) := [(0, .aload_n 0, 1), (1, .iconst 0, 1), (2, .putfield 15, 3), (5, .return_, 1)]
theorem dt_Outp_clear : am_Dec (xC X_Outp_clear) T_Outp_clear := by decide +kernel
def y_Outp_put : MethodName := ⟨"NumberedSparks$Output", "put", "(I)V"⟩
abbrev X_Outp_put : am_X := ("NumberedSparks$Output", prog_5_method_3_code, 2, none, "put", 0)
theorem mb_Outp_put : am_mb y_Outp_put X_Outp_put 1 := ⟨wd_864, wd_5, ⟨by decide +kernel, by decide +kernel⟩, by decide +kernel, by decide, rfl⟩
def T_Outp_put : List (Nat × Instr × Nat) := [(0, .aload_n 0, 1), (1, .getfield 15, 3), (4, .ifCond .lt 35, 3), (7, .aload_n 0, 1), (8, .getfield 15, 3), (11, .aload_n 0, 1), (12, .getfield 9, 3), (15, .arraylength, 1), (16, .if_icmp .ge 23, 3), (19, .aload_n 0, 1), (20, .getfield 9, 3), (23, .aload_n 0, 1), (24, .getfield 15, 3), (27, .iload_n 1, 1), (28, .iastore, 1), (29, .aload_n 0, 1), (30, .dup, 1), (31, .getfield 15, 3), (34, .iconst 1, 1), (35, .iadd, 1), (36, .putfield 15, 3), (39, .return_, 1)]
theorem dt_Outp_put : am_Dec (xC X_Outp_put) T_Outp_put := by decide +kernel
def y_Outp_putNumber : MethodName := ⟨"NumberedSparks$Output", "putNumber", "(I)V"⟩
abbrev X_Outp_putNumber : am_X := ("NumberedSparks$Output", prog_5_method_4_code, 4, none, "putNumber", 1)
theorem mb_Outp_putNumber : am_mb y_Outp_putNumber X_Outp_putNumber 1 := ⟨wd_868, wd_5, ⟨by decide +kernel, by decide +kernel⟩, by decide +kernel, by decide, rfl⟩
def T_Outp_putNumber : List (Nat × Instr × Nat) := [(0, .iconst 1, 1), (1, .istore_n 2, 1), (2, .iconst 0, 1), (3, .istore_n 3, 1), (4, .iload_n 3, 1), (5, .bipush 9, 2), (7, .if_icmp .ge 22, 3), (10, .iload_n 1, 1), (11, .iload_n 2, 1), (12, .idiv, 1), (13, .bipush 9, 2), (15, .if_icmp .le 14, 3), (18, .iload_n 2, 1), (19, .bipush 10, 2), (21, .imul, 1), (22, .istore_n 2, 1), (23, .iinc 3 1, 3), (26, .goto (-22), 3), (29, .iconst 0, 1), (30, .istore_n 3, 1), (31, .iload_n 3, 1), (32, .bipush 10, 2), (34, .if_icmp .ge 31, 3), (37, .iload_n 2, 1), (38, .ifCond .le 27, 3), (41, .aload_n 0, 1), (42, .bipush 48, 2), (44, .iload_n 1, 1), (45, .iload_n 2, 1), (46, .idiv, 1), (47, .bipush 10, 2), (49, .irem, 1), (50, .iadd, 1), (51, .invokevirtual 19, 3), (54, .iload_n 2, 1), (55, .bipush 10, 2), (57, .idiv, 1), (58, .istore_n 2, 1), (59, .iinc 3 1, 3), (62, .goto (-31), 3), (65, .return_, 1)]
theorem dt_Outp_putNumber : am_Dec (xC X_Outp_putNumber) T_Outp_putNumber := by decide +kernel
def y_NS_tell : MethodName := ⟨"NumberedSparks", "tell", "(I)I"⟩
abbrev X_NS_tell : am_X := ("NumberedSparks", prog_1_method_28_code, 4, (some FieldType.int), "tell", 4)
theorem mb_NS_tell : am_mb y_NS_tell X_NS_tell 1 := ⟨wd_856, wd_1, ⟨by decide +kernel, by decide +kernel⟩, by decide +kernel, by decide, rfl⟩
def T_NS_tell : List (Nat × Instr × Nat) := [(0, .aload_n 0, 1), (1, .getfield 62, 3), (4, .iload_n 1, 1), (5, .invokevirtual 176, 3), (8, .astore_n 2, 1), (9, .aload_n 2, 1), (10, .ifnonnull 6, 3), (13, .bipush (-2), 2), (15, .ireturn, 1), (16, .aload_n 0, 1), (17, .getfield 37, 3), (20, .invokevirtual 255, 3), (23, .aload_n 0, 1), (24, .getfield 37, 3), (27, .bipush 97, 2), (29, .aload_n 2, 1), (30, .getfield 180, 3), (33, .iadd, 1), (34, .invokevirtual 258, 3), (37, .aload_n 0, 1), (38, .getfield 37, 3), (41, .iload_n 1, 1), (42, .invokestatic 185, 3), (45, .invokevirtual 261, 3), (48, .aload_n 0, 1), (49, .getfield 37, 3), (52, .iload_n 1, 1), (53, .invokestatic 188, 3), (56, .invokevirtual 261, 3), (59, .aload_n 2, 1), (60, .getfield 191, 3), (63, .ifCond .le 27, 3), (66, .aload_n 0, 1), (67, .getfield 37, 3), (70, .bipush 46, 2), (72, .invokevirtual 258, 3), (75, .aload_n 0, 1), (76, .getfield 37, 3), (79, .iload_n 1, 1), (80, .iconst 4, 1), (81, .ishr, 1), (82, .bipush 15, 2), (84, .iand, 1), (85, .iconst 1, 1), (86, .isub, 1), (87, .invokevirtual 261, 3), (90, .aload_n 2, 1), (91, .getfield 191, 3), (94, .iconst 1, 1), (95, .if_icmp .le 25, 3), (98, .aload_n 0, 1), (99, .getfield 37, 3), (102, .bipush 46, 2), (104, .invokevirtual 258, 3), (107, .aload_n 0, 1), (108, .getfield 37, 3), (111, .iload_n 1, 1), (112, .bipush 15, 2), (114, .iand, 1), (115, .iconst 1, 1), (116, .isub, 1), (117, .invokevirtual 261, 3), (120, .aload_n 0, 1), (121, .getfield 37, 3), (124, .bipush 32, 2), (126, .invokevirtual 258, 3), (129, .aload_n 0, 1), (130, .getfield 37, 3), (133, .aload_n 2, 1), (134, .getfield 197, 3), (137, .invokevirtual 261, 3), (140, .aload_n 0, 1), (141, .getfield 37, 3), (144, .bipush 45, 2), (146, .invokevirtual 258, 3), (149, .aload_n 0, 1), (150, .getfield 37, 3), (153, .aload_n 2, 1), (154, .getfield 200, 3), (157, .invokevirtual 261, 3), (160, .iconst 0, 1), (161, .istore_n 3, 1), (162, .iload_n 3, 1), (163, .iconst 3, 1), (164, .if_icmp .ge 31, 3), (167, .aload_n 0, 1), (168, .getfield 37, 3), (171, .bipush 32, 2), (173, .invokevirtual 258, 3), (176, .aload_n 0, 1), (177, .getfield 37, 3), (180, .aload_n 2, 1), (181, .getfield 264, 3), (184, .iload_n 3, 1), (185, .iaload, 1), (186, .invokevirtual 261, 3), (189, .iinc 3 1, 3), (192, .goto (-30), 3), (195, .aload_n 0, 1), (196, .getfield 37, 3), (199, .getfield 113, 3), (202, .ireturn, 1)]
theorem dt_NS_tell : am_Dec (xC X_NS_tell) T_NS_tell := by decide +kernel
def y_Outp_byteAt : MethodName := ⟨"NumberedSparks$Output", "byteAt", "(I)I"⟩
abbrev X_Outp_byteAt : am_X := ("NumberedSparks$Output", prog_5_method_5_code, 2, (some FieldType.int), "byteAt", 0)
theorem mb_Outp_byteAt : am_mb y_Outp_byteAt X_Outp_byteAt 1 := ⟨wd_877, wd_5, ⟨by decide +kernel, by decide +kernel⟩, by decide +kernel, by decide, rfl⟩
def T_Outp_byteAt : List (Nat × Instr × Nat) := [(0, .iload_n 1, 1), (1, .ifCond .lt 20, 3), (4, .iload_n 1, 1), (5, .aload_n 0, 1), (6, .getfield 15, 3), (9, .if_icmp .ge 12, 3), (12, .aload_n 0, 1), (13, .getfield 9, 3), (16, .iload_n 1, 1), (17, .iaload, 1), (18, .goto 4, 3), (21, .iconst (-1), 1), (22, .ireturn, 1)]
theorem dt_Outp_byteAt : am_Dec (xC X_Outp_byteAt) T_Outp_byteAt := by decide +kernel
def y_NS_octet : MethodName := ⟨"NumberedSparks", "octet", "(I)I"⟩
abbrev X_NS_octet : am_X := ("NumberedSparks", prog_1_method_29_code, 2, (some FieldType.int), "octet", 1)
theorem mb_NS_octet : am_mb y_NS_octet X_NS_octet 1 := ⟨wd_873, wd_1, ⟨by decide +kernel, by decide +kernel⟩, by decide +kernel, by decide, rfl⟩
def T_NS_octet : List (Nat × Instr × Nat) := [(0, .aload_n 0, 1), (1, .getfield 37, 3), (4, .iload_n 1, 1), (5, .invokevirtual 267, 3), (8, .ireturn, 1)]
theorem dt_NS_octet : am_Dec (xC X_NS_octet) T_NS_octet := by decide +kernel
def y_NS_isWindow : MethodName := ⟨"NumberedSparks", "isWindow", "(II)Z"⟩
abbrev X_NS_isWindow : am_X := ("NumberedSparks", prog_1_method_61_code, 3, (some FieldType.boolean), "isWindow", 0)
theorem mb_NS_isWindow : am_mb y_NS_isWindow X_NS_isWindow 2 := ⟨wd_885, wd_1, ⟨by decide +kernel, by decide +kernel⟩, by decide +kernel, by decide, rfl⟩
def T_NS_isWindow : List (Nat × Instr × Nat) := [(0, .aload_n 0, 1), (1, .getfield 16, 3), (4, .getfield 130, 3), (7, .ifCond .eq 23, 3), (10, .iload_n 1, 1), (11, .ifCond .lt 19, 3), (14, .iload_n 1, 1), (15, .iload_n 2, 1), (16, .if_icmp .gt 14, 3), (19, .iload_n 2, 1), (20, .sipush 30001, 3), (23, .if_icmp .gt 7, 3), (26, .iconst 1, 1), (27, .goto 4, 3), (30, .iconst 0, 1), (31, .ireturn, 1)]
theorem dt_NS_isWindow : am_Dec (xC X_NS_isWindow) T_NS_isWindow := by decide +kernel
def y_Scen_bornBefore : MethodName := ⟨"NumberedSparks$Scene", "bornBefore", "(II)I"⟩
abbrev X_Scen_bornBefore : am_X := ("NumberedSparks$Scene", prog_7_method_21_code, 8, (some FieldType.int), "bornBefore", 3)
theorem mb_Scen_bornBefore : am_mb y_Scen_bornBefore X_Scen_bornBefore 2 := ⟨wd_889, wd_2, ⟨by decide +kernel, by decide +kernel⟩, by decide +kernel, by decide, rfl⟩
def T_Scen_bornBefore : List (Nat × Instr × Nat) := [(0, .aload_n 0, 1), (1, .iload_n 1, 1), (2, .bipush 6, 2), (4, .invokevirtual 84, 3), (7, .istore_n 3, 1), (8, .aload_n 0, 1), (9, .iload_n 1, 1), (10, .iload_n 2, 1), (11, .iconst 1, 1), (12, .isub, 1), (13, .aload_n 0, 1), (14, .iload_n 1, 1), (15, .bipush 8, 2), (17, .invokevirtual 84, 3), (20, .isub, 1), (21, .invokevirtual 108, 3), (24, .iload_n 3, 1), (25, .imul, 1), (26, .istore 4, 2), (28, .aload_n 0, 1), (29, .iload_n 1, 1), (30, .iload_n 2, 1), (31, .iconst 1, 1), (32, .isub, 1), (33, .invokevirtual 108, 3), (36, .iload_n 3, 1), (37, .imul, 1), (38, .istore 5, 2), (40, .iload 4, 2), (42, .istore 6, 2), (44, .iload 4, 2), (46, .istore 7, 2), (48, .iload 7, 2), (50, .iload 5, 2), (52, .if_icmp .ge 23, 3), (55, .aload_n 0, 1), (56, .iload_n 1, 1), (57, .iload 7, 2), (59, .invokevirtual 111, 3), (62, .iload_n 2, 1), (63, .if_icmp .ge 6, 3), (66, .iinc 6 1, 3), (69, .iinc 7 1, 3), (72, .goto (-24), 3), (75, .iload 6, 2), (77, .ireturn, 1)]
theorem dt_Scen_bornBefore : am_Dec (xC X_Scen_bornBefore) T_Scen_bornBefore := by decide +kernel
def y_NS_births : MethodName := ⟨"NumberedSparks", "births", "(III)I"⟩
abbrev X_NS_births : am_X := ("NumberedSparks", prog_1_method_30_code, 4, (some FieldType.int), "births", 4)
theorem mb_NS_births : am_mb y_NS_births X_NS_births 3 := ⟨wd_881, wd_1, ⟨by decide +kernel, by decide +kernel⟩, by decide +kernel, by decide, rfl⟩
def T_NS_births : List (Nat × Instr × Nat) := [(0, .aload_n 0, 1), (1, .getfield 16, 3), (4, .iload_n 1, 1), (5, .invokevirtual 124, 3), (8, .ifCond .eq 12, 3), (11, .aload_n 0, 1), (12, .iload_n 2, 1), (13, .iload_n 3, 1), (14, .invokevirtual 270, 3), (17, .ifCond .ne 6, 3), (20, .bipush (-2), 2), (22, .ireturn, 1), (23, .aload_n 0, 1), (24, .getfield 16, 3), (27, .iload_n 1, 1), (28, .iload_n 3, 1), (29, .invokevirtual 273, 3), (32, .aload_n 0, 1), (33, .getfield 16, 3), (36, .iload_n 1, 1), (37, .iload_n 2, 1), (38, .invokevirtual 273, 3), (41, .isub, 1), (42, .ireturn, 1)]
theorem dt_NS_births : am_Dec (xC X_NS_births) T_NS_births := by decide +kernel
def y_Scen_tickOfBirth : MethodName := ⟨"NumberedSparks$Scene", "tickOfBirth", "(II)I"⟩
abbrev X_Scen_tickOfBirth : am_X := ("NumberedSparks$Scene", prog_7_method_22_code, 7, (some FieldType.int), "tickOfBirth", 4)
theorem mb_Scen_tickOfBirth : am_mb y_Scen_tickOfBirth X_Scen_tickOfBirth 2 := ⟨wd_903, wd_2, ⟨by decide +kernel, by decide +kernel⟩, by decide +kernel, by decide, rfl⟩
def T_Scen_tickOfBirth : List (Nat × Instr × Nat) := [(0, .aload_n 0, 1), (1, .iload_n 1, 1), (2, .iload_n 2, 1), (3, .invokevirtual 102, 3), (6, .istore_n 3, 1), (7, .iload_n 3, 1), (8, .aload_n 0, 1), (9, .iload_n 1, 1), (10, .bipush 8, 2), (12, .invokevirtual 84, 3), (15, .iadd, 1), (16, .istore 4, 2), (18, .iconst 0, 1), (19, .istore 5, 2), (21, .iload 5, 2), (23, .bipush 32, 2), (25, .if_icmp .ge 48, 3), (28, .iload_n 3, 1), (29, .iload 4, 2), (31, .if_icmp .ge 42, 3), (34, .iload_n 3, 1), (35, .iload 4, 2), (37, .iadd, 1), (38, .iconst 2, 1), (39, .idiv, 1), (40, .istore 6, 2), (42, .aload_n 0, 1), (43, .iload_n 1, 1), (44, .iload 6, 2), (46, .iconst 1, 1), (47, .iadd, 1), (48, .invokevirtual 114, 3), (51, .iload_n 2, 1), (52, .if_icmp .le 10, 3), (55, .iload 6, 2), (57, .istore 4, 2), (59, .goto 8, 3), (62, .iload 6, 2), (64, .iconst 1, 1), (65, .iadd, 1), (66, .istore_n 3, 1), (67, .iinc 5 1, 3), (70, .goto (-49), 3), (73, .iload_n 3, 1), (74, .ireturn, 1)]
theorem dt_Scen_tickOfBirth : am_Dec (xC X_Scen_tickOfBirth) T_Scen_tickOfBirth := by decide +kernel
def y_Scen_codeOfBirth : MethodName := ⟨"NumberedSparks$Scene", "codeOfBirth", "(II)I"⟩
abbrev X_Scen_codeOfBirth : am_X := ("NumberedSparks$Scene", prog_7_method_23_code, 8, (some FieldType.int), "codeOfBirth", 5)
theorem mb_Scen_codeOfBirth : am_mb y_Scen_codeOfBirth X_Scen_codeOfBirth 2 := ⟨wd_899, wd_2, ⟨by decide +kernel, by decide +kernel⟩, by decide +kernel, by decide, rfl⟩
def T_Scen_codeOfBirth : List (Nat × Instr × Nat) := [(0, .aload_n 0, 1), (1, .iload_n 1, 1), (2, .iload_n 2, 1), (3, .invokevirtual 117, 3), (6, .istore_n 3, 1), (7, .iload_n 2, 1), (8, .aload_n 0, 1), (9, .iload_n 1, 1), (10, .iload_n 3, 1), (11, .invokevirtual 114, 3), (14, .isub, 1), (15, .istore 4, 2), (17, .aload_n 0, 1), (18, .iload_n 1, 1), (19, .bipush 6, 2), (21, .invokevirtual 84, 3), (24, .istore 5, 2), (26, .aload_n 0, 1), (27, .iload_n 1, 1), (28, .iload_n 3, 1), (29, .invokevirtual 108, 3), (32, .iload 5, 2), (34, .imul, 1), (35, .istore 6, 2), (37, .aload_n 0, 1), (38, .iload_n 1, 1), (39, .iload_n 3, 1), (40, .iconst 1, 1), (41, .isub, 1), (42, .aload_n 0, 1), (43, .iload_n 1, 1), (44, .bipush 8, 2), (46, .invokevirtual 84, 3), (49, .isub, 1), (50, .invokevirtual 108, 3), (53, .iload 5, 2), (55, .imul, 1), (56, .istore 7, 2), (58, .iload 7, 2), (60, .iload 6, 2), (62, .if_icmp .ge 35, 3), (65, .aload_n 0, 1), (66, .iload_n 1, 1), (67, .iload 7, 2), (69, .invokevirtual 111, 3), (72, .iload_n 3, 1), (73, .if_icmp .ne 18, 3), (76, .iload 4, 2), (78, .ifCond .ne 10, 3), (81, .iload_n 1, 1), (82, .iload 7, 2), (84, .invokestatic 105, 3), (87, .ireturn, 1), (88, .iinc 4 (-1), 3), (91, .iinc 7 1, 3), (94, .goto (-36), 3), (97, .iconst (-1), 1), (98, .ireturn, 1)]
theorem dt_Scen_codeOfBirth : am_Dec (xC X_Scen_codeOfBirth) T_Scen_codeOfBirth := by decide +kernel
def y_NS_bornAs : MethodName := ⟨"NumberedSparks", "bornAs", "(II)I"⟩
abbrev X_NS_bornAs : am_X := ("NumberedSparks", prog_1_method_31_code, 3, (some FieldType.int), "bornAs", 6)
theorem mb_NS_bornAs : am_mb y_NS_bornAs X_NS_bornAs 2 := ⟨wd_895, wd_1, ⟨by decide +kernel, by decide +kernel⟩, by decide +kernel, by decide, rfl⟩
def T_NS_bornAs : List (Nat × Instr × Nat) := [(0, .aload_n 0, 1), (1, .getfield 16, 3), (4, .iload_n 1, 1), (5, .invokevirtual 124, 3), (8, .ifCond .eq 7, 3), (11, .iload_n 2, 1), (12, .ifCond .ge 6, 3), (15, .bipush (-2), 2), (17, .ireturn, 1), (18, .iload_n 2, 1), (19, .aload_n 0, 1), (20, .getfield 16, 3), (23, .iload_n 1, 1), (24, .bipush 9, 2), (26, .invokevirtual 127, 3), (29, .if_icmp .ge 15, 3), (32, .aload_n 0, 1), (33, .getfield 16, 3), (36, .iload_n 1, 1), (37, .iload_n 2, 1), (38, .invokevirtual 276, 3), (41, .goto 4, 3), (44, .iconst (-1), 1), (45, .ireturn, 1)]
theorem dt_NS_bornAs : am_Dec (xC X_NS_bornAs) T_NS_bornAs := by decide +kernel
def y_NS_latest : MethodName := ⟨"NumberedSparks", "latest", "(II)I"⟩
abbrev X_NS_latest : am_X := ("NumberedSparks", prog_1_method_32_code, 4, (some FieldType.int), "latest", 6)
theorem mb_NS_latest : am_mb y_NS_latest X_NS_latest 2 := ⟨wd_908, wd_1, ⟨by decide +kernel, by decide +kernel⟩, by decide +kernel, by decide, rfl⟩
def T_NS_latest : List (Nat × Instr × Nat) := [(0, .aload_n 0, 1), (1, .getfield 16, 3), (4, .iload_n 1, 1), (5, .invokevirtual 124, 3), (8, .ifCond .eq 10, 3), (11, .iload_n 2, 1), (12, .invokestatic 206, 3), (15, .ifCond .ne 6, 3), (18, .bipush (-2), 2), (20, .ireturn, 1), (21, .aload_n 0, 1), (22, .getfield 16, 3), (25, .iload_n 1, 1), (26, .iload_n 2, 1), (27, .iconst 1, 1), (28, .iadd, 1), (29, .invokevirtual 273, 3), (32, .istore_n 3, 1), (33, .iload_n 3, 1), (34, .ifCond .le 17, 3), (37, .aload_n 0, 1), (38, .getfield 16, 3), (41, .iload_n 1, 1), (42, .iload_n 3, 1), (43, .iconst 1, 1), (44, .isub, 1), (45, .invokevirtual 276, 3), (48, .goto 4, 3), (51, .iconst (-1), 1), (52, .ireturn, 1)]
theorem dt_NS_latest : am_Dec (xC X_NS_latest) T_NS_latest := by decide +kernel
def y_NS_next : MethodName := ⟨"NumberedSparks", "next", "(II)I"⟩
abbrev X_NS_next : am_X := ("NumberedSparks", prog_1_method_33_code, 4, (some FieldType.int), "next", 5)
theorem mb_NS_next : am_mb y_NS_next X_NS_next 2 := ⟨wd_912, wd_1, ⟨by decide +kernel, by decide +kernel⟩, by decide +kernel, by decide, rfl⟩
def T_NS_next : List (Nat × Instr × Nat) := [(0, .aload_n 0, 1), (1, .getfield 16, 3), (4, .iload_n 1, 1), (5, .invokevirtual 124, 3), (8, .ifCond .eq 10, 3), (11, .iload_n 2, 1), (12, .invokestatic 206, 3), (15, .ifCond .ne 6, 3), (18, .bipush (-2), 2), (20, .ireturn, 1), (21, .aload_n 0, 1), (22, .getfield 16, 3), (25, .iload_n 1, 1), (26, .iload_n 2, 1), (27, .invokevirtual 273, 3), (30, .istore_n 3, 1), (31, .iload_n 3, 1), (32, .aload_n 0, 1), (33, .getfield 16, 3), (36, .iload_n 1, 1), (37, .bipush 9, 2), (39, .invokevirtual 127, 3), (42, .if_icmp .ge 15, 3), (45, .aload_n 0, 1), (46, .getfield 16, 3), (49, .iload_n 1, 1), (50, .iload_n 3, 1), (51, .invokevirtual 279, 3), (54, .goto 4, 3), (57, .iconst (-1), 1), (58, .ireturn, 1)]
theorem dt_NS_next : am_Dec (xC X_NS_next) T_NS_next := by decide +kernel
def y_Scen_countBirths : MethodName := ⟨"NumberedSparks$Scene", "countBirths", "(III[I)V"⟩
abbrev X_Scen_countBirths : am_X := ("NumberedSparks$Scene", prog_7_method_24_code, 9, none, "countBirths", 3)
theorem mb_Scen_countBirths : am_mb y_Scen_countBirths X_Scen_countBirths 4 := ⟨wd_921, wd_2, ⟨by decide +kernel, by decide +kernel⟩, by decide +kernel, by decide, rfl⟩
def T_Scen_countBirths : List (Nat × Instr × Nat) := [(0, .aload 4, 2), (2, .iconst 0, 1), (3, .invokestatic 21, 3), (6, .aload_n 0, 1), (7, .iload_n 1, 1), (8, .bipush 6, 2), (10, .invokevirtual 84, 3), (13, .istore 5, 2), (15, .aload_n 0, 1), (16, .iload_n 1, 1), (17, .iload_n 3, 1), (18, .iconst 1, 1), (19, .isub, 1), (20, .invokevirtual 108, 3), (23, .iload 5, 2), (25, .imul, 1), (26, .istore 6, 2), (28, .aload_n 0, 1), (29, .iload_n 1, 1), (30, .iload_n 2, 1), (31, .iconst 1, 1), (32, .isub, 1), (33, .aload_n 0, 1), (34, .iload_n 1, 1), (35, .bipush 8, 2), (37, .invokevirtual 84, 3), (40, .isub, 1), (41, .invokevirtual 108, 3), (44, .iload 5, 2), (46, .imul, 1), (47, .istore 7, 2), (49, .iload 7, 2), (51, .iload 6, 2), (53, .if_icmp .ge 42, 3), (56, .aload_n 0, 1), (57, .iload_n 1, 1), (58, .iload 7, 2), (60, .invokevirtual 111, 3), (63, .iload_n 2, 1), (64, .isub, 1), (65, .istore 8, 2), (67, .iload 8, 2), (69, .ifCond .lt 20, 3), (72, .iload 8, 2), (74, .aload 4, 2), (76, .arraylength, 1), (77, .if_icmp .ge 12, 3), (80, .aload 4, 2), (82, .iload 8, 2), (84, .dup2, 1), (85, .iaload, 1), (86, .iconst 1, 1), (87, .iadd, 1), (88, .iastore, 1), (89, .iinc 7 1, 3), (92, .goto (-43), 3), (95, .return_, 1)]
theorem dt_Scen_countBirths : am_Dec (xC X_Scen_countBirths) T_Scen_countBirths := by decide +kernel
def y_NS_lull : MethodName := ⟨"NumberedSparks", "lull", "(IIII)I"⟩
abbrev X_NS_lull : am_X := ("NumberedSparks", prog_1_method_34_code, 9, (some FieldType.int), "lull", 4)
theorem mb_NS_lull : am_mb y_NS_lull X_NS_lull 4 := ⟨wd_917, wd_1, ⟨by decide +kernel, by decide +kernel⟩, by decide +kernel, by decide, rfl⟩
def T_NS_lull : List (Nat × Instr × Nat) := [(0, .aload_n 0, 1), (1, .getfield 16, 3), (4, .iload_n 1, 1), (5, .invokevirtual 124, 3), (8, .ifCond .eq 37, 3), (11, .aload_n 0, 1), (12, .iload_n 2, 1), (13, .iload_n 3, 1), (14, .invokevirtual 270, 3), (17, .ifCond .eq 28, 3), (20, .iload_n 2, 1), (21, .iload_n 3, 1), (22, .if_icmp .eq 23, 3), (25, .iload_n 3, 1), (26, .iload_n 2, 1), (27, .isub, 1), (28, .sipush 2000, 3), (31, .if_icmp .gt 14, 3), (34, .iload 4, 2), (36, .ifCond .lt 9, 3), (39, .iload 4, 2), (41, .iconst 1, 1), (42, .if_icmp .le 6, 3), (45, .bipush (-2), 2), (47, .ireturn, 1), (48, .aload_n 0, 1), (49, .getfield 16, 3), (52, .iload_n 1, 1), (53, .iload_n 2, 1), (54, .iload_n 3, 1), (55, .aload_n 0, 1), (56, .getfield 69, 3), (59, .invokevirtual 282, 3), (62, .iconst 0, 1), (63, .istore 5, 2), (65, .iconst (-1), 1), (66, .istore 6, 2), (68, .iconst 0, 1), (69, .istore 7, 2), (71, .iconst 0, 1), (72, .istore 8, 2), (74, .iload 8, 2), (76, .iload_n 3, 1), (77, .iload_n 2, 1), (78, .isub, 1), (79, .if_icmp .ge 61, 3), (82, .iload 8, 2), (84, .aload_n 0, 1), (85, .getfield 69, 3), (88, .arraylength, 1), (89, .if_icmp .ge 51, 3), (92, .aload_n 0, 1), (93, .getfield 69, 3), (96, .iload 8, 2), (98, .iaload, 1), (99, .ifCond .ne 10, 3), (102, .iload 7, 2), (104, .iconst 1, 1), (105, .iadd, 1), (106, .goto 4, 3), (109, .iconst 0, 1), (110, .istore 7, 2), (112, .iload 7, 2), (114, .iload 5, 2), (116, .if_icmp .le 18, 3), (119, .iload 7, 2), (121, .istore 5, 2), (123, .iload_n 2, 1), (124, .iload 8, 2), (126, .iadd, 1), (127, .iload 7, 2), (129, .isub, 1), (130, .iconst 1, 1), (131, .iadd, 1), (132, .istore 6, 2), (134, .iinc 8 1, 3), (137, .goto (-63), 3), (140, .iload 4, 2), (142, .ifCond .ne 8, 3), (145, .iload 5, 2), (147, .goto 5, 3), (150, .iload 6, 2), (152, .ireturn, 1)]
theorem dt_NS_lull : am_Dec (xC X_NS_lull) T_NS_lull := by decide +kernel
def y_NS_endings : MethodName := ⟨"NumberedSparks", "endings", "(II)I"⟩
abbrev X_NS_endings : am_X := ("NumberedSparks", prog_1_method_35_code, 7, (some FieldType.int), "endings", 5)
theorem mb_NS_endings : am_mb y_NS_endings X_NS_endings 2 := ⟨wd_925, wd_1, ⟨by decide +kernel, by decide +kernel⟩, by decide +kernel, by decide, rfl⟩
def T_NS_endings : List (Nat × Instr × Nat) := [(0, .aload_n 0, 1), (1, .iload_n 1, 1), (2, .iload_n 2, 1), (3, .invokevirtual 270, 3), (6, .ifCond .eq 12, 3), (9, .iload_n 2, 1), (10, .iload_n 1, 1), (11, .isub, 1), (12, .sipush 300, 3), (15, .if_icmp .le 6, 3), (18, .bipush (-2), 2), (20, .ireturn, 1), (21, .iconst 0, 1), (22, .istore_n 3, 1), (23, .aload_n 0, 1), (24, .getfield 46, 3), (27, .iload_n 1, 1), (28, .iconst 1, 1), (29, .isub, 1), (30, .iload_n 2, 1), (31, .invokevirtual 286, 3), (34, .iconst 0, 1), (35, .istore 4, 2), (37, .iload 4, 2), (39, .ldc_w 288, 3), (42, .if_icmp .ge 69, 3), (45, .aload_n 0, 1), (46, .getfield 46, 3), (49, .invokevirtual 240, 3), (52, .ifCond .eq 59, 3), (55, .iconst 0, 1), (56, .istore 5, 2), (58, .iload 5, 2), (60, .aload_n 0, 1), (61, .getfield 46, 3), (64, .getfield 243, 3), (67, .if_icmp .ge 38, 3), (70, .aload_n 0, 1), (71, .getfield 46, 3), (74, .iload 5, 2), (76, .invokevirtual 246, 3), (79, .getfield 200, 3), (82, .istore 6, 2), (84, .iload 6, 2), (86, .iload_n 1, 1), (87, .if_icmp .lt 12, 3), (90, .iload 6, 2), (92, .iload_n 2, 1), (93, .if_icmp .ge 6, 3), (96, .iinc 3 1, 3), (99, .iinc 5 1, 3), (102, .goto (-44), 3), (105, .iinc 4 1, 3), (108, .goto (-71), 3), (111, .iload_n 3, 1), (112, .ireturn, 1)]
theorem dt_NS_endings : am_Dec (xC X_NS_endings) T_NS_endings := by decide +kernel
def y_NS_countComingAndGoing : MethodName := ⟨"NumberedSparks", "countComingAndGoing", "(II)V"⟩
abbrev X_NS_countComingAndGoing : am_X := ("NumberedSparks", prog_1_method_37_code, 8, none, "countComingAndGoing", 5)
theorem mb_NS_countComingAndGoing : am_mb y_NS_countComingAndGoing X_NS_countComingAndGoing 2 := ⟨wd_935, wd_1, ⟨by decide +kernel, by decide +kernel⟩, by decide +kernel, by decide, rfl⟩
def T_NS_countComingAndGoing : List (Nat × Instr × Nat) := [(0, .aload_n 0, 1), (1, .getfield 69, 3), (4, .iconst 0, 1), (5, .invokestatic 292, 3), (8, .aload_n 0, 1), (9, .getfield 46, 3), (12, .iload_n 1, 1), (13, .iload_n 2, 1), (14, .invokevirtual 286, 3), (17, .iconst 0, 1), (18, .istore_n 3, 1), (19, .iload_n 3, 1), (20, .ldc_w 288, 3), (23, .if_icmp .ge 121, 3), (26, .aload_n 0, 1), (27, .getfield 46, 3), (30, .invokevirtual 240, 3), (33, .ifCond .eq 111, 3), (36, .iconst 0, 1), (37, .istore 4, 2), (39, .iload 4, 2), (41, .aload_n 0, 1), (42, .getfield 46, 3), (45, .getfield 243, 3), (48, .if_icmp .ge 90, 3), (51, .aload_n 0, 1), (52, .getfield 46, 3), (55, .iload 4, 2), (57, .invokevirtual 246, 3), (60, .astore 5, 2), (62, .aload 5, 2), (64, .getfield 197, 3), (67, .iload_n 1, 1), (68, .invokestatic 218, 3), (71, .iload_n 1, 1), (72, .isub, 1), (73, .istore 6, 2), (75, .aload 5, 2), (77, .getfield 200, 3), (80, .iload_n 2, 1), (81, .invokestatic 226, 3), (84, .iload_n 1, 1), (85, .isub, 1), (86, .istore 7, 2), (88, .iload 6, 2), (90, .ifCond .lt 42, 3), (93, .iload 6, 2), (95, .iload 7, 2), (97, .if_icmp .ge 35, 3), (100, .iload 7, 2), (102, .aload_n 0, 1), (103, .getfield 69, 3), (106, .arraylength, 1), (107, .if_icmp .ge 25, 3), (110, .aload_n 0, 1), (111, .getfield 69, 3), (114, .iload 6, 2), (116, .dup2, 1), (117, .iaload, 1), (118, .iconst 1, 1), (119, .iadd, 1), (120, .iastore, 1), (121, .aload_n 0, 1), (122, .getfield 69, 3), (125, .iload 7, 2), (127, .dup2, 1), (128, .iaload, 1), (129, .iconst 1, 1), (130, .isub, 1), (131, .iastore, 1), (132, .iinc 4 1, 3), (135, .goto (-96), 3), (138, .iinc 3 1, 3), (141, .goto (-122), 3), (144, .return_, 1)]
theorem dt_NS_countComingAndGoing : am_Dec (xC X_NS_countComingAndGoing) T_NS_countComingAndGoing := by decide +kernel
def y_NS_peak : MethodName := ⟨"NumberedSparks", "peak", "(III)I"⟩
abbrev X_NS_peak : am_X := ("NumberedSparks", prog_1_method_36_code, 8, (some FieldType.int), "peak", 6)
theorem mb_NS_peak : am_mb y_NS_peak X_NS_peak 3 := ⟨wd_931, wd_1, ⟨by decide +kernel, by decide +kernel⟩, by decide +kernel, by decide, rfl⟩
def T_NS_peak : List (Nat × Instr × Nat) := [(0, .aload_n 0, 1), (1, .iload_n 1, 1), (2, .iload_n 2, 1), (3, .invokevirtual 270, 3), (6, .ifCond .eq 25, 3), (9, .iload_n 1, 1), (10, .iload_n 2, 1), (11, .if_icmp .eq 20, 3), (14, .iload_n 2, 1), (15, .iload_n 1, 1), (16, .isub, 1), (17, .bipush 60, 2), (19, .if_icmp .gt 12, 3), (22, .iload_n 3, 1), (23, .ifCond .lt 8, 3), (26, .iload_n 3, 1), (27, .iconst 1, 1), (28, .if_icmp .le 6, 3), (31, .bipush (-2), 2), (33, .ireturn, 1), (34, .aload_n 0, 1), (35, .iload_n 1, 1), (36, .iload_n 2, 1), (37, .invokevirtual 289, 3), (40, .iconst 0, 1), (41, .istore 4, 2), (43, .iconst (-1), 1), (44, .istore 5, 2), (46, .iload_n 1, 1), (47, .istore 6, 2), (49, .iload_n 1, 1), (50, .istore 7, 2), (52, .iload 7, 2), (54, .iload_n 2, 1), (55, .if_icmp .ge 50, 3), (58, .iload 7, 2), (60, .iload_n 1, 1), (61, .isub, 1), (62, .aload_n 0, 1), (63, .getfield 69, 3), (66, .arraylength, 1), (67, .if_icmp .ge 38, 3), (70, .iload 4, 2), (72, .aload_n 0, 1), (73, .getfield 69, 3), (76, .iload 7, 2), (78, .iload_n 1, 1), (79, .isub, 1), (80, .iaload, 1), (81, .iadd, 1), (82, .istore 4, 2), (84, .iload 4, 2), (86, .iload 5, 2), (88, .if_icmp .le 11, 3), (91, .iload 4, 2), (93, .istore 5, 2), (95, .iload 7, 2), (97, .istore 6, 2), (99, .iinc 7 1, 3), (102, .goto (-50), 3), (105, .iload_n 3, 1), (106, .ifCond .ne 8, 3), (109, .iload 6, 2), (111, .goto 5, 3), (114, .iload 5, 2), (116, .ireturn, 1)]
theorem dt_NS_peak : am_Dec (xC X_NS_peak) T_NS_peak := by decide +kernel
def y_Scen_isCell : MethodName := ⟨"NumberedSparks$Scene", "isCell", "(II)Z"⟩
abbrev X_Scen_isCell : am_X := ("NumberedSparks$Scene", prog_7_method_5_code, 3, (some FieldType.boolean), "isCell", 1)
theorem mb_Scen_isCell : am_mb y_Scen_isCell X_Scen_isCell 2 := ⟨wd_944, wd_2, ⟨by decide +kernel, by decide +kernel⟩, by decide +kernel, by decide, rfl⟩
def T_Scen_isCell : List (Nat × Instr × Nat) := [(0, .iload_n 2, 1), (1, .ifCond .lt 16, 3), (4, .iload_n 2, 1), (5, .aload_n 0, 1), (6, .iload_n 1, 1), (7, .invokevirtual 50, 3), (10, .if_icmp .ge 7, 3), (13, .iconst 1, 1), (14, .goto 4, 3), (17, .iconst 0, 1), (18, .ireturn, 1)]
theorem dt_Scen_isCell : am_Dec (xC X_Scen_isCell) T_Scen_isCell := by decide +kernel
def y_Sprk_firstInColumn : MethodName := ⟨"NumberedSparks$Spark", "firstInColumn", "(IIII)I"⟩
abbrev X_Sprk_firstInColumn : am_X := ("NumberedSparks$Spark", prog_8_method_11_code, 8, (some FieldType.int), "firstInColumn", 2)
theorem mb_Sprk_firstInColumn : am_mb y_Sprk_firstInColumn X_Sprk_firstInColumn 4 := ⟨wd_949, wd_7, ⟨by decide +kernel, by decide +kernel⟩, by decide +kernel, by decide, rfl⟩
def T_Sprk_firstInColumn : List (Nat × Instr × Nat) := [(0, .iload_n 2, 1), (1, .aload_n 0, 1), (2, .getfield 51, 3), (5, .invokestatic 69, 3), (8, .istore 5, 2), (10, .iload_n 1, 1), (11, .aload_n 0, 1), (12, .getfield 41, 3), (15, .invokestatic 84, 3), (18, .istore 6, 2), (20, .iload 6, 2), (22, .iload 5, 2), (24, .if_icmp .ge 50, 3), (27, .iload 6, 2), (29, .aload_n 0, 1), (30, .getfield 41, 3), (33, .isub, 1), (34, .istore 7, 2), (36, .aload_n 0, 1), (37, .iconst 0, 1), (38, .iload 7, 2), (40, .invokevirtual 57, 3), (43, .bipush 8, 2), (45, .idiv, 1), (46, .iload_n 3, 1), (47, .if_icmp .ne 21, 3), (50, .aload_n 0, 1), (51, .iconst 1, 1), (52, .iload 7, 2), (54, .invokevirtual 57, 3), (57, .bipush 8, 2), (59, .idiv, 1), (60, .iload 4, 2), (62, .if_icmp .ne 6, 3), (65, .iload 6, 2), (67, .ireturn, 1), (68, .iinc 6 1, 3), (71, .goto (-51), 3), (74, .iload_n 2, 1), (75, .ireturn, 1)]
theorem dt_Sprk_firstInColumn : am_Dec (xC X_Sprk_firstInColumn) T_Sprk_firstInColumn := by decide +kernel
def y_NS_firstIn : MethodName := ⟨"NumberedSparks", "firstIn", "(III)I"⟩
abbrev X_NS_firstIn : am_X := ("NumberedSparks", prog_1_method_38_code, 8, (some FieldType.int), "firstIn", 5)
theorem mb_NS_firstIn : am_mb y_NS_firstIn X_NS_firstIn 3 := ⟨wd_940, wd_1, ⟨by decide +kernel, by decide +kernel⟩, by decide +kernel, by decide, rfl⟩
def T_NS_firstIn : List (Nat × Instr × Nat) := [(0, .iload_n 1, 1), (1, .invokestatic 206, 3), (4, .ifCond .eq 27, 3), (7, .aload_n 0, 1), (8, .getfield 16, 3), (11, .iconst 0, 1), (12, .iload_n 2, 1), (13, .invokevirtual 298, 3), (16, .ifCond .eq 15, 3), (19, .aload_n 0, 1), (20, .getfield 16, 3), (23, .iconst 1, 1), (24, .iload_n 3, 1), (25, .invokevirtual 298, 3), (28, .ifCond .ne 6, 3), (31, .bipush (-2), 2), (33, .ireturn, 1), (34, .iload_n 1, 1), (35, .bipush 100, 2), (37, .iadd, 1), (38, .sipush 30001, 3), (41, .invokestatic 226, 3), (44, .istore 4, 2), (46, .iload 4, 2), (48, .istore 5, 2), (50, .aload_n 0, 1), (51, .getfield 46, 3), (54, .iload_n 1, 1), (55, .iload 4, 2), (57, .invokevirtual 286, 3), (60, .iconst 0, 1), (61, .istore 6, 2), (63, .iload 6, 2), (65, .ldc_w 288, 3), (68, .if_icmp .ge 59, 3), (71, .aload_n 0, 1), (72, .getfield 46, 3), (75, .invokevirtual 240, 3), (78, .ifCond .eq 49, 3), (81, .iconst 0, 1), (82, .istore 7, 2), (84, .iload 7, 2), (86, .aload_n 0, 1), (87, .getfield 46, 3), (90, .getfield 243, 3), (93, .if_icmp .ge 28, 3), (96, .aload_n 0, 1), (97, .getfield 46, 3), (100, .iload 7, 2), (102, .invokevirtual 246, 3), (105, .iload_n 1, 1), (106, .iload 5, 2), (108, .iload_n 2, 1), (109, .iload_n 3, 1), (110, .invokevirtual 301, 3), (113, .istore 5, 2), (115, .iinc 7 1, 3), (118, .goto (-34), 3), (121, .iinc 6 1, 3), (124, .goto (-61), 3), (127, .iload 5, 2), (129, .iload 4, 2), (131, .if_icmp .ge 8, 3), (134, .iload 5, 2), (136, .goto 4, 3), (139, .iconst (-1), 1), (140, .ireturn, 1)]
theorem dt_NS_firstIn : am_Dec (xC X_NS_firstIn) T_NS_firstIn := by decide +kernel
def y_Sprk_crossings : MethodName := ⟨"NumberedSparks$Spark", "crossings", "(IIIZ)I"⟩
abbrev X_Sprk_crossings : am_X := ("NumberedSparks$Spark", prog_8_method_12_code, 11, (some FieldType.int), "crossings", 2)
theorem mb_Sprk_crossings : am_mb y_Sprk_crossings X_Sprk_crossings 4 := ⟨wd_957, wd_7, ⟨by decide +kernel, by decide +kernel⟩, by decide +kernel, by decide, rfl⟩
def T_Sprk_crossings : List (Nat × Instr × Nat) := [(0, .iload_n 2, 1), (1, .aload_n 0, 1), (2, .getfield 51, 3), (5, .invokestatic 69, 3), (8, .istore 5, 2), (10, .iload_n 1, 1), (11, .aload_n 0, 1), (12, .getfield 41, 3), (15, .iconst 1, 1), (16, .iadd, 1), (17, .invokestatic 84, 3), (20, .istore 6, 2), (22, .iload 6, 2), (24, .iload 5, 2), (26, .if_icmp .lt 5, 3), (29, .iconst 0, 1), (30, .ireturn, 1), (31, .iconst 0, 1), (32, .istore 7, 2), (34, .aload_n 0, 1), (35, .iconst 0, 1), (36, .iload 6, 2), (38, .iconst 1, 1), (39, .isub, 1), (40, .aload_n 0, 1), (41, .getfield 41, 3), (44, .isub, 1), (45, .invokevirtual 57, 3), (48, .iload_n 3, 1), (49, .if_icmp .lt 7, 3), (52, .iconst 1, 1), (53, .goto 4, 3), (56, .iconst 0, 1), (57, .istore 8, 2), (59, .iload 6, 2), (61, .istore 9, 2), (63, .iload 9, 2), (65, .iload 5, 2), (67, .if_icmp .ge 53, 3), (70, .aload_n 0, 1), (71, .iconst 0, 1), (72, .iload 9, 2), (74, .aload_n 0, 1), (75, .getfield 41, 3), (78, .isub, 1), (79, .invokevirtual 57, 3), (82, .iload_n 3, 1), (83, .if_icmp .lt 7, 3), (86, .iconst 1, 1), (87, .goto 4, 3), (90, .iconst 0, 1), (91, .istore 10, 2), (93, .iload 10, 2), (95, .iload 8, 2), (97, .if_icmp .eq 13, 3), (100, .iload 10, 2), (102, .iload 4, 2), (104, .if_icmp .ne 6, 3), (107, .iinc 7 1, 3), (110, .iload 10, 2), (112, .istore 8, 2), (114, .iinc 9 1, 3), (117, .goto (-54), 3), (120, .iload 7, 2), (122, .ireturn, 1)]
theorem dt_Sprk_crossings : am_Dec (xC X_Sprk_crossings) T_Sprk_crossings := by decide +kernel
def y_NS_flux : MethodName := ⟨"NumberedSparks", "flux", "(IIII)I"⟩
abbrev X_NS_flux : am_X := ("NumberedSparks", prog_1_method_39_code, 8, (some FieldType.int), "flux", 5)
theorem mb_NS_flux : am_mb y_NS_flux X_NS_flux 4 := ⟨wd_953, wd_1, ⟨by decide +kernel, by decide +kernel⟩, by decide +kernel, by decide, rfl⟩
def T_NS_flux : List (Nat × Instr × Nat) := [(0, .aload_n 0, 1), (1, .iload_n 1, 1), (2, .iload_n 2, 1), (3, .invokevirtual 270, 3), (6, .ifCond .eq 39, 3), (9, .iload_n 2, 1), (10, .iload_n 1, 1), (11, .isub, 1), (12, .bipush 60, 2), (14, .if_icmp .gt 31, 3), (17, .iload_n 3, 1), (18, .iconst 1, 1), (19, .if_icmp .lt 26, 3), (22, .iload_n 3, 1), (23, .aload_n 0, 1), (24, .getfield 16, 3), (27, .iconst 0, 1), (28, .invokevirtual 100, 3), (31, .if_icmp .ge 14, 3), (34, .iload 4, 2), (36, .ifCond .lt 9, 3), (39, .iload 4, 2), (41, .iconst 1, 1), (42, .if_icmp .le 6, 3), (45, .bipush (-2), 2), (47, .ireturn, 1), (48, .iconst 0, 1), (49, .istore 5, 2), (51, .aload_n 0, 1), (52, .getfield 46, 3), (55, .iload_n 1, 1), (56, .iload_n 2, 1), (57, .invokevirtual 286, 3), (60, .iconst 0, 1), (61, .istore 6, 2), (63, .iload 6, 2), (65, .ldc_w 288, 3), (68, .if_icmp .ge 74, 3), (71, .aload_n 0, 1), (72, .getfield 46, 3), (75, .invokevirtual 240, 3), (78, .ifCond .eq 64, 3), (81, .iconst 0, 1), (82, .istore 7, 2), (84, .iload 7, 2), (86, .aload_n 0, 1), (87, .getfield 46, 3), (90, .getfield 243, 3), (93, .if_icmp .ge 43, 3), (96, .iload 5, 2), (98, .aload_n 0, 1), (99, .getfield 46, 3), (102, .iload 7, 2), (104, .invokevirtual 246, 3), (107, .iload_n 1, 1), (108, .iload_n 2, 1), (109, .iload_n 3, 1), (110, .bipush 8, 2), (112, .imul, 1), (113, .iload 4, 2), (115, .iconst 1, 1), (116, .if_icmp .ne 7, 3), (119, .iconst 1, 1), (120, .goto 4, 3), (123, .iconst 0, 1), (124, .invokevirtual 305, 3), (127, .iadd, 1), (128, .istore 5, 2), (130, .iinc 7 1, 3), (133, .goto (-49), 3), (136, .iinc 6 1, 3), (139, .goto (-76), 3), (142, .iload 5, 2), (144, .ireturn, 1)]
theorem dt_NS_flux : am_Dec (xC X_NS_flux) T_NS_flux := by decide +kernel
def y_Arr_copyOf : MethodName := ⟨"java/util/Arrays", "copyOf", "([II)[I"⟩
abbrev X_Arr_copyOf : am_X := ("java/util/Arrays", prog_18_method_123_code, 3, (some (FieldType.array FieldType.int)), "copyOf", 1)
theorem mb_Arr_copyOf : am_mb y_Arr_copyOf X_Arr_copyOf 2 := ⟨wd_981, wd_12, ⟨by decide +kernel, by decide +kernel⟩, by decide +kernel, by decide, rfl⟩
def T_Arr_copyOf : List (Nat × Instr × Nat) := [(0, .iload_n 1, 1), (1, .aload_n 0, 1), (2, .arraylength, 1), (3, .if_icmp .ne 11, 3), (6, .aload_n 0, 1), (7, .invokevirtual 316, 3), (10, .checkcast 317, 3), (13, .areturn, 1), (14, .iload_n 1, 1), (15, .newarray .int, 2), (17, .astore_n 2, 1), (18, .aload_n 0, 1), (19, .iconst 0, 1), (20, .aload_n 2, 1), (21, .iconst 0, 1), (22, .aload_n 0, 1), (23, .arraylength, 1), (24, .iload_n 1, 1), (25, .invokestatic 304, 3), (28, .invokestatic 150, 3), (31, .aload_n 2, 1), (32, .areturn, 1)]
theorem dt_Arr_copyOf : am_Dec (xC X_Arr_copyOf) T_Arr_copyOf := by decide +kernel
def y_Fram_grow : MethodName := ⟨"NumberedSparks$Frame", "grow", "()V"⟩
abbrev X_Fram_grow : am_X := ("NumberedSparks$Frame", prog_3_method_5_code, 2, none, "grow", 2)
theorem mb_Fram_grow : am_mb y_Fram_grow X_Fram_grow 0 := ⟨wd_978, wd_8, ⟨by decide +kernel, by decide +kernel⟩, by decide +kernel, by decide, rfl⟩
def T_Fram_grow : List (Nat × Instr × Nat) := [(0, .iconst 2, 1), (1, .aload_n 0, 1), (2, .getfield 9, 3), (5, .arraylength, 1), (6, .imul, 1), (7, .istore_n 1, 1), (8, .aload_n 0, 1), (9, .aload_n 0, 1), (10, .getfield 9, 3), (13, .iload_n 1, 1), (14, .invokestatic 109, 3), (17, .putfield 9, 3), (20, .aload_n 0, 1), (21, .aload_n 0, 1), (22, .getfield 15, 3), (25, .iload_n 1, 1), (26, .invokestatic 109, 3), (29, .putfield 15, 3), (32, .aload_n 0, 1), (33, .aload_n 0, 1), (34, .getfield 18, 3), (37, .iload_n 1, 1), (38, .invokestatic 109, 3), (41, .putfield 18, 3), (44, .aload_n 0, 1), (45, .aload_n 0, 1), (46, .getfield 21, 3), (49, .iload_n 1, 1), (50, .invokestatic 109, 3), (53, .putfield 21, 3), (56, .aload_n 0, 1), (57, .aload_n 0, 1), (58, .getfield 24, 3), (61, .iload_n 1, 1), (62, .invokestatic 109, 3), (65, .putfield 24, 3), (68, .aload_n 0, 1), (69, .aload_n 0, 1), (70, .getfield 27, 3), (73, .iload_n 1, 1), (74, .invokestatic 109, 3), (77, .putfield 27, 3), (80, .aload_n 0, 1), (81, .aload_n 0, 1), (82, .getfield 30, 3), (85, .iload_n 1, 1), (86, .invokestatic 109, 3), (89, .putfield 30, 3), (92, .aload_n 0, 1), (93, .iload_n 1, 1), (94, .newarray .int, 2), (96, .putfield 33, 3), (99, .return_, 1)]
theorem dt_Fram_grow : am_Dec (xC X_Fram_grow) T_Fram_grow := by decide +kernel
def y_Fram_append : MethodName := ⟨"NumberedSparks$Frame", "append", "(LNumberedSparks$Spark;I)V"⟩
abbrev X_Fram_append : am_X := ("NumberedSparks$Frame", prog_3_method_4_code, 4, none, "append", 3)
theorem mb_Fram_append : am_mb y_Fram_append X_Fram_append 2 := ⟨wd_974, wd_8, ⟨by decide +kernel, by decide +kernel⟩, by decide +kernel, by decide, rfl⟩
def T_Fram_append : List (Nat × Instr × Nat) := [(0, .aload_n 0, 1), (1, .getfield 61, 3), (4, .aload_n 0, 1), (5, .getfield 9, 3), (8, .arraylength, 1), (9, .if_icmp .lt 7, 3), (12, .aload_n 0, 1), (13, .invokevirtual 89, 3), (16, .iload_n 2, 1), (17, .aload_n 1, 1), (18, .getfield 92, 3), (21, .isub, 1), (22, .istore_n 3, 1), (23, .aload_n 0, 1), (24, .getfield 9, 3), (27, .aload_n 0, 1), (28, .getfield 61, 3), (31, .aload_n 1, 1), (32, .getfield 97, 3), (35, .iastore, 1), (36, .aload_n 0, 1), (37, .getfield 15, 3), (40, .aload_n 0, 1), (41, .getfield 61, 3), (44, .aload_n 1, 1), (45, .getfield 100, 3), (48, .iastore, 1), (49, .aload_n 0, 1), (50, .getfield 18, 3), (53, .aload_n 0, 1), (54, .getfield 61, 3), (57, .aload_n 1, 1), (58, .getfield 92, 3), (61, .iastore, 1), (62, .aload_n 0, 1), (63, .getfield 21, 3), (66, .aload_n 0, 1), (67, .getfield 61, 3), (70, .aload_n 1, 1), (71, .getfield 103, 3), (74, .iastore, 1), (75, .aload_n 0, 1), (76, .getfield 24, 3), (79, .aload_n 0, 1), (80, .getfield 61, 3), (83, .aload_n 1, 1), (84, .iconst 0, 1), (85, .iload_n 3, 1), (86, .invokevirtual 105, 3), (89, .iastore, 1), (90, .aload_n 0, 1), (91, .getfield 27, 3), (94, .aload_n 0, 1), (95, .getfield 61, 3), (98, .aload_n 1, 1), (99, .iconst 1, 1), (100, .iload_n 3, 1), (101, .invokevirtual 105, 3), (104, .iastore, 1), (105, .aload_n 0, 1), (106, .getfield 30, 3), (109, .aload_n 0, 1), (110, .getfield 61, 3), (113, .aload_n 1, 1), (114, .iconst 2, 1), (115, .iload_n 3, 1), (116, .invokevirtual 105, 3), (119, .iastore, 1), (120, .aload_n 0, 1), (121, .dup, 1), (122, .getfield 61, 3), (125, .iconst 1, 1), (126, .iadd, 1), (127, .putfield 61, 3), (130, .return_, 1)]
theorem dt_Fram_append : am_Dec (xC X_Fram_append) T_Fram_append := by decide +kernel
def y_Fram_depthOf : MethodName := ⟨"NumberedSparks$Frame", "depthOf", "(I)I"⟩
abbrev X_Fram_depthOf : am_X := ("NumberedSparks$Frame", prog_3_method_7_code, 2, (some FieldType.int), "depthOf", 1)
theorem mb_Fram_depthOf : am_mb y_Fram_depthOf X_Fram_depthOf 1 := ⟨wd_1000, wd_8, ⟨by decide +kernel, by decide +kernel⟩, by decide +kernel, by decide, rfl⟩
def T_Fram_depthOf : List (Nat × Instr × Nat) := [(0, .iconst 0, 1), (1, .aload_n 0, 1), (2, .getfield 36, 3), (5, .arraylength, 1), (6, .iconst 1, 1), (7, .isub, 1), (8, .aload_n 0, 1), (9, .getfield 30, 3), (12, .iload_n 1, 1), (13, .iaload, 1), (14, .invokestatic 123, 3), (17, .invokestatic 128, 3), (20, .ireturn, 1)]
theorem dt_Fram_depthOf : am_Dec (xC X_Fram_depthOf) T_Fram_depthOf := by decide +kernel
def y_Fram_putInOrder : MethodName := ⟨"NumberedSparks$Frame", "putInOrder", "()V"⟩
abbrev X_Fram_putInOrder : am_X := ("NumberedSparks$Frame", prog_3_method_6_code, 5, none, "putInOrder", 2)
theorem mb_Fram_putInOrder : am_mb y_Fram_putInOrder X_Fram_putInOrder 0 := ⟨wd_995, wd_8, ⟨by decide +kernel, by decide +kernel⟩, by decide +kernel, by decide, rfl⟩
def T_Fram_putInOrder : List (Nat × Instr × Nat) := [(0, .aload_n 0, 1), (1, .getfield 36, 3), (4, .iconst 0, 1), (5, .invokestatic 115, 3), (8, .iconst 0, 1), (9, .istore_n 1, 1), (10, .iload_n 1, 1), (11, .aload_n 0, 1), (12, .getfield 61, 3), (15, .if_icmp .ge 23, 3), (18, .aload_n 0, 1), (19, .getfield 36, 3), (22, .aload_n 0, 1), (23, .iload_n 1, 1), (24, .invokevirtual 119, 3), (27, .dup2, 1), (28, .iaload, 1), (29, .iconst 1, 1), (30, .iadd, 1), (31, .iastore, 1), (32, .iinc 1 1, 3), (35, .goto (-25), 3), (38, .iconst 0, 1), (39, .istore_n 1, 1), (40, .aload_n 0, 1), (41, .getfield 36, 3), (44, .arraylength, 1), (45, .iconst 1, 1), (46, .isub, 1), (47, .istore_n 2, 1), (48, .iload_n 2, 1), (49, .ifCond .lt 27, 3), (52, .aload_n 0, 1), (53, .getfield 36, 3), (56, .iload_n 2, 1), (57, .iaload, 1), (58, .istore_n 3, 1), (59, .aload_n 0, 1), (60, .getfield 36, 3), (63, .iload_n 2, 1), (64, .iload_n 1, 1), (65, .iastore, 1), (66, .iload_n 1, 1), (67, .iload_n 3, 1), (68, .iadd, 1), (69, .istore_n 1, 1), (70, .iinc 2 (-1), 3), (73, .goto (-25), 3), (76, .iconst 0, 1), (77, .istore_n 2, 1), (78, .iload_n 2, 1), (79, .aload_n 0, 1), (80, .getfield 61, 3), (83, .if_icmp .ge 56, 3), (86, .aload_n 0, 1), (87, .iload_n 2, 1), (88, .invokevirtual 119, 3), (91, .istore_n 3, 1), (92, .aload_n 0, 1), (93, .getfield 36, 3), (96, .iload_n 3, 1), (97, .iaload, 1), (98, .istore 4, 2), (100, .iload 4, 2), (102, .ifCond .lt 21, 3), (105, .iload 4, 2), (107, .aload_n 0, 1), (108, .getfield 33, 3), (111, .arraylength, 1), (112, .if_icmp .ge 11, 3), (115, .aload_n 0, 1), (116, .getfield 33, 3), (119, .iload 4, 2), (121, .iload_n 2, 1), (122, .iastore, 1), (123, .aload_n 0, 1), (124, .getfield 36, 3), (127, .iload_n 3, 1), (128, .dup2, 1), (129, .iaload, 1), (130, .iconst 1, 1), (131, .iadd, 1), (132, .iastore, 1), (133, .iinc 2 1, 3), (136, .goto (-58), 3), (139, .return_, 1)]
theorem dt_Fram_putInOrder : am_Dec (xC X_Fram_putInOrder) T_Fram_putInOrder := by decide +kernel
def y_Fram_shows : MethodName := ⟨"NumberedSparks$Frame", "shows", "(I)Z"⟩
abbrev X_Fram_shows : am_X := ("NumberedSparks$Frame", prog_3_method_3_code, 4, (some FieldType.boolean), "shows", 5)
theorem mb_Fram_shows : am_mb y_Fram_shows X_Fram_shows 1 := ⟨wd_965, wd_8, ⟨by decide +kernel, by decide +kernel⟩, by decide +kernel, by decide, rfl⟩
def T_Fram_shows : List (Nat × Instr × Nat) := [(0, .aload_n 0, 1), (1, .getfield 43, 3), (4, .getfield 51, 3), (7, .ifCond .eq 10, 3), (10, .iload_n 1, 1), (11, .invokestatic 57, 3), (14, .ifCond .ne 5, 3), (17, .iconst 0, 1), (18, .ireturn, 1), (19, .iload_n 1, 1), (20, .aload_n 0, 1), (21, .getfield 39, 3), (24, .if_icmp .ne 5, 3), (27, .iconst 1, 1), (28, .ireturn, 1), (29, .aload_n 0, 1), (30, .iconst 0, 1), (31, .putfield 61, 3), (34, .aload_n 0, 1), (35, .getfield 47, 3), (38, .iload_n 1, 1), (39, .iload_n 1, 1), (40, .iconst 1, 1), (41, .iadd, 1), (42, .invokevirtual 64, 3), (45, .iconst 0, 1), (46, .istore_n 2, 1), (47, .iload_n 2, 1), (48, .ldc 70, 2), (50, .if_icmp .ge 51, 3), (53, .aload_n 0, 1), (54, .getfield 47, 3), (57, .invokevirtual 71, 3), (60, .ifCond .eq 41, 3), (63, .iconst 0, 1), (64, .istore_n 3, 1), (65, .iload_n 3, 1), (66, .aload_n 0, 1), (67, .getfield 47, 3), (70, .getfield 75, 3), (73, .if_icmp .ge 22, 3), (76, .aload_n 0, 1), (77, .aload_n 0, 1), (78, .getfield 47, 3), (81, .iload_n 3, 1), (82, .invokevirtual 78, 3), (85, .iload_n 1, 1), (86, .invokevirtual 82, 3), (89, .iinc 3 1, 3), (92, .goto (-27), 3), (95, .iinc 2 1, 3), (98, .goto (-51), 3), (101, .aload_n 0, 1), (102, .invokevirtual 86, 3), (105, .aload_n 0, 1), (106, .iload_n 1, 1), (107, .putfield 39, 3), (110, .iconst 1, 1), (111, .ireturn, 1)]
theorem dt_Fram_shows : am_Dec (xC X_Fram_shows) T_Fram_shows := by decide +kernel
def y_NS_many : MethodName := ⟨"NumberedSparks", "many", "(II)I"⟩
abbrev X_NS_many : am_X := ("NumberedSparks", prog_1_method_40_code, 5, (some FieldType.int), "many", 6)
theorem mb_NS_many : am_mb y_NS_many X_NS_many 2 := ⟨wd_961, wd_1, ⟨by decide +kernel, by decide +kernel⟩, by decide +kernel, by decide, rfl⟩
def T_NS_many : List (Nat × Instr × Nat) := [(0, .iload_n 2, 1), (1, .iconst (-1), 1), (2, .if_icmp .eq 14, 3), (5, .aload_n 0, 1), (6, .getfield 16, 3), (9, .iload_n 2, 1), (10, .invokevirtual 116, 3), (13, .ifCond .eq 14, 3), (16, .aload_n 0, 1), (17, .getfield 55, 3), (20, .iload_n 1, 1), (21, .invokevirtual 309, 3), (24, .ifCond .ne 6, 3), (27, .bipush (-2), 2), (29, .ireturn, 1), (30, .iload_n 2, 1), (31, .iconst (-1), 1), (32, .if_icmp .ne 11, 3), (35, .aload_n 0, 1), (36, .getfield 55, 3), (39, .getfield 312, 3), (42, .ireturn, 1), (43, .iconst 0, 1), (44, .istore_n 3, 1), (45, .iconst 0, 1), (46, .istore 4, 2), (48, .iload 4, 2), (50, .aload_n 0, 1), (51, .getfield 55, 3), (54, .getfield 312, 3), (57, .if_icmp .ge 26, 3), (60, .aload_n 0, 1), (61, .getfield 55, 3), (64, .getfield 313, 3), (67, .iload 4, 2), (69, .iaload, 1), (70, .iload_n 2, 1), (71, .if_icmp .ne 6, 3), (74, .iinc 3 1, 3), (77, .iinc 4 1, 3), (80, .goto (-32), 3), (83, .iload_n 3, 1), (84, .ireturn, 1)]
theorem dt_NS_many : am_Dec (xC X_NS_many) T_NS_many := by decide +kernel
def y_NS_drawn : MethodName := ⟨"NumberedSparks", "drawn", "(II)I"⟩
abbrev X_NS_drawn : am_X := ("NumberedSparks", prog_1_method_41_code, 3, (some FieldType.int), "drawn", 6)
theorem mb_NS_drawn : am_mb y_NS_drawn X_NS_drawn 2 := ⟨wd_1006, wd_1, ⟨by decide +kernel, by decide +kernel⟩, by decide +kernel, by decide, rfl⟩
def T_NS_drawn : List (Nat × Instr × Nat) := [(0, .iload_n 2, 1), (1, .ifCond .lt 14, 3), (4, .aload_n 0, 1), (5, .getfield 55, 3), (8, .iload_n 1, 1), (9, .invokevirtual 309, 3), (12, .ifCond .ne 6, 3), (15, .bipush (-2), 2), (17, .ireturn, 1), (18, .iload_n 2, 1), (19, .aload_n 0, 1), (20, .getfield 55, 3), (23, .getfield 312, 3), (26, .if_icmp .ge 23, 3), (29, .aload_n 0, 1), (30, .getfield 55, 3), (33, .getfield 316, 3), (36, .aload_n 0, 1), (37, .getfield 55, 3), (40, .getfield 319, 3), (43, .iload_n 2, 1), (44, .iaload, 1), (45, .iaload, 1), (46, .goto 4, 3), (49, .iconst (-1), 1), (50, .ireturn, 1)]
theorem dt_NS_drawn : am_Dec (xC X_NS_drawn) T_NS_drawn := by decide +kernel
def y_NS_digest : MethodName := ⟨"NumberedSparks", "digest", "(I)J"⟩
abbrev X_NS_digest : am_X := ("NumberedSparks", prog_1_method_42_code, 6, (some FieldType.long), "digest", 6)
theorem mb_NS_digest : am_mb y_NS_digest X_NS_digest 1 := ⟨wd_1010, wd_1, ⟨by decide +kernel, by decide +kernel⟩, by decide +kernel, by decide, rfl⟩
def T_NS_digest : List (Nat × Instr × Nat) := [(0, .aload_n 0, 1), (1, .getfield 55, 3), (4, .iload_n 1, 1), (5, .invokevirtual 309, 3), (8, .ifCond .ne 5, 3), (11, .lconst 0, 1), (12, .lreturn, 1), (13, .ldc2_w 322, 3), (16, .lstore_n 2, 1), (17, .iconst 0, 1), (18, .istore 4, 2), (20, .iload 4, 2), (22, .aload_n 0, 1), (23, .getfield 55, 3), (26, .getfield 312, 3), (29, .if_icmp .ge 93, 3), (32, .aload_n 0, 1), (33, .getfield 55, 3), (36, .getfield 319, 3), (39, .iload 4, 2), (41, .iaload, 1), (42, .istore 5, 2), (44, .ldc2_w 324, 3), (47, .lload_n 2, 1), (48, .lmul, 1), (49, .aload_n 0, 1), (50, .getfield 55, 3), (53, .getfield 316, 3), (56, .iload 5, 2), (58, .iaload, 1), (59, .i2l, 1), (60, .ladd, 1), (61, .lstore_n 2, 1), (62, .ldc2_w 324, 3), (65, .lload_n 2, 1), (66, .lmul, 1), (67, .aload_n 0, 1), (68, .getfield 55, 3), (71, .getfield 326, 3), (74, .iload 5, 2), (76, .iaload, 1), (77, .i2l, 1), (78, .ladd, 1), (79, .lstore_n 2, 1), (80, .ldc2_w 324, 3), (83, .lload_n 2, 1), (84, .lmul, 1), (85, .aload_n 0, 1), (86, .getfield 55, 3), (89, .getfield 329, 3), (92, .iload 5, 2), (94, .iaload, 1), (95, .i2l, 1), (96, .ladd, 1), (97, .lstore_n 2, 1), (98, .ldc2_w 324, 3), (101, .lload_n 2, 1), (102, .lmul, 1), (103, .aload_n 0, 1), (104, .getfield 55, 3), (107, .getfield 332, 3), (110, .iload 5, 2), (112, .iaload, 1), (113, .i2l, 1), (114, .ladd, 1), (115, .lstore_n 2, 1), (116, .iinc 4 1, 3), (119, .goto (-99), 3), (122, .lload_n 2, 1), (123, .lreturn, 1)]
theorem dt_NS_digest : am_Dec (xC X_NS_digest) T_NS_digest := by decide +kernel
def y_Fram_placeOf : MethodName := ⟨"NumberedSparks$Frame", "placeOf", "(II)I"⟩
abbrev X_Fram_placeOf : am_X := ("NumberedSparks$Frame", prog_3_method_8_code, 3, (some FieldType.int), "placeOf", 0)
theorem mb_Fram_placeOf : am_mb y_Fram_placeOf X_Fram_placeOf 2 := ⟨wd_1024, wd_8, ⟨by decide +kernel, by decide +kernel⟩, by decide +kernel, by decide, rfl⟩
def T_Fram_placeOf : List (Nat × Instr × Nat) := [(0, .iload_n 1, 1), (1, .ifCond .lt 11, 3), (4, .iload_n 1, 1), (5, .aload_n 0, 1), (6, .getfield 61, 3), (9, .if_icmp .lt 5, 3), (12, .iconst 0, 1), (13, .ireturn, 1), (14, .iload_n 2, 1), (15, .ifCond .ne 12, 3), (18, .aload_n 0, 1), (19, .getfield 24, 3), (22, .iload_n 1, 1), (23, .iaload, 1), (24, .goto 23, 3), (27, .iload_n 2, 1), (28, .iconst 1, 1), (29, .if_icmp .ne 12, 3), (32, .aload_n 0, 1), (33, .getfield 27, 3), (36, .iload_n 1, 1), (37, .iaload, 1), (38, .goto 9, 3), (41, .aload_n 0, 1), (42, .getfield 30, 3), (45, .iload_n 1, 1), (46, .iaload, 1), (47, .ireturn, 1)]
theorem dt_Fram_placeOf : am_Dec (xC X_Fram_placeOf) T_Fram_placeOf := by decide +kernel
def y_Fram_isInColumn : MethodName := ⟨"NumberedSparks$Frame", "isInColumn", "(III)Z"⟩
abbrev X_Fram_isInColumn : am_X := ("NumberedSparks$Frame", prog_3_method_9_code, 4, (some FieldType.boolean), "isInColumn", 1)
theorem mb_Fram_isInColumn : am_mb y_Fram_isInColumn X_Fram_isInColumn 3 := ⟨wd_1020, wd_8, ⟨by decide +kernel, by decide +kernel⟩, by decide +kernel, by decide, rfl⟩
def T_Fram_isInColumn : List (Nat × Instr × Nat) := [(0, .aload_n 0, 1), (1, .iload_n 1, 1), (2, .iconst 0, 1), (3, .invokevirtual 131, 3), (6, .bipush 8, 2), (8, .idiv, 1), (9, .iload_n 2, 1), (10, .if_icmp .ne 20, 3), (13, .aload_n 0, 1), (14, .iload_n 1, 1), (15, .iconst 1, 1), (16, .invokevirtual 131, 3), (19, .bipush 8, 2), (21, .idiv, 1), (22, .iload_n 3, 1), (23, .if_icmp .ne 7, 3), (26, .iconst 1, 1), (27, .goto 4, 3), (30, .iconst 0, 1), (31, .ireturn, 1)]
theorem dt_Fram_isInColumn : am_Dec (xC X_Fram_isInColumn) T_Fram_isInColumn := by decide +kernel
def y_NS_inColumn : MethodName := ⟨"NumberedSparks", "inColumn", "(III)I"⟩
abbrev X_NS_inColumn : am_X := ("NumberedSparks", prog_1_method_43_code, 6, (some FieldType.int), "inColumn", 6)
theorem mb_NS_inColumn : am_mb y_NS_inColumn X_NS_inColumn 3 := ⟨wd_1016, wd_1, ⟨by decide +kernel, by decide +kernel⟩, by decide +kernel, by decide, rfl⟩
def T_NS_inColumn : List (Nat × Instr × Nat) := [(0, .aload_n 0, 1), (1, .getfield 16, 3), (4, .iconst 0, 1), (5, .iload_n 2, 1), (6, .invokevirtual 298, 3), (9, .ifCond .eq 26, 3), (12, .aload_n 0, 1), (13, .getfield 16, 3), (16, .iconst 1, 1), (17, .iload_n 3, 1), (18, .invokevirtual 298, 3), (21, .ifCond .eq 14, 3), (24, .aload_n 0, 1), (25, .getfield 55, 3), (28, .iload_n 1, 1), (29, .invokevirtual 309, 3), (32, .ifCond .ne 6, 3), (35, .bipush (-2), 2), (37, .ireturn, 1), (38, .iconst 0, 1), (39, .istore 4, 2), (41, .iconst 0, 1), (42, .istore 5, 2), (44, .iload 5, 2), (46, .aload_n 0, 1), (47, .getfield 55, 3), (50, .getfield 312, 3), (53, .if_icmp .ge 26, 3), (56, .aload_n 0, 1), (57, .getfield 55, 3), (60, .iload 5, 2), (62, .iload_n 2, 1), (63, .iload_n 3, 1), (64, .invokevirtual 335, 3), (67, .ifCond .eq 6, 3), (70, .iinc 4 1, 3), (73, .iinc 5 1, 3), (76, .goto (-32), 3), (79, .iload 4, 2), (81, .ireturn, 1)]
theorem dt_NS_inColumn : am_Dec (xC X_NS_inColumn) T_NS_inColumn := by decide +kernel
def y_Fram_fromTop : MethodName := ⟨"NumberedSparks$Frame", "fromTop", "(III)I"⟩
abbrev X_Fram_fromTop : am_X := ("NumberedSparks$Frame", prog_3_method_12_code, 6, (some FieldType.int), "fromTop", 2)
theorem mb_Fram_fromTop : am_mb y_Fram_fromTop X_Fram_fromTop 3 := ⟨wd_1032, wd_8, ⟨by decide +kernel, by decide +kernel⟩, by decide +kernel, by decide, rfl⟩
def T_Fram_fromTop : List (Nat × Instr × Nat) := [(0, .iload_n 3, 1), (1, .istore 4, 2), (3, .aload_n 0, 1), (4, .getfield 61, 3), (7, .iconst 1, 1), (8, .isub, 1), (9, .istore 5, 2), (11, .iload 5, 2), (13, .ifCond .lt 46, 3), (16, .aload_n 0, 1), (17, .aload_n 0, 1), (18, .getfield 33, 3), (21, .iload 5, 2), (23, .iaload, 1), (24, .iload_n 1, 1), (25, .iload_n 2, 1), (26, .invokevirtual 134, 3), (29, .ifCond .eq 24, 3), (32, .iload 4, 2), (34, .ifCond .ne 16, 3), (37, .aload_n 0, 1), (38, .getfield 9, 3), (41, .aload_n 0, 1), (42, .getfield 33, 3), (45, .iload 5, 2), (47, .iaload, 1), (48, .iaload, 1), (49, .ireturn, 1), (50, .iinc 4 (-1), 3), (53, .iinc 5 (-1), 3), (56, .goto (-45), 3), (59, .iconst (-1), 1), (60, .ireturn, 1)]
theorem dt_Fram_fromTop : am_Dec (xC X_Fram_fromTop) T_Fram_fromTop := by decide +kernel
def y_NS_top : MethodName := ⟨"NumberedSparks", "top", "(III)I"⟩
abbrev X_NS_top : am_X := ("NumberedSparks", prog_1_method_44_code, 4, (some FieldType.int), "top", 6)
theorem mb_NS_top : am_mb y_NS_top X_NS_top 3 := ⟨wd_1028, wd_1, ⟨by decide +kernel, by decide +kernel⟩, by decide +kernel, by decide, rfl⟩
def T_NS_top : List (Nat × Instr × Nat) := [(0, .aload_n 0, 1), (1, .getfield 16, 3), (4, .iconst 0, 1), (5, .iload_n 2, 1), (6, .invokevirtual 298, 3), (9, .ifCond .eq 26, 3), (12, .aload_n 0, 1), (13, .getfield 16, 3), (16, .iconst 1, 1), (17, .iload_n 3, 1), (18, .invokevirtual 298, 3), (21, .ifCond .eq 14, 3), (24, .aload_n 0, 1), (25, .getfield 55, 3), (28, .iload_n 1, 1), (29, .invokevirtual 309, 3), (32, .ifCond .ne 6, 3), (35, .bipush (-2), 2), (37, .ireturn, 1), (38, .aload_n 0, 1), (39, .getfield 55, 3), (42, .iload_n 2, 1), (43, .iload_n 3, 1), (44, .iconst 0, 1), (45, .invokevirtual 339, 3), (48, .ireturn, 1)]
theorem dt_NS_top : am_Dec (xC X_NS_top) T_NS_top := by decide +kernel
def y_NS_below : MethodName := ⟨"NumberedSparks", "below", "(IIII)I"⟩
abbrev X_NS_below : am_X := ("NumberedSparks", prog_1_method_45_code, 5, (some FieldType.int), "below", 6)
theorem mb_NS_below : am_mb y_NS_below X_NS_below 4 := ⟨wd_1037, wd_1, ⟨by decide +kernel, by decide +kernel⟩, by decide +kernel, by decide, rfl⟩
def T_NS_below : List (Nat × Instr × Nat) := [(0, .iload 4, 2), (2, .ifCond .lt 38, 3), (5, .aload_n 0, 1), (6, .getfield 16, 3), (9, .iconst 0, 1), (10, .iload_n 2, 1), (11, .invokevirtual 298, 3), (14, .ifCond .eq 26, 3), (17, .aload_n 0, 1), (18, .getfield 16, 3), (21, .iconst 1, 1), (22, .iload_n 3, 1), (23, .invokevirtual 298, 3), (26, .ifCond .eq 14, 3), (29, .aload_n 0, 1), (30, .getfield 55, 3), (33, .iload_n 1, 1), (34, .invokevirtual 309, 3), (37, .ifCond .ne 6, 3), (40, .bipush (-2), 2), (42, .ireturn, 1), (43, .aload_n 0, 1), (44, .getfield 55, 3), (47, .iload_n 2, 1), (48, .iload_n 3, 1), (49, .iload 4, 2), (51, .invokevirtual 339, 3), (54, .ireturn, 1)]
theorem dt_NS_below : am_Dec (xC X_NS_below) T_NS_below := by decide +kernel
def y_Fram_columnOf : MethodName := ⟨"NumberedSparks$Frame", "columnOf", "(I)I"⟩
abbrev X_Fram_columnOf : am_X := ("NumberedSparks$Frame", prog_3_method_10_code, 2, (some FieldType.int), "columnOf", 1)
theorem mb_Fram_columnOf : am_mb y_Fram_columnOf X_Fram_columnOf 1 := ⟨wd_1049, wd_8, ⟨by decide +kernel, by decide +kernel⟩, by decide +kernel, by decide, rfl⟩
def T_Fram_columnOf : List (Nat × Instr × Nat) := [(0, .aload_n 0, 1), (1, .iload_n 1, 1), (2, .iconst 1, 1), (3, .invokevirtual 131, 3), (6, .bipush 8, 2), (8, .idiv, 1), (9, .bipush 40, 2), (11, .imul, 1), (12, .aload_n 0, 1), (13, .iload_n 1, 1), (14, .iconst 0, 1), (15, .invokevirtual 131, 3), (18, .bipush 8, 2), (20, .idiv, 1), (21, .iadd, 1), (22, .ireturn, 1)]
theorem dt_Fram_columnOf : am_Dec (xC X_Fram_columnOf) T_Fram_columnOf := by decide +kernel
def y_Fram_countColumns : MethodName := ⟨"NumberedSparks$Frame", "countColumns", "([I)V"⟩
abbrev X_Fram_countColumns : am_X := ("NumberedSparks$Frame", prog_3_method_13_code, 4, none, "countColumns", 2)
theorem mb_Fram_countColumns : am_mb y_Fram_countColumns X_Fram_countColumns 1 := ⟨wd_1045, wd_8, ⟨by decide +kernel, by decide +kernel⟩, by decide +kernel, by decide, rfl⟩
def T_Fram_countColumns : List (Nat × Instr × Nat) := [(0, .aload_n 1, 1), (1, .iconst 0, 1), (2, .invokestatic 115, 3), (5, .iconst 0, 1), (6, .istore_n 2, 1), (7, .iload_n 2, 1), (8, .aload_n 0, 1), (9, .getfield 61, 3), (12, .if_icmp .ge 32, 3), (15, .aload_n 0, 1), (16, .iload_n 2, 1), (17, .invokevirtual 138, 3), (20, .istore_n 3, 1), (21, .iload_n 3, 1), (22, .ifCond .lt 16, 3), (25, .iload_n 3, 1), (26, .aload_n 1, 1), (27, .arraylength, 1), (28, .if_icmp .ge 10, 3), (31, .aload_n 1, 1), (32, .iload_n 3, 1), (33, .dup2, 1), (34, .iaload, 1), (35, .iconst 1, 1), (36, .iadd, 1), (37, .iastore, 1), (38, .iinc 2 1, 3), (41, .goto (-34), 3), (44, .return_, 1)]
theorem dt_Fram_countColumns : am_Dec (xC X_Fram_countColumns) T_Fram_countColumns := by decide +kernel
def y_NS_fullest : MethodName := ⟨"NumberedSparks", "fullest", "(II)I"⟩
abbrev X_NS_fullest : am_X := ("NumberedSparks", prog_1_method_46_code, 5, (some FieldType.int), "fullest", 6)
theorem mb_NS_fullest : am_mb y_NS_fullest X_NS_fullest 2 := ⟨wd_1041, wd_1, ⟨by decide +kernel, by decide +kernel⟩, by decide +kernel, by decide, rfl⟩
def T_NS_fullest : List (Nat × Instr × Nat) := [(0, .iload_n 2, 1), (1, .ifCond .lt 19, 3), (4, .iload_n 2, 1), (5, .iconst 2, 1), (6, .if_icmp .gt 14, 3), (9, .aload_n 0, 1), (10, .getfield 55, 3), (13, .iload_n 1, 1), (14, .invokevirtual 309, 3), (17, .ifCond .ne 6, 3), (20, .bipush (-2), 2), (22, .ireturn, 1), (23, .aload_n 0, 1), (24, .getfield 55, 3), (27, .getfield 312, 3), (30, .ifCond .ne 5, 3), (33, .iconst (-1), 1), (34, .ireturn, 1), (35, .aload_n 0, 1), (36, .getfield 55, 3), (39, .aload_n 0, 1), (40, .getfield 69, 3), (43, .invokevirtual 342, 3), (46, .iconst 0, 1), (47, .istore_n 3, 1), (48, .iconst 1, 1), (49, .istore 4, 2), (51, .iload 4, 2), (53, .sipush 1600, 3), (56, .if_icmp .ge 38, 3), (59, .iload 4, 2), (61, .aload_n 0, 1), (62, .getfield 69, 3), (65, .arraylength, 1), (66, .if_icmp .ge 28, 3), (69, .aload_n 0, 1), (70, .getfield 69, 3), (73, .iload 4, 2), (75, .iaload, 1), (76, .aload_n 0, 1), (77, .getfield 69, 3), (80, .iload_n 3, 1), (81, .iaload, 1), (82, .if_icmp .le 6, 3), (85, .iload 4, 2), (87, .istore_n 3, 1), (88, .iinc 4 1, 3), (91, .goto (-40), 3), (94, .iload_n 2, 1), (95, .iconst 2, 1), (96, .if_icmp .ne 10, 3), (99, .aload_n 0, 1), (100, .getfield 69, 3), (103, .iload_n 3, 1), (104, .iaload, 1), (105, .ireturn, 1), (106, .iload_n 2, 1), (107, .ifCond .ne 10, 3), (110, .iload_n 3, 1), (111, .bipush 40, 2), (113, .irem, 1), (114, .goto 7, 3), (117, .iload_n 3, 1), (118, .bipush 40, 2), (120, .idiv, 1), (121, .ireturn, 1)]
theorem dt_NS_fullest : am_Dec (xC X_NS_fullest) T_NS_fullest := by decide +kernel
def y_NS_columns : MethodName := ⟨"NumberedSparks", "columns", "(I)I"⟩
abbrev X_NS_columns : am_X := ("NumberedSparks", prog_1_method_47_code, 4, (some FieldType.int), "columns", 6)
theorem mb_NS_columns : am_mb y_NS_columns X_NS_columns 1 := ⟨wd_1053, wd_1, ⟨by decide +kernel, by decide +kernel⟩, by decide +kernel, by decide, rfl⟩
def T_NS_columns : List (Nat × Instr × Nat) := [(0, .aload_n 0, 1), (1, .getfield 55, 3), (4, .iload_n 1, 1), (5, .invokevirtual 309, 3), (8, .ifCond .ne 6, 3), (11, .bipush (-2), 2), (13, .ireturn, 1), (14, .aload_n 0, 1), (15, .getfield 55, 3), (18, .aload_n 0, 1), (19, .getfield 69, 3), (22, .invokevirtual 342, 3), (25, .iconst 0, 1), (26, .istore_n 2, 1), (27, .iconst 0, 1), (28, .istore_n 3, 1), (29, .iload_n 3, 1), (30, .sipush 1600, 3), (33, .if_icmp .ge 30, 3), (36, .iload_n 3, 1), (37, .aload_n 0, 1), (38, .getfield 69, 3), (41, .arraylength, 1), (42, .if_icmp .ge 21, 3), (45, .aload_n 0, 1), (46, .getfield 69, 3), (49, .iload_n 3, 1), (50, .iaload, 1), (51, .ifCond .le 6, 3), (54, .iinc 2 1, 3), (57, .iinc 3 1, 3), (60, .goto (-31), 3), (63, .iload_n 2, 1), (64, .ireturn, 1)]
theorem dt_NS_columns : am_Dec (xC X_NS_columns) T_NS_columns := by decide +kernel
def y_Scen_isCellOfWorld : MethodName := ⟨"NumberedSparks$Scene", "isCellOfWorld", "(III)Z"⟩
abbrev X_Scen_isCellOfWorld : am_X := ("NumberedSparks$Scene", prog_7_method_6_code, 4, (some FieldType.boolean), "isCellOfWorld", 2)
theorem mb_Scen_isCellOfWorld : am_mb y_Scen_isCellOfWorld X_Scen_isCellOfWorld 3 := ⟨wd_1061, wd_2, ⟨by decide +kernel, by decide +kernel⟩, by decide +kernel, by decide, rfl⟩
def T_Scen_isCellOfWorld : List (Nat × Instr × Nat) := [(0, .aload_n 0, 1), (1, .iconst 0, 1), (2, .iload_n 1, 1), (3, .invokevirtual 54, 3), (6, .ifCond .eq 25, 3), (9, .aload_n 0, 1), (10, .iconst 1, 1), (11, .iload_n 2, 1), (12, .invokevirtual 54, 3), (15, .ifCond .eq 16, 3), (18, .aload_n 0, 1), (19, .iconst 2, 1), (20, .iload_n 3, 1), (21, .invokevirtual 54, 3), (24, .ifCond .eq 7, 3), (27, .iconst 1, 1), (28, .goto 4, 3), (31, .iconst 0, 1), (32, .ireturn, 1)]
theorem dt_Scen_isCellOfWorld : am_Dec (xC X_Scen_isCellOfWorld) T_Scen_isCellOfWorld := by decide +kernel
def y_Fram_farSquared : MethodName := ⟨"NumberedSparks$Frame", "farSquared", "(IIII)I"⟩
abbrev X_Fram_farSquared : am_X := ("NumberedSparks$Frame", prog_3_method_11_code, 8, (some FieldType.int), "farSquared", 1)
theorem mb_Fram_farSquared : am_mb y_Fram_farSquared X_Fram_farSquared 4 := ⟨wd_1066, wd_8, ⟨by decide +kernel, by decide +kernel⟩, by decide +kernel, by decide, rfl⟩
def T_Fram_farSquared : List (Nat × Instr × Nat) := [(0, .aload_n 0, 1), (1, .iload_n 1, 1), (2, .iconst 0, 1), (3, .invokevirtual 131, 3), (6, .bipush 8, 2), (8, .iload_n 2, 1), (9, .imul, 1), (10, .iconst 4, 1), (11, .iadd, 1), (12, .isub, 1), (13, .istore 5, 2), (15, .aload_n 0, 1), (16, .iload_n 1, 1), (17, .iconst 1, 1), (18, .invokevirtual 131, 3), (21, .bipush 8, 2), (23, .iload_n 3, 1), (24, .imul, 1), (25, .iconst 4, 1), (26, .iadd, 1), (27, .isub, 1), (28, .istore 6, 2), (30, .aload_n 0, 1), (31, .iload_n 1, 1), (32, .iconst 2, 1), (33, .invokevirtual 131, 3), (36, .bipush 8, 2), (38, .iload 4, 2), (40, .imul, 1), (41, .iconst 4, 1), (42, .iadd, 1), (43, .isub, 1), (44, .istore 7, 2), (46, .iload 5, 2), (48, .iload 5, 2), (50, .imul, 1), (51, .iload 6, 2), (53, .iload 6, 2), (55, .imul, 1), (56, .iadd, 1), (57, .iload 7, 2), (59, .iload 7, 2), (61, .imul, 1), (62, .iadd, 1), (63, .ireturn, 1)]
theorem dt_Fram_farSquared : am_Dec (xC X_Fram_farSquared) T_Fram_farSquared := by decide +kernel
def y_NS_nearest : MethodName := ⟨"NumberedSparks", "nearest", "(IIII)I"⟩
abbrev X_NS_nearest : am_X := ("NumberedSparks", prog_1_method_48_code, 9, (some FieldType.int), "nearest", 6)
theorem mb_NS_nearest : am_mb y_NS_nearest X_NS_nearest 4 := ⟨wd_1057, wd_1, ⟨by decide +kernel, by decide +kernel⟩, by decide +kernel, by decide, rfl⟩
def T_NS_nearest : List (Nat × Instr × Nat) := [(0, .aload_n 0, 1), (1, .getfield 16, 3), (4, .iload_n 2, 1), (5, .iload_n 3, 1), (6, .iload 4, 2), (8, .invokevirtual 346, 3), (11, .ifCond .eq 14, 3), (14, .aload_n 0, 1), (15, .getfield 55, 3), (18, .iload_n 1, 1), (19, .invokevirtual 309, 3), (22, .ifCond .ne 6, 3), (25, .bipush (-2), 2), (27, .ireturn, 1), (28, .iconst (-1), 1), (29, .istore 5, 2), (31, .iconst 0, 1), (32, .istore 6, 2), (34, .iconst 0, 1), (35, .istore 7, 2), (37, .iload 7, 2), (39, .aload_n 0, 1), (40, .getfield 55, 3), (43, .getfield 312, 3), (46, .if_icmp .ge 53, 3), (49, .aload_n 0, 1), (50, .getfield 55, 3), (53, .iload 7, 2), (55, .iload_n 2, 1), (56, .iload_n 3, 1), (57, .iload 4, 2), (59, .invokevirtual 349, 3), (62, .istore 8, 2), (64, .iload 5, 2), (66, .iconst (-1), 1), (67, .if_icmp .eq 10, 3), (70, .iload 8, 2), (72, .iload 6, 2), (74, .if_icmp .ge 19, 3), (77, .aload_n 0, 1), (78, .getfield 55, 3), (81, .getfield 316, 3), (84, .iload 7, 2), (86, .iaload, 1), (87, .istore 5, 2), (89, .iload 8, 2), (91, .istore 6, 2), (93, .iinc 7 1, 3), (96, .goto (-59), 3), (99, .iload 5, 2), (101, .ireturn, 1)]
theorem dt_NS_nearest : am_Dec (xC X_NS_nearest) T_NS_nearest := by decide +kernel
def y_NS_within : MethodName := ⟨"NumberedSparks", "within", "(IIIII)I"⟩
abbrev X_NS_within : am_X := ("NumberedSparks", prog_1_method_49_code, 8, (some FieldType.int), "within", 6)
theorem mb_NS_within : am_mb y_NS_within X_NS_within 5 := ⟨wd_1070, wd_1, ⟨by decide +kernel, by decide +kernel⟩, by decide +kernel, by decide, rfl⟩
def T_NS_within : List (Nat × Instr × Nat) := [(0, .iload 5, 2), (2, .ifCond .lt 36, 3), (5, .iload 5, 2), (7, .sipush 600, 3), (10, .if_icmp .gt 28, 3), (13, .aload_n 0, 1), (14, .getfield 16, 3), (17, .iload_n 2, 1), (18, .iload_n 3, 1), (19, .iload 4, 2), (21, .invokevirtual 346, 3), (24, .ifCond .eq 14, 3), (27, .aload_n 0, 1), (28, .getfield 55, 3), (31, .iload_n 1, 1), (32, .invokevirtual 309, 3), (35, .ifCond .ne 6, 3), (38, .bipush (-2), 2), (40, .ireturn, 1), (41, .iconst 0, 1), (42, .istore 6, 2), (44, .iconst 0, 1), (45, .istore 7, 2), (47, .iload 7, 2), (49, .aload_n 0, 1), (50, .getfield 55, 3), (53, .getfield 312, 3), (56, .if_icmp .ge 33, 3), (59, .aload_n 0, 1), (60, .getfield 55, 3), (63, .iload 7, 2), (65, .iload_n 2, 1), (66, .iload_n 3, 1), (67, .iload 4, 2), (69, .invokevirtual 349, 3), (72, .iload 5, 2), (74, .iload 5, 2), (76, .imul, 1), (77, .if_icmp .gt 6, 3), (80, .iinc 6 1, 3), (83, .iinc 7 1, 3), (86, .goto (-39), 3), (89, .iload 6, 2), (91, .ireturn, 1)]
theorem dt_NS_within : am_Dec (xC X_NS_within) T_NS_within := by decide +kernel
def y_Fram_forgetColumns : MethodName := ⟨"NumberedSparks$Frame", "forgetColumns", "(II[I)V"⟩
abbrev X_Fram_forgetColumns : am_X := ("NumberedSparks$Frame", prog_3_method_16_code, 6, none, "forgetColumns", 2)
theorem mb_Fram_forgetColumns : am_mb y_Fram_forgetColumns X_Fram_forgetColumns 3 := ⟨wd_1083, wd_8, ⟨by decide +kernel, by decide +kernel⟩, by decide +kernel, by decide, rfl⟩
def T_Fram_forgetColumns : List (Nat × Instr × Nat) := [(0, .iconst 0, 1), (1, .iload_n 1, 1), (2, .invokestatic 128, 3), (5, .istore 4, 2), (7, .iload 4, 2), (9, .iload_n 2, 1), (10, .if_icmp .ge 48, 3), (13, .iload 4, 2), (15, .aload_n 0, 1), (16, .getfield 61, 3), (19, .if_icmp .ge 39, 3), (22, .aload_n 0, 1), (23, .aload_n 0, 1), (24, .getfield 33, 3), (27, .iload 4, 2), (29, .iaload, 1), (30, .invokevirtual 138, 3), (33, .istore 5, 2), (35, .iload 5, 2), (37, .ifCond .lt 15, 3), (40, .iload 5, 2), (42, .aload_n 3, 1), (43, .arraylength, 1), (44, .if_icmp .ge 8, 3), (47, .aload_n 3, 1), (48, .iload 5, 2), (50, .iconst 0, 1), (51, .iastore, 1), (52, .iinc 4 1, 3), (55, .goto (-48), 3), (58, .return_, 1)]
theorem dt_Fram_forgetColumns : am_Dec (xC X_Fram_forgetColumns) T_Fram_forgetColumns := by decide +kernel
def y_Fram_countTwos : MethodName := ⟨"NumberedSparks$Frame", "countTwos", "([I)J"⟩
abbrev X_Fram_countTwos : am_X := ("NumberedSparks$Frame", prog_3_method_15_code, 7, (some FieldType.long), "countTwos", 3)
theorem mb_Fram_countTwos : am_mb y_Fram_countTwos X_Fram_countTwos 1 := ⟨wd_1079, wd_8, ⟨by decide +kernel, by decide +kernel⟩, by decide +kernel, by decide, rfl⟩
def T_Fram_countTwos : List (Nat × Instr × Nat) := [(0, .aload_n 1, 1), (1, .iconst 0, 1), (2, .invokestatic 115, 3), (5, .lconst 0, 1), (6, .lstore_n 2, 1), (7, .iconst 0, 1), (8, .istore 4, 2), (10, .iconst 0, 1), (11, .istore 5, 2), (13, .iload 5, 2), (15, .aload_n 0, 1), (16, .getfield 61, 3), (19, .if_icmp .ge 96, 3), (22, .aload_n 0, 1), (23, .getfield 30, 3), (26, .aload_n 0, 1), (27, .getfield 33, 3), (30, .iload 5, 2), (32, .iaload, 1), (33, .iaload, 1), (34, .bipush 8, 2), (36, .idiv, 1), (37, .aload_n 0, 1), (38, .getfield 30, 3), (41, .aload_n 0, 1), (42, .getfield 33, 3), (45, .iload 4, 2), (47, .iaload, 1), (48, .iaload, 1), (49, .bipush 8, 2), (51, .idiv, 1), (52, .if_icmp .eq 16, 3), (55, .aload_n 0, 1), (56, .iload 4, 2), (58, .iload 5, 2), (60, .aload_n 1, 1), (61, .invokevirtual 141, 3), (64, .iload 5, 2), (66, .istore 4, 2), (68, .aload_n 0, 1), (69, .aload_n 0, 1), (70, .getfield 33, 3), (73, .iload 5, 2), (75, .iaload, 1), (76, .invokevirtual 138, 3), (79, .istore 6, 2), (81, .iload 6, 2), (83, .ifCond .lt 26, 3), (86, .iload 6, 2), (88, .aload_n 1, 1), (89, .arraylength, 1), (90, .if_icmp .ge 19, 3), (93, .lload_n 2, 1), (94, .aload_n 1, 1), (95, .iload 6, 2), (97, .iaload, 1), (98, .i2l, 1), (99, .ladd, 1), (100, .lstore_n 2, 1), (101, .aload_n 1, 1), (102, .iload 6, 2), (104, .dup2, 1), (105, .iaload, 1), (106, .iconst 1, 1), (107, .iadd, 1), (108, .iastore, 1), (109, .iinc 5 1, 3), (112, .goto (-99), 3), (115, .lload_n 2, 1), (116, .lreturn, 1)]
theorem dt_Fram_countTwos : am_Dec (xC X_Fram_countTwos) T_Fram_countTwos := by decide +kernel
def y_NS_twos : MethodName := ⟨"NumberedSparks", "twos", "(I)J"⟩
abbrev X_NS_twos : am_X := ("NumberedSparks", prog_1_method_50_code, 2, (some FieldType.long), "twos", 6)
theorem mb_NS_twos : am_mb y_NS_twos X_NS_twos 1 := ⟨wd_1074, wd_1, ⟨by decide +kernel, by decide +kernel⟩, by decide +kernel, by decide, rfl⟩
def T_NS_twos : List (Nat × Instr × Nat) := [(0, .aload_n 0, 1), (1, .getfield 55, 3), (4, .iload_n 1, 1), (5, .invokevirtual 309, 3), (8, .ifCond .ne 7, 3), (11, .ldc2_w 352, 3), (14, .lreturn, 1), (15, .aload_n 0, 1), (16, .getfield 55, 3), (19, .aload_n 0, 1), (20, .getfield 69, 3), (23, .invokevirtual 354, 3), (26, .lreturn, 1)]
theorem dt_NS_twos : am_Dec (xC X_NS_twos) T_NS_twos := by decide +kernel
def y_NS_box : MethodName := ⟨"NumberedSparks", "box", "(II)I"⟩
abbrev X_NS_box : am_X := ("NumberedSparks", prog_1_method_51_code, 6, (some FieldType.int), "box", 6)
theorem mb_NS_box : am_mb y_NS_box X_NS_box 2 := ⟨wd_1087, wd_1, ⟨by decide +kernel, by decide +kernel⟩, by decide +kernel, by decide, rfl⟩
def T_NS_box : List (Nat × Instr × Nat) := [(0, .iload_n 2, 1), (1, .ifCond .lt 19, 3), (4, .iload_n 2, 1), (5, .iconst 5, 1), (6, .if_icmp .gt 14, 3), (9, .aload_n 0, 1), (10, .getfield 55, 3), (13, .iload_n 1, 1), (14, .invokevirtual 309, 3), (17, .ifCond .ne 6, 3), (20, .bipush (-2), 2), (22, .ireturn, 1), (23, .aload_n 0, 1), (24, .getfield 55, 3), (27, .getfield 312, 3), (30, .ifCond .ne 5, 3), (33, .iconst (-1), 1), (34, .ireturn, 1), (35, .aload_n 0, 1), (36, .getfield 55, 3), (39, .iconst 0, 1), (40, .iload_n 2, 1), (41, .iconst 3, 1), (42, .irem, 1), (43, .invokevirtual 358, 3), (46, .istore_n 3, 1), (47, .iconst 1, 1), (48, .istore 4, 2), (50, .iload 4, 2), (52, .aload_n 0, 1), (53, .getfield 55, 3), (56, .getfield 312, 3), (59, .if_icmp .ge 44, 3), (62, .aload_n 0, 1), (63, .getfield 55, 3), (66, .iload 4, 2), (68, .iload_n 2, 1), (69, .iconst 3, 1), (70, .irem, 1), (71, .invokevirtual 358, 3), (74, .istore 5, 2), (76, .iload_n 2, 1), (77, .iconst 3, 1), (78, .if_icmp .ge 12, 3), (81, .iload_n 3, 1), (82, .iload 5, 2), (84, .invokestatic 226, 3), (87, .goto 9, 3), (90, .iload_n 3, 1), (91, .iload 5, 2), (93, .invokestatic 218, 3), (96, .istore_n 3, 1), (97, .iinc 4 1, 3), (100, .goto (-50), 3), (103, .iload_n 3, 1), (104, .bipush 8, 2), (106, .idiv, 1), (107, .ireturn, 1)]
theorem dt_NS_box : am_Dec (xC X_NS_box) T_NS_box := by decide +kernel
def y_NS_middle : MethodName := ⟨"NumberedSparks", "middle", "(II)I"⟩
abbrev X_NS_middle : am_X := ("NumberedSparks", prog_1_method_52_code, 5, (some FieldType.int), "middle", 6)
theorem mb_NS_middle : am_mb y_NS_middle X_NS_middle 2 := ⟨wd_1092, wd_1, ⟨by decide +kernel, by decide +kernel⟩, by decide +kernel, by decide, rfl⟩
def T_NS_middle : List (Nat × Instr × Nat) := [(0, .iload_n 2, 1), (1, .invokestatic 209, 3), (4, .ifCond .eq 14, 3), (7, .aload_n 0, 1), (8, .getfield 55, 3), (11, .iload_n 1, 1), (12, .invokevirtual 309, 3), (15, .ifCond .ne 6, 3), (18, .bipush (-2), 2), (20, .ireturn, 1), (21, .aload_n 0, 1), (22, .getfield 55, 3), (25, .getfield 312, 3), (28, .ifCond .gt 5, 3), (31, .iconst (-1), 1), (32, .ireturn, 1), (33, .iconst 0, 1), (34, .istore_n 3, 1), (35, .iconst 0, 1), (36, .istore 4, 2), (38, .iload 4, 2), (40, .aload_n 0, 1), (41, .getfield 55, 3), (44, .getfield 312, 3), (47, .if_icmp .ge 22, 3), (50, .iload_n 3, 1), (51, .aload_n 0, 1), (52, .getfield 55, 3), (55, .iload 4, 2), (57, .iload_n 2, 1), (58, .invokevirtual 358, 3), (61, .iadd, 1), (62, .istore_n 3, 1), (63, .iinc 4 1, 3), (66, .goto (-28), 3), (69, .iload_n 3, 1), (70, .aload_n 0, 1), (71, .getfield 55, 3), (74, .getfield 312, 3), (77, .idiv, 1), (78, .ireturn, 1)]
theorem dt_NS_middle : am_Dec (xC X_NS_middle) T_NS_middle := by decide +kernel
def y_NS_both : MethodName := ⟨"NumberedSparks", "both", "(II)I"⟩
abbrev X_NS_both : am_X := ("NumberedSparks", prog_1_method_53_code, 5, (some FieldType.int), "both", 6)
theorem mb_NS_both : am_mb y_NS_both X_NS_both 2 := ⟨wd_1096, wd_1, ⟨by decide +kernel, by decide +kernel⟩, by decide +kernel, by decide, rfl⟩
def T_NS_both : List (Nat × Instr × Nat) := [(0, .iload_n 2, 1), (1, .invokestatic 206, 3), (4, .ifCond .eq 14, 3), (7, .aload_n 0, 1), (8, .getfield 55, 3), (11, .iload_n 1, 1), (12, .invokevirtual 309, 3), (15, .ifCond .ne 6, 3), (18, .bipush (-2), 2), (20, .ireturn, 1), (21, .iconst 0, 1), (22, .istore_n 3, 1), (23, .iconst 0, 1), (24, .istore 4, 2), (26, .iload 4, 2), (28, .aload_n 0, 1), (29, .getfield 55, 3), (32, .getfield 312, 3), (35, .if_icmp .ge 40, 3), (38, .aload_n 0, 1), (39, .getfield 55, 3), (42, .getfield 361, 3), (45, .iload 4, 2), (47, .iaload, 1), (48, .iload_n 2, 1), (49, .if_icmp .gt 20, 3), (52, .iload_n 2, 1), (53, .aload_n 0, 1), (54, .getfield 55, 3), (57, .getfield 364, 3), (60, .iload 4, 2), (62, .iaload, 1), (63, .if_icmp .ge 6, 3), (66, .iinc 3 1, 3), (69, .iinc 4 1, 3), (72, .goto (-46), 3), (75, .iload_n 3, 1), (76, .ireturn, 1)]
theorem dt_NS_both : am_Dec (xC X_NS_both) T_NS_both := by decide +kernel
def y_NS_ofAge : MethodName := ⟨"NumberedSparks", "ofAge", "(III)I"⟩
abbrev X_NS_ofAge : am_X := ("NumberedSparks", prog_1_method_54_code, 9, (some FieldType.int), "ofAge", 6)
theorem mb_NS_ofAge : am_mb y_NS_ofAge X_NS_ofAge 3 := ⟨wd_1100, wd_1, ⟨by decide +kernel, by decide +kernel⟩, by decide +kernel, by decide, rfl⟩
def T_NS_ofAge : List (Nat × Instr × Nat) := [(0, .iload_n 2, 1), (1, .ifCond .lt 28, 3), (4, .iload_n 2, 1), (5, .iconst 3, 1), (6, .if_icmp .ge 23, 3), (9, .iload_n 3, 1), (10, .ifCond .lt 19, 3), (13, .iload_n 3, 1), (14, .iconst 2, 1), (15, .if_icmp .gt 14, 3), (18, .aload_n 0, 1), (19, .getfield 55, 3), (22, .iload_n 1, 1), (23, .invokevirtual 309, 3), (26, .ifCond .ne 6, 3), (29, .bipush (-2), 2), (31, .ireturn, 1), (32, .iconst 0, 1), (33, .istore 4, 2), (35, .iconst 0, 1), (36, .istore 5, 2), (38, .iconst (-1), 1), (39, .istore 6, 2), (41, .iconst 0, 1), (42, .istore 7, 2), (44, .iconst 0, 1), (45, .istore 8, 2), (47, .iload 8, 2), (49, .aload_n 0, 1), (50, .getfield 55, 3), (53, .getfield 312, 3), (56, .if_icmp .ge 91, 3), (59, .aload_n 0, 1), (60, .getfield 55, 3), (63, .getfield 316, 3), (66, .iload 8, 2), (68, .iaload, 1), (69, .invokestatic 163, 3), (72, .iload_n 2, 1), (73, .if_icmp .ne 68, 3), (76, .iinc 4 1, 3), (79, .iload 5, 2), (81, .iload_n 1, 1), (82, .aload_n 0, 1), (83, .getfield 55, 3), (86, .getfield 361, 3), (89, .iload 8, 2), (91, .iaload, 1), (92, .isub, 1), (93, .iadd, 1), (94, .istore 5, 2), (96, .iload 6, 2), (98, .iconst (-1), 1), (99, .if_icmp .eq 18, 3), (102, .aload_n 0, 1), (103, .getfield 55, 3), (106, .getfield 361, 3), (109, .iload 8, 2), (111, .iaload, 1), (112, .iload 7, 2), (114, .if_icmp .ge 27, 3), (117, .aload_n 0, 1), (118, .getfield 55, 3), (121, .getfield 316, 3), (124, .iload 8, 2), (126, .iaload, 1), (127, .istore 6, 2), (129, .aload_n 0, 1), (130, .getfield 55, 3), (133, .getfield 361, 3), (136, .iload 8, 2), (138, .iaload, 1), (139, .istore 7, 2), (141, .iinc 8 1, 3), (144, .goto (-97), 3), (147, .iload_n 3, 1), (148, .iconst 2, 1), (149, .if_icmp .ne 6, 3), (152, .iload 6, 2), (154, .ireturn, 1), (155, .iload_n 3, 1), (156, .ifCond .ne 8, 3), (159, .iload 4, 2), (161, .goto 5, 3), (164, .iload 5, 2), (166, .ireturn, 1)]
theorem dt_NS_ofAge : am_Dec (xC X_NS_ofAge) T_NS_ofAge := by decide +kernel
def y_NS_colours : MethodName := ⟨"NumberedSparks", "colours", "(II)I"⟩
abbrev X_NS_colours : am_X := ("NumberedSparks", prog_1_method_55_code, 5, (some FieldType.int), "colours", 6)
theorem mb_NS_colours : am_mb y_NS_colours X_NS_colours 2 := ⟨wd_1104, wd_1, ⟨by decide +kernel, by decide +kernel⟩, by decide +kernel, by decide, rfl⟩
def T_NS_colours : List (Nat × Instr × Nat) := [(0, .iload_n 2, 1), (1, .ifCond .lt 20, 3), (4, .iload_n 2, 1), (5, .bipush 8, 2), (7, .if_icmp .ge 14, 3), (10, .aload_n 0, 1), (11, .getfield 55, 3), (14, .iload_n 1, 1), (15, .invokevirtual 309, 3), (18, .ifCond .ne 6, 3), (21, .bipush (-2), 2), (23, .ireturn, 1), (24, .iconst 0, 1), (25, .istore_n 3, 1), (26, .iconst 0, 1), (27, .istore 4, 2), (29, .iload 4, 2), (31, .aload_n 0, 1), (32, .getfield 55, 3), (35, .getfield 312, 3), (38, .if_icmp .ge 33, 3), (41, .aload_n 0, 1), (42, .getfield 16, 3), (45, .aload_n 0, 1), (46, .getfield 55, 3), (49, .getfield 316, 3), (52, .iload 4, 2), (54, .iaload, 1), (55, .invokevirtual 194, 3), (58, .iload_n 2, 1), (59, .if_icmp .ne 6, 3), (62, .iinc 3 1, 3), (65, .iinc 4 1, 3), (68, .goto (-39), 3), (71, .iload_n 3, 1), (72, .ireturn, 1)]
theorem dt_NS_colours : am_Dec (xC X_NS_colours) T_NS_colours := by decide +kernel
def y_NS_twins : MethodName := ⟨"NumberedSparks", "twins", "(I)I"⟩
abbrev X_NS_twins : am_X := ("NumberedSparks", prog_1_method_56_code, 6, (some FieldType.int), "twins", 6)
theorem mb_NS_twins : am_mb y_NS_twins X_NS_twins 1 := ⟨wd_1108, wd_1, ⟨by decide +kernel, by decide +kernel⟩, by decide +kernel, by decide, rfl⟩
def T_NS_twins : List (Nat × Instr × Nat) := [(0, .aload_n 0, 1), (1, .getfield 55, 3), (4, .iload_n 1, 1), (5, .invokevirtual 309, 3), (8, .ifCond .ne 6, 3), (11, .bipush (-2), 2), (13, .ireturn, 1), (14, .iconst 0, 1), (15, .istore_n 2, 1), (16, .iconst 0, 1), (17, .istore_n 3, 1), (18, .iload_n 3, 1), (19, .aload_n 0, 1), (20, .getfield 55, 3), (23, .getfield 312, 3), (26, .if_icmp .ge 82, 3), (29, .aload_n 0, 1), (30, .getfield 55, 3), (33, .getfield 316, 3), (36, .iload_n 3, 1), (37, .iaload, 1), (38, .invokestatic 173, 3), (41, .istore 4, 2), (43, .iload_n 3, 1), (44, .iconst 1, 1), (45, .iadd, 1), (46, .istore 5, 2), (48, .iload 4, 2), (50, .iconst (-1), 1), (51, .if_icmp .eq 51, 3), (54, .iload 5, 2), (56, .aload_n 0, 1), (57, .getfield 55, 3), (60, .getfield 312, 3), (63, .if_icmp .ge 39, 3), (66, .iload 5, 2), (68, .iload_n 3, 1), (69, .bipush 7, 2), (71, .iadd, 1), (72, .if_icmp .ge 30, 3), (75, .aload_n 0, 1), (76, .getfield 55, 3), (79, .getfield 316, 3), (82, .iload 5, 2), (84, .iaload, 1), (85, .invokestatic 173, 3), (88, .iload 4, 2), (90, .if_icmp .ne 6, 3), (93, .iinc 2 2, 3), (96, .iinc 5 1, 3), (99, .goto (-51), 3), (102, .iinc 3 1, 3), (105, .goto (-87), 3), (108, .iload_n 2, 1), (109, .ireturn, 1)]
theorem dt_NS_twins : am_Dec (xC X_NS_twins) T_NS_twins := by decide +kernel
def y_Fram_markTops : MethodName := ⟨"NumberedSparks$Frame", "markTops", "([I)V"⟩
abbrev X_Fram_markTops : am_X := ("NumberedSparks$Frame", prog_3_method_17_code, 4, none, "markTops", 2)
theorem mb_Fram_markTops : am_mb y_Fram_markTops X_Fram_markTops 1 := ⟨wd_1116, wd_8, ⟨by decide +kernel, by decide +kernel⟩, by decide +kernel, by decide, rfl⟩
def T_Fram_markTops : List (Nat × Instr × Nat) := [(0, .aload_n 1, 1), (1, .iconst 0, 1), (2, .invokestatic 115, 3), (5, .iconst 0, 1), (6, .istore_n 2, 1), (7, .iload_n 2, 1), (8, .aload_n 0, 1), (9, .getfield 61, 3), (12, .if_icmp .ge 41, 3), (15, .aload_n 0, 1), (16, .aload_n 0, 1), (17, .getfield 33, 3), (20, .iload_n 2, 1), (21, .iaload, 1), (22, .invokevirtual 138, 3), (25, .istore_n 3, 1), (26, .iload_n 3, 1), (27, .ifCond .lt 20, 3), (30, .iload_n 3, 1), (31, .aload_n 1, 1), (32, .arraylength, 1), (33, .if_icmp .ge 14, 3), (36, .aload_n 1, 1), (37, .iload_n 3, 1), (38, .aload_n 0, 1), (39, .getfield 33, 3), (42, .iload_n 2, 1), (43, .iaload, 1), (44, .iconst 1, 1), (45, .iadd, 1), (46, .iastore, 1), (47, .iinc 2 1, 3), (50, .goto (-43), 3), (53, .return_, 1)]
theorem dt_Fram_markTops : am_Dec (xC X_Fram_markTops) T_Fram_markTops := by decide +kernel
def y_NS_picture : MethodName := ⟨"NumberedSparks", "picture", "(I)I"⟩
abbrev X_NS_picture : am_X := ("NumberedSparks", prog_1_method_57_code, 6, (some FieldType.int), "picture", 6)
theorem mb_NS_picture : am_mb y_NS_picture X_NS_picture 1 := ⟨wd_1112, wd_1, ⟨by decide +kernel, by decide +kernel⟩, by decide +kernel, by decide, rfl⟩
def T_NS_picture : List (Nat × Instr × Nat) := [(0, .aload_n 0, 1), (1, .getfield 55, 3), (4, .iload_n 1, 1), (5, .invokevirtual 309, 3), (8, .ifCond .ne 6, 3), (11, .bipush (-2), 2), (13, .ireturn, 1), (14, .aload_n 0, 1), (15, .getfield 55, 3), (18, .aload_n 0, 1), (19, .getfield 69, 3), (22, .invokevirtual 366, 3), (25, .aload_n 0, 1), (26, .getfield 37, 3), (29, .invokevirtual 255, 3), (32, .iconst 0, 1), (33, .istore_n 2, 1), (34, .iload_n 2, 1), (35, .aload_n 0, 1), (36, .getfield 16, 3), (39, .iconst 1, 1), (40, .invokevirtual 100, 3), (43, .if_icmp .ge 114, 3), (46, .iconst 0, 1), (47, .istore_n 3, 1), (48, .iload_n 3, 1), (49, .aload_n 0, 1), (50, .getfield 16, 3), (53, .iconst 0, 1), (54, .invokevirtual 100, 3), (57, .if_icmp .ge 85, 3), (60, .aload_n 0, 1), (61, .getfield 69, 3), (64, .iload_n 2, 1), (65, .bipush 40, 2), (67, .imul, 1), (68, .iload_n 3, 1), (69, .iadd, 1), (70, .iaload, 1), (71, .iconst 1, 1), (72, .isub, 1), (73, .istore 4, 2), (75, .iload 4, 2), (77, .ifCond .lt 19, 3), (80, .iload 4, 2), (82, .aload_n 0, 1), (83, .getfield 55, 3), (86, .getfield 312, 3), (89, .if_icmp .ge 7, 3), (92, .iconst 1, 1), (93, .goto 4, 3), (96, .iconst 0, 1), (97, .istore 5, 2), (99, .aload_n 0, 1), (100, .getfield 37, 3), (103, .iload 5, 2), (105, .ifCond .eq 26, 3), (108, .bipush 48, 2), (110, .aload_n 0, 1), (111, .getfield 16, 3), (114, .aload_n 0, 1), (115, .getfield 55, 3), (118, .getfield 316, 3), (121, .iload 4, 2), (123, .iaload, 1), (124, .invokevirtual 194, 3), (127, .iadd, 1), (128, .goto 5, 3), (131, .bipush 46, 2), (133, .invokevirtual 258, 3), (136, .iinc 3 1, 3), (139, .goto (-91), 3), (142, .aload_n 0, 1), (143, .getfield 37, 3), (146, .bipush 10, 2), (148, .invokevirtual 258, 3), (151, .iinc 2 1, 3), (154, .goto (-120), 3), (157, .aload_n 0, 1), (158, .getfield 37, 3), (161, .getfield 113, 3), (164, .ireturn, 1)]
theorem dt_NS_picture : am_Dec (xC X_NS_picture) T_NS_picture := by decide +kernel
def y_Fram_countLayer : MethodName := ⟨"NumberedSparks$Frame", "countLayer", "(I[I)V"⟩
abbrev X_Fram_countLayer : am_X := ("NumberedSparks$Frame", prog_3_method_14_code, 5, none, "countLayer", 2)
theorem mb_Fram_countLayer : am_mb y_Fram_countLayer X_Fram_countLayer 2 := ⟨wd_1124, wd_8, ⟨by decide +kernel, by decide +kernel⟩, by decide +kernel, by decide, rfl⟩
def T_Fram_countLayer : List (Nat × Instr × Nat) := [(0, .aload_n 2, 1), (1, .iconst 0, 1), (2, .invokestatic 115, 3), (5, .iconst 0, 1), (6, .istore_n 3, 1), (7, .iload_n 3, 1), (8, .aload_n 0, 1), (9, .getfield 61, 3), (12, .if_icmp .ge 49, 3), (15, .aload_n 0, 1), (16, .iload_n 3, 1), (17, .invokevirtual 138, 3), (20, .istore 4, 2), (22, .aload_n 0, 1), (23, .iload_n 3, 1), (24, .iconst 2, 1), (25, .invokevirtual 131, 3), (28, .bipush 8, 2), (30, .idiv, 1), (31, .iload_n 1, 1), (32, .if_icmp .ne 23, 3), (35, .iload 4, 2), (37, .ifCond .lt 18, 3), (40, .iload 4, 2), (42, .aload_n 2, 1), (43, .arraylength, 1), (44, .if_icmp .ge 11, 3), (47, .aload_n 2, 1), (48, .iload 4, 2), (50, .dup2, 1), (51, .iaload, 1), (52, .iconst 1, 1), (53, .iadd, 1), (54, .iastore, 1), (55, .iinc 3 1, 3), (58, .goto (-51), 3), (61, .return_, 1)]
theorem dt_Fram_countLayer : am_Dec (xC X_Fram_countLayer) T_Fram_countLayer := by decide +kernel
def y_NS_layer : MethodName := ⟨"NumberedSparks", "layer", "(II)I"⟩
abbrev X_NS_layer : am_X := ("NumberedSparks", prog_1_method_58_code, 6, (some FieldType.int), "layer", 6)
theorem mb_NS_layer : am_mb y_NS_layer X_NS_layer 2 := ⟨wd_1120, wd_1, ⟨by decide +kernel, by decide +kernel⟩, by decide +kernel, by decide, rfl⟩
def T_NS_layer : List (Nat × Instr × Nat) := [(0, .aload_n 0, 1), (1, .getfield 16, 3), (4, .iconst 2, 1), (5, .iload_n 2, 1), (6, .invokevirtual 298, 3), (9, .ifCond .eq 14, 3), (12, .aload_n 0, 1), (13, .getfield 55, 3), (16, .iload_n 1, 1), (17, .invokevirtual 309, 3), (20, .ifCond .ne 6, 3), (23, .bipush (-2), 2), (25, .ireturn, 1), (26, .aload_n 0, 1), (27, .getfield 55, 3), (30, .iload_n 2, 1), (31, .aload_n 0, 1), (32, .getfield 69, 3), (35, .invokevirtual 369, 3), (38, .aload_n 0, 1), (39, .getfield 37, 3), (42, .invokevirtual 255, 3), (45, .iconst 0, 1), (46, .istore_n 3, 1), (47, .iload_n 3, 1), (48, .aload_n 0, 1), (49, .getfield 16, 3), (52, .iconst 1, 1), (53, .invokevirtual 100, 3), (56, .if_icmp .ge 81, 3), (59, .iconst 0, 1), (60, .istore 4, 2), (62, .iload 4, 2), (64, .aload_n 0, 1), (65, .getfield 16, 3), (68, .iconst 0, 1), (69, .invokevirtual 100, 3), (72, .if_icmp .ge 50, 3), (75, .aload_n 0, 1), (76, .getfield 69, 3), (79, .iload_n 3, 1), (80, .bipush 40, 2), (82, .imul, 1), (83, .iload 4, 2), (85, .iadd, 1), (86, .iaload, 1), (87, .istore 5, 2), (89, .aload_n 0, 1), (90, .getfield 37, 3), (93, .iload 5, 2), (95, .ifCond .le 16, 3), (98, .bipush 48, 2), (100, .bipush 9, 2), (102, .iload 5, 2), (104, .invokestatic 226, 3), (107, .iadd, 1), (108, .goto 5, 3), (111, .bipush 46, 2), (113, .invokevirtual 258, 3), (116, .iinc 4 1, 3), (119, .goto (-57), 3), (122, .aload_n 0, 1), (123, .getfield 37, 3), (126, .bipush 10, 2), (128, .invokevirtual 258, 3), (131, .iinc 3 1, 3), (134, .goto (-87), 3), (137, .aload_n 0, 1), (138, .getfield 37, 3), (141, .getfield 113, 3), (144, .ireturn, 1)]
theorem dt_NS_layer : am_Dec (xC X_NS_layer) T_NS_layer := by decide +kernel
def y_Md_init : MethodName := ⟨"NumberedSparksModel", "<init>", "()V"⟩
abbrev X_Md_init : am_X := ("NumberedSparksModel", prog_11_method_1_code, 1, none, "<init>", 1)
theorem mb_Md_init : am_mb y_Md_init X_Md_init 0 := ⟨wd_1129, wd_10, ⟨by decide +kernel, by decide +kernel⟩, by decide +kernel, by decide, rfl⟩
def T_Md_init : List (Nat × Instr × Nat) := [(0, .aload_n 0, 1), (1, .invokespecial 1, 3), (4, .aload_n 0, 1), (5, .iconst 3, 1), (6, .newarray .int, 2), (8, .putfield 7, 3), (11, .aload_n 0, 1), (12, .bipush 40, 2), (14, .newarray .int, 2), (16, .putfield 13, 3), (19, .aload_n 0, 1), (20, .bipush 36, 2), (22, .newarray .int, 2), (24, .putfield 16, 3), (27, .aload_n 0, 1), (28, .iconst 3, 1), (29, .newarray .int, 2), (31, .putfield 19, 3), (34, .aload_n 0, 1), (35, .bipush 40, 2), (37, .newarray .int, 2), (39, .putfield 22, 3), (42, .aload_n 0, 1), (43, .bipush 36, 2), (45, .newarray .int, 2), (47, .putfield 25, 3), (50, .aload_n 0, 1), (51, .sipush 500, 3), (54, .newarray .byte, 2), (56, .putfield 28, 3), (59, .aload_n 0, 1), (60, .iconst (-1), 1), (61, .putfield 32, 3), (64, .aload_n 0, 1), (65, .bipush 10, 2), (67, .newarray .int, 2), (69, .putfield 36, 3), (72, .aload_n 0, 1), (73, .bipush 10, 2), (75, .newarray .int, 2), (77, .putfield 39, 3), (80, .aload_n 0, 1), (81, .iconst 3, 1), (82, .newarray .int, 2), (84, .putfield 42, 3), (87, .aload_n 0, 1), (88, .iconst 3, 1), (89, .newarray .int, 2), (91, .putfield 45, 3), (94, .aload_n 0, 1), (95, .iconst 3, 1), (96, .newarray .int, 2), (98, .putfield 48, 3), (101, .aload_n 0, 1), (102, .bipush 61, 2), (104, .newarray .int, 2), (106, .putfield 51, 3), (109, .aload_n 0, 1), (110, .sipush 30000, 3), (113, .newarray .long, 2), (115, .putfield 54, 3), (118, .aload_n 0, 1), (119, .sipush 30000, 3), (122, .newarray .int, 2), (124, .putfield 58, 3), (127, .aload_n 0, 1), (128, .sipush 30000, 3), (131, .newarray .int, 2), (133, .putfield 61, 3), (136, .aload_n 0, 1), (137, .ldc 64, 2), (139, .newarray .int, 2), (141, .putfield 65, 3), (144, .aload_n 0, 1), (145, .sipush 1700, 3), (148, .newarray .byte, 2), (150, .putfield 68, 3), (153, .return_, 1)]
theorem dt_Md_init : am_Dec (xC X_Md_init) T_Md_init := by decide +kernel
def y_Md_puts4 : MethodName := ⟨"NumberedSparksModel", "puts4", "(I)V"⟩
abbrev X_Md_puts4 : am_X := ("NumberedSparksModel", prog_11_method_4_code, 3, none, "puts4", 0)
theorem mb_Md_puts4 : am_mb y_Md_puts4 X_Md_puts4 1 := ⟨wd_1266, wd_10, ⟨by decide +kernel, by decide +kernel⟩, by decide +kernel, by decide, rfl⟩
def T_Md_puts4 : List (Nat × Instr × Nat) := [(0, .bipush 24, 2), (2, .istore_n 2, 1), (3, .iload_n 2, 1), (4, .ifCond .lt 32, 3), (7, .aload_n 0, 1), (8, .getfield 28, 3), (11, .aload_n 0, 1), (12, .getfield 74, 3), (15, .iload_n 1, 1), (16, .iload_n 2, 1), (17, .ishr, 1), (18, .i2b, 1), (19, .bastore, 1), (20, .aload_n 0, 1), (21, .dup, 1), (22, .getfield 74, 3), (25, .iconst 1, 1), (26, .iadd, 1), (27, .putfield 74, 3), (30, .iinc 2 (-8), 3), (33, .goto (-30), 3), (36, .return_, 1)]
theorem dt_Md_puts4 : am_Dec (xC X_Md_puts4) T_Md_puts4 := by decide +kernel
def y_Md_feed : MethodName := ⟨"NumberedSparksModel", "feed", "(IIIII)I"⟩
abbrev X_Md_feed : am_X := ("NumberedSparksModel", prog_11_method_5_code, 6, (some FieldType.int), "feed", 1)
theorem mb_Md_feed : am_mb y_Md_feed X_Md_feed 5 := ⟨wd_1262, wd_10, ⟨by decide +kernel, by decide +kernel⟩, by decide +kernel, by decide, rfl⟩
def T_Md_feed : List (Nat × Instr × Nat) := [(0, .aload_n 0, 1), (1, .getfield 74, 3), (4, .bipush 20, 2), (6, .iadd, 1), (7, .sipush 500, 3), (10, .if_icmp .le 5, 3), (13, .iconst (-1), 1), (14, .ireturn, 1), (15, .aload_n 0, 1), (16, .iload_n 1, 1), (17, .invokevirtual 77, 3), (20, .aload_n 0, 1), (21, .iload_n 2, 1), (22, .invokevirtual 77, 3), (25, .aload_n 0, 1), (26, .iload_n 3, 1), (27, .invokevirtual 77, 3), (30, .aload_n 0, 1), (31, .iload 4, 2), (33, .invokevirtual 77, 3), (36, .aload_n 0, 1), (37, .iload 5, 2), (39, .invokevirtual 77, 3), (42, .aload_n 0, 1), (43, .getfield 74, 3), (46, .ireturn, 1)]
theorem dt_Md_feed : am_Dec (xC X_Md_feed) T_Md_feed := by decide +kernel
def y_Md_in : MethodName := ⟨"NumberedSparksModel", "in", "(JJJ)Z"⟩
abbrev X_Md_in : am_X := ("NumberedSparksModel", prog_11_method_3_code, 6, (some FieldType.boolean), "in", 0)
theorem mb_Md_in : am_mb y_Md_in X_Md_in 3 := ⟨wd_1273, wd_10, ⟨by decide +kernel, by decide +kernel⟩, by decide +kernel, by decide, rfl⟩
def T_Md_in : List (Nat × Instr × Nat) := [(0, .lload_n 0, 1), (1, .lload_n 2, 1), (2, .lcmp, 1), (3, .ifCond .lt 14, 3), (6, .lload_n 0, 1), (7, .lload 4, 2), (9, .lcmp, 1), (10, .ifCond .gt 7, 3), (13, .iconst 1, 1), (14, .goto 4, 3), (17, .iconst 0, 1), (18, .ireturn, 1)]
theorem dt_Md_in : am_Dec (xC X_Md_in) T_Md_in := by decide +kernel
def y_Md_end : MethodName := ⟨"NumberedSparksModel", "end", "(I)I"⟩
abbrev X_Md_end : am_X := ("NumberedSparksModel", prog_11_method_6_code, 2, (some FieldType.int), "end", 1)
theorem mb_Md_end : am_mb y_Md_end X_Md_end 1 := ⟨wd_1270, wd_10, ⟨by decide +kernel, by decide +kernel⟩, by decide +kernel, by decide, rfl⟩
def T_Md_end : List (Nat × Instr × Nat) := [(0, .iload_n 1, 1), (1, .i2l, 1), (2, .lconst 0, 1), (3, .aload_n 0, 1), (4, .getfield 74, 3), (7, .i2l, 1), (8, .invokestatic 81, 3), (11, .ifCond .ne 5, 3), (14, .iconst (-1), 1), (15, .ireturn, 1), (16, .aload_n 0, 1), (17, .iload_n 1, 1), (18, .putfield 74, 3), (21, .iload_n 1, 1), (22, .ireturn, 1)]
theorem dt_Md_end : am_Dec (xC X_Md_end) T_Md_end := by decide +kernel
def y_Md_see : MethodName := ⟨"NumberedSparksModel", "see", "(I)I"⟩
abbrev X_Md_see : am_X := ("NumberedSparksModel", prog_11_method_9_code, 2, (some FieldType.int), "see", 0)
theorem mb_Md_see : am_mb y_Md_see X_Md_see 1 := ⟨wd_1285, wd_10, ⟨by decide +kernel, by decide +kernel⟩, by decide +kernel, by decide, rfl⟩
def T_Md_see : List (Nat × Instr × Nat) := [(0, .iload_n 1, 1), (1, .aload_n 0, 1), (2, .getfield 92, 3), (5, .if_icmp .ge 16, 3), (8, .aload_n 0, 1), (9, .getfield 28, 3), (12, .iload_n 1, 1), (13, .baload, 1), (14, .sipush 255, 3), (17, .iand, 1), (18, .goto 4, 3), (21, .iconst (-1), 1), (22, .ireturn, 1)]
theorem dt_Md_see : am_Dec (xC X_Md_see) T_Md_see := by decide +kernel
def y_Md_advance : MethodName := ⟨"NumberedSparksModel", "advance", "()V"⟩
abbrev X_Md_advance : am_X := ("NumberedSparksModel", prog_11_method_10_code, 2, none, "advance", 1)
theorem mb_Md_advance : am_mb y_Md_advance X_Md_advance 0 := ⟨wd_1281, wd_10, ⟨by decide +kernel, by decide +kernel⟩, by decide +kernel, by decide, rfl⟩
def T_Md_advance : List (Nat × Instr × Nat) := [(0, .aload_n 0, 1), (1, .aload_n 0, 1), (2, .getfield 95, 3), (5, .invokevirtual 98, 3), (8, .bipush 32, 2), (10, .if_icmp .eq 16, 3), (13, .aload_n 0, 1), (14, .aload_n 0, 1), (15, .getfield 95, 3), (18, .invokevirtual 98, 3), (21, .bipush 10, 2), (23, .if_icmp .ne 16, 3), (26, .aload_n 0, 1), (27, .dup, 1), (28, .getfield 95, 3), (31, .iconst 1, 1), (32, .iadd, 1), (33, .putfield 95, 3), (36, .goto (-36), 3), (39, .aload_n 0, 1), (40, .aload_n 0, 1), (41, .getfield 95, 3), (44, .putfield 102, 3), (47, .aload_n 0, 1), (48, .aload_n 0, 1), (49, .getfield 95, 3), (52, .invokevirtual 98, 3), (55, .istore_n 1, 1), (56, .iload_n 1, 1), (57, .iconst (-1), 1), (58, .if_icmp .ne 11, 3), (61, .aload_n 0, 1), (62, .iconst 0, 1), (63, .putfield 105, 3), (66, .goto 168, 3), (69, .iload_n 1, 1), (70, .i2l, 1), (71, .ldc2_w 108, 3), (74, .ldc2_w 110, 3), (77, .invokestatic 81, 3), (80, .ifCond .eq 45, 3), (83, .aload_n 0, 1), (84, .aload_n 0, 1), (85, .getfield 95, 3), (88, .invokevirtual 98, 3), (91, .i2l, 1), (92, .ldc2_w 108, 3), (95, .ldc2_w 110, 3), (98, .invokestatic 81, 3), (101, .ifCond .eq 16, 3), (104, .aload_n 0, 1), (105, .dup, 1), (106, .getfield 95, 3), (109, .iconst 1, 1), (110, .iadd, 1), (111, .putfield 95, 3), (114, .goto (-31), 3), (117, .aload_n 0, 1), (118, .iconst 1, 1), (119, .putfield 105, 3), (122, .goto 112, 3), (125, .iload_n 1, 1), (126, .i2l, 1), (127, .ldc2_w 112, 3), (130, .ldc2_w 114, 3), (133, .invokestatic 81, 3), (136, .ifCond .eq 78, 3), (139, .aload_n 0, 1), (140, .iconst 0, 1), (141, .putfield 116, 3), (144, .aload_n 0, 1), (145, .aload_n 0, 1), (146, .getfield 95, 3), (149, .invokevirtual 98, 3), (152, .i2l, 1), (153, .ldc2_w 112, 3), (156, .ldc2_w 114, 3), (159, .invokestatic 81, 3), (162, .ifCond .eq 44, 3), (165, .aload_n 0, 1), (166, .ldc 119, 2), (168, .bipush 10, 2), (170, .aload_n 0, 1), (171, .getfield 116, 3), (174, .imul, 1), (175, .aload_n 0, 1), (176, .aload_n 0, 1), (177, .getfield 95, 3), (180, .invokevirtual 98, 3), (183, .iadd, 1), (184, .bipush 48, 2), (186, .isub, 1), (187, .invokestatic 120, 3), (190, .putfield 116, 3), (193, .aload_n 0, 1), (194, .dup, 1), (195, .getfield 95, 3), (198, .iconst 1, 1), (199, .iadd, 1), (200, .putfield 95, 3), (203, .goto (-59), 3), (206, .aload_n 0, 1), (207, .iconst 2, 1), (208, .putfield 105, 3), (211, .goto 23, 3), (214, .aload_n 0, 1), (215, .iconst 3, 1), (216, .putfield 105, 3), (219, .aload_n 0, 1), (220, .iload_n 1, 1), (221, .putfield 116, 3), (224, .aload_n 0, 1), (225, .dup, 1), (226, .getfield 95, 3), (229, .iconst 1, 1), (230, .iadd, 1), (231, .putfield 95, 3), (234, .return_, 1)]
theorem dt_Md_advance : am_Dec (xC X_Md_advance) T_Md_advance := by decide +kernel
def y_Md_good : MethodName := ⟨"NumberedSparksModel", "good", "()Z"⟩
abbrev X_Md_good : am_X := ("NumberedSparksModel", prog_11_method_7_code, 1, (some FieldType.boolean), "good", 0)
theorem mb_Md_good : am_mb y_Md_good X_Md_good 0 := ⟨wd_1299, wd_10, ⟨by decide +kernel, by decide +kernel⟩, by decide +kernel, by decide, rfl⟩
def T_Md_good : List (Nat × Instr × Nat) := [(0, .aload_n 0, 1), (1, .getfield 85, 3), (4, .ifCond .ne 7, 3), (7, .iconst 1, 1), (8, .goto 4, 3), (11, .iconst 0, 1), (12, .ireturn, 1)]
theorem dt_Md_good : am_Dec (xC X_Md_good) T_Md_good := by decide +kernel
def y_Md_errs : MethodName := ⟨"NumberedSparksModel", "errs", "(II)V"⟩
abbrev X_Md_errs : am_X := ("NumberedSparksModel", prog_11_method_8_code, 3, none, "errs", 1)
theorem mb_Md_errs : am_mb y_Md_errs X_Md_errs 2 := ⟨wd_1295, wd_10, ⟨by decide +kernel, by decide +kernel⟩, by decide +kernel, by decide, rfl⟩
def T_Md_errs : List (Nat × Instr × Nat) := [(0, .aload_n 0, 1), (1, .invokevirtual 88, 3), (4, .ifCond .ne 4, 3), (7, .return_, 1), (8, .aload_n 0, 1), (9, .iload_n 1, 1), (10, .putfield 85, 3), (13, .aload_n 0, 1), (14, .iload_n 2, 1), (15, .putfield 32, 3), (18, .return_, 1)]
theorem dt_Md_errs : am_Dec (xC X_Md_errs) T_Md_errs := by decide +kernel
def y_Md_isWord : MethodName := ⟨"NumberedSparksModel", "isWord", "(Ljava/lang/String;)Z"⟩
abbrev X_Md_isWord : am_X := ("NumberedSparksModel", prog_11_method_11_code, 4, (some FieldType.boolean), "isWord", 4)
theorem mb_Md_isWord : am_mb y_Md_isWord X_Md_isWord 1 := ⟨wd_1316, wd_10, ⟨by decide +kernel, by decide +kernel⟩, by decide +kernel, by decide, rfl⟩
def T_Md_isWord : List (Nat × Instr × Nat) := [(0, .aload_n 0, 1), (1, .invokevirtual 88, 3), (4, .ifCond .eq 31, 3), (7, .aload_n 0, 1), (8, .getfield 105, 3), (11, .iconst 1, 1), (12, .if_icmp .ne 23, 3), (15, .aload_n 0, 1), (16, .getfield 95, 3), (19, .aload_n 0, 1), (20, .getfield 102, 3), (23, .isub, 1), (24, .aload_n 1, 1), (25, .invokevirtual 126, 3), (28, .if_icmp .ne 7, 3), (31, .iconst 1, 1), (32, .goto 4, 3), (35, .iconst 0, 1), (36, .istore_n 2, 1), (37, .iconst 0, 1), (38, .istore_n 3, 1), (39, .iload_n 3, 1), (40, .aload_n 1, 1), (41, .invokevirtual 126, 3), (44, .if_icmp .ge 38, 3), (47, .iload_n 2, 1), (48, .ifCond .eq 34, 3), (51, .aload_n 0, 1), (52, .getfield 28, 3), (55, .aload_n 0, 1), (56, .getfield 102, 3), (59, .iload_n 3, 1), (60, .iadd, 1), (61, .baload, 1), (62, .aload_n 1, 1), (63, .iload_n 3, 1), (64, .invokevirtual 132, 3), (67, .if_icmp .ne 7, 3), (70, .iconst 1, 1), (71, .goto 4, 3), (74, .iconst 0, 1), (75, .istore_n 2, 1), (76, .iinc 3 1, 3), (79, .goto (-40), 3), (82, .iload_n 2, 1), (83, .ireturn, 1)]
theorem dt_Md_isWord : am_Dec (xC X_Md_isWord) T_Md_isWord := by decide +kernel
def y_Md_takes : MethodName := ⟨"NumberedSparksModel", "takes", "(Ljava/lang/String;)Z"⟩
abbrev X_Md_takes : am_X := ("NumberedSparksModel", prog_11_method_12_code, 2, (some FieldType.boolean), "takes", 5)
theorem mb_Md_takes : am_mb y_Md_takes X_Md_takes 1 := ⟨wd_1312, wd_10, ⟨by decide +kernel, by decide +kernel⟩, by decide +kernel, by decide, rfl⟩
def T_Md_takes : List (Nat × Instr × Nat) := [(0, .aload_n 0, 1), (1, .aload_n 1, 1), (2, .invokevirtual 136, 3), (5, .ifCond .ne 5, 3), (8, .iconst 0, 1), (9, .ireturn, 1), (10, .aload_n 0, 1), (11, .invokevirtual 140, 3), (14, .iconst 1, 1), (15, .ireturn, 1)]
theorem dt_Md_takes : am_Dec (xC X_Md_takes) T_Md_takes := by decide +kernel
def y_Md_passes : MethodName := ⟨"NumberedSparksModel", "passes", "(Ljava/lang/String;)V"⟩
abbrev X_Md_passes : am_X := ("NumberedSparksModel", prog_11_method_13_code, 2, none, "passes", 6)
theorem mb_Md_passes : am_mb y_Md_passes X_Md_passes 1 := ⟨wd_1308, wd_10, ⟨by decide +kernel, by decide +kernel⟩, by decide +kernel, by decide, rfl⟩
def T_Md_passes : List (Nat × Instr × Nat) := [(0, .aload_n 0, 1), (1, .aload_n 1, 1), (2, .invokevirtual 143, 3), (5, .ifCond .ne 12, 3), (8, .aload_n 0, 1), (9, .iconst 1, 1), (10, .aload_n 0, 1), (11, .getfield 102, 3), (14, .invokevirtual 146, 3), (17, .return_, 1)]
theorem dt_Md_passes : am_Dec (xC X_Md_passes) T_Md_passes := by decide +kernel
def y_Md_number : MethodName := ⟨"NumberedSparksModel", "number", "(II)I"⟩
abbrev X_Md_number : am_X := ("NumberedSparksModel", prog_11_method_14_code, 4, (some FieldType.int), "number", 2)
theorem mb_Md_number : am_mb y_Md_number X_Md_number 2 := ⟨wd_1322, wd_10, ⟨by decide +kernel, by decide +kernel⟩, by decide +kernel, by decide, rfl⟩
def T_Md_number : List (Nat × Instr × Nat) := [(0, .aload_n 0, 1), (1, .invokevirtual 88, 3), (4, .ifCond .eq 20, 3), (7, .aload_n 0, 1), (8, .getfield 105, 3), (11, .iconst 2, 1), (12, .if_icmp .eq 12, 3), (15, .aload_n 0, 1), (16, .iconst 1, 1), (17, .aload_n 0, 1), (18, .getfield 102, 3), (21, .invokevirtual 146, 3), (24, .aload_n 0, 1), (25, .invokevirtual 88, 3), (28, .ifCond .eq 27, 3), (31, .aload_n 0, 1), (32, .getfield 116, 3), (35, .i2l, 1), (36, .iload_n 1, 1), (37, .i2l, 1), (38, .iload_n 2, 1), (39, .i2l, 1), (40, .invokestatic 81, 3), (43, .ifCond .ne 12, 3), (46, .aload_n 0, 1), (47, .iconst 2, 1), (48, .aload_n 0, 1), (49, .getfield 102, 3), (52, .invokevirtual 146, 3), (55, .aload_n 0, 1), (56, .getfield 116, 3), (59, .istore_n 3, 1), (60, .aload_n 0, 1), (61, .invokevirtual 88, 3), (64, .ifCond .eq 7, 3), (67, .aload_n 0, 1), (68, .invokevirtual 140, 3), (71, .iload_n 3, 1), (72, .ireturn, 1)]
theorem dt_Md_number : am_Dec (xC X_Md_number) T_Md_number := by decide +kernel
def y_Md_readSeed : MethodName := ⟨"NumberedSparksModel", "readSeed", "()V"⟩
abbrev X_Md_readSeed : am_X := ("NumberedSparksModel", prog_11_method_18_code, 1, none, "readSeed", 3)
theorem mb_Md_readSeed : am_mb y_Md_readSeed X_Md_readSeed 0 := ⟨wd_1327, wd_10, ⟨by decide +kernel, by decide +kernel⟩, by decide +kernel, by decide, rfl⟩
def T_Md_readSeed : List (Nat × Instr × Nat) := [(0, .aload_n 0, 1), (1, .getfield 193, 3), (4, .ifCond .eq 12, 3), (7, .aload_n 0, 1), (8, .iconst 3, 1), (9, .aload_n 0, 1), (10, .getfield 102, 3), (13, .invokevirtual 146, 3), (16, .aload_n 0, 1), (17, .iconst 1, 1), (18, .putfield 193, 3), (21, .aload_n 0, 1), (22, .invokevirtual 88, 3), (25, .ifCond .eq 7, 3), (28, .aload_n 0, 1), (29, .invokevirtual 140, 3), (32, .aload_n 0, 1), (33, .aload_n 0, 1), (34, .iconst 0, 1), (35, .ldc 197, 2), (37, .invokevirtual 150, 3), (40, .putfield 198, 3), (43, .return_, 1)]
theorem dt_Md_readSeed : am_Dec (xC X_Md_readSeed) T_Md_readSeed := by decide +kernel
def y_Md_falls : MethodName := ⟨"NumberedSparksModel", "falls", "()I"⟩
abbrev X_Md_falls : am_X := ("NumberedSparksModel", prog_11_method_15_code, 3, (some FieldType.int), "falls", 3)
theorem mb_Md_falls : am_mb y_Md_falls X_Md_falls 0 := ⟨wd_1341, wd_10, ⟨by decide +kernel, by decide +kernel⟩, by decide +kernel, by decide, rfl⟩
def T_Md_falls : List (Nat × Instr × Nat) := [(0, .aload_n 0, 1), (1, .invokevirtual 88, 3), (4, .ifCond .eq 24, 3), (7, .aload_n 0, 1), (8, .getfield 105, 3), (11, .iconst 3, 1), (12, .if_icmp .ne 16, 3), (15, .aload_n 0, 1), (16, .getfield 116, 3), (19, .bipush 45, 2), (21, .if_icmp .ne 7, 3), (24, .iconst 1, 1), (25, .goto 4, 3), (28, .iconst 0, 1), (29, .istore_n 1, 1), (30, .iload_n 1, 1), (31, .ifCond .eq 7, 3), (34, .aload_n 0, 1), (35, .invokevirtual 140, 3), (38, .aload_n 0, 1), (39, .iconst 0, 1), (40, .bipush 9, 2), (42, .invokevirtual 150, 3), (45, .istore_n 2, 1), (46, .iload_n 1, 1), (47, .ifCond .eq 8, 3), (50, .iload_n 2, 1), (51, .ineg, 1), (52, .goto 4, 3), (55, .iload_n 2, 1), (56, .ireturn, 1)]
theorem dt_Md_falls : am_Dec (xC X_Md_falls) T_Md_falls := by decide +kernel
def y_Md_readKind : MethodName := ⟨"NumberedSparksModel", "readKind", "()V"⟩
abbrev X_Md_readKind : am_X := ("NumberedSparksModel", prog_11_method_16_code, 2, none, "readKind", 7)
theorem mb_Md_readKind : am_mb y_Md_readKind X_Md_readKind 0 := ⟨wd_1333, wd_10, ⟨by decide +kernel, by decide +kernel⟩, by decide +kernel, by decide, rfl⟩
def T_Md_readKind : List (Nat × Instr × Nat) := [(0, .aload_n 0, 1), (1, .getfield 153, 3), (4, .iconst 5, 1), (5, .if_icmp .ne 12, 3), (8, .aload_n 0, 1), (9, .iconst 3, 1), (10, .aload_n 0, 1), (11, .getfield 102, 3), (14, .invokevirtual 146, 3), (17, .aload_n 0, 1), (18, .invokevirtual 88, 3), (21, .ifCond .ne 4, 3), (24, .return_, 1), (25, .aload_n 0, 1), (26, .invokevirtual 140, 3), (29, .bipush 8, 2), (31, .aload_n 0, 1), (32, .getfield 153, 3), (35, .imul, 1), (36, .istore_n 1, 1), (37, .aload_n 0, 1), (38, .ldc 156, 2), (40, .invokevirtual 158, 3), (43, .aload_n 0, 1), (44, .getfield 22, 3), (47, .iload_n 1, 1), (48, .iconst 0, 1), (49, .iadd, 1), (50, .aload_n 0, 1), (51, .iconst 1, 1), (52, .bipush 40, 2), (54, .invokevirtual 150, 3), (57, .iastore, 1), (58, .aload_n 0, 1), (59, .getfield 22, 3), (62, .iload_n 1, 1), (63, .iconst 1, 1), (64, .iadd, 1), (65, .aload_n 0, 1), (66, .ldc 162, 2), (68, .invokevirtual 143, 3), (71, .ifCond .eq 13, 3), (74, .aload_n 0, 1), (75, .iconst 0, 1), (76, .bipush 20, 2), (78, .invokevirtual 150, 3), (81, .goto 4, 3), (84, .iconst 0, 1), (85, .iastore, 1), (86, .aload_n 0, 1), (87, .getfield 22, 3), (90, .iload_n 1, 1), (91, .iconst 2, 1), (92, .iadd, 1), (93, .aload_n 0, 1), (94, .ldc 164, 2), (96, .invokevirtual 143, 3), (99, .ifCond .eq 13, 3), (102, .aload_n 0, 1), (103, .iconst 0, 1), (104, .bipush 20, 2), (106, .invokevirtual 150, 3), (109, .goto 4, 3), (112, .iconst 0, 1), (113, .iastore, 1), (114, .aload_n 0, 1), (115, .getfield 22, 3), (118, .iload_n 1, 1), (119, .iconst 3, 1), (120, .iadd, 1), (121, .aload_n 0, 1), (122, .ldc 165, 2), (124, .invokevirtual 143, 3), (127, .ifCond .eq 10, 3), (130, .aload_n 0, 1), (131, .invokevirtual 167, 3), (134, .goto 4, 3), (137, .iconst 0, 1), (138, .iastore, 1), (139, .aload_n 0, 1), (140, .getfield 22, 3), (143, .iload_n 1, 1), (144, .iconst 4, 1), (145, .iadd, 1), (146, .aload_n 0, 1), (147, .ldc 169, 2), (149, .invokevirtual 143, 3), (152, .ifCond .eq 13, 3), (155, .aload_n 0, 1), (156, .iconst 1, 1), (157, .bipush 9, 2), (159, .invokevirtual 150, 3), (162, .goto 4, 3), (165, .iconst 1, 1), (166, .iastore, 1), (167, .aload_n 0, 1), (168, .getfield 22, 3), (171, .iload_n 1, 1), (172, .iconst 5, 1), (173, .iadd, 1), (174, .aload_n 0, 1), (175, .ldc 170, 2), (177, .invokevirtual 143, 3), (180, .ifCond .eq 7, 3), (183, .iconst 0, 1), (184, .goto 30, 3), (187, .aload_n 0, 1), (188, .ldc 172, 2), (190, .invokevirtual 143, 3), (193, .ifCond .eq 7, 3), (196, .iconst 1, 1), (197, .goto 17, 3), (200, .aload_n 0, 1), (201, .ldc 174, 2), (203, .invokevirtual 143, 3), (206, .ifCond .eq 7, 3), (209, .iconst 2, 1), (210, .goto 4, 3), (213, .iconst 0, 1), (214, .iastore, 1), (215, .aload_n 0, 1), (216, .getfield 22, 3), (219, .iload_n 1, 1), (220, .bipush 6, 2), (222, .iadd, 1), (223, .iconst 0, 1), (224, .iastore, 1), (225, .aload_n 0, 1), (226, .getfield 22, 3), (229, .iload_n 1, 1), (230, .bipush 7, 2), (232, .iadd, 1), (233, .iconst (-1), 1), (234, .iastore, 1), (235, .aload_n 0, 1), (236, .ldc 176, 2), (238, .invokevirtual 143, 3), (241, .ifCond .eq 44, 3), (244, .aload_n 0, 1), (245, .getfield 22, 3), (248, .iload_n 1, 1), (249, .bipush 6, 2), (251, .iadd, 1), (252, .aload_n 0, 1), (253, .iconst 1, 1), (254, .iconst 2, 1), (255, .invokevirtual 150, 3), (258, .iastore, 1), (259, .aload_n 0, 1), (260, .ldc 178, 2), (262, .invokevirtual 158, 3), (265, .aload_n 0, 1), (266, .getfield 22, 3), (269, .iload_n 1, 1), (270, .bipush 7, 2), (272, .iadd, 1), (273, .aload_n 0, 1), (274, .iconst 0, 1), (275, .aload_n 0, 1), (276, .getfield 153, 3), (279, .iconst 1, 1), (280, .isub, 1), (281, .invokevirtual 150, 3), (284, .iastore, 1), (285, .aload_n 0, 1), (286, .dup, 1), (287, .getfield 153, 3), (290, .iconst 1, 1), (291, .iadd, 1), (292, .putfield 153, 3), (295, .return_, 1)]
theorem dt_Md_readKind : am_Dec (xC X_Md_readKind) T_Md_readKind := by decide +kernel
def y_Md_readSource : MethodName := ⟨"NumberedSparksModel", "readSource", "()V"⟩
abbrev X_Md_readSource : am_X := ("NumberedSparksModel", prog_11_method_17_code, 3, none, "readSource", 7)
theorem mb_Md_readSource : am_mb y_Md_readSource X_Md_readSource 0 := ⟨wd_1352, wd_10, ⟨by decide +kernel, by decide +kernel⟩, by decide +kernel, by decide, rfl⟩
def T_Md_readSource : List (Nat × Instr × Nat) := [(0, .aload_n 0, 1), (1, .getfield 180, 3), (4, .iconst 4, 1), (5, .if_icmp .ne 12, 3), (8, .aload_n 0, 1), (9, .iconst 3, 1), (10, .aload_n 0, 1), (11, .getfield 102, 3), (14, .invokevirtual 146, 3), (17, .aload_n 0, 1), (18, .invokevirtual 88, 3), (21, .ifCond .ne 4, 3), (24, .return_, 1), (25, .aload_n 0, 1), (26, .invokevirtual 140, 3), (29, .bipush 9, 2), (31, .aload_n 0, 1), (32, .getfield 180, 3), (35, .imul, 1), (36, .istore_n 1, 1), (37, .aload_n 0, 1), (38, .getfield 25, 3), (41, .iload_n 1, 1), (42, .iconst 0, 1), (43, .iadd, 1), (44, .aload_n 0, 1), (45, .iconst 0, 1), (46, .aload_n 0, 1), (47, .getfield 153, 3), (50, .iconst 1, 1), (51, .isub, 1), (52, .invokevirtual 150, 3), (55, .iastore, 1), (56, .aload_n 0, 1), (57, .ldc 183, 2), (59, .invokevirtual 158, 3), (62, .iconst 0, 1), (63, .istore_n 2, 1), (64, .iload_n 2, 1), (65, .iconst 3, 1), (66, .if_icmp .ge 32, 3), (69, .aload_n 0, 1), (70, .getfield 25, 3), (73, .iload_n 1, 1), (74, .iconst 1, 1), (75, .iadd, 1), (76, .iload_n 2, 1), (77, .iadd, 1), (78, .aload_n 0, 1), (79, .iconst 0, 1), (80, .aload_n 0, 1), (81, .getfield 19, 3), (84, .iload_n 2, 1), (85, .iaload, 1), (86, .iconst 1, 1), (87, .isub, 1), (88, .invokevirtual 150, 3), (91, .iastore, 1), (92, .iinc 2 1, 3), (95, .goto (-31), 3), (98, .aload_n 0, 1), (99, .ldc 184, 2), (101, .invokevirtual 158, 3), (104, .aload_n 0, 1), (105, .getfield 25, 3), (108, .iload_n 1, 1), (109, .iconst 4, 1), (110, .iadd, 1), (111, .aload_n 0, 1), (112, .iconst 0, 1), (113, .sipush 9999, 3), (116, .invokevirtual 150, 3), (119, .iastore, 1), (120, .aload_n 0, 1), (121, .ldc 185, 2), (123, .invokevirtual 158, 3), (126, .aload_n 0, 1), (127, .getfield 25, 3), (130, .iload_n 1, 1), (131, .iconst 5, 1), (132, .iadd, 1), (133, .aload_n 0, 1), (134, .iconst 1, 1), (135, .bipush 99, 2), (137, .invokevirtual 150, 3), (140, .iastore, 1), (141, .aload_n 0, 1), (142, .getfield 25, 3), (145, .iload_n 1, 1), (146, .bipush 6, 2), (148, .iadd, 1), (149, .aload_n 0, 1), (150, .ldc 187, 2), (152, .invokevirtual 143, 3), (155, .ifCond .eq 12, 3), (158, .aload_n 0, 1), (159, .iconst 1, 1), (160, .iconst 5, 1), (161, .invokevirtual 150, 3), (164, .goto 4, 3), (167, .iconst 1, 1), (168, .iastore, 1), (169, .aload_n 0, 1), (170, .getfield 25, 3), (173, .iload_n 1, 1), (174, .bipush 7, 2), (176, .iadd, 1), (177, .aload_n 0, 1), (178, .ldc 189, 2), (180, .invokevirtual 143, 3), (183, .ifCond .eq 14, 3), (186, .aload_n 0, 1), (187, .iconst 0, 1), (188, .sipush 9999, 3), (191, .invokevirtual 150, 3), (194, .goto 6, 3), (197, .sipush 9999, 3), (200, .iastore, 1), (201, .aload_n 0, 1), (202, .getfield 25, 3), (205, .iload_n 1, 1), (206, .bipush 8, 2), (208, .iadd, 1), (209, .aload_n 0, 1), (210, .ldc 191, 2), (212, .invokevirtual 143, 3), (215, .ifCond .eq 13, 3), (218, .aload_n 0, 1), (219, .iconst 0, 1), (220, .bipush 20, 2), (222, .invokevirtual 150, 3), (225, .goto 4, 3), (228, .iconst 0, 1), (229, .iastore, 1), (230, .aload_n 0, 1), (231, .dup, 1), (232, .getfield 180, 3), (235, .iconst 1, 1), (236, .iadd, 1), (237, .putfield 180, 3), (240, .return_, 1)]
theorem dt_Md_readSource : am_Dec (xC X_Md_readSource) T_Md_readSource := by decide +kernel
def y_Md_readLine : MethodName := ⟨"NumberedSparksModel", "readLine", "(I)V"⟩
abbrev X_Md_readLine : am_X := ("NumberedSparksModel", prog_11_method_19_code, 3, none, "readLine", 8)
theorem mb_Md_readLine : am_mb y_Md_readLine X_Md_readLine 1 := ⟨wd_1303, wd_10, ⟨by decide +kernel, by decide +kernel⟩, by decide +kernel, by decide, rfl⟩
def T_Md_readLine : List (Nat × Instr × Nat) := [(0, .iload_n 1, 1), (1, .ifCond .ne 38, 3), (4, .aload_n 0, 1), (5, .ldc 201, 2), (7, .invokevirtual 158, 3), (10, .iconst 0, 1), (11, .istore_n 2, 1), (12, .iload_n 2, 1), (13, .iconst 3, 1), (14, .if_icmp .ge 22, 3), (17, .aload_n 0, 1), (18, .getfield 19, 3), (21, .iload_n 2, 1), (22, .aload_n 0, 1), (23, .iconst 1, 1), (24, .bipush 40, 2), (26, .invokevirtual 150, 3), (29, .iastore, 1), (30, .iinc 2 1, 3), (33, .goto (-21), 3), (36, .goto 60, 3), (39, .aload_n 0, 1), (40, .ldc 203, 2), (42, .invokevirtual 136, 3), (45, .ifCond .eq 10, 3), (48, .aload_n 0, 1), (49, .invokevirtual 205, 3), (52, .goto 44, 3), (55, .aload_n 0, 1), (56, .ldc 208, 2), (58, .invokevirtual 136, 3), (61, .ifCond .eq 10, 3), (64, .aload_n 0, 1), (65, .invokevirtual 209, 3), (68, .goto 28, 3), (71, .aload_n 0, 1), (72, .ldc 212, 2), (74, .invokevirtual 136, 3), (77, .ifCond .eq 10, 3), (80, .aload_n 0, 1), (81, .invokevirtual 213, 3), (84, .goto 12, 3), (87, .aload_n 0, 1), (88, .iconst 1, 1), (89, .aload_n 0, 1), (90, .getfield 102, 3), (93, .invokevirtual 146, 3), (96, .aload_n 0, 1), (97, .invokevirtual 88, 3), (100, .ifCond .eq 29, 3), (103, .aload_n 0, 1), (104, .getfield 105, 3), (107, .iconst 3, 1), (108, .if_icmp .ne 12, 3), (111, .aload_n 0, 1), (112, .getfield 116, 3), (115, .bipush 59, 2), (117, .if_icmp .eq 12, 3), (120, .aload_n 0, 1), (121, .iconst 1, 1), (122, .aload_n 0, 1), (123, .getfield 102, 3), (126, .invokevirtual 146, 3), (129, .aload_n 0, 1), (130, .invokevirtual 88, 3), (133, .ifCond .eq 7, 3), (136, .aload_n 0, 1), (137, .invokevirtual 140, 3), (140, .return_, 1)]
theorem dt_Md_readLine : am_Dec (xC X_Md_readLine) T_Md_readLine := by decide +kernel
def y_Md_scene : MethodName := ⟨"NumberedSparksModel", "scene", "()I"⟩
abbrev X_Md_scene : am_X := ("NumberedSparksModel", prog_11_method_20_code, 3, (some FieldType.int), "scene", 9)
theorem mb_Md_scene : am_mb y_Md_scene X_Md_scene 0 := ⟨wd_1277, wd_10, ⟨by decide +kernel, by decide +kernel⟩, by decide +kernel, by decide, rfl⟩
def T_Md_scene : List (Nat × Instr × Nat) := [(0, .aload_n 0, 1), (1, .aload_n 0, 1), (2, .getfield 74, 3), (5, .putfield 92, 3), (8, .aload_n 0, 1), (9, .iconst 0, 1), (10, .putfield 74, 3), (13, .aload_n 0, 1), (14, .iconst 0, 1), (15, .putfield 95, 3), (18, .aload_n 0, 1), (19, .iconst 0, 1), (20, .putfield 85, 3), (23, .aload_n 0, 1), (24, .iconst (-1), 1), (25, .putfield 32, 3), (28, .aload_n 0, 1), (29, .iconst 0, 1), (30, .putfield 198, 3), (33, .aload_n 0, 1), (34, .iconst 0, 1), (35, .putfield 153, 3), (38, .aload_n 0, 1), (39, .iconst 0, 1), (40, .putfield 180, 3), (43, .aload_n 0, 1), (44, .iconst 0, 1), (45, .putfield 193, 3), (48, .aload_n 0, 1), (49, .invokevirtual 140, 3), (52, .iconst 0, 1), (53, .istore_n 1, 1), (54, .aload_n 0, 1), (55, .getfield 105, 3), (58, .ifCond .ne 12, 3), (61, .aload_n 0, 1), (62, .iconst 1, 1), (63, .aload_n 0, 1), (64, .getfield 102, 3), (67, .invokevirtual 146, 3), (70, .aload_n 0, 1), (71, .invokevirtual 88, 3), (74, .ifCond .eq 21, 3), (77, .aload_n 0, 1), (78, .getfield 105, 3), (81, .ifCond .eq 14, 3), (84, .aload_n 0, 1), (85, .iload_n 1, 1), (86, .invokevirtual 216, 3), (89, .iinc 1 1, 3), (92, .goto (-22), 3), (95, .aload_n 0, 1), (96, .invokevirtual 88, 3), (99, .ifCond .ne 6, 3), (102, .bipush (-4), 2), (104, .ireturn, 1), (105, .aload_n 0, 1), (106, .iconst 1, 1), (107, .putfield 219, 3), (110, .iconst 0, 1), (111, .istore_n 2, 1), (112, .iload_n 2, 1), (113, .iconst 3, 1), (114, .if_icmp .ge 21, 3), (117, .aload_n 0, 1), (118, .getfield 7, 3), (121, .iload_n 2, 1), (122, .aload_n 0, 1), (123, .getfield 19, 3), (126, .iload_n 2, 1), (127, .iaload, 1), (128, .iastore, 1), (129, .iinc 2 1, 3), (132, .goto (-20), 3), (135, .aload_n 0, 1), (136, .aload_n 0, 1), (137, .getfield 198, 3), (140, .putfield 222, 3), (143, .aload_n 0, 1), (144, .aload_n 0, 1), (145, .getfield 153, 3), (148, .putfield 224, 3), (151, .aload_n 0, 1), (152, .aload_n 0, 1), (153, .getfield 180, 3), (156, .putfield 227, 3), (159, .iconst 0, 1), (160, .istore_n 2, 1), (161, .iload_n 2, 1), (162, .bipush 8, 2), (164, .aload_n 0, 1), (165, .getfield 224, 3), (168, .imul, 1), (169, .if_icmp .ge 21, 3), (172, .aload_n 0, 1), (173, .getfield 13, 3), (176, .iload_n 2, 1), (177, .aload_n 0, 1), (178, .getfield 22, 3), (181, .iload_n 2, 1), (182, .iaload, 1), (183, .iastore, 1), (184, .iinc 2 1, 3), (187, .goto (-26), 3), (190, .iconst 0, 1), (191, .istore_n 2, 1), (192, .iload_n 2, 1), (193, .bipush 9, 2), (195, .aload_n 0, 1), (196, .getfield 227, 3), (199, .imul, 1), (200, .if_icmp .ge 21, 3), (203, .aload_n 0, 1), (204, .getfield 16, 3), (207, .iload_n 2, 1), (208, .aload_n 0, 1), (209, .getfield 25, 3), (212, .iload_n 2, 1), (213, .iaload, 1), (214, .iastore, 1), (215, .iinc 2 1, 3), (218, .goto (-26), 3), (221, .aload_n 0, 1), (222, .iconst 0, 1), (223, .putfield 230, 3), (226, .iload_n 1, 1), (227, .ireturn, 1)]
theorem dt_Md_scene : am_Dec (xC X_Md_scene) T_Md_scene := by decide +kernel
def y_Md_fault : MethodName := ⟨"NumberedSparksModel", "fault", "(I)I"⟩
abbrev X_Md_fault : am_X := ("NumberedSparksModel", prog_11_method_21_code, 2, (some FieldType.int), "fault", 0)
theorem mb_Md_fault : am_mb y_Md_fault X_Md_fault 1 := ⟨wd_1362, wd_10, ⟨by decide +kernel, by decide +kernel⟩, by decide +kernel, by decide, rfl⟩
def T_Md_fault : List (Nat × Instr × Nat) := [(0, .iload_n 1, 1), (1, .ifCond .ne 10, 3), (4, .aload_n 0, 1), (5, .getfield 85, 3), (8, .goto 16, 3), (11, .iload_n 1, 1), (12, .iconst 1, 1), (13, .if_icmp .ne 10, 3), (16, .aload_n 0, 1), (17, .getfield 32, 3), (20, .goto 4, 3), (23, .iconst (-1), 1), (24, .ireturn, 1)]
theorem dt_Md_fault : am_Dec (xC X_Md_fault) T_Md_fault := by decide +kernel
def y_Md_count : MethodName := ⟨"NumberedSparksModel", "count", "(I)I"⟩
abbrev X_Md_count : am_X := ("NumberedSparksModel", prog_11_method_22_code, 2, (some FieldType.int), "count", 0)
theorem mb_Md_count : am_mb y_Md_count X_Md_count 1 := ⟨wd_1366, wd_10, ⟨by decide +kernel, by decide +kernel⟩, by decide +kernel, by decide, rfl⟩
def T_Md_count : List (Nat × Instr × Nat) := [(0, .iload_n 1, 1), (1, .tableswitch 90 0 7 #[47, 47, 47, 65, 70, 75, 80, 85], 47), (48, .aload_n 0, 1), (49, .getfield 219, 3), (52, .ifCond .eq 12, 3), (55, .aload_n 0, 1), (56, .getfield 7, 3), (59, .iload_n 1, 1), (60, .iaload, 1), (61, .goto 4, 3), (64, .iconst 0, 1), (65, .ireturn, 1), (66, .aload_n 0, 1), (67, .getfield 224, 3), (70, .ireturn, 1), (71, .aload_n 0, 1), (72, .getfield 227, 3), (75, .ireturn, 1), (76, .aload_n 0, 1), (77, .getfield 222, 3), (80, .ireturn, 1), (81, .aload_n 0, 1), (82, .getfield 74, 3), (85, .ireturn, 1), (86, .aload_n 0, 1), (87, .getfield 233, 3), (90, .ireturn, 1), (91, .iconst (-1), 1), (92, .ireturn, 1)]
theorem dt_Md_count : am_Dec (xC X_Md_count) T_Md_count := by decide +kernel
def y_Md_kind : MethodName := ⟨"NumberedSparksModel", "kind", "(II)I"⟩
abbrev X_Md_kind : am_X := ("NumberedSparksModel", prog_11_method_23_code, 3, (some FieldType.int), "kind", 1)
theorem mb_Md_kind : am_mb y_Md_kind X_Md_kind 2 := ⟨wd_1370, wd_10, ⟨by decide +kernel, by decide +kernel⟩, by decide +kernel, by decide, rfl⟩
def T_Md_kind : List (Nat × Instr × Nat) := [(0, .iload_n 1, 1), (1, .i2l, 1), (2, .lconst 0, 1), (3, .aload_n 0, 1), (4, .getfield 224, 3), (7, .iconst 1, 1), (8, .isub, 1), (9, .i2l, 1), (10, .invokestatic 81, 3), (13, .ifCond .eq 29, 3), (16, .iload_n 2, 1), (17, .i2l, 1), (18, .lconst 0, 1), (19, .ldc2_w 236, 3), (22, .invokestatic 81, 3), (25, .ifCond .eq 17, 3), (28, .aload_n 0, 1), (29, .getfield 13, 3), (32, .bipush 8, 2), (34, .iload_n 1, 1), (35, .imul, 1), (36, .iload_n 2, 1), (37, .iadd, 1), (38, .iaload, 1), (39, .goto 5, 3), (42, .bipush (-99), 2), (44, .ireturn, 1)]
theorem dt_Md_kind : am_Dec (xC X_Md_kind) T_Md_kind := by decide +kernel
def y_Md_ofSource : MethodName := ⟨"NumberedSparksModel", "ofSource", "(II)I"⟩
abbrev X_Md_ofSource : am_X := ("NumberedSparksModel", prog_11_method_24_code, 3, (some FieldType.int), "ofSource", 0)
theorem mb_Md_ofSource : am_mb y_Md_ofSource X_Md_ofSource 2 := ⟨wd_1388, wd_10, ⟨by decide +kernel, by decide +kernel⟩, by decide +kernel, by decide, rfl⟩
def T_Md_ofSource : List (Nat × Instr × Nat) := [(0, .aload_n 0, 1), (1, .getfield 16, 3), (4, .bipush 9, 2), (6, .iload_n 1, 1), (7, .imul, 1), (8, .iload_n 2, 1), (9, .iadd, 1), (10, .iaload, 1), (11, .ireturn, 1)]
theorem dt_Md_ofSource : am_Dec (xC X_Md_ofSource) T_Md_ofSource := by decide +kernel
def y_Md_groups : MethodName := ⟨"NumberedSparksModel", "groups", "(I)I"⟩
abbrev X_Md_groups : am_X := ("NumberedSparksModel", prog_11_method_25_code, 3, (some FieldType.int), "groups", 1)
theorem mb_Md_groups : am_mb y_Md_groups X_Md_groups 1 := ⟨wd_1384, wd_10, ⟨by decide +kernel, by decide +kernel⟩, by decide +kernel, by decide, rfl⟩
def T_Md_groups : List (Nat × Instr × Nat) := [(0, .aload_n 0, 1), (1, .iload_n 1, 1), (2, .bipush 7, 2), (4, .invokevirtual 238, 3), (7, .aload_n 0, 1), (8, .iload_n 1, 1), (9, .iconst 4, 1), (10, .invokevirtual 238, 3), (13, .isub, 1), (14, .istore_n 2, 1), (15, .iload_n 2, 1), (16, .ifCond .ge 7, 3), (19, .iconst 0, 1), (20, .goto 13, 3), (23, .iload_n 2, 1), (24, .aload_n 0, 1), (25, .iload_n 1, 1), (26, .iconst 5, 1), (27, .invokevirtual 238, 3), (30, .idiv, 1), (31, .iconst 1, 1), (32, .iadd, 1), (33, .ireturn, 1)]
theorem dt_Md_groups : am_Dec (xC X_Md_groups) T_Md_groups := by decide +kernel
def y_Md_roots : MethodName := ⟨"NumberedSparksModel", "roots", "(I)I"⟩
abbrev X_Md_roots : am_X := ("NumberedSparksModel", prog_11_method_26_code, 2, (some FieldType.int), "roots", 2)
theorem mb_Md_roots : am_mb y_Md_roots X_Md_roots 1 := ⟨wd_1380, wd_10, ⟨by decide +kernel, by decide +kernel⟩, by decide +kernel, by decide, rfl⟩
def T_Md_roots : List (Nat × Instr × Nat) := [(0, .aload_n 0, 1), (1, .iload_n 1, 1), (2, .invokevirtual 241, 3), (5, .aload_n 0, 1), (6, .iload_n 1, 1), (7, .bipush 6, 2), (9, .invokevirtual 238, 3), (12, .imul, 1), (13, .ireturn, 1)]
theorem dt_Md_roots : am_Dec (xC X_Md_roots) T_Md_roots := by decide +kernel
def y_Md_source : MethodName := ⟨"NumberedSparksModel", "source", "(II)I"⟩
abbrev X_Md_source : am_X := ("NumberedSparksModel", prog_11_method_27_code, 3, (some FieldType.int), "source", 3)
theorem mb_Md_source : am_mb y_Md_source X_Md_source 2 := ⟨wd_1375, wd_10, ⟨by decide +kernel, by decide +kernel⟩, by decide +kernel, by decide, rfl⟩
def T_Md_source : List (Nat × Instr × Nat) := [(0, .iload_n 1, 1), (1, .i2l, 1), (2, .lconst 0, 1), (3, .aload_n 0, 1), (4, .getfield 227, 3), (7, .iconst 1, 1), (8, .isub, 1), (9, .i2l, 1), (10, .invokestatic 81, 3), (13, .ifCond .eq 15, 3), (16, .iload_n 2, 1), (17, .i2l, 1), (18, .lconst 0, 1), (19, .ldc2_w 244, 3), (22, .invokestatic 81, 3), (25, .ifCond .ne 6, 3), (28, .bipush (-2), 2), (30, .ireturn, 1), (31, .iload_n 2, 1), (32, .bipush 9, 2), (34, .if_icmp .ne 11, 3), (37, .aload_n 0, 1), (38, .iload_n 1, 1), (39, .invokevirtual 246, 3), (42, .goto 9, 3), (45, .aload_n 0, 1), (46, .iload_n 1, 1), (47, .iload_n 2, 1), (48, .invokevirtual 238, 3), (51, .ireturn, 1)]
theorem dt_Md_source : am_Dec (xC X_Md_source) T_Md_source := by decide +kernel
def y_Md_keeps : MethodName := ⟨"NumberedSparksModel", "keeps", "(II)V"⟩
abbrev X_Md_keeps : am_X := ("NumberedSparksModel", prog_11_method_28_code, 4, none, "keeps", 0)
theorem mb_Md_keeps : am_mb y_Md_keeps X_Md_keeps 2 := ⟨wd_1397, wd_10, ⟨by decide +kernel, by decide +kernel⟩, by decide +kernel, by decide, rfl⟩
def T_Md_keeps : List (Nat × Instr × Nat) := [(0, .aload_n 0, 1), (1, .getfield 230, 3), (4, .bipush 10, 2), (6, .if_icmp .ne 55, 3), (9, .iconst 1, 1), (10, .istore_n 3, 1), (11, .iload_n 3, 1), (12, .bipush 10, 2), (14, .if_icmp .ge 37, 3), (17, .aload_n 0, 1), (18, .getfield 36, 3), (21, .iload_n 3, 1), (22, .iconst 1, 1), (23, .isub, 1), (24, .aload_n 0, 1), (25, .getfield 36, 3), (28, .iload_n 3, 1), (29, .iaload, 1), (30, .iastore, 1), (31, .aload_n 0, 1), (32, .getfield 39, 3), (35, .iload_n 3, 1), (36, .iconst 1, 1), (37, .isub, 1), (38, .aload_n 0, 1), (39, .getfield 39, 3), (42, .iload_n 3, 1), (43, .iaload, 1), (44, .iastore, 1), (45, .iinc 3 1, 3), (48, .goto (-37), 3), (51, .aload_n 0, 1), (52, .dup, 1), (53, .getfield 230, 3), (56, .iconst 1, 1), (57, .isub, 1), (58, .putfield 230, 3), (61, .aload_n 0, 1), (62, .getfield 36, 3), (65, .aload_n 0, 1), (66, .getfield 230, 3), (69, .iload_n 1, 1), (70, .iastore, 1), (71, .aload_n 0, 1), (72, .getfield 39, 3), (75, .aload_n 0, 1), (76, .getfield 230, 3), (79, .iload_n 2, 1), (80, .iastore, 1), (81, .aload_n 0, 1), (82, .dup, 1), (83, .getfield 230, 3), (86, .iconst 1, 1), (87, .iadd, 1), (88, .putfield 230, 3), (91, .return_, 1)]
theorem dt_Md_keeps : am_Dec (xC X_Md_keeps) T_Md_keeps := by decide +kernel
def y_Md_seed : MethodName := ⟨"NumberedSparksModel", "seed", "(I)I"⟩
abbrev X_Md_seed : am_X := ("NumberedSparksModel", prog_11_method_29_code, 3, (some FieldType.int), "seed", 1)
theorem mb_Md_seed : am_mb y_Md_seed X_Md_seed 1 := ⟨wd_1392, wd_10, ⟨by decide +kernel, by decide +kernel⟩, by decide +kernel, by decide, rfl⟩
def T_Md_seed : List (Nat × Instr × Nat) := [(0, .aload_n 0, 1), (1, .getfield 219, 3), (4, .ifCond .eq 15, 3), (7, .iload_n 1, 1), (8, .i2l, 1), (9, .lconst 0, 1), (10, .ldc2_w 249, 3), (13, .invokestatic 81, 3), (16, .ifCond .ne 6, 3), (19, .bipush (-2), 2), (21, .ireturn, 1), (22, .aload_n 0, 1), (23, .getfield 222, 3), (26, .istore_n 2, 1), (27, .iload_n 2, 1), (28, .iload_n 1, 1), (29, .if_icmp .eq 9, 3), (32, .aload_n 0, 1), (33, .iconst (-1), 1), (34, .iload_n 2, 1), (35, .invokevirtual 251, 3), (38, .aload_n 0, 1), (39, .iload_n 1, 1), (40, .putfield 222, 3), (43, .iload_n 2, 1), (44, .ireturn, 1)]
theorem dt_Md_seed : am_Dec (xC X_Md_seed) T_Md_seed := by decide +kernel
def y_Md_sets : MethodName := ⟨"NumberedSparksModel", "sets", "(III)I"⟩
abbrev X_Md_sets : am_X := ("NumberedSparksModel", prog_11_method_30_code, 8, (some FieldType.int), "sets", 1)
theorem mb_Md_sets : am_mb y_Md_sets X_Md_sets 3 := ⟨wd_1401, wd_10, ⟨by decide +kernel, by decide +kernel⟩, by decide +kernel, by decide, rfl⟩
def T_Md_sets : List (Nat × Instr × Nat) := [(0, .iload_n 2, 1), (1, .ifCond .eq 8, 3), (4, .iload_n 2, 1), (5, .iconst 4, 1), (6, .if_icmp .ne 7, 3), (9, .iconst 1, 1), (10, .goto 14, 3), (13, .iload_n 2, 1), (14, .iconst 3, 1), (15, .if_icmp .ne 8, 3), (18, .bipush (-9), 2), (20, .goto 4, 3), (23, .iconst 0, 1), (24, .istore 4, 2), (26, .iload_n 2, 1), (27, .ifCond .ne 8, 3), (30, .bipush 40, 2), (32, .goto 20, 3), (35, .iload_n 2, 1), (36, .iconst 3, 1), (37, .if_icmp .eq 8, 3), (40, .iload_n 2, 1), (41, .iconst 4, 1), (42, .if_icmp .ne 8, 3), (45, .bipush 9, 2), (47, .goto 5, 3), (50, .bipush 20, 2), (52, .istore 5, 2), (54, .iload_n 1, 1), (55, .i2l, 1), (56, .lconst 0, 1), (57, .aload_n 0, 1), (58, .getfield 224, 3), (61, .iconst 1, 1), (62, .isub, 1), (63, .i2l, 1), (64, .invokestatic 81, 3), (67, .ifCond .eq 29, 3), (70, .iload_n 2, 1), (71, .i2l, 1), (72, .lconst 0, 1), (73, .ldc2_w 254, 3), (76, .invokestatic 81, 3), (79, .ifCond .eq 17, 3), (82, .iload_n 3, 1), (83, .i2l, 1), (84, .iload 4, 2), (86, .i2l, 1), (87, .iload 5, 2), (89, .i2l, 1), (90, .invokestatic 81, 3), (93, .ifCond .ne 6, 3), (96, .bipush (-99), 2), (98, .ireturn, 1), (99, .bipush 8, 2), (101, .iload_n 1, 1), (102, .imul, 1), (103, .iload_n 2, 1), (104, .iadd, 1), (105, .istore 6, 2), (107, .aload_n 0, 1), (108, .getfield 13, 3), (111, .iload 6, 2), (113, .iaload, 1), (114, .istore 7, 2), (116, .iload 7, 2), (118, .iload_n 3, 1), (119, .if_icmp .eq 11, 3), (122, .aload_n 0, 1), (123, .iload 6, 2), (125, .iload 7, 2), (127, .invokevirtual 251, 3), (130, .aload_n 0, 1), (131, .getfield 13, 3), (134, .iload 6, 2), (136, .iload_n 3, 1), (137, .iastore, 1), (138, .iload 7, 2), (140, .ireturn, 1)]
theorem dt_Md_sets : am_Dec (xC X_Md_sets) T_Md_sets := by decide +kernel
def y_Md_undo : MethodName := ⟨"NumberedSparksModel", "undo", "()I"⟩
abbrev X_Md_undo : am_X := ("NumberedSparksModel", prog_11_method_31_code, 1, (some FieldType.int), "undo", 0)
theorem mb_Md_undo : am_mb y_Md_undo X_Md_undo 0 := ⟨wd_1406, wd_10, ⟨by decide +kernel, by decide +kernel⟩, by decide +kernel, by decide, rfl⟩
def T_Md_undo : List (Nat × Instr × Nat) := [(0, .aload_n 0, 1), (1, .getfield 219, 3), (4, .ifCond .ne 6, 3), (7, .bipush (-2), 2), (9, .ireturn, 1), (10, .aload_n 0, 1), (11, .getfield 230, 3), (14, .ifCond .ne 5, 3), (17, .iconst (-1), 1), (18, .ireturn, 1), (19, .aload_n 0, 1), (20, .dup, 1), (21, .getfield 230, 3), (24, .iconst 1, 1), (25, .isub, 1), (26, .putfield 230, 3), (29, .aload_n 0, 1), (30, .getfield 36, 3), (33, .aload_n 0, 1), (34, .getfield 230, 3), (37, .iaload, 1), (38, .iconst (-1), 1), (39, .if_icmp .ne 19, 3), (42, .aload_n 0, 1), (43, .aload_n 0, 1), (44, .getfield 39, 3), (47, .aload_n 0, 1), (48, .getfield 230, 3), (51, .iaload, 1), (52, .putfield 222, 3), (55, .goto 26, 3), (58, .aload_n 0, 1), (59, .getfield 13, 3), (62, .aload_n 0, 1), (63, .getfield 36, 3), (66, .aload_n 0, 1), (67, .getfield 230, 3), (70, .iaload, 1), (71, .aload_n 0, 1), (72, .getfield 39, 3), (75, .aload_n 0, 1), (76, .getfield 230, 3), (79, .iaload, 1), (80, .iastore, 1), (81, .aload_n 0, 1), (82, .getfield 230, 3), (85, .ireturn, 1)]
theorem dt_Md_undo : am_Dec (xC X_Md_undo) T_Md_undo := by decide +kernel
def y_Md_mixedOf : MethodName := ⟨"NumberedSparksModel", "mixedOf", "(II)J"⟩
abbrev X_Md_mixedOf : am_X := ("NumberedSparksModel", prog_11_method_32_code, 5, (some FieldType.long), "mixedOf", 0)
theorem mb_Md_mixedOf : am_mb y_Md_mixedOf X_Md_mixedOf 2 := ⟨wd_1414, wd_10, ⟨by decide +kernel, by decide +kernel⟩, by decide +kernel, by decide, rfl⟩
def T_Md_mixedOf : List (Nat × Instr × Nat) := [(0, .aload_n 0, 1), (1, .getfield 222, 3), (4, .i2l, 1), (5, .iload_n 1, 1), (6, .i2l, 1), (7, .ldc2_w 256, 3), (10, .lmul, 1), (11, .ladd, 1), (12, .iload_n 2, 1), (13, .i2l, 1), (14, .ldc2_w 258, 3), (17, .lmul, 1), (18, .ladd, 1), (19, .lstore_n 3, 1), (20, .lload_n 3, 1), (21, .lload_n 3, 1), (22, .bipush 30, 2), (24, .lushr, 1), (25, .lxor, 1), (26, .ldc2_w 260, 3), (29, .lmul, 1), (30, .lstore_n 3, 1), (31, .lload_n 3, 1), (32, .lload_n 3, 1), (33, .bipush 27, 2), (35, .lushr, 1), (36, .lxor, 1), (37, .ldc2_w 262, 3), (40, .lmul, 1), (41, .lstore_n 3, 1), (42, .lload_n 3, 1), (43, .lload_n 3, 1), (44, .bipush 31, 2), (46, .lushr, 1), (47, .lxor, 1), (48, .lreturn, 1)]
theorem dt_Md_mixedOf : am_Dec (xC X_Md_mixedOf) T_Md_mixedOf := by decide +kernel
def y_Md_mixed : MethodName := ⟨"NumberedSparksModel", "mixed", "(II)J"⟩
abbrev X_Md_mixed : am_X := ("NumberedSparksModel", prog_11_method_33_code, 3, (some FieldType.long), "mixed", 1)
theorem mb_Md_mixed : am_mb y_Md_mixed X_Md_mixed 2 := ⟨wd_1410, wd_10, ⟨by decide +kernel, by decide +kernel⟩, by decide +kernel, by decide, rfl⟩
def T_Md_mixed : List (Nat × Instr × Nat) := [(0, .aload_n 0, 1), (1, .getfield 219, 3), (4, .ifCond .eq 12, 3), (7, .aload_n 0, 1), (8, .iload_n 1, 1), (9, .iload_n 2, 1), (10, .invokevirtual 264, 3), (13, .goto 4, 3), (16, .lconst 0, 1), (17, .lreturn, 1)]
theorem dt_Md_mixed : am_Dec (xC X_Md_mixed) T_Md_mixed := by decide +kernel
def y_Md_first : MethodName := ⟨"NumberedSparksModel", "first", "(I)I"⟩
abbrev X_Md_first : am_X := ("NumberedSparksModel", prog_11_method_35_code, 1, (some FieldType.int), "first", 0)
theorem mb_Md_first : am_mb y_Md_first X_Md_first 1 := ⟨wd_1429, wd_10, ⟨by decide +kernel, by decide +kernel⟩, by decide +kernel, by decide, rfl⟩
def T_Md_first : List (Nat × Instr × Nat) := [(0, .iload_n 0, 1), (1, .bipush 16, 2), (3, .idiv, 1), (4, .iconst 1, 1), (5, .isub, 1), (6, .ireturn, 1)]
theorem dt_Md_first : am_Dec (xC X_Md_first) T_Md_first := by decide +kernel
def y_Md_hasChild : MethodName := ⟨"NumberedSparksModel", "hasChild", "(II)Z"⟩
abbrev X_Md_hasChild : am_X := ("NumberedSparksModel", prog_11_method_37_code, 3, (some FieldType.boolean), "hasChild", 1)
theorem mb_Md_hasChild : am_mb y_Md_hasChild X_Md_hasChild 2 := ⟨wd_1433, wd_10, ⟨by decide +kernel, by decide +kernel⟩, by decide +kernel, by decide, rfl⟩
def T_Md_hasChild : List (Nat × Instr × Nat) := [(0, .iload_n 2, 1), (1, .i2l, 1), (2, .lconst 0, 1), (3, .aload_n 0, 1), (4, .getfield 13, 3), (7, .bipush 8, 2), (9, .iload_n 1, 1), (10, .imul, 1), (11, .bipush 6, 2), (13, .iadd, 1), (14, .iaload, 1), (15, .iconst 1, 1), (16, .isub, 1), (17, .i2l, 1), (18, .invokestatic 81, 3), (21, .ireturn, 1)]
theorem dt_Md_hasChild : am_Dec (xC X_Md_hasChild) T_Md_hasChild := by decide +kernel
def y_Md_second : MethodName := ⟨"NumberedSparksModel", "second", "(I)I"⟩
abbrev X_Md_second : am_X := ("NumberedSparksModel", prog_11_method_36_code, 1, (some FieldType.int), "second", 0)
theorem mb_Md_second : am_mb y_Md_second X_Md_second 1 := ⟨wd_1436, wd_10, ⟨by decide +kernel, by decide +kernel⟩, by decide +kernel, by decide, rfl⟩
def T_Md_second : List (Nat × Instr × Nat) := [(0, .iload_n 0, 1), (1, .bipush 16, 2), (3, .irem, 1), (4, .iconst 1, 1), (5, .isub, 1), (6, .ireturn, 1)]
theorem dt_Md_second : am_Dec (xC X_Md_second) T_Md_second := by decide +kernel
def y_Md_isSpark : MethodName := ⟨"NumberedSparksModel", "isSpark", "(I)Z"⟩
abbrev X_Md_isSpark : am_X := ("NumberedSparksModel", prog_11_method_38_code, 5, (some FieldType.boolean), "isSpark", 3)
theorem mb_Md_isSpark : am_mb y_Md_isSpark X_Md_isSpark 1 := ⟨wd_1426, wd_10, ⟨by decide +kernel, by decide +kernel⟩, by decide +kernel, by decide, rfl⟩
def T_Md_isSpark : List (Nat × Instr × Nat) := [(0, .aload_n 0, 1), (1, .getfield 219, 3), (4, .ifCond .eq 7, 3), (7, .iload_n 1, 1), (8, .ifCond .ge 5, 3), (11, .iconst 0, 1), (12, .ireturn, 1), (13, .iload_n 1, 1), (14, .sipush 256, 3), (17, .idiv, 1), (18, .iconst 4, 1), (19, .irem, 1), (20, .istore_n 2, 1), (21, .iload_n 2, 1), (22, .aload_n 0, 1), (23, .getfield 227, 3), (26, .if_icmp .ge 18, 3), (29, .iload_n 1, 1), (30, .sipush 256, 3), (33, .idiv, 1), (34, .iconst 4, 1), (35, .idiv, 1), (36, .aload_n 0, 1), (37, .iload_n 2, 1), (38, .invokevirtual 246, 3), (41, .if_icmp .lt 5, 3), (44, .iconst 0, 1), (45, .ireturn, 1), (46, .iload_n 1, 1), (47, .sipush 256, 3), (50, .irem, 1), (51, .istore_n 3, 1), (52, .iload_n 3, 1), (53, .ifCond .ne 5, 3), (56, .iconst 1, 1), (57, .ireturn, 1), (58, .aload_n 0, 1), (59, .iload_n 2, 1), (60, .iconst 0, 1), (61, .invokevirtual 238, 3), (64, .istore 4, 2), (66, .aload_n 0, 1), (67, .iload 4, 2), (69, .iload_n 3, 1), (70, .invokestatic 268, 3), (73, .invokevirtual 271, 3), (76, .ifCond .ne 5, 3), (79, .iconst 0, 1), (80, .ireturn, 1), (81, .iload_n 3, 1), (82, .bipush 16, 2), (84, .irem, 1), (85, .ifCond .eq 27, 3), (88, .aload_n 0, 1), (89, .aload_n 0, 1), (90, .getfield 13, 3), (93, .bipush 8, 2), (95, .iload 4, 2), (97, .imul, 1), (98, .bipush 7, 2), (100, .iadd, 1), (101, .iaload, 1), (102, .iload_n 3, 1), (103, .invokestatic 275, 3), (106, .invokevirtual 271, 3), (109, .ifCond .eq 7, 3), (112, .iconst 1, 1), (113, .goto 4, 3), (116, .iconst 0, 1), (117, .ireturn, 1)]
theorem dt_Md_isSpark : am_Dec (xC X_Md_isSpark) T_Md_isSpark := by decide +kernel
def y_Md_is : MethodName := ⟨"NumberedSparksModel", "is", "(I)I"⟩
abbrev X_Md_is : am_X := ("NumberedSparksModel", prog_11_method_49_code, 2, (some FieldType.int), "is", 4)
theorem mb_Md_is : am_mb y_Md_is X_Md_is 1 := ⟨wd_1422, wd_10, ⟨by decide +kernel, by decide +kernel⟩, by decide +kernel, by decide, rfl⟩
def T_Md_is : List (Nat × Instr × Nat) := [(0, .aload_n 0, 1), (1, .getfield 219, 3), (4, .ifCond .ne 8, 3), (7, .bipush (-2), 2), (9, .goto 16, 3), (12, .aload_n 0, 1), (13, .iload_n 1, 1), (14, .invokevirtual 318, 3), (17, .ifCond .eq 7, 3), (20, .iconst 1, 1), (21, .goto 4, 3), (24, .iconst 0, 1), (25, .ireturn, 1)]
theorem dt_Md_is : am_Dec (xC X_Md_is) T_Md_is := by decide +kernel
def y_Md_generation : MethodName := ⟨"NumberedSparksModel", "generation", "(I)I"⟩
abbrev X_Md_generation : am_X := ("NumberedSparksModel", prog_11_method_48_code, 1, (some FieldType.int), "generation", 0)
theorem mb_Md_generation : am_mb y_Md_generation X_Md_generation 1 := ⟨wd_1447, wd_10, ⟨by decide +kernel, by decide +kernel⟩, by decide +kernel, by decide, rfl⟩
def T_Md_generation : List (Nat × Instr × Nat) := [(0, .iload_n 0, 1), (1, .sipush 256, 3), (4, .irem, 1), (5, .ifCond .ne 7, 3), (8, .iconst 0, 1), (9, .goto 15, 3), (12, .iload_n 0, 1), (13, .bipush 16, 2), (15, .irem, 1), (16, .ifCond .ne 7, 3), (19, .iconst 1, 1), (20, .goto 4, 3), (23, .iconst 2, 1), (24, .ireturn, 1)]
theorem dt_Md_generation : am_Dec (xC X_Md_generation) T_Md_generation := by decide +kernel
def y_Md_kindOf : MethodName := ⟨"NumberedSparksModel", "kindOf", "(I)I"⟩
abbrev X_Md_kindOf : am_X := ("NumberedSparksModel", prog_11_method_50_code, 5, (some FieldType.int), "kindOf", 1)
theorem mb_Md_kindOf : am_mb y_Md_kindOf X_Md_kindOf 1 := ⟨wd_1451, wd_10, ⟨by decide +kernel, by decide +kernel⟩, by decide +kernel, by decide, rfl⟩
def T_Md_kindOf : List (Nat × Instr × Nat) := [(0, .iload_n 1, 1), (1, .sipush 256, 3), (4, .irem, 1), (5, .istore_n 2, 1), (6, .aload_n 0, 1), (7, .iload_n 1, 1), (8, .sipush 256, 3), (11, .idiv, 1), (12, .iconst 4, 1), (13, .irem, 1), (14, .iconst 0, 1), (15, .invokevirtual 238, 3), (18, .istore_n 3, 1), (19, .sipush 256, 3), (22, .iload_n 2, 1), (23, .iadd, 1), (24, .invokestatic 321, 3), (27, .istore 4, 2), (29, .iload 4, 2), (31, .ifCond .le 22, 3), (34, .aload_n 0, 1), (35, .getfield 13, 3), (38, .bipush 8, 2), (40, .iload_n 3, 1), (41, .imul, 1), (42, .bipush 7, 2), (44, .iadd, 1), (45, .iaload, 1), (46, .istore_n 3, 1), (47, .iinc 4 (-1), 3), (50, .goto (-21), 3), (53, .iload_n 3, 1), (54, .ireturn, 1)]
theorem dt_Md_kindOf : am_Dec (xC X_Md_kindOf) T_Md_kindOf := by decide +kernel
def y_Md_childOf : MethodName := ⟨"NumberedSparksModel", "childOf", "(II)I"⟩
abbrev X_Md_childOf : am_X := ("NumberedSparksModel", prog_11_method_51_code, 4, (some FieldType.int), "childOf", 2)
theorem mb_Md_childOf : am_mb y_Md_childOf X_Md_childOf 2 := ⟨wd_1444, wd_10, ⟨by decide +kernel, by decide +kernel⟩, by decide +kernel, by decide, rfl⟩
def T_Md_childOf : List (Nat × Instr × Nat) := [(0, .iload_n 1, 1), (1, .invokestatic 321, 3), (4, .istore_n 3, 1), (5, .iload_n 3, 1), (6, .iconst 2, 1), (7, .if_icmp .eq 16, 3), (10, .aload_n 0, 1), (11, .aload_n 0, 1), (12, .iload_n 1, 1), (13, .invokevirtual 324, 3), (16, .iload_n 2, 1), (17, .invokevirtual 271, 3), (20, .ifCond .ne 7, 3), (23, .iconst (-1), 1), (24, .goto 19, 3), (27, .iload_n 1, 1), (28, .iload_n 3, 1), (29, .ifCond .ne 8, 3), (32, .bipush 16, 2), (34, .goto 4, 3), (37, .iconst 1, 1), (38, .iconst 1, 1), (39, .iload_n 2, 1), (40, .iadd, 1), (41, .imul, 1), (42, .iadd, 1), (43, .ireturn, 1)]
theorem dt_Md_childOf : am_Dec (xC X_Md_childOf) T_Md_childOf := by decide +kernel
def y_Md_child : MethodName := ⟨"NumberedSparksModel", "child", "(II)I"⟩
abbrev X_Md_child : am_X := ("NumberedSparksModel", prog_11_method_52_code, 3, (some FieldType.int), "child", 4)
theorem mb_Md_child : am_mb y_Md_child X_Md_child 2 := ⟨wd_1440, wd_10, ⟨by decide +kernel, by decide +kernel⟩, by decide +kernel, by decide, rfl⟩
def T_Md_child : List (Nat × Instr × Nat) := [(0, .aload_n 0, 1), (1, .iload_n 1, 1), (2, .invokevirtual 318, 3), (5, .ifCond .eq 12, 3), (8, .aload_n 0, 1), (9, .iload_n 1, 1), (10, .iload_n 2, 1), (11, .invokevirtual 327, 3), (14, .goto 5, 3), (17, .bipush (-2), 2), (19, .ireturn, 1)]
theorem dt_Md_child : am_Dec (xC X_Md_child) T_Md_child := by decide +kernel
def y_Md_parentOf : MethodName := ⟨"NumberedSparksModel", "parentOf", "(I)I"⟩
abbrev X_Md_parentOf : am_X := ("NumberedSparksModel", prog_11_method_53_code, 1, (some FieldType.int), "parentOf", 1)
theorem mb_Md_parentOf : am_mb y_Md_parentOf X_Md_parentOf 1 := ⟨wd_1458, wd_10, ⟨by decide +kernel, by decide +kernel⟩, by decide +kernel, by decide, rfl⟩
def T_Md_parentOf : List (Nat × Instr × Nat) := [(0, .iload_n 0, 1), (1, .invokestatic 321, 3), (4, .iconst 2, 1), (5, .if_icmp .ne 12, 3), (8, .iload_n 0, 1), (9, .iload_n 0, 1), (10, .bipush 16, 2), (12, .irem, 1), (13, .isub, 1), (14, .goto 10, 3), (17, .iload_n 0, 1), (18, .iload_n 0, 1), (19, .sipush 256, 3), (22, .irem, 1), (23, .isub, 1), (24, .ireturn, 1)]
theorem dt_Md_parentOf : am_Dec (xC X_Md_parentOf) T_Md_parentOf := by decide +kernel
def y_Md_parent : MethodName := ⟨"NumberedSparksModel", "parent", "(I)I"⟩
abbrev X_Md_parent : am_X := ("NumberedSparksModel", prog_11_method_54_code, 2, (some FieldType.int), "parent", 4)
theorem mb_Md_parent : am_mb y_Md_parent X_Md_parent 1 := ⟨wd_1455, wd_10, ⟨by decide +kernel, by decide +kernel⟩, by decide +kernel, by decide, rfl⟩
def T_Md_parent : List (Nat × Instr × Nat) := [(0, .aload_n 0, 1), (1, .iload_n 1, 1), (2, .invokevirtual 318, 3), (5, .ifCond .ne 6, 3), (8, .bipush (-2), 2), (10, .ireturn, 1), (11, .iload_n 1, 1), (12, .invokestatic 321, 3), (15, .ifCond .ne 7, 3), (18, .iconst (-1), 1), (19, .goto 7, 3), (22, .iload_n 1, 1), (23, .invokestatic 330, 3), (26, .ireturn, 1)]
theorem dt_Md_parent : am_Dec (xC X_Md_parent) T_Md_parent := by decide +kernel
def y_Md_draw : MethodName := ⟨"NumberedSparksModel", "draw", "(III)I"⟩
abbrev X_Md_draw : am_X := ("NumberedSparksModel", prog_11_method_34_code, 4, (some FieldType.int), "draw", 1)
theorem mb_Md_draw : am_mb y_Md_draw X_Md_draw 3 := ⟨wd_1474, wd_10, ⟨by decide +kernel, by decide +kernel⟩, by decide +kernel, by decide, rfl⟩
def T_Md_draw : List (Nat × Instr × Nat) := [(0, .aload_n 0, 1), (1, .iload_n 1, 1), (2, .iload_n 2, 1), (3, .invokevirtual 264, 3), (6, .bipush 33, 2), (8, .lushr, 1), (9, .iload_n 3, 1), (10, .i2l, 1), (11, .lrem, 1), (12, .l2i, 1), (13, .ireturn, 1)]
theorem dt_Md_draw : am_Dec (xC X_Md_draw) T_Md_draw := by decide +kernel
def y_Md_edge : MethodName := ⟨"NumberedSparksModel", "edge", "()I"⟩
abbrev X_Md_edge : am_X := ("NumberedSparksModel", prog_11_method_40_code, 1, (some FieldType.int), "edge", 0)
theorem mb_Md_edge : am_mb y_Md_edge X_Md_edge 0 := ⟨wd_1482, wd_10, ⟨by decide +kernel, by decide +kernel⟩, by decide +kernel, by decide, rfl⟩
def T_Md_edge : List (Nat × Instr × Nat) := [(0, .aload_n 0, 1), (1, .getfield 13, 3), (4, .bipush 8, 2), (6, .aload_n 0, 1), (7, .getfield 278, 3), (10, .imul, 1), (11, .iconst 5, 1), (12, .iadd, 1), (13, .iaload, 1), (14, .ireturn, 1)]
theorem dt_Md_edge : am_Dec (xC X_Md_edge) T_Md_edge := by decide +kernel
def y_Md_raw : MethodName := ⟨"NumberedSparksModel", "raw", "(II)I"⟩
abbrev X_Md_raw : am_X := ("NumberedSparksModel", prog_11_method_39_code, 4, (some FieldType.int), "raw", 0)
theorem mb_Md_raw : am_mb y_Md_raw X_Md_raw 2 := ⟨wd_1490, wd_10, ⟨by decide +kernel, by decide +kernel⟩, by decide +kernel, by decide, rfl⟩
def T_Md_raw : List (Nat × Instr × Nat) := [(0, .iload_n 1, 1), (1, .iconst 1, 1), (2, .if_icmp .ne 28, 3), (5, .aload_n 0, 1), (6, .getfield 13, 3), (9, .bipush 8, 2), (11, .aload_n 0, 1), (12, .getfield 278, 3), (15, .imul, 1), (16, .iconst 3, 1), (17, .iadd, 1), (18, .iaload, 1), (19, .iload_n 2, 1), (20, .iload_n 2, 1), (21, .iconst 1, 1), (22, .isub, 1), (23, .imul, 1), (24, .iconst 2, 1), (25, .idiv, 1), (26, .imul, 1), (27, .goto 4, 3), (30, .iconst 0, 1), (31, .istore_n 3, 1), (32, .aload_n 0, 1), (33, .getfield 42, 3), (36, .iload_n 1, 1), (37, .iaload, 1), (38, .iload_n 2, 1), (39, .aload_n 0, 1), (40, .getfield 45, 3), (43, .iload_n 1, 1), (44, .iaload, 1), (45, .imul, 1), (46, .iadd, 1), (47, .iload_n 3, 1), (48, .iadd, 1), (49, .ireturn, 1)]
theorem dt_Md_raw : am_Dec (xC X_Md_raw) T_Md_raw := by decide +kernel
def y_Md_world : MethodName := ⟨"NumberedSparksModel", "world", "(I)I"⟩
abbrev X_Md_world : am_X := ("NumberedSparksModel", prog_11_method_41_code, 2, (some FieldType.int), "world", 0)
theorem mb_Md_world : am_mb y_Md_world X_Md_world 1 := ⟨wd_1494, wd_10, ⟨by decide +kernel, by decide +kernel⟩, by decide +kernel, by decide, rfl⟩
def T_Md_world : List (Nat × Instr × Nat) := [(0, .bipush 8, 2), (2, .aload_n 0, 1), (3, .getfield 7, 3), (6, .iload_n 1, 1), (7, .iaload, 1), (8, .imul, 1), (9, .ireturn, 1)]
theorem dt_Md_world : am_Dec (xC X_Md_world) T_Md_world := by decide +kernel
def y_Md_isBeyond : MethodName := ⟨"NumberedSparksModel", "isBeyond", "(I)Z"⟩
abbrev X_Md_isBeyond : am_X := ("NumberedSparksModel", prog_11_method_43_code, 4, (some FieldType.boolean), "isBeyond", 1)
theorem mb_Md_isBeyond : am_mb y_Md_isBeyond X_Md_isBeyond 1 := ⟨wd_1486, wd_10, ⟨by decide +kernel, by decide +kernel⟩, by decide +kernel, by decide, rfl⟩
def T_Md_isBeyond : List (Nat × Instr × Nat) := [(0, .iconst 0, 1), (1, .istore_n 2, 1), (2, .iconst 0, 1), (3, .istore_n 3, 1), (4, .iload_n 3, 1), (5, .iconst 3, 1), (6, .if_icmp .ge 41, 3), (9, .iload_n 2, 1), (10, .ifCond .ne 25, 3), (13, .aload_n 0, 1), (14, .iload_n 3, 1), (15, .iload_n 1, 1), (16, .invokevirtual 281, 3), (19, .i2l, 1), (20, .lconst 0, 1), (21, .aload_n 0, 1), (22, .iload_n 3, 1), (23, .invokevirtual 284, 3), (26, .iconst 1, 1), (27, .isub, 1), (28, .i2l, 1), (29, .invokestatic 81, 3), (32, .ifCond .ne 7, 3), (35, .iconst 1, 1), (36, .goto 4, 3), (39, .iconst 0, 1), (40, .istore_n 2, 1), (41, .iinc 3 1, 3), (44, .goto (-40), 3), (47, .iload_n 2, 1), (48, .ireturn, 1)]
theorem dt_Md_isBeyond : am_Dec (xC X_Md_isBeyond) T_Md_isBeyond := by decide +kernel
def y_Md_laysOne : MethodName := ⟨"NumberedSparksModel", "laysOne", "(III)V"⟩
abbrev X_Md_laysOne : am_X := ("NumberedSparksModel", prog_11_method_44_code, 7, none, "laysOne", 2)
theorem mb_Md_laysOne : am_mb y_Md_laysOne X_Md_laysOne 3 := ⟨wd_1478, wd_10, ⟨by decide +kernel, by decide +kernel⟩, by decide +kernel, by decide, rfl⟩
def T_Md_laysOne : List (Nat × Instr × Nat) := [(0, .aload_n 0, 1), (1, .iload_n 2, 1), (2, .putfield 278, 3), (5, .aload_n 0, 1), (6, .iload_n 3, 1), (7, .putfield 292, 3), (10, .aload_n 0, 1), (11, .getfield 13, 3), (14, .bipush 8, 2), (16, .iload_n 2, 1), (17, .imul, 1), (18, .iconst 2, 1), (19, .iadd, 1), (20, .iaload, 1), (21, .istore 4, 2), (23, .iconst 0, 1), (24, .istore 5, 2), (26, .iload 5, 2), (28, .iconst 3, 1), (29, .if_icmp .ge 34, 3), (32, .aload_n 0, 1), (33, .getfield 45, 3), (36, .iload 5, 2), (38, .aload_n 0, 1), (39, .iload_n 1, 1), (40, .iconst 2, 1), (41, .iload 5, 2), (43, .iadd, 1), (44, .iconst 2, 1), (45, .iload 4, 2), (47, .imul, 1), (48, .iconst 1, 1), (49, .iadd, 1), (50, .invokevirtual 295, 3), (53, .iload 4, 2), (55, .isub, 1), (56, .iastore, 1), (57, .iinc 5 1, 3), (60, .goto (-34), 3), (63, .aload_n 0, 1), (64, .getfield 13, 3), (67, .bipush 8, 2), (69, .iload_n 2, 1), (70, .imul, 1), (71, .iconst 0, 1), (72, .iadd, 1), (73, .iaload, 1), (74, .aload_n 0, 1), (75, .iload_n 1, 1), (76, .iconst 1, 1), (77, .aload_n 0, 1), (78, .getfield 13, 3), (81, .bipush 8, 2), (83, .iload_n 2, 1), (84, .imul, 1), (85, .iconst 1, 1), (86, .iadd, 1), (87, .iaload, 1), (88, .iconst 1, 1), (89, .iadd, 1), (90, .invokevirtual 295, 3), (93, .iadd, 1), (94, .istore 5, 2), (96, .iload 5, 2), (98, .istore 6, 2), (100, .aload_n 0, 1), (101, .invokevirtual 286, 3), (104, .iconst 2, 1), (105, .if_icmp .ne 28, 3), (108, .iconst 0, 1), (109, .istore 6, 2), (111, .iload 6, 2), (113, .iload 5, 2), (115, .if_icmp .ge 18, 3), (118, .aload_n 0, 1), (119, .iload 6, 2), (121, .invokevirtual 299, 3), (124, .ifCond .ne 9, 3), (127, .iinc 6 1, 3), (130, .goto (-19), 3), (133, .aload_n 0, 1), (134, .aload_n 0, 1), (135, .getfield 292, 3), (138, .iload 6, 2), (140, .iadd, 1), (141, .putfield 303, 3), (144, .return_, 1)]
theorem dt_Md_laysOne : am_Dec (xC X_Md_laysOne) T_Md_laysOne := by decide +kernel
def y_Md_laysRoot : MethodName := ⟨"NumberedSparksModel", "laysRoot", "(I)V"⟩
abbrev X_Md_laysRoot : am_X := ("NumberedSparksModel", prog_11_method_45_code, 6, none, "laysRoot", 3)
theorem mb_Md_laysRoot : am_mb y_Md_laysRoot X_Md_laysRoot 1 := ⟨wd_1470, wd_10, ⟨by decide +kernel, by decide +kernel⟩, by decide +kernel, by decide, rfl⟩
def T_Md_laysRoot : List (Nat × Instr × Nat) := [(0, .iload_n 1, 1), (1, .iconst 4, 1), (2, .irem, 1), (3, .istore_n 2, 1), (4, .iload_n 1, 1), (5, .iconst 4, 1), (6, .idiv, 1), (7, .istore_n 3, 1), (8, .sipush 256, 3), (11, .iload_n 1, 1), (12, .imul, 1), (13, .istore 4, 2), (15, .iconst 0, 1), (16, .istore 5, 2), (18, .iload 5, 2), (20, .iconst 3, 1), (21, .if_icmp .ge 30, 3), (24, .aload_n 0, 1), (25, .getfield 42, 3), (28, .iload 5, 2), (30, .bipush 8, 2), (32, .aload_n 0, 1), (33, .iload_n 2, 1), (34, .iconst 1, 1), (35, .iload 5, 2), (37, .iadd, 1), (38, .invokevirtual 238, 3), (41, .imul, 1), (42, .iconst 4, 1), (43, .iadd, 1), (44, .iastore, 1), (45, .iinc 5 1, 3), (48, .goto (-30), 3), (51, .aload_n 0, 1), (52, .iload_n 2, 1), (53, .iconst 4, 1), (54, .invokevirtual 238, 3), (57, .iload_n 3, 1), (58, .aload_n 0, 1), (59, .iload_n 2, 1), (60, .bipush 6, 2), (62, .invokevirtual 238, 3), (65, .idiv, 1), (66, .aload_n 0, 1), (67, .iload_n 2, 1), (68, .iconst 5, 1), (69, .invokevirtual 238, 3), (72, .imul, 1), (73, .iadd, 1), (74, .istore 5, 2), (76, .aload_n 0, 1), (77, .iload 4, 2), (79, .aload_n 0, 1), (80, .iload_n 2, 1), (81, .iconst 0, 1), (82, .invokevirtual 238, 3), (85, .iload 5, 2), (87, .aload_n 0, 1), (88, .iload 4, 2), (90, .iconst 0, 1), (91, .aload_n 0, 1), (92, .iload_n 2, 1), (93, .bipush 8, 2), (95, .invokevirtual 238, 3), (98, .iconst 1, 1), (99, .iadd, 1), (100, .invokevirtual 295, 3), (103, .iadd, 1), (104, .invokevirtual 305, 3), (107, .return_, 1)]
theorem dt_Md_laysRoot : am_Dec (xC X_Md_laysRoot) T_Md_laysRoot := by decide +kernel
def y_Md_placeBy : MethodName := ⟨"NumberedSparksModel", "placeBy", "(II)I"⟩
abbrev X_Md_placeBy : am_X := ("NumberedSparksModel", prog_11_method_42_code, 6, (some FieldType.int), "placeBy", 1)
theorem mb_Md_placeBy : am_mb y_Md_placeBy X_Md_placeBy 2 := ⟨wd_1502, wd_10, ⟨by decide +kernel, by decide +kernel⟩, by decide +kernel, by decide, rfl⟩
def T_Md_placeBy : List (Nat × Instr × Nat) := [(0, .aload_n 0, 1), (1, .iload_n 1, 1), (2, .iload_n 2, 1), (3, .invokevirtual 281, 3), (6, .istore_n 3, 1), (7, .aload_n 0, 1), (8, .iload_n 1, 1), (9, .invokevirtual 284, 3), (12, .istore 4, 2), (14, .aload_n 0, 1), (15, .invokevirtual 286, 3), (18, .ifCond .ne 10, 3), (21, .iload_n 3, 1), (22, .iload 4, 2), (24, .invokestatic 289, 3), (27, .ireturn, 1), (28, .aload_n 0, 1), (29, .invokevirtual 286, 3), (32, .iconst 2, 1), (33, .if_icmp .ne 5, 3), (36, .iload_n 3, 1), (37, .ireturn, 1), (38, .iload_n 3, 1), (39, .iconst 2, 1), (40, .iload 4, 2), (42, .imul, 1), (43, .invokestatic 289, 3), (46, .istore 5, 2), (48, .iload 5, 2), (50, .iload 4, 2), (52, .if_icmp .lt 15, 3), (55, .iconst 2, 1), (56, .iload 4, 2), (58, .imul, 1), (59, .iconst 1, 1), (60, .isub, 1), (61, .iload 5, 2), (63, .isub, 1), (64, .goto 5, 3), (67, .iload 5, 2), (69, .ireturn, 1)]
theorem dt_Md_placeBy : am_Dec (xC X_Md_placeBy) T_Md_placeBy := by decide +kernel
def y_Md_laysChild : MethodName := ⟨"NumberedSparksModel", "laysChild", "(I)V"⟩
abbrev X_Md_laysChild : am_X := ("NumberedSparksModel", prog_11_method_46_code, 3, none, "laysChild", 3)
theorem mb_Md_laysChild : am_mb y_Md_laysChild X_Md_laysChild 1 := ⟨wd_1498, wd_10, ⟨by decide +kernel, by decide +kernel⟩, by decide +kernel, by decide, rfl⟩
def T_Md_laysChild : List (Nat × Instr × Nat) := [(0, .iconst 0, 1), (1, .istore_n 2, 1), (2, .iload_n 2, 1), (3, .iconst 3, 1), (4, .if_icmp .ge 31, 3), (7, .aload_n 0, 1), (8, .getfield 48, 3), (11, .iload_n 2, 1), (12, .aload_n 0, 1), (13, .iload_n 2, 1), (14, .aload_n 0, 1), (15, .getfield 303, 3), (18, .iconst 1, 1), (19, .isub, 1), (20, .aload_n 0, 1), (21, .getfield 292, 3), (24, .isub, 1), (25, .invokevirtual 309, 3), (28, .iastore, 1), (29, .iinc 2 1, 3), (32, .goto (-30), 3), (35, .iconst 0, 1), (36, .istore_n 2, 1), (37, .iload_n 2, 1), (38, .iconst 3, 1), (39, .if_icmp .ge 21, 3), (42, .aload_n 0, 1), (43, .getfield 42, 3), (46, .iload_n 2, 1), (47, .aload_n 0, 1), (48, .getfield 48, 3), (51, .iload_n 2, 1), (52, .iaload, 1), (53, .iastore, 1), (54, .iinc 2 1, 3), (57, .goto (-20), 3), (60, .aload_n 0, 1), (61, .iload_n 1, 1), (62, .aload_n 0, 1), (63, .getfield 13, 3), (66, .bipush 8, 2), (68, .aload_n 0, 1), (69, .getfield 278, 3), (72, .imul, 1), (73, .bipush 7, 2), (75, .iadd, 1), (76, .iaload, 1), (77, .aload_n 0, 1), (78, .getfield 303, 3), (81, .invokevirtual 305, 3), (84, .return_, 1)]
theorem dt_Md_laysChild : am_Dec (xC X_Md_laysChild) T_Md_laysChild := by decide +kernel
def y_Md_lays : MethodName := ⟨"NumberedSparksModel", "lays", "(I)V"⟩
abbrev X_Md_lays : am_X := ("NumberedSparksModel", prog_11_method_47_code, 3, none, "lays", 4)
theorem mb_Md_lays : am_mb y_Md_lays X_Md_lays 1 := ⟨wd_1466, wd_10, ⟨by decide +kernel, by decide +kernel⟩, by decide +kernel, by decide, rfl⟩
def T_Md_lays : List (Nat × Instr × Nat) := [(0, .iload_n 1, 1), (1, .sipush 256, 3), (4, .irem, 1), (5, .istore_n 2, 1), (6, .aload_n 0, 1), (7, .iload_n 1, 1), (8, .sipush 256, 3), (11, .idiv, 1), (12, .invokevirtual 312, 3), (15, .iload_n 2, 1), (16, .bipush 16, 2), (18, .if_icmp .lt 13, 3), (21, .aload_n 0, 1), (22, .iload_n 1, 1), (23, .iload_n 2, 1), (24, .bipush 16, 2), (26, .irem, 1), (27, .isub, 1), (28, .invokevirtual 315, 3), (31, .iload_n 2, 1), (32, .bipush 16, 2), (34, .irem, 1), (35, .ifCond .le 8, 3), (38, .aload_n 0, 1), (39, .iload_n 1, 1), (40, .invokevirtual 315, 3), (43, .return_, 1)]
theorem dt_Md_lays : am_Dec (xC X_Md_lays) T_Md_lays := by decide +kernel
def y_Md_spark : MethodName := ⟨"NumberedSparksModel", "spark", "(II)I"⟩
abbrev X_Md_spark : am_X := ("NumberedSparksModel", prog_11_method_55_code, 3, (some FieldType.int), "spark", 5)
theorem mb_Md_spark : am_mb y_Md_spark X_Md_spark 2 := ⟨wd_1462, wd_10, ⟨by decide +kernel, by decide +kernel⟩, by decide +kernel, by decide, rfl⟩
def T_Md_spark : List (Nat × Instr × Nat) := [(0, .aload_n 0, 1), (1, .iload_n 1, 1), (2, .invokevirtual 318, 3), (5, .ifCond .eq 15, 3), (8, .iload_n 2, 1), (9, .i2l, 1), (10, .lconst 0, 1), (11, .ldc2_w 244, 3), (14, .invokestatic 81, 3), (17, .ifCond .ne 6, 3), (20, .bipush (-99), 2), (22, .ireturn, 1), (23, .aload_n 0, 1), (24, .iload_n 1, 1), (25, .invokevirtual 333, 3), (28, .iload_n 2, 1), (29, .tableswitch 86 0 6 #[43, 48, 56, 62, 67, 76, 81], 43), (72, .aload_n 0, 1), (73, .getfield 278, 3), (76, .ireturn, 1), (77, .iload_n 1, 1), (78, .sipush 256, 3), (81, .idiv, 1), (82, .iconst 4, 1), (83, .irem, 1), (84, .ireturn, 1), (85, .iload_n 1, 1), (86, .sipush 1024, 3), (89, .idiv, 1), (90, .ireturn, 1), (91, .iload_n 1, 1), (92, .invokestatic 321, 3), (95, .ireturn, 1), (96, .aload_n 0, 1), (97, .iload_n 1, 1), (98, .iconst 5, 1), (99, .bipush 8, 2), (101, .invokevirtual 295, 3), (104, .ireturn, 1), (105, .aload_n 0, 1), (106, .getfield 292, 3), (109, .ireturn, 1), (110, .aload_n 0, 1), (111, .getfield 303, 3), (114, .ireturn, 1), (115, .aload_n 0, 1), (116, .getfield 45, 3), (119, .iload_n 2, 1), (120, .bipush 7, 2), (122, .isub, 1), (123, .iaload, 1), (124, .ireturn, 1)]
theorem dt_Md_spark : am_Dec (xC X_Md_spark) T_Md_spark := by decide +kernel
def y_Md_isTick : MethodName := ⟨"NumberedSparksModel", "isTick", "(I)Z"⟩
abbrev X_Md_isTick : am_X := ("NumberedSparksModel", prog_11_method_56_code, 2, (some FieldType.boolean), "isTick", 1)
theorem mb_Md_isTick : am_mb y_Md_isTick X_Md_isTick 1 := ⟨wd_1511, wd_10, ⟨by decide +kernel, by decide +kernel⟩, by decide +kernel, by decide, rfl⟩
def T_Md_isTick : List (Nat × Instr × Nat) := [(0, .aload_n 0, 1), (1, .getfield 219, 3), (4, .ifCond .eq 19, 3), (7, .iload_n 1, 1), (8, .i2l, 1), (9, .lconst 0, 1), (10, .ldc2_w 336, 3), (13, .invokestatic 81, 3), (16, .ifCond .eq 7, 3), (19, .iconst 1, 1), (20, .goto 4, 3), (23, .iconst 0, 1), (24, .ireturn, 1)]
theorem dt_Md_isTick : am_Dec (xC X_Md_isTick) T_Md_isTick := by decide +kernel
def y_Md_place : MethodName := ⟨"NumberedSparksModel", "place", "(III)I"⟩
abbrev X_Md_place : am_X := ("NumberedSparksModel", prog_11_method_57_code, 4, (some FieldType.int), "place", 5)
theorem mb_Md_place : am_mb y_Md_place X_Md_place 3 := ⟨wd_1507, wd_10, ⟨by decide +kernel, by decide +kernel⟩, by decide +kernel, by decide, rfl⟩
def T_Md_place : List (Nat × Instr × Nat) := [(0, .aload_n 0, 1), (1, .iload_n 1, 1), (2, .invokevirtual 318, 3), (5, .ifCond .eq 23, 3), (8, .aload_n 0, 1), (9, .iload_n 2, 1), (10, .invokevirtual 338, 3), (13, .ifCond .eq 15, 3), (16, .iload_n 3, 1), (17, .i2l, 1), (18, .lconst 0, 1), (19, .ldc2_w 341, 3), (22, .invokestatic 81, 3), (25, .ifCond .ne 6, 3), (28, .bipush (-2), 2), (30, .ireturn, 1), (31, .aload_n 0, 1), (32, .iload_n 1, 1), (33, .invokevirtual 333, 3), (36, .iload_n 2, 1), (37, .aload_n 0, 1), (38, .getfield 292, 3), (41, .if_icmp .lt 25, 3), (44, .iload_n 2, 1), (45, .aload_n 0, 1), (46, .getfield 303, 3), (49, .if_icmp .ge 17, 3), (52, .aload_n 0, 1), (53, .iload_n 3, 1), (54, .iload_n 2, 1), (55, .aload_n 0, 1), (56, .getfield 292, 3), (59, .isub, 1), (60, .invokevirtual 309, 3), (63, .goto 4, 3), (66, .iconst (-1), 1), (67, .ireturn, 1)]
theorem dt_Md_place : am_Dec (xC X_Md_place) T_Md_place := by decide +kernel
def y_Md_size : MethodName := ⟨"NumberedSparksModel", "size", "(II)I"⟩
abbrev X_Md_size : am_X := ("NumberedSparksModel", prog_11_method_58_code, 3, (some FieldType.int), "size", 5)
theorem mb_Md_size : am_mb y_Md_size X_Md_size 2 := ⟨wd_1517, wd_10, ⟨by decide +kernel, by decide +kernel⟩, by decide +kernel, by decide, rfl⟩
def T_Md_size : List (Nat × Instr × Nat) := [(0, .aload_n 0, 1), (1, .iload_n 1, 1), (2, .invokevirtual 318, 3), (5, .ifCond .eq 11, 3), (8, .aload_n 0, 1), (9, .iload_n 2, 1), (10, .invokevirtual 338, 3), (13, .ifCond .ne 6, 3), (16, .bipush (-2), 2), (18, .ireturn, 1), (19, .aload_n 0, 1), (20, .iload_n 1, 1), (21, .invokevirtual 333, 3), (24, .iload_n 2, 1), (25, .aload_n 0, 1), (26, .getfield 292, 3), (29, .if_icmp .lt 11, 3), (32, .iload_n 2, 1), (33, .aload_n 0, 1), (34, .getfield 303, 3), (37, .if_icmp .lt 5, 3), (40, .iconst (-1), 1), (41, .ireturn, 1), (42, .iconst 1, 1), (43, .aload_n 0, 1), (44, .getfield 13, 3), (47, .bipush 8, 2), (49, .aload_n 0, 1), (50, .getfield 278, 3), (53, .imul, 1), (54, .iconst 4, 1), (55, .iadd, 1), (56, .iaload, 1), (57, .iconst 4, 1), (58, .iload_n 2, 1), (59, .aload_n 0, 1), (60, .getfield 292, 3), (63, .isub, 1), (64, .imul, 1), (65, .aload_n 0, 1), (66, .getfield 303, 3), (69, .aload_n 0, 1), (70, .getfield 292, 3), (73, .isub, 1), (74, .idiv, 1), (75, .isub, 1), (76, .invokestatic 343, 3), (79, .ireturn, 1)]
theorem dt_Md_size : am_Dec (xC X_Md_size) T_Md_size := by decide +kernel
def y_Md_overAt : MethodName := ⟨"NumberedSparksModel", "overAt", "(I)I"⟩
abbrev X_Md_overAt : am_X := ("NumberedSparksModel", prog_11_method_59_code, 4, (some FieldType.int), "overAt", 1)
theorem mb_Md_overAt : am_mb y_Md_overAt X_Md_overAt 1 := ⟨wd_1526, wd_10, ⟨by decide +kernel, by decide +kernel⟩, by decide +kernel, by decide, rfl⟩
def T_Md_overAt : List (Nat × Instr × Nat) := [(0, .aload_n 0, 1), (1, .invokevirtual 286, 3), (4, .iconst 2, 1), (5, .if_icmp .ne 5, 3), (8, .iconst 0, 1), (9, .ireturn, 1), (10, .iconst 0, 1), (11, .istore_n 2, 1), (12, .iconst 0, 1), (13, .istore_n 3, 1), (14, .iload_n 3, 1), (15, .iconst 3, 1), (16, .if_icmp .ge 46, 3), (19, .iload_n 2, 1), (20, .aload_n 0, 1), (21, .iload_n 3, 1), (22, .iload_n 1, 1), (23, .invokevirtual 281, 3), (26, .aload_n 0, 1), (27, .iload_n 3, 1), (28, .invokevirtual 284, 3), (31, .invokestatic 346, 3), (34, .aload_n 0, 1), (35, .iload_n 3, 1), (36, .iload_n 1, 1), (37, .iconst 1, 1), (38, .isub, 1), (39, .invokevirtual 281, 3), (42, .aload_n 0, 1), (43, .iload_n 3, 1), (44, .invokevirtual 284, 3), (47, .invokestatic 346, 3), (50, .isub, 1), (51, .invokestatic 349, 3), (54, .iadd, 1), (55, .istore_n 2, 1), (56, .iinc 3 1, 3), (59, .goto (-45), 3), (62, .iload_n 2, 1), (63, .ireturn, 1)]
theorem dt_Md_overAt : am_Dec (xC X_Md_overAt) T_Md_overAt := by decide +kernel
def y_Md_edges : MethodName := ⟨"NumberedSparksModel", "edges", "(I)I"⟩
abbrev X_Md_edges : am_X := ("NumberedSparksModel", prog_11_method_60_code, 4, (some FieldType.int), "edges", 5)
theorem mb_Md_edges : am_mb y_Md_edges X_Md_edges 1 := ⟨wd_1522, wd_10, ⟨by decide +kernel, by decide +kernel⟩, by decide +kernel, by decide, rfl⟩
def T_Md_edges : List (Nat × Instr × Nat) := [(0, .aload_n 0, 1), (1, .iload_n 1, 1), (2, .invokevirtual 318, 3), (5, .ifCond .ne 6, 3), (8, .bipush (-2), 2), (10, .ireturn, 1), (11, .aload_n 0, 1), (12, .iload_n 1, 1), (13, .invokevirtual 333, 3), (16, .iconst 0, 1), (17, .istore_n 2, 1), (18, .iconst 1, 1), (19, .istore_n 3, 1), (20, .iload_n 3, 1), (21, .aload_n 0, 1), (22, .getfield 303, 3), (25, .aload_n 0, 1), (26, .getfield 292, 3), (29, .isub, 1), (30, .if_icmp .ge 17, 3), (33, .iload_n 2, 1), (34, .aload_n 0, 1), (35, .iload_n 3, 1), (36, .invokevirtual 352, 3), (39, .iadd, 1), (40, .istore_n 2, 1), (41, .iinc 3 1, 3), (44, .goto (-24), 3), (47, .iload_n 2, 1), (48, .ireturn, 1)]
theorem dt_Md_edges : am_Dec (xC X_Md_edges) T_Md_edges := by decide +kernel
def y_Md_over : MethodName := ⟨"NumberedSparksModel", "over", "(I)I"⟩
abbrev X_Md_over : am_X := ("NumberedSparksModel", prog_11_method_61_code, 3, (some FieldType.int), "over", 5)
theorem mb_Md_over : am_mb y_Md_over X_Md_over 1 := ⟨wd_1532, wd_10, ⟨by decide +kernel, by decide +kernel⟩, by decide +kernel, by decide, rfl⟩
def T_Md_over : List (Nat × Instr × Nat) := [(0, .aload_n 0, 1), (1, .iload_n 1, 1), (2, .invokevirtual 318, 3), (5, .ifCond .ne 6, 3), (8, .bipush (-2), 2), (10, .ireturn, 1), (11, .aload_n 0, 1), (12, .iload_n 1, 1), (13, .invokevirtual 333, 3), (16, .iconst 1, 1), (17, .istore_n 2, 1), (18, .iload_n 2, 1), (19, .aload_n 0, 1), (20, .getfield 303, 3), (23, .aload_n 0, 1), (24, .getfield 292, 3), (27, .isub, 1), (28, .if_icmp .ge 24, 3), (31, .aload_n 0, 1), (32, .iload_n 2, 1), (33, .invokevirtual 352, 3), (36, .ifCond .le 10, 3), (39, .aload_n 0, 1), (40, .getfield 292, 3), (43, .iload_n 2, 1), (44, .iadd, 1), (45, .ireturn, 1), (46, .iinc 2 1, 3), (49, .goto (-31), 3), (52, .iconst (-1), 1), (53, .ireturn, 1)]
theorem dt_Md_over : am_Dec (xC X_Md_over) T_Md_over := by decide +kernel
def y_Md_cellBy : MethodName := ⟨"NumberedSparksModel", "cellBy", "(I)I"⟩
abbrev X_Md_cellBy : am_X := ("NumberedSparksModel", prog_11_method_62_code, 2, (some FieldType.int), "cellBy", 2)
theorem mb_Md_cellBy : am_mb y_Md_cellBy X_Md_cellBy 1 := ⟨wd_1540, wd_10, ⟨by decide +kernel, by decide +kernel⟩, by decide +kernel, by decide, rfl⟩
def T_Md_cellBy : List (Nat × Instr × Nat) := [(0, .aload_n 0, 1), (1, .iconst 0, 1), (2, .iload_n 1, 1), (3, .invokevirtual 309, 3), (6, .bipush 8, 2), (8, .idiv, 1), (9, .bipush 64, 2), (11, .imul, 1), (12, .aload_n 0, 1), (13, .iconst 1, 1), (14, .iload_n 1, 1), (15, .invokevirtual 309, 3), (18, .bipush 8, 2), (20, .idiv, 1), (21, .iadd, 1), (22, .bipush 64, 2), (24, .imul, 1), (25, .aload_n 0, 1), (26, .iconst 2, 1), (27, .iload_n 1, 1), (28, .invokevirtual 309, 3), (31, .bipush 8, 2), (33, .idiv, 1), (34, .iadd, 1), (35, .ireturn, 1)]
theorem dt_Md_cellBy : am_Dec (xC X_Md_cellBy) T_Md_cellBy := by decide +kernel
def y_Md_cellsOf : MethodName := ⟨"NumberedSparksModel", "cellsOf", "(I)I"⟩
abbrev X_Md_cellsOf : am_X := ("NumberedSparksModel", prog_11_method_63_code, 6, (some FieldType.int), "cellsOf", 5)
theorem mb_Md_cellsOf : am_mb y_Md_cellsOf X_Md_cellsOf 1 := ⟨wd_1536, wd_10, ⟨by decide +kernel, by decide +kernel⟩, by decide +kernel, by decide, rfl⟩
def T_Md_cellsOf : List (Nat × Instr × Nat) := [(0, .aload_n 0, 1), (1, .iload_n 1, 1), (2, .invokevirtual 318, 3), (5, .ifCond .ne 6, 3), (8, .bipush (-2), 2), (10, .ireturn, 1), (11, .aload_n 0, 1), (12, .iload_n 1, 1), (13, .invokevirtual 333, 3), (16, .iconst 0, 1), (17, .istore_n 2, 1), (18, .iconst 0, 1), (19, .istore_n 3, 1), (20, .iload_n 3, 1), (21, .aload_n 0, 1), (22, .getfield 303, 3), (25, .aload_n 0, 1), (26, .getfield 292, 3), (29, .isub, 1), (30, .if_icmp .ge 66, 3), (33, .iconst 1, 1), (34, .istore 4, 2), (36, .iconst 0, 1), (37, .istore 5, 2), (39, .iload 5, 2), (41, .iload_n 3, 1), (42, .if_icmp .ge 35, 3), (45, .iload 4, 2), (47, .ifCond .eq 21, 3), (50, .aload_n 0, 1), (51, .iload 5, 2), (53, .invokevirtual 355, 3), (56, .aload_n 0, 1), (57, .iload_n 3, 1), (58, .invokevirtual 355, 3), (61, .if_icmp .eq 7, 3), (64, .iconst 1, 1), (65, .goto 4, 3), (68, .iconst 0, 1), (69, .istore 4, 2), (71, .iinc 5 1, 3), (74, .goto (-35), 3), (77, .iload_n 2, 1), (78, .iload 4, 2), (80, .ifCond .eq 7, 3), (83, .iconst 1, 1), (84, .goto 4, 3), (87, .iconst 0, 1), (88, .iadd, 1), (89, .istore_n 2, 1), (90, .iinc 3 1, 3), (93, .goto (-73), 3), (96, .iload_n 2, 1), (97, .ireturn, 1)]
theorem dt_Md_cellsOf : am_Dec (xC X_Md_cellsOf) T_Md_cellsOf := by decide +kernel
def y_Md_meets : MethodName := ⟨"NumberedSparksModel", "meets", "(II)I"⟩
abbrev X_Md_meets : am_X := ("NumberedSparksModel", prog_11_method_64_code, 6, (some FieldType.int), "meets", 5)
theorem mb_Md_meets : am_mb y_Md_meets X_Md_meets 2 := ⟨wd_1544, wd_10, ⟨by decide +kernel, by decide +kernel⟩, by decide +kernel, by decide, rfl⟩
def T_Md_meets : List (Nat × Instr × Nat) := [(0, .aload_n 0, 1), (1, .iload_n 1, 1), (2, .invokevirtual 318, 3), (5, .ifCond .eq 16, 3), (8, .aload_n 0, 1), (9, .iload_n 2, 1), (10, .invokevirtual 318, 3), (13, .ifCond .eq 8, 3), (16, .iload_n 1, 1), (17, .iload_n 2, 1), (18, .if_icmp .ne 6, 3), (21, .bipush (-2), 2), (23, .ireturn, 1), (24, .aload_n 0, 1), (25, .iload_n 1, 1), (26, .invokevirtual 333, 3), (29, .aload_n 0, 1), (30, .getfield 292, 3), (33, .istore_n 3, 1), (34, .aload_n 0, 1), (35, .getfield 303, 3), (38, .istore 4, 2), (40, .iconst 0, 1), (41, .istore 5, 2), (43, .iload 5, 2), (45, .aload_n 0, 1), (46, .getfield 303, 3), (49, .aload_n 0, 1), (50, .getfield 292, 3), (53, .isub, 1), (54, .if_icmp .ge 22, 3), (57, .aload_n 0, 1), (58, .getfield 51, 3), (61, .iload 5, 2), (63, .aload_n 0, 1), (64, .iload 5, 2), (66, .invokevirtual 355, 3), (69, .iastore, 1), (70, .iinc 5 1, 3), (73, .goto (-30), 3), (76, .aload_n 0, 1), (77, .iload_n 2, 1), (78, .invokevirtual 333, 3), (81, .iload_n 3, 1), (82, .aload_n 0, 1), (83, .getfield 292, 3), (86, .invokestatic 343, 3), (89, .istore 5, 2), (91, .iload 5, 2), (93, .iload 4, 2), (95, .aload_n 0, 1), (96, .getfield 303, 3), (99, .invokestatic 120, 3), (102, .if_icmp .ge 35, 3), (105, .aload_n 0, 1), (106, .getfield 51, 3), (109, .iload 5, 2), (111, .iload_n 3, 1), (112, .isub, 1), (113, .iaload, 1), (114, .aload_n 0, 1), (115, .iload 5, 2), (117, .aload_n 0, 1), (118, .getfield 292, 3), (121, .isub, 1), (122, .invokevirtual 355, 3), (125, .if_icmp .ne 6, 3), (128, .iload 5, 2), (130, .ireturn, 1), (131, .iinc 5 1, 3), (134, .goto (-43), 3), (137, .iconst (-1), 1), (138, .ireturn, 1)]
theorem dt_Md_meets : am_Dec (xC X_Md_meets) T_Md_meets := by decide +kernel
def y_Md_reach : MethodName := ⟨"NumberedSparksModel", "reach", "(III)I"⟩
abbrev X_Md_reach : am_X := ("NumberedSparksModel", prog_11_method_65_code, 6, (some FieldType.int), "reach", 5)
theorem mb_Md_reach : am_mb y_Md_reach X_Md_reach 3 := ⟨wd_1548, wd_10, ⟨by decide +kernel, by decide +kernel⟩, by decide +kernel, by decide, rfl⟩
def T_Md_reach : List (Nat × Instr × Nat) := [(0, .aload_n 0, 1), (1, .iload_n 1, 1), (2, .invokevirtual 318, 3), (5, .ifCond .eq 25, 3), (8, .iload_n 2, 1), (9, .i2l, 1), (10, .lconst 0, 1), (11, .ldc2_w 341, 3), (14, .invokestatic 81, 3), (17, .ifCond .eq 13, 3), (20, .iload_n 3, 1), (21, .i2l, 1), (22, .lconst 0, 1), (23, .lconst 1, 1), (24, .invokestatic 81, 3), (27, .ifCond .ne 6, 3), (30, .bipush (-2), 2), (32, .ireturn, 1), (33, .aload_n 0, 1), (34, .iload_n 1, 1), (35, .invokevirtual 333, 3), (38, .aload_n 0, 1), (39, .iload_n 2, 1), (40, .iconst 0, 1), (41, .invokevirtual 309, 3), (44, .istore 4, 2), (46, .iconst 1, 1), (47, .istore 5, 2), (49, .iload 5, 2), (51, .aload_n 0, 1), (52, .getfield 303, 3), (55, .aload_n 0, 1), (56, .getfield 292, 3), (59, .isub, 1), (60, .if_icmp .ge 42, 3), (63, .iload_n 3, 1), (64, .ifCond .ne 18, 3), (67, .iload 4, 2), (69, .aload_n 0, 1), (70, .iload_n 2, 1), (71, .iload 5, 2), (73, .invokevirtual 309, 3), (76, .invokestatic 120, 3), (79, .goto 15, 3), (82, .iload 4, 2), (84, .aload_n 0, 1), (85, .iload_n 2, 1), (86, .iload 5, 2), (88, .invokevirtual 309, 3), (91, .invokestatic 343, 3), (94, .istore 4, 2), (96, .iinc 5 1, 3), (99, .goto (-50), 3), (102, .iload 4, 2), (104, .ireturn, 1)]
theorem dt_Md_reach : am_Dec (xC X_Md_reach) T_Md_reach := by decide +kernel
def y_Md_kin : MethodName := ⟨"NumberedSparksModel", "kin", "(II)I"⟩
abbrev X_Md_kin : am_X := ("NumberedSparksModel", prog_11_method_66_code, 3, (some FieldType.int), "kin", 4)
theorem mb_Md_kin : am_mb y_Md_kin X_Md_kin 2 := ⟨wd_1552, wd_10, ⟨by decide +kernel, by decide +kernel⟩, by decide +kernel, by decide, rfl⟩
def T_Md_kin : List (Nat × Instr × Nat) := [(0, .aload_n 0, 1), (1, .iload_n 1, 1), (2, .invokevirtual 318, 3), (5, .ifCond .eq 11, 3), (8, .aload_n 0, 1), (9, .iload_n 2, 1), (10, .invokevirtual 318, 3), (13, .ifCond .ne 6, 3), (16, .bipush (-2), 2), (18, .ireturn, 1), (19, .iload_n 1, 1), (20, .sipush 256, 3), (23, .idiv, 1), (24, .iload_n 2, 1), (25, .sipush 256, 3), (28, .idiv, 1), (29, .if_icmp .eq 5, 3), (32, .iconst (-1), 1), (33, .ireturn, 1), (34, .iload_n 1, 1), (35, .iload_n 2, 1), (36, .if_icmp .ne 5, 3), (39, .iload_n 1, 1), (40, .ireturn, 1), (41, .iload_n 1, 1), (42, .bipush 16, 2), (44, .idiv, 1), (45, .iload_n 2, 1), (46, .bipush 16, 2), (48, .idiv, 1), (49, .if_icmp .eq 11, 3), (52, .iload_n 1, 1), (53, .iload_n 1, 1), (54, .sipush 256, 3), (57, .irem, 1), (58, .isub, 1), (59, .ireturn, 1), (60, .iload_n 1, 1), (61, .iload_n 1, 1), (62, .bipush 16, 2), (64, .irem, 1), (65, .isub, 1), (66, .ireturn, 1)]
theorem dt_Md_kin : am_Dec (xC X_Md_kin) T_Md_kin := by decide +kernel
def y_Md_isFrom : MethodName := ⟨"NumberedSparksModel", "isFrom", "(II)Z"⟩
abbrev X_Md_isFrom : am_X := ("NumberedSparksModel", prog_11_method_68_code, 3, (some FieldType.boolean), "isFrom", 1)
theorem mb_Md_isFrom : am_mb y_Md_isFrom X_Md_isFrom 2 := ⟨wd_1559, wd_10, ⟨by decide +kernel, by decide +kernel⟩, by decide +kernel, by decide, rfl⟩
def T_Md_isFrom : List (Nat × Instr × Nat) := [(0, .iload_n 1, 1), (1, .invokestatic 321, 3), (4, .istore_n 2, 1), (5, .iload_n 2, 1), (6, .ifCond .eq 23, 3), (9, .iload_n 0, 1), (10, .iload_n 1, 1), (11, .if_icmp .eq 18, 3), (14, .iload_n 2, 1), (15, .iconst 1, 1), (16, .if_icmp .ne 17, 3), (19, .iload_n 0, 1), (20, .iload_n 0, 1), (21, .bipush 16, 2), (23, .irem, 1), (24, .isub, 1), (25, .iload_n 1, 1), (26, .if_icmp .ne 7, 3), (29, .iconst 1, 1), (30, .goto 4, 3), (33, .iconst 0, 1), (34, .ireturn, 1)]
theorem dt_Md_isFrom : am_Dec (xC X_Md_isFrom) T_Md_isFrom := by decide +kernel
def y_Md_line : MethodName := ⟨"NumberedSparksModel", "line", "(II)I"⟩
abbrev X_Md_line : am_X := ("NumberedSparksModel", prog_11_method_67_code, 8, (some FieldType.int), "line", 5)
theorem mb_Md_line : am_mb y_Md_line X_Md_line 2 := ⟨wd_1556, wd_10, ⟨by decide +kernel, by decide +kernel⟩, by decide +kernel, by decide, rfl⟩
def T_Md_line : List (Nat × Instr × Nat) := [(0, .aload_n 0, 1), (1, .iload_n 1, 1), (2, .invokevirtual 318, 3), (5, .ifCond .eq 13, 3), (8, .iload_n 2, 1), (9, .i2l, 1), (10, .lconst 0, 1), (11, .lconst 1, 1), (12, .invokestatic 81, 3), (15, .ifCond .ne 6, 3), (18, .bipush (-2), 2), (20, .ireturn, 1), (21, .iconst 0, 1), (22, .istore_n 3, 1), (23, .iconst (-1), 1), (24, .istore 4, 2), (26, .iconst 0, 1), (27, .istore 5, 2), (29, .iload 5, 2), (31, .bipush 48, 2), (33, .if_icmp .ge 83, 3), (36, .iload_n 1, 1), (37, .iload_n 1, 1), (38, .sipush 256, 3), (41, .irem, 1), (42, .isub, 1), (43, .iload 5, 2), (45, .iadd, 1), (46, .istore 6, 2), (48, .iload 5, 2), (50, .bipush 16, 2), (52, .irem, 1), (53, .iconst 3, 1), (54, .if_icmp .ge 25, 3), (57, .aload_n 0, 1), (58, .iload 6, 2), (60, .invokevirtual 318, 3), (63, .ifCond .eq 16, 3), (66, .iload 6, 2), (68, .iload_n 1, 1), (69, .invokestatic 358, 3), (72, .ifCond .eq 7, 3), (75, .iconst 1, 1), (76, .goto 4, 3), (79, .iconst 0, 1), (80, .istore 7, 2), (82, .iload 7, 2), (84, .ifCond .ne 6, 3), (87, .goto 23, 3), (90, .aload_n 0, 1), (91, .iload 6, 2), (93, .invokevirtual 333, 3), (96, .iinc 3 1, 3), (99, .iload 4, 2), (101, .aload_n 0, 1), (102, .getfield 303, 3), (105, .invokestatic 343, 3), (108, .istore 4, 2), (110, .iinc 5 1, 3), (113, .goto (-84), 3), (116, .iload_n 2, 1), (117, .ifCond .ne 7, 3), (120, .iload_n 3, 1), (121, .goto 5, 3), (124, .iload 4, 2), (126, .ireturn, 1)]
theorem dt_Md_line : am_Dec (xC X_Md_line) T_Md_line := by decide +kernel
def y_Md_firstGroup : MethodName := ⟨"NumberedSparksModel", "firstGroup", "(II)I"⟩
abbrev X_Md_firstGroup : am_X := ("NumberedSparksModel", prog_11_method_69_code, 4, (some FieldType.int), "firstGroup", 1)
theorem mb_Md_firstGroup : am_mb y_Md_firstGroup X_Md_firstGroup 2 := ⟨wd_1572, wd_10, ⟨by decide +kernel, by decide +kernel⟩, by decide +kernel, by decide, rfl⟩
def T_Md_firstGroup : List (Nat × Instr × Nat) := [(0, .iload_n 2, 1), (1, .sipush 200, 3), (4, .isub, 1), (5, .aload_n 0, 1), (6, .iload_n 1, 1), (7, .iconst 4, 1), (8, .invokevirtual 238, 3), (11, .isub, 1), (12, .istore_n 3, 1), (13, .iload_n 3, 1), (14, .ifCond .gt 7, 3), (17, .iconst 0, 1), (18, .goto 20, 3), (21, .iload_n 3, 1), (22, .aload_n 0, 1), (23, .iload_n 1, 1), (24, .iconst 5, 1), (25, .invokevirtual 238, 3), (28, .iadd, 1), (29, .iconst 1, 1), (30, .isub, 1), (31, .aload_n 0, 1), (32, .iload_n 1, 1), (33, .iconst 5, 1), (34, .invokevirtual 238, 3), (37, .idiv, 1), (38, .ireturn, 1)]
theorem dt_Md_firstGroup : am_Dec (xC X_Md_firstGroup) T_Md_firstGroup := by decide +kernel
def y_Md_isGroup : MethodName := ⟨"NumberedSparksModel", "isGroup", "(III)Z"⟩
abbrev X_Md_isGroup : am_X := ("NumberedSparksModel", prog_11_method_70_code, 4, (some FieldType.boolean), "isGroup", 2)
theorem mb_Md_isGroup : am_mb y_Md_isGroup X_Md_isGroup 3 := ⟨wd_1576, wd_10, ⟨by decide +kernel, by decide +kernel⟩, by decide +kernel, by decide, rfl⟩
def T_Md_isGroup : List (Nat × Instr × Nat) := [(0, .iload_n 2, 1), (1, .aload_n 0, 1), (2, .iload_n 1, 1), (3, .invokevirtual 241, 3), (6, .if_icmp .ge 26, 3), (9, .aload_n 0, 1), (10, .iload_n 1, 1), (11, .iconst 4, 1), (12, .invokevirtual 238, 3), (15, .iload_n 2, 1), (16, .aload_n 0, 1), (17, .iload_n 1, 1), (18, .iconst 5, 1), (19, .invokevirtual 238, 3), (22, .imul, 1), (23, .iadd, 1), (24, .iload_n 3, 1), (25, .if_icmp .gt 7, 3), (28, .iconst 1, 1), (29, .goto 4, 3), (32, .iconst 0, 1), (33, .ireturn, 1)]
theorem dt_Md_isGroup : am_Dec (xC X_Md_isGroup) T_Md_isGroup := by decide +kernel
def y_Md_comes : MethodName := ⟨"NumberedSparksModel", "comes", "(II)V"⟩
abbrev X_Md_comes : am_X := ("NumberedSparksModel", prog_11_method_71_code, 3, none, "comes", 5)
theorem mb_Md_comes : am_mb y_Md_comes X_Md_comes 2 := ⟨wd_1584, wd_10, ⟨by decide +kernel, by decide +kernel⟩, by decide +kernel, by decide, rfl⟩
def T_Md_comes : List (Nat × Instr × Nat) := [(0, .aload_n 0, 1), (1, .iload_n 1, 1), (2, .invokevirtual 318, 3), (5, .ifCond .ne 4, 3), (8, .return_, 1), (9, .aload_n 0, 1), (10, .iload_n 1, 1), (11, .invokevirtual 333, 3), (14, .iload_n 2, 1), (15, .aload_n 0, 1), (16, .getfield 292, 3), (19, .if_icmp .lt 11, 3), (22, .iload_n 2, 1), (23, .aload_n 0, 1), (24, .getfield 303, 3), (27, .if_icmp .lt 4, 3), (30, .return_, 1), (31, .aload_n 0, 1), (32, .getfield 54, 3), (35, .aload_n 0, 1), (36, .getfield 361, 3), (39, .sipush 1000, 3), (42, .aload_n 0, 1), (43, .iconst 2, 1), (44, .iload_n 2, 1), (45, .aload_n 0, 1), (46, .getfield 292, 3), (49, .isub, 1), (50, .invokevirtual 309, 3), (53, .isub, 1), (54, .i2l, 1), (55, .bipush 32, 2), (57, .lshl, 1), (58, .iload_n 1, 1), (59, .i2l, 1), (60, .lor, 1), (61, .lastore, 1), (62, .aload_n 0, 1), (63, .dup, 1), (64, .getfield 361, 3), (67, .iconst 1, 1), (68, .iadd, 1), (69, .putfield 361, 3), (72, .return_, 1)]
theorem dt_Md_comes : am_Dec (xC X_Md_comes) T_Md_comes := by decide +kernel
def y_Md_comesLine : MethodName := ⟨"NumberedSparksModel", "comesLine", "(II)V"⟩
abbrev X_Md_comesLine : am_X := ("NumberedSparksModel", prog_11_method_72_code, 4, none, "comesLine", 6)
theorem mb_Md_comesLine : am_mb y_Md_comesLine X_Md_comesLine 2 := ⟨wd_1580, wd_10, ⟨by decide +kernel, by decide +kernel⟩, by decide +kernel, by decide, rfl⟩
def T_Md_comesLine : List (Nat × Instr × Nat) := [(0, .iconst 0, 1), (1, .istore_n 3, 1), (2, .iload_n 3, 1), (3, .bipush 48, 2), (5, .if_icmp .ge 29, 3), (8, .iload_n 3, 1), (9, .bipush 16, 2), (11, .irem, 1), (12, .iconst 3, 1), (13, .if_icmp .ge 15, 3), (16, .aload_n 0, 1), (17, .sipush 256, 3), (20, .iload_n 1, 1), (21, .imul, 1), (22, .iload_n 3, 1), (23, .iadd, 1), (24, .iload_n 2, 1), (25, .invokevirtual 364, 3), (28, .iinc 3 1, 3), (31, .goto (-29), 3), (34, .return_, 1)]
theorem dt_Md_comesLine : am_Dec (xC X_Md_comesLine) T_Md_comesLine := by decide +kernel
def y_Md_gathers : MethodName := ⟨"NumberedSparksModel", "gathers", "(I)V"⟩
abbrev X_Md_gathers : am_X := ("NumberedSparksModel", prog_11_method_74_code, 6, none, "gathers", 7)
theorem mb_Md_gathers : am_mb y_Md_gathers X_Md_gathers 1 := ⟨wd_1568, wd_10, ⟨by decide +kernel, by decide +kernel⟩, by decide +kernel, by decide, rfl⟩
def T_Md_gathers : List (Nat × Instr × Nat) := [(0, .aload_n 0, 1), (1, .iconst 0, 1), (2, .putfield 361, 3), (5, .iconst 0, 1), (6, .istore_n 2, 1), (7, .iload_n 2, 1), (8, .aload_n 0, 1), (9, .getfield 227, 3), (12, .if_icmp .ge 76, 3), (15, .aload_n 0, 1), (16, .iload_n 2, 1), (17, .bipush 6, 2), (19, .invokevirtual 238, 3), (22, .istore_n 3, 1), (23, .aload_n 0, 1), (24, .iload_n 2, 1), (25, .iload_n 1, 1), (26, .invokevirtual 367, 3), (29, .istore 4, 2), (31, .aload_n 0, 1), (32, .iload_n 2, 1), (33, .iload 4, 2), (35, .iload_n 1, 1), (36, .invokevirtual 370, 3), (39, .ifCond .eq 43, 3), (42, .iload_n 3, 1), (43, .iload 4, 2), (45, .imul, 1), (46, .istore 5, 2), (48, .iload 5, 2), (50, .iload_n 3, 1), (51, .iload 4, 2), (53, .imul, 1), (54, .iload_n 3, 1), (55, .iadd, 1), (56, .if_icmp .ge 20, 3), (59, .aload_n 0, 1), (60, .iconst 4, 1), (61, .iload 5, 2), (63, .imul, 1), (64, .iload_n 2, 1), (65, .iadd, 1), (66, .iload_n 1, 1), (67, .invokevirtual 374, 3), (70, .iinc 5 1, 3), (73, .goto (-25), 3), (76, .iinc 4 1, 3), (79, .goto (-48), 3), (82, .iinc 2 1, 3), (85, .goto (-78), 3), (88, .return_, 1)]
theorem dt_Md_gathers : am_Dec (xC X_Md_gathers) T_Md_gathers := by decide +kernel
def y_Md_codeAt : MethodName := ⟨"NumberedSparksModel", "codeAt", "(I)I"⟩
abbrev X_Md_codeAt : am_X := ("NumberedSparksModel", prog_11_method_76_code, 2, (some FieldType.int), "codeAt", 0)
theorem mb_Md_codeAt : am_mb y_Md_codeAt X_Md_codeAt 1 := ⟨wd_1588, wd_10, ⟨by decide +kernel, by decide +kernel⟩, by decide +kernel, by decide, rfl⟩
def T_Md_codeAt : List (Nat × Instr × Nat) := [(0, .aload_n 0, 1), (1, .getfield 54, 3), (4, .iload_n 1, 1), (5, .laload, 1), (6, .ldc2_w 383, 3), (9, .land, 1), (10, .l2i, 1), (11, .ireturn, 1)]
theorem dt_Md_codeAt : am_Dec (xC X_Md_codeAt) T_Md_codeAt := by decide +kernel
def y_Md_many : MethodName := ⟨"NumberedSparksModel", "many", "(II)I"⟩
abbrev X_Md_many : am_X := ("NumberedSparksModel", prog_11_method_77_code, 5, (some FieldType.int), "many", 8)
theorem mb_Md_many : am_mb y_Md_many X_Md_many 2 := ⟨wd_1563, wd_10, ⟨by decide +kernel, by decide +kernel⟩, by decide +kernel, by decide, rfl⟩
def T_Md_many : List (Nat × Instr × Nat) := [(0, .aload_n 0, 1), (1, .iload_n 1, 1), (2, .invokevirtual 338, 3), (5, .ifCond .eq 21, 3), (8, .iload_n 2, 1), (9, .i2l, 1), (10, .ldc2_w 385, 3), (13, .aload_n 0, 1), (14, .getfield 224, 3), (17, .iconst 1, 1), (18, .isub, 1), (19, .i2l, 1), (20, .invokestatic 81, 3), (23, .ifCond .ne 6, 3), (26, .bipush (-2), 2), (28, .ireturn, 1), (29, .aload_n 0, 1), (30, .iload_n 1, 1), (31, .invokevirtual 377, 3), (34, .iload_n 2, 1), (35, .iconst (-1), 1), (36, .if_icmp .ne 8, 3), (39, .aload_n 0, 1), (40, .getfield 361, 3), (43, .ireturn, 1), (44, .iconst 0, 1), (45, .istore_n 3, 1), (46, .iconst 0, 1), (47, .istore 4, 2), (49, .iload 4, 2), (51, .aload_n 0, 1), (52, .getfield 361, 3), (55, .if_icmp .ge 31, 3), (58, .iload_n 3, 1), (59, .aload_n 0, 1), (60, .aload_n 0, 1), (61, .iload 4, 2), (63, .invokevirtual 387, 3), (66, .invokevirtual 324, 3), (69, .iload_n 2, 1), (70, .if_icmp .ne 7, 3), (73, .iconst 1, 1), (74, .goto 4, 3), (77, .iconst 0, 1), (78, .iadd, 1), (79, .istore_n 3, 1), (80, .iinc 4 1, 3), (83, .goto (-34), 3), (86, .iload_n 3, 1), (87, .ireturn, 1)]
theorem dt_Md_many : am_Dec (xC X_Md_many) T_Md_many := by decide +kernel
def y_Md_sorts : MethodName := ⟨"NumberedSparksModel", "sorts", "()V"⟩
abbrev X_Md_sorts : am_X := ("NumberedSparksModel", prog_11_method_73_code, 6, none, "sorts", 0)
theorem mb_Md_sorts : am_mb y_Md_sorts X_Md_sorts 0 := ⟨wd_1601, wd_10, ⟨by decide +kernel, by decide +kernel⟩, by decide +kernel, by decide, rfl⟩
def T_Md_sorts : List (Nat × Instr × Nat) := [(0, .sipush 9841, 3), (3, .istore_n 1, 1), (4, .iload_n 1, 1), (5, .ifCond .le 89, 3), (8, .iload_n 1, 1), (9, .istore_n 2, 1), (10, .iload_n 2, 1), (11, .aload_n 0, 1), (12, .getfield 361, 3), (15, .if_icmp .ge 72, 3), (18, .aload_n 0, 1), (19, .getfield 54, 3), (22, .iload_n 2, 1), (23, .laload, 1), (24, .lstore_n 3, 1), (25, .iload_n 2, 1), (26, .istore 5, 2), (28, .iload 5, 2), (30, .iload_n 1, 1), (31, .if_icmp .lt 42, 3), (34, .aload_n 0, 1), (35, .getfield 54, 3), (38, .iload 5, 2), (40, .iload_n 1, 1), (41, .isub, 1), (42, .laload, 1), (43, .lload_n 3, 1), (44, .lcmp, 1), (45, .ifCond .le 28, 3), (48, .aload_n 0, 1), (49, .getfield 54, 3), (52, .iload 5, 2), (54, .aload_n 0, 1), (55, .getfield 54, 3), (58, .iload 5, 2), (60, .iload_n 1, 1), (61, .isub, 1), (62, .laload, 1), (63, .lastore, 1), (64, .iload 5, 2), (66, .iload_n 1, 1), (67, .isub, 1), (68, .istore 5, 2), (70, .goto (-42), 3), (73, .aload_n 0, 1), (74, .getfield 54, 3), (77, .iload 5, 2), (79, .lload_n 3, 1), (80, .lastore, 1), (81, .iinc 2 1, 3), (84, .goto (-74), 3), (87, .iload_n 1, 1), (88, .iconst 3, 1), (89, .idiv, 1), (90, .istore_n 1, 1), (91, .goto (-87), 3), (94, .return_, 1)]
theorem dt_Md_sorts : am_Dec (xC X_Md_sorts) T_Md_sorts := by decide +kernel
def y_Md_laysFrame : MethodName := ⟨"NumberedSparksModel", "laysFrame", "(I)V"⟩
abbrev X_Md_laysFrame : am_X := ("NumberedSparksModel", prog_11_method_75_code, 2, none, "laysFrame", 8)
theorem mb_Md_laysFrame : am_mb y_Md_laysFrame X_Md_laysFrame 1 := ⟨wd_1597, wd_10, ⟨by decide +kernel, by decide +kernel⟩, by decide +kernel, by decide, rfl⟩
def T_Md_laysFrame : List (Nat × Instr × Nat) := [(0, .aload_n 0, 1), (1, .iload_n 1, 1), (2, .invokevirtual 377, 3), (5, .aload_n 0, 1), (6, .invokevirtual 380, 3), (9, .return_, 1)]
theorem dt_Md_laysFrame : am_Dec (xC X_Md_laysFrame) T_Md_laysFrame := by decide +kernel
def y_Md_drawn : MethodName := ⟨"NumberedSparksModel", "drawn", "(II)I"⟩
abbrev X_Md_drawn : am_X := ("NumberedSparksModel", prog_11_method_78_code, 3, (some FieldType.int), "drawn", 9)
theorem mb_Md_drawn : am_mb y_Md_drawn X_Md_drawn 2 := ⟨wd_1593, wd_10, ⟨by decide +kernel, by decide +kernel⟩, by decide +kernel, by decide, rfl⟩
def T_Md_drawn : List (Nat × Instr × Nat) := [(0, .aload_n 0, 1), (1, .iload_n 1, 1), (2, .invokevirtual 338, 3), (5, .ifCond .eq 7, 3), (8, .iload_n 2, 1), (9, .ifCond .ge 6, 3), (12, .bipush (-2), 2), (14, .ireturn, 1), (15, .aload_n 0, 1), (16, .iload_n 1, 1), (17, .invokevirtual 390, 3), (20, .iload_n 2, 1), (21, .aload_n 0, 1), (22, .getfield 361, 3), (25, .if_icmp .ge 11, 3), (28, .aload_n 0, 1), (29, .iload_n 2, 1), (30, .invokevirtual 387, 3), (33, .goto 4, 3), (36, .iconst (-1), 1), (37, .ireturn, 1)]
theorem dt_Md_drawn : am_Dec (xC X_Md_drawn) T_Md_drawn := by decide +kernel
def y_Md_digest : MethodName := ⟨"NumberedSparksModel", "digest", "(I)J"⟩
abbrev X_Md_digest : am_X := ("NumberedSparksModel", prog_11_method_80_code, 6, (some FieldType.long), "digest", 9)
theorem mb_Md_digest : am_mb y_Md_digest X_Md_digest 1 := ⟨wd_1605, wd_10, ⟨by decide +kernel, by decide +kernel⟩, by decide +kernel, by decide, rfl⟩
def T_Md_digest : List (Nat × Instr × Nat) := [(0, .aload_n 0, 1), (1, .iload_n 1, 1), (2, .invokevirtual 338, 3), (5, .ifCond .ne 5, 3), (8, .lconst 0, 1), (9, .lreturn, 1), (10, .aload_n 0, 1), (11, .iload_n 1, 1), (12, .invokevirtual 390, 3), (15, .ldc2_w 393, 3), (18, .lstore_n 2, 1), (19, .iconst 0, 1), (20, .istore 4, 2), (22, .iload 4, 2), (24, .aload_n 0, 1), (25, .getfield 361, 3), (28, .if_icmp .ge 68, 3), (31, .aload_n 0, 1), (32, .aload_n 0, 1), (33, .iload 4, 2), (35, .invokevirtual 387, 3), (38, .invokevirtual 333, 3), (41, .ldc2_w 395, 3), (44, .lload_n 2, 1), (45, .lmul, 1), (46, .aload_n 0, 1), (47, .iload 4, 2), (49, .invokevirtual 387, 3), (52, .i2l, 1), (53, .ladd, 1), (54, .lstore_n 2, 1), (55, .iconst 0, 1), (56, .istore 5, 2), (58, .iload 5, 2), (60, .iconst 3, 1), (61, .if_icmp .ge 29, 3), (64, .ldc2_w 395, 3), (67, .lload_n 2, 1), (68, .lmul, 1), (69, .aload_n 0, 1), (70, .iload 5, 2), (72, .iload_n 1, 1), (73, .aload_n 0, 1), (74, .getfield 292, 3), (77, .isub, 1), (78, .invokevirtual 309, 3), (81, .i2l, 1), (82, .ladd, 1), (83, .lstore_n 2, 1), (84, .iinc 5 1, 3), (87, .goto (-29), 3), (90, .iinc 4 1, 3), (93, .goto (-71), 3), (96, .lload_n 2, 1), (97, .lreturn, 1)]
theorem dt_Md_digest : am_Dec (xC X_Md_digest) T_Md_digest := by decide +kernel
def y_Md_isColumn : MethodName := ⟨"NumberedSparksModel", "isColumn", "(II)Z"⟩
abbrev X_Md_isColumn : am_X := ("NumberedSparksModel", prog_11_method_81_code, 3, (some FieldType.boolean), "isColumn", 1)
theorem mb_Md_isColumn : am_mb y_Md_isColumn X_Md_isColumn 2 := ⟨wd_1615, wd_10, ⟨by decide +kernel, by decide +kernel⟩, by decide +kernel, by decide, rfl⟩
def T_Md_isColumn : List (Nat × Instr × Nat) := [(0, .iload_n 1, 1), (1, .i2l, 1), (2, .lconst 0, 1), (3, .aload_n 0, 1), (4, .getfield 7, 3), (7, .iconst 0, 1), (8, .iaload, 1), (9, .iconst 1, 1), (10, .isub, 1), (11, .i2l, 1), (12, .invokestatic 81, 3), (15, .ifCond .eq 25, 3), (18, .iload_n 2, 1), (19, .i2l, 1), (20, .lconst 0, 1), (21, .aload_n 0, 1), (22, .getfield 7, 3), (25, .iconst 1, 1), (26, .iaload, 1), (27, .iconst 1, 1), (28, .isub, 1), (29, .i2l, 1), (30, .invokestatic 81, 3), (33, .ifCond .eq 7, 3), (36, .iconst 1, 1), (37, .goto 4, 3), (40, .iconst 0, 1), (41, .ireturn, 1)]
theorem dt_Md_isColumn : am_Dec (xC X_Md_isColumn) T_Md_isColumn := by decide +kernel
def y_Md_laysColumns : MethodName := ⟨"NumberedSparksModel", "laysColumns", "(I)V"⟩
abbrev X_Md_laysColumns : am_X := ("NumberedSparksModel", prog_11_method_82_code, 3, none, "laysColumns", 5)
theorem mb_Md_laysColumns : am_mb y_Md_laysColumns X_Md_laysColumns 1 := ⟨wd_1619, wd_10, ⟨by decide +kernel, by decide +kernel⟩, by decide +kernel, by decide, rfl⟩
def T_Md_laysColumns : List (Nat × Instr × Nat) := [(0, .iconst 0, 1), (1, .istore_n 2, 1), (2, .iload_n 2, 1), (3, .aload_n 0, 1), (4, .getfield 361, 3), (7, .if_icmp .ge 58, 3), (10, .aload_n 0, 1), (11, .aload_n 0, 1), (12, .iload_n 2, 1), (13, .invokevirtual 387, 3), (16, .invokevirtual 333, 3), (19, .aload_n 0, 1), (20, .getfield 58, 3), (23, .iload_n 2, 1), (24, .aload_n 0, 1), (25, .iconst 0, 1), (26, .iload_n 1, 1), (27, .aload_n 0, 1), (28, .getfield 292, 3), (31, .isub, 1), (32, .invokevirtual 309, 3), (35, .bipush 8, 2), (37, .idiv, 1), (38, .iastore, 1), (39, .aload_n 0, 1), (40, .getfield 61, 3), (43, .iload_n 2, 1), (44, .aload_n 0, 1), (45, .iconst 1, 1), (46, .iload_n 1, 1), (47, .aload_n 0, 1), (48, .getfield 292, 3), (51, .isub, 1), (52, .invokevirtual 309, 3), (55, .bipush 8, 2), (57, .idiv, 1), (58, .iastore, 1), (59, .iinc 2 1, 3), (62, .goto (-60), 3), (65, .return_, 1)]
theorem dt_Md_laysColumns : am_Dec (xC X_Md_laysColumns) T_Md_laysColumns := by decide +kernel
def y_Md_inColumn : MethodName := ⟨"NumberedSparksModel", "inColumn", "(III)I"⟩
abbrev X_Md_inColumn : am_X := ("NumberedSparksModel", prog_11_method_83_code, 6, (some FieldType.int), "inColumn", 8)
theorem mb_Md_inColumn : am_mb y_Md_inColumn X_Md_inColumn 3 := ⟨wd_1611, wd_10, ⟨by decide +kernel, by decide +kernel⟩, by decide +kernel, by decide, rfl⟩
def T_Md_inColumn : List (Nat × Instr × Nat) := [(0, .aload_n 0, 1), (1, .iload_n 1, 1), (2, .invokevirtual 338, 3), (5, .ifCond .eq 12, 3), (8, .aload_n 0, 1), (9, .iload_n 2, 1), (10, .iload_n 3, 1), (11, .invokevirtual 397, 3), (14, .ifCond .ne 6, 3), (17, .bipush (-2), 2), (19, .ireturn, 1), (20, .aload_n 0, 1), (21, .iload_n 1, 1), (22, .invokevirtual 377, 3), (25, .aload_n 0, 1), (26, .iload_n 1, 1), (27, .invokevirtual 400, 3), (30, .iconst 0, 1), (31, .istore 4, 2), (33, .iconst 0, 1), (34, .istore 5, 2), (36, .iload 5, 2), (38, .aload_n 0, 1), (39, .getfield 361, 3), (42, .if_icmp .ge 41, 3), (45, .iload 4, 2), (47, .aload_n 0, 1), (48, .getfield 58, 3), (51, .iload 5, 2), (53, .iaload, 1), (54, .iload_n 2, 1), (55, .if_icmp .ne 18, 3), (58, .aload_n 0, 1), (59, .getfield 61, 3), (62, .iload 5, 2), (64, .iaload, 1), (65, .iload_n 3, 1), (66, .if_icmp .ne 7, 3), (69, .iconst 1, 1), (70, .goto 4, 3), (73, .iconst 0, 1), (74, .iadd, 1), (75, .istore 4, 2), (77, .iinc 5 1, 3), (80, .goto (-44), 3), (83, .iload 4, 2), (85, .ireturn, 1)]
theorem dt_Md_inColumn : am_Dec (xC X_Md_inColumn) T_Md_inColumn := by decide +kernel
def y_Md_topOf : MethodName := ⟨"NumberedSparksModel", "topOf", "(II)I"⟩
abbrev X_Md_topOf : am_X := ("NumberedSparksModel", prog_11_method_84_code, 5, (some FieldType.int), "topOf", 0)
theorem mb_Md_topOf : am_mb y_Md_topOf X_Md_topOf 2 := ⟨wd_1627, wd_10, ⟨by decide +kernel, by decide +kernel⟩, by decide +kernel, by decide, rfl⟩
def T_Md_topOf : List (Nat × Instr × Nat) := [(0, .iconst (-1), 1), (1, .istore_n 3, 1), (2, .iconst 0, 1), (3, .istore 4, 2), (5, .iload 4, 2), (7, .aload_n 0, 1), (8, .getfield 361, 3), (11, .if_icmp .ge 38, 3), (14, .aload_n 0, 1), (15, .getfield 58, 3), (18, .iload 4, 2), (20, .iaload, 1), (21, .iload_n 1, 1), (22, .if_icmp .ne 19, 3), (25, .aload_n 0, 1), (26, .getfield 61, 3), (29, .iload 4, 2), (31, .iaload, 1), (32, .iload_n 2, 1), (33, .if_icmp .ne 8, 3), (36, .iload 4, 2), (38, .goto 4, 3), (41, .iload_n 3, 1), (42, .istore_n 3, 1), (43, .iinc 4 1, 3), (46, .goto (-41), 3), (49, .iload_n 3, 1), (50, .ireturn, 1)]
theorem dt_Md_topOf : am_Dec (xC X_Md_topOf) T_Md_topOf := by decide +kernel
def y_Md_top : MethodName := ⟨"NumberedSparksModel", "top", "(III)I"⟩
abbrev X_Md_top : am_X := ("NumberedSparksModel", prog_11_method_85_code, 5, (some FieldType.int), "top", 9)
theorem mb_Md_top : am_mb y_Md_top X_Md_top 3 := ⟨wd_1623, wd_10, ⟨by decide +kernel, by decide +kernel⟩, by decide +kernel, by decide, rfl⟩
def T_Md_top : List (Nat × Instr × Nat) := [(0, .aload_n 0, 1), (1, .iload_n 1, 1), (2, .invokevirtual 338, 3), (5, .ifCond .eq 12, 3), (8, .aload_n 0, 1), (9, .iload_n 2, 1), (10, .iload_n 3, 1), (11, .invokevirtual 397, 3), (14, .ifCond .ne 6, 3), (17, .bipush (-2), 2), (19, .ireturn, 1), (20, .aload_n 0, 1), (21, .iload_n 1, 1), (22, .invokevirtual 390, 3), (25, .aload_n 0, 1), (26, .iload_n 1, 1), (27, .invokevirtual 400, 3), (30, .aload_n 0, 1), (31, .iload_n 2, 1), (32, .iload_n 3, 1), (33, .invokevirtual 403, 3), (36, .istore 4, 2), (38, .iload 4, 2), (40, .iconst (-1), 1), (41, .if_icmp .ne 7, 3), (44, .iconst (-1), 1), (45, .goto 9, 3), (48, .aload_n 0, 1), (49, .iload 4, 2), (51, .invokevirtual 387, 3), (54, .ireturn, 1)]
theorem dt_Md_top : am_Dec (xC X_Md_top) T_Md_top := by decide +kernel
def y_Md_fullest : MethodName := ⟨"NumberedSparksModel", "fullest", "(II)I"⟩
abbrev X_Md_fullest : am_X := ("NumberedSparksModel", prog_11_method_86_code, 5, (some FieldType.int), "fullest", 8)
theorem mb_Md_fullest : am_mb y_Md_fullest X_Md_fullest 2 := ⟨wd_1631, wd_10, ⟨by decide +kernel, by decide +kernel⟩, by decide +kernel, by decide, rfl⟩
def T_Md_fullest : List (Nat × Instr × Nat) := [(0, .aload_n 0, 1), (1, .iload_n 1, 1), (2, .invokevirtual 338, 3), (5, .ifCond .eq 15, 3), (8, .iload_n 2, 1), (9, .i2l, 1), (10, .lconst 0, 1), (11, .ldc2_w 341, 3), (14, .invokestatic 81, 3), (17, .ifCond .ne 6, 3), (20, .bipush (-2), 2), (22, .ireturn, 1), (23, .aload_n 0, 1), (24, .iload_n 1, 1), (25, .invokevirtual 377, 3), (28, .aload_n 0, 1), (29, .iload_n 1, 1), (30, .invokevirtual 400, 3), (33, .iconst 0, 1), (34, .istore_n 3, 1), (35, .iload_n 3, 1), (36, .sipush 1600, 3), (39, .if_icmp .ge 16, 3), (42, .aload_n 0, 1), (43, .getfield 65, 3), (46, .iload_n 3, 1), (47, .iconst 0, 1), (48, .iastore, 1), (49, .iinc 3 1, 3), (52, .goto (-17), 3), (55, .iconst (-1), 1), (56, .istore_n 3, 1), (57, .iconst 0, 1), (58, .istore 4, 2), (60, .iload 4, 2), (62, .aload_n 0, 1), (63, .getfield 361, 3), (66, .if_icmp .ge 36, 3), (69, .aload_n 0, 1), (70, .getfield 65, 3), (73, .bipush 40, 2), (75, .aload_n 0, 1), (76, .getfield 61, 3), (79, .iload 4, 2), (81, .iaload, 1), (82, .imul, 1), (83, .aload_n 0, 1), (84, .getfield 58, 3), (87, .iload 4, 2), (89, .iaload, 1), (90, .iadd, 1), (91, .dup2, 1), (92, .iaload, 1), (93, .iconst 1, 1), (94, .iadd, 1), (95, .iastore, 1), (96, .iinc 4 1, 3), (99, .goto (-39), 3), (102, .iconst 0, 1), (103, .istore 4, 2), (105, .iload 4, 2), (107, .sipush 1600, 3), (110, .if_icmp .ge 43, 3), (113, .aload_n 0, 1), (114, .getfield 65, 3), (117, .iload 4, 2), (119, .iaload, 1), (120, .ifCond .le 27, 3), (123, .iload_n 3, 1), (124, .iconst (-1), 1), (125, .if_icmp .eq 19, 3), (128, .aload_n 0, 1), (129, .getfield 65, 3), (132, .iload 4, 2), (134, .iaload, 1), (135, .aload_n 0, 1), (136, .getfield 65, 3), (139, .iload_n 3, 1), (140, .iaload, 1), (141, .if_icmp .le 6, 3), (144, .iload 4, 2), (146, .istore_n 3, 1), (147, .iinc 4 1, 3), (150, .goto (-45), 3), (153, .iload_n 3, 1), (154, .iconst (-1), 1), (155, .if_icmp .ne 5, 3), (158, .iconst (-1), 1), (159, .ireturn, 1), (160, .iload_n 2, 1), (161, .ifCond .ne 10, 3), (164, .iload_n 3, 1), (165, .bipush 40, 2), (167, .irem, 1), (168, .goto 21, 3), (171, .iload_n 2, 1), (172, .iconst 1, 1), (173, .if_icmp .ne 10, 3), (176, .iload_n 3, 1), (177, .bipush 40, 2), (179, .idiv, 1), (180, .goto 9, 3), (183, .aload_n 0, 1), (184, .getfield 65, 3), (187, .iload_n 3, 1), (188, .iaload, 1), (189, .ireturn, 1)]
theorem dt_Md_fullest : am_Dec (xC X_Md_fullest) T_Md_fullest := by decide +kernel
def y_Md_isCell : MethodName := ⟨"NumberedSparksModel", "isCell", "(III)Z"⟩
abbrev X_Md_isCell : am_X := ("NumberedSparksModel", prog_11_method_87_code, 4, (some FieldType.boolean), "isCell", 2)
theorem mb_Md_isCell : am_mb y_Md_isCell X_Md_isCell 3 := ⟨wd_1639, wd_10, ⟨by decide +kernel, by decide +kernel⟩, by decide +kernel, by decide, rfl⟩
def T_Md_isCell : List (Nat × Instr × Nat) := [(0, .aload_n 0, 1), (1, .iload_n 1, 1), (2, .iload_n 2, 1), (3, .invokevirtual 397, 3), (6, .ifCond .eq 25, 3), (9, .iload_n 3, 1), (10, .i2l, 1), (11, .lconst 0, 1), (12, .aload_n 0, 1), (13, .getfield 7, 3), (16, .iconst 2, 1), (17, .iaload, 1), (18, .iconst 1, 1), (19, .isub, 1), (20, .i2l, 1), (21, .invokestatic 81, 3), (24, .ifCond .eq 7, 3), (27, .iconst 1, 1), (28, .goto 4, 3), (31, .iconst 0, 1), (32, .ireturn, 1)]
theorem dt_Md_isCell : am_Dec (xC X_Md_isCell) T_Md_isCell := by decide +kernel
def y_Md_squares : MethodName := ⟨"NumberedSparksModel", "squares", "(IIIII)J"⟩
abbrev X_Md_squares : am_X := ("NumberedSparksModel", prog_11_method_88_code, 12, (some FieldType.long), "squares", 5)
theorem mb_Md_squares : am_mb y_Md_squares X_Md_squares 5 := ⟨wd_1643, wd_10, ⟨by decide +kernel, by decide +kernel⟩, by decide +kernel, by decide, rfl⟩
def T_Md_squares : List (Nat × Instr × Nat) := [(0, .aload_n 0, 1), (1, .aload_n 0, 1), (2, .iload_n 1, 1), (3, .invokevirtual 387, 3), (6, .invokevirtual 333, 3), (9, .aload_n 0, 1), (10, .iconst 0, 1), (11, .iload_n 2, 1), (12, .aload_n 0, 1), (13, .getfield 292, 3), (16, .isub, 1), (17, .invokevirtual 309, 3), (20, .i2l, 1), (21, .ldc2_w 406, 3), (24, .iload_n 3, 1), (25, .i2l, 1), (26, .lmul, 1), (27, .lsub, 1), (28, .ldc2_w 254, 3), (31, .lsub, 1), (32, .lstore 6, 2), (34, .aload_n 0, 1), (35, .iconst 1, 1), (36, .iload_n 2, 1), (37, .aload_n 0, 1), (38, .getfield 292, 3), (41, .isub, 1), (42, .invokevirtual 309, 3), (45, .i2l, 1), (46, .ldc2_w 406, 3), (49, .iload 4, 2), (51, .i2l, 1), (52, .lmul, 1), (53, .lsub, 1), (54, .ldc2_w 254, 3), (57, .lsub, 1), (58, .lstore 8, 2), (60, .aload_n 0, 1), (61, .iconst 2, 1), (62, .iload_n 2, 1), (63, .aload_n 0, 1), (64, .getfield 292, 3), (67, .isub, 1), (68, .invokevirtual 309, 3), (71, .i2l, 1), (72, .ldc2_w 406, 3), (75, .iload 5, 2), (77, .i2l, 1), (78, .lmul, 1), (79, .lsub, 1), (80, .ldc2_w 254, 3), (83, .lsub, 1), (84, .lstore 10, 2), (86, .lload 6, 2), (88, .lload 6, 2), (90, .lmul, 1), (91, .lload 8, 2), (93, .lload 8, 2), (95, .lmul, 1), (96, .ladd, 1), (97, .lload 10, 2), (99, .lload 10, 2), (101, .lmul, 1), (102, .ladd, 1), (103, .lreturn, 1)]
theorem dt_Md_squares : am_Dec (xC X_Md_squares) T_Md_squares := by decide +kernel
def y_Md_nearest : MethodName := ⟨"NumberedSparksModel", "nearest", "(IIII)I"⟩
abbrev X_Md_nearest : am_X := ("NumberedSparksModel", prog_11_method_89_code, 12, (some FieldType.int), "nearest", 8)
theorem mb_Md_nearest : am_mb y_Md_nearest X_Md_nearest 4 := ⟨wd_1635, wd_10, ⟨by decide +kernel, by decide +kernel⟩, by decide +kernel, by decide, rfl⟩
def T_Md_nearest : List (Nat × Instr × Nat) := [(0, .aload_n 0, 1), (1, .iload_n 1, 1), (2, .invokevirtual 338, 3), (5, .ifCond .eq 14, 3), (8, .aload_n 0, 1), (9, .iload_n 2, 1), (10, .iload_n 3, 1), (11, .iload 4, 2), (13, .invokevirtual 408, 3), (16, .ifCond .ne 6, 3), (19, .bipush (-2), 2), (21, .ireturn, 1), (22, .aload_n 0, 1), (23, .iload_n 1, 1), (24, .invokevirtual 377, 3), (27, .iconst (-1), 1), (28, .istore 5, 2), (30, .lconst 0, 1), (31, .lstore 6, 2), (33, .iconst 0, 1), (34, .istore 8, 2), (36, .iload 8, 2), (38, .aload_n 0, 1), (39, .getfield 361, 3), (42, .if_icmp .ge 70, 3), (45, .aload_n 0, 1), (46, .iload 8, 2), (48, .iload_n 1, 1), (49, .iload_n 2, 1), (50, .iload_n 3, 1), (51, .iload 4, 2), (53, .invokevirtual 411, 3), (56, .lstore 9, 2), (58, .aload_n 0, 1), (59, .iload 8, 2), (61, .invokevirtual 387, 3), (64, .istore 11, 2), (66, .iload 5, 2), (68, .iconst (-1), 1), (69, .if_icmp .eq 29, 3), (72, .lload 9, 2), (74, .lload 6, 2), (76, .lcmp, 1), (77, .ifCond .gt 29, 3), (80, .lload 9, 2), (82, .lload 6, 2), (84, .lcmp, 1), (85, .ifCond .ne 13, 3), (88, .iload 11, 2), (90, .iload 5, 2), (92, .if_icmp .le 6, 3), (95, .goto 11, 3), (98, .iload 11, 2), (100, .istore 5, 2), (102, .lload 9, 2), (104, .lstore 6, 2), (106, .iinc 8 1, 3), (109, .goto (-73), 3), (112, .iload 5, 2), (114, .ireturn, 1)]
theorem dt_Md_nearest : am_Dec (xC X_Md_nearest) T_Md_nearest := by decide +kernel
def y_Md_within : MethodName := ⟨"NumberedSparksModel", "within", "(IIIII)I"⟩
abbrev X_Md_within : am_X := ("NumberedSparksModel", prog_11_method_90_code, 8, (some FieldType.int), "within", 8)
theorem mb_Md_within : am_mb y_Md_within X_Md_within 5 := ⟨wd_1648, wd_10, ⟨by decide +kernel, by decide +kernel⟩, by decide +kernel, by decide, rfl⟩
def T_Md_within : List (Nat × Instr × Nat) := [(0, .aload_n 0, 1), (1, .iload_n 1, 1), (2, .invokevirtual 338, 3), (5, .ifCond .eq 27, 3), (8, .aload_n 0, 1), (9, .iload_n 2, 1), (10, .iload_n 3, 1), (11, .iload 4, 2), (13, .invokevirtual 408, 3), (16, .ifCond .eq 16, 3), (19, .iload 5, 2), (21, .i2l, 1), (22, .lconst 0, 1), (23, .ldc2_w 415, 3), (26, .invokestatic 81, 3), (29, .ifCond .ne 6, 3), (32, .bipush (-2), 2), (34, .ireturn, 1), (35, .aload_n 0, 1), (36, .iload_n 1, 1), (37, .invokevirtual 377, 3), (40, .iconst 0, 1), (41, .istore 6, 2), (43, .iconst 0, 1), (44, .istore 7, 2), (46, .iload 7, 2), (48, .aload_n 0, 1), (49, .getfield 361, 3), (52, .if_icmp .ge 41, 3), (55, .iload 6, 2), (57, .aload_n 0, 1), (58, .iload 7, 2), (60, .iload_n 1, 1), (61, .iload_n 2, 1), (62, .iload_n 3, 1), (63, .iload 4, 2), (65, .invokevirtual 411, 3), (68, .iload 5, 2), (70, .i2l, 1), (71, .iload 5, 2), (73, .i2l, 1), (74, .lmul, 1), (75, .lcmp, 1), (76, .ifCond .gt 7, 3), (79, .iconst 1, 1), (80, .goto 4, 3), (83, .iconst 0, 1), (84, .iadd, 1), (85, .istore 6, 2), (87, .iinc 7 1, 3), (90, .goto (-44), 3), (93, .iload 6, 2), (95, .ireturn, 1)]
theorem dt_Md_within : am_Dec (xC X_Md_within) T_Md_within := by decide +kernel
def y_Md_placeAt : MethodName := ⟨"NumberedSparksModel", "placeAt", "(III)I"⟩
abbrev X_Md_placeAt : am_X := ("NumberedSparksModel", prog_11_method_79_code, 4, (some FieldType.int), "placeAt", 5)
theorem mb_Md_placeAt : am_mb y_Md_placeAt X_Md_placeAt 3 := ⟨wd_1662, wd_10, ⟨by decide +kernel, by decide +kernel⟩, by decide +kernel, by decide, rfl⟩
def T_Md_placeAt : List (Nat × Instr × Nat) := [(0, .aload_n 0, 1), (1, .aload_n 0, 1), (2, .iload_n 1, 1), (3, .invokevirtual 387, 3), (6, .invokevirtual 333, 3), (9, .aload_n 0, 1), (10, .iload_n 3, 1), (11, .iload_n 2, 1), (12, .aload_n 0, 1), (13, .getfield 292, 3), (16, .isub, 1), (17, .invokevirtual 309, 3), (20, .ireturn, 1)]
theorem dt_Md_placeAt : am_Dec (xC X_Md_placeAt) T_Md_placeAt := by decide +kernel
def y_Md_laysHeaps : MethodName := ⟨"NumberedSparksModel", "laysHeaps", "(I)V"⟩
abbrev X_Md_laysHeaps : am_X := ("NumberedSparksModel", prog_11_method_91_code, 3, none, "laysHeaps", 8)
theorem mb_Md_laysHeaps : am_mb y_Md_laysHeaps X_Md_laysHeaps 1 := ⟨wd_1658, wd_10, ⟨by decide +kernel, by decide +kernel⟩, by decide +kernel, by decide, rfl⟩
def T_Md_laysHeaps : List (Nat × Instr × Nat) := [(0, .aload_n 0, 1), (1, .iload_n 1, 1), (2, .invokevirtual 377, 3), (5, .aload_n 0, 1), (6, .iload_n 1, 1), (7, .invokevirtual 400, 3), (10, .iconst 0, 1), (11, .istore_n 2, 1), (12, .iload_n 2, 1), (13, .ldc 64, 2), (15, .if_icmp .ge 16, 3), (18, .aload_n 0, 1), (19, .getfield 65, 3), (22, .iload_n 2, 1), (23, .iconst 0, 1), (24, .iastore, 1), (25, .iinc 2 1, 3), (28, .goto (-16), 3), (31, .iconst 0, 1), (32, .istore_n 2, 1), (33, .iload_n 2, 1), (34, .aload_n 0, 1), (35, .getfield 361, 3), (38, .if_icmp .ge 48, 3), (41, .aload_n 0, 1), (42, .getfield 65, 3), (45, .aload_n 0, 1), (46, .iload_n 2, 1), (47, .iload_n 1, 1), (48, .iconst 2, 1), (49, .invokevirtual 417, 3), (52, .bipush 8, 2), (54, .idiv, 1), (55, .bipush 40, 2), (57, .imul, 1), (58, .aload_n 0, 1), (59, .getfield 61, 3), (62, .iload_n 2, 1), (63, .iaload, 1), (64, .iadd, 1), (65, .bipush 40, 2), (67, .imul, 1), (68, .aload_n 0, 1), (69, .getfield 58, 3), (72, .iload_n 2, 1), (73, .iaload, 1), (74, .iadd, 1), (75, .dup2, 1), (76, .iaload, 1), (77, .iconst 1, 1), (78, .iadd, 1), (79, .iastore, 1), (80, .iinc 2 1, 3), (83, .goto (-50), 3), (86, .return_, 1)]
theorem dt_Md_laysHeaps : am_Dec (xC X_Md_laysHeaps) T_Md_laysHeaps := by decide +kernel
def y_Md_twos : MethodName := ⟨"NumberedSparksModel", "twos", "(I)J"⟩
abbrev X_Md_twos : am_X := ("NumberedSparksModel", prog_11_method_92_code, 5, (some FieldType.long), "twos", 9)
theorem mb_Md_twos : am_mb y_Md_twos X_Md_twos 1 := ⟨wd_1653, wd_10, ⟨by decide +kernel, by decide +kernel⟩, by decide +kernel, by decide, rfl⟩
def T_Md_twos : List (Nat × Instr × Nat) := [(0, .aload_n 0, 1), (1, .iload_n 1, 1), (2, .invokevirtual 338, 3), (5, .ifCond .ne 7, 3), (8, .ldc2_w 420, 3), (11, .lreturn, 1), (12, .aload_n 0, 1), (13, .iload_n 1, 1), (14, .invokevirtual 422, 3), (17, .lconst 0, 1), (18, .lstore_n 2, 1), (19, .iconst 0, 1), (20, .istore 4, 2), (22, .iload 4, 2), (24, .ldc 64, 2), (26, .if_icmp .ge 35, 3), (29, .lload_n 2, 1), (30, .aload_n 0, 1), (31, .getfield 65, 3), (34, .iload 4, 2), (36, .iaload, 1), (37, .i2l, 1), (38, .aload_n 0, 1), (39, .getfield 65, 3), (42, .iload 4, 2), (44, .iaload, 1), (45, .iconst 1, 1), (46, .isub, 1), (47, .i2l, 1), (48, .lmul, 1), (49, .ldc2_w 341, 3), (52, .ldiv, 1), (53, .ladd, 1), (54, .lstore_n 2, 1), (55, .iinc 4 1, 3), (58, .goto (-36), 3), (61, .lload_n 2, 1), (62, .lreturn, 1)]
theorem dt_Md_twos : am_Dec (xC X_Md_twos) T_Md_twos := by decide +kernel
def y_Md_firstIn : MethodName := ⟨"NumberedSparksModel", "firstIn", "(III)I"⟩
abbrev X_Md_firstIn : am_X := ("NumberedSparksModel", prog_11_method_93_code, 5, (some FieldType.int), "firstIn", 9)
theorem mb_Md_firstIn : am_mb y_Md_firstIn X_Md_firstIn 3 := ⟨wd_1666, wd_10, ⟨by decide +kernel, by decide +kernel⟩, by decide +kernel, by decide, rfl⟩
def T_Md_firstIn : List (Nat × Instr × Nat) := [(0, .aload_n 0, 1), (1, .iload_n 1, 1), (2, .invokevirtual 338, 3), (5, .ifCond .eq 12, 3), (8, .aload_n 0, 1), (9, .iload_n 2, 1), (10, .iload_n 3, 1), (11, .invokevirtual 397, 3), (14, .ifCond .ne 6, 3), (17, .bipush (-2), 2), (19, .ireturn, 1), (20, .iload_n 1, 1), (21, .istore 4, 2), (23, .iload 4, 2), (25, .iload_n 1, 1), (26, .bipush 100, 2), (28, .iadd, 1), (29, .if_icmp .ge 31, 3), (32, .iload 4, 2), (34, .sipush 30000, 3), (37, .if_icmp .gt 23, 3), (40, .aload_n 0, 1), (41, .iload 4, 2), (43, .iload_n 2, 1), (44, .iload_n 3, 1), (45, .invokevirtual 425, 3), (48, .ifCond .le 6, 3), (51, .iload 4, 2), (53, .ireturn, 1), (54, .iinc 4 1, 3), (57, .goto (-34), 3), (60, .iconst (-1), 1), (61, .ireturn, 1)]
theorem dt_Md_firstIn : am_Dec (xC X_Md_firstIn) T_Md_firstIn := by decide +kernel
def y_Md_peak : MethodName := ⟨"NumberedSparksModel", "peak", "(III)I"⟩
abbrev X_Md_peak : am_X := ("NumberedSparksModel", prog_11_method_94_code, 7, (some FieldType.int), "peak", 8)
theorem mb_Md_peak : am_mb y_Md_peak X_Md_peak 3 := ⟨wd_1671, wd_10, ⟨by decide +kernel, by decide +kernel⟩, by decide +kernel, by decide, rfl⟩
def T_Md_peak : List (Nat × Instr × Nat) := [(0, .aload_n 0, 1), (1, .getfield 219, 3), (4, .ifCond .eq 52, 3), (7, .iload_n 1, 1), (8, .i2l, 1), (9, .lconst 0, 1), (10, .ldc2_w 428, 3), (13, .invokestatic 81, 3), (16, .ifCond .eq 40, 3), (19, .iload_n 2, 1), (20, .i2l, 1), (21, .lconst 0, 1), (22, .ldc2_w 428, 3), (25, .invokestatic 81, 3), (28, .ifCond .eq 28, 3), (31, .iload_n 2, 1), (32, .i2l, 1), (33, .iload_n 1, 1), (34, .i2l, 1), (35, .lsub, 1), (36, .lconst 1, 1), (37, .ldc2_w 430, 3), (40, .invokestatic 81, 3), (43, .ifCond .eq 13, 3), (46, .iload_n 3, 1), (47, .i2l, 1), (48, .lconst 0, 1), (49, .lconst 1, 1), (50, .invokestatic 81, 3), (53, .ifCond .ne 6, 3), (56, .bipush (-2), 2), (58, .ireturn, 1), (59, .iconst (-1), 1), (60, .istore 4, 2), (62, .iconst (-1), 1), (63, .istore 5, 2), (65, .iload_n 1, 1), (66, .istore 6, 2), (68, .iload 6, 2), (70, .iload_n 2, 1), (71, .if_icmp .ge 37, 3), (74, .aload_n 0, 1), (75, .iload 6, 2), (77, .invokevirtual 377, 3), (80, .aload_n 0, 1), (81, .getfield 361, 3), (84, .iload 5, 2), (86, .if_icmp .gt 6, 3), (89, .goto 13, 3), (92, .aload_n 0, 1), (93, .getfield 361, 3), (96, .istore 5, 2), (98, .iload 6, 2), (100, .istore 4, 2), (102, .iinc 6 1, 3), (105, .goto (-37), 3), (108, .iload_n 3, 1), (109, .ifCond .ne 8, 3), (112, .iload 4, 2), (114, .goto 5, 3), (117, .iload 5, 2), (119, .ireturn, 1)]
theorem dt_Md_peak : am_Dec (xC X_Md_peak) T_Md_peak := by decide +kernel
def y_Md_box : MethodName := ⟨"NumberedSparksModel", "box", "(II)I"⟩
abbrev X_Md_box : am_X := ("NumberedSparksModel", prog_11_method_95_code, 6, (some FieldType.int), "box", 8)
theorem mb_Md_box : am_mb y_Md_box X_Md_box 2 := ⟨wd_1677, wd_10, ⟨by decide +kernel, by decide +kernel⟩, by decide +kernel, by decide, rfl⟩
def T_Md_box : List (Nat × Instr × Nat) := [(0, .aload_n 0, 1), (1, .iload_n 1, 1), (2, .invokevirtual 338, 3), (5, .ifCond .eq 15, 3), (8, .iload_n 2, 1), (9, .i2l, 1), (10, .lconst 0, 1), (11, .ldc2_w 432, 3), (14, .invokestatic 81, 3), (17, .ifCond .ne 6, 3), (20, .bipush (-2), 2), (22, .ireturn, 1), (23, .aload_n 0, 1), (24, .iload_n 1, 1), (25, .invokevirtual 377, 3), (28, .iconst (-1), 1), (29, .istore_n 3, 1), (30, .iconst 0, 1), (31, .istore 4, 2), (33, .iload 4, 2), (35, .aload_n 0, 1), (36, .getfield 361, 3), (39, .if_icmp .ge 55, 3), (42, .aload_n 0, 1), (43, .iload 4, 2), (45, .iload_n 1, 1), (46, .iload_n 2, 1), (47, .iconst 3, 1), (48, .irem, 1), (49, .invokevirtual 417, 3), (52, .bipush 8, 2), (54, .idiv, 1), (55, .istore 5, 2), (57, .iload_n 3, 1), (58, .iconst (-1), 1), (59, .if_icmp .ne 8, 3), (62, .iload 5, 2), (64, .goto 23, 3), (67, .iload_n 2, 1), (68, .iconst 3, 1), (69, .if_icmp .ge 12, 3), (72, .iload_n 3, 1), (73, .iload 5, 2), (75, .invokestatic 120, 3), (78, .goto 9, 3), (81, .iload_n 3, 1), (82, .iload 5, 2), (84, .invokestatic 343, 3), (87, .istore_n 3, 1), (88, .iinc 4 1, 3), (91, .goto (-58), 3), (94, .iload_n 3, 1), (95, .ireturn, 1)]
theorem dt_Md_box : am_Dec (xC X_Md_box) T_Md_box := by decide +kernel
def y_Md_middle : MethodName := ⟨"NumberedSparksModel", "middle", "(II)I"⟩
abbrev X_Md_middle : am_X := ("NumberedSparksModel", prog_11_method_96_code, 6, (some FieldType.int), "middle", 8)
theorem mb_Md_middle : am_mb y_Md_middle X_Md_middle 2 := ⟨wd_1682, wd_10, ⟨by decide +kernel, by decide +kernel⟩, by decide +kernel, by decide, rfl⟩
def T_Md_middle : List (Nat × Instr × Nat) := [(0, .aload_n 0, 1), (1, .iload_n 1, 1), (2, .invokevirtual 338, 3), (5, .ifCond .eq 15, 3), (8, .iload_n 2, 1), (9, .i2l, 1), (10, .lconst 0, 1), (11, .ldc2_w 341, 3), (14, .invokestatic 81, 3), (17, .ifCond .ne 6, 3), (20, .bipush (-2), 2), (22, .ireturn, 1), (23, .aload_n 0, 1), (24, .iload_n 1, 1), (25, .invokevirtual 377, 3), (28, .lconst 0, 1), (29, .lstore_n 3, 1), (30, .iconst 0, 1), (31, .istore 5, 2), (33, .iload 5, 2), (35, .aload_n 0, 1), (36, .getfield 361, 3), (39, .if_icmp .ge 21, 3), (42, .lload_n 3, 1), (43, .aload_n 0, 1), (44, .iload 5, 2), (46, .iload_n 1, 1), (47, .iload_n 2, 1), (48, .invokevirtual 417, 3), (51, .i2l, 1), (52, .ladd, 1), (53, .lstore_n 3, 1), (54, .iinc 5 1, 3), (57, .goto (-24), 3), (60, .aload_n 0, 1), (61, .getfield 361, 3), (64, .ifCond .ne 7, 3), (67, .iconst (-1), 1), (68, .goto 11, 3), (71, .lload_n 3, 1), (72, .aload_n 0, 1), (73, .getfield 361, 3), (76, .i2l, 1), (77, .ldiv, 1), (78, .l2i, 1), (79, .ireturn, 1)]
theorem dt_Md_middle : am_Dec (xC X_Md_middle) T_Md_middle := by decide +kernel
def y_Md_both : MethodName := ⟨"NumberedSparksModel", "both", "(II)I"⟩
abbrev X_Md_both : am_X := ("NumberedSparksModel", prog_11_method_97_code, 5, (some FieldType.int), "both", 8)
theorem mb_Md_both : am_mb y_Md_both X_Md_both 2 := ⟨wd_1686, wd_10, ⟨by decide +kernel, by decide +kernel⟩, by decide +kernel, by decide, rfl⟩
def T_Md_both : List (Nat × Instr × Nat) := [(0, .aload_n 0, 1), (1, .iload_n 1, 1), (2, .invokevirtual 338, 3), (5, .ifCond .eq 11, 3), (8, .aload_n 0, 1), (9, .iload_n 2, 1), (10, .invokevirtual 338, 3), (13, .ifCond .ne 6, 3), (16, .bipush (-2), 2), (18, .ireturn, 1), (19, .aload_n 0, 1), (20, .iload_n 1, 1), (21, .invokevirtual 377, 3), (24, .iconst 0, 1), (25, .istore_n 3, 1), (26, .iconst 0, 1), (27, .istore 4, 2), (29, .iload 4, 2), (31, .aload_n 0, 1), (32, .getfield 361, 3), (35, .if_icmp .ge 43, 3), (38, .aload_n 0, 1), (39, .aload_n 0, 1), (40, .iload 4, 2), (42, .invokevirtual 387, 3), (45, .invokevirtual 333, 3), (48, .iload_n 3, 1), (49, .iload_n 2, 1), (50, .aload_n 0, 1), (51, .getfield 292, 3), (54, .if_icmp .lt 15, 3), (57, .iload_n 2, 1), (58, .aload_n 0, 1), (59, .getfield 303, 3), (62, .if_icmp .ge 7, 3), (65, .iconst 1, 1), (66, .goto 4, 3), (69, .iconst 0, 1), (70, .iadd, 1), (71, .istore_n 3, 1), (72, .iinc 4 1, 3), (75, .goto (-46), 3), (78, .iload_n 3, 1), (79, .ireturn, 1)]
theorem dt_Md_both : am_Dec (xC X_Md_both) T_Md_both := by decide +kernel
def y_Md_ofAge : MethodName := ⟨"NumberedSparksModel", "ofAge", "(III)I"⟩
abbrev X_Md_ofAge : am_X := ("NumberedSparksModel", prog_11_method_98_code, 10, (some FieldType.int), "ofAge", 8)
theorem mb_Md_ofAge : am_mb y_Md_ofAge X_Md_ofAge 3 := ⟨wd_1690, wd_10, ⟨by decide +kernel, by decide +kernel⟩, by decide +kernel, by decide, rfl⟩
def T_Md_ofAge : List (Nat × Instr × Nat) := [(0, .aload_n 0, 1), (1, .iload_n 1, 1), (2, .invokevirtual 338, 3), (5, .ifCond .eq 27, 3), (8, .iload_n 2, 1), (9, .i2l, 1), (10, .lconst 0, 1), (11, .ldc2_w 341, 3), (14, .invokestatic 81, 3), (17, .ifCond .eq 15, 3), (20, .iload_n 3, 1), (21, .i2l, 1), (22, .lconst 0, 1), (23, .ldc2_w 341, 3), (26, .invokestatic 81, 3), (29, .ifCond .ne 6, 3), (32, .bipush (-2), 2), (34, .ireturn, 1), (35, .aload_n 0, 1), (36, .iload_n 1, 1), (37, .invokevirtual 377, 3), (40, .iconst 0, 1), (41, .istore 4, 2), (43, .iconst 0, 1), (44, .istore 5, 2), (46, .iconst (-1), 1), (47, .istore 6, 2), (49, .iconst (-1), 1), (50, .istore 7, 2), (52, .iconst 0, 1), (53, .istore 8, 2), (55, .iload 8, 2), (57, .aload_n 0, 1), (58, .getfield 361, 3), (61, .if_icmp .ge 93, 3), (64, .aload_n 0, 1), (65, .iload 8, 2), (67, .invokevirtual 387, 3), (70, .istore 9, 2), (72, .iload 9, 2), (74, .invokestatic 321, 3), (77, .iload_n 2, 1), (78, .if_icmp .eq 6, 3), (81, .goto 67, 3), (84, .aload_n 0, 1), (85, .iload 9, 2), (87, .invokevirtual 333, 3), (90, .iinc 4 1, 3), (93, .iload 5, 2), (95, .iload_n 1, 1), (96, .aload_n 0, 1), (97, .getfield 292, 3), (100, .isub, 1), (101, .iadd, 1), (102, .istore 5, 2), (104, .iload_n 1, 1), (105, .aload_n 0, 1), (106, .getfield 292, 3), (109, .isub, 1), (110, .iload 7, 2), (112, .if_icmp .lt 36, 3), (115, .iload_n 1, 1), (116, .aload_n 0, 1), (117, .getfield 292, 3), (120, .isub, 1), (121, .iload 7, 2), (123, .if_icmp .ne 13, 3), (126, .iload 9, 2), (128, .iload 6, 2), (130, .if_icmp .le 6, 3), (133, .goto 15, 3), (136, .iload_n 1, 1), (137, .aload_n 0, 1), (138, .getfield 292, 3), (141, .isub, 1), (142, .istore 7, 2), (144, .iload 9, 2), (146, .istore 6, 2), (148, .iinc 8 1, 3), (151, .goto (-96), 3), (154, .iload_n 3, 1), (155, .ifCond .ne 8, 3), (158, .iload 4, 2), (160, .goto 15, 3), (163, .iload_n 3, 1), (164, .iconst 1, 1), (165, .if_icmp .ne 8, 3), (168, .iload 5, 2), (170, .goto 5, 3), (173, .iload 6, 2), (175, .ireturn, 1)]
theorem dt_Md_ofAge : am_Dec (xC X_Md_ofAge) T_Md_ofAge := by decide +kernel
def y_Md_flux : MethodName := ⟨"NumberedSparksModel", "flux", "(IIII)I"⟩
abbrev X_Md_flux : am_X := ("NumberedSparksModel", prog_11_method_99_code, 10, (some FieldType.int), "flux", 8)
theorem mb_Md_flux : am_mb y_Md_flux X_Md_flux 4 := ⟨wd_1694, wd_10, ⟨by decide +kernel, by decide +kernel⟩, by decide +kernel, by decide, rfl⟩
def T_Md_flux : List (Nat × Instr × Nat) := [(0, .aload_n 0, 1), (1, .getfield 219, 3), (4, .ifCond .eq 71, 3), (7, .iload_n 1, 1), (8, .i2l, 1), (9, .lconst 0, 1), (10, .ldc2_w 428, 3), (13, .invokestatic 81, 3), (16, .ifCond .eq 59, 3), (19, .iload_n 2, 1), (20, .i2l, 1), (21, .lconst 0, 1), (22, .ldc2_w 428, 3), (25, .invokestatic 81, 3), (28, .ifCond .eq 47, 3), (31, .iload_n 2, 1), (32, .i2l, 1), (33, .iload_n 1, 1), (34, .i2l, 1), (35, .lsub, 1), (36, .lconst 0, 1), (37, .ldc2_w 430, 3), (40, .invokestatic 81, 3), (43, .ifCond .eq 32, 3), (46, .iload_n 3, 1), (47, .i2l, 1), (48, .lconst 1, 1), (49, .aload_n 0, 1), (50, .getfield 7, 3), (53, .iconst 0, 1), (54, .iaload, 1), (55, .iconst 1, 1), (56, .isub, 1), (57, .i2l, 1), (58, .invokestatic 81, 3), (61, .ifCond .eq 14, 3), (64, .iload 4, 2), (66, .i2l, 1), (67, .lconst 0, 1), (68, .lconst 1, 1), (69, .invokestatic 81, 3), (72, .ifCond .ne 6, 3), (75, .bipush (-2), 2), (77, .ireturn, 1), (78, .iconst 0, 1), (79, .istore 5, 2), (81, .iload_n 1, 1), (82, .istore 6, 2), (84, .iload 6, 2), (86, .iload_n 2, 1), (87, .if_icmp .ge 142, 3), (90, .aload_n 0, 1), (91, .iload 6, 2), (93, .invokevirtual 377, 3), (96, .iconst 0, 1), (97, .istore 7, 2), (99, .iload 7, 2), (101, .aload_n 0, 1), (102, .getfield 361, 3), (105, .if_icmp .ge 118, 3), (108, .aload_n 0, 1), (109, .aload_n 0, 1), (110, .iload 7, 2), (112, .invokevirtual 387, 3), (115, .invokevirtual 333, 3), (118, .iload 6, 2), (120, .aload_n 0, 1), (121, .getfield 292, 3), (124, .if_icmp .ne 6, 3), (127, .goto 90, 3), (130, .aload_n 0, 1), (131, .iconst 0, 1), (132, .iload 6, 2), (134, .iconst 1, 1), (135, .isub, 1), (136, .aload_n 0, 1), (137, .getfield 292, 3), (140, .isub, 1), (141, .invokevirtual 309, 3), (144, .bipush 8, 2), (146, .idiv, 1), (147, .iload_n 3, 1), (148, .if_icmp .ge 7, 3), (151, .iconst 1, 1), (152, .goto 4, 3), (155, .iconst 0, 1), (156, .istore 8, 2), (158, .aload_n 0, 1), (159, .iconst 0, 1), (160, .iload 6, 2), (162, .aload_n 0, 1), (163, .getfield 292, 3), (166, .isub, 1), (167, .invokevirtual 309, 3), (170, .bipush 8, 2), (172, .idiv, 1), (173, .iload_n 3, 1), (174, .if_icmp .ge 7, 3), (177, .iconst 1, 1), (178, .goto 4, 3), (181, .iconst 0, 1), (182, .istore 9, 2), (184, .iload 5, 2), (186, .iload 8, 2), (188, .iload 9, 2), (190, .if_icmp .eq 23, 3), (193, .iload 8, 2), (195, .iload 4, 2), (197, .iconst 1, 1), (198, .if_icmp .ne 7, 3), (201, .iconst 1, 1), (202, .goto 4, 3), (205, .iconst 0, 1), (206, .if_icmp .ne 7, 3), (209, .iconst 1, 1), (210, .goto 4, 3), (213, .iconst 0, 1), (214, .iadd, 1), (215, .istore 5, 2), (217, .iinc 7 1, 3), (220, .goto (-121), 3), (223, .iinc 6 1, 3), (226, .goto (-142), 3), (229, .iload 5, 2), (231, .ireturn, 1)]
theorem dt_Md_flux : am_Dec (xC X_Md_flux) T_Md_flux := by decide +kernel
def y_Md_colours : MethodName := ⟨"NumberedSparksModel", "colours", "(II)I"⟩
abbrev X_Md_colours : am_X := ("NumberedSparksModel", prog_11_method_100_code, 5, (some FieldType.int), "colours", 8)
theorem mb_Md_colours : am_mb y_Md_colours X_Md_colours 2 := ⟨wd_1698, wd_10, ⟨by decide +kernel, by decide +kernel⟩, by decide +kernel, by decide, rfl⟩
def T_Md_colours : List (Nat × Instr × Nat) := [(0, .aload_n 0, 1), (1, .iload_n 1, 1), (2, .invokevirtual 338, 3), (5, .ifCond .eq 15, 3), (8, .iload_n 2, 1), (9, .i2l, 1), (10, .lconst 0, 1), (11, .ldc2_w 236, 3), (14, .invokestatic 81, 3), (17, .ifCond .ne 6, 3), (20, .bipush (-2), 2), (22, .ireturn, 1), (23, .aload_n 0, 1), (24, .iload_n 1, 1), (25, .invokevirtual 377, 3), (28, .iconst 0, 1), (29, .istore_n 3, 1), (30, .iconst 0, 1), (31, .istore 4, 2), (33, .iload 4, 2), (35, .aload_n 0, 1), (36, .getfield 361, 3), (39, .if_icmp .ge 34, 3), (42, .iload_n 3, 1), (43, .aload_n 0, 1), (44, .aload_n 0, 1), (45, .iload 4, 2), (47, .invokevirtual 387, 3), (50, .iconst 5, 1), (51, .bipush 8, 2), (53, .invokevirtual 295, 3), (56, .iload_n 2, 1), (57, .if_icmp .ne 7, 3), (60, .iconst 1, 1), (61, .goto 4, 3), (64, .iconst 0, 1), (65, .iadd, 1), (66, .istore_n 3, 1), (67, .iinc 4 1, 3), (70, .goto (-37), 3), (73, .iload_n 3, 1), (74, .ireturn, 1)]
theorem dt_Md_colours : am_Dec (xC X_Md_colours) T_Md_colours := by decide +kernel
def y_Md_columns : MethodName := ⟨"NumberedSparksModel", "columns", "(I)I"⟩
abbrev X_Md_columns : am_X := ("NumberedSparksModel", prog_11_method_101_code, 4, (some FieldType.int), "columns", 8)
theorem mb_Md_columns : am_mb y_Md_columns X_Md_columns 1 := ⟨wd_1702, wd_10, ⟨by decide +kernel, by decide +kernel⟩, by decide +kernel, by decide, rfl⟩
def T_Md_columns : List (Nat × Instr × Nat) := [(0, .aload_n 0, 1), (1, .iload_n 1, 1), (2, .invokevirtual 338, 3), (5, .ifCond .ne 6, 3), (8, .bipush (-2), 2), (10, .ireturn, 1), (11, .aload_n 0, 1), (12, .iload_n 1, 1), (13, .invokevirtual 377, 3), (16, .aload_n 0, 1), (17, .iload_n 1, 1), (18, .invokevirtual 400, 3), (21, .iconst 0, 1), (22, .istore_n 2, 1), (23, .iload_n 2, 1), (24, .sipush 1600, 3), (27, .if_icmp .ge 16, 3), (30, .aload_n 0, 1), (31, .getfield 65, 3), (34, .iload_n 2, 1), (35, .iconst 0, 1), (36, .iastore, 1), (37, .iinc 2 1, 3), (40, .goto (-17), 3), (43, .iconst 0, 1), (44, .istore_n 2, 1), (45, .iload_n 2, 1), (46, .aload_n 0, 1), (47, .getfield 361, 3), (50, .if_icmp .ge 31, 3), (53, .aload_n 0, 1), (54, .getfield 65, 3), (57, .bipush 40, 2), (59, .aload_n 0, 1), (60, .getfield 61, 3), (63, .iload_n 2, 1), (64, .iaload, 1), (65, .imul, 1), (66, .aload_n 0, 1), (67, .getfield 58, 3), (70, .iload_n 2, 1), (71, .iaload, 1), (72, .iadd, 1), (73, .iconst 1, 1), (74, .iastore, 1), (75, .iinc 2 1, 3), (78, .goto (-33), 3), (81, .iconst 0, 1), (82, .istore_n 2, 1), (83, .iconst 0, 1), (84, .istore_n 3, 1), (85, .iload_n 3, 1), (86, .sipush 1600, 3), (89, .if_icmp .ge 18, 3), (92, .iload_n 2, 1), (93, .aload_n 0, 1), (94, .getfield 65, 3), (97, .iload_n 3, 1), (98, .iaload, 1), (99, .iadd, 1), (100, .istore_n 2, 1), (101, .iinc 3 1, 3), (104, .goto (-19), 3), (107, .iload_n 2, 1), (108, .ireturn, 1)]
theorem dt_Md_columns : am_Dec (xC X_Md_columns) T_Md_columns := by decide +kernel
def y_Md_below : MethodName := ⟨"NumberedSparksModel", "below", "(IIII)I"⟩
abbrev X_Md_below : am_X := ("NumberedSparksModel", prog_11_method_102_code, 7, (some FieldType.int), "below", 9)
theorem mb_Md_below : am_mb y_Md_below X_Md_below 4 := ⟨wd_1706, wd_10, ⟨by decide +kernel, by decide +kernel⟩, by decide +kernel, by decide, rfl⟩
def T_Md_below : List (Nat × Instr × Nat) := [(0, .aload_n 0, 1), (1, .iload_n 1, 1), (2, .invokevirtual 338, 3), (5, .ifCond .eq 17, 3), (8, .aload_n 0, 1), (9, .iload_n 2, 1), (10, .iload_n 3, 1), (11, .invokevirtual 397, 3), (14, .ifCond .eq 8, 3), (17, .iload 4, 2), (19, .ifCond .ge 6, 3), (22, .bipush (-2), 2), (24, .ireturn, 1), (25, .aload_n 0, 1), (26, .iload_n 1, 1), (27, .invokevirtual 390, 3), (30, .aload_n 0, 1), (31, .iload_n 1, 1), (32, .invokevirtual 400, 3), (35, .iload 4, 2), (37, .istore 5, 2), (39, .aload_n 0, 1), (40, .getfield 361, 3), (43, .iconst 1, 1), (44, .isub, 1), (45, .istore 6, 2), (47, .iload 6, 2), (49, .ifCond .lt 49, 3), (52, .aload_n 0, 1), (53, .getfield 58, 3), (56, .iload 6, 2), (58, .iaload, 1), (59, .iload_n 2, 1), (60, .if_icmp .ne 32, 3), (63, .aload_n 0, 1), (64, .getfield 61, 3), (67, .iload 6, 2), (69, .iaload, 1), (70, .iload_n 3, 1), (71, .if_icmp .eq 6, 3), (74, .goto 18, 3), (77, .iload 5, 2), (79, .ifCond .ne 10, 3), (82, .aload_n 0, 1), (83, .iload 6, 2), (85, .invokevirtual 387, 3), (88, .ireturn, 1), (89, .iinc 5 (-1), 3), (92, .iinc 6 (-1), 3), (95, .goto (-48), 3), (98, .iconst (-1), 1), (99, .ireturn, 1)]
theorem dt_Md_below : am_Dec (xC X_Md_below) T_Md_below := by decide +kernel
def y_Md_twins : MethodName := ⟨"NumberedSparksModel", "twins", "(I)I"⟩
abbrev X_Md_twins : am_X := ("NumberedSparksModel", prog_11_method_103_code, 8, (some FieldType.int), "twins", 8)
theorem mb_Md_twins : am_mb y_Md_twins X_Md_twins 1 := ⟨wd_1710, wd_10, ⟨by decide +kernel, by decide +kernel⟩, by decide +kernel, by decide, rfl⟩
def T_Md_twins : List (Nat × Instr × Nat) := [(0, .aload_n 0, 1), (1, .iload_n 1, 1), (2, .invokevirtual 338, 3), (5, .ifCond .ne 6, 3), (8, .bipush (-2), 2), (10, .ireturn, 1), (11, .aload_n 0, 1), (12, .iload_n 1, 1), (13, .invokevirtual 377, 3), (16, .iconst 0, 1), (17, .istore_n 2, 1), (18, .iconst 0, 1), (19, .istore_n 3, 1), (20, .iload_n 3, 1), (21, .aload_n 0, 1), (22, .getfield 361, 3), (25, .if_icmp .ge 117, 3), (28, .aload_n 0, 1), (29, .iload_n 3, 1), (30, .invokevirtual 387, 3), (33, .istore 4, 2), (35, .iload 4, 2), (37, .invokestatic 321, 3), (40, .ifCond .ne 6, 3), (43, .goto 93, 3), (46, .iload 4, 2), (48, .invokestatic 321, 3), (51, .iconst 1, 1), (52, .if_icmp .ne 8, 3), (55, .bipush 16, 2), (57, .goto 4, 3), (60, .iconst 1, 1), (61, .istore 5, 2), (63, .iload 4, 2), (65, .iload 5, 2), (67, .idiv, 1), (68, .bipush 16, 2), (70, .irem, 1), (71, .istore 6, 2), (73, .iload 6, 2), (75, .iconst 1, 1), (76, .if_icmp .ne 11, 3), (79, .iload 4, 2), (81, .iload 5, 2), (83, .iadd, 1), (84, .goto 8, 3), (87, .iload 4, 2), (89, .iload 5, 2), (91, .isub, 1), (92, .istore 7, 2), (94, .aload_n 0, 1), (95, .iload 7, 2), (97, .invokevirtual 318, 3), (100, .ifCond .ne 6, 3), (103, .goto 33, 3), (106, .aload_n 0, 1), (107, .iload 7, 2), (109, .invokevirtual 333, 3), (112, .iload_n 2, 1), (113, .iload_n 1, 1), (114, .aload_n 0, 1), (115, .getfield 292, 3), (118, .if_icmp .lt 15, 3), (121, .iload_n 1, 1), (122, .aload_n 0, 1), (123, .getfield 303, 3), (126, .if_icmp .ge 7, 3), (129, .iconst 1, 1), (130, .goto 4, 3), (133, .iconst 0, 1), (134, .iadd, 1), (135, .istore_n 2, 1), (136, .iinc 3 1, 3), (139, .goto (-119), 3), (142, .iload_n 2, 1), (143, .ireturn, 1)]
theorem dt_Md_twins : am_Dec (xC X_Md_twins) T_Md_twins := by decide +kernel
def y_Md_isSpan : MethodName := ⟨"NumberedSparksModel", "isSpan", "(III)Z"⟩
abbrev X_Md_isSpan : am_X := ("NumberedSparksModel", prog_11_method_104_code, 4, (some FieldType.boolean), "isSpan", 1)
theorem mb_Md_isSpan : am_mb y_Md_isSpan X_Md_isSpan 3 := ⟨wd_1718, wd_10, ⟨by decide +kernel, by decide +kernel⟩, by decide +kernel, by decide, rfl⟩
def T_Md_isSpan : List (Nat × Instr × Nat) := [(0, .aload_n 0, 1), (1, .getfield 219, 3), (4, .ifCond .eq 45, 3), (7, .iload_n 1, 1), (8, .i2l, 1), (9, .lconst 0, 1), (10, .ldc2_w 428, 3), (13, .invokestatic 81, 3), (16, .ifCond .eq 33, 3), (19, .iload_n 2, 1), (20, .i2l, 1), (21, .lconst 0, 1), (22, .ldc2_w 428, 3), (25, .invokestatic 81, 3), (28, .ifCond .eq 21, 3), (31, .iload_n 2, 1), (32, .i2l, 1), (33, .iload_n 1, 1), (34, .i2l, 1), (35, .lsub, 1), (36, .lconst 0, 1), (37, .iload_n 3, 1), (38, .i2l, 1), (39, .invokestatic 81, 3), (42, .ifCond .eq 7, 3), (45, .iconst 1, 1), (46, .goto 4, 3), (49, .iconst 0, 1), (50, .ireturn, 1)]
theorem dt_Md_isSpan : am_Dec (xC X_Md_isSpan) T_Md_isSpan := by decide +kernel
def y_Md_bornOf : MethodName := ⟨"NumberedSparksModel", "bornOf", "(I)I"⟩
abbrev X_Md_bornOf : am_X := ("NumberedSparksModel", prog_11_method_105_code, 4, (some FieldType.int), "bornOf", 2)
theorem mb_Md_bornOf : am_mb y_Md_bornOf X_Md_bornOf 1 := ⟨wd_1722, wd_10, ⟨by decide +kernel, by decide +kernel⟩, by decide +kernel, by decide, rfl⟩
def T_Md_bornOf : List (Nat × Instr × Nat) := [(0, .iload_n 1, 1), (1, .iconst 4, 1), (2, .irem, 1), (3, .istore_n 2, 1), (4, .iload_n 1, 1), (5, .iconst 4, 1), (6, .idiv, 1), (7, .istore_n 3, 1), (8, .aload_n 0, 1), (9, .iload_n 2, 1), (10, .iconst 4, 1), (11, .invokevirtual 238, 3), (14, .iload_n 3, 1), (15, .aload_n 0, 1), (16, .iload_n 2, 1), (17, .bipush 6, 2), (19, .invokevirtual 238, 3), (22, .idiv, 1), (23, .aload_n 0, 1), (24, .iload_n 2, 1), (25, .iconst 5, 1), (26, .invokevirtual 238, 3), (29, .imul, 1), (30, .iadd, 1), (31, .aload_n 0, 1), (32, .sipush 256, 3), (35, .iload_n 1, 1), (36, .imul, 1), (37, .iconst 0, 1), (38, .aload_n 0, 1), (39, .iload_n 2, 1), (40, .bipush 8, 2), (42, .invokevirtual 238, 3), (45, .iconst 1, 1), (46, .iadd, 1), (47, .invokevirtual 295, 3), (50, .iadd, 1), (51, .ireturn, 1)]
theorem dt_Md_bornOf : am_Dec (xC X_Md_bornOf) T_Md_bornOf := by decide +kernel
def y_Md_births : MethodName := ⟨"NumberedSparksModel", "births", "(III)I"⟩
abbrev X_Md_births : am_X := ("NumberedSparksModel", prog_11_method_106_code, 6, (some FieldType.int), "births", 3)
theorem mb_Md_births : am_mb y_Md_births X_Md_births 3 := ⟨wd_1714, wd_10, ⟨by decide +kernel, by decide +kernel⟩, by decide +kernel, by decide, rfl⟩
def T_Md_births : List (Nat × Instr × Nat) := [(0, .iload_n 1, 1), (1, .i2l, 1), (2, .lconst 0, 1), (3, .aload_n 0, 1), (4, .getfield 227, 3), (7, .iconst 1, 1), (8, .isub, 1), (9, .i2l, 1), (10, .invokestatic 81, 3), (13, .ifCond .eq 15, 3), (16, .aload_n 0, 1), (17, .iload_n 2, 1), (18, .iload_n 3, 1), (19, .sipush 30001, 3), (22, .invokevirtual 434, 3), (25, .ifCond .ne 6, 3), (28, .bipush (-2), 2), (30, .ireturn, 1), (31, .iconst 0, 1), (32, .istore 4, 2), (34, .iconst 0, 1), (35, .istore 5, 2), (37, .iload 5, 2), (39, .aload_n 0, 1), (40, .iload_n 1, 1), (41, .invokevirtual 246, 3), (44, .if_icmp .ge 42, 3), (47, .iload 4, 2), (49, .aload_n 0, 1), (50, .iconst 4, 1), (51, .iload 5, 2), (53, .imul, 1), (54, .iload_n 1, 1), (55, .iadd, 1), (56, .invokevirtual 437, 3), (59, .i2l, 1), (60, .iload_n 2, 1), (61, .i2l, 1), (62, .iload_n 3, 1), (63, .iconst 1, 1), (64, .isub, 1), (65, .i2l, 1), (66, .invokestatic 81, 3), (69, .ifCond .eq 7, 3), (72, .iconst 1, 1), (73, .goto 4, 3), (76, .iconst 0, 1), (77, .iadd, 1), (78, .istore 4, 2), (80, .iinc 5 1, 3), (83, .goto (-46), 3), (86, .iload 4, 2), (88, .ireturn, 1)]
theorem dt_Md_births : am_Dec (xC X_Md_births) T_Md_births := by decide +kernel
def y_Md_endingsOf : MethodName := ⟨"NumberedSparksModel", "endingsOf", "(III)I"⟩
abbrev X_Md_endingsOf : am_X := ("NumberedSparksModel", prog_11_method_108_code, 6, (some FieldType.int), "endingsOf", 5)
theorem mb_Md_endingsOf : am_mb y_Md_endingsOf X_Md_endingsOf 3 := ⟨wd_1730, wd_10, ⟨by decide +kernel, by decide +kernel⟩, by decide +kernel, by decide, rfl⟩
def T_Md_endingsOf : List (Nat × Instr × Nat) := [(0, .iconst 0, 1), (1, .istore 4, 2), (3, .iconst 0, 1), (4, .istore 5, 2), (6, .iload 5, 2), (8, .bipush 48, 2), (10, .if_icmp .ge 75, 3), (13, .iload 5, 2), (15, .bipush 16, 2), (17, .irem, 1), (18, .iconst 2, 1), (19, .if_icmp .gt 60, 3), (22, .aload_n 0, 1), (23, .sipush 256, 3), (26, .iload_n 1, 1), (27, .imul, 1), (28, .iload 5, 2), (30, .iadd, 1), (31, .invokevirtual 318, 3), (34, .ifCond .ne 6, 3), (37, .goto 42, 3), (40, .aload_n 0, 1), (41, .sipush 256, 3), (44, .iload_n 1, 1), (45, .imul, 1), (46, .iload 5, 2), (48, .iadd, 1), (49, .invokevirtual 333, 3), (52, .iload 4, 2), (54, .aload_n 0, 1), (55, .getfield 303, 3), (58, .i2l, 1), (59, .iload_n 2, 1), (60, .i2l, 1), (61, .iload_n 3, 1), (62, .iconst 1, 1), (63, .isub, 1), (64, .i2l, 1), (65, .invokestatic 81, 3), (68, .ifCond .eq 7, 3), (71, .iconst 1, 1), (72, .goto 4, 3), (75, .iconst 0, 1), (76, .iadd, 1), (77, .istore 4, 2), (79, .iinc 5 1, 3), (82, .goto (-76), 3), (85, .iload 4, 2), (87, .ireturn, 1)]
theorem dt_Md_endingsOf : am_Dec (xC X_Md_endingsOf) T_Md_endingsOf := by decide +kernel
def y_Md_endings : MethodName := ⟨"NumberedSparksModel", "endings", "(II)I"⟩
abbrev X_Md_endings : am_X := ("NumberedSparksModel", prog_11_method_107_code, 8, (some FieldType.int), "endings", 6)
theorem mb_Md_endings : am_mb y_Md_endings X_Md_endings 2 := ⟨wd_1726, wd_10, ⟨by decide +kernel, by decide +kernel⟩, by decide +kernel, by decide, rfl⟩
def T_Md_endings : List (Nat × Instr × Nat) := [(0, .aload_n 0, 1), (1, .iload_n 1, 1), (2, .iload_n 2, 1), (3, .sipush 300, 3), (6, .invokevirtual 434, 3), (9, .ifCond .ne 6, 3), (12, .bipush (-2), 2), (14, .ireturn, 1), (15, .iconst 0, 1), (16, .istore_n 3, 1), (17, .iconst 0, 1), (18, .istore 4, 2), (20, .iload 4, 2), (22, .aload_n 0, 1), (23, .getfield 227, 3), (26, .if_icmp .ge 88, 3), (29, .aload_n 0, 1), (30, .iload 4, 2), (32, .bipush 6, 2), (34, .invokevirtual 238, 3), (37, .istore 5, 2), (39, .aload_n 0, 1), (40, .iload 4, 2), (42, .iload_n 1, 1), (43, .invokevirtual 367, 3), (46, .istore 6, 2), (48, .aload_n 0, 1), (49, .iload 4, 2), (51, .iload 6, 2), (53, .iload_n 2, 1), (54, .invokevirtual 370, 3), (57, .ifCond .eq 51, 3), (60, .iload 5, 2), (62, .iload 6, 2), (64, .imul, 1), (65, .istore 7, 2), (67, .iload 7, 2), (69, .iload 5, 2), (71, .iload 6, 2), (73, .imul, 1), (74, .iload 5, 2), (76, .iadd, 1), (77, .if_icmp .ge 25, 3), (80, .iload_n 3, 1), (81, .aload_n 0, 1), (82, .iconst 4, 1), (83, .iload 7, 2), (85, .imul, 1), (86, .iload 4, 2), (88, .iadd, 1), (89, .iload_n 1, 1), (90, .iload_n 2, 1), (91, .invokevirtual 440, 3), (94, .iadd, 1), (95, .istore_n 3, 1), (96, .iinc 7 1, 3), (99, .goto (-32), 3), (102, .iinc 6 1, 3), (105, .goto (-57), 3), (108, .iinc 4 1, 3), (111, .goto (-91), 3), (114, .iload_n 3, 1), (115, .ireturn, 1)]
theorem dt_Md_endings : am_Dec (xC X_Md_endings) T_Md_endings := by decide +kernel
def y_Md_lastBirth : MethodName := ⟨"NumberedSparksModel", "lastBirth", "(I)I"⟩
abbrev X_Md_lastBirth : am_X := ("NumberedSparksModel", prog_11_method_110_code, 2, (some FieldType.int), "lastBirth", 2)
theorem mb_Md_lastBirth : am_mb y_Md_lastBirth X_Md_lastBirth 1 := ⟨wd_1738, wd_10, ⟨by decide +kernel, by decide +kernel⟩, by decide +kernel, by decide, rfl⟩
def T_Md_lastBirth : List (Nat × Instr × Nat) := [(0, .aload_n 0, 1), (1, .iload_n 1, 1), (2, .iconst 4, 1), (3, .invokevirtual 238, 3), (6, .aload_n 0, 1), (7, .iload_n 1, 1), (8, .invokevirtual 241, 3), (11, .iconst 1, 1), (12, .isub, 1), (13, .aload_n 0, 1), (14, .iload_n 1, 1), (15, .iconst 5, 1), (16, .invokevirtual 238, 3), (19, .imul, 1), (20, .iadd, 1), (21, .aload_n 0, 1), (22, .iload_n 1, 1), (23, .bipush 8, 2), (25, .invokevirtual 238, 3), (28, .iadd, 1), (29, .ireturn, 1)]
theorem dt_Md_lastBirth : am_Dec (xC X_Md_lastBirth) T_Md_lastBirth := by decide +kernel
def y_Md_bornIn : MethodName := ⟨"NumberedSparksModel", "bornIn", "(IIIZ)I"⟩
abbrev X_Md_bornIn : am_X := ("NumberedSparksModel", prog_11_method_109_code, 12, (some FieldType.int), "bornIn", 3)
theorem mb_Md_bornIn : am_mb y_Md_bornIn X_Md_bornIn 4 := ⟨wd_1742, wd_10, ⟨by decide +kernel, by decide +kernel⟩, by decide +kernel, by decide, rfl⟩
def T_Md_bornIn : List (Nat × Instr × Nat) := [(0, .aload_n 0, 1), (1, .iload_n 1, 1), (2, .bipush 6, 2), (4, .invokevirtual 238, 3), (7, .istore 5, 2), (9, .aload_n 0, 1), (10, .iload_n 1, 1), (11, .iconst 5, 1), (12, .invokevirtual 238, 3), (15, .istore 6, 2), (17, .iload_n 2, 1), (18, .aload_n 0, 1), (19, .iload_n 1, 1), (20, .bipush 8, 2), (22, .invokevirtual 238, 3), (25, .isub, 1), (26, .aload_n 0, 1), (27, .iload_n 1, 1), (28, .iconst 4, 1), (29, .invokevirtual 238, 3), (32, .isub, 1), (33, .istore 7, 2), (35, .iload_n 3, 1), (36, .istore 8, 2), (38, .iconst (-1), 1), (39, .istore 9, 2), (41, .iload 7, 2), (43, .ifCond .gt 7, 3), (46, .iconst 0, 1), (47, .goto 13, 3), (50, .iload 7, 2), (52, .iload 6, 2), (54, .iadd, 1), (55, .iconst 1, 1), (56, .isub, 1), (57, .iload 6, 2), (59, .idiv, 1), (60, .istore 10, 2), (62, .aload_n 0, 1), (63, .iload_n 1, 1), (64, .iload 10, 2), (66, .iload_n 2, 1), (67, .invokevirtual 370, 3), (70, .ifCond .eq 80, 3), (73, .iload 5, 2), (75, .iload 10, 2), (77, .imul, 1), (78, .istore 11, 2), (80, .iload 11, 2), (82, .iload 5, 2), (84, .iload 10, 2), (86, .imul, 1), (87, .iload 5, 2), (89, .iadd, 1), (90, .if_icmp .ge 54, 3), (93, .aload_n 0, 1), (94, .iconst 4, 1), (95, .iload 11, 2), (97, .imul, 1), (98, .iload_n 1, 1), (99, .iadd, 1), (100, .invokevirtual 437, 3), (103, .iload_n 2, 1), (104, .if_icmp .eq 6, 3), (107, .goto 31, 3), (110, .sipush 256, 3), (113, .iconst 4, 1), (114, .iload 11, 2), (116, .imul, 1), (117, .iload_n 1, 1), (118, .iadd, 1), (119, .imul, 1), (120, .istore 9, 2), (122, .iload 8, 2), (124, .ifCond .ne 11, 3), (127, .iload 4, 2), (129, .ifCond .ne 6, 3), (132, .iload 9, 2), (134, .ireturn, 1), (135, .iinc 8 (-1), 3), (138, .iinc 11 1, 3), (141, .goto (-61), 3), (144, .iinc 10 1, 3), (147, .goto (-85), 3), (150, .aload_n 0, 1), (151, .iload 8, 2), (153, .putfield 443, 3), (156, .iload 4, 2), (158, .ifCond .eq 8, 3), (161, .iload 9, 2), (163, .goto 4, 3), (166, .iconst (-1), 1), (167, .ireturn, 1)]
theorem dt_Md_bornIn : am_Dec (xC X_Md_bornIn) T_Md_bornIn := by decide +kernel
def y_Md_bornAs : MethodName := ⟨"NumberedSparksModel", "bornAs", "(II)I"⟩
abbrev X_Md_bornAs : am_X := ("NumberedSparksModel", prog_11_method_111_code, 6, (some FieldType.int), "bornAs", 4)
theorem mb_Md_bornAs : am_mb y_Md_bornAs X_Md_bornAs 2 := ⟨wd_1734, wd_10, ⟨by decide +kernel, by decide +kernel⟩, by decide +kernel, by decide, rfl⟩
def T_Md_bornAs : List (Nat × Instr × Nat) := [(0, .iload_n 1, 1), (1, .i2l, 1), (2, .lconst 0, 1), (3, .aload_n 0, 1), (4, .getfield 227, 3), (7, .iconst 1, 1), (8, .isub, 1), (9, .i2l, 1), (10, .invokestatic 81, 3), (13, .ifCond .eq 7, 3), (16, .iload_n 2, 1), (17, .ifCond .ge 6, 3), (20, .bipush (-2), 2), (22, .ireturn, 1), (23, .iload_n 2, 1), (24, .aload_n 0, 1), (25, .iload_n 1, 1), (26, .invokevirtual 246, 3), (29, .if_icmp .lt 5, 3), (32, .iconst (-1), 1), (33, .ireturn, 1), (34, .iload_n 2, 1), (35, .istore_n 3, 1), (36, .aload_n 0, 1), (37, .iload_n 1, 1), (38, .iconst 4, 1), (39, .invokevirtual 238, 3), (42, .istore 4, 2), (44, .iload 4, 2), (46, .aload_n 0, 1), (47, .iload_n 1, 1), (48, .invokevirtual 446, 3), (51, .if_icmp .gt 34, 3), (54, .aload_n 0, 1), (55, .iload_n 1, 1), (56, .iload 4, 2), (58, .iload_n 3, 1), (59, .iconst 0, 1), (60, .invokevirtual 449, 3), (63, .istore 5, 2), (65, .iload 5, 2), (67, .iconst (-1), 1), (68, .if_icmp .eq 6, 3), (71, .iload 5, 2), (73, .ireturn, 1), (74, .aload_n 0, 1), (75, .getfield 443, 3), (78, .istore_n 3, 1), (79, .iinc 4 1, 3), (82, .goto (-38), 3), (85, .iconst (-1), 1), (86, .ireturn, 1)]
theorem dt_Md_bornAs : am_Dec (xC X_Md_bornAs) T_Md_bornAs := by decide +kernel
def y_Md_latest : MethodName := ⟨"NumberedSparksModel", "latest", "(II)I"⟩
abbrev X_Md_latest : am_X := ("NumberedSparksModel", prog_11_method_112_code, 5, (some FieldType.int), "latest", 4)
theorem mb_Md_latest : am_mb y_Md_latest X_Md_latest 2 := ⟨wd_1746, wd_10, ⟨by decide +kernel, by decide +kernel⟩, by decide +kernel, by decide, rfl⟩
def T_Md_latest : List (Nat × Instr × Nat) := [(0, .iload_n 1, 1), (1, .i2l, 1), (2, .lconst 0, 1), (3, .aload_n 0, 1), (4, .getfield 227, 3), (7, .iconst 1, 1), (8, .isub, 1), (9, .i2l, 1), (10, .invokestatic 81, 3), (13, .ifCond .eq 11, 3), (16, .aload_n 0, 1), (17, .iload_n 2, 1), (18, .invokevirtual 338, 3), (21, .ifCond .ne 6, 3), (24, .bipush (-2), 2), (26, .ireturn, 1), (27, .aload_n 0, 1), (28, .iload_n 1, 1), (29, .invokevirtual 246, 3), (32, .ifCond .ne 5, 3), (35, .iconst (-1), 1), (36, .ireturn, 1), (37, .iload_n 2, 1), (38, .aload_n 0, 1), (39, .iload_n 1, 1), (40, .invokevirtual 446, 3), (43, .invokestatic 120, 3), (46, .istore_n 3, 1), (47, .iload_n 3, 1), (48, .aload_n 0, 1), (49, .iload_n 1, 1), (50, .iconst 4, 1), (51, .invokevirtual 238, 3), (54, .if_icmp .lt 28, 3), (57, .aload_n 0, 1), (58, .iload_n 1, 1), (59, .iload_n 3, 1), (60, .iconst 0, 1), (61, .iconst 1, 1), (62, .invokevirtual 449, 3), (65, .istore 4, 2), (67, .iload 4, 2), (69, .iconst (-1), 1), (70, .if_icmp .eq 6, 3), (73, .iload 4, 2), (75, .ireturn, 1), (76, .iinc 3 (-1), 3), (79, .goto (-32), 3), (82, .iconst (-1), 1), (83, .ireturn, 1)]
theorem dt_Md_latest : am_Dec (xC X_Md_latest) T_Md_latest := by decide +kernel
def y_Md_next : MethodName := ⟨"NumberedSparksModel", "next", "(II)I"⟩
abbrev X_Md_next : am_X := ("NumberedSparksModel", prog_11_method_113_code, 4, (some FieldType.int), "next", 4)
theorem mb_Md_next : am_mb y_Md_next X_Md_next 2 := ⟨wd_1750, wd_10, ⟨by decide +kernel, by decide +kernel⟩, by decide +kernel, by decide, rfl⟩
def T_Md_next : List (Nat × Instr × Nat) := [(0, .iload_n 1, 1), (1, .i2l, 1), (2, .lconst 0, 1), (3, .aload_n 0, 1), (4, .getfield 227, 3), (7, .iconst 1, 1), (8, .isub, 1), (9, .i2l, 1), (10, .invokestatic 81, 3), (13, .ifCond .eq 11, 3), (16, .aload_n 0, 1), (17, .iload_n 2, 1), (18, .invokevirtual 338, 3), (21, .ifCond .ne 6, 3), (24, .bipush (-2), 2), (26, .ireturn, 1), (27, .iload_n 2, 1), (28, .aload_n 0, 1), (29, .iload_n 1, 1), (30, .iconst 4, 1), (31, .invokevirtual 238, 3), (34, .invokestatic 343, 3), (37, .istore_n 3, 1), (38, .aload_n 0, 1), (39, .iload_n 1, 1), (40, .invokevirtual 246, 3), (43, .ifCond .le 32, 3), (46, .iload_n 3, 1), (47, .aload_n 0, 1), (48, .iload_n 1, 1), (49, .invokevirtual 446, 3), (52, .if_icmp .gt 23, 3), (55, .aload_n 0, 1), (56, .iload_n 1, 1), (57, .iload_n 3, 1), (58, .iconst 0, 1), (59, .iconst 0, 1), (60, .invokevirtual 449, 3), (63, .iconst (-1), 1), (64, .if_icmp .eq 5, 3), (67, .iload_n 3, 1), (68, .ireturn, 1), (69, .iinc 3 1, 3), (72, .goto (-34), 3), (75, .iconst (-1), 1), (76, .ireturn, 1)]
theorem dt_Md_next : am_Dec (xC X_Md_next) T_Md_next := by decide +kernel
def y_Md_lull : MethodName := ⟨"NumberedSparksModel", "lull", "(IIII)I"⟩
abbrev X_Md_lull : am_X := ("NumberedSparksModel", prog_11_method_114_code, 9, (some FieldType.int), "lull", 4)
theorem mb_Md_lull : am_mb y_Md_lull X_Md_lull 4 := ⟨wd_1754, wd_10, ⟨by decide +kernel, by decide +kernel⟩, by decide +kernel, by decide, rfl⟩
def T_Md_lull : List (Nat × Instr × Nat) := [(0, .iload_n 1, 1), (1, .i2l, 1), (2, .lconst 0, 1), (3, .aload_n 0, 1), (4, .getfield 227, 3), (7, .iconst 1, 1), (8, .isub, 1), (9, .i2l, 1), (10, .invokestatic 81, 3), (13, .ifCond .eq 31, 3), (16, .aload_n 0, 1), (17, .iload_n 2, 1), (18, .iload_n 3, 1), (19, .sipush 2000, 3), (22, .invokevirtual 434, 3), (25, .ifCond .eq 19, 3), (28, .iload_n 2, 1), (29, .iload_n 3, 1), (30, .if_icmp .eq 14, 3), (33, .iload 4, 2), (35, .i2l, 1), (36, .lconst 0, 1), (37, .lconst 1, 1), (38, .invokestatic 81, 3), (41, .ifCond .ne 6, 3), (44, .bipush (-2), 2), (46, .ireturn, 1), (47, .iconst 0, 1), (48, .istore 5, 2), (50, .iconst (-1), 1), (51, .istore 6, 2), (53, .iconst 0, 1), (54, .istore 7, 2), (56, .iload_n 2, 1), (57, .istore 8, 2), (59, .iload 8, 2), (61, .iload_n 3, 1), (62, .if_icmp .ge 55, 3), (65, .aload_n 0, 1), (66, .iload_n 1, 1), (67, .iload 8, 2), (69, .iconst 0, 1), (70, .iconst 0, 1), (71, .invokevirtual 449, 3), (74, .iconst (-1), 1), (75, .if_icmp .ne 10, 3), (78, .iload 7, 2), (80, .iconst 1, 1), (81, .iadd, 1), (82, .goto 4, 3), (85, .iconst 0, 1), (86, .istore 7, 2), (88, .iload 7, 2), (90, .iload 5, 2), (92, .if_icmp .gt 6, 3), (95, .goto 16, 3), (98, .iload 7, 2), (100, .istore 5, 2), (102, .iload 8, 2), (104, .iload 7, 2), (106, .isub, 1), (107, .iconst 1, 1), (108, .iadd, 1), (109, .istore 6, 2), (111, .iinc 8 1, 3), (114, .goto (-55), 3), (117, .iload 4, 2), (119, .ifCond .ne 8, 3), (122, .iload 5, 2), (124, .goto 5, 3), (127, .iload 6, 2), (129, .ireturn, 1)]
theorem dt_Md_lull : am_Dec (xC X_Md_lull) T_Md_lull := by decide +kernel
def y_Md_says : MethodName := ⟨"NumberedSparksModel", "says", "(I)V"⟩
abbrev X_Md_says : am_X := ("NumberedSparksModel", prog_11_method_115_code, 2, none, "says", 0)
theorem mb_Md_says : am_mb y_Md_says X_Md_says 1 := ⟨wd_1762, wd_10, ⟨by decide +kernel, by decide +kernel⟩, by decide +kernel, by decide, rfl⟩
def T_Md_says : List (Nat × Instr × Nat) := [(0, .aload_n 0, 1), (1, .getfield 68, 3), (4, .aload_n 0, 1), (5, .getfield 233, 3), (8, .iload_n 1, 1), (9, .i2b, 1), (10, .bastore, 1), (11, .aload_n 0, 1), (12, .dup, 1), (13, .getfield 233, 3), (16, .iconst 1, 1), (17, .iadd, 1), (18, .putfield 233, 3), (21, .return_, 1)]
theorem dt_Md_says : am_Dec (xC X_Md_says) T_Md_says := by decide +kernel
def y_Md_picture : MethodName := ⟨"NumberedSparksModel", "picture", "(I)I"⟩
abbrev X_Md_picture : am_X := ("NumberedSparksModel", prog_11_method_117_code, 5, (some FieldType.int), "picture", 9)
theorem mb_Md_picture : am_mb y_Md_picture X_Md_picture 1 := ⟨wd_1758, wd_10, ⟨by decide +kernel, by decide +kernel⟩, by decide +kernel, by decide, rfl⟩
def T_Md_picture : List (Nat × Instr × Nat) := [(0, .aload_n 0, 1), (1, .iload_n 1, 1), (2, .invokevirtual 338, 3), (5, .ifCond .ne 6, 3), (8, .bipush (-2), 2), (10, .ireturn, 1), (11, .aload_n 0, 1), (12, .iload_n 1, 1), (13, .invokevirtual 390, 3), (16, .aload_n 0, 1), (17, .iload_n 1, 1), (18, .invokevirtual 400, 3), (21, .aload_n 0, 1), (22, .iconst 0, 1), (23, .putfield 233, 3), (26, .iconst 0, 1), (27, .istore_n 2, 1), (28, .iload_n 2, 1), (29, .aload_n 0, 1), (30, .getfield 7, 3), (33, .iconst 1, 1), (34, .iaload, 1), (35, .if_icmp .ge 72, 3), (38, .iconst 0, 1), (39, .istore_n 3, 1), (40, .iload_n 3, 1), (41, .aload_n 0, 1), (42, .getfield 7, 3), (45, .iconst 0, 1), (46, .iaload, 1), (47, .if_icmp .ge 48, 3), (50, .aload_n 0, 1), (51, .iload_n 3, 1), (52, .iload_n 2, 1), (53, .invokevirtual 403, 3), (56, .istore 4, 2), (58, .aload_n 0, 1), (59, .iload 4, 2), (61, .iconst (-1), 1), (62, .if_icmp .ne 8, 3), (65, .bipush 46, 2), (67, .goto 19, 3), (70, .bipush 48, 2), (72, .aload_n 0, 1), (73, .aload_n 0, 1), (74, .iload 4, 2), (76, .invokevirtual 387, 3), (79, .iconst 5, 1), (80, .bipush 8, 2), (82, .invokevirtual 295, 3), (85, .iadd, 1), (86, .invokevirtual 453, 3), (89, .iinc 3 1, 3), (92, .goto (-52), 3), (95, .aload_n 0, 1), (96, .bipush 10, 2), (98, .invokevirtual 453, 3), (101, .iinc 2 1, 3), (104, .goto (-76), 3), (107, .aload_n 0, 1), (108, .getfield 233, 3), (111, .ireturn, 1)]
theorem dt_Md_picture : am_Dec (xC X_Md_picture) T_Md_picture := by decide +kernel
def y_Md_layer : MethodName := ⟨"NumberedSparksModel", "layer", "(II)I"⟩
abbrev X_Md_layer : am_X := ("NumberedSparksModel", prog_11_method_118_code, 6, (some FieldType.int), "layer", 9)
theorem mb_Md_layer : am_mb y_Md_layer X_Md_layer 2 := ⟨wd_1766, wd_10, ⟨by decide +kernel, by decide +kernel⟩, by decide +kernel, by decide, rfl⟩
def T_Md_layer : List (Nat × Instr × Nat) := [(0, .aload_n 0, 1), (1, .iload_n 1, 1), (2, .invokevirtual 338, 3), (5, .ifCond .eq 21, 3), (8, .iload_n 2, 1), (9, .i2l, 1), (10, .lconst 0, 1), (11, .aload_n 0, 1), (12, .getfield 7, 3), (15, .iconst 2, 1), (16, .iaload, 1), (17, .iconst 1, 1), (18, .isub, 1), (19, .i2l, 1), (20, .invokestatic 81, 3), (23, .ifCond .ne 6, 3), (26, .bipush (-2), 2), (28, .ireturn, 1), (29, .aload_n 0, 1), (30, .iload_n 1, 1), (31, .invokevirtual 422, 3), (34, .aload_n 0, 1), (35, .iconst 0, 1), (36, .putfield 233, 3), (39, .iconst 0, 1), (40, .istore_n 3, 1), (41, .iload_n 3, 1), (42, .aload_n 0, 1), (43, .getfield 7, 3), (46, .iconst 1, 1), (47, .iaload, 1), (48, .if_icmp .ge 78, 3), (51, .iconst 0, 1), (52, .istore 4, 2), (54, .iload 4, 2), (56, .aload_n 0, 1), (57, .getfield 7, 3), (60, .iconst 0, 1), (61, .iaload, 1), (62, .if_icmp .ge 52, 3), (65, .aload_n 0, 1), (66, .getfield 65, 3), (69, .iload_n 2, 1), (70, .bipush 40, 2), (72, .imul, 1), (73, .iload_n 3, 1), (74, .iadd, 1), (75, .bipush 40, 2), (77, .imul, 1), (78, .iload 4, 2), (80, .iadd, 1), (81, .iaload, 1), (82, .istore 5, 2), (84, .aload_n 0, 1), (85, .iload 5, 2), (87, .ifCond .ne 8, 3), (90, .bipush 46, 2), (92, .goto 13, 3), (95, .bipush 48, 2), (97, .bipush 9, 2), (99, .iload 5, 2), (101, .invokestatic 120, 3), (104, .iadd, 1), (105, .invokevirtual 453, 3), (108, .iinc 4 1, 3), (111, .goto (-57), 3), (114, .aload_n 0, 1), (115, .bipush 10, 2), (117, .invokevirtual 453, 3), (120, .iinc 3 1, 3), (123, .goto (-82), 3), (126, .aload_n 0, 1), (127, .getfield 233, 3), (130, .ireturn, 1)]
theorem dt_Md_layer : am_Dec (xC X_Md_layer) T_Md_layer := by decide +kernel
def y_Md_saysNumber : MethodName := ⟨"NumberedSparksModel", "saysNumber", "(I)V"⟩
abbrev X_Md_saysNumber : am_X := ("NumberedSparksModel", prog_11_method_116_code, 3, none, "saysNumber", 1)
theorem mb_Md_saysNumber : am_mb y_Md_saysNumber X_Md_saysNumber 1 := ⟨wd_1774, wd_10, ⟨by decide +kernel, by decide +kernel⟩, by decide +kernel, by decide, rfl⟩
def T_Md_saysNumber : List (Nat × Instr × Nat) := [(0, .iconst 1, 1), (1, .istore_n 2, 1), (2, .iload_n 1, 1), (3, .iload_n 2, 1), (4, .idiv, 1), (5, .bipush 10, 2), (7, .if_icmp .lt 11, 3), (10, .iload_n 2, 1), (11, .bipush 10, 2), (13, .imul, 1), (14, .istore_n 2, 1), (15, .goto (-13), 3), (18, .iload_n 2, 1), (19, .ifCond .le 24, 3), (22, .aload_n 0, 1), (23, .bipush 48, 2), (25, .iload_n 1, 1), (26, .iload_n 2, 1), (27, .idiv, 1), (28, .bipush 10, 2), (30, .irem, 1), (31, .iadd, 1), (32, .invokevirtual 453, 3), (35, .iload_n 2, 1), (36, .bipush 10, 2), (38, .idiv, 1), (39, .istore_n 2, 1), (40, .goto (-22), 3), (43, .return_, 1)]
theorem dt_Md_saysNumber : am_Dec (xC X_Md_saysNumber) T_Md_saysNumber := by decide +kernel
def y_Md_tell : MethodName := ⟨"NumberedSparksModel", "tell", "(I)I"⟩
abbrev X_Md_tell : am_X := ("NumberedSparksModel", prog_11_method_119_code, 3, (some FieldType.int), "tell", 5)
theorem mb_Md_tell : am_mb y_Md_tell X_Md_tell 1 := ⟨wd_1770, wd_10, ⟨by decide +kernel, by decide +kernel⟩, by decide +kernel, by decide, rfl⟩
def T_Md_tell : List (Nat × Instr × Nat) := [(0, .aload_n 0, 1), (1, .iload_n 1, 1), (2, .invokevirtual 318, 3), (5, .ifCond .ne 6, 3), (8, .bipush (-2), 2), (10, .ireturn, 1), (11, .aload_n 0, 1), (12, .iload_n 1, 1), (13, .invokevirtual 333, 3), (16, .aload_n 0, 1), (17, .iconst 0, 1), (18, .putfield 233, 3), (21, .aload_n 0, 1), (22, .bipush 97, 2), (24, .aload_n 0, 1), (25, .getfield 278, 3), (28, .iadd, 1), (29, .invokevirtual 453, 3), (32, .aload_n 0, 1), (33, .iload_n 1, 1), (34, .sipush 256, 3), (37, .idiv, 1), (38, .iconst 4, 1), (39, .irem, 1), (40, .invokevirtual 456, 3), (43, .aload_n 0, 1), (44, .iload_n 1, 1), (45, .sipush 1024, 3), (48, .idiv, 1), (49, .invokevirtual 456, 3), (52, .iload_n 1, 1), (53, .sipush 256, 3), (56, .irem, 1), (57, .ifCond .le 21, 3), (60, .aload_n 0, 1), (61, .bipush 46, 2), (63, .invokevirtual 453, 3), (66, .aload_n 0, 1), (67, .iload_n 1, 1), (68, .sipush 256, 3), (71, .irem, 1), (72, .invokestatic 268, 3), (75, .invokevirtual 456, 3), (78, .iload_n 1, 1), (79, .bipush 16, 2), (81, .irem, 1), (82, .ifCond .le 21, 3), (85, .aload_n 0, 1), (86, .bipush 46, 2), (88, .invokevirtual 453, 3), (91, .aload_n 0, 1), (92, .iload_n 1, 1), (93, .sipush 256, 3), (96, .irem, 1), (97, .invokestatic 275, 3), (100, .invokevirtual 456, 3), (103, .aload_n 0, 1), (104, .bipush 32, 2), (106, .invokevirtual 453, 3), (109, .aload_n 0, 1), (110, .aload_n 0, 1), (111, .getfield 292, 3), (114, .invokevirtual 456, 3), (117, .aload_n 0, 1), (118, .bipush 45, 2), (120, .invokevirtual 453, 3), (123, .aload_n 0, 1), (124, .aload_n 0, 1), (125, .getfield 303, 3), (128, .invokevirtual 456, 3), (131, .iconst 0, 1), (132, .istore_n 2, 1), (133, .iload_n 2, 1), (134, .iconst 3, 1), (135, .if_icmp .ge 25, 3), (138, .aload_n 0, 1), (139, .bipush 32, 2), (141, .invokevirtual 453, 3), (144, .aload_n 0, 1), (145, .aload_n 0, 1), (146, .getfield 42, 3), (149, .iload_n 2, 1), (150, .iaload, 1), (151, .invokevirtual 456, 3), (154, .iinc 2 1, 3), (157, .goto (-24), 3), (160, .aload_n 0, 1), (161, .getfield 233, 3), (164, .ireturn, 1)]
theorem dt_Md_tell : am_Dec (xC X_Md_tell) T_Md_tell := by decide +kernel
def y_Md_octet : MethodName := ⟨"NumberedSparksModel", "octet", "(I)I"⟩
abbrev X_Md_octet : am_X := ("NumberedSparksModel", prog_11_method_120_code, 2, (some FieldType.int), "octet", 1)
theorem mb_Md_octet : am_mb y_Md_octet X_Md_octet 1 := ⟨wd_1778, wd_10, ⟨by decide +kernel, by decide +kernel⟩, by decide +kernel, by decide, rfl⟩
def T_Md_octet : List (Nat × Instr × Nat) := [(0, .iload_n 1, 1), (1, .i2l, 1), (2, .lconst 0, 1), (3, .aload_n 0, 1), (4, .getfield 233, 3), (7, .iconst 1, 1), (8, .isub, 1), (9, .i2l, 1), (10, .invokestatic 81, 3), (13, .ifCond .eq 12, 3), (16, .aload_n 0, 1), (17, .getfield 68, 3), (20, .iload_n 1, 1), (21, .baload, 1), (22, .goto 4, 3), (25, .iconst (-1), 1), (26, .ireturn, 1)]
theorem dt_Md_octet : am_Dec (xC X_Md_octet) T_Md_octet := by decide +kernel
end
