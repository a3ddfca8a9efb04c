section
-- ===== PART A: goes FIRST, ahead of the names: the tables' words, and 'selects' of the private methods out of them =====
/-- a private method of a class that the tables say can be made, by its rows of tables_1 -/
def lw_okq (q : MethodName × Nat) : Prop := (q.1.cls ≠ "java/lang/invoke/MethodHandle" ∧ q.1.cls ≠ "java/lang/invoke/VarHandle") ∧ Cond.instantiable q.1.cls q.2 ∈ tables_1 ∧ Cond.privateMethod q.1 ∈ tables_1 ∧ Cond.instanceMethod q.1 ∈ tables_1
theorem lw_p0 : lw_okq (⟨"NumberedSparks", "putOnTape", "(I)V"⟩, 11) := ⟨⟨by decide +kernel, by decide +kernel⟩, List.mem_of_getElem? (i := 19) (by decide +kernel), List.mem_of_getElem? (i := 347) (by decide +kernel), List.mem_of_getElem? (i := 348) (by decide +kernel)⟩
theorem lw_p1 : lw_okq (⟨"NumberedSparks$Reader", "advance", "()V"⟩, 9) := ⟨⟨by decide +kernel, by decide +kernel⟩, List.mem_of_getElem? (i := 71) (by decide +kernel), List.mem_of_getElem? (i := 373) (by decide +kernel), List.mem_of_getElem? (i := 374) (by decide +kernel)⟩
theorem lw_p2 : lw_okq (⟨"NumberedSparks$Reader", "byteAt", "(I)I"⟩, 9) := ⟨⟨by decide +kernel, by decide +kernel⟩, List.mem_of_getElem? (i := 71) (by decide +kernel), List.mem_of_getElem? (i := 377) (by decide +kernel), List.mem_of_getElem? (i := 378) (by decide +kernel)⟩
theorem lw_p3 : lw_okq (⟨"NumberedSparks$Reader", "readWorld", "()V"⟩, 9) := ⟨⟨by decide +kernel, by decide +kernel⟩, List.mem_of_getElem? (i := 71) (by decide +kernel), List.mem_of_getElem? (i := 388) (by decide +kernel), List.mem_of_getElem? (i := 389) (by decide +kernel)⟩
theorem lw_p4 : lw_okq (⟨"NumberedSparks$Reader", "needWord", "(Ljava/lang/String;)V"⟩, 9) := ⟨⟨by decide +kernel, by decide +kernel⟩, List.mem_of_getElem? (i := 71) (by decide +kernel), List.mem_of_getElem? (i := 393) (by decide +kernel), List.mem_of_getElem? (i := 394) (by decide +kernel)⟩
theorem lw_p5 : lw_okq (⟨"NumberedSparks$Reader", "takeWord", "(Ljava/lang/String;)Z"⟩, 9) := ⟨⟨by decide +kernel, by decide +kernel⟩, List.mem_of_getElem? (i := 71) (by decide +kernel), List.mem_of_getElem? (i := 397) (by decide +kernel), List.mem_of_getElem? (i := 398) (by decide +kernel)⟩
theorem lw_p6 : lw_okq (⟨"NumberedSparks$Reader", "isWord", "(Ljava/lang/String;)Z"⟩, 9) := ⟨⟨by decide +kernel, by decide +kernel⟩, List.mem_of_getElem? (i := 71) (by decide +kernel), List.mem_of_getElem? (i := 401) (by decide +kernel), List.mem_of_getElem? (i := 402) (by decide +kernel)⟩
theorem lw_p7 : lw_okq (⟨"NumberedSparks$Reader", "fail", "(I)V"⟩, 9) := ⟨⟨by decide +kernel, by decide +kernel⟩, List.mem_of_getElem? (i := 71) (by decide +kernel), List.mem_of_getElem? (i := 453) (by decide +kernel), List.mem_of_getElem? (i := 454) (by decide +kernel)⟩
theorem lw_p8 : lw_okq (⟨"NumberedSparks$Reader", "needNumber", "(II)I"⟩, 9) := ⟨⟨by decide +kernel, by decide +kernel⟩, List.mem_of_getElem? (i := 71) (by decide +kernel), List.mem_of_getElem? (i := 457) (by decide +kernel), List.mem_of_getElem? (i := 458) (by decide +kernel)⟩
theorem lw_p9 : lw_okq (⟨"NumberedSparks$Reader", "needSign", "(C)V"⟩, 9) := ⟨⟨by decide +kernel, by decide +kernel⟩, List.mem_of_getElem? (i := 71) (by decide +kernel), List.mem_of_getElem? (i := 461) (by decide +kernel), List.mem_of_getElem? (i := 462) (by decide +kernel)⟩
theorem lw_p10 : lw_okq (⟨"NumberedSparks$Reader", "readSeed", "()V"⟩, 9) := ⟨⟨by decide +kernel, by decide +kernel⟩, List.mem_of_getElem? (i := 71) (by decide +kernel), List.mem_of_getElem? (i := 466) (by decide +kernel), List.mem_of_getElem? (i := 467) (by decide +kernel)⟩
theorem lw_p11 : lw_okq (⟨"NumberedSparks$Reader", "readKind", "()V"⟩, 9) := ⟨⟨by decide +kernel, by decide +kernel⟩, List.mem_of_getElem? (i := 71) (by decide +kernel), List.mem_of_getElem? (i := 472) (by decide +kernel), List.mem_of_getElem? (i := 473) (by decide +kernel)⟩
theorem lw_p12 : lw_okq (⟨"NumberedSparks$Reader", "numberBehind", "(Ljava/lang/String;III)I"⟩, 9) := ⟨⟨by decide +kernel, by decide +kernel⟩, List.mem_of_getElem? (i := 71) (by decide +kernel), List.mem_of_getElem? (i := 482) (by decide +kernel), List.mem_of_getElem? (i := 483) (by decide +kernel)⟩
theorem lw_p13 : lw_okq (⟨"NumberedSparks$Reader", "readFalls", "()I"⟩, 9) := ⟨⟨by decide +kernel, by decide +kernel⟩, List.mem_of_getElem? (i := 71) (by decide +kernel), List.mem_of_getElem? (i := 487) (by decide +kernel), List.mem_of_getElem? (i := 488) (by decide +kernel)⟩
theorem lw_p14 : lw_okq (⟨"NumberedSparks$Reader", "readEdge", "()I"⟩, 9) := ⟨⟨by decide +kernel, by decide +kernel⟩, List.mem_of_getElem? (i := 71) (by decide +kernel), List.mem_of_getElem? (i := 493) (by decide +kernel), List.mem_of_getElem? (i := 494) (by decide +kernel)⟩
theorem lw_p15 : lw_okq (⟨"NumberedSparks$Reader", "readSource", "()V"⟩, 9) := ⟨⟨by decide +kernel, by decide +kernel⟩, List.mem_of_getElem? (i := 71) (by decide +kernel), List.mem_of_getElem? (i := 507) (by decide +kernel), List.mem_of_getElem? (i := 508) (by decide +kernel)⟩
def lw_privs_1 : List (MethodName × Nat) := [(⟨"NumberedSparks", "putOnTape", "(I)V"⟩, 11), (⟨"NumberedSparks$Reader", "advance", "()V"⟩, 9), (⟨"NumberedSparks$Reader", "byteAt", "(I)I"⟩, 9), (⟨"NumberedSparks$Reader", "readWorld", "()V"⟩, 9), (⟨"NumberedSparks$Reader", "needWord", "(Ljava/lang/String;)V"⟩, 9), (⟨"NumberedSparks$Reader", "takeWord", "(Ljava/lang/String;)Z"⟩, 9), (⟨"NumberedSparks$Reader", "isWord", "(Ljava/lang/String;)Z"⟩, 9), (⟨"NumberedSparks$Reader", "fail", "(I)V"⟩, 9), (⟨"NumberedSparks$Reader", "needNumber", "(II)I"⟩, 9), (⟨"NumberedSparks$Reader", "needSign", "(C)V"⟩, 9), (⟨"NumberedSparks$Reader", "readSeed", "()V"⟩, 9), (⟨"NumberedSparks$Reader", "readKind", "()V"⟩, 9), (⟨"NumberedSparks$Reader", "numberBehind", "(Ljava/lang/String;III)I"⟩, 9), (⟨"NumberedSparks$Reader", "readFalls", "()I"⟩, 9), (⟨"NumberedSparks$Reader", "readEdge", "()I"⟩, 9), (⟨"NumberedSparks$Reader", "readSource", "()V"⟩, 9)]
theorem lw_r1 : ∀ q ∈ lw_privs_1, lw_okq q := List.forall_mem_cons.mpr ⟨lw_p0, List.forall_mem_cons.mpr ⟨lw_p1, List.forall_mem_cons.mpr ⟨lw_p2, List.forall_mem_cons.mpr ⟨lw_p3, List.forall_mem_cons.mpr ⟨lw_p4, List.forall_mem_cons.mpr ⟨lw_p5, List.forall_mem_cons.mpr ⟨lw_p6, List.forall_mem_cons.mpr ⟨lw_p7, List.forall_mem_cons.mpr ⟨lw_p8, List.forall_mem_cons.mpr ⟨lw_p9, List.forall_mem_cons.mpr ⟨lw_p10, List.forall_mem_cons.mpr ⟨lw_p11, List.forall_mem_cons.mpr ⟨lw_p12, List.forall_mem_cons.mpr ⟨lw_p13, List.forall_mem_cons.mpr ⟨lw_p14, List.forall_mem_cons.mpr ⟨lw_p15, fun _ h => absurd h List.not_mem_nil⟩⟩⟩⟩⟩⟩⟩⟩⟩⟩⟩⟩⟩⟩⟩⟩
theorem lw_p16 : lw_okq (⟨"NumberedSparks$Spark", "ageBeyond", "(II)I"⟩, 10) := ⟨⟨by decide +kernel, by decide +kernel⟩, List.mem_of_getElem? (i := 151) (by decide +kernel), List.mem_of_getElem? (i := 702) (by decide +kernel), List.mem_of_getElem? (i := 703) (by decide +kernel)⟩
theorem lw_p17 : lw_okq (⟨"NumberedSparks$Spark", "freePlace", "(II)I"⟩, 10) := ⟨⟨by decide +kernel, by decide +kernel⟩, List.mem_of_getElem? (i := 151) (by decide +kernel), List.mem_of_getElem? (i := 718) (by decide +kernel), List.mem_of_getElem? (i := 719) (by decide +kernel)⟩
theorem lw_p18 : lw_okq (⟨"NumberedSparks", "isAmong", "(II)Z"⟩, 11) := ⟨⟨by decide +kernel, by decide +kernel⟩, List.mem_of_getElem? (i := 19) (by decide +kernel), List.mem_of_getElem? (i := 783) (by decide +kernel), List.mem_of_getElem? (i := 784) (by decide +kernel)⟩
theorem lw_p19 : lw_okq (⟨"NumberedSparks$Walk", "measureSpans", "()V"⟩, 9) := ⟨⟨by decide +kernel, by decide +kernel⟩, List.mem_of_getElem? (i := 144) (by decide +kernel), List.mem_of_getElem? (i := 807) (by decide +kernel), List.mem_of_getElem? (i := 808) (by decide +kernel)⟩
theorem lw_p20 : lw_okq (⟨"NumberedSparks$Walk", "spanBehind", "(II)I"⟩, 9) := ⟨⟨by decide +kernel, by decide +kernel⟩, List.mem_of_getElem? (i := 144) (by decide +kernel), List.mem_of_getElem? (i := 812) (by decide +kernel), List.mem_of_getElem? (i := 813) (by decide +kernel)⟩
theorem lw_p21 : lw_okq (⟨"NumberedSparks$Walk", "spanOf", "(II)I"⟩, 9) := ⟨⟨by decide +kernel, by decide +kernel⟩, List.mem_of_getElem? (i := 144) (by decide +kernel), List.mem_of_getElem? (i := 816) (by decide +kernel), List.mem_of_getElem? (i := 817) (by decide +kernel)⟩
theorem lw_p22 : lw_okq (⟨"NumberedSparks$Walk", "sourceOfLeastRoot", "()I"⟩, 9) := ⟨⟨by decide +kernel, by decide +kernel⟩, List.mem_of_getElem? (i := 144) (by decide +kernel), List.mem_of_getElem? (i := 827) (by decide +kernel), List.mem_of_getElem? (i := 828) (by decide +kernel)⟩
theorem lw_p23 : lw_okq (⟨"NumberedSparks$Walk", "isOutside", "(LNumberedSparks$Spark;)Z"⟩, 9) := ⟨⟨by decide +kernel, by decide +kernel⟩, List.mem_of_getElem? (i := 144) (by decide +kernel), List.mem_of_getElem? (i := 833) (by decide +kernel), List.mem_of_getElem? (i := 834) (by decide +kernel)⟩
theorem lw_p24 : lw_okq (⟨"NumberedSparks$Walk", "show", "(I)V"⟩, 9) := ⟨⟨by decide +kernel, by decide +kernel⟩, List.mem_of_getElem? (i := 144) (by decide +kernel), List.mem_of_getElem? (i := 838) (by decide +kernel), List.mem_of_getElem? (i := 839) (by decide +kernel)⟩
theorem lw_p25 : lw_okq (⟨"NumberedSparks$Walk", "stepChild", "(LNumberedSparks$Spark;II)V"⟩, 9) := ⟨⟨by decide +kernel, by decide +kernel⟩, List.mem_of_getElem? (i := 144) (by decide +kernel), List.mem_of_getElem? (i := 842) (by decide +kernel), List.mem_of_getElem? (i := 843) (by decide +kernel)⟩
theorem lw_p26 : lw_okq (⟨"NumberedSparks", "isWindow", "(II)Z"⟩, 11) := ⟨⟨by decide +kernel, by decide +kernel⟩, List.mem_of_getElem? (i := 19) (by decide +kernel), List.mem_of_getElem? (i := 883) (by decide +kernel), List.mem_of_getElem? (i := 884) (by decide +kernel)⟩
theorem lw_p27 : lw_okq (⟨"NumberedSparks", "countComingAndGoing", "(II)V"⟩, 11) := ⟨⟨by decide +kernel, by decide +kernel⟩, List.mem_of_getElem? (i := 19) (by decide +kernel), List.mem_of_getElem? (i := 933) (by decide +kernel), List.mem_of_getElem? (i := 934) (by decide +kernel)⟩
theorem lw_p28 : lw_okq (⟨"NumberedSparks$Frame", "append", "(LNumberedSparks$Spark;I)V"⟩, 13) := ⟨⟨by decide +kernel, by decide +kernel⟩, List.mem_of_getElem? (i := 233) (by decide +kernel), List.mem_of_getElem? (i := 972) (by decide +kernel), List.mem_of_getElem? (i := 973) (by decide +kernel)⟩
theorem lw_p29 : lw_okq (⟨"NumberedSparks$Frame", "grow", "()V"⟩, 13) := ⟨⟨by decide +kernel, by decide +kernel⟩, List.mem_of_getElem? (i := 233) (by decide +kernel), List.mem_of_getElem? (i := 976) (by decide +kernel), List.mem_of_getElem? (i := 977) (by decide +kernel)⟩
theorem lw_p30 : lw_okq (⟨"NumberedSparks$Frame", "putInOrder", "()V"⟩, 13) := ⟨⟨by decide +kernel, by decide +kernel⟩, List.mem_of_getElem? (i := 233) (by decide +kernel), List.mem_of_getElem? (i := 993) (by decide +kernel), List.mem_of_getElem? (i := 994) (by decide +kernel)⟩
theorem lw_p31 : lw_okq (⟨"NumberedSparks$Frame", "depthOf", "(I)I"⟩, 13) := ⟨⟨by decide +kernel, by decide +kernel⟩, List.mem_of_getElem? (i := 233) (by decide +kernel), List.mem_of_getElem? (i := 998) (by decide +kernel), List.mem_of_getElem? (i := 999) (by decide +kernel)⟩
def lw_privs_2 : List (MethodName × Nat) := [(⟨"NumberedSparks$Spark", "ageBeyond", "(II)I"⟩, 10), (⟨"NumberedSparks$Spark", "freePlace", "(II)I"⟩, 10), (⟨"NumberedSparks", "isAmong", "(II)Z"⟩, 11), (⟨"NumberedSparks$Walk", "measureSpans", "()V"⟩, 9), (⟨"NumberedSparks$Walk", "spanBehind", "(II)I"⟩, 9), (⟨"NumberedSparks$Walk", "spanOf", "(II)I"⟩, 9), (⟨"NumberedSparks$Walk", "sourceOfLeastRoot", "()I"⟩, 9), (⟨"NumberedSparks$Walk", "isOutside", "(LNumberedSparks$Spark;)Z"⟩, 9), (⟨"NumberedSparks$Walk", "show", "(I)V"⟩, 9), (⟨"NumberedSparks$Walk", "stepChild", "(LNumberedSparks$Spark;II)V"⟩, 9), (⟨"NumberedSparks", "isWindow", "(II)Z"⟩, 11), (⟨"NumberedSparks", "countComingAndGoing", "(II)V"⟩, 11), (⟨"NumberedSparks$Frame", "append", "(LNumberedSparks$Spark;I)V"⟩, 13), (⟨"NumberedSparks$Frame", "grow", "()V"⟩, 13), (⟨"NumberedSparks$Frame", "putInOrder", "()V"⟩, 13), (⟨"NumberedSparks$Frame", "depthOf", "(I)I"⟩, 13)]
theorem lw_r2 : ∀ q ∈ lw_privs_2, lw_okq q := List.forall_mem_cons.mpr ⟨lw_p16, List.forall_mem_cons.mpr ⟨lw_p17, List.forall_mem_cons.mpr ⟨lw_p18, List.forall_mem_cons.mpr ⟨lw_p19, List.forall_mem_cons.mpr ⟨lw_p20, List.forall_mem_cons.mpr ⟨lw_p21, List.forall_mem_cons.mpr ⟨lw_p22, List.forall_mem_cons.mpr ⟨lw_p23, List.forall_mem_cons.mpr ⟨lw_p24, List.forall_mem_cons.mpr ⟨lw_p25, List.forall_mem_cons.mpr ⟨lw_p26, List.forall_mem_cons.mpr ⟨lw_p27, List.forall_mem_cons.mpr ⟨lw_p28, List.forall_mem_cons.mpr ⟨lw_p29, List.forall_mem_cons.mpr ⟨lw_p30, List.forall_mem_cons.mpr ⟨lw_p31, fun _ h => absurd h List.not_mem_nil⟩⟩⟩⟩⟩⟩⟩⟩⟩⟩⟩⟩⟩⟩⟩⟩
theorem lw_p32 : lw_okq (⟨"NumberedSparks$Frame", "forgetColumns", "(II[I)V"⟩, 13) := ⟨⟨by decide +kernel, by decide +kernel⟩, List.mem_of_getElem? (i := 233) (by decide +kernel), List.mem_of_getElem? (i := 1081) (by decide +kernel), List.mem_of_getElem? (i := 1082) (by decide +kernel)⟩
theorem lw_p33 : lw_okq (⟨"NumberedSparksModel", "puts4", "(I)V"⟩, 42) := ⟨⟨by decide +kernel, by decide +kernel⟩, List.mem_of_getElem? (i := 1126) (by decide +kernel), List.mem_of_getElem? (i := 1264) (by decide +kernel), List.mem_of_getElem? (i := 1265) (by decide +kernel)⟩
theorem lw_p34 : lw_okq (⟨"NumberedSparksModel", "advance", "()V"⟩, 42) := ⟨⟨by decide +kernel, by decide +kernel⟩, List.mem_of_getElem? (i := 1126) (by decide +kernel), List.mem_of_getElem? (i := 1279) (by decide +kernel), List.mem_of_getElem? (i := 1280) (by decide +kernel)⟩
theorem lw_p35 : lw_okq (⟨"NumberedSparksModel", "see", "(I)I"⟩, 42) := ⟨⟨by decide +kernel, by decide +kernel⟩, List.mem_of_getElem? (i := 1126) (by decide +kernel), List.mem_of_getElem? (i := 1283) (by decide +kernel), List.mem_of_getElem? (i := 1284) (by decide +kernel)⟩
theorem lw_p36 : lw_okq (⟨"NumberedSparksModel", "errs", "(II)V"⟩, 42) := ⟨⟨by decide +kernel, by decide +kernel⟩, List.mem_of_getElem? (i := 1126) (by decide +kernel), List.mem_of_getElem? (i := 1293) (by decide +kernel), List.mem_of_getElem? (i := 1294) (by decide +kernel)⟩
theorem lw_p37 : lw_okq (⟨"NumberedSparksModel", "good", "()Z"⟩, 42) := ⟨⟨by decide +kernel, by decide +kernel⟩, List.mem_of_getElem? (i := 1126) (by decide +kernel), List.mem_of_getElem? (i := 1297) (by decide +kernel), List.mem_of_getElem? (i := 1298) (by decide +kernel)⟩
theorem lw_p38 : lw_okq (⟨"NumberedSparksModel", "readLine", "(I)V"⟩, 42) := ⟨⟨by decide +kernel, by decide +kernel⟩, List.mem_of_getElem? (i := 1126) (by decide +kernel), List.mem_of_getElem? (i := 1301) (by decide +kernel), List.mem_of_getElem? (i := 1302) (by decide +kernel)⟩
theorem lw_p39 : lw_okq (⟨"NumberedSparksModel", "passes", "(Ljava/lang/String;)V"⟩, 42) := ⟨⟨by decide +kernel, by decide +kernel⟩, List.mem_of_getElem? (i := 1126) (by decide +kernel), List.mem_of_getElem? (i := 1306) (by decide +kernel), List.mem_of_getElem? (i := 1307) (by decide +kernel)⟩
theorem lw_p40 : lw_okq (⟨"NumberedSparksModel", "takes", "(Ljava/lang/String;)Z"⟩, 42) := ⟨⟨by decide +kernel, by decide +kernel⟩, List.mem_of_getElem? (i := 1126) (by decide +kernel), List.mem_of_getElem? (i := 1310) (by decide +kernel), List.mem_of_getElem? (i := 1311) (by decide +kernel)⟩
theorem lw_p41 : lw_okq (⟨"NumberedSparksModel", "isWord", "(Ljava/lang/String;)Z"⟩, 42) := ⟨⟨by decide +kernel, by decide +kernel⟩, List.mem_of_getElem? (i := 1126) (by decide +kernel), List.mem_of_getElem? (i := 1314) (by decide +kernel), List.mem_of_getElem? (i := 1315) (by decide +kernel)⟩
theorem lw_p42 : lw_okq (⟨"NumberedSparksModel", "number", "(II)I"⟩, 42) := ⟨⟨by decide +kernel, by decide +kernel⟩, List.mem_of_getElem? (i := 1126) (by decide +kernel), List.mem_of_getElem? (i := 1320) (by decide +kernel), List.mem_of_getElem? (i := 1321) (by decide +kernel)⟩
theorem lw_p43 : lw_okq (⟨"NumberedSparksModel", "readSeed", "()V"⟩, 42) := ⟨⟨by decide +kernel, by decide +kernel⟩, List.mem_of_getElem? (i := 1126) (by decide +kernel), List.mem_of_getElem? (i := 1325) (by decide +kernel), List.mem_of_getElem? (i := 1326) (by decide +kernel)⟩
theorem lw_p44 : lw_okq (⟨"NumberedSparksModel", "readKind", "()V"⟩, 42) := ⟨⟨by decide +kernel, by decide +kernel⟩, List.mem_of_getElem? (i := 1126) (by decide +kernel), List.mem_of_getElem? (i := 1331) (by decide +kernel), List.mem_of_getElem? (i := 1332) (by decide +kernel)⟩
theorem lw_p45 : lw_okq (⟨"NumberedSparksModel", "falls", "()I"⟩, 42) := ⟨⟨by decide +kernel, by decide +kernel⟩, List.mem_of_getElem? (i := 1126) (by decide +kernel), List.mem_of_getElem? (i := 1339) (by decide +kernel), List.mem_of_getElem? (i := 1340) (by decide +kernel)⟩
theorem lw_p46 : lw_okq (⟨"NumberedSparksModel", "readSource", "()V"⟩, 42) := ⟨⟨by decide +kernel, by decide +kernel⟩, List.mem_of_getElem? (i := 1126) (by decide +kernel), List.mem_of_getElem? (i := 1350) (by decide +kernel), List.mem_of_getElem? (i := 1351) (by decide +kernel)⟩
theorem lw_p47 : lw_okq (⟨"NumberedSparksModel", "roots", "(I)I"⟩, 42) := ⟨⟨by decide +kernel, by decide +kernel⟩, List.mem_of_getElem? (i := 1126) (by decide +kernel), List.mem_of_getElem? (i := 1378) (by decide +kernel), List.mem_of_getElem? (i := 1379) (by decide +kernel)⟩
def lw_privs_3 : List (MethodName × Nat) := [(⟨"NumberedSparks$Frame", "forgetColumns", "(II[I)V"⟩, 13), (⟨"NumberedSparksModel", "puts4", "(I)V"⟩, 42), (⟨"NumberedSparksModel", "advance", "()V"⟩, 42), (⟨"NumberedSparksModel", "see", "(I)I"⟩, 42), (⟨"NumberedSparksModel", "errs", "(II)V"⟩, 42), (⟨"NumberedSparksModel", "good", "()Z"⟩, 42), (⟨"NumberedSparksModel", "readLine", "(I)V"⟩, 42), (⟨"NumberedSparksModel", "passes", "(Ljava/lang/String;)V"⟩, 42), (⟨"NumberedSparksModel", "takes", "(Ljava/lang/String;)Z"⟩, 42), (⟨"NumberedSparksModel", "isWord", "(Ljava/lang/String;)Z"⟩, 42), (⟨"NumberedSparksModel", "number", "(II)I"⟩, 42), (⟨"NumberedSparksModel", "readSeed", "()V"⟩, 42), (⟨"NumberedSparksModel", "readKind", "()V"⟩, 42), (⟨"NumberedSparksModel", "falls", "()I"⟩, 42), (⟨"NumberedSparksModel", "readSource", "()V"⟩, 42), (⟨"NumberedSparksModel", "roots", "(I)I"⟩, 42)]
theorem lw_r3 : ∀ q ∈ lw_privs_3, lw_okq q := List.forall_mem_cons.mpr ⟨lw_p32, List.forall_mem_cons.mpr ⟨lw_p33, List.forall_mem_cons.mpr ⟨lw_p34, List.forall_mem_cons.mpr ⟨lw_p35, List.forall_mem_cons.mpr ⟨lw_p36, List.forall_mem_cons.mpr ⟨lw_p37, List.forall_mem_cons.mpr ⟨lw_p38, List.forall_mem_cons.mpr ⟨lw_p39, List.forall_mem_cons.mpr ⟨lw_p40, List.forall_mem_cons.mpr ⟨lw_p41, List.forall_mem_cons.mpr ⟨lw_p42, List.forall_mem_cons.mpr ⟨lw_p43, List.forall_mem_cons.mpr ⟨lw_p44, List.forall_mem_cons.mpr ⟨lw_p45, List.forall_mem_cons.mpr ⟨lw_p46, List.forall_mem_cons.mpr ⟨lw_p47, fun _ h => absurd h List.not_mem_nil⟩⟩⟩⟩⟩⟩⟩⟩⟩⟩⟩⟩⟩⟩⟩⟩
theorem lw_p48 : lw_okq (⟨"NumberedSparksModel", "groups", "(I)I"⟩, 42) := ⟨⟨by decide +kernel, by decide +kernel⟩, List.mem_of_getElem? (i := 1126) (by decide +kernel), List.mem_of_getElem? (i := 1382) (by decide +kernel), List.mem_of_getElem? (i := 1383) (by decide +kernel)⟩
theorem lw_p49 : lw_okq (⟨"NumberedSparksModel", "ofSource", "(II)I"⟩, 42) := ⟨⟨by decide +kernel, by decide +kernel⟩, List.mem_of_getElem? (i := 1126) (by decide +kernel), List.mem_of_getElem? (i := 1386) (by decide +kernel), List.mem_of_getElem? (i := 1387) (by decide +kernel)⟩
theorem lw_p50 : lw_okq (⟨"NumberedSparksModel", "keeps", "(II)V"⟩, 42) := ⟨⟨by decide +kernel, by decide +kernel⟩, List.mem_of_getElem? (i := 1126) (by decide +kernel), List.mem_of_getElem? (i := 1395) (by decide +kernel), List.mem_of_getElem? (i := 1396) (by decide +kernel)⟩
theorem lw_p51 : lw_okq (⟨"NumberedSparksModel", "mixedOf", "(II)J"⟩, 42) := ⟨⟨by decide +kernel, by decide +kernel⟩, List.mem_of_getElem? (i := 1126) (by decide +kernel), List.mem_of_getElem? (i := 1412) (by decide +kernel), List.mem_of_getElem? (i := 1413) (by decide +kernel)⟩
theorem lw_p52 : lw_okq (⟨"NumberedSparksModel", "isSpark", "(I)Z"⟩, 42) := ⟨⟨by decide +kernel, by decide +kernel⟩, List.mem_of_getElem? (i := 1126) (by decide +kernel), List.mem_of_getElem? (i := 1424) (by decide +kernel), List.mem_of_getElem? (i := 1425) (by decide +kernel)⟩
theorem lw_p53 : lw_okq (⟨"NumberedSparksModel", "hasChild", "(II)Z"⟩, 42) := ⟨⟨by decide +kernel, by decide +kernel⟩, List.mem_of_getElem? (i := 1126) (by decide +kernel), List.mem_of_getElem? (i := 1431) (by decide +kernel), List.mem_of_getElem? (i := 1432) (by decide +kernel)⟩
theorem lw_p54 : lw_okq (⟨"NumberedSparksModel", "childOf", "(II)I"⟩, 42) := ⟨⟨by decide +kernel, by decide +kernel⟩, List.mem_of_getElem? (i := 1126) (by decide +kernel), List.mem_of_getElem? (i := 1442) (by decide +kernel), List.mem_of_getElem? (i := 1443) (by decide +kernel)⟩
theorem lw_p55 : lw_okq (⟨"NumberedSparksModel", "kindOf", "(I)I"⟩, 42) := ⟨⟨by decide +kernel, by decide +kernel⟩, List.mem_of_getElem? (i := 1126) (by decide +kernel), List.mem_of_getElem? (i := 1449) (by decide +kernel), List.mem_of_getElem? (i := 1450) (by decide +kernel)⟩
theorem lw_p56 : lw_okq (⟨"NumberedSparksModel", "lays", "(I)V"⟩, 42) := ⟨⟨by decide +kernel, by decide +kernel⟩, List.mem_of_getElem? (i := 1126) (by decide +kernel), List.mem_of_getElem? (i := 1464) (by decide +kernel), List.mem_of_getElem? (i := 1465) (by decide +kernel)⟩
theorem lw_p57 : lw_okq (⟨"NumberedSparksModel", "laysRoot", "(I)V"⟩, 42) := ⟨⟨by decide +kernel, by decide +kernel⟩, List.mem_of_getElem? (i := 1126) (by decide +kernel), List.mem_of_getElem? (i := 1468) (by decide +kernel), List.mem_of_getElem? (i := 1469) (by decide +kernel)⟩
theorem lw_p58 : lw_okq (⟨"NumberedSparksModel", "draw", "(III)I"⟩, 42) := ⟨⟨by decide +kernel, by decide +kernel⟩, List.mem_of_getElem? (i := 1126) (by decide +kernel), List.mem_of_getElem? (i := 1472) (by decide +kernel), List.mem_of_getElem? (i := 1473) (by decide +kernel)⟩
theorem lw_p59 : lw_okq (⟨"NumberedSparksModel", "laysOne", "(III)V"⟩, 42) := ⟨⟨by decide +kernel, by decide +kernel⟩, List.mem_of_getElem? (i := 1126) (by decide +kernel), List.mem_of_getElem? (i := 1476) (by decide +kernel), List.mem_of_getElem? (i := 1477) (by decide +kernel)⟩
theorem lw_p60 : lw_okq (⟨"NumberedSparksModel", "edge", "()I"⟩, 42) := ⟨⟨by decide +kernel, by decide +kernel⟩, List.mem_of_getElem? (i := 1126) (by decide +kernel), List.mem_of_getElem? (i := 1480) (by decide +kernel), List.mem_of_getElem? (i := 1481) (by decide +kernel)⟩
theorem lw_p61 : lw_okq (⟨"NumberedSparksModel", "isBeyond", "(I)Z"⟩, 42) := ⟨⟨by decide +kernel, by decide +kernel⟩, List.mem_of_getElem? (i := 1126) (by decide +kernel), List.mem_of_getElem? (i := 1484) (by decide +kernel), List.mem_of_getElem? (i := 1485) (by decide +kernel)⟩
theorem lw_p62 : lw_okq (⟨"NumberedSparksModel", "raw", "(II)I"⟩, 42) := ⟨⟨by decide +kernel, by decide +kernel⟩, List.mem_of_getElem? (i := 1126) (by decide +kernel), List.mem_of_getElem? (i := 1488) (by decide +kernel), List.mem_of_getElem? (i := 1489) (by decide +kernel)⟩
theorem lw_p63 : lw_okq (⟨"NumberedSparksModel", "world", "(I)I"⟩, 42) := ⟨⟨by decide +kernel, by decide +kernel⟩, List.mem_of_getElem? (i := 1126) (by decide +kernel), List.mem_of_getElem? (i := 1492) (by decide +kernel), List.mem_of_getElem? (i := 1493) (by decide +kernel)⟩
def lw_privs_4 : List (MethodName × Nat) := [(⟨"NumberedSparksModel", "groups", "(I)I"⟩, 42), (⟨"NumberedSparksModel", "ofSource", "(II)I"⟩, 42), (⟨"NumberedSparksModel", "keeps", "(II)V"⟩, 42), (⟨"NumberedSparksModel", "mixedOf", "(II)J"⟩, 42), (⟨"NumberedSparksModel", "isSpark", "(I)Z"⟩, 42), (⟨"NumberedSparksModel", "hasChild", "(II)Z"⟩, 42), (⟨"NumberedSparksModel", "childOf", "(II)I"⟩, 42), (⟨"NumberedSparksModel", "kindOf", "(I)I"⟩, 42), (⟨"NumberedSparksModel", "lays", "(I)V"⟩, 42), (⟨"NumberedSparksModel", "laysRoot", "(I)V"⟩, 42), (⟨"NumberedSparksModel", "draw", "(III)I"⟩, 42), (⟨"NumberedSparksModel", "laysOne", "(III)V"⟩, 42), (⟨"NumberedSparksModel", "edge", "()I"⟩, 42), (⟨"NumberedSparksModel", "isBeyond", "(I)Z"⟩, 42), (⟨"NumberedSparksModel", "raw", "(II)I"⟩, 42), (⟨"NumberedSparksModel", "world", "(I)I"⟩, 42)]
theorem lw_r4 : ∀ q ∈ lw_privs_4, lw_okq q := List.forall_mem_cons.mpr ⟨lw_p48, List.forall_mem_cons.mpr ⟨lw_p49, List.forall_mem_cons.mpr ⟨lw_p50, List.forall_mem_cons.mpr ⟨lw_p51, List.forall_mem_cons.mpr ⟨lw_p52, List.forall_mem_cons.mpr ⟨lw_p53, List.forall_mem_cons.mpr ⟨lw_p54, List.forall_mem_cons.mpr ⟨lw_p55, List.forall_mem_cons.mpr ⟨lw_p56, List.forall_mem_cons.mpr ⟨lw_p57, List.forall_mem_cons.mpr ⟨lw_p58, List.forall_mem_cons.mpr ⟨lw_p59, List.forall_mem_cons.mpr ⟨lw_p60, List.forall_mem_cons.mpr ⟨lw_p61, List.forall_mem_cons.mpr ⟨lw_p62, List.forall_mem_cons.mpr ⟨lw_p63, fun _ h => absurd h List.not_mem_nil⟩⟩⟩⟩⟩⟩⟩⟩⟩⟩⟩⟩⟩⟩⟩⟩
theorem lw_p64 : lw_okq (⟨"NumberedSparksModel", "laysChild", "(I)V"⟩, 42) := ⟨⟨by decide +kernel, by decide +kernel⟩, List.mem_of_getElem? (i := 1126) (by decide +kernel), List.mem_of_getElem? (i := 1496) (by decide +kernel), List.mem_of_getElem? (i := 1497) (by decide +kernel)⟩
theorem lw_p65 : lw_okq (⟨"NumberedSparksModel", "placeBy", "(II)I"⟩, 42) := ⟨⟨by decide +kernel, by decide +kernel⟩, List.mem_of_getElem? (i := 1126) (by decide +kernel), List.mem_of_getElem? (i := 1500) (by decide +kernel), List.mem_of_getElem? (i := 1501) (by decide +kernel)⟩
theorem lw_p66 : lw_okq (⟨"NumberedSparksModel", "isTick", "(I)Z"⟩, 42) := ⟨⟨by decide +kernel, by decide +kernel⟩, List.mem_of_getElem? (i := 1126) (by decide +kernel), List.mem_of_getElem? (i := 1509) (by decide +kernel), List.mem_of_getElem? (i := 1510) (by decide +kernel)⟩
theorem lw_p67 : lw_okq (⟨"NumberedSparksModel", "overAt", "(I)I"⟩, 42) := ⟨⟨by decide +kernel, by decide +kernel⟩, List.mem_of_getElem? (i := 1126) (by decide +kernel), List.mem_of_getElem? (i := 1524) (by decide +kernel), List.mem_of_getElem? (i := 1525) (by decide +kernel)⟩
theorem lw_p68 : lw_okq (⟨"NumberedSparksModel", "cellBy", "(I)I"⟩, 42) := ⟨⟨by decide +kernel, by decide +kernel⟩, List.mem_of_getElem? (i := 1126) (by decide +kernel), List.mem_of_getElem? (i := 1538) (by decide +kernel), List.mem_of_getElem? (i := 1539) (by decide +kernel)⟩
theorem lw_p69 : lw_okq (⟨"NumberedSparksModel", "gathers", "(I)V"⟩, 42) := ⟨⟨by decide +kernel, by decide +kernel⟩, List.mem_of_getElem? (i := 1126) (by decide +kernel), List.mem_of_getElem? (i := 1566) (by decide +kernel), List.mem_of_getElem? (i := 1567) (by decide +kernel)⟩
theorem lw_p70 : lw_okq (⟨"NumberedSparksModel", "firstGroup", "(II)I"⟩, 42) := ⟨⟨by decide +kernel, by decide +kernel⟩, List.mem_of_getElem? (i := 1126) (by decide +kernel), List.mem_of_getElem? (i := 1570) (by decide +kernel), List.mem_of_getElem? (i := 1571) (by decide +kernel)⟩
theorem lw_p71 : lw_okq (⟨"NumberedSparksModel", "isGroup", "(III)Z"⟩, 42) := ⟨⟨by decide +kernel, by decide +kernel⟩, List.mem_of_getElem? (i := 1126) (by decide +kernel), List.mem_of_getElem? (i := 1574) (by decide +kernel), List.mem_of_getElem? (i := 1575) (by decide +kernel)⟩
theorem lw_p72 : lw_okq (⟨"NumberedSparksModel", "comesLine", "(II)V"⟩, 42) := ⟨⟨by decide +kernel, by decide +kernel⟩, List.mem_of_getElem? (i := 1126) (by decide +kernel), List.mem_of_getElem? (i := 1578) (by decide +kernel), List.mem_of_getElem? (i := 1579) (by decide +kernel)⟩
theorem lw_p73 : lw_okq (⟨"NumberedSparksModel", "comes", "(II)V"⟩, 42) := ⟨⟨by decide +kernel, by decide +kernel⟩, List.mem_of_getElem? (i := 1126) (by decide +kernel), List.mem_of_getElem? (i := 1582) (by decide +kernel), List.mem_of_getElem? (i := 1583) (by decide +kernel)⟩
theorem lw_p74 : lw_okq (⟨"NumberedSparksModel", "codeAt", "(I)I"⟩, 42) := ⟨⟨by decide +kernel, by decide +kernel⟩, List.mem_of_getElem? (i := 1126) (by decide +kernel), List.mem_of_getElem? (i := 1586) (by decide +kernel), List.mem_of_getElem? (i := 1587) (by decide +kernel)⟩
theorem lw_p75 : lw_okq (⟨"NumberedSparksModel", "laysFrame", "(I)V"⟩, 42) := ⟨⟨by decide +kernel, by decide +kernel⟩, List.mem_of_getElem? (i := 1126) (by decide +kernel), List.mem_of_getElem? (i := 1595) (by decide +kernel), List.mem_of_getElem? (i := 1596) (by decide +kernel)⟩
theorem lw_p76 : lw_okq (⟨"NumberedSparksModel", "sorts", "()V"⟩, 42) := ⟨⟨by decide +kernel, by decide +kernel⟩, List.mem_of_getElem? (i := 1126) (by decide +kernel), List.mem_of_getElem? (i := 1599) (by decide +kernel), List.mem_of_getElem? (i := 1600) (by decide +kernel)⟩
theorem lw_p77 : lw_okq (⟨"NumberedSparksModel", "isColumn", "(II)Z"⟩, 42) := ⟨⟨by decide +kernel, by decide +kernel⟩, List.mem_of_getElem? (i := 1126) (by decide +kernel), List.mem_of_getElem? (i := 1613) (by decide +kernel), List.mem_of_getElem? (i := 1614) (by decide +kernel)⟩
theorem lw_p78 : lw_okq (⟨"NumberedSparksModel", "laysColumns", "(I)V"⟩, 42) := ⟨⟨by decide +kernel, by decide +kernel⟩, List.mem_of_getElem? (i := 1126) (by decide +kernel), List.mem_of_getElem? (i := 1617) (by decide +kernel), List.mem_of_getElem? (i := 1618) (by decide +kernel)⟩
theorem lw_p79 : lw_okq (⟨"NumberedSparksModel", "topOf", "(II)I"⟩, 42) := ⟨⟨by decide +kernel, by decide +kernel⟩, List.mem_of_getElem? (i := 1126) (by decide +kernel), List.mem_of_getElem? (i := 1625) (by decide +kernel), List.mem_of_getElem? (i := 1626) (by decide +kernel)⟩
def lw_privs_5 : List (MethodName × Nat) := [(⟨"NumberedSparksModel", "laysChild", "(I)V"⟩, 42), (⟨"NumberedSparksModel", "placeBy", "(II)I"⟩, 42), (⟨"NumberedSparksModel", "isTick", "(I)Z"⟩, 42), (⟨"NumberedSparksModel", "overAt", "(I)I"⟩, 42), (⟨"NumberedSparksModel", "cellBy", "(I)I"⟩, 42), (⟨"NumberedSparksModel", "gathers", "(I)V"⟩, 42), (⟨"NumberedSparksModel", "firstGroup", "(II)I"⟩, 42), (⟨"NumberedSparksModel", "isGroup", "(III)Z"⟩, 42), (⟨"NumberedSparksModel", "comesLine", "(II)V"⟩, 42), (⟨"NumberedSparksModel", "comes", "(II)V"⟩, 42), (⟨"NumberedSparksModel", "codeAt", "(I)I"⟩, 42), (⟨"NumberedSparksModel", "laysFrame", "(I)V"⟩, 42), (⟨"NumberedSparksModel", "sorts", "()V"⟩, 42), (⟨"NumberedSparksModel", "isColumn", "(II)Z"⟩, 42), (⟨"NumberedSparksModel", "laysColumns", "(I)V"⟩, 42), (⟨"NumberedSparksModel", "topOf", "(II)I"⟩, 42)]
theorem lw_r5 : ∀ q ∈ lw_privs_5, lw_okq q := List.forall_mem_cons.mpr ⟨lw_p64, List.forall_mem_cons.mpr ⟨lw_p65, List.forall_mem_cons.mpr ⟨lw_p66, List.forall_mem_cons.mpr ⟨lw_p67, List.forall_mem_cons.mpr ⟨lw_p68, List.forall_mem_cons.mpr ⟨lw_p69, List.forall_mem_cons.mpr ⟨lw_p70, List.forall_mem_cons.mpr ⟨lw_p71, List.forall_mem_cons.mpr ⟨lw_p72, List.forall_mem_cons.mpr ⟨lw_p73, List.forall_mem_cons.mpr ⟨lw_p74, List.forall_mem_cons.mpr ⟨lw_p75, List.forall_mem_cons.mpr ⟨lw_p76, List.forall_mem_cons.mpr ⟨lw_p77, List.forall_mem_cons.mpr ⟨lw_p78, List.forall_mem_cons.mpr ⟨lw_p79, fun _ h => absurd h List.not_mem_nil⟩⟩⟩⟩⟩⟩⟩⟩⟩⟩⟩⟩⟩⟩⟩⟩
theorem lw_p80 : lw_okq (⟨"NumberedSparksModel", "isCell", "(III)Z"⟩, 42) := ⟨⟨by decide +kernel, by decide +kernel⟩, List.mem_of_getElem? (i := 1126) (by decide +kernel), List.mem_of_getElem? (i := 1637) (by decide +kernel), List.mem_of_getElem? (i := 1638) (by decide +kernel)⟩
theorem lw_p81 : lw_okq (⟨"NumberedSparksModel", "squares", "(IIIII)J"⟩, 42) := ⟨⟨by decide +kernel, by decide +kernel⟩, List.mem_of_getElem? (i := 1126) (by decide +kernel), List.mem_of_getElem? (i := 1641) (by decide +kernel), List.mem_of_getElem? (i := 1642) (by decide +kernel)⟩
theorem lw_p82 : lw_okq (⟨"NumberedSparksModel", "laysHeaps", "(I)V"⟩, 42) := ⟨⟨by decide +kernel, by decide +kernel⟩, List.mem_of_getElem? (i := 1126) (by decide +kernel), List.mem_of_getElem? (i := 1656) (by decide +kernel), List.mem_of_getElem? (i := 1657) (by decide +kernel)⟩
theorem lw_p83 : lw_okq (⟨"NumberedSparksModel", "placeAt", "(III)I"⟩, 42) := ⟨⟨by decide +kernel, by decide +kernel⟩, List.mem_of_getElem? (i := 1126) (by decide +kernel), List.mem_of_getElem? (i := 1660) (by decide +kernel), List.mem_of_getElem? (i := 1661) (by decide +kernel)⟩
theorem lw_p84 : lw_okq (⟨"NumberedSparksModel", "isSpan", "(III)Z"⟩, 42) := ⟨⟨by decide +kernel, by decide +kernel⟩, List.mem_of_getElem? (i := 1126) (by decide +kernel), List.mem_of_getElem? (i := 1716) (by decide +kernel), List.mem_of_getElem? (i := 1717) (by decide +kernel)⟩
theorem lw_p85 : lw_okq (⟨"NumberedSparksModel", "bornOf", "(I)I"⟩, 42) := ⟨⟨by decide +kernel, by decide +kernel⟩, List.mem_of_getElem? (i := 1126) (by decide +kernel), List.mem_of_getElem? (i := 1720) (by decide +kernel), List.mem_of_getElem? (i := 1721) (by decide +kernel)⟩
theorem lw_p86 : lw_okq (⟨"NumberedSparksModel", "endingsOf", "(III)I"⟩, 42) := ⟨⟨by decide +kernel, by decide +kernel⟩, List.mem_of_getElem? (i := 1126) (by decide +kernel), List.mem_of_getElem? (i := 1728) (by decide +kernel), List.mem_of_getElem? (i := 1729) (by decide +kernel)⟩
theorem lw_p87 : lw_okq (⟨"NumberedSparksModel", "lastBirth", "(I)I"⟩, 42) := ⟨⟨by decide +kernel, by decide +kernel⟩, List.mem_of_getElem? (i := 1126) (by decide +kernel), List.mem_of_getElem? (i := 1736) (by decide +kernel), List.mem_of_getElem? (i := 1737) (by decide +kernel)⟩
theorem lw_p88 : lw_okq (⟨"NumberedSparksModel", "bornIn", "(IIIZ)I"⟩, 42) := ⟨⟨by decide +kernel, by decide +kernel⟩, List.mem_of_getElem? (i := 1126) (by decide +kernel), List.mem_of_getElem? (i := 1740) (by decide +kernel), List.mem_of_getElem? (i := 1741) (by decide +kernel)⟩
theorem lw_p89 : lw_okq (⟨"NumberedSparksModel", "says", "(I)V"⟩, 42) := ⟨⟨by decide +kernel, by decide +kernel⟩, List.mem_of_getElem? (i := 1126) (by decide +kernel), List.mem_of_getElem? (i := 1760) (by decide +kernel), List.mem_of_getElem? (i := 1761) (by decide +kernel)⟩
theorem lw_p90 : lw_okq (⟨"NumberedSparksModel", "saysNumber", "(I)V"⟩, 42) := ⟨⟨by decide +kernel, by decide +kernel⟩, List.mem_of_getElem? (i := 1126) (by decide +kernel), List.mem_of_getElem? (i := 1772) (by decide +kernel), List.mem_of_getElem? (i := 1773) (by decide +kernel)⟩
def lw_privs_6 : List (MethodName × Nat) := [(⟨"NumberedSparksModel", "isCell", "(III)Z"⟩, 42), (⟨"NumberedSparksModel", "squares", "(IIIII)J"⟩, 42), (⟨"NumberedSparksModel", "laysHeaps", "(I)V"⟩, 42), (⟨"NumberedSparksModel", "placeAt", "(III)I"⟩, 42), (⟨"NumberedSparksModel", "isSpan", "(III)Z"⟩, 42), (⟨"NumberedSparksModel", "bornOf", "(I)I"⟩, 42), (⟨"NumberedSparksModel", "endingsOf", "(III)I"⟩, 42), (⟨"NumberedSparksModel", "lastBirth", "(I)I"⟩, 42), (⟨"NumberedSparksModel", "bornIn", "(IIIZ)I"⟩, 42), (⟨"NumberedSparksModel", "says", "(I)V"⟩, 42), (⟨"NumberedSparksModel", "saysNumber", "(I)V"⟩, 42)]
theorem lw_r6 : ∀ q ∈ lw_privs_6, lw_okq q := List.forall_mem_cons.mpr ⟨lw_p80, List.forall_mem_cons.mpr ⟨lw_p81, List.forall_mem_cons.mpr ⟨lw_p82, List.forall_mem_cons.mpr ⟨lw_p83, List.forall_mem_cons.mpr ⟨lw_p84, List.forall_mem_cons.mpr ⟨lw_p85, List.forall_mem_cons.mpr ⟨lw_p86, List.forall_mem_cons.mpr ⟨lw_p87, List.forall_mem_cons.mpr ⟨lw_p88, List.forall_mem_cons.mpr ⟨lw_p89, List.forall_mem_cons.mpr ⟨lw_p90, fun _ h => absurd h List.not_mem_nil⟩⟩⟩⟩⟩⟩⟩⟩⟩⟩⟩
def lw_privs : List (MethodName × Nat) := lw_privs_1 ++ (lw_privs_2 ++ (lw_privs_3 ++ (lw_privs_4 ++ (lw_privs_5 ++ (lw_privs_6)))))
def lw_tbl : List Cond := k2_sels lw_privs ++ tables_1
theorem lw_privs_ok : ∀ q ∈ lw_privs, lw_okq q := by
  show ∀ q ∈ lw_privs_1 ++ (lw_privs_2 ++ (lw_privs_3 ++ (lw_privs_4 ++ (lw_privs_5 ++ (lw_privs_6))))), lw_okq q
  exact List.forall_mem_append.mpr ⟨lw_r1, List.forall_mem_append.mpr ⟨lw_r2, List.forall_mem_append.mpr ⟨lw_r3, List.forall_mem_append.mpr ⟨lw_r4, List.forall_mem_append.mpr ⟨lw_r5, lw_r6⟩⟩⟩⟩⟩

/-! ===== BEGIN printed: names, fields, word lists, decode rows ===== -/
def RX0 : String := "NumberedSparks$Finder"
def TX0 : u_T := fun k => match k with
  | 0 => ("NumberedSparks$Finder", "scene", "LNumberedSparks$Scene;", true)
  | 1 => ("NumberedSparks$Finder", "own", "LNumberedSparks$Spark;", true)
  | 2 => ("NumberedSparks$Finder", "child", "LNumberedSparks$Spark;", true)
  | _ => ("NumberedSparks$Finder", "grandchild", "LNumberedSparks$Spark;", true)
def tyX0 : Nat → FieldType := fun k => match k with
  | 0 => .object "NumberedSparks$Scene"
  | 1 => .object "NumberedSparks$Spark"
  | 2 => .object "NumberedSparks$Spark"
  | _ => .object "NumberedSparks$Spark"
abbrev wsX00 : List Cond := u_ws RX0 TX0 4
theorem nmX0 : ∀ a, a < 4 → ∀ b, b < 4 → a ≠ b → (TX0 a).2.1 ≠ (TX0 b).2.1 := by decide +kernel
theorem tyX0_ok : ∀ k, k < 4 → parseFieldDescriptor (TX0 k).2.2.1 = some (tyX0 k) := by decide +kernel
abbrev cX0_init : ByteArray := prog_2_method_1_code
def yX0_init : MethodName := ⟨RX0, "<init>", "(LNumberedSparks$Scene;)V"⟩
abbrev cX0_find : ByteArray := prog_2_method_2_code
def yX0_find : MethodName := ⟨RX0, "find", "(I)LNumberedSparks$Spark;"⟩
def RX1 : String := "NumberedSparks$Frame"
def TX1 : u_T := fun k => match k with
  | 0 => ("NumberedSparks$Frame", "scene", "LNumberedSparks$Scene;", true)
  | 1 => ("NumberedSparks$Frame", "walk", "LNumberedSparks$Walk;", true)
  | 2 => ("NumberedSparks$Frame", "length", "I", false)
  | 3 => ("NumberedSparks$Frame", "codes", "[I", false)
  | 4 => ("NumberedSparks$Frame", "kinds", "[I", false)
  | 5 => ("NumberedSparks$Frame", "borns", "[I", false)
  | 6 => ("NumberedSparks$Frame", "ends", "[I", false)
  | 7 => ("NumberedSparks$Frame", "xs", "[I", false)
  | 8 => ("NumberedSparks$Frame", "ys", "[I", false)
  | 9 => ("NumberedSparks$Frame", "zs", "[I", false)
  | 10 => ("NumberedSparks$Frame", "order", "[I", false)
  | 11 => ("NumberedSparks$Frame", "depths", "[I", true)
  | _ => ("NumberedSparks$Frame", "tick", "I", false)
def tyX1 : Nat → FieldType := fun k => match k with
  | 0 => .object "NumberedSparks$Scene"
  | 1 => .object "NumberedSparks$Walk"
  | 2 => .int
  | 3 => .array .int
  | 4 => .array .int
  | 5 => .array .int
  | 6 => .array .int
  | 7 => .array .int
  | 8 => .array .int
  | 9 => .array .int
  | 10 => .array .int
  | 11 => .array .int
  | _ => .int
abbrev wsX10 : List Cond := u_ws RX1 TX1 13
theorem nmX1 : ∀ a, a < 13 → ∀ b, b < 13 → a ≠ b → (TX1 a).2.1 ≠ (TX1 b).2.1 := by decide +kernel
theorem tyX1_ok : ∀ k, k < 13 → parseFieldDescriptor (TX1 k).2.2.1 = some (tyX1 k) := by decide +kernel
abbrev cX1_init : ByteArray := prog_3_method_1_code
def yX1_init : MethodName := ⟨RX1, "<init>", "(LNumberedSparks$Scene;LNumberedSparks$Walk;)V"⟩
abbrev cX1_forget : ByteArray := prog_3_method_2_code
def yX1_forget : MethodName := ⟨RX1, "forget", "()V"⟩
abbrev cX1_shows : ByteArray := prog_3_method_3_code
def yX1_shows : MethodName := ⟨RX1, "shows", "(I)Z"⟩
abbrev cX1_append : ByteArray := prog_3_method_4_code
def yX1_append : MethodName := ⟨RX1, "append", "(LNumberedSparks$Spark;I)V"⟩
abbrev cX1_grow : ByteArray := prog_3_method_5_code
def yX1_grow : MethodName := ⟨RX1, "grow", "()V"⟩
abbrev cX1_putInOrder : ByteArray := prog_3_method_6_code
def yX1_putInOrder : MethodName := ⟨RX1, "putInOrder", "()V"⟩
abbrev cX1_depthOf : ByteArray := prog_3_method_7_code
def yX1_depthOf : MethodName := ⟨RX1, "depthOf", "(I)I"⟩
abbrev cX1_placeOf : ByteArray := prog_3_method_8_code
def yX1_placeOf : MethodName := ⟨RX1, "placeOf", "(II)I"⟩
abbrev cX1_isInColumn : ByteArray := prog_3_method_9_code
def yX1_isInColumn : MethodName := ⟨RX1, "isInColumn", "(III)Z"⟩
abbrev cX1_columnOf : ByteArray := prog_3_method_10_code
def yX1_columnOf : MethodName := ⟨RX1, "columnOf", "(I)I"⟩
abbrev cX1_farSquared : ByteArray := prog_3_method_11_code
def yX1_farSquared : MethodName := ⟨RX1, "farSquared", "(IIII)I"⟩
abbrev cX1_fromTop : ByteArray := prog_3_method_12_code
def yX1_fromTop : MethodName := ⟨RX1, "fromTop", "(III)I"⟩
abbrev cX1_countColumns : ByteArray := prog_3_method_13_code
def yX1_countColumns : MethodName := ⟨RX1, "countColumns", "([I)V"⟩
abbrev cX1_countLayer : ByteArray := prog_3_method_14_code
def yX1_countLayer : MethodName := ⟨RX1, "countLayer", "(I[I)V"⟩
abbrev cX1_countTwos : ByteArray := prog_3_method_15_code
def yX1_countTwos : MethodName := ⟨RX1, "countTwos", "([I)J"⟩
abbrev cX1_forgetColumns : ByteArray := prog_3_method_16_code
def yX1_forgetColumns : MethodName := ⟨RX1, "forgetColumns", "(II[I)V"⟩
abbrev cX1_markTops : ByteArray := prog_3_method_17_code
def yX1_markTops : MethodName := ⟨RX1, "markTops", "([I)V"⟩
def RX2 : String := "NumberedSparks$History"
def TX2 : u_T := fun k => match k with
  | 0 => ("NumberedSparks$History", "kinds", "[I", true)
  | 1 => ("NumberedSparks$History", "whats", "[I", true)
  | 2 => ("NumberedSparks$History", "values", "[I", true)
  | _ => ("NumberedSparks$History", "length", "I", false)
def tyX2 : Nat → FieldType := fun k => match k with
  | 0 => .array .int
  | 1 => .array .int
  | 2 => .array .int
  | _ => .int
abbrev wsX20 : List Cond := u_ws RX2 TX2 4
theorem nmX2 : ∀ a, a < 4 → ∀ b, b < 4 → a ≠ b → (TX2 a).2.1 ≠ (TX2 b).2.1 := by decide +kernel
theorem tyX2_ok : ∀ k, k < 4 → parseFieldDescriptor (TX2 k).2.2.1 = some (tyX2 k) := by decide +kernel
abbrev cX2_init : ByteArray := prog_4_method_1_code
def yX2_init : MethodName := ⟨RX2, "<init>", "()V"⟩
abbrev cX2_forget : ByteArray := prog_4_method_2_code
def yX2_forget : MethodName := ⟨RX2, "forget", "()V"⟩
abbrev cX2_isEmpty : ByteArray := prog_4_method_3_code
def yX2_isEmpty : MethodName := ⟨RX2, "isEmpty", "()Z"⟩
abbrev cX2_remember : ByteArray := prog_4_method_4_code
def yX2_remember : MethodName := ⟨RX2, "remember", "(III)V"⟩
abbrev cX2_takeBack : ByteArray := prog_4_method_5_code
def yX2_takeBack : MethodName := ⟨RX2, "takeBack", "(LNumberedSparks$Scene;)V"⟩
def RX3 : String := "NumberedSparks$Output"
def TX3 : u_T := fun k => match k with
  | 0 => ("NumberedSparks$Output", "bytes", "[I", true)
  | _ => ("NumberedSparks$Output", "length", "I", false)
def tyX3 : Nat → FieldType := fun k => match k with
  | 0 => .array .int
  | _ => .int
abbrev wsX30 : List Cond := u_ws RX3 TX3 2
theorem nmX3 : ∀ a, a < 2 → ∀ b, b < 2 → a ≠ b → (TX3 a).2.1 ≠ (TX3 b).2.1 := by decide +kernel
theorem tyX3_ok : ∀ k, k < 2 → parseFieldDescriptor (TX3 k).2.2.1 = some (tyX3 k) := by decide +kernel
abbrev cX3_init : ByteArray := prog_5_method_1_code
def yX3_init : MethodName := ⟨RX3, "<init>", "()V"⟩
abbrev cX3_clear : ByteArray := prog_5_method_2_code
def yX3_clear : MethodName := ⟨RX3, "clear", "()V"⟩
abbrev cX3_put : ByteArray := prog_5_method_3_code
def yX3_put : MethodName := ⟨RX3, "put", "(I)V"⟩
abbrev cX3_putNumber : ByteArray := prog_5_method_4_code
def yX3_putNumber : MethodName := ⟨RX3, "putNumber", "(I)V"⟩
abbrev cX3_byteAt : ByteArray := prog_5_method_5_code
def yX3_byteAt : MethodName := ⟨RX3, "byteAt", "(I)I"⟩
def RX4 : String := "NumberedSparks$Reader"
def TX4 : u_T := fun k => match k with
  | 0 => ("NumberedSparks$Reader", "draft", "LNumberedSparks$Scene;", true)
  | 1 => ("NumberedSparks$Reader", "fault", "I", false)
  | 2 => ("NumberedSparks$Reader", "faultPlace", "I", false)
  | 3 => ("NumberedSparks$Reader", "text", "[I", false)
  | 4 => ("NumberedSparks$Reader", "length", "I", false)
  | 5 => ("NumberedSparks$Reader", "token", "I", false)
  | 6 => ("NumberedSparks$Reader", "start", "I", false)
  | 7 => ("NumberedSparks$Reader", "beyond", "I", false)
  | _ => ("NumberedSparks$Reader", "value", "I", false)
def tyX4 : Nat → FieldType := fun k => match k with
  | 0 => .object "NumberedSparks$Scene"
  | 1 => .int
  | 2 => .int
  | 3 => .array .int
  | 4 => .int
  | 5 => .int
  | 6 => .int
  | 7 => .int
  | _ => .int
abbrev wsX40 : List Cond := u_ws RX4 TX4 9
theorem nmX4 : ∀ a, a < 9 → ∀ b, b < 9 → a ≠ b → (TX4 a).2.1 ≠ (TX4 b).2.1 := by decide +kernel
theorem tyX4_ok : ∀ k, k < 9 → parseFieldDescriptor (TX4 k).2.2.1 = some (tyX4 k) := by decide +kernel
abbrev cX4_init : ByteArray := prog_6_method_1_code
def yX4_init : MethodName := ⟨RX4, "<init>", "()V"⟩
abbrev cX4_read : ByteArray := prog_6_method_2_code
def yX4_read : MethodName := ⟨RX4, "read", "([II)I"⟩
abbrev cX4_readWorld : ByteArray := prog_6_method_3_code
def yX4_readWorld : MethodName := ⟨RX4, "readWorld", "()V"⟩
abbrev cX4_readSeed : ByteArray := prog_6_method_4_code
def yX4_readSeed : MethodName := ⟨RX4, "readSeed", "()V"⟩
abbrev cX4_readKind : ByteArray := prog_6_method_5_code
def yX4_readKind : MethodName := ⟨RX4, "readKind", "()V"⟩
abbrev cX4_readFalls : ByteArray := prog_6_method_6_code
def yX4_readFalls : MethodName := ⟨RX4, "readFalls", "()I"⟩
abbrev cX4_readEdge : ByteArray := prog_6_method_7_code
def yX4_readEdge : MethodName := ⟨RX4, "readEdge", "()I"⟩
abbrev cX4_readSource : ByteArray := prog_6_method_8_code
def yX4_readSource : MethodName := ⟨RX4, "readSource", "()V"⟩
abbrev cX4_numberBehind : ByteArray := prog_6_method_9_code
def yX4_numberBehind : MethodName := ⟨RX4, "numberBehind", "(Ljava/lang/String;III)I"⟩
abbrev cX4_isWord : ByteArray := prog_6_method_10_code
def yX4_isWord : MethodName := ⟨RX4, "isWord", "(Ljava/lang/String;)Z"⟩
abbrev cX4_takeWord : ByteArray := prog_6_method_11_code
def yX4_takeWord : MethodName := ⟨RX4, "takeWord", "(Ljava/lang/String;)Z"⟩
abbrev cX4_needWord : ByteArray := prog_6_method_12_code
def yX4_needWord : MethodName := ⟨RX4, "needWord", "(Ljava/lang/String;)V"⟩
abbrev cX4_needSign : ByteArray := prog_6_method_13_code
def yX4_needSign : MethodName := ⟨RX4, "needSign", "(C)V"⟩
abbrev cX4_needNumber : ByteArray := prog_6_method_14_code
def yX4_needNumber : MethodName := ⟨RX4, "needNumber", "(II)I"⟩
abbrev cX4_fail : ByteArray := prog_6_method_15_code
def yX4_fail : MethodName := ⟨RX4, "fail", "(I)V"⟩
abbrev cX4_byteAt : ByteArray := prog_6_method_16_code
def yX4_byteAt : MethodName := ⟨RX4, "byteAt", "(I)I"⟩
abbrev cX4_isLetter : ByteArray := prog_6_method_17_code
def yX4_isLetter : MethodName := ⟨RX4, "isLetter", "(I)Z"⟩
abbrev cX4_isDigit : ByteArray := prog_6_method_18_code
def yX4_isDigit : MethodName := ⟨RX4, "isDigit", "(I)Z"⟩
abbrev cX4_advance : ByteArray := prog_6_method_19_code
def yX4_advance : MethodName := ⟨RX4, "advance", "()V"⟩
def RX5 : String := "NumberedSparks$Scene"
def TX5 : u_T := fun k => match k with
  | 0 => ("NumberedSparks$Scene", "cells", "[I", true)
  | 1 => ("NumberedSparks$Scene", "kinds", "[I", true)
  | 2 => ("NumberedSparks$Scene", "sources", "[I", true)
  | 3 => ("NumberedSparks$Scene", "kindCount", "I", false)
  | 4 => ("NumberedSparks$Scene", "sourceCount", "I", false)
  | 5 => ("NumberedSparks$Scene", "seed", "I", false)
  | 6 => ("NumberedSparks$Scene", "seedTold", "Z", false)
  | _ => ("NumberedSparks$Scene", "stands", "Z", false)
def tyX5 : Nat → FieldType := fun k => match k with
  | 0 => .array .int
  | 1 => .array .int
  | 2 => .array .int
  | 3 => .int
  | 4 => .int
  | 5 => .int
  | 6 => .boolean
  | _ => .boolean
abbrev wsX50 : List Cond := u_ws RX5 TX5 8
theorem nmX5 : ∀ a, a < 8 → ∀ b, b < 8 → a ≠ b → (TX5 a).2.1 ≠ (TX5 b).2.1 := by decide +kernel
theorem tyX5_ok : ∀ k, k < 8 → parseFieldDescriptor (TX5 k).2.2.1 = some (tyX5 k) := by decide +kernel
abbrev cX5_init : ByteArray := prog_7_method_1_code
def yX5_init : MethodName := ⟨RX5, "<init>", "()V"⟩
abbrev cX5_clear : ByteArray := prog_7_method_2_code
def yX5_clear : MethodName := ⟨RX5, "clear", "()V"⟩
abbrev cX5_become : ByteArray := prog_7_method_3_code
def yX5_become : MethodName := ⟨RX5, "become", "(LNumberedSparks$Scene;)V"⟩
abbrev cX5_cellsAlong : ByteArray := prog_7_method_4_code
def yX5_cellsAlong : MethodName := ⟨RX5, "cellsAlong", "(I)I"⟩
abbrev cX5_isCell : ByteArray := prog_7_method_5_code
def yX5_isCell : MethodName := ⟨RX5, "isCell", "(II)Z"⟩
abbrev cX5_isCellOfWorld : ByteArray := prog_7_method_6_code
def yX5_isCellOfWorld : MethodName := ⟨RX5, "isCellOfWorld", "(III)Z"⟩
abbrev cX5_isKind : ByteArray := prog_7_method_7_code
def yX5_isKind : MethodName := ⟨RX5, "isKind", "(I)Z"⟩
abbrev cX5_isSource : ByteArray := prog_7_method_8_code
def yX5_isSource : MethodName := ⟨RX5, "isSource", "(I)Z"⟩
abbrev cX5_ofKind : ByteArray := prog_7_method_9_code
def yX5_ofKind : MethodName := ⟨RX5, "ofKind", "(II)I"⟩
abbrev cX5_setKind : ByteArray := prog_7_method_10_code
def yX5_setKind : MethodName := ⟨RX5, "setKind", "(III)V"⟩
abbrev cX5_ofSource : ByteArray := prog_7_method_11_code
def yX5_ofSource : MethodName := ⟨RX5, "ofSource", "(II)I"⟩
abbrev cX5_setSource : ByteArray := prog_7_method_12_code
def yX5_setSource : MethodName := ⟨RX5, "setSource", "(III)V"⟩
abbrev cX5_mix : ByteArray := prog_7_method_13_code
def yX5_mix : MethodName := ⟨RX5, "mix", "(II)J"⟩
abbrev cX5_draw : ByteArray := prog_7_method_14_code
def yX5_draw : MethodName := ⟨RX5, "draw", "(III)I"⟩
abbrev cX5_colourOf : ByteArray := prog_7_method_15_code
def yX5_colourOf : MethodName := ⟨RX5, "colourOf", "(I)I"⟩
abbrev cX5_hasSpark : ByteArray := prog_7_method_16_code
def yX5_hasSpark : MethodName := ⟨RX5, "hasSpark", "(I)Z"⟩
abbrev cX5_kindOfSpark : ByteArray := prog_7_method_17_code
def yX5_kindOfSpark : MethodName := ⟨RX5, "kindOfSpark", "(I)I"⟩
abbrev cX5_burstsUpTo : ByteArray := prog_7_method_18_code
def yX5_burstsUpTo : MethodName := ⟨RX5, "burstsUpTo", "(II)I"⟩
abbrev cX5_plannedTick : ByteArray := prog_7_method_19_code
def yX5_plannedTick : MethodName := ⟨RX5, "plannedTick", "(II)I"⟩
abbrev cX5_birthTick : ByteArray := prog_7_method_20_code
def yX5_birthTick : MethodName := ⟨RX5, "birthTick", "(II)I"⟩
abbrev cX5_bornBefore : ByteArray := prog_7_method_21_code
def yX5_bornBefore : MethodName := ⟨RX5, "bornBefore", "(II)I"⟩
abbrev cX5_tickOfBirth : ByteArray := prog_7_method_22_code
def yX5_tickOfBirth : MethodName := ⟨RX5, "tickOfBirth", "(II)I"⟩
abbrev cX5_codeOfBirth : ByteArray := prog_7_method_23_code
def yX5_codeOfBirth : MethodName := ⟨RX5, "codeOfBirth", "(II)I"⟩
abbrev cX5_countBirths : ByteArray := prog_7_method_24_code
def yX5_countBirths : MethodName := ⟨RX5, "countBirths", "(III[I)V"⟩
def RX6 : String := "NumberedSparks$Spark"
def TX6 : u_T := fun k => match k with
  | 0 => ("NumberedSparks$Spark", "scene", "LNumberedSparks$Scene;", true)
  | 1 => ("NumberedSparks$Spark", "start", "[I", true)
  | 2 => ("NumberedSparks$Spark", "speed", "[I", true)
  | 3 => ("NumberedSparks$Spark", "code", "I", false)
  | 4 => ("NumberedSparks$Spark", "kind", "I", false)
  | 5 => ("NumberedSparks$Spark", "generation", "I", false)
  | 6 => ("NumberedSparks$Spark", "born", "I", false)
  | 7 => ("NumberedSparks$Spark", "ends", "I", false)
  | 8 => ("NumberedSparks$Spark", "falls", "I", false)
  | _ => ("NumberedSparks$Spark", "edge", "I", false)
def tyX6 : Nat → FieldType := fun k => match k with
  | 0 => .object "NumberedSparks$Scene"
  | 1 => .array .int
  | 2 => .array .int
  | 3 => .int
  | 4 => .int
  | 5 => .int
  | 6 => .int
  | 7 => .int
  | 8 => .int
  | _ => .int
abbrev wsX60 : List Cond := u_ws RX6 TX6 10
theorem nmX6 : ∀ a, a < 10 → ∀ b, b < 10 → a ≠ b → (TX6 a).2.1 ≠ (TX6 b).2.1 := by decide +kernel
theorem tyX6_ok : ∀ k, k < 10 → parseFieldDescriptor (TX6 k).2.2.1 = some (tyX6 k) := by decide +kernel
abbrev cX6_init : ByteArray := prog_8_method_1_code
def yX6_init : MethodName := ⟨RX6, "<init>", "(LNumberedSparks$Scene;)V"⟩
abbrev cX6_beginAtSource : ByteArray := prog_8_method_2_code
def yX6_beginAtSource : MethodName := ⟨RX6, "beginAtSource", "(III)V"⟩
abbrev cX6_beginAsChild : ByteArray := prog_8_method_3_code
def yX6_beginAsChild : MethodName := ⟨RX6, "beginAsChild", "(LNumberedSparks$Spark;I)V"⟩
abbrev cX6_fly : ByteArray := prog_8_method_4_code
def yX6_fly : MethodName := ⟨RX6, "fly", "()V"⟩
abbrev cX6_ageBeyond : ByteArray := prog_8_method_5_code
def yX6_ageBeyond : MethodName := ⟨RX6, "ageBeyond", "(II)I"⟩
abbrev cX6_isThere : ByteArray := prog_8_method_6_code
def yX6_isThere : MethodName := ⟨RX6, "isThere", "(I)Z"⟩
abbrev cX6_freePlace : ByteArray := prog_8_method_7_code
def yX6_freePlace : MethodName := ⟨RX6, "freePlace", "(II)I"⟩
abbrev cX6_placeAt : ByteArray := prog_8_method_8_code
def yX6_placeAt : MethodName := ⟨RX6, "placeAt", "(II)I"⟩
abbrev cX6_cellAt : ByteArray := prog_8_method_9_code
def yX6_cellAt : MethodName := ⟨RX6, "cellAt", "(I)I"⟩
abbrev cX6_edgesAt : ByteArray := prog_8_method_10_code
def yX6_edgesAt : MethodName := ⟨RX6, "edgesAt", "(I)I"⟩
abbrev cX6_firstInColumn : ByteArray := prog_8_method_11_code
def yX6_firstInColumn : MethodName := ⟨RX6, "firstInColumn", "(IIII)I"⟩
abbrev cX6_crossings : ByteArray := prog_8_method_12_code
def yX6_crossings : MethodName := ⟨RX6, "crossings", "(IIIZ)I"⟩
def RX7 : String := "NumberedSparks$Walk"
def TX7 : u_T := fun k => match k with
  | 0 => ("NumberedSparks$Walk", "scene", "LNumberedSparks$Scene;", true)
  | 1 => ("NumberedSparks$Walk", "line", "[LNumberedSparks$Spark;", true)
  | 2 => ("NumberedSparks$Walk", "shownRows", "[I", true)
  | 3 => ("NumberedSparks$Walk", "nextRoot", "[I", true)
  | 4 => ("NumberedSparks$Walk", "beyondRoots", "[I", true)
  | 5 => ("NumberedSparks$Walk", "spans", "[I", true)
  | 6 => ("NumberedSparks$Walk", "first", "I", false)
  | 7 => ("NumberedSparks$Walk", "beyond", "I", false)
  | _ => ("NumberedSparks$Walk", "showing", "I", false)
def tyX7 : Nat → FieldType := fun k => match k with
  | 0 => .object "NumberedSparks$Scene"
  | 1 => .array (.object "NumberedSparks$Spark")
  | 2 => .array .int
  | 3 => .array .int
  | 4 => .array .int
  | 5 => .array .int
  | 6 => .int
  | 7 => .int
  | _ => .int
abbrev wsX70 : List Cond := u_ws RX7 TX7 9
theorem nmX7 : ∀ a, a < 9 → ∀ b, b < 9 → a ≠ b → (TX7 a).2.1 ≠ (TX7 b).2.1 := by decide +kernel
theorem tyX7_ok : ∀ k, k < 9 → parseFieldDescriptor (TX7 k).2.2.1 = some (tyX7 k) := by decide +kernel
abbrev cX7_init : ByteArray := prog_9_method_1_code
def yX7_init : MethodName := ⟨RX7, "<init>", "(LNumberedSparks$Scene;)V"⟩
abbrev cX7_start : ByteArray := prog_9_method_2_code
def yX7_start : MethodName := ⟨RX7, "start", "(II)V"⟩
abbrev cX7_startWithRoot : ByteArray := prog_9_method_3_code
def yX7_startWithRoot : MethodName := ⟨RX7, "startWithRoot", "(II)V"⟩
abbrev cX7_measureSpans : ByteArray := prog_9_method_4_code
def yX7_measureSpans : MethodName := ⟨RX7, "measureSpans", "()V"⟩
abbrev cX7_spanOf : ByteArray := prog_9_method_5_code
def yX7_spanOf : MethodName := ⟨RX7, "spanOf", "(II)I"⟩
abbrev cX7_spanBehind : ByteArray := prog_9_method_6_code
def yX7_spanBehind : MethodName := ⟨RX7, "spanBehind", "(II)I"⟩
abbrev cX7_stepRoot : ByteArray := prog_9_method_7_code
def yX7_stepRoot : MethodName := ⟨RX7, "stepRoot", "()Z"⟩
abbrev cX7_stepChild : ByteArray := prog_9_method_8_code
def yX7_stepChild : MethodName := ⟨RX7, "stepChild", "(LNumberedSparks$Spark;II)V"⟩
abbrev cX7_isOutside : ByteArray := prog_9_method_9_code
def yX7_isOutside : MethodName := ⟨RX7, "isOutside", "(LNumberedSparks$Spark;)Z"⟩
abbrev cX7_show : ByteArray := prog_9_method_10_code
def yX7_show : MethodName := ⟨RX7, "show", "(I)V"⟩
abbrev cX7_sourceOfLeastRoot : ByteArray := prog_9_method_11_code
def yX7_sourceOfLeastRoot : MethodName := ⟨RX7, "sourceOfLeastRoot", "()I"⟩
abbrev cX7_shown : ByteArray := prog_9_method_12_code
def yX7_shown : MethodName := ⟨RX7, "shown", "(I)LNumberedSparks$Spark;"⟩
def RX8 : String := "NumberedSparks"
def TX8 : u_T := fun k => match k with
  | 0 => ("NumberedSparks", "tape", "[I", true)
  | 1 => ("NumberedSparks", "tapeLength", "I", false)
  | 2 => ("NumberedSparks", "scene", "LNumberedSparks$Scene;", true)
  | 3 => ("NumberedSparks", "reader", "LNumberedSparks$Reader;", true)
  | 4 => ("NumberedSparks", "history", "LNumberedSparks$History;", true)
  | 5 => ("NumberedSparks", "out", "LNumberedSparks$Output;", true)
  | 6 => ("NumberedSparks", "walk", "LNumberedSparks$Walk;", true)
  | 7 => ("NumberedSparks", "frame", "LNumberedSparks$Frame;", true)
  | 8 => ("NumberedSparks", "finder", "LNumberedSparks$Finder;", true)
  | 9 => ("NumberedSparks", "otherFinder", "LNumberedSparks$Finder;", true)
  | _ => ("NumberedSparks", "counts", "[I", true)
def tyX8 : Nat → FieldType := fun k => match k with
  | 0 => .array .int
  | 1 => .int
  | 2 => .object "NumberedSparks$Scene"
  | 3 => .object "NumberedSparks$Reader"
  | 4 => .object "NumberedSparks$History"
  | 5 => .object "NumberedSparks$Output"
  | 6 => .object "NumberedSparks$Walk"
  | 7 => .object "NumberedSparks$Frame"
  | 8 => .object "NumberedSparks$Finder"
  | 9 => .object "NumberedSparks$Finder"
  | _ => .array .int
abbrev wsX80 : List Cond := u_ws RX8 TX8 11
theorem nmX8 : ∀ a, a < 11 → ∀ b, b < 11 → a ≠ b → (TX8 a).2.1 ≠ (TX8 b).2.1 := by decide +kernel
theorem tyX8_ok : ∀ k, k < 11 → parseFieldDescriptor (TX8 k).2.2.1 = some (tyX8 k) := by decide +kernel
abbrev cX8_init : ByteArray := prog_1_method_1_code
def yX8_init : MethodName := ⟨RX8, "<init>", "()V"⟩
abbrev cX8_feed : ByteArray := prog_1_method_2_code
def yX8_feed : MethodName := ⟨RX8, "feed", "(IIIII)I"⟩
abbrev cX8_putOnTape : ByteArray := prog_1_method_3_code
def yX8_putOnTape : MethodName := ⟨RX8, "putOnTape", "(I)V"⟩
abbrev cX8_end : ByteArray := prog_1_method_4_code
def yX8_end : MethodName := ⟨RX8, "end", "(I)I"⟩
abbrev cX8_scene : ByteArray := prog_1_method_5_code
def yX8_scene : MethodName := ⟨RX8, "scene", "()I"⟩
abbrev cX8_fault : ByteArray := prog_1_method_6_code
def yX8_fault : MethodName := ⟨RX8, "fault", "(I)I"⟩
abbrev cX8_count : ByteArray := prog_1_method_7_code
def yX8_count : MethodName := ⟨RX8, "count", "(I)I"⟩
abbrev cX8_kind : ByteArray := prog_1_method_8_code
def yX8_kind : MethodName := ⟨RX8, "kind", "(II)I"⟩
abbrev cX8_source : ByteArray := prog_1_method_9_code
def yX8_source : MethodName := ⟨RX8, "source", "(II)I"⟩
abbrev cX8_seed : ByteArray := prog_1_method_10_code
def yX8_seed : MethodName := ⟨RX8, "seed", "(I)I"⟩
abbrev cX8_sets : ByteArray := prog_1_method_11_code
def yX8_sets : MethodName := ⟨RX8, "sets", "(III)I"⟩
abbrev cX8_undo : ByteArray := prog_1_method_12_code
def yX8_undo : MethodName := ⟨RX8, "undo", "()I"⟩
abbrev cX8_mixed : ByteArray := prog_1_method_13_code
def yX8_mixed : MethodName := ⟨RX8, "mixed", "(II)J"⟩
abbrev cX8_is : ByteArray := prog_1_method_14_code
def yX8_is : MethodName := ⟨RX8, "is", "(I)I"⟩
abbrev cX8_child : ByteArray := prog_1_method_15_code
def yX8_child : MethodName := ⟨RX8, "child", "(II)I"⟩
abbrev cX8_parent : ByteArray := prog_1_method_16_code
def yX8_parent : MethodName := ⟨RX8, "parent", "(I)I"⟩
abbrev cX8_spark : ByteArray := prog_1_method_17_code
def yX8_spark : MethodName := ⟨RX8, "spark", "(II)I"⟩
abbrev cX8_place : ByteArray := prog_1_method_18_code
def yX8_place : MethodName := ⟨RX8, "place", "(III)I"⟩
abbrev cX8_size : ByteArray := prog_1_method_19_code
def yX8_size : MethodName := ⟨RX8, "size", "(II)I"⟩
abbrev cX8_edges : ByteArray := prog_1_method_20_code
def yX8_edges : MethodName := ⟨RX8, "edges", "(I)I"⟩
abbrev cX8_over : ByteArray := prog_1_method_21_code
def yX8_over : MethodName := ⟨RX8, "over", "(I)I"⟩
abbrev cX8_reach : ByteArray := prog_1_method_22_code
def yX8_reach : MethodName := ⟨RX8, "reach", "(III)I"⟩
abbrev cX8_cellsOf : ByteArray := prog_1_method_23_code
def yX8_cellsOf : MethodName := ⟨RX8, "cellsOf", "(I)I"⟩
abbrev cX8_isAmong : ByteArray := prog_1_method_24_code
def yX8_isAmong : MethodName := ⟨RX8, "isAmong", "(II)Z"⟩
abbrev cX8_meets : ByteArray := prog_1_method_25_code
def yX8_meets : MethodName := ⟨RX8, "meets", "(II)I"⟩
abbrev cX8_kin : ByteArray := prog_1_method_26_code
def yX8_kin : MethodName := ⟨RX8, "kin", "(II)I"⟩
abbrev cX8_line : ByteArray := prog_1_method_27_code
def yX8_line : MethodName := ⟨RX8, "line", "(II)I"⟩
abbrev cX8_tell : ByteArray := prog_1_method_28_code
def yX8_tell : MethodName := ⟨RX8, "tell", "(I)I"⟩
abbrev cX8_octet : ByteArray := prog_1_method_29_code
def yX8_octet : MethodName := ⟨RX8, "octet", "(I)I"⟩
abbrev cX8_births : ByteArray := prog_1_method_30_code
def yX8_births : MethodName := ⟨RX8, "births", "(III)I"⟩
abbrev cX8_bornAs : ByteArray := prog_1_method_31_code
def yX8_bornAs : MethodName := ⟨RX8, "bornAs", "(II)I"⟩
abbrev cX8_latest : ByteArray := prog_1_method_32_code
def yX8_latest : MethodName := ⟨RX8, "latest", "(II)I"⟩
abbrev cX8_next : ByteArray := prog_1_method_33_code
def yX8_next : MethodName := ⟨RX8, "next", "(II)I"⟩
abbrev cX8_lull : ByteArray := prog_1_method_34_code
def yX8_lull : MethodName := ⟨RX8, "lull", "(IIII)I"⟩
abbrev cX8_endings : ByteArray := prog_1_method_35_code
def yX8_endings : MethodName := ⟨RX8, "endings", "(II)I"⟩
abbrev cX8_peak : ByteArray := prog_1_method_36_code
def yX8_peak : MethodName := ⟨RX8, "peak", "(III)I"⟩
abbrev cX8_countComingAndGoing : ByteArray := prog_1_method_37_code
def yX8_countComingAndGoing : MethodName := ⟨RX8, "countComingAndGoing", "(II)V"⟩
abbrev cX8_firstIn : ByteArray := prog_1_method_38_code
def yX8_firstIn : MethodName := ⟨RX8, "firstIn", "(III)I"⟩
abbrev cX8_flux : ByteArray := prog_1_method_39_code
def yX8_flux : MethodName := ⟨RX8, "flux", "(IIII)I"⟩
abbrev cX8_many : ByteArray := prog_1_method_40_code
def yX8_many : MethodName := ⟨RX8, "many", "(II)I"⟩
abbrev cX8_drawn : ByteArray := prog_1_method_41_code
def yX8_drawn : MethodName := ⟨RX8, "drawn", "(II)I"⟩
abbrev cX8_digest : ByteArray := prog_1_method_42_code
def yX8_digest : MethodName := ⟨RX8, "digest", "(I)J"⟩
abbrev cX8_inColumn : ByteArray := prog_1_method_43_code
def yX8_inColumn : MethodName := ⟨RX8, "inColumn", "(III)I"⟩
abbrev cX8_top : ByteArray := prog_1_method_44_code
def yX8_top : MethodName := ⟨RX8, "top", "(III)I"⟩
abbrev cX8_below : ByteArray := prog_1_method_45_code
def yX8_below : MethodName := ⟨RX8, "below", "(IIII)I"⟩
abbrev cX8_fullest : ByteArray := prog_1_method_46_code
def yX8_fullest : MethodName := ⟨RX8, "fullest", "(II)I"⟩
abbrev cX8_columns : ByteArray := prog_1_method_47_code
def yX8_columns : MethodName := ⟨RX8, "columns", "(I)I"⟩
abbrev cX8_nearest : ByteArray := prog_1_method_48_code
def yX8_nearest : MethodName := ⟨RX8, "nearest", "(IIII)I"⟩
abbrev cX8_within : ByteArray := prog_1_method_49_code
def yX8_within : MethodName := ⟨RX8, "within", "(IIIII)I"⟩
abbrev cX8_twos : ByteArray := prog_1_method_50_code
def yX8_twos : MethodName := ⟨RX8, "twos", "(I)J"⟩
abbrev cX8_box : ByteArray := prog_1_method_51_code
def yX8_box : MethodName := ⟨RX8, "box", "(II)I"⟩
abbrev cX8_middle : ByteArray := prog_1_method_52_code
def yX8_middle : MethodName := ⟨RX8, "middle", "(II)I"⟩
abbrev cX8_both : ByteArray := prog_1_method_53_code
def yX8_both : MethodName := ⟨RX8, "both", "(II)I"⟩
abbrev cX8_ofAge : ByteArray := prog_1_method_54_code
def yX8_ofAge : MethodName := ⟨RX8, "ofAge", "(III)I"⟩
abbrev cX8_colours : ByteArray := prog_1_method_55_code
def yX8_colours : MethodName := ⟨RX8, "colours", "(II)I"⟩
abbrev cX8_twins : ByteArray := prog_1_method_56_code
def yX8_twins : MethodName := ⟨RX8, "twins", "(I)I"⟩
abbrev cX8_picture : ByteArray := prog_1_method_57_code
def yX8_picture : MethodName := ⟨RX8, "picture", "(I)I"⟩
abbrev cX8_layer : ByteArray := prog_1_method_58_code
def yX8_layer : MethodName := ⟨RX8, "layer", "(II)I"⟩
abbrev cX8_isTick : ByteArray := prog_1_method_59_code
def yX8_isTick : MethodName := ⟨RX8, "isTick", "(I)Z"⟩
abbrev cX8_isAxis : ByteArray := prog_1_method_60_code
def yX8_isAxis : MethodName := ⟨RX8, "isAxis", "(I)Z"⟩
abbrev cX8_isWindow : ByteArray := prog_1_method_61_code
def yX8_isWindow : MethodName := ⟨RX8, "isWindow", "(II)Z"⟩
abbrev cX8_sourceOf : ByteArray := prog_1_method_62_code
def yX8_sourceOf : MethodName := ⟨RX8, "sourceOf", "(I)I"⟩
abbrev cX8_numberOf : ByteArray := prog_1_method_63_code
def yX8_numberOf : MethodName := ⟨RX8, "numberOf", "(I)I"⟩
abbrev cX8_codeOfRoot : ByteArray := prog_1_method_64_code
def yX8_codeOfRoot : MethodName := ⟨RX8, "codeOfRoot", "(II)I"⟩
abbrev cX8_generationOf : ByteArray := prog_1_method_65_code
def yX8_generationOf : MethodName := ⟨RX8, "generationOf", "(I)I"⟩
abbrev cX8_codeOfChild : ByteArray := prog_1_method_66_code
def yX8_codeOfChild : MethodName := ⟨RX8, "codeOfChild", "(III)I"⟩
abbrev cX8_codeOfParent : ByteArray := prog_1_method_67_code
def yX8_codeOfParent : MethodName := ⟨RX8, "codeOfParent", "(I)I"⟩
abbrev cX8_comesOf : ByteArray := prog_1_method_68_code
def yX8_comesOf : MethodName := ⟨RX8, "comesOf", "(II)Z"⟩
def RX9 : String := "NumberedSparksModel"
def TX9 : u_T := fun k => match k with
  | 0 => ("NumberedSparksModel", "thrown", "I", false)
  | 1 => ("NumberedSparksModel", "isThere", "Z", false)
  | 2 => ("NumberedSparksModel", "wide", "[I", true)
  | 3 => ("NumberedSparksModel", "seed", "I", false)
  | 4 => ("NumberedSparksModel", "kinds", "I", false)
  | 5 => ("NumberedSparksModel", "kind", "[I", true)
  | 6 => ("NumberedSparksModel", "sources", "I", false)
  | 7 => ("NumberedSparksModel", "source", "[I", true)
  | 8 => ("NumberedSparksModel", "freshWide", "[I", true)
  | 9 => ("NumberedSparksModel", "freshSeed", "I", false)
  | 10 => ("NumberedSparksModel", "freshKinds", "I", false)
  | 11 => ("NumberedSparksModel", "freshKind", "[I", true)
  | 12 => ("NumberedSparksModel", "freshSources", "I", false)
  | 13 => ("NumberedSparksModel", "freshSource", "[I", true)
  | 14 => ("NumberedSparksModel", "tape", "[B", true)
  | 15 => ("NumberedSparksModel", "taped", "I", false)
  | 16 => ("NumberedSparksModel", "size", "I", false)
  | 17 => ("NumberedSparksModel", "at", "I", false)
  | 18 => ("NumberedSparksModel", "from", "I", false)
  | 19 => ("NumberedSparksModel", "token", "I", false)
  | 20 => ("NumberedSparksModel", "value", "I", false)
  | 21 => ("NumberedSparksModel", "faultKind", "I", false)
  | 22 => ("NumberedSparksModel", "faultPlace", "I", false)
  | 23 => ("NumberedSparksModel", "isSeeded", "Z", false)
  | 24 => ("NumberedSparksModel", "acts", "I", false)
  | 25 => ("NumberedSparksModel", "actAt", "[I", true)
  | 26 => ("NumberedSparksModel", "actWas", "[I", true)
  | 27 => ("NumberedSparksModel", "itsKind", "I", false)
  | 28 => ("NumberedSparksModel", "born", "I", false)
  | 29 => ("NumberedSparksModel", "ends", "I", false)
  | 30 => ("NumberedSparksModel", "begin", "[I", true)
  | 31 => ("NumberedSparksModel", "speed", "[I", true)
  | 32 => ("NumberedSparksModel", "lastPlace", "[I", true)
  | 33 => ("NumberedSparksModel", "cellsOfOne", "[I", true)
  | 34 => ("NumberedSparksModel", "many", "I", false)
  | 35 => ("NumberedSparksModel", "keys", "[J", true)
  | 36 => ("NumberedSparksModel", "place0", "[I", true)
  | 37 => ("NumberedSparksModel", "place1", "[I", true)
  | 38 => ("NumberedSparksModel", "heaps", "[I", true)
  | 39 => ("NumberedSparksModel", "leftOver", "I", false)
  | 40 => ("NumberedSparksModel", "told", "[B", true)
  | _ => ("NumberedSparksModel", "toldMany", "I", false)
def tyX9 : Nat → FieldType := fun k => match k with
  | 0 => .int
  | 1 => .boolean
  | 2 => .array .int
  | 3 => .int
  | 4 => .int
  | 5 => .array .int
  | 6 => .int
  | 7 => .array .int
  | 8 => .array .int
  | 9 => .int
  | 10 => .int
  | 11 => .array .int
  | 12 => .int
  | 13 => .array .int
  | 14 => .array .byte
  | 15 => .int
  | 16 => .int
  | 17 => .int
  | 18 => .int
  | 19 => .int
  | 20 => .int
  | 21 => .int
  | 22 => .int
  | 23 => .boolean
  | 24 => .int
  | 25 => .array .int
  | 26 => .array .int
  | 27 => .int
  | 28 => .int
  | 29 => .int
  | 30 => .array .int
  | 31 => .array .int
  | 32 => .array .int
  | 33 => .array .int
  | 34 => .int
  | 35 => .array .long
  | 36 => .array .int
  | 37 => .array .int
  | 38 => .array .int
  | 39 => .int
  | 40 => .array .byte
  | _ => .int
abbrev wsX90 : List Cond := u_ws RX9 TX9 42
theorem nmX9 : ∀ a, a < 42 → ∀ b, b < 42 → a ≠ b → (TX9 a).2.1 ≠ (TX9 b).2.1 := by decide +kernel
theorem tyX9_ok : ∀ k, k < 42 → parseFieldDescriptor (TX9 k).2.2.1 = some (tyX9 k) := by decide +kernel
abbrev cX9_init : ByteArray := prog_11_method_1_code
def yX9_init : MethodName := ⟨RX9, "<init>", "()V"⟩
abbrev cX9_in : ByteArray := prog_11_method_3_code
def yX9_in : MethodName := ⟨RX9, "in", "(JJJ)Z"⟩
abbrev cX9_puts4 : ByteArray := prog_11_method_4_code
def yX9_puts4 : MethodName := ⟨RX9, "puts4", "(I)V"⟩
abbrev cX9_feed : ByteArray := prog_11_method_5_code
def yX9_feed : MethodName := ⟨RX9, "feed", "(IIIII)I"⟩
abbrev cX9_end : ByteArray := prog_11_method_6_code
def yX9_end : MethodName := ⟨RX9, "end", "(I)I"⟩
abbrev cX9_good : ByteArray := prog_11_method_7_code
def yX9_good : MethodName := ⟨RX9, "good", "()Z"⟩
abbrev cX9_errs : ByteArray := prog_11_method_8_code
def yX9_errs : MethodName := ⟨RX9, "errs", "(II)V"⟩
abbrev cX9_see : ByteArray := prog_11_method_9_code
def yX9_see : MethodName := ⟨RX9, "see", "(I)I"⟩
abbrev cX9_advance : ByteArray := prog_11_method_10_code
def yX9_advance : MethodName := ⟨RX9, "advance", "()V"⟩
abbrev cX9_isWord : ByteArray := prog_11_method_11_code
def yX9_isWord : MethodName := ⟨RX9, "isWord", "(Ljava/lang/String;)Z"⟩
abbrev cX9_takes : ByteArray := prog_11_method_12_code
def yX9_takes : MethodName := ⟨RX9, "takes", "(Ljava/lang/String;)Z"⟩
abbrev cX9_passes : ByteArray := prog_11_method_13_code
def yX9_passes : MethodName := ⟨RX9, "passes", "(Ljava/lang/String;)V"⟩
abbrev cX9_number : ByteArray := prog_11_method_14_code
def yX9_number : MethodName := ⟨RX9, "number", "(II)I"⟩
abbrev cX9_falls : ByteArray := prog_11_method_15_code
def yX9_falls : MethodName := ⟨RX9, "falls", "()I"⟩
abbrev cX9_readKind : ByteArray := prog_11_method_16_code
def yX9_readKind : MethodName := ⟨RX9, "readKind", "()V"⟩
abbrev cX9_readSource : ByteArray := prog_11_method_17_code
def yX9_readSource : MethodName := ⟨RX9, "readSource", "()V"⟩
abbrev cX9_readSeed : ByteArray := prog_11_method_18_code
def yX9_readSeed : MethodName := ⟨RX9, "readSeed", "()V"⟩
abbrev cX9_readLine : ByteArray := prog_11_method_19_code
def yX9_readLine : MethodName := ⟨RX9, "readLine", "(I)V"⟩
abbrev cX9_scene : ByteArray := prog_11_method_20_code
def yX9_scene : MethodName := ⟨RX9, "scene", "()I"⟩
abbrev cX9_fault : ByteArray := prog_11_method_21_code
def yX9_fault : MethodName := ⟨RX9, "fault", "(I)I"⟩
abbrev cX9_count : ByteArray := prog_11_method_22_code
def yX9_count : MethodName := ⟨RX9, "count", "(I)I"⟩
abbrev cX9_kind : ByteArray := prog_11_method_23_code
def yX9_kind : MethodName := ⟨RX9, "kind", "(II)I"⟩
abbrev cX9_ofSource : ByteArray := prog_11_method_24_code
def yX9_ofSource : MethodName := ⟨RX9, "ofSource", "(II)I"⟩
abbrev cX9_groups : ByteArray := prog_11_method_25_code
def yX9_groups : MethodName := ⟨RX9, "groups", "(I)I"⟩
abbrev cX9_roots : ByteArray := prog_11_method_26_code
def yX9_roots : MethodName := ⟨RX9, "roots", "(I)I"⟩
abbrev cX9_source : ByteArray := prog_11_method_27_code
def yX9_source : MethodName := ⟨RX9, "source", "(II)I"⟩
abbrev cX9_keeps : ByteArray := prog_11_method_28_code
def yX9_keeps : MethodName := ⟨RX9, "keeps", "(II)V"⟩
abbrev cX9_seed : ByteArray := prog_11_method_29_code
def yX9_seed : MethodName := ⟨RX9, "seed", "(I)I"⟩
abbrev cX9_sets : ByteArray := prog_11_method_30_code
def yX9_sets : MethodName := ⟨RX9, "sets", "(III)I"⟩
abbrev cX9_undo : ByteArray := prog_11_method_31_code
def yX9_undo : MethodName := ⟨RX9, "undo", "()I"⟩
abbrev cX9_mixedOf : ByteArray := prog_11_method_32_code
def yX9_mixedOf : MethodName := ⟨RX9, "mixedOf", "(II)J"⟩
abbrev cX9_mixed : ByteArray := prog_11_method_33_code
def yX9_mixed : MethodName := ⟨RX9, "mixed", "(II)J"⟩
abbrev cX9_draw : ByteArray := prog_11_method_34_code
def yX9_draw : MethodName := ⟨RX9, "draw", "(III)I"⟩
abbrev cX9_first : ByteArray := prog_11_method_35_code
def yX9_first : MethodName := ⟨RX9, "first", "(I)I"⟩
abbrev cX9_second : ByteArray := prog_11_method_36_code
def yX9_second : MethodName := ⟨RX9, "second", "(I)I"⟩
abbrev cX9_hasChild : ByteArray := prog_11_method_37_code
def yX9_hasChild : MethodName := ⟨RX9, "hasChild", "(II)Z"⟩
abbrev cX9_isSpark : ByteArray := prog_11_method_38_code
def yX9_isSpark : MethodName := ⟨RX9, "isSpark", "(I)Z"⟩
abbrev cX9_raw : ByteArray := prog_11_method_39_code
def yX9_raw : MethodName := ⟨RX9, "raw", "(II)I"⟩
abbrev cX9_edge : ByteArray := prog_11_method_40_code
def yX9_edge : MethodName := ⟨RX9, "edge", "()I"⟩
abbrev cX9_world : ByteArray := prog_11_method_41_code
def yX9_world : MethodName := ⟨RX9, "world", "(I)I"⟩
abbrev cX9_placeBy : ByteArray := prog_11_method_42_code
def yX9_placeBy : MethodName := ⟨RX9, "placeBy", "(II)I"⟩
abbrev cX9_isBeyond : ByteArray := prog_11_method_43_code
def yX9_isBeyond : MethodName := ⟨RX9, "isBeyond", "(I)Z"⟩
abbrev cX9_laysOne : ByteArray := prog_11_method_44_code
def yX9_laysOne : MethodName := ⟨RX9, "laysOne", "(III)V"⟩
abbrev cX9_laysRoot : ByteArray := prog_11_method_45_code
def yX9_laysRoot : MethodName := ⟨RX9, "laysRoot", "(I)V"⟩
abbrev cX9_laysChild : ByteArray := prog_11_method_46_code
def yX9_laysChild : MethodName := ⟨RX9, "laysChild", "(I)V"⟩
abbrev cX9_lays : ByteArray := prog_11_method_47_code
def yX9_lays : MethodName := ⟨RX9, "lays", "(I)V"⟩
abbrev cX9_generation : ByteArray := prog_11_method_48_code
def yX9_generation : MethodName := ⟨RX9, "generation", "(I)I"⟩
abbrev cX9_is : ByteArray := prog_11_method_49_code
def yX9_is : MethodName := ⟨RX9, "is", "(I)I"⟩
abbrev cX9_kindOf : ByteArray := prog_11_method_50_code
def yX9_kindOf : MethodName := ⟨RX9, "kindOf", "(I)I"⟩
abbrev cX9_childOf : ByteArray := prog_11_method_51_code
def yX9_childOf : MethodName := ⟨RX9, "childOf", "(II)I"⟩
abbrev cX9_child : ByteArray := prog_11_method_52_code
def yX9_child : MethodName := ⟨RX9, "child", "(II)I"⟩
abbrev cX9_parentOf : ByteArray := prog_11_method_53_code
def yX9_parentOf : MethodName := ⟨RX9, "parentOf", "(I)I"⟩
abbrev cX9_parent : ByteArray := prog_11_method_54_code
def yX9_parent : MethodName := ⟨RX9, "parent", "(I)I"⟩
abbrev cX9_spark : ByteArray := prog_11_method_55_code
def yX9_spark : MethodName := ⟨RX9, "spark", "(II)I"⟩
abbrev cX9_isTick : ByteArray := prog_11_method_56_code
def yX9_isTick : MethodName := ⟨RX9, "isTick", "(I)Z"⟩
abbrev cX9_place : ByteArray := prog_11_method_57_code
def yX9_place : MethodName := ⟨RX9, "place", "(III)I"⟩
abbrev cX9_size : ByteArray := prog_11_method_58_code
def yX9_size : MethodName := ⟨RX9, "size", "(II)I"⟩
abbrev cX9_overAt : ByteArray := prog_11_method_59_code
def yX9_overAt : MethodName := ⟨RX9, "overAt", "(I)I"⟩
abbrev cX9_edges : ByteArray := prog_11_method_60_code
def yX9_edges : MethodName := ⟨RX9, "edges", "(I)I"⟩
abbrev cX9_over : ByteArray := prog_11_method_61_code
def yX9_over : MethodName := ⟨RX9, "over", "(I)I"⟩
abbrev cX9_cellBy : ByteArray := prog_11_method_62_code
def yX9_cellBy : MethodName := ⟨RX9, "cellBy", "(I)I"⟩
abbrev cX9_cellsOf : ByteArray := prog_11_method_63_code
def yX9_cellsOf : MethodName := ⟨RX9, "cellsOf", "(I)I"⟩
abbrev cX9_meets : ByteArray := prog_11_method_64_code
def yX9_meets : MethodName := ⟨RX9, "meets", "(II)I"⟩
abbrev cX9_reach : ByteArray := prog_11_method_65_code
def yX9_reach : MethodName := ⟨RX9, "reach", "(III)I"⟩
abbrev cX9_kin : ByteArray := prog_11_method_66_code
def yX9_kin : MethodName := ⟨RX9, "kin", "(II)I"⟩
abbrev cX9_line : ByteArray := prog_11_method_67_code
def yX9_line : MethodName := ⟨RX9, "line", "(II)I"⟩
abbrev cX9_isFrom : ByteArray := prog_11_method_68_code
def yX9_isFrom : MethodName := ⟨RX9, "isFrom", "(II)Z"⟩
abbrev cX9_firstGroup : ByteArray := prog_11_method_69_code
def yX9_firstGroup : MethodName := ⟨RX9, "firstGroup", "(II)I"⟩
abbrev cX9_isGroup : ByteArray := prog_11_method_70_code
def yX9_isGroup : MethodName := ⟨RX9, "isGroup", "(III)Z"⟩
abbrev cX9_comes : ByteArray := prog_11_method_71_code
def yX9_comes : MethodName := ⟨RX9, "comes", "(II)V"⟩
abbrev cX9_comesLine : ByteArray := prog_11_method_72_code
def yX9_comesLine : MethodName := ⟨RX9, "comesLine", "(II)V"⟩
abbrev cX9_sorts : ByteArray := prog_11_method_73_code
def yX9_sorts : MethodName := ⟨RX9, "sorts", "()V"⟩
abbrev cX9_gathers : ByteArray := prog_11_method_74_code
def yX9_gathers : MethodName := ⟨RX9, "gathers", "(I)V"⟩
abbrev cX9_laysFrame : ByteArray := prog_11_method_75_code
def yX9_laysFrame : MethodName := ⟨RX9, "laysFrame", "(I)V"⟩
abbrev cX9_codeAt : ByteArray := prog_11_method_76_code
def yX9_codeAt : MethodName := ⟨RX9, "codeAt", "(I)I"⟩
abbrev cX9_many : ByteArray := prog_11_method_77_code
def yX9_many : MethodName := ⟨RX9, "many", "(II)I"⟩
abbrev cX9_drawn : ByteArray := prog_11_method_78_code
def yX9_drawn : MethodName := ⟨RX9, "drawn", "(II)I"⟩
abbrev cX9_placeAt : ByteArray := prog_11_method_79_code
def yX9_placeAt : MethodName := ⟨RX9, "placeAt", "(III)I"⟩
abbrev cX9_digest : ByteArray := prog_11_method_80_code
def yX9_digest : MethodName := ⟨RX9, "digest", "(I)J"⟩
abbrev cX9_isColumn : ByteArray := prog_11_method_81_code
def yX9_isColumn : MethodName := ⟨RX9, "isColumn", "(II)Z"⟩
abbrev cX9_laysColumns : ByteArray := prog_11_method_82_code
def yX9_laysColumns : MethodName := ⟨RX9, "laysColumns", "(I)V"⟩
abbrev cX9_inColumn : ByteArray := prog_11_method_83_code
def yX9_inColumn : MethodName := ⟨RX9, "inColumn", "(III)I"⟩
abbrev cX9_topOf : ByteArray := prog_11_method_84_code
def yX9_topOf : MethodName := ⟨RX9, "topOf", "(II)I"⟩
abbrev cX9_top : ByteArray := prog_11_method_85_code
def yX9_top : MethodName := ⟨RX9, "top", "(III)I"⟩
abbrev cX9_fullest : ByteArray := prog_11_method_86_code
def yX9_fullest : MethodName := ⟨RX9, "fullest", "(II)I"⟩
abbrev cX9_isCell : ByteArray := prog_11_method_87_code
def yX9_isCell : MethodName := ⟨RX9, "isCell", "(III)Z"⟩
abbrev cX9_squares : ByteArray := prog_11_method_88_code
def yX9_squares : MethodName := ⟨RX9, "squares", "(IIIII)J"⟩
abbrev cX9_nearest : ByteArray := prog_11_method_89_code
def yX9_nearest : MethodName := ⟨RX9, "nearest", "(IIII)I"⟩
abbrev cX9_within : ByteArray := prog_11_method_90_code
def yX9_within : MethodName := ⟨RX9, "within", "(IIIII)I"⟩
abbrev cX9_laysHeaps : ByteArray := prog_11_method_91_code
def yX9_laysHeaps : MethodName := ⟨RX9, "laysHeaps", "(I)V"⟩
abbrev cX9_twos : ByteArray := prog_11_method_92_code
def yX9_twos : MethodName := ⟨RX9, "twos", "(I)J"⟩
abbrev cX9_firstIn : ByteArray := prog_11_method_93_code
def yX9_firstIn : MethodName := ⟨RX9, "firstIn", "(III)I"⟩
abbrev cX9_peak : ByteArray := prog_11_method_94_code
def yX9_peak : MethodName := ⟨RX9, "peak", "(III)I"⟩
abbrev cX9_box : ByteArray := prog_11_method_95_code
def yX9_box : MethodName := ⟨RX9, "box", "(II)I"⟩
abbrev cX9_middle : ByteArray := prog_11_method_96_code
def yX9_middle : MethodName := ⟨RX9, "middle", "(II)I"⟩
abbrev cX9_both : ByteArray := prog_11_method_97_code
def yX9_both : MethodName := ⟨RX9, "both", "(II)I"⟩
abbrev cX9_ofAge : ByteArray := prog_11_method_98_code
def yX9_ofAge : MethodName := ⟨RX9, "ofAge", "(III)I"⟩
abbrev cX9_flux : ByteArray := prog_11_method_99_code
def yX9_flux : MethodName := ⟨RX9, "flux", "(IIII)I"⟩
abbrev cX9_colours : ByteArray := prog_11_method_100_code
def yX9_colours : MethodName := ⟨RX9, "colours", "(II)I"⟩
abbrev cX9_columns : ByteArray := prog_11_method_101_code
def yX9_columns : MethodName := ⟨RX9, "columns", "(I)I"⟩
abbrev cX9_below : ByteArray := prog_11_method_102_code
def yX9_below : MethodName := ⟨RX9, "below", "(IIII)I"⟩
abbrev cX9_twins : ByteArray := prog_11_method_103_code
def yX9_twins : MethodName := ⟨RX9, "twins", "(I)I"⟩
abbrev cX9_isSpan : ByteArray := prog_11_method_104_code
def yX9_isSpan : MethodName := ⟨RX9, "isSpan", "(III)Z"⟩
abbrev cX9_bornOf : ByteArray := prog_11_method_105_code
def yX9_bornOf : MethodName := ⟨RX9, "bornOf", "(I)I"⟩
abbrev cX9_births : ByteArray := prog_11_method_106_code
def yX9_births : MethodName := ⟨RX9, "births", "(III)I"⟩
abbrev cX9_endings : ByteArray := prog_11_method_107_code
def yX9_endings : MethodName := ⟨RX9, "endings", "(II)I"⟩
abbrev cX9_endingsOf : ByteArray := prog_11_method_108_code
def yX9_endingsOf : MethodName := ⟨RX9, "endingsOf", "(III)I"⟩
abbrev cX9_bornIn : ByteArray := prog_11_method_109_code
def yX9_bornIn : MethodName := ⟨RX9, "bornIn", "(IIIZ)I"⟩
abbrev cX9_lastBirth : ByteArray := prog_11_method_110_code
def yX9_lastBirth : MethodName := ⟨RX9, "lastBirth", "(I)I"⟩
abbrev cX9_bornAs : ByteArray := prog_11_method_111_code
def yX9_bornAs : MethodName := ⟨RX9, "bornAs", "(II)I"⟩
abbrev cX9_latest : ByteArray := prog_11_method_112_code
def yX9_latest : MethodName := ⟨RX9, "latest", "(II)I"⟩
abbrev cX9_next : ByteArray := prog_11_method_113_code
def yX9_next : MethodName := ⟨RX9, "next", "(II)I"⟩
abbrev cX9_lull : ByteArray := prog_11_method_114_code
def yX9_lull : MethodName := ⟨RX9, "lull", "(IIII)I"⟩
abbrev cX9_says : ByteArray := prog_11_method_115_code
def yX9_says : MethodName := ⟨RX9, "says", "(I)V"⟩
abbrev cX9_saysNumber : ByteArray := prog_11_method_116_code
def yX9_saysNumber : MethodName := ⟨RX9, "saysNumber", "(I)V"⟩
abbrev cX9_picture : ByteArray := prog_11_method_117_code
def yX9_picture : MethodName := ⟨RX9, "picture", "(I)I"⟩
abbrev cX9_layer : ByteArray := prog_11_method_118_code
def yX9_layer : MethodName := ⟨RX9, "layer", "(II)I"⟩
abbrev cX9_tell : ByteArray := prog_11_method_119_code
def yX9_tell : MethodName := ⟨RX9, "tell", "(I)I"⟩
abbrev cX9_octet : ByteArray := prog_11_method_120_code
def yX9_octet : MethodName := ⟨RX9, "octet", "(I)I"⟩
def RJx145de : String := "java/io/Serializable"
def TJx145de : u_T := fun k => match k with
  | _ => ("", "", "", false)
def tyJx145de : Nat → FieldType := fun k => match k with
  | _ => .int
abbrev wsJx145de0 : List Cond := u_ws RJx145de TJx145de 0
theorem nmJx145de : ∀ a, a < 0 → ∀ b, b < 0 → a ≠ b → (TJx145de a).2.1 ≠ (TJx145de b).2.1 := by decide +kernel
theorem tyJx145de_ok : ∀ k, k < 0 → parseFieldDescriptor (TJx145de k).2.2.1 = some (tyJx145de k) := by decide +kernel
def RJx9f9b0 : String := "java/lang/CharSequence"
def TJx9f9b0 : u_T := fun k => match k with
  | _ => ("", "", "", false)
def tyJx9f9b0 : Nat → FieldType := fun k => match k with
  | _ => .int
abbrev wsJx9f9b00 : List Cond := u_ws RJx9f9b0 TJx9f9b0 0
theorem nmJx9f9b0 : ∀ a, a < 0 → ∀ b, b < 0 → a ≠ b → (TJx9f9b0 a).2.1 ≠ (TJx9f9b0 b).2.1 := by decide +kernel
theorem tyJx9f9b0_ok : ∀ k, k < 0 → parseFieldDescriptor (TJx9f9b0 k).2.2.1 = some (tyJx9f9b0 k) := by decide +kernel
def RJx8e188 : String := "java/lang/Cloneable"
def TJx8e188 : u_T := fun k => match k with
  | _ => ("", "", "", false)
def tyJx8e188 : Nat → FieldType := fun k => match k with
  | _ => .int
abbrev wsJx8e1880 : List Cond := u_ws RJx8e188 TJx8e188 0
theorem nmJx8e188 : ∀ a, a < 0 → ∀ b, b < 0 → a ≠ b → (TJx8e188 a).2.1 ≠ (TJx8e188 b).2.1 := by decide +kernel
theorem tyJx8e188_ok : ∀ k, k < 0 → parseFieldDescriptor (TJx8e188 k).2.2.1 = some (tyJx8e188 k) := by decide +kernel
def RJxb160c : String := "java/lang/Comparable"
def TJxb160c : u_T := fun k => match k with
  | _ => ("", "", "", false)
def tyJxb160c : Nat → FieldType := fun k => match k with
  | _ => .int
abbrev wsJxb160c0 : List Cond := u_ws RJxb160c TJxb160c 0
theorem nmJxb160c : ∀ a, a < 0 → ∀ b, b < 0 → a ≠ b → (TJxb160c a).2.1 ≠ (TJxb160c b).2.1 := by decide +kernel
theorem tyJxb160c_ok : ∀ k, k < 0 → parseFieldDescriptor (TJxb160c k).2.2.1 = some (tyJxb160c k) := by decide +kernel
def RJ9 : String := "java/lang/Math"
def TJ9 : u_T := fun k => match k with
  | _ => ("", "", "", false)
def tyJ9 : Nat → FieldType := fun k => match k with
  | _ => .int
abbrev wsJ90 : List Cond := u_ws RJ9 TJ9 0
theorem nmJ9 : ∀ a, a < 0 → ∀ b, b < 0 → a ≠ b → (TJ9 a).2.1 ≠ (TJ9 b).2.1 := by decide +kernel
theorem tyJ9_ok : ∀ k, k < 0 → parseFieldDescriptor (TJ9 k).2.2.1 = some (tyJ9 k) := by decide +kernel
abbrev cJ9_floorDiv_7cf53 : ByteArray := prog_13_method_47_code
def yJ9_floorDiv_7cf53 : MethodName := ⟨RJ9, "floorDiv", "(II)I"⟩
abbrev cJ9_floorMod_7cf53 : ByteArray := prog_13_method_50_code
def yJ9_floorMod_7cf53 : MethodName := ⟨RJ9, "floorMod", "(II)I"⟩
abbrev cJ9_abs_0f7a4 : ByteArray := prog_13_method_59_code
def yJ9_abs_0f7a4 : MethodName := ⟨RJ9, "abs", "(I)I"⟩
abbrev cJ9_max_7cf53 : ByteArray := prog_13_method_65_code
def yJ9_max_7cf53 : MethodName := ⟨RJ9, "max", "(II)I"⟩
abbrev cJ9_min_7cf53 : ByteArray := prog_13_method_69_code
def yJ9_min_7cf53 : MethodName := ⟨RJ9, "min", "(II)I"⟩
def RJ0 : String := "java/lang/String"
def TJ0 : u_T := fun k => match k with
  | _ => ("", "", "", false)
def tyJ0 : Nat → FieldType := fun k => match k with
  | _ => .int
abbrev wsJ00 : List Cond := u_ws RJ0 TJ0 0
theorem nmJ0 : ∀ a, a < 0 → ∀ b, b < 0 → a ≠ b → (TJ0 a).2.1 ≠ (TJ0 b).2.1 := by decide +kernel
theorem tyJ0_ok : ∀ k, k < 0 → parseFieldDescriptor (TJ0 k).2.2.1 = some (tyJ0 k) := by decide +kernel
abbrev cJ0_length_8abf5 : ByteArray := prog_14_method_54_code
def yJ0_length_8abf5 : MethodName := ⟨RJ0, "length", "()I"⟩
abbrev cJ0_charAt_5068e : ByteArray := prog_14_method_56_code
def yJ0_charAt_5068e : MethodName := ⟨RJ0, "charAt", "(I)C"⟩
abbrev cJ0_coder_7d493 : ByteArray := prog_14_method_152_code
def yJ0_coder_7d493 : MethodName := ⟨RJ0, "coder", "()B"⟩
abbrev cJ0_isLatin1_aae02 : ByteArray := prog_14_method_154_code
def yJ0_isLatin1_aae02 : MethodName := ⟨RJ0, "isLatin1", "()Z"⟩
abbrev cJ0_checkIndex_df160 : ByteArray := prog_14_method_155_code
def yJ0_checkIndex_df160 : MethodName := ⟨RJ0, "checkIndex", "(II)V"⟩
def RJ1 : String := "java/lang/StringLatin1"
def TJ1 : u_T := fun k => match k with
  | _ => ("", "", "", false)
def tyJ1 : Nat → FieldType := fun k => match k with
  | _ => .int
abbrev wsJ10 : List Cond := u_ws RJ1 TJ1 0
theorem nmJ1 : ∀ a, a < 0 → ∀ b, b < 0 → a ≠ b → (TJ1 a).2.1 ≠ (TJ1 b).2.1 := by decide +kernel
theorem tyJ1_ok : ∀ k, k < 0 → parseFieldDescriptor (TJ1 k).2.2.1 = some (tyJ1 k) := by decide +kernel
abbrev cJ1_charAt_3b067 : ByteArray := prog_15_method_2_code
def yJ1_charAt_3b067 : MethodName := ⟨RJ1, "charAt", "([BI)C"⟩
def RJ2 : String := "java/lang/StringUTF16"
def TJ2 : u_T := fun k => match k with
  | _ => ("", "", "", false)
def tyJ2 : Nat → FieldType := fun k => match k with
  | _ => .int
abbrev wsJ20 : List Cond := u_ws RJ2 TJ2 0
theorem nmJ2 : ∀ a, a < 0 → ∀ b, b < 0 → a ≠ b → (TJ2 a).2.1 ≠ (TJ2 b).2.1 := by decide +kernel
theorem tyJ2_ok : ∀ k, k < 0 → parseFieldDescriptor (TJ2 k).2.2.1 = some (tyJ2 k) := by decide +kernel
abbrev cJ2_getChar_3b067 : ByteArray := prog_16_method_5_code
def yJ2_getChar_3b067 : MethodName := ⟨RJ2, "getChar", "([BI)C"⟩
abbrev cJ2_length_9d52b : ByteArray := prog_16_method_6_code
def yJ2_length_9d52b : MethodName := ⟨RJ2, "length", "([B)I"⟩
abbrev cJ2_charAt_3b067 : ByteArray := prog_16_method_83_code
def yJ2_charAt_3b067 : MethodName := ⟨RJ2, "charAt", "([BI)C"⟩
abbrev cJ2_checkIndex_2214a : ByteArray := prog_16_method_91_code
def yJ2_checkIndex_2214a : MethodName := ⟨RJ2, "checkIndex", "(I[B)V"⟩
def RJ10 : String := "java/lang/System"
def TJ10 : u_T := fun k => match k with
  | _ => ("", "", "", false)
def tyJ10 : Nat → FieldType := fun k => match k with
  | _ => .int
abbrev wsJ100 : List Cond := u_ws RJ10 TJ10 0
theorem nmJ10 : ∀ a, a < 0 → ∀ b, b < 0 → a ≠ b → (TJ10 a).2.1 ≠ (TJ10 b).2.1 := by decide +kernel
theorem tyJ10_ok : ∀ k, k < 0 → parseFieldDescriptor (TJ10 k).2.2.1 = some (tyJ10 k) := by decide +kernel
def RJxfd54e : String := "java/lang/constant/Constable"
def TJxfd54e : u_T := fun k => match k with
  | _ => ("", "", "", false)
def tyJxfd54e : Nat → FieldType := fun k => match k with
  | _ => .int
abbrev wsJxfd54e0 : List Cond := u_ws RJxfd54e TJxfd54e 0
theorem nmJxfd54e : ∀ a, a < 0 → ∀ b, b < 0 → a ≠ b → (TJxfd54e a).2.1 ≠ (TJxfd54e b).2.1 := by decide +kernel
theorem tyJxfd54e_ok : ∀ k, k < 0 → parseFieldDescriptor (TJxfd54e k).2.2.1 = some (tyJxfd54e k) := by decide +kernel
def RJx3cf43 : String := "java/lang/constant/ConstantDesc"
def TJx3cf43 : u_T := fun k => match k with
  | _ => ("", "", "", false)
def tyJx3cf43 : Nat → FieldType := fun k => match k with
  | _ => .int
abbrev wsJx3cf430 : List Cond := u_ws RJx3cf43 TJx3cf43 0
theorem nmJx3cf43 : ∀ a, a < 0 → ∀ b, b < 0 → a ≠ b → (TJx3cf43 a).2.1 ≠ (TJx3cf43 b).2.1 := by decide +kernel
theorem tyJx3cf43_ok : ∀ k, k < 0 → parseFieldDescriptor (TJx3cf43 k).2.2.1 = some (tyJx3cf43 k) := by decide +kernel
def RJ7 : String := "java/util/Arrays"
def TJ7 : u_T := fun k => match k with
  | _ => ("", "", "", false)
def tyJ7 : Nat → FieldType := fun k => match k with
  | _ => .int
abbrev wsJ70 : List Cond := u_ws RJ7 TJ7 0
theorem nmJ7 : ∀ a, a < 0 → ∀ b, b < 0 → a ≠ b → (TJ7 a).2.1 ≠ (TJ7 b).2.1 := by decide +kernel
theorem tyJ7_ok : ∀ k, k < 0 → parseFieldDescriptor (TJ7 k).2.2.1 = some (tyJ7 k) := by decide +kernel
abbrev cJ7_fill_53178 : ByteArray := prog_18_method_103_code
def yJ7_fill_53178 : MethodName := ⟨RJ7, "fill", "([II)V"⟩
abbrev cJ7_copyOf_59c91 : ByteArray := prog_18_method_123_code
def yJ7_copyOf_59c91 : MethodName := ⟨RJ7, "copyOf", "([II)[I"⟩
def RJ3 : String := "jdk/internal/util/Preconditions"
def TJ3 : u_T := fun k => match k with
  | _ => ("", "", "", false)
def tyJ3 : Nat → FieldType := fun k => match k with
  | _ => .int
abbrev wsJ30 : List Cond := u_ws RJ3 TJ3 0
theorem nmJ3 : ∀ a, a < 0 → ∀ b, b < 0 → a ≠ b → (TJ3 a).2.1 ≠ (TJ3 b).2.1 := by decide +kernel
theorem tyJ3_ok : ∀ k, k < 0 → parseFieldDescriptor (TJ3 k).2.2.1 = some (tyJ3 k) := by decide +kernel
abbrev cJ3_checkIndex_8e157 : ByteArray := prog_19_method_11_code
def yJ3_checkIndex_8e157 : MethodName := ⟨RJ3, "checkIndex", "(IILjava/util/function/BiFunction;)I"⟩
def RL : String := "NumberedSparksLaw"
abbrev cL_law : ByteArray := code
def yL_law : MethodName := ⟨RL, "law", "([I)Z"⟩
end
section
/-! ===== AM: an abstract memory of numbered cells, the machine's heap as its picture ===== -/
abbrev am_M : Type := Nat × Nat × (Nat → Nat × Nat) × (Nat → Nat → Int32) × (Nat → Nat → Int64) × (Nat → Nat → Option Nat)
abbrev am_R : Type := Option (Option Value × am_M)
def mNx (M : am_M) : Nat := M.1
def mUs (M : am_M) : Nat := M.2.1
def mSh (M : am_M) (a : Nat) : Nat × Nat := M.2.2.1 a
def mKd (M : am_M) (a : Nat) : Nat := if a < mNx M then (mSh M a).1 else 999
def mLn (M : am_M) (a : Nat) : Nat := (mSh M a).2
def rI (M : am_M) (a k : Nat) : Int32 := M.2.2.2.1 a k
def rL (M : am_M) (a k : Nat) : Int64 := M.2.2.2.2.1 a k
def rR (M : am_M) (a k : Nat) : Option Nat := M.2.2.2.2.2 a k
def am_up {α : Type} (f : Nat → Nat → α) (a k : Nat) (v : α) : Nat → Nat → α := fun b j => if b = a ∧ j = k then v else f b j
def wI (M : am_M) (a k : Nat) (v : Int32) : am_M := (M.1, M.2.1, M.2.2.1, am_up M.2.2.2.1 a k v, M.2.2.2.2.1, M.2.2.2.2.2)
def wL (M : am_M) (a k : Nat) (v : Int64) : am_M := (M.1, M.2.1, M.2.2.1, M.2.2.2.1, am_up M.2.2.2.2.1 a k v, M.2.2.2.2.2)
def wR (M : am_M) (a k : Nat) (v : Option Nat) : am_M := (M.1, M.2.1, M.2.2.1, M.2.2.2.1, M.2.2.2.2.1, am_up M.2.2.2.2.2 a k v)
def mkC (M : am_M) (t n : Nat) : am_M := (M.1 + 1, M.2.1 + n, fun b => if b = M.1 then (t, n) else M.2.2.1 b, fun b j => if b = M.1 then 0 else M.2.2.2.1 b j, fun b j => if b = M.1 then 0 else M.2.2.2.2.1 b j, fun b j => if b = M.1 then none else M.2.2.2.2.2 b j)
def cpI (M : am_M) (a0 sp a1 dp n : Nat) : am_M := (M.1, M.2.1, M.2.2.1, fun b => if b = a1 then va_cpy (M.2.2.2.1 a0) (M.2.2.2.1 a1) sp dp n else M.2.2.2.1 b, M.2.2.2.2.1, M.2.2.2.2.2)
/-! reading behind writing -/
theorem rI_wI (M : am_M) (a k : Nat) (v : Int32) (b j : Nat) : rI (wI M a k v) b j = if b = a ∧ j = k then v else rI M b j := rfl
theorem rL_wL (M : am_M) (a k : Nat) (v : Int64) (b j : Nat) : rL (wL M a k v) b j = if b = a ∧ j = k then v else rL M b j := rfl
theorem rR_wR (M : am_M) (a k : Nat) (v : Option Nat) (b j : Nat) : rR (wR M a k v) b j = if b = a ∧ j = k then v else rR M b j := rfl
theorem rL_wI (M : am_M) (a k : Nat) (v : Int32) (b j : Nat) : rL (wI M a k v) b j = rL M b j := rfl
theorem rR_wI (M : am_M) (a k : Nat) (v : Int32) (b j : Nat) : rR (wI M a k v) b j = rR M b j := rfl
theorem rI_wL (M : am_M) (a k : Nat) (v : Int64) (b j : Nat) : rI (wL M a k v) b j = rI M b j := rfl
theorem rR_wL (M : am_M) (a k : Nat) (v : Int64) (b j : Nat) : rR (wL M a k v) b j = rR M b j := rfl
theorem rI_wR (M : am_M) (a k : Nat) (v : Option Nat) (b j : Nat) : rI (wR M a k v) b j = rI M b j := rfl
theorem rL_wR (M : am_M) (a k : Nat) (v : Option Nat) (b j : Nat) : rL (wR M a k v) b j = rL M b j := rfl
theorem mKd_wI (M : am_M) (a k : Nat) (v : Int32) (b : Nat) : mKd (wI M a k v) b = mKd M b := rfl
theorem mKd_wL (M : am_M) (a k : Nat) (v : Int64) (b : Nat) : mKd (wL M a k v) b = mKd M b := rfl
theorem mKd_wR (M : am_M) (a k : Nat) (v : Option Nat) (b : Nat) : mKd (wR M a k v) b = mKd M b := rfl
theorem mLn_wI (M : am_M) (a k : Nat) (v : Int32) (b : Nat) : mLn (wI M a k v) b = mLn M b := rfl
theorem mLn_wL (M : am_M) (a k : Nat) (v : Int64) (b : Nat) : mLn (wL M a k v) b = mLn M b := rfl
theorem mLn_wR (M : am_M) (a k : Nat) (v : Option Nat) (b : Nat) : mLn (wR M a k v) b = mLn M b := rfl
theorem mNx_wI (M : am_M) (a k : Nat) (v : Int32) : mNx (wI M a k v) = mNx M := rfl
theorem mNx_wL (M : am_M) (a k : Nat) (v : Int64) : mNx (wL M a k v) = mNx M := rfl
theorem mNx_wR (M : am_M) (a k : Nat) (v : Option Nat) : mNx (wR M a k v) = mNx M := rfl
theorem mUs_wI (M : am_M) (a k : Nat) (v : Int32) : mUs (wI M a k v) = mUs M := rfl
theorem mUs_wL (M : am_M) (a k : Nat) (v : Int64) : mUs (wL M a k v) = mUs M := rfl
theorem mUs_wR (M : am_M) (a k : Nat) (v : Option Nat) : mUs (wR M a k v) = mUs M := rfl
theorem mNx_mkC (M : am_M) (t n : Nat) : mNx (mkC M t n) = mNx M + 1 := rfl
theorem mUs_mkC (M : am_M) (t n : Nat) : mUs (mkC M t n) = mUs M + n := rfl
theorem rI_mkC (M : am_M) (t n b j : Nat) : rI (mkC M t n) b j = if b = mNx M then 0 else rI M b j := rfl
theorem rL_mkC (M : am_M) (t n b j : Nat) : rL (mkC M t n) b j = if b = mNx M then 0 else rL M b j := rfl
theorem rR_mkC (M : am_M) (t n b j : Nat) : rR (mkC M t n) b j = if b = mNx M then none else rR M b j := rfl
theorem mLn_mkC (M : am_M) (t n b : Nat) : mLn (mkC M t n) b = if b = mNx M then n else mLn M b := by
  unfold mLn mSh mkC mNx
  by_cases h : b = M.1 <;> simp [h]
theorem mKd_mkC (M : am_M) (t n b : Nat) : mKd (mkC M t n) b = if b = mNx M then t else mKd M b := by
  unfold mKd
  rw [mNx_mkC]
  by_cases h : b = mNx M
  · subst h
    simp [mSh, mkC, mNx]
  · by_cases h2 : b < mNx M
    · rw [if_pos (by omega), if_neg h, if_pos h2]
      show (if b = M.1 then (t, n) else M.2.2.1 b).1 = (M.2.2.1 b).1
      rw [if_neg (show ¬ b = M.1 from h)]
    · rw [if_neg (by omega), if_neg h, if_neg h2]
theorem mKd_cpI (M : am_M) (a0 sp a1 dp n b : Nat) : mKd (cpI M a0 sp a1 dp n) b = mKd M b := rfl
theorem mLn_cpI (M : am_M) (a0 sp a1 dp n b : Nat) : mLn (cpI M a0 sp a1 dp n) b = mLn M b := rfl
theorem mNx_cpI (M : am_M) (a0 sp a1 dp n : Nat) : mNx (cpI M a0 sp a1 dp n) = mNx M := rfl
theorem mUs_cpI (M : am_M) (a0 sp a1 dp n : Nat) : mUs (cpI M a0 sp a1 dp n) = mUs M := rfl
theorem rL_cpI (M : am_M) (a0 sp a1 dp n b j : Nat) : rL (cpI M a0 sp a1 dp n) b j = rL M b j := rfl
theorem rR_cpI (M : am_M) (a0 sp a1 dp n b j : Nat) : rR (cpI M a0 sp a1 dp n) b j = rR M b j := rfl
theorem rI_cpI (M : am_M) (a0 sp a1 dp n b j : Nat) : rI (cpI M a0 sp a1 dp n) b j = if b = a1 ∧ dp ≤ j ∧ j < dp + n then rI M a0 (sp + (j - dp)) else rI M b j := by
  unfold rI cpI va_cpy
  by_cases h : b = a1
  · subst h
    by_cases h2 : dp ≤ j ∧ j < dp + n <;> simp [h2]
  · simp [h]
/-! the steps that a walked method is printed in -/
def nm {α β : Type} (x : α) (f : α → β) : β := f x
def fI (M : am_M) (a t k : Nat) (f : Int32 → am_R) : am_R := if mKd M a = t then f (rI M a k) else none
def fL (M : am_M) (a t k : Nat) (f : Int64 → am_R) : am_R := if mKd M a = t then f (rL M a k) else none
def fR (M : am_M) (a t k : Nat) (f : Nat → am_R) : am_R := if mKd M a = t then (match rR M a k with | some b => f b | none => none) else none
def sI (M : am_M) (a t k : Nat) (v : Int32) (f : am_M → am_R) : am_R := if mKd M a = t then f (wI M a k v) else none
def sR (M : am_M) (a t k v : Nat) (f : am_M → am_R) : am_R := if mKd M a = t then f (wR M a k (some v)) else none
def aI (M : am_M) (b : Nat) (i : Int32) (f : Int32 → am_R) : am_R := if mKd M b = 0 ∧ ¬ (i < 0 ∨ mLn M b ≤ i.toNatClampNeg) then f (rI M b i.toNatClampNeg) else none
def aL (M : am_M) (b : Nat) (i : Int32) (f : Int64 → am_R) : am_R := if mKd M b = 1 ∧ ¬ (i < 0 ∨ mLn M b ≤ i.toNatClampNeg) then f (rL M b i.toNatClampNeg) else none
def aB (M : am_M) (b : Nat) (i : Int32) (f : Int32 → am_R) : am_R := if mKd M b = 2 ∧ ¬ (i < 0 ∨ mLn M b ≤ i.toNatClampNeg) then f (rI M b i.toNatClampNeg) else none
def aR (M : am_M) (b : Nat) (i : Int32) (f : Nat → am_R) : am_R := if mKd M b = 3 ∧ ¬ (i < 0 ∨ mLn M b ≤ i.toNatClampNeg) then (match rR M b i.toNatClampNeg with | some x => f x | none => none) else none
def tI (M : am_M) (b : Nat) (i v : Int32) (f : am_M → am_R) : am_R := if mKd M b = 0 ∧ ¬ (i < 0 ∨ mLn M b ≤ i.toNatClampNeg) then f (wI M b i.toNatClampNeg v) else none
def tL (M : am_M) (b : Nat) (i : Int32) (v : Int64) (f : am_M → am_R) : am_R := if mKd M b = 1 ∧ ¬ (i < 0 ∨ mLn M b ≤ i.toNatClampNeg) then f (wL M b i.toNatClampNeg v) else none
def tB (M : am_M) (b : Nat) (i v : Int32) (f : am_M → am_R) : am_R := if mKd M b = 2 ∧ ¬ (i < 0 ∨ mLn M b ≤ i.toNatClampNeg) then f (wI M b i.toNatClampNeg v.toInt8.toInt32) else none
def tR (M : am_M) (b : Nat) (i : Int32) (t v : Nat) (f : am_M → am_R) : am_R := if mKd M b = 3 ∧ mKd M v = t ∧ ¬ (i < 0 ∨ mLn M b ≤ i.toNatClampNeg) then f (wR M b i.toNatClampNeg (some v)) else none
def aN (M : am_M) (b : Nat) (f : Int32 → am_R) : am_R := if mKd M b < 4 then f (Int32.ofNat (mLn M b)) else none
def nO (M : am_M) (t n : Nat) (f : Nat → am_M → am_R) : am_R := f (mNx M) (mkC M t n)
def nA (M : am_M) (t : Nat) (n : Int32) (f : Nat → am_M → am_R) : am_R := if ¬ n < 0 ∧ n.toNatClampNeg * 8 ≤ 536870912 then f (mNx M) (mkC M t n.toNatClampNeg) else none
def dZ (y : Int32) (r : am_R) : am_R := if y = 0 then none else r
def dZL (y : Int64) (r : am_R) : am_R := if y = 0 then none else r
def cv (M : am_M) (b t : Nat) (r : am_R) : am_R := if mKd M b = t then r else none
def bV (x : am_R) (f : am_M → am_R) : am_R := match x with
  | some (none, M) => f M
  | _ => none
def bI (x : am_R) (f : Int32 → am_M → am_R) : am_R := match x with
  | some (some (.int r), M) => f r M
  | _ => none
def bL (x : am_R) (f : Int64 → am_M → am_R) : am_R := match x with
  | some (some (.long r), M) => f r M
  | _ => none
def bR (x : am_R) (fn : am_M → am_R) (f : Nat → am_M → am_R) : am_R := match x with
  | some (some .null, M) => fn M
  | some (some (.ref b), M) => f b M
  | _ => none
/-- fuel of loops: more than any loop here needs; nothing unfolds it -/
noncomputable def fu : Nat := Classical.choose (⟨100000000, Nat.le_refl _⟩ : ∃ n : Nat, 100000000 ≤ n)
theorem fu_ge : 100000000 ≤ fu := Classical.choose_spec (⟨100000000, Nat.le_refl _⟩ : ∃ n : Nat, 100000000 ≤ n)
/-! ===== the classes, by their numbers ===== -/
abbrev am_cl : List vw_C := [(RX0, TX0, 4), (RX1, TX1, 13), (RX2, TX2, 4), (RX3, TX3, 2), (RX4, TX4, 9), (RX5, TX5, 8), (RX6, TX6, 10), (RX7, TX7, 9), (RX8, TX8, 11), (RX9, TX9, 42)]
/-- what a field holds: 0 a number of 32 bits, 1 of 64, 2 a reference -/
def am_fts : Nat → List Nat := fun c => match c with
  | 0 => [2, 2, 2, 2]
  | 1 => [2, 2, 0, 2, 2, 2, 2, 2, 2, 2, 2, 2, 0]
  | 2 => [2, 2, 2, 0]
  | 3 => [2, 0]
  | 4 => [2, 0, 0, 2, 0, 0, 0, 0, 0]
  | 5 => [2, 2, 2, 0, 0, 0, 0, 0]
  | 6 => [2, 2, 2, 0, 0, 0, 0, 0, 0, 0]
  | 7 => [2, 2, 2, 2, 2, 2, 0, 0, 0]
  | 8 => [2, 0, 2, 2, 2, 2, 2, 2, 2, 2, 2]
  | 9 => [0, 0, 2, 0, 0, 2, 0, 2, 2, 0, 0, 2, 0, 2, 2, 0, 0, 0, 0, 0, 0, 0, 0, 0, 0, 2, 2, 0, 0, 0, 2, 2, 2, 2, 0, 2, 2, 2, 2, 0, 2, 0]
  | _ => []
def am_ft (c k : Nat) : Nat := (am_fts c).getD k 0
def am_nf (c : Nat) : Nat := (am_fts c).length
end
section
/-! ===== the picture: what the machine's heap holds of a memory ===== -/
abbrev am_G : Type := Nat × va_G × (Nat → ClassId) × (Nat → Value)
def gB (G : am_G) : Nat := G.1
def gD (G : am_G) : va_G := G.2.1
def gC (G : am_G) : Nat → ClassId := G.2.2.1
def gS (G : am_G) : Nat → Value := G.2.2.2
def gA (G : am_G) : Nat → Prop := fun q => gB G ≤ q
def rv (G : am_G) : Value → Value
  | .ref n => .ref (gB G + n)
  | .retAddr k => gS G k
  | v => v
def am_fv (G : am_G) (M : am_M) (n c k : Nat) : Value := match am_ft c k with
  | 0 => .int (rI M n k)
  | 1 => .long (rL M n k)
  | _ => va_rf ((rR M n k).map (gB G + ·))
def am_fs (G : am_G) (M : am_M) (n c : Nat) : List Value := (List.range (am_nf c)).map (am_fv G M n c)
def am_cell (G : am_G) (M : am_M) (n : Nat) : va_E := match mKd M n with
  | 0 => .inl (gC G 0, mLn M n, .inl (rI M n))
  | 1 => .inl (gC G 1, mLn M n, .inr (.inl (rL M n)))
  | 2 => .inl (gC G 2, mLn M n, .inl (rI M n))
  | 3 => .inl (gC G 3, mLn M n, .inr (.inr (.inr (.inr fun j => (rR M n j).map (gB G + ·)))))
  | c + 4 => .inr (c, am_fs G M n c)
def am_wd (G : am_G) (M : am_M) : va_W := (List.range (mNx M)).map fun n => (gB G + n, am_cell G M n)
def am_Hp (G : am_G) (M : am_M) (H : Heap) : Prop := H.size = gB G + mNx M ∧ va_P (gD G) am_cl (am_wd G M) H
theorem wd_at {G : am_G} {M : am_M} {n : Nat} (h : n < mNx M) : (am_wd G M)[n]? = some (gB G + n, am_cell G M n) := by simp [am_wd, h]
theorem wd_of {G : am_G} {M : am_M} {k : Nat} {q : Nat × va_E} (h : (am_wd G M)[k]? = some q) : k < mNx M ∧ q = (gB G + k, am_cell G M k) := by
  have hk : k < mNx M := by
    have := (List.getElem?_eq_some_iff.mp h).1
    simpa [am_wd] using this
  rw [wd_at hk] at h
  exact ⟨hk, (Option.some.inj h).symm⟩
theorem wd_D (G : am_G) (M : am_M) : va_D (gA G) (am_wd G M) := by
  refine ⟨fun i j p q hi hj e => ?_, fun k q hk => ?_⟩
  · obtain ⟨-, rfl⟩ := wd_of hi
    obtain ⟨-, rfl⟩ := wd_of hj
    dsimp only at e
    omega
  · obtain ⟨-, rfl⟩ := wd_of hk
    exact Nat.le_add_right _ _
theorem kd_lt {M : am_M} {a t : Nat} (h : mKd M a = t) (ht : t ≠ 999 := by decide) : a < mNx M := by
  unfold mKd at h
  by_cases hl : a < mNx M
  · exact hl
  · rw [if_neg hl] at h
    exact absurd h.symm ht
theorem wd_set {G : am_G} {M M' : am_M} {n : Nat} {e : va_E} (hx : mNx M' = mNx M) (ho : ∀ j, j ≠ n → am_cell G M' j = am_cell G M j) (he : am_cell G M' n = e) : (am_wd G M).set n (gB G + n, e) = am_wd G M' := by
  apply List.ext_getElem?
  intro j
  rw [List.getElem?_set]
  by_cases hj : n = j
  · subst hj
    rw [if_pos rfl]
    by_cases hn : n < mNx M
    · rw [if_pos (by simpa [am_wd] using hn), wd_at (by rw [hx]; exact hn), he]
    · rw [if_neg (by simpa [am_wd] using hn)]
      exact (List.getElem?_eq_none (by simp [am_wd, hx]; omega)).symm
  · rw [if_neg hj]
    by_cases hn : j < mNx M
    · rw [wd_at hn, wd_at (by rw [hx]; exact hn), ho j (fun q => hj q.symm)]
    · rw [List.getElem?_eq_none (by simp [am_wd]; omega), List.getElem?_eq_none (by simp [am_wd, hx]; omega)]
theorem am_range_set {α : Type} {N k : Nat} {f g : Nat → α} {v : α} (hg : g k = v) (ho : ∀ j, j ≠ k → g j = f j) : ((List.range N).map f).set k v = (List.range N).map g := by
  apply List.ext_getElem?
  intro j
  rw [List.getElem?_set]
  by_cases hj : k = j
  · subst hj
    rw [if_pos rfl]
    by_cases hn : k < N
    · rw [if_pos (by simpa using hn)]
      simp [hn, hg]
    · rw [if_neg (by simpa using hn)]
      exact (List.getElem?_eq_none (by simp; omega)).symm
  · rw [if_neg hj]
    by_cases hn : j < N
    · simp [hn, ho j (fun q => hj q.symm)]
    · rw [List.getElem?_eq_none (by simp; omega), List.getElem?_eq_none (by simp; omega)]
/-! cells behind a write -/
theorem cell_obj {G : am_G} {M : am_M} {a c : Nat} (h : mKd M a = c + 4) : am_cell G M a = .inr (c, am_fs G M a c) := by
  unfold am_cell
  rw [h]
theorem cell_I {G : am_G} {M : am_M} {a : Nat} (h : mKd M a = 0) : am_cell G M a = .inl (gC G 0, mLn M a, .inl (rI M a)) := by
  unfold am_cell
  rw [h]
theorem cell_L {G : am_G} {M : am_M} {a : Nat} (h : mKd M a = 1) : am_cell G M a = .inl (gC G 1, mLn M a, .inr (.inl (rL M a))) := by
  unfold am_cell
  rw [h]
theorem cell_B {G : am_G} {M : am_M} {a : Nat} (h : mKd M a = 2) : am_cell G M a = .inl (gC G 2, mLn M a, .inl (rI M a)) := by
  unfold am_cell
  rw [h]
theorem cell_R {G : am_G} {M : am_M} {a : Nat} (h : mKd M a = 3) : am_cell G M a = .inl (gC G 3, mLn M a, .inr (.inr (.inr (.inr fun j => (rR M a j).map (gB G + ·))))) := by
  unfold am_cell
  rw [h]
theorem cell_same {G : am_G} {M M' : am_M} {j : Nat} (hk : mKd M' j = mKd M j) (hl : mLn M' j = mLn M j) (h1 : rI M' j = rI M j) (h2 : rL M' j = rL M j) (h3 : rR M' j = rR M j) : am_cell G M' j = am_cell G M j := by
  unfold am_cell am_fs am_fv
  rw [hk, hl, h1, h2, h3]
theorem rI_wI_ne {M : am_M} {a k : Nat} {v : Int32} {b : Nat} (h : b ≠ a) : rI (wI M a k v) b = rI M b := by
  funext j
  rw [rI_wI, if_neg (fun q => h q.1)]
theorem rL_wL_ne {M : am_M} {a k : Nat} {v : Int64} {b : Nat} (h : b ≠ a) : rL (wL M a k v) b = rL M b := by
  funext j
  rw [rL_wL, if_neg (fun q => h q.1)]
theorem rR_wR_ne {M : am_M} {a k : Nat} {v : Option Nat} {b : Nat} (h : b ≠ a) : rR (wR M a k v) b = rR M b := by
  funext j
  rw [rR_wR, if_neg (fun q => h q.1)]
theorem cell_wI {G : am_G} {M : am_M} {a k : Nat} {v : Int32} {j : Nat} (h : j ≠ a) : am_cell G (wI M a k v) j = am_cell G M j := cell_same rfl rfl (rI_wI_ne h) rfl rfl
theorem cell_wL {G : am_G} {M : am_M} {a k : Nat} {v : Int64} {j : Nat} (h : j ≠ a) : am_cell G (wL M a k v) j = am_cell G M j := cell_same rfl rfl rfl (rL_wL_ne h) rfl
theorem cell_wR {G : am_G} {M : am_M} {a k : Nat} {v : Option Nat} {j : Nat} (h : j ≠ a) : am_cell G (wR M a k v) j = am_cell G M j := cell_same rfl rfl rfl rfl (rR_wR_ne h)
theorem fv_I {G : am_G} {M : am_M} {n c k : Nat} (h : am_ft c k = 0) : am_fv G M n c k = .int (rI M n k) := by
  unfold am_fv
  rw [h]
  rfl
theorem fv_R {G : am_G} {M : am_M} {n c k : Nat} (h : am_ft c k = 2) : am_fv G M n c k = va_rf ((rR M n k).map (gB G + ·)) := by
  unfold am_fv
  rw [h]
  rfl
theorem fs_at {G : am_G} {M : am_M} {n c k : Nat} (h : k < am_nf c) : (am_fs G M n c)[k]? = some (am_fv G M n c k) := by simp [am_fs, h]
theorem fs_wI {G : am_G} {M : am_M} {a c k : Nat} {v : Int32} (h : am_ft c k = 0) : (am_fs G M a c).set k (.int v) = am_fs G (wI M a k v) a c := by
  refine am_range_set ?_ (fun j hj => ?_)
  · rw [fv_I h, rI_wI, if_pos ⟨rfl, rfl⟩]
  · unfold am_fv
    rw [rI_wI, if_neg (fun q => hj q.2)]
    rfl
theorem fs_wR {G : am_G} {M : am_M} {a c k b : Nat} (h : am_ft c k = 2) : (am_fs G M a c).set k (.ref (gB G + b)) = am_fs G (wR M a k (some b)) a c := by
  refine am_range_set ?_ (fun j hj => ?_)
  · rw [fv_R h, rR_wR, if_pos ⟨rfl, rfl⟩]
    rfl
  · unfold am_fv
    rw [rR_wR, if_neg (fun q => hj q.2)]
    rfl
theorem upd_wI {M : am_M} {a k : Nat} {v : Int32} : upd (rI M a) k v = rI (wI M a k v) a := by
  funext j
  rw [rI_wI]
  unfold upd
  by_cases h : j = k <;> simp [h]
theorem upd_wL {M : am_M} {a k : Nat} {v : Int64} : vp_updL (rL M a) k v = rL (wL M a k v) a := by
  funext j
  rw [rL_wL]
  unfold vp_updL
  by_cases h : j = k <;> simp [h]
theorem upd_wR {G : am_G} {M : am_M} {a k b : Nat} : va_up (fun j => (rR M a j).map (gB G + ·)) k (some (gB G + b)) = fun j => (rR (wR M a k (some b)) a j).map (gB G + ·) := by
  funext j
  rw [rR_wR]
  unfold va_up
  by_cases h : j = k <;> simp [h]
/-! a new cell -/
theorem wd_push {G : am_G} {M : am_M} {t n : Nat} : am_wd G (mkC M t n) = am_wd G M ++ [(gB G + mNx M, am_cell G (mkC M t n) (mNx M))] := by
  unfold am_wd
  rw [mNx_mkC, List.range_succ, List.map_append]
  congr 1
  refine List.map_congr_left (fun j hj => ?_)
  have hj : j < mNx M := List.mem_range.mp hj
  have hne : ¬ j = mNx M := Nat.ne_of_lt hj
  rw [cell_same (G := G) (M := M) (M' := mkC M t n) (j := j) ?_ ?_ ?_ ?_ ?_]
  · rw [mKd_mkC, if_neg hne]
  · rw [mLn_mkC, if_neg hne]
  · funext k; rw [rI_mkC, if_neg hne]
  · funext k; rw [rL_mkC, if_neg hne]
  · funext k; rw [rR_mkC, if_neg hne]
theorem am_Hp.push {G : am_G} {M : am_M} {H H1 : Heap} {t n : Nat} (h : am_Hp G M H) (hz : H1.size = H.size + 1) (ho : ∀ q : Nat, q < H.size → H1[q]? = H[q]?) (hc : va_at (gD G) am_cl (gB G + mNx M, am_cell G (mkC M t n) (mNx M)) H1) : am_Hp G (mkC M t n) H1 := by
  refine ⟨by rw [hz, h.1, mNx_mkC]; omega, ?_⟩
  rw [wd_push]
  refine va_P.app (fun k q hk => (h.2 k q hk).kept (ho _ ((h.2 k q hk).lt))) (fun k q hk => ?_)
  have hk0 : k < 1 := (List.getElem?_eq_some_iff.mp hk).1
  rw [show k = 0 by omega] at hk
  cases hk
  exact hc
/-- a cell is written: the others stay -/
theorem am_Hp.put {G : am_G} {M M' : am_M} {H H1 : Heap} {n : Nat} {e : va_E} (h : am_Hp G M H) (hx : mNx M' = mNx M) (ho : ∀ j, j ≠ n → am_cell G M' j = am_cell G M j) (he : am_cell G M' n = e) (hz : H1.size = H.size) (hP : va_P (gD G) am_cl ((am_wd G M).set n (gB G + n, e)) H1) : am_Hp G M' H1 := ⟨by rw [hz, h.1, hx], by rw [← wd_set hx ho he]; exact hP⟩
end
section
/-- the String constants: class, place in its pool, text -/
def am_str : List (String × Nat × String) := [("NumberedSparks$Reader", 80, "world"), ("NumberedSparks$Reader", 53, "seed"), ("NumberedSparks$Reader", 62, "kind"), ("NumberedSparks$Reader", 102, "life"), ("NumberedSparks$Reader", 108, "vary"), ("NumberedSparks$Reader", 114, "speed"), ("NumberedSparks$Reader", 132, "falls"), ("NumberedSparks$Reader", 120, "size"), ("NumberedSparks$Reader", 140, "bounce"), ("NumberedSparks$Reader", 142, "ends"), ("NumberedSparks$Reader", 144, "wrap"), ("NumberedSparks$Reader", 125, "childs"), ("NumberedSparks$Reader", 130, "of"), ("NumberedSparks$Reader", 67, "source"), ("NumberedSparks$Reader", 152, "at"), ("NumberedSparks$Reader", 154, "from"), ("NumberedSparks$Reader", 156, "every"), ("NumberedSparks$Reader", 158, "burst"), ("NumberedSparks$Reader", 160, "until"), ("NumberedSparks$Reader", 162, "jitter"), ("NumberedSparksModel", 201, "world"), ("NumberedSparksModel", 203, "seed"), ("NumberedSparksModel", 208, "kind"), ("NumberedSparksModel", 156, "life"), ("NumberedSparksModel", 162, "vary"), ("NumberedSparksModel", 164, "speed"), ("NumberedSparksModel", 165, "falls"), ("NumberedSparksModel", 169, "size"), ("NumberedSparksModel", 170, "wrap"), ("NumberedSparksModel", 172, "bounce"), ("NumberedSparksModel", 174, "ends"), ("NumberedSparksModel", 176, "childs"), ("NumberedSparksModel", 178, "of"), ("NumberedSparksModel", 212, "source"), ("NumberedSparksModel", 183, "at"), ("NumberedSparksModel", 184, "from"), ("NumberedSparksModel", 185, "every"), ("NumberedSparksModel", 187, "burst"), ("NumberedSparksModel", 189, "until"), ("NumberedSparksModel", 191, "jitter")]
/-- their bytes -/
def am_stx : List (List Nat) := [[119, 111, 114, 108, 100], [115, 101, 101, 100], [107, 105, 110, 100], [108, 105, 102, 101], [118, 97, 114, 121], [115, 112, 101, 101, 100], [102, 97, 108, 108, 115], [115, 105, 122, 101], [98, 111, 117, 110, 99, 101], [101, 110, 100, 115], [119, 114, 97, 112], [99, 104, 105, 108, 100, 115], [111, 102], [115, 111, 117, 114, 99, 101], [97, 116], [102, 114, 111, 109], [101, 118, 101, 114, 121], [98, 117, 114, 115, 116], [117, 110, 116, 105, 108], [106, 105, 116, 116, 101, 114], [119, 111, 114, 108, 100], [115, 101, 101, 100], [107, 105, 110, 100], [108, 105, 102, 101], [118, 97, 114, 121], [115, 112, 101, 101, 100], [102, 97, 108, 108, 115], [115, 105, 122, 101], [119, 114, 97, 112], [98, 111, 117, 110, 99, 101], [101, 110, 100, 115], [99, 104, 105, 108, 100, 115], [111, 102], [115, 111, 117, 114, 99, 101], [97, 116], [102, 114, 111, 109], [101, 118, 101, 114, 121], [98, 117, 114, 115, 116], [117, 110, 116, 105, 108], [106, 105, 116, 116, 101, 114]]
def am_sb (k j : Nat) : Int32 := nI ((am_stx.getD k []).getD j 0)
def am_sl (k : Nat) : Nat := (am_stx.getD k []).length
def am_KL : List Int32 := [1, 0, 0, -9, 1]
def am_KM : List Int32 := [40, 20, 20, 9, 9]
/-! ===== what is held of the tables, of constants and statics ===== -/
def am_nest : Cond → Bool
  | .methodLinkNest .. => true
  | _ => false
def am_gw (w : Cond) : Bool := goodWord w || am_nest w
def am_ws : List Cond := lw_tbl.filter am_gw
theorem am_in {w : Cond} (i : Nat) (h : lw_tbl[i]? = some w) (g : am_gw w = true) : w ∈ am_ws := List.mem_filter.mpr ⟨List.mem_of_getElem? h, g⟩
def am_tys (G : am_G) : List (ClassId × FieldType) := [(gC G 0, .int), (gC G 1, .long), (gC G 2, .byte), (gC G 3, .object RX6)]
/-- one String constant -/
def am_S1 (G : am_G) (U : State) (k : Nat) (own : String) (idx : Nat) (tx : String) : Prop := ∃ a v : Nat, gS G (100 + k) = .ref a ∧ gS G (200 + k) = .ref v ∧ vk_R own idx tx a U ∧ va_O "java/lang/String" a (gA G) U U.heap ∧ va_OF "java/lang/String" "coder" "B" (.int 0) a (gA G) U U.heap ∧ va_OF "java/lang/String" "value" "[B" (.ref v) a (gA G) U U.heap ∧ va_T .byte v (am_sl k) (fun j => .int (am_sb k j)) (gA G) U U.heap
def am_Sp (G : am_G) (U : State) : Prop :=
  (∀ (k : Nat) (own : String) (idx : Nat) (tx : String), am_str[k]? = some (own, idx, tx) → am_S1 G U k own idx tx) ∧
  (∃ a : Nat, gS G 2 = .ref a ∧ va_Z "NumberedSparks" "KIND_LEAST" "[I" (.ref a) (gA G) U U.heap ∧ va_T .int a 5 (fun j => .int (am_KL.getD j 0)) (gA G) U U.heap) ∧
  (∃ a : Nat, gS G 3 = .ref a ∧ va_Z "NumberedSparks" "KIND_MOST" "[I" (.ref a) (gA G) U U.heap ∧ va_T .int a 5 (fun j => .int (am_KM.getD j 0)) (gA G) U U.heap) ∧
  va_Z "java/lang/String" "COMPACT_STRINGS" "Z" (.int 1) (gA G) U U.heap ∧
  va_Z "jdk/internal/util/Preconditions" "SIOOBE_FORMATTER" "Ljava/util/function/BiFunction;" (gS G 4) (gA G) U U.heap ∧
  ∀ k, gS G k = .null ∨ ∃ a : Nat, gS G k = .ref a
def am_Tb (G : am_G) (U : State) : Prop := (∀ w ∈ am_ws, ∀ args : Array Value, w.before args U = true) ∧ va_K (gD G) am_cl (am_tys G) U ∧ va_AO RX6 U ∧ am_Sp G U
theorem am_Sp.moved {G : am_G} {s U : State} (hW : s.WarmedH U.vm) (hq : ∀ a : Nat, a < s.heap.size → ¬ gA G a → U.heap[a]? = s.heap[a]?) (h : am_Sp G s) : am_Sp G U := by
  obtain ⟨h1, ⟨a2, e2, z2, t2⟩, ⟨a3, e3, z3, t3⟩, h4, h5, h6⟩ := h
  refine ⟨fun k own idx tx hk => ?_, ⟨a2, e2, (z2.moved hW.alike).kept hq, (t2.moved hW.alike).kept hq⟩, ⟨a3, e3, (z3.moved hW.alike).kept hq, (t3.moved hW.alike).kept hq⟩, (h4.moved hW.alike).kept hq, (h5.moved hW.alike).kept hq, h6⟩
  obtain ⟨a, v, q1, q2, q3, q4, q5, q6, q7⟩ := h1 k own idx tx hk
  exact ⟨a, v, q1, q2, q3.warm hW, (q4.moved hW.alike).kept hq, (q5.moved hW.alike).kept hq, (q6.moved hW.alike).kept hq, (q7.moved hW.alike).kept hq⟩
theorem am_Tb.moved {G : am_G} {s U : State} (hW : s.WarmedH U.vm) (hq : ∀ a : Nat, a < s.heap.size → ¬ gA G a → U.heap[a]? = s.heap[a]?) (h : am_Tb G s) : am_Tb G U := by
  obtain ⟨h1, h2, h3, h4⟩ := h
  refine ⟨fun w hw args => ?_, va_K.moved hW.alike h2, h3.moved hW.alike, h4.moved hW hq⟩
  have hg : am_gw w = true := (List.mem_filter.mp hw).2
  unfold am_gw at hg
  rcases Bool.or_eq_true _ _ |>.mp hg with hg | hg
  · exact word_at hW (good_of_word hg) (h1 w hw #[])
  · cases w <;> first | exact va_Nw.use rfl (va_Nw.warmM hW (h1 _ hw #[])) | cases hg
theorem rv_cat {G : am_G} {s : State} (h : am_Tb G s) (v : Value) : (rv G v).category = v.category := by
  cases v <;> try rfl
  rename_i k
  rcases h.2.2.2.2.2.2.2.2 k with e | ⟨a, e⟩ <;> simp [rv, e, Value.category]
/-! ===== locals ===== -/
def LV (G : am_G) (nL : Nat) (ls : List Value) (lsR : Array Slot) : Prop := lsR.size = nL ∧ lv_wf lsR ∧ ∀ (i : Nat) (v : Value), ls[i]? = some v → v ≠ .retAddr 0 → lsR[i]? = some (.val (rv G v))
def am_prs (G : am_G) (ls : List Value) : List (Nat × Value) := (List.range ls.length).filterMap fun j => match ls[j]? with
  | some v => if v = .retAddr 0 then none else some (j, rv G v)
  | none => none
theorem prs_mem {G : am_G} {ls : List Value} {j : Nat} {v : Value} (h : ls[j]? = some v) (hv : v ≠ .retAddr 0) : (j, rv G v) ∈ am_prs G ls := by
  refine List.mem_filterMap.mpr ⟨j, List.mem_range.mpr (List.getElem?_eq_some_iff.mp h).1, ?_⟩
  rw [h]
  simp [hv]
theorem prs_of {G : am_G} {ls : List Value} {q : Nat × Value} (h : q ∈ am_prs G ls) : ∃ v, ls[q.1]? = some v ∧ v ≠ .retAddr 0 ∧ q.2 = rv G v := by
  obtain ⟨j, -, hj⟩ := List.mem_filterMap.mp h
  cases hl : ls[j]? with
  | none => rw [hl] at hj; cases hj
  | some v =>
    rw [hl] at hj
    by_cases hv : v = .retAddr 0
    · simp [hv] at hj
    · simp [hv] at hj
      subst hj
      exact ⟨v, hl, hv, rfl⟩
theorem LV.has {G : am_G} {nL : Nat} {ls : List Value} {lsR : Array Slot} (h : LV G nL ls lsR) : lv_has lsR nL (am_prs G ls) := ⟨h.1, h.2.1, fun q hq => by
  obtain ⟨v, h1, h2, h3⟩ := prs_of hq
  rw [h3]
  exact h.2.2 _ _ h1 h2⟩
theorem LV.at {G : am_G} {nL : Nat} {ls : List Value} {lsR : Array Slot} (h : LV G nL ls lsR) {i : Nat} {v : Value} (hi : ls[i]? = some v) (hv : v ≠ .retAddr 0) : lsR[i]? = some (.val (rv G v)) := h.2.2 i v hi hv
def am_clr (ls : List Value) (i : Nat) : List Value := match i with
  | 0 => ls
  | j + 1 => match ls[j]? with
    | some (.long _) => ls.set j (.retAddr 0)
    | some (.double _) => ls.set j (.retAddr 0)
    | _ => ls
def st1 (ls : List Value) (i : Nat) (v : Value) : List Value := (am_clr ls i).set i v
def st2 (ls : List Value) (i : Nat) (v : Value) : List Value := ((am_clr ls i).set i v).set (i + 1) (.retAddr 0)
theorem clr_of {ls : List Value} {i j : Nat} {v : Value} (h : (am_clr ls i)[j]? = some v) (hv : v ≠ .retAddr 0) : ls[j]? = some v ∧ ¬ (j + 1 = i ∧ v.category = 2) := by
  unfold am_clr at h
  split at h
  · exact ⟨h, fun q => by omega⟩
  · rename_i m
    split at h
    · rw [List.getElem?_set] at h
      split at h
      · split at h
        · exact absurd (Option.some.inj h).symm hv
        · cases h
      · rename_i hne
        exact ⟨h, fun q => hne (by omega)⟩
    · rw [List.getElem?_set] at h
      split at h
      · split at h
        · exact absurd (Option.some.inj h).symm hv
        · cases h
      · rename_i hne
        exact ⟨h, fun q => hne (by omega)⟩
    · rename_i h1 h2
      refine ⟨h, fun q => ?_⟩
      have hj : j = m := by omega
      subst hj
      cases v <;> simp [Value.category] at q
      · exact h1 _ h
      · exact h2 _ h
theorem LV.put1 {G : am_G} {s : State} (hT : am_Tb G s) {nL : Nat} {ls : List Value} {lsR lsR' : Array Slot} {i : Nat} {v : Value} (hh : lv_has lsR' nL ((i, rv G v) :: (am_prs G ls).filter (fun q => !(q.1 == i) && !(q.1 + 1 == i && q.2.category == 2)))) : LV G nL (st1 ls i v) lsR' := by
  refine ⟨hh.1, hh.2.1, fun j w hj hw => ?_⟩
  unfold st1 at hj
  rw [List.getElem?_set] at hj
  split at hj
  · split at hj
    · rename_i h1 h2
      subst h1
      cases hj
      exact hh.2.2 (i, rv G v) List.mem_cons_self
    · cases hj
  · rename_i hne
    obtain ⟨h1, h2⟩ := clr_of hj hw
    refine hh.2.2 (j, rv G w) (List.mem_cons_of_mem _ (List.mem_filter.mpr ⟨prs_mem h1 hw, ?_⟩))
    have hji : ¬ j = i := fun q => hne q.symm
    simp only [rv_cat hT]
    simp [hji]
    exact Classical.not_and_iff_not_or_not.mp h2
theorem LV.put2 {G : am_G} {s : State} (hT : am_Tb G s) {nL : Nat} {ls : List Value} {lsR lsR' : Array Slot} {i : Nat} {v : Value} (hh : lv_has lsR' nL ((i, rv G v) :: (am_prs G ls).filter (fun q => !(q.1 == i) && (!(q.1 == i + 1) && !(q.1 + 1 == i && q.2.category == 2))))) : LV G nL (st2 ls i v) lsR' := by
  refine ⟨hh.1, hh.2.1, fun j w hj hw => ?_⟩
  unfold st2 at hj
  rw [List.getElem?_set] at hj
  split at hj
  · split at hj
    · exact absurd (Option.some.inj hj).symm hw
    · cases hj
  · rename_i hne2
    rw [List.getElem?_set] at hj
    split at hj
    · split at hj
      · rename_i h1 h2
        subst h1
        cases hj
        exact hh.2.2 (i, rv G v) List.mem_cons_self
      · cases hj
    · rename_i hne
      obtain ⟨h1, h2⟩ := clr_of hj hw
      refine hh.2.2 (j, rv G w) (List.mem_cons_of_mem _ (List.mem_filter.mpr ⟨prs_mem h1 hw, ?_⟩))
      have hji : ¬ j = i := fun q => hne q.symm
      have hji2 : ¬ j = i + 1 := fun q => hne2 q.symm
      simp only [rv_cat hT]
      simp [hji, hji2]
      exact Classical.not_and_iff_not_or_not.mp h2
/-- fewer locals known -/
def msk : List Bool → List Value → List Value
  | b :: bs, v :: vs => (if b then v else .retAddr 0) :: msk bs vs
  | _, _ => []
theorem msk_of : ∀ {bs : List Bool} {ls : List Value} {i : Nat} {v : Value}, (msk bs ls)[i]? = some v → v ≠ .retAddr 0 → ls[i]? = some v
  | [], ls, i, v, h, _ => by simp [msk] at h
  | b :: bs, [], i, v, h, _ => by simp [msk] at h
  | b :: bs, x :: vs, 0, v, h, hv => by
    cases b
    · simp [msk] at h
      exact absurd h.symm hv
    · simpa [msk] using h
  | b :: bs, x :: vs, i + 1, v, h, hv => by
    simp [msk] at h ⊢
    exact msk_of h hv
theorem LV.msk {G : am_G} {nL : Nat} {ls : List Value} {lsR : Array Slot} (bs : List Bool) (h : LV G nL ls lsR) : LV G nL (msk bs ls) lsR := ⟨h.1, h.2.1, fun i v hi hv => h.2.2 i v (msk_of hi hv) hv⟩
def am_ini1 : List Value → List Value
  | [] => []
  | v :: vs => if v.category = 2 then v :: .retAddr 0 :: am_ini1 vs else v :: am_ini1 vs
def am_ini (n : Nat) (vs : List Value) : List Value := am_ini1 vs ++ List.replicate (n - (am_ini1 vs).length) (.retAddr 0)
theorem ini_sl {G : am_G} {s : State} (hT : am_Tb G s) : ∀ (vs : List Value) (i : Nat) (v : Value), (am_ini1 vs)[i]? = some v → v ≠ .retAddr 0 → (lg_sl (vs.map (rv G)))[i]? = some (.val (rv G v))
  | [], i, v, h, _ => by simp [am_ini1] at h
  | w :: vs, i, v, h, hv => by
    unfold am_ini1 at h
    have hc : (rv G w).category = w.category := rv_cat hT w
    have e : lg_sl ((w :: vs).map (rv G)) = (if w.category = 2 then [.val (rv G w), .second] else [.val (rv G w)]) ++ lg_sl (vs.map (rv G)) := by
      simp [lg_sl, hc]
    rw [e]
    by_cases h2 : w.category = 2
    · rw [if_pos h2] at h ⊢
      match i, h with
      | 0, h => simp at h; subst h; rfl
      | 1, h => simp at h; exact absurd h.symm hv
      | j + 2, h =>
        simp at h
        simpa using ini_sl hT vs j v h hv
    · rw [if_neg h2] at h ⊢
      match i, h with
      | 0, h => simp at h; subst h; rfl
      | j + 1, h =>
        simp at h
        simpa using ini_sl hT vs j v h hv
theorem LV.ini {G : am_G} {s : State} (hT : am_Tb G s) {n : Nat} {vs : List Value} (hn : (lg_sl (vs.map (rv G))).length ≤ n) : LV G n (am_ini n vs) ((lg_sl (vs.map (rv G)) ++ List.replicate (n - (lg_sl (vs.map (rv G))).length) Slot.unset).toArray) := by
  have hl := lv_entry (vs.map (rv G)) hn
  refine ⟨hl.1, hl.2.1, fun i v hi hv => ?_⟩
  unfold am_ini at hi
  rw [List.getElem?_append] at hi
  split at hi
  · have h1 := ini_sl hT vs i v hi hv
    rw [List.getElem?_toArray, List.getElem?_append_left (List.getElem?_eq_some_iff.mp h1).1]
    exact h1
  · rw [List.getElem?_replicate] at hi
    split at hi
    · exact absurd (Option.some.inj hi).symm hv
    · cases hi
theorem sl_len {G : am_G} {s : State} (hT : am_Tb G s) : ∀ vs : List Value, (lg_sl (vs.map (rv G))).length = (vs.map Value.category).sum
  | [] => rfl
  | w :: vs => by
    have hc : (rv G w).category = w.category := rv_cat hT w
    have e : lg_sl ((w :: vs).map (rv G)) = (if w.category = 2 then [.val (rv G w), .second] else [.val (rv G w)]) ++ lg_sl (vs.map (rv G)) := by
      simp [lg_sl, hc]
    rw [e, List.length_append, sl_len hT vs, List.map_cons, List.sum_cons]
    rcases lv_cat w with h | h <;> simp [h]
end
section
/-! ===== the judgement: a walked method, as a value ===== -/
/-- a method: its class, its bytes, its locals, what it returns, its name, how many frames it may nest -/
abbrev am_X : Type := String × ByteArray × Nat × Option FieldType × String × Nat
def xO (X : am_X) : String := X.1
def xC (X : am_X) : ByteArray := X.2.1
def xL (X : am_X) : Nat := X.2.2.1
def xT (X : am_X) : Option FieldType := X.2.2.2.1
def xN (X : am_X) : String := X.2.2.2.2.1
def xD (X : am_X) : Nat := X.2.2.2.2.2
def am_Q (G : am_G) (v : Option Value) (M' : am_M) : Array Value → State → Outcome → State → Prop := fun _ st oc t => oc = .returned (v.map (rv G)) ∧ am_Hp G M' t.heap ∧ va_F (gA G) st t
def am_C (G : am_G) (X : am_X) (p : Program) (R : Room) (s : State) (m : MethodId) (meth : Method) (c : Code) : Prop :=
  p.tables.exec = Jvm.exec ∧ c.code = xC X ∧ c.maxLocals = xL X ∧ meth.sig.returnType = xT X ∧ meth.locks = false ∧ meth.name = xN X ∧ s.vm.findClass (xO X) = some m.cls ∧ R.frames = xD X ∧ R.locals = 37 * xD X ∧ gB G ≤ s.heap.size ∧ am_Tb G s
def Rf (G : am_G) (l : Launch) (X : am_X) (pc : Nat) (ls st : List Value) (M : am_M) (o : am_R) : Prop :=
  ∀ (v : Option Value) (M' : am_M), o = some (v, M') → (mNx M ≤ mNx M' ∧ mUs M ≤ mUs M') ∧
    ∀ (p : Program) (e : Env) (R : Room) (s : State) (m : MethodId) (args : Array Value) (below : List Frame) (meth : Method) (c : Code) (n0 u0 cells slots : Nat) (H : Heap) (locs : List Loc) (lsR : Array Slot),
      am_C G X p R s m meth c → n0 + R.cells = mNx M' → u0 + R.slots = mUs M' → n0 + cells = mNx M → u0 + slots = mUs M → am_Hp G M H → va_S (gA G) s.heap H locs → LV G (xL X) ls lsR →
      W p l e R s m args below meth c H locs cells slots (MQ below (am_Q G v M') args s R.cells R.slots (gA G)) (F0 m pc lsR (st.map (rv G)))
/-- a contract: the method, called with these values over this memory, answers as 'o' says -/
def Ct (G : am_G) (l : Launch) (y : MethodName) (X : am_X) (as : List Value) (M : am_M) (o : am_R) : Prop :=
  ∀ (v : Option Value) (M' : am_M), o = some (v, M') → (mNx M ≤ mNx M' ∧ mUs M ≤ mUs M') ∧
    Met l y [.code y (xC X) (xL X) (xT X)] { frames := xD X, cells := mNx M' - mNx M, slots := mUs M' - mUs M, locals := 37 * xD X } (va_Pc (as.map (rv G)) (fun U => am_Hp G M U.heap ∧ am_Tb G U)) (am_Q G v M') (mNx M' - mNx M) (mUs M' - mUs M) (gA G)
section RfRows
variable {G : am_G} {l : Launch} {X : am_X} {pc : Nat} {ls st : List Value} {M : am_M} {o : am_R}
theorem Rf.no : Rf G l X pc ls st M none := fun v M' h => by cases h
theorem Rf.nm {α : Type} {x : α} {f : α → am_R} (k : ∀ x, Rf G l X pc ls st M (f x)) : Rf G l X pc ls st M (nm x f) := k x
theorem Rf.msk (bs : List Bool) (k : Rf G l X pc (msk bs ls) st M o) : Rf G l X pc ls st M o := by
  intro v M' ho
  obtain ⟨hm, k⟩ := k v M' ho
  exact ⟨hm, fun p e R s m args below meth c n0 u0 cells slots H locs lsR hC h1 h2 h3 h4 hH hS hL => k p e R s m args below meth c n0 u0 cells slots H locs lsR hC h1 h2 h3 h4 hH hS (hL.msk bs)⟩
theorem Rf.ite {c : Prop} [Decidable c] {A B : am_R} (ka : c → Rf G l X pc ls st M A) (kb : ¬ c → Rf G l X pc ls st M B) : Rf G l X pc ls st M (if c then A else B) := by
  by_cases h : c
  · rw [if_pos h]; exact ka h
  · rw [if_neg h]; exact kb h
/-- a step that moves nothing but the frame -/
theorem Rf.go {pc' : Nat} {st' : List Value}
    (h : ∀ (p : Program) (e : Env) (R : Room) (s : State) (m : MethodId) (args : Array Value) (below : List Frame) (meth : Method) (c : Code) (cells slots : Nat) (H : Heap) (locs : List Loc) (lsR : Array Slot) (Q : State → Prop), am_C G X p R s m meth c → LV G (xL X) ls lsR → W p l e R s m args below meth c H locs cells slots Q (F0 m pc' lsR (st'.map (rv G))) → W p l e R s m args below meth c H locs cells slots Q (F0 m pc lsR (st.map (rv G))))
    (k : Rf G l X pc' ls st' M o) : Rf G l X pc ls st M o := by
  intro v M' ho
  obtain ⟨hm, k⟩ := k v M' ho
  exact ⟨hm, fun p e R s m args below meth c n0 u0 cells slots H locs lsR hC h1 h2 h3 h4 hH hS hL => h p e R s m args below meth c cells slots H locs lsR _ hC hL (k p e R s m args below meth c n0 u0 cells slots H locs lsR hC h1 h2 h3 h4 hH hS hL)⟩
/-- a step that moves the locals -/
theorem Rf.gol {pc' : Nat} {ls' st' : List Value}
    (h : ∀ (p : Program) (e : Env) (R : Room) (s : State) (m : MethodId) (args : Array Value) (below : List Frame) (meth : Method) (c : Code) (cells slots : Nat) (H : Heap) (locs : List Loc) (lsR : Array Slot) (Q : State → Prop), am_C G X p R s m meth c → LV G (xL X) ls lsR → (∀ lsR', LV G (xL X) ls' lsR' → W p l e R s m args below meth c H locs cells slots Q (F0 m pc' lsR' (st'.map (rv G)))) → W p l e R s m args below meth c H locs cells slots Q (F0 m pc lsR (st.map (rv G))))
    (k : Rf G l X pc' ls' st' M o) : Rf G l X pc ls st M o := by
  intro v M' ho
  obtain ⟨hm, k⟩ := k v M' ho
  exact ⟨hm, fun p e R s m args below meth c n0 u0 cells slots H locs lsR hC h1 h2 h3 h4 hH hS hL => h p e R s m args below meth c cells slots H locs lsR _ hC hL (fun lsR' hL' => k p e R s m args below meth c n0 u0 cells slots H locs lsR' hC h1 h2 h3 h4 hH hS hL')⟩
variable {x y : Int32} {xl yl : Int64} {i : Nat}
theorem r_iconst {n : Int} (hd : decode (xC X) pc = .ok (.iconst n, 1)) (v : Int32) (hv : Int32.ofInt n = v) (k : Rf G l X (pc + 1) ls (.int v :: st) M o) : Rf G l X pc ls st M o := Rf.go (fun p e R s m args below meth c cells slots H locs lsR Q hC hL k => lv_iconst hC.1 hC.2.1 hd hv k) k
theorem r_bipush {n : Int} (hd : decode (xC X) pc = .ok (.bipush n, 2)) (v : Int32) (hv : (Int8.ofInt n).toInt32 = v) (k : Rf G l X (pc + 2) ls (.int v :: st) M o) : Rf G l X pc ls st M o := Rf.go (fun p e R s m args below meth c cells slots H locs lsR Q hC hL k => lv_bipush hC.1 hC.2.1 hd hv k) k
theorem r_sipush {n : Int} (hd : decode (xC X) pc = .ok (.sipush n, 3)) (v : Int32) (hv : (Int16.ofInt n).toInt32 = v) (k : Rf G l X (pc + 3) ls (.int v :: st) M o) : Rf G l X pc ls st M o := Rf.go (fun p e R s m args below meth c cells slots H locs lsR Q hC hL k => lv_sipush hC.1 hC.2.1 hd hv k) k
theorem r_lconst {n : Fin 2} (hd : decode (xC X) pc = .ok (.lconst n, 1)) (v : Int64) (hv : Int64.ofNat (n : Nat) = v) (k : Rf G l X (pc + 1) ls (.long v :: st) M o) : Rf G l X pc ls st M o := Rf.go (fun p e R s m args below meth c cells slots H locs lsR Q hC hL k => lv_lconst hC.1 hC.2.1 hd hv k) k
theorem r_null (hd : decode (xC X) pc = .ok (.aconst_null, 1)) (k : Rf G l X (pc + 1) ls (.null :: st) M o) : Rf G l X pc ls st M o := Rf.go (fun p e R s m args below meth c cells slots H locs lsR Q hC hL k => lv_null hC.1 hC.2.1 hd k) k
theorem r_ldc {idx : Nat} (hd : decode (xC X) pc = .ok (.ldc idx, 2)) (v : Int32) (hw : Cond.constant (xO X) idx v ∈ am_ws) (k : Rf G l X (pc + 2) ls (.int v :: st) M o) : Rf G l X pc ls st M o := Rf.go (fun p e R s m args below meth c cells slots H locs lsR Q hC hL k => lv_ldc hC.1 hC.2.1 hC.2.2.2.2.2.2.1 (hC.2.2.2.2.2.2.2.2.2.2.1 _ hw _) hd k) k
theorem r_ldc2 {idx : Nat} (hd : decode (xC X) pc = .ok (.ldc2_w idx, 3)) (v : Int64) (hw : Cond.constantLong (xO X) idx v ∈ am_ws) (k : Rf G l X (pc + 3) ls (.long v :: st) M o) : Rf G l X pc ls st M o := Rf.go (fun p e R s m args below meth c cells slots H locs lsR Q hC hL k => lv_ldc2 hC.1 hC.2.1 hC.2.2.2.2.2.2.1 (hC.2.2.2.2.2.2.2.2.2.2.1 _ hw _) hd k) k
theorem r_iload (hd : decode (xC X) pc = .ok (.iload i, 2)) (hl : ls[i]? = some (.int x)) (k : Rf G l X (pc + 2) ls (.int x :: st) M o) : Rf G l X pc ls st M o := Rf.go (fun p e R s m args below meth c cells slots H locs lsR Q hC hL k => lv_iload hC.1 hC.2.1 hd (hL.at hl (fun h => by cases h)) k) k
theorem r_iload_n {j : Fin 4} (hd : decode (xC X) pc = .ok (.iload_n j, 1)) (hl : ls[(j : Nat)]? = some (.int x)) (k : Rf G l X (pc + 1) ls (.int x :: st) M o) : Rf G l X pc ls st M o := Rf.go (fun p e R s m args below meth c cells slots H locs lsR Q hC hL k => lv_iload_n hC.1 hC.2.1 hd rfl (hL.at hl (fun h => by cases h)) k) k
theorem r_lload (hd : decode (xC X) pc = .ok (.lload i, 2)) (hl : ls[i]? = some (.long xl)) (k : Rf G l X (pc + 2) ls (.long xl :: st) M o) : Rf G l X pc ls st M o := Rf.go (fun p e R s m args below meth c cells slots H locs lsR Q hC hL k => lv_lload hC.1 hC.2.1 hd (hL.at hl (fun h => by cases h)) k) k
theorem r_lload_n {j : Fin 4} (hd : decode (xC X) pc = .ok (.lload_n j, 1)) (hl : ls[(j : Nat)]? = some (.long xl)) (k : Rf G l X (pc + 1) ls (.long xl :: st) M o) : Rf G l X pc ls st M o := Rf.go (fun p e R s m args below meth c cells slots H locs lsR Q hC hL k => lv_lload_n hC.1 hC.2.1 hd rfl (hL.at hl (fun h => by cases h)) k) k
theorem r_aload {a : Nat} (hd : decode (xC X) pc = .ok (.aload i, 2)) (hl : ls[i]? = some (.ref a)) (k : Rf G l X (pc + 2) ls (.ref a :: st) M o) : Rf G l X pc ls st M o := Rf.go (fun p e R s m args below meth c cells slots H locs lsR Q hC hL k => lv_aload hC.1 hC.2.1 hd (hL.at hl (fun h => by cases h)) k) k
theorem r_aload_n {a : Nat} {j : Fin 4} (hd : decode (xC X) pc = .ok (.aload_n j, 1)) (hl : ls[(j : Nat)]? = some (.ref a)) (k : Rf G l X (pc + 1) ls (.ref a :: st) M o) : Rf G l X pc ls st M o := Rf.go (fun p e R s m args below meth c cells slots H locs lsR Q hC hL k => lv_aload_n hC.1 hC.2.1 hd rfl (hL.at hl (fun h => by cases h)) k) k
theorem r_aload_N {j : Fin 4} (hd : decode (xC X) pc = .ok (.aload_n j, 1)) (hl : ls[(j : Nat)]? = some .null) (k : Rf G l X (pc + 1) ls (.null :: st) M o) : Rf G l X pc ls st M o := Rf.go (fun p e R s m args below meth c cells slots H locs lsR Q hC hL k => lv_aload_nN hC.1 hC.2.1 hd rfl (hL.at hl (fun h => by cases h)) k) k
theorem r_aloadN (hd : decode (xC X) pc = .ok (.aload i, 2)) (hl : ls[i]? = some .null) (k : Rf G l X (pc + 2) ls (.null :: st) M o) : Rf G l X pc ls st M o := Rf.go (fun p e R s m args below meth c cells slots H locs lsR Q hC hL k => lv_aloadN hC.1 hC.2.1 hd (hL.at hl (fun h => by cases h)) k) k
theorem r_aload_s {a : Nat} {j : Fin 4} (hd : decode (xC X) pc = .ok (.aload_n j, 1)) (hl : ls[(j : Nat)]? = some (.retAddr a)) (ha : a ≠ 0) (k : Rf G l X (pc + 1) ls (.retAddr a :: st) M o) : Rf G l X pc ls st M o := Rf.go (fun p e R s m args below meth c cells slots H locs lsR Q hC hL k => by
  have h1 := hL.at hl (fun h => by cases h; exact ha rfl)
  have h2 : rv G (.retAddr a) = gS G a := rfl
  rw [h2] at h1
  rw [List.map_cons, h2] at k
  rcases hC.2.2.2.2.2.2.2.2.2.2.2.2.2.2.2.2.2.2 a with q | ⟨b, q⟩
  · rw [q] at h1 k
    exact lv_aload_nN hC.1 hC.2.1 hd rfl h1 k
  · rw [q] at h1 k
    exact lv_aload_n hC.1 hC.2.1 hd rfl h1 k) k
theorem r_istore {ls' : List Value} (hd : decode (xC X) pc = .ok (.istore i, 2)) (hi : i < xL X) (hs : st1 ls i (.int x) = ls') (k : Rf G l X (pc + 2) ls' st M o) : Rf G l X pc ls (.int x :: st) M o := Rf.gol (fun p e R s m args below meth c cells slots H locs lsR Q hC hL k => lv_istore hC.1 hC.2.1 hd hL.has hi rfl (fun lsR' h => k lsR' (hs ▸ LV.put1 (lsR := lsR) hC.2.2.2.2.2.2.2.2.2.2 h))) k
theorem r_istore_n {ls' : List Value} {j : Fin 4} (hd : decode (xC X) pc = .ok (.istore_n j, 1)) (hi : (j : Nat) < xL X) (hs : st1 ls j (.int x) = ls') (k : Rf G l X (pc + 1) ls' st M o) : Rf G l X pc ls (.int x :: st) M o := Rf.gol (fun p e R s m args below meth c cells slots H locs lsR Q hC hL k => lv_istore_n hC.1 hC.2.1 hd rfl hL.has hi rfl (fun lsR' h => k lsR' (hs ▸ LV.put1 (lsR := lsR) hC.2.2.2.2.2.2.2.2.2.2 h))) k
theorem r_lstore {ls' : List Value} (hd : decode (xC X) pc = .ok (.lstore i, 2)) (hi : i + 1 < xL X) (hs : st2 ls i (.long xl) = ls') (k : Rf G l X (pc + 2) ls' st M o) : Rf G l X pc ls (.long xl :: st) M o := Rf.gol (fun p e R s m args below meth c cells slots H locs lsR Q hC hL k => lv_lstore hC.1 hC.2.1 hd hL.has hi rfl (fun lsR' h => k lsR' (hs ▸ LV.put2 (lsR := lsR) hC.2.2.2.2.2.2.2.2.2.2 h))) k
theorem r_lstore_n {ls' : List Value} {j : Fin 4} (hd : decode (xC X) pc = .ok (.lstore_n j, 1)) (hi : (j : Nat) + 1 < xL X) (hs : st2 ls j (.long xl) = ls') (k : Rf G l X (pc + 1) ls' st M o) : Rf G l X pc ls (.long xl :: st) M o := Rf.gol (fun p e R s m args below meth c cells slots H locs lsR Q hC hL k => lv_lstore_n hC.1 hC.2.1 hd rfl hL.has hi rfl (fun lsR' h => k lsR' (hs ▸ LV.put2 (lsR := lsR) hC.2.2.2.2.2.2.2.2.2.2 h))) k
theorem r_astore {ls' : List Value} {a : Nat} (hd : decode (xC X) pc = .ok (.astore i, 2)) (hi : i < xL X) (hs : st1 ls i (.ref a) = ls') (k : Rf G l X (pc + 2) ls' st M o) : Rf G l X pc ls (.ref a :: st) M o := Rf.gol (fun p e R s m args below meth c cells slots H locs lsR Q hC hL k => lv_astore hC.1 hC.2.1 hd hL.has hi rfl (fun lsR' h => k lsR' (hs ▸ LV.put1 (lsR := lsR) hC.2.2.2.2.2.2.2.2.2.2 h))) k
theorem r_astore_n {ls' : List Value} {a : Nat} {j : Fin 4} (hd : decode (xC X) pc = .ok (.astore_n j, 1)) (hi : (j : Nat) < xL X) (hs : st1 ls j (.ref a) = ls') (k : Rf G l X (pc + 1) ls' st M o) : Rf G l X pc ls (.ref a :: st) M o := Rf.gol (fun p e R s m args below meth c cells slots H locs lsR Q hC hL k => lv_astore_n hC.1 hC.2.1 hd rfl hL.has hi rfl (fun lsR' h => k lsR' (hs ▸ LV.put1 (lsR := lsR) hC.2.2.2.2.2.2.2.2.2.2 h))) k
theorem r_astoreN {ls' : List Value} (hd : decode (xC X) pc = .ok (.astore i, 2)) (hi : i < xL X) (hs : st1 ls i .null = ls') (k : Rf G l X (pc + 2) ls' st M o) : Rf G l X pc ls (.null :: st) M o := Rf.gol (fun p e R s m args below meth c cells slots H locs lsR Q hC hL k => lv_astoreN hC.1 hC.2.1 hd hL.has hi rfl (fun lsR' h => k lsR' (hs ▸ LV.put1 (lsR := lsR) hC.2.2.2.2.2.2.2.2.2.2 h))) k
theorem r_astore_N {ls' : List Value} {j : Fin 4} (hd : decode (xC X) pc = .ok (.astore_n j, 1)) (hi : (j : Nat) < xL X) (hs : st1 ls j .null = ls') (k : Rf G l X (pc + 1) ls' st M o) : Rf G l X pc ls (.null :: st) M o := Rf.gol (fun p e R s m args below meth c cells slots H locs lsR Q hC hL k => lv_astore_nN hC.1 hC.2.1 hd rfl hL.has hi rfl (fun lsR' h => k lsR' (hs ▸ LV.put1 (lsR := lsR) hC.2.2.2.2.2.2.2.2.2.2 h))) k
theorem r_iinc {ls' : List Value} {n : Int} (hd : decode (xC X) pc = .ok (.iinc i n, 3)) (hi : i < xL X) (hl : ls[i]? = some (.int x)) (hv : x + Int32.ofInt n = y) (hs : st1 ls i (.int y) = ls') (k : Rf G l X (pc + 3) ls' st M o) : Rf G l X pc ls st M o := Rf.gol (fun p e R s m args below meth c cells slots H locs lsR Q hC hL k => by
  obtain ⟨q, hq⟩ := List.getElem?_of_mem (prs_mem (G := G) hl (fun h => by cases h))
  exact lv_iinc hC.1 hC.2.1 hd hL.has (k := q) hq hv hi rfl (fun lsR' h => k lsR' (hs ▸ LV.put1 (lsR := lsR) (v := .int y) hC.2.2.2.2.2.2.2.2.2.2 h))) k
theorem r_iadd (hd : decode (xC X) pc = .ok (.iadd, 1)) (k : Rf G l X (pc + 1) ls (.int (x + y) :: st) M o) : Rf G l X pc ls (.int y :: .int x :: st) M o := Rf.go (fun p e R s m args below meth c cells slots H locs lsR Q hC hL k => lv_iadd hC.1 hC.2.1 hd k) k
theorem r_isub (hd : decode (xC X) pc = .ok (.isub, 1)) (k : Rf G l X (pc + 1) ls (.int (x - y) :: st) M o) : Rf G l X pc ls (.int y :: .int x :: st) M o := Rf.go (fun p e R s m args below meth c cells slots H locs lsR Q hC hL k => lv_isub hC.1 hC.2.1 hd k) k
theorem r_imul (hd : decode (xC X) pc = .ok (.imul, 1)) (k : Rf G l X (pc + 1) ls (.int (x * y) :: st) M o) : Rf G l X pc ls (.int y :: .int x :: st) M o := Rf.go (fun p e R s m args below meth c cells slots H locs lsR Q hC hL k => lv_imul hC.1 hC.2.1 hd k) k
theorem r_iand (hd : decode (xC X) pc = .ok (.iand, 1)) (k : Rf G l X (pc + 1) ls (.int (x &&& y) :: st) M o) : Rf G l X pc ls (.int y :: .int x :: st) M o := Rf.go (fun p e R s m args below meth c cells slots H locs lsR Q hC hL k => lv_iand hC.1 hC.2.1 hd k) k
theorem r_ior (hd : decode (xC X) pc = .ok (.ior, 1)) (k : Rf G l X (pc + 1) ls (.int (x ||| y) :: st) M o) : Rf G l X pc ls (.int y :: .int x :: st) M o := Rf.go (fun p e R s m args below meth c cells slots H locs lsR Q hC hL k => lv_ior hC.1 hC.2.1 hd k) k
theorem r_ixor (hd : decode (xC X) pc = .ok (.ixor, 1)) (k : Rf G l X (pc + 1) ls (.int (x ^^^ y) :: st) M o) : Rf G l X pc ls (.int y :: .int x :: st) M o := Rf.go (fun p e R s m args below meth c cells slots H locs lsR Q hC hL k => lv_ixor hC.1 hC.2.1 hd k) k
theorem r_ishl (hd : decode (xC X) pc = .ok (.ishl, 1)) (k : Rf G l X (pc + 1) ls (.int (x <<< (y &&& 31)) :: st) M o) : Rf G l X pc ls (.int y :: .int x :: st) M o := Rf.go (fun p e R s m args below meth c cells slots H locs lsR Q hC hL k => lv_ishl hC.1 hC.2.1 hd k) k
theorem r_ishr (hd : decode (xC X) pc = .ok (.ishr, 1)) (k : Rf G l X (pc + 1) ls (.int (x >>> (y &&& 31)) :: st) M o) : Rf G l X pc ls (.int y :: .int x :: st) M o := Rf.go (fun p e R s m args below meth c cells slots H locs lsR Q hC hL k => lv_ishr hC.1 hC.2.1 hd k) k
theorem r_iushr (hd : decode (xC X) pc = .ok (.iushr, 1)) (k : Rf G l X (pc + 1) ls (.int ((x.toUInt32 >>> (y.toUInt32 &&& Int32.toUInt32 31)).toInt32) :: st) M o) : Rf G l X pc ls (.int y :: .int x :: st) M o := Rf.go (fun p e R s m args below meth c cells slots H locs lsR Q hC hL k => lv_iushr hC.1 hC.2.1 hd rfl k) k
theorem r_ladd (hd : decode (xC X) pc = .ok (.ladd, 1)) (k : Rf G l X (pc + 1) ls (.long (xl + yl) :: st) M o) : Rf G l X pc ls (.long yl :: .long xl :: st) M o := Rf.go (fun p e R s m args below meth c cells slots H locs lsR Q hC hL k => lv_ladd hC.1 hC.2.1 hd k) k
theorem r_lsub (hd : decode (xC X) pc = .ok (.lsub, 1)) (k : Rf G l X (pc + 1) ls (.long (xl - yl) :: st) M o) : Rf G l X pc ls (.long yl :: .long xl :: st) M o := Rf.go (fun p e R s m args below meth c cells slots H locs lsR Q hC hL k => lv_lsub hC.1 hC.2.1 hd k) k
theorem r_lmul (hd : decode (xC X) pc = .ok (.lmul, 1)) (k : Rf G l X (pc + 1) ls (.long (xl * yl) :: st) M o) : Rf G l X pc ls (.long yl :: .long xl :: st) M o := Rf.go (fun p e R s m args below meth c cells slots H locs lsR Q hC hL k => lv_lmul hC.1 hC.2.1 hd k) k
theorem r_land (hd : decode (xC X) pc = .ok (.land, 1)) (k : Rf G l X (pc + 1) ls (.long (xl &&& yl) :: st) M o) : Rf G l X pc ls (.long yl :: .long xl :: st) M o := Rf.go (fun p e R s m args below meth c cells slots H locs lsR Q hC hL k => lv_land hC.1 hC.2.1 hd k) k
theorem r_lor (hd : decode (xC X) pc = .ok (.lor, 1)) (k : Rf G l X (pc + 1) ls (.long (xl ||| yl) :: st) M o) : Rf G l X pc ls (.long yl :: .long xl :: st) M o := Rf.go (fun p e R s m args below meth c cells slots H locs lsR Q hC hL k => lv_lor hC.1 hC.2.1 hd k) k
theorem r_lxor (hd : decode (xC X) pc = .ok (.lxor, 1)) (k : Rf G l X (pc + 1) ls (.long (xl ^^^ yl) :: st) M o) : Rf G l X pc ls (.long yl :: .long xl :: st) M o := Rf.go (fun p e R s m args below meth c cells slots H locs lsR Q hC hL k => lv_lxor hC.1 hC.2.1 hd k) k
theorem r_lushr (hd : decode (xC X) pc = .ok (.lushr, 1)) (k : Rf G l X (pc + 1) ls (.long ((xl.toUInt64 >>> (y.toInt64.toUInt64 &&& Int64.toUInt64 63)).toInt64) :: st) M o) : Rf G l X pc ls (.int y :: .long xl :: st) M o := Rf.go (fun p e R s m args below meth c cells slots H locs lsR Q hC hL k => lv_lushr hC.1 hC.2.1 hd rfl k) k
theorem r_lcmp (hd : decode (xC X) pc = .ok (.lcmp, 1)) (k : Rf G l X (pc + 1) ls (.int (lg_cmp xl yl) :: st) M o) : Rf G l X pc ls (.long yl :: .long xl :: st) M o := Rf.go (fun p e R s m args below meth c cells slots H locs lsR Q hC hL k => W.lcmp hC.1 hC.2.1 hd k) k
theorem r_ineg (hd : decode (xC X) pc = .ok (.ineg, 1)) (k : Rf G l X (pc + 1) ls (.int (-x) :: st) M o) : Rf G l X pc ls (.int x :: st) M o := Rf.go (fun p e R s m args below meth c cells slots H locs lsR Q hC hL k => lv_ineg hC.1 hC.2.1 hd k) k
theorem r_i2l (hd : decode (xC X) pc = .ok (.i2l, 1)) (k : Rf G l X (pc + 1) ls (.long (x.toInt64) :: st) M o) : Rf G l X pc ls (.int x :: st) M o := Rf.go (fun p e R s m args below meth c cells slots H locs lsR Q hC hL k => lv_i2l hC.1 hC.2.1 hd rfl k) k
theorem r_l2i (hd : decode (xC X) pc = .ok (.l2i, 1)) (k : Rf G l X (pc + 1) ls (.int (xl.toInt32) :: st) M o) : Rf G l X pc ls (.long xl :: st) M o := Rf.go (fun p e R s m args below meth c cells slots H locs lsR Q hC hL k => lv_l2i hC.1 hC.2.1 hd rfl k) k
theorem r_i2b (hd : decode (xC X) pc = .ok (.i2b, 1)) (k : Rf G l X (pc + 1) ls (.int (x.toInt8.toInt32) :: st) M o) : Rf G l X pc ls (.int x :: st) M o := Rf.go (fun p e R s m args below meth c cells slots H locs lsR Q hC hL k => lv_i2b hC.1 hC.2.1 hd rfl k) k
end RfRows
end
section
section RfRows
variable {G : am_G} {l : Launch} {X : am_X} {pc : Nat} {ls st : List Value} {M : am_M} {o : am_R} {x y : Int32} {xl yl : Int64} {i : Nat} {A B : am_R}
theorem r_i2c (hd : decode (xC X) pc = .ok (.i2c, 1)) (k : Rf G l X (pc + 1) ls (.int ((x.toUInt32 % 65536).toInt32) :: st) M o) : Rf G l X pc ls (.int x :: st) M o := Rf.go (fun p e R s m args below meth c cells slots H locs lsR Q hC hL k => lv_i2c hC.1 hC.2.1 hd rfl k) k
theorem r_lshl (hd : decode (xC X) pc = .ok (.lshl, 1)) (k : Rf G l X (pc + 1) ls (.long (xl <<< (y.toInt64 &&& 63)) :: st) M o) : Rf G l X pc ls (.int y :: .long xl :: st) M o := Rf.go (fun p e R s m args below meth c cells slots H locs lsR Q hC hL k => lv_lshl hC.1 hC.2.1 hd rfl k) k
theorem r_dup {v : Value} (hd : decode (xC X) pc = .ok (.dup, 1)) (hv : v.category = 1) (k : Rf G l X (pc + 1) ls (v :: v :: st) M o) : Rf G l X pc ls (v :: st) M o := Rf.go (fun p e R s m args below meth c cells slots H locs lsR Q hC hL k => lv_dup hC.1 hC.2.1 hd (by rw [rv_cat hC.2.2.2.2.2.2.2.2.2.2]; exact hv) k) k
theorem r_pop {v : Value} (hd : decode (xC X) pc = .ok (.pop, 1)) (hv : v.category = 1) (k : Rf G l X (pc + 1) ls st M o) : Rf G l X pc ls (v :: st) M o := Rf.go (fun p e R s m args below meth c cells slots H locs lsR Q hC hL k => lv_pop hC.1 hC.2.1 hd (by rw [rv_cat hC.2.2.2.2.2.2.2.2.2.2]; exact hv) k) k
theorem r_dup2 {v w : Value} (hd : decode (xC X) pc = .ok (.dup2, 1)) (hv : v.category = 1) (hw : w.category = 1) (k : Rf G l X (pc + 1) ls (v :: w :: v :: w :: st) M o) : Rf G l X pc ls (v :: w :: st) M o := Rf.go (fun p e R s m args below meth c cells slots H locs lsR Q hC hL k => lv_dup2_11 hC.1 hC.2.1 hd (by rw [rv_cat hC.2.2.2.2.2.2.2.2.2.2]; exact hv) (by rw [rv_cat hC.2.2.2.2.2.2.2.2.2.2]; exact hw) k) k
theorem r_goto {off : Int} {tgt : Nat} (hd : decode (xC X) pc = .ok (.goto off, 3)) (ht : (pc : Int) + off = (tgt : Int)) (k : Rf G l X tgt ls st M o) : Rf G l X pc ls st M o := Rf.go (fun p e R s m args below meth c cells slots H locs lsR Q hC hL k => lv_goto hC.1 hC.2.1 hd ht k) k
theorem r_ifnull {off : Int} {a : Nat} (hd : decode (xC X) pc = .ok (.ifnull off, 3)) (k : Rf G l X (pc + 3) ls st M o) : Rf G l X pc ls (.ref a :: st) M o := Rf.go (fun p e R s m args below meth c cells slots H locs lsR Q hC hL k => lv_ifnull hC.1 hC.2.1 hd k) k
theorem r_ifnullN {off : Int} {tgt : Nat} (hd : decode (xC X) pc = .ok (.ifnull off, 3)) (ht : (pc : Int) + off = (tgt : Int)) (k : Rf G l X tgt ls st M o) : Rf G l X pc ls (.null :: st) M o := Rf.go (fun p e R s m args below meth c cells slots H locs lsR Q hC hL k => lv_ifnullN hC.1 hC.2.1 hd ht k) k
theorem r_ifnonnull {off : Int} {a tgt : Nat} (hd : decode (xC X) pc = .ok (.ifnonnull off, 3)) (ht : (pc : Int) + off = (tgt : Int)) (k : Rf G l X tgt ls st M o) : Rf G l X pc ls (.ref a :: st) M o := Rf.go (fun p e R s m args below meth c cells slots H locs lsR Q hC hL k => lv_ifnonnull hC.1 hC.2.1 hd ht k) k
theorem r_ifnonnullN {off : Int} (hd : decode (xC X) pc = .ok (.ifnonnull off, 3)) (k : Rf G l X (pc + 3) ls st M o) : Rf G l X pc ls (.null :: st) M o := Rf.go (fun p e R s m args below meth c cells slots H locs lsR Q hC hL k => lv_ifnonnullN hC.1 hC.2.1 hd k) k
theorem r_idiv (hd : decode (xC X) pc = .ok (.idiv, 1)) (k : Rf G l X (pc + 1) ls (.int (x / y) :: st) M o) : Rf G l X pc ls (.int y :: .int x :: st) M (dZ y o) := by
  by_cases h : y = 0
  · rw [dZ, if_pos h]; exact Rf.no
  · rw [dZ, if_neg h]; exact Rf.go (fun p e R s m args below meth c cells slots H locs lsR Q hC hL k => lv_idiv hC.1 hC.2.1 hd h k) k
theorem r_irem (hd : decode (xC X) pc = .ok (.irem, 1)) (k : Rf G l X (pc + 1) ls (.int (x - x / y * y) :: st) M o) : Rf G l X pc ls (.int y :: .int x :: st) M (dZ y o) := by
  by_cases h : y = 0
  · rw [dZ, if_pos h]; exact Rf.no
  · rw [dZ, if_neg h]; exact Rf.go (fun p e R s m args below meth c cells slots H locs lsR Q hC hL k => lv_irem hC.1 hC.2.1 hd h k) k
theorem r_ldiv (hd : decode (xC X) pc = .ok (.ldiv, 1)) (k : Rf G l X (pc + 1) ls (.long (xl / yl) :: st) M o) : Rf G l X pc ls (.long yl :: .long xl :: st) M (dZL yl o) := by
  by_cases h : yl = 0
  · rw [dZL, if_pos h]; exact Rf.no
  · rw [dZL, if_neg h]; exact Rf.go (fun p e R s m args below meth c cells slots H locs lsR Q hC hL k => lv_ldiv hC.1 hC.2.1 hd h k) k
theorem r_lrem (hd : decode (xC X) pc = .ok (.lrem, 1)) (k : Rf G l X (pc + 1) ls (.long (xl - xl / yl * yl) :: st) M o) : Rf G l X pc ls (.long yl :: .long xl :: st) M (dZL yl o) := by
  by_cases h : yl = 0
  · rw [dZL, if_pos h]; exact Rf.no
  · rw [dZL, if_neg h]; exact Rf.go (fun p e R s m args below meth c cells slots H locs lsR Q hC hL k => lv_lrem hC.1 hC.2.1 hd h k) k
/-- a divisor that is a number not 0 -/
theorem r_idivk (hd : decode (xC X) pc = .ok (.idiv, 1)) (h : ¬ y = 0) (k : Rf G l X (pc + 1) ls (.int (x / y) :: st) M o) : Rf G l X pc ls (.int y :: .int x :: st) M o := Rf.go (fun p e R s m args below meth c cells slots H locs lsR Q hC hL k => lv_idiv hC.1 hC.2.1 hd h k) k
theorem r_iremk (hd : decode (xC X) pc = .ok (.irem, 1)) (h : ¬ y = 0) (k : Rf G l X (pc + 1) ls (.int (x - x / y * y) :: st) M o) : Rf G l X pc ls (.int y :: .int x :: st) M o := Rf.go (fun p e R s m args below meth c cells slots H locs lsR Q hC hL k => lv_irem hC.1 hC.2.1 hd h k) k
theorem r_ldivk (hd : decode (xC X) pc = .ok (.ldiv, 1)) (h : ¬ yl = 0) (k : Rf G l X (pc + 1) ls (.long (xl / yl) :: st) M o) : Rf G l X pc ls (.long yl :: .long xl :: st) M o := Rf.go (fun p e R s m args below meth c cells slots H locs lsR Q hC hL k => lv_ldiv hC.1 hC.2.1 hd h k) k
theorem Rf.br {c : Prop} [Decidable c] {pc1 pc2 : Nat} {st' : List Value}
    (h : ∀ (p : Program) (e : Env) (R : Room) (s : State) (m : MethodId) (args : Array Value) (below : List Frame) (meth : Method) (c' : Code) (cells slots : Nat) (H : Heap) (locs : List Loc) (lsR : Array Slot) (Q : State → Prop), am_C G X p R s m meth c' → (c → W p l e R s m args below meth c' H locs cells slots Q (F0 m pc1 lsR (st'.map (rv G)))) → (¬ c → W p l e R s m args below meth c' H locs cells slots Q (F0 m pc2 lsR (st'.map (rv G)))) → W p l e R s m args below meth c' H locs cells slots Q (F0 m pc lsR (st.map (rv G))))
    (ka : Rf G l X pc1 ls st' M A) (kb : Rf G l X pc2 ls st' M B) : Rf G l X pc ls st M (if c then A else B) := by
  by_cases hc : c
  · rw [if_pos hc]
    exact Rf.go (fun p e R s m args below meth c cells slots H locs lsR Q hC hL k => h p e R s m args below meth c cells slots H locs lsR Q hC (fun _ => k) (fun q => absurd hc q)) ka
  · rw [if_neg hc]
    exact Rf.go (fun p e R s m args below meth c cells slots H locs lsR Q hC hL k => h p e R s m args below meth c cells slots H locs lsR Q hC (fun q => absurd q hc) (fun _ => k)) kb
theorem r_if_eq {off : Int} {tgt : Nat} (hd : decode (xC X) pc = .ok (.ifCond .eq off, 3)) (ht : (pc : Int) + off = (tgt : Int)) (ka : Rf G l X tgt ls st M A) (kb : Rf G l X (pc + 3) ls st M B) : Rf G l X pc ls (.int x :: st) M (if x = 0 then A else B) := Rf.br (fun p e R s m args below meth c cells slots H locs lsR Q hC ka kb => lv_if_eq hC.1 hC.2.1 hd ht ka kb) ka kb
theorem r_if_lt {off : Int} {tgt : Nat} (hd : decode (xC X) pc = .ok (.ifCond .lt off, 3)) (ht : (pc : Int) + off = (tgt : Int)) (ka : Rf G l X tgt ls st M A) (kb : Rf G l X (pc + 3) ls st M B) : Rf G l X pc ls (.int x :: st) M (if x < 0 then A else B) := Rf.br (fun p e R s m args below meth c cells slots H locs lsR Q hC ka kb => lv_if_lt hC.1 hC.2.1 hd ht ka kb) ka kb
theorem r_if_ge {off : Int} {tgt : Nat} (hd : decode (xC X) pc = .ok (.ifCond .ge off, 3)) (ht : (pc : Int) + off = (tgt : Int)) (ka : Rf G l X tgt ls st M A) (kb : Rf G l X (pc + 3) ls st M B) : Rf G l X pc ls (.int x :: st) M (if 0 ≤ x then A else B) := Rf.br (fun p e R s m args below meth c cells slots H locs lsR Q hC ka kb => lv_if_ge hC.1 hC.2.1 hd ht ka kb) ka kb
theorem r_if_gt {off : Int} {tgt : Nat} (hd : decode (xC X) pc = .ok (.ifCond .gt off, 3)) (ht : (pc : Int) + off = (tgt : Int)) (ka : Rf G l X tgt ls st M A) (kb : Rf G l X (pc + 3) ls st M B) : Rf G l X pc ls (.int x :: st) M (if 0 < x then A else B) := Rf.br (fun p e R s m args below meth c cells slots H locs lsR Q hC ka kb => lv_if_gt hC.1 hC.2.1 hd ht ka kb) ka kb
theorem r_if_le {off : Int} {tgt : Nat} (hd : decode (xC X) pc = .ok (.ifCond .le off, 3)) (ht : (pc : Int) + off = (tgt : Int)) (ka : Rf G l X tgt ls st M A) (kb : Rf G l X (pc + 3) ls st M B) : Rf G l X pc ls (.int x :: st) M (if x ≤ 0 then A else B) := Rf.br (fun p e R s m args below meth c cells slots H locs lsR Q hC ka kb => lv_if_le hC.1 hC.2.1 hd ht ka kb) ka kb
theorem r_if_ne {off : Int} {tgt : Nat} (hd : decode (xC X) pc = .ok (.ifCond .ne off, 3)) (ht : (pc : Int) + off = (tgt : Int)) (ka : Rf G l X (pc + 3) ls st M A) (kb : Rf G l X tgt ls st M B) : Rf G l X pc ls (.int x :: st) M (if x = 0 then A else B) := Rf.br (fun p e R s m args below meth c cells slots H locs lsR Q hC ka kb => lv_if_ne hC.1 hC.2.1 hd ht kb ka) ka kb
theorem r_icmp_eq {off : Int} {tgt : Nat} (hd : decode (xC X) pc = .ok (.if_icmp .eq off, 3)) (ht : (pc : Int) + off = (tgt : Int)) (ka : Rf G l X tgt ls st M A) (kb : Rf G l X (pc + 3) ls st M B) : Rf G l X pc ls (.int y :: .int x :: st) M (if x = y then A else B) := Rf.br (fun p e R s m args below meth c cells slots H locs lsR Q hC ka kb => lv_icmp_eq hC.1 hC.2.1 hd ht ka kb) ka kb
theorem r_icmp_lt {off : Int} {tgt : Nat} (hd : decode (xC X) pc = .ok (.if_icmp .lt off, 3)) (ht : (pc : Int) + off = (tgt : Int)) (ka : Rf G l X tgt ls st M A) (kb : Rf G l X (pc + 3) ls st M B) : Rf G l X pc ls (.int y :: .int x :: st) M (if x < y then A else B) := Rf.br (fun p e R s m args below meth c cells slots H locs lsR Q hC ka kb => lv_icmp_lt hC.1 hC.2.1 hd ht ka kb) ka kb
theorem r_icmp_ge {off : Int} {tgt : Nat} (hd : decode (xC X) pc = .ok (.if_icmp .ge off, 3)) (ht : (pc : Int) + off = (tgt : Int)) (ka : Rf G l X tgt ls st M A) (kb : Rf G l X (pc + 3) ls st M B) : Rf G l X pc ls (.int y :: .int x :: st) M (if y ≤ x then A else B) := Rf.br (fun p e R s m args below meth c cells slots H locs lsR Q hC ka kb => lv_icmp_ge hC.1 hC.2.1 hd ht ka kb) ka kb
theorem r_icmp_gt {off : Int} {tgt : Nat} (hd : decode (xC X) pc = .ok (.if_icmp .gt off, 3)) (ht : (pc : Int) + off = (tgt : Int)) (ka : Rf G l X tgt ls st M A) (kb : Rf G l X (pc + 3) ls st M B) : Rf G l X pc ls (.int y :: .int x :: st) M (if y < x then A else B) := Rf.br (fun p e R s m args below meth c cells slots H locs lsR Q hC ka kb => lv_icmp_gt hC.1 hC.2.1 hd ht ka kb) ka kb
theorem r_icmp_le {off : Int} {tgt : Nat} (hd : decode (xC X) pc = .ok (.if_icmp .le off, 3)) (ht : (pc : Int) + off = (tgt : Int)) (ka : Rf G l X tgt ls st M A) (kb : Rf G l X (pc + 3) ls st M B) : Rf G l X pc ls (.int y :: .int x :: st) M (if x ≤ y then A else B) := Rf.br (fun p e R s m args below meth c cells slots H locs lsR Q hC ka kb => lv_icmp_le hC.1 hC.2.1 hd ht ka kb) ka kb
theorem r_icmp_ne {off : Int} {tgt : Nat} (hd : decode (xC X) pc = .ok (.if_icmp .ne off, 3)) (ht : (pc : Int) + off = (tgt : Int)) (ka : Rf G l X (pc + 3) ls st M A) (kb : Rf G l X tgt ls st M B) : Rf G l X pc ls (.int y :: .int x :: st) M (if x = y then A else B) := Rf.br (fun p e R s m args below meth c cells slots H locs lsR Q hC ka kb => lv_icmp_ne hC.1 hC.2.1 hd ht kb ka) ka kb
theorem r_tsIn {dflt lo hi off : Int} {offs : Array Int} {len tgt : Nat} (hd : decode (xC X) pc = .ok (.tableswitch dflt lo hi offs, len)) (h1 : ¬ x.toInt < lo) (h2 : ¬ hi < x.toInt) (ho : offs[(x.toInt - lo).toNat]? = some off) (ht : (pc : Int) + off = (tgt : Int)) (k : Rf G l X tgt ls st M o) : Rf G l X pc ls (.int x :: st) M o := Rf.go (fun p e R s m args below meth c cells slots H locs lsR Q hC hL k => lv_tableIn hC.1 hC.2.1 hd h1 h2 ho ht k) k
theorem r_tsOut {dflt lo hi : Int} {offs : Array Int} {len tgt : Nat} (hd : decode (xC X) pc = .ok (.tableswitch dflt lo hi offs, len)) (h : x.toInt < lo ∨ hi < x.toInt) (ht : (pc : Int) + dflt = (tgt : Int)) (k : Rf G l X tgt ls st M o) : Rf G l X pc ls (.int x :: st) M o := Rf.go (fun p e R s m args below meth c cells slots H locs lsR Q hC hL k => lv_tableOut hC.1 hC.2.1 hd h ht k) k
/-! returns -/
theorem Rf.ret {v : Option Value} {st : List Value}
    (h : ∀ (p : Program) (e : Env) (R : Room) (s : State) (m : MethodId) (args : Array Value) (below : List Frame) (meth : Method) (c : Code) (cells slots : Nat) (H : Heap) (locs : List Loc) (lsR : Array Slot) (Qc : Array Value → State → Outcome → State → Prop), am_C G X p R s m meth c → (∀ t : State, t.heap = H → s.WarmedH t.vm → Qc args s (.returned (v.map (rv G))) t) → (∀ q ∈ locs, gA G q.base) → W p l e R s m args below meth c H locs cells slots (MQ below Qc args s cells slots (gA G)) (F0 m pc lsR (st.map (rv G)))) : Rf G l X pc ls st M (some (v, M)) := by
  intro v' M' ho
  cases ho
  refine ⟨⟨Nat.le_refl _, Nat.le_refl _⟩, fun p e R s m args below meth c n0 u0 cells slots H locs lsR hC h1 h2 h3 h4 hH hS hL => ?_⟩
  have e1 : R.cells = cells := by omega
  have e2 : R.slots = slots := by omega
  rw [e1, e2]
  exact h p e R s m args below meth c cells slots H locs lsR _ hC (fun t ht hW => ⟨rfl, by rw [ht]; exact hH, hS.F ht⟩) hS.2.2
theorem r_iret (hd : decode (xC X) pc = .ok (.ireturn, 1)) (hr : xT X = some .int) : Rf G l X pc ls [.int x] M (some (some (.int x), M)) := Rf.ret (fun p e R s m args below meth c cells slots H locs lsR Qc hC hq hf => W.iret hC.1 hC.2.1 (hC.2.2.2.1.trans hr) hq hf hd hC.2.2.2.2.1)
theorem r_zret {ty : FieldType} (hd : decode (xC X) pc = .ok (.ireturn, 1)) (hr : xT X = some ty) (hn : narrow ty (.int x) = .int x) : Rf G l X pc ls [.int x] M (some (some (.int x), M)) := Rf.ret (fun p e R s m args below meth c cells slots H locs lsR Qc hC hq hf => W.zret hC.1 hC.2.1 (hC.2.2.2.1.trans hr) hn hq hf hd hC.2.2.2.2.1)
theorem r_lret (hd : decode (xC X) pc = .ok (.lreturn, 1)) (hr : xT X = some .long) : Rf G l X pc ls [.long xl] M (some (some (.long xl), M)) := Rf.ret (fun p e R s m args below meth c cells slots H locs lsR Qc hC hq hf => W.lret hC.1 hC.2.1 (hC.2.2.2.1.trans hr) hq hf hd hC.2.2.2.2.1)
theorem r_aret {a : Nat} {rt : FieldType} (hd : decode (xC X) pc = .ok (.areturn, 1)) (hr : xT X = some rt) (hrt : (∃ n, rt = .object n) ∨ ∃ t, rt = .array t) : Rf G l X pc ls [.ref a] M (some (some (.ref a), M)) := Rf.ret (fun p e R s m args below meth c cells slots H locs lsR Qc hC hq hf => W.aret hC.1 hC.2.1 (hC.2.2.2.1.trans hr) hrt (Or.inr ⟨_, rfl⟩) hq hf hd hC.2.2.2.2.1)
theorem r_aretN {rt : FieldType} (hd : decode (xC X) pc = .ok (.areturn, 1)) (hr : xT X = some rt) (hrt : (∃ n, rt = .object n) ∨ ∃ t, rt = .array t) : Rf G l X pc ls [.null] M (some (some .null, M)) := Rf.ret (fun p e R s m args below meth c cells slots H locs lsR Qc hC hq hf => W.aret hC.1 hC.2.1 (hC.2.2.2.1.trans hr) hrt (Or.inl rfl) hq hf hd hC.2.2.2.2.1)
theorem r_vret (hd : decode (xC X) pc = .ok (.return_, 1)) (hr : xT X = none) : Rf G l X pc ls [] M (some (none, M)) := Rf.ret (fun p e R s m args below meth c cells slots H locs lsR Qc hC hq hf => W.vret hC.1 hC.2.1 (hC.2.2.2.1.trans hr) hq hf hd hC.2.2.2.2.1)
end RfRows
end
section
/-! ===== rows over the heap ===== -/
def am_dv (c k : Nat) : Value := match am_ft c k with
  | 0 => .int 0
  | 1 => .long 0
  | _ => .null
def am_Cl (c : Nat) (C : String) (T : u_T) (N : Nat) (ty : Nat → FieldType) : Prop :=
  am_cl[c]? = some (C, T, N) ∧ (∀ k, k < N → parseFieldDescriptor (T k).2.2.1 = some (ty k)) ∧ (∀ a, a < N → ∀ b, b < N → a ≠ b → (T a).2.1 ≠ (T b).2.1) ∧ (∀ w ∈ u_ws C T N, w ∈ am_ws) ∧ am_nf c = N ∧ (∀ k, k < N → (T k).1 = C) ∧ ∀ k, k < N → defaultValue (ty k) = am_dv c k
def am_fl (own : String) (idx c k : Nat) (tk : FieldType) (fin : Bool) : Prop := ∃ (C : String) (T : u_T) (N : Nat) (ty : Nat → FieldType), am_Cl c C T N ty ∧ k < N ∧ ty k = tk ∧ (T k).2.2.2 = fin ∧ Cond.fieldLink own idx C (T k).2.1 (T k).2.2.1 ∈ am_ws
theorem cl_lt {c : Nat} {q : vw_C} (h : am_cl[c]? = some q) : c < 10 := (List.getElem?_eq_some_iff.mp h).1
section RfRows
variable {G : am_G} {l : Launch} {X : am_X} {pc : Nat} {ls st : List Value} {M : am_M} {o : am_R} {x y : Int32} {xl yl : Int64} {i : Nat} {A B : am_R}
theorem Rf.goH {pc' : Nat} {st' : List Value}
    (h : ∀ (p : Program) (e : Env) (R : Room) (s : State) (m : MethodId) (args : Array Value) (below : List Frame) (meth : Method) (c : Code) (cells slots : Nat) (H : Heap) (locs : List Loc) (lsR : Array Slot) (Q : State → Prop), am_C G X p R s m meth c → am_Hp G M H → va_S (gA G) s.heap H locs → LV G (xL X) ls lsR → W p l e R s m args below meth c H locs cells slots Q (F0 m pc' lsR (st'.map (rv G))) → W p l e R s m args below meth c H locs cells slots Q (F0 m pc lsR (st.map (rv G))))
    (k : Rf G l X pc' ls st' M o) : Rf G l X pc ls st M o := by
  intro v M' ho
  obtain ⟨hm, k⟩ := k v M' ho
  exact ⟨hm, fun p e R s m args below meth c n0 u0 cells slots H locs lsR hC h1 h2 h3 h4 hH hS hL => h p e R s m args below meth c cells slots H locs lsR _ hC hH hS hL (k p e R s m args below meth c n0 u0 cells slots H locs lsR hC h1 h2 h3 h4 hH hS hL)⟩
theorem Rf.goM {M1 : am_M} {pc' : Nat} {st' : List Value} (hx : mNx M1 = mNx M) (hu : mUs M1 = mUs M)
    (h : ∀ (p : Program) (e : Env) (R : Room) (s : State) (m : MethodId) (args : Array Value) (below : List Frame) (meth : Method) (c : Code) (cells slots : Nat) (H : Heap) (locs : List Loc) (lsR : Array Slot) (Q : State → Prop), am_C G X p R s m meth c → am_Hp G M H → va_S (gA G) s.heap H locs → LV G (xL X) ls lsR → (∀ (H1 : Heap) (locs1 : List Loc), am_Hp G M1 H1 → va_S (gA G) s.heap H1 locs1 → W p l e R s m args below meth c H1 locs1 cells slots Q (F0 m pc' lsR (st'.map (rv G)))) → W p l e R s m args below meth c H locs cells slots Q (F0 m pc lsR (st.map (rv G))))
    (k : Rf G l X pc' ls st' M1 o) : Rf G l X pc ls st M o := by
  intro v M' ho
  obtain ⟨hm, k⟩ := k v M' ho
  rw [hx, hu] at hm
  exact ⟨hm, fun p e R s m args below meth c n0 u0 cells slots H locs lsR hC h1 h2 h3 h4 hH hS hL => h p e R s m args below meth c cells slots H locs lsR _ hC hH hS hL (fun H1 locs1 hH1 hS1 => k p e R s m args below meth c n0 u0 cells slots H1 locs1 lsR hC h1 h2 (by rw [hx]; exact h3) (by rw [hu]; exact h4) hH1 hS1 hL)⟩
theorem Rf.goN {t n pc' : Nat} {st' : List Value}
    (h : ∀ (p : Program) (e : Env) (R : Room) (s : State) (m : MethodId) (args : Array Value) (below : List Frame) (meth : Method) (c : Code) (cells slots : Nat) (H : Heap) (locs : List Loc) (lsR : Array Slot) (Q : State → Prop), am_C G X p R s m meth c → am_Hp G M H → va_S (gA G) s.heap H locs → LV G (xL X) ls lsR → cells + 1 ≤ R.cells → slots + n ≤ R.slots → (∀ (H1 : Heap), am_Hp G (mkC M t n) H1 → va_S (gA G) s.heap H1 locs → W p l e R s m args below meth c H1 locs (cells + 1) (slots + n) Q (F0 m pc' lsR (st'.map (rv G)))) → W p l e R s m args below meth c H locs cells slots Q (F0 m pc lsR (st.map (rv G))))
    (k : Rf G l X pc' ls st' (mkC M t n) o) : Rf G l X pc ls st M o := by
  intro v M' ho
  obtain ⟨hm, k⟩ := k v M' ho
  rw [mNx_mkC, mUs_mkC] at hm
  exact ⟨⟨by omega, by omega⟩, fun p e R s m args below meth c n0 u0 cells slots H locs lsR hC h1 h2 h3 h4 hH hS hL => h p e R s m args below meth c cells slots H locs lsR _ hC hH hS hL (by omega) (by omega) (fun H1 hH1 hS1 => k p e R s m args below meth c n0 u0 (cells + 1) (slots + n) H1 locs lsR hC h1 h2 (by rw [mNx_mkC]; omega) (by rw [mUs_mkC]; omega) hH1 hS1 hL)⟩
/-! fields -/
variable {a b c k idx : Nat} {tk : FieldType} {fin : Bool}
theorem r_fI {f : Int32 → am_R} (hd : decode (xC X) pc = .ok (.getfield idx, 3)) (hf : am_fl (xO X) idx c k tk fin) (ht : am_ft c k = 0) (kk : ∀ x, Rf G l X (pc + 3) ls (.int x :: st) M (f x)) : Rf G l X pc ls (.ref a :: st) M (fI M a (c + 4) k f) := by
  unfold fI
  refine Rf.ite (fun h => ?_) (fun _ => Rf.no)
  obtain ⟨C, T, N, ty, ⟨c1, c2, c3, c4, c5, c6, c7⟩, hk, -, -, hw⟩ := hf
  have hc9 := cl_lt c1
  have ha := kd_lt h (by omega)
  refine Rf.goH (fun p e R s m args below meth cd cells slots H locs lsR Q hC hH hS hL k2 => ?_) (kk (rI M a k))
  exact va_get (Ts := am_ws) hC.1 hC.2.1 (fun w hw => hC.2.2.2.2.2.2.2.2.2.2.1 w hw args) c4 hC.2.2.2.2.2.2.1 hC.2.2.2.2.2.2.2.2.2.2.2.1 hH.2 a (by rw [wd_at ha, cell_obj h]) c1 k hk (hC.2.2.2.2.2.2.2.2.2.2.1 _ hw args) (fun z hz => by rw [c6 k hk] at hz; exact hz) (by rw [fs_at (by omega), fv_I ht]; rfl) hd k2
theorem r_fR {f : Nat → am_R} (hd : decode (xC X) pc = .ok (.getfield idx, 3)) (hf : am_fl (xO X) idx c k tk fin) (ht : am_ft c k = 2) (kk : ∀ b, Rf G l X (pc + 3) ls (.ref b :: st) M (f b)) : Rf G l X pc ls (.ref a :: st) M (fR M a (c + 4) k f) := by
  unfold fR
  refine Rf.ite (fun h => ?_) (fun _ => Rf.no)
  obtain ⟨C, T, N, ty, ⟨c1, c2, c3, c4, c5, c6, c7⟩, hk, -, -, hw⟩ := hf
  have hc9 := cl_lt c1
  have ha := kd_lt h (by omega)
  cases hr : rR M a k with
  | none => exact Rf.no
  | some b =>
    refine Rf.goH (fun p e R s m args below meth cd cells slots H locs lsR Q hC hH hS hL k2 => ?_) (kk b)
    exact va_get (Ts := am_ws) hC.1 hC.2.1 (fun w hw => hC.2.2.2.2.2.2.2.2.2.2.1 w hw args) c4 hC.2.2.2.2.2.2.1 hC.2.2.2.2.2.2.2.2.2.2.2.1 hH.2 a (by rw [wd_at ha, cell_obj h]) c1 k hk (hC.2.2.2.2.2.2.2.2.2.2.1 _ hw args) (fun z hz => by rw [c6 k hk] at hz; exact hz) (by rw [fs_at (by omega), fv_R ht, hr]; rfl) hd k2
/-- a store into a field, by the cell -/
theorem am_putf {p : Program} {e : Env} {R : Room} {s : State} {m : MethodId} {args : Array Value} {below : List Frame} {meth : Method} {cd : Code} {cells slots : Nat} {H : Heap} {locs : List Loc} {lsR : Array Slot} {Q : State → Prop} {M1 : am_M} {v : Value} {rest : List Value} (hC : am_C G X p R s m meth cd) (hH : am_Hp G M H) (hS : va_S (gA G) s.heap H locs) (hd : decode (xC X) pc = .ok (.putfield idx, 3)) (hf : am_fl (xO X) idx c k tk fin) (hfin : fin = false ∨ (xN X = "<init>" ∧ (am_cl.map (fun z => z.1)).getD c "" = xO X)) (h : mKd M a = c + 4) (hn : narrow tk v = v) (hfit : fits tk v = true) (hx : mNx M1 = mNx M) (ho : ∀ j, j ≠ a → am_cell G M1 j = am_cell G M j) (hk1 : mKd M1 a = c + 4) (hset : (am_fs G M a c).set k v = am_fs G M1 a c)
    (kk : ∀ (H1 : Heap) (locs1 : List Loc), am_Hp G M1 H1 → va_S (gA G) s.heap H1 locs1 → W p l e R s m args below meth cd H1 locs1 cells slots Q (F0 m (pc + 3) lsR rest)) : W p l e R s m args below meth cd H locs cells slots Q (F0 m pc lsR (v :: .ref (gB G + a) :: rest)) := by
  obtain ⟨C, T, N, ty, ⟨c1, c2, c3, c4, c5, c6, c7⟩, hk, htk, hfn, hw⟩ := hf
  have hc9 := cl_lt c1
  have ha := kd_lt h (by omega)
  have hts : ∀ w ∈ am_ws, w.before args s = true := fun w hw => hC.2.2.2.2.2.2.2.2.2.2.1 w hw args
  have hK := hC.2.2.2.2.2.2.2.2.2.2.2.1
  have hown := hC.2.2.2.2.2.2.1
  have hlink := hts _ hw
  have he : (am_wd G M)[a]? = some (gB G + a, .inr (c, am_fs G M a c)) := by rw [wd_at ha, cell_obj h]
  have hap := va_apart (own := xO X) hts c4 ty c2 c3 hK c1
  obtain ⟨r, h1, cell, q1, q2, q3, q4⟩ := hH.2 a _ he
  have hr : r = (C, T, N) := Option.some.inj (h1.symm.trans c1)
  subst hr
  obtain ⟨hSl, hfc, kC, hkC, hkind⟩ := hK.1 c _ c1
  obtain ⟨cf, kf, fi, f, hi, hsl⟩ := hSl k hk
  have hi' : s.fieldFound? C (T k).2.1 (T k).2.2.1 = some (cf, kf, fi, f) := by rw [← c6 k hk]; exact hi
  have hlay := hts _ (c4 _ (u_in_lay hk))
  have hd2 : parseFieldDescriptor (T k).2.2.1 = some tk := by rw [← htk]; exact c2 k hk
  have hst := (u_facts hfc hkC (u_lays hts c4 hk) hi).1
  have hl : k < (am_fs G M a c).length := by simp [am_fs]; omega
  have fini : ∀ H' : Heap, H'[gB G + a]? = some (cell.setSlot f.slot v) → H'.size = H.size → (∀ q, q ≠ gB G + a → H'[q]? = H[q]?) → W p l e R s m args below meth cd H' (locs ++ [⟨gB G + a, f.slot⟩]) cells slots Q (F0 m (pc + 3) lsR rest) := by
    intro H' e1 e2 e3
    rw [hsl] at e1 ⊢
    have hP1 := hH.2.set (wd_D G M) (e := .inr (c, (am_fs G M a c).set k v)) he ⟨_, c1, t_OB.to (V := updV (vp_V (am_fs G M a c)) k v) ⟨_, e1, q2, q3, t_set q4 hap hk v⟩ (fun j _ => vp_updV_set hl v j)⟩ e3
    refine kk H' _ (hH.put hx ho (by rw [cell_obj hk1, ← hset]) e2 hP1) (hS.put e2 e3 (Nat.le_add_right _ _))
  by_cases hff : fin = false
  · unfold u_lay at hlay
    rw [if_neg (by rw [hfn, hff]; decide)] at hlay
    have h6 := u_store hfc hkC hkind hlay hi hd2 hn hfit
    exact W.putK hC.1 hC.2.1 (f := f) ⟨hown, hlink, ⟨_, _, _, hi'⟩, hst⟩ (by rw [q2]; exact h6) q1 q3 (by rw [hsl]; exact k2_hasslot (q4 k hk)) rfl rfl hd fini
  · have hft : fin = true := by cases fin <;> simp_all
    obtain ⟨hin2, hdecl⟩ := hfin.resolve_left hff
    have hC' : C = xO X := by
      have h9 : (am_cl.map (fun z => z.1))[c]? = some C := by rw [List.getElem?_map, c1]; rfl
      rw [← hdecl, List.getD_eq_getElem?_getD, h9]
      rfl
    unfold u_lay at hlay
    rw [if_pos (by rw [hfn, hft])] at hlay
    have hcf : m.cls = cf := by
      obtain ⟨_, _, c', _, _, _, -, -, hf', -, -, -, hown2, -⟩ := Cond.laysFinal_spec hlay
      have e1 : c' = cf := by have := hi.symm.trans hf'; simp at this; exact this.1.symm
      rw [c6 k hk, hC'] at hown2
      rw [← e1]; exact Option.some.inj (hown.symm.trans hown2)
    have h6 := u_fits hfc hkC hkind (Or.inr hlay) hi hd2 hn hfit
    exact W.putFinK hC.1 hC.2.1 hown hlink hi' hst hcf (hC.2.2.2.2.2.1.trans hin2) (by rw [q2]; exact h6) q1 q3 (by rw [hsl]; exact k2_hasslot (q4 k hk)) rfl rfl hd fini
theorem r_sI {f : am_M → am_R} (hd : decode (xC X) pc = .ok (.putfield idx, 3)) (hf : am_fl (xO X) idx c k tk false) (ht : am_ft c k = 0) (hn : narrow tk (.int x) = .int x) (hfit : fits tk (.int x) = true) (kk : ∀ M1, Rf G l X (pc + 3) ls st M1 (f M1)) : Rf G l X pc ls (.int x :: .ref a :: st) M (sI M a (c + 4) k x f) := by
  unfold sI
  refine Rf.ite (fun h => ?_) (fun _ => Rf.no)
  refine Rf.goM (M1 := wI M a k x) rfl rfl (fun p e R s m args below meth cd cells slots H locs lsR Q hC hH hS hL k2 => ?_) (kk _)
  exact am_putf (M1 := wI M a k x) (v := .int x) (rest := st.map (rv G)) hC hH hS hd hf (Or.inl rfl) h hn hfit rfl (fun j hj => cell_wI hj) h (fs_wI ht) k2
theorem r_sR {f : am_M → am_R} (hd : decode (xC X) pc = .ok (.putfield idx, 3)) (hf : am_fl (xO X) idx c k tk fin) (ht : am_ft c k = 2) (hfin : fin = false ∨ (xN X = "<init>" ∧ (am_cl.map (fun z => z.1)).getD c "" = xO X)) (hn : ∀ q, narrow tk (.ref q) = .ref q) (hfit : ∀ q, fits tk (.ref q) = true) (kk : ∀ M1, Rf G l X (pc + 3) ls st M1 (f M1)) : Rf G l X pc ls (.ref b :: .ref a :: st) M (sR M a (c + 4) k b f) := by
  unfold sR
  refine Rf.ite (fun h => ?_) (fun _ => Rf.no)
  refine Rf.goM (M1 := wR M a k (some b)) rfl rfl (fun p e R s m args below meth cd cells slots H locs lsR Q hC hH hS hL k2 => ?_) (kk _)
  exact am_putf (M1 := wR M a k (some b)) (v := .ref (gB G + b)) (rest := st.map (rv G)) hC hH hS hd hf hfin h (hn _) (hfit _) rfl (fun j hj => cell_wR hj) h (fs_wR ht) k2
end RfRows
end
section
/-! ===== arrays, new cells, calls ===== -/
section RfRows
variable {G : am_G} {l : Launch} {X : am_X} {pc : Nat} {ls st : List Value} {M : am_M} {o : am_R} {x y : Int32} {xl yl : Int64} {i : Int32} {A B : am_R} {a b c k idx : Nat}
theorem r_aI {f : Int32 → am_R} (hd : decode (xC X) pc = .ok (.iaload, 1)) (kk : ∀ x, Rf G l X (pc + 1) ls (.int x :: st) M (f x)) : Rf G l X pc ls (.int i :: .ref a :: st) M (aI M a i f) := by
  unfold aI
  refine Rf.ite (fun h => ?_) (fun _ => Rf.no)
  refine Rf.goH (fun p e R s m args below meth cd cells slots H locs lsR Q hC hH hS hL k2 => ?_) (kk _)
  exact va_iald hC.1 hC.2.1 hC.2.2.2.2.2.2.2.2.2.2.2.1 hH.2 a 0 (by rw [wd_at (kd_lt h.1), cell_I h.1]) rfl h.2 hd k2
theorem r_aB {f : Int32 → am_R} (hd : decode (xC X) pc = .ok (.baload, 1)) (kk : ∀ x, Rf G l X (pc + 1) ls (.int x :: st) M (f x)) : Rf G l X pc ls (.int i :: .ref a :: st) M (aB M a i f) := by
  unfold aB
  refine Rf.ite (fun h => ?_) (fun _ => Rf.no)
  refine Rf.goH (fun p e R s m args below meth cd cells slots H locs lsR Q hC hH hS hL k2 => ?_) (kk _)
  exact va_bald hC.1 hC.2.1 hC.2.2.2.2.2.2.2.2.2.2.2.1 hH.2 a 2 (by rw [wd_at (kd_lt h.1), cell_B h.1]) rfl h.2 hd k2
theorem r_aL {f : Int64 → am_R} (hd : decode (xC X) pc = .ok (.laload, 1)) (kk : ∀ x, Rf G l X (pc + 1) ls (.long x :: st) M (f x)) : Rf G l X pc ls (.int i :: .ref a :: st) M (aL M a i f) := by
  unfold aL
  refine Rf.ite (fun h => ?_) (fun _ => Rf.no)
  refine Rf.goH (fun p e R s m args below meth cd cells slots H locs lsR Q hC hH hS hL k2 => ?_) (kk _)
  exact va_lald hC.1 hC.2.1 hC.2.2.2.2.2.2.2.2.2.2.2.1 hH.2 a 1 (by rw [wd_at (kd_lt h.1), cell_L h.1]) rfl h.2 hd k2
theorem r_aR {f : Nat → am_R} (hd : decode (xC X) pc = .ok (.aaload, 1)) (kk : ∀ b, Rf G l X (pc + 1) ls (.ref b :: st) M (f b)) : Rf G l X pc ls (.int i :: .ref a :: st) M (aR M a i f) := by
  unfold aR
  refine Rf.ite (fun h => ?_) (fun _ => Rf.no)
  cases hr : rR M a i.toNatClampNeg with
  | none => exact Rf.no
  | some b =>
    refine Rf.goH (fun p e R s m args below meth cd cells slots H locs lsR Q hC hH hS hL k2 => ?_) (kk b)
    refine va_aldq hC.1 hC.2.1 hC.2.2.2.2.2.2.2.2.2.2.2.1 hH.2 a 3 (by rw [wd_at (kd_lt h.1), cell_R h.1]) rfl h.2 hd ?_
    rw [hr]
    exact k2
theorem r_aN {f : Int32 → am_R} (hd : decode (xC X) pc = .ok (.arraylength, 1)) (kk : ∀ x, Rf G l X (pc + 1) ls (.int x :: st) M (f x)) : Rf G l X pc ls (.ref a :: st) M (aN M a f) := by
  unfold aN
  refine Rf.ite (fun h => ?_) (fun _ => Rf.no)
  refine Rf.goH (fun p e R s m args below meth cd cells slots H locs lsR Q hC hH hS hL k2 => ?_) (kk _)
  have ha : a < mNx M := kd_lt (t := mKd M a) rfl (by omega)
  rcases (show mKd M a = 0 ∨ mKd M a = 1 ∨ mKd M a = 2 ∨ mKd M a = 3 by omega) with h1 | h1 | h1 | h1
  · exact va_alen hC.1 hC.2.1 hC.2.2.2.2.2.2.2.2.2.2.2.1 hH.2 a 0 (x := (mLn M a, .inl (rI M a))) (by rw [wd_at ha, cell_I h1]) rfl rfl hd k2
  · exact va_alen hC.1 hC.2.1 hC.2.2.2.2.2.2.2.2.2.2.2.1 hH.2 a 1 (x := (mLn M a, .inr (.inl (rL M a)))) (by rw [wd_at ha, cell_L h1]) rfl rfl hd k2
  · exact va_alen hC.1 hC.2.1 hC.2.2.2.2.2.2.2.2.2.2.2.1 hH.2 a 2 (x := (mLn M a, .inl (rI M a))) (by rw [wd_at ha, cell_B h1]) rfl rfl hd k2
  · exact va_alen hC.1 hC.2.1 hC.2.2.2.2.2.2.2.2.2.2.2.1 hH.2 a 3 (x := (mLn M a, .inr (.inr (.inr (.inr fun j => (rR M a j).map (gB G + ·)))))) (by rw [wd_at ha, cell_R h1]) rfl rfl hd k2
theorem r_tI {f : am_M → am_R} (hd : decode (xC X) pc = .ok (.iastore, 1)) (kk : ∀ M1, Rf G l X (pc + 1) ls st M1 (f M1)) : Rf G l X pc ls (.int x :: .int i :: .ref a :: st) M (tI M a i x f) := by
  unfold tI
  refine Rf.ite (fun h => ?_) (fun _ => Rf.no)
  refine Rf.goM (M1 := wI M a i.toNatClampNeg x) rfl rfl (fun p e R s m args below meth cd cells slots H locs lsR Q hC hH hS hL k2 => ?_) (kk _)
  have he : (am_wd G M)[a]? = some (gB G + a, .inl (gC G 0, mLn M a, .inl (rI M a))) := by rw [wd_at (kd_lt h.1), cell_I h.1]
  have hK := hC.2.2.2.2.2.2.2.2.2.2.2.1
  refine W.iast hC.1 hC.2.1 (hH.2 a _ he) ((hK.2 0 _ rfl).1 (mLn M a) (fun j => .int (rI M a j))) (fun q => by cases q) (by show ¬ (i < 0 ∨ (arrV _ _ _).slots.size ≤ _); rw [arrV_size]; exact h.2) rfl rfl hd fun H1 e z oq => ?_
  refine k2 H1 _ (hH.put rfl (fun j hj => cell_wI hj) (cell_I h.1) z (hH.2.set (wd_D G M) he ?_ oq)) (hS.put z oq (Nat.le_add_right _ _))
  show H1[gB G + a]? = some (vp_cell _ _)
  rw [e, ← upd_wI]
  rw [vp_cell_i, vp_cell_i, arrV_store]
  congr 2
  funext q
  by_cases hq : q = i.toNatClampNeg
  · subst hq
    simp [updV, upd]
  · simp [updV, upd, hq]
theorem r_tB {f : am_M → am_R} (hd : decode (xC X) pc = .ok (.bastore, 1)) (kk : ∀ M1, Rf G l X (pc + 1) ls st M1 (f M1)) : Rf G l X pc ls (.int x :: .int i :: .ref a :: st) M (tB M a i x f) := by
  unfold tB
  refine Rf.ite (fun h => ?_) (fun _ => Rf.no)
  refine Rf.goM (M1 := wI M a i.toNatClampNeg x.toInt8.toInt32) rfl rfl (fun p e R s m args below meth cd cells slots H locs lsR Q hC hH hS hL k2 => ?_) (kk _)
  have he : (am_wd G M)[a]? = some (gB G + a, .inl (gC G 2, mLn M a, .inl (rI M a))) := by rw [wd_at (kd_lt h.1), cell_B h.1]
  have hK := hC.2.2.2.2.2.2.2.2.2.2.2.1
  refine W.bast hC.1 hC.2.1 (hH.2 a _ he) ((hK.2 2 _ rfl).1 (mLn M a) (fun j => .int (rI M a j))) (fun q => by cases q) (by show ¬ (i < 0 ∨ (arrV _ _ _).slots.size ≤ _); rw [arrV_size]; exact h.2) rfl rfl hd fun H1 e z oq => ?_
  refine k2 H1 _ (hH.put rfl (fun j hj => cell_wI hj) (cell_B h.1) z (hH.2.set (wd_D G M) he ?_ oq)) (hS.put z oq (Nat.le_add_right _ _))
  show H1[gB G + a]? = some (vp_cell _ _)
  rw [e, ← upd_wI]
  rw [vp_cell_i, vp_cell_i, arrV_store]
  congr 2
  funext q
  by_cases hq : q = i.toNatClampNeg
  · subst hq
    simp [updV, upd, narrow_byte]
  · simp [updV, upd, hq]
theorem r_tL {f : am_M → am_R} (hd : decode (xC X) pc = .ok (.lastore, 1)) (kk : ∀ M1, Rf G l X (pc + 1) ls st M1 (f M1)) : Rf G l X pc ls (.long xl :: .int i :: .ref a :: st) M (tL M a i xl f) := by
  unfold tL
  refine Rf.ite (fun h => ?_) (fun _ => Rf.no)
  refine Rf.goM (M1 := wL M a i.toNatClampNeg xl) rfl rfl (fun p e R s m args below meth cd cells slots H locs lsR Q hC hH hS hL k2 => ?_) (kk _)
  have he : (am_wd G M)[a]? = some (gB G + a, .inl (gC G 1, mLn M a, .inr (.inl (rL M a)))) := by rw [wd_at (kd_lt h.1), cell_L h.1]
  have hK := hC.2.2.2.2.2.2.2.2.2.2.2.1
  refine W.last hC.1 hC.2.1 (hH.2 a _ he) ((hK.2 1 _ rfl).1 (mLn M a) (fun j => .long (rL M a j))) (fun q => by cases q) (by show ¬ (i < 0 ∨ (arrV _ _ _).slots.size ≤ _); rw [arrV_size]; exact h.2) rfl rfl hd fun H1 e z oq => ?_
  refine k2 H1 _ (hH.put rfl (fun j hj => cell_wL hj) (cell_L h.1) z (hH.2.set (wd_D G M) he ?_ oq)) (hS.put z oq (Nat.le_add_right _ _))
  show H1[gB G + a]? = some (vp_cell _ _)
  rw [e, ← upd_wL]
  rw [vp_cell_l, vp_cell_l, arrV_store]
  congr 2
  funext q
  by_cases hq : q = i.toNatClampNeg
  · subst hq
    simp [updV, vp_updL]
  · simp [updV, vp_updL, hq]
theorem r_tR {f : am_M → am_R} (hd : decode (xC X) pc = .ok (.aastore, 1)) (kk : ∀ M1, Rf G l X (pc + 1) ls st M1 (f M1)) : Rf G l X pc ls (.ref b :: .int i :: .ref a :: st) M (tR M a i 10 b f) := by
  unfold tR
  refine Rf.ite (fun h => ?_) (fun _ => Rf.no)
  refine Rf.goM (M1 := wR M a i.toNatClampNeg (some b)) rfl rfl (fun p e R s m args below meth cd cells slots H locs lsR Q hC hH hS hL k2 => ?_) (kk _)
  have he : (am_wd G M)[a]? = some (gB G + a, .inl (gC G 3, mLn M a, .inr (.inr (.inr (.inr fun j => (rR M a j).map (gB G + ·)))))) := by rw [wd_at (kd_lt h.1), cell_R h.1]
  have hv : (am_wd G M)[b]? = some (gB G + b, .inr (6, am_fs G M b 6)) := by rw [wd_at (kd_lt h.2.1), cell_obj h.2.1]
  have hK := hC.2.2.2.2.2.2.2.2.2.2.2.1
  have hlt : i.toNatClampNeg < mLn M a := Nat.not_le.mp fun q => h.2.2 (Or.inr q)
  have h0 : ¬ i < 0 := fun q => h.2.2 (Or.inl q)
  obtain ⟨r', hr', cellV, g1, g2, g3, -⟩ := hH.2 b _ hv
  have hcls := (hK.1 6 _ (show am_cl[6]? = some (RX6, TX6, 10) from rfl)).2
  obtain ⟨kA, comp, k1, k2', k3, -⟩ := (hK.2 3 _ (show (am_tys G)[3]? = some (gC G 3, .object RX6) from rfl)).2
  have hcomp : comp = (gD G).1 6 := Option.some.inj (k3.symm.trans hcls.1)
  subst hcomp
  obtain ⟨kC, hkC, -⟩ := id hcls.2
  refine W.aast hC.1 hC.2.1 (hH.2 a _ he) (fun q h => by cases h) (fun h => by cases h) k1 k2' rfl hkC ⟨h0, by show _ < (arrV _ _ _).slots.size; rw [arrV_size]; exact hlt⟩ g1 (fun q h => by rw [g3] at h; cases h) (by rw [g2]; exact hkC) (by rw [g2]; exact va_assign hcls) rfl rfl hd fun H1 e z oq => ?_
  refine k2 H1 _ (hH.put rfl (fun j hj => cell_wR hj) (cell_R h.1) z (hH.2.set (wd_D G M) he ?_ oq)) (hS.put z oq (Nat.le_add_right _ _))
  show H1[gB G + a]? = some (vp_cell _ _)
  rw [e, ← upd_wR]
  rw [vp_cell_q, vp_cell_q, arrV_store]
  congr 2
  funext q
  by_cases hq : q = i.toNatClampNeg
  · subst hq
    simp [updV, va_up, va_rf]
  · simp [updV, va_up, hq]
/-- a new array of numbers -/
theorem r_nA {t : Nat} {at' : ArrayType} {f : Nat → am_M → am_R} (ht : (t = 0 ∧ at' = .int) ∨ (t = 1 ∧ at' = .long) ∨ (t = 2 ∧ at' = .byte)) (hd : decode (xC X) pc = .ok (.newarray at', 2)) (hw : Cond.arrayClass (newarray.typeOf at') ∈ am_ws) (kk : ∀ b M1, Rf G l X (pc + 2) ls (.ref b :: st) M1 (f b M1)) : Rf G l X pc ls (.int i :: st) M (nA M t i f) := by
  unfold nA
  refine Rf.ite (fun h => ?_) (fun _ => Rf.no)
  refine Rf.goN (t := t) (n := i.toNatClampNeg) (fun p e R s m args below meth cd cells slots H locs lsR Q hC hH hS hL hr1 hr2 k2 => ?_) (kk _ _)
  have hK := hC.2.2.2.2.2.2.2.2.2.2.2.1
  have hN : mKd (mkC M t i.toNatClampNeg) (mNx M) = t := by rw [mKd_mkC, if_pos rfl]
  have hLn : mLn (mkC M t i.toNatClampNeg) (mNx M) = i.toNatClampNeg := by rw [mLn_mkC, if_pos rfl]
  refine va_newaK hC.1 hC.2.1 (hC.2.2.2.2.2.2.2.2.2.2.1 _ hw args) rfl hd rfl h.1 rfl ?_ hr1 hr2 (h := gB G + mNx M) hH.1 (fun H1 cA e1 z1 o1 hAr hNm => ?_)
  · rcases ht with ⟨rfl, rfl⟩ | ⟨rfl, rfl⟩ | ⟨rfl, rfl⟩
    · have : componentBytes (newarray.typeOf .int) = 4 := rfl
      rw [this]; omega
    · have : componentBytes (newarray.typeOf .long) = 8 := rfl
      rw [this]; omega
    · have : componentBytes (newarray.typeOf .byte) = 1 := rfl
      rw [this]; omega
  · refine k2 H1 (hH.push (by rw [z1, hH.1]) (fun q hq => o1 q (by rw [← hH.1]; exact hq)) ?_) ⟨Nat.le_trans hS.1 (by rw [z1, hH.1]; omega), fun q h1 h2 => (o1 q (by have := hS.1; rw [hH.1] at this; omega)).trans (hS.2.1 q h1 h2), hS.2.2⟩
    rcases ht with ⟨rfl, rfl⟩ | ⟨rfl, rfl⟩ | ⟨rfl, rfl⟩
    · rw [cell_I hN, hLn]
      have hc : cA = gC G 0 := Option.some.inj (hNm.symm.trans (hK.2 0 _ (show (am_tys G)[0]? = some (gC G 0, .int) from rfl)).2)
      subst hc
      show H1[gB G + mNx M]? = some (vp_cell _ _)
      rw [e1, vp_cell_i]
      congr 2
      funext j
      rw [rI_mkC, if_pos rfl]
      rfl
    · rw [cell_L hN, hLn]
      have hc : cA = gC G 1 := Option.some.inj (hNm.symm.trans (hK.2 1 _ (show (am_tys G)[1]? = some (gC G 1, .long) from rfl)).2)
      subst hc
      show H1[gB G + mNx M]? = some (vp_cell _ _)
      rw [e1, vp_cell_l]
      congr 2
      funext j
      rw [rL_mkC, if_pos rfl]
      rfl
    · rw [cell_B hN, hLn]
      have hc : cA = gC G 2 := Option.some.inj (hNm.symm.trans (hK.2 2 _ (show (am_tys G)[2]? = some (gC G 2, .byte) from rfl)).2)
      subst hc
      show H1[gB G + mNx M]? = some (vp_cell _ _)
      rw [e1, vp_cell_i]
      congr 2
      funext j
      rw [rI_mkC, if_pos rfl]
      rfl
theorem r_nR {f : Nat → am_M → am_R} (hd : decode (xC X) pc = .ok (.anewarray idx, 3)) (hw : Cond.classLink (xO X) idx RX6 ∈ am_ws) (kk : ∀ b M1, Rf G l X (pc + 3) ls (.ref b :: st) M1 (f b M1)) : Rf G l X pc ls (.int i :: st) M (nA M 3 i f) := by
  unfold nA
  refine Rf.ite (fun h => ?_) (fun _ => Rf.no)
  refine Rf.goN (t := 3) (n := i.toNatClampNeg) (fun p e R s m args below meth cd cells slots H locs lsR Q hC hH hS hL hr1 hr2 k2 => ?_) (kk _ _)
  have hK := hC.2.2.2.2.2.2.2.2.2.2.2.1
  have hN : mKd (mkC M 3 i.toNatClampNeg) (mNx M) = 3 := by rw [mKd_mkC, if_pos rfl]
  have hLn : mLn (mkC M 3 i.toNatClampNeg) (mNx M) = i.toNatClampNeg := by rw [mLn_mkC, if_pos rfl]
  refine W.anew hC.1 hC.2.1 hC.2.2.2.2.2.2.1 (hC.2.2.2.2.2.2.2.2.2.2.1 _ hw args) (va_AO.use hC.2.2.2.2.2.2.2.2.2.2.2.2.1) rfl hd rfl h.1 (by omega) hr1 hr2 (fun cA kA comp f1 f2 f3 f4 => ?_)
  have hc : cA = gC G 3 := by
    obtain ⟨_, _, _, _, _, h9⟩ := (hK.2 3 _ (show (am_tys G)[3]? = some (gC G 3, .object RX6) from rfl)).2
    exact Option.some.inj (f1.symm.trans h9)
  subst hc
  generalize hH1 : H.push ({ cls := gC G 3, slots := Array.replicate i.toNatClampNeg .null, vm := .none } : Cell) = H1
  have z1 : H1.size = H.size + 1 := by rw [← hH1]; simp
  have o1 : ∀ q : Nat, q < H.size → H1[q]? = H[q]? := fun q hq => by rw [← hH1, Array.getElem?_push, if_neg (Nat.ne_of_lt hq)]
  have k3 := k2 H1 (hH.push z1 o1 ?_) ⟨Nat.le_trans hS.1 (by omega), fun q h1 h2 => (o1 q (Nat.lt_of_lt_of_le h1 hS.1)).trans (hS.2.1 q h1 h2), hS.2.2⟩
  · rw [hH.1]
    exact k3
  · rw [cell_R hN, hLn]
    show H1[gB G + mNx M]? = some (vp_cell _ _)
    rw [← hH.1, ← hH1, vp_cell_q]
    simp only [Array.getElem?_push_size, arrV]
    congr 2
    apply Array.ext
    · simp
    · intro j h1 h2
      simp [rR_mkC, va_rf]
/-- a new object -/
theorem r_nO {C : String} {T : u_T} {N : Nat} {ty : Nat → FieldType} {f : Nat → am_M → am_R} (hcl : am_Cl c C T N ty) (hd : decode (xC X) pc = .ok (.new idx, 3)) (hw : Cond.classLink (xO X) idx C ∈ am_ws) (hw2 : Cond.instantiable C N ∈ am_ws) (hw3 : Cond.initialized C ∈ am_ws) (kk : ∀ b M1, Rf G l X (pc + 3) ls (.ref b :: st) M1 (f b M1)) : Rf G l X pc ls st M (nO M (c + 4) N f) := by
  unfold nO
  refine Rf.goN (t := c + 4) (n := N) (fun p e R s m args below meth cd cells slots H locs lsR Q hC hH hS hL hr1 hr2 k2 => ?_) (kk _ _)
  obtain ⟨c1, c2, c3, c4, c5, c6, c7⟩ := hcl
  have hts : ∀ w ∈ am_ws, w.before args s = true := fun w hw => hC.2.2.2.2.2.2.2.2.2.2.1 w hw args
  have hK := hC.2.2.2.2.2.2.2.2.2.2.2.1
  have hKn := hK.1 c _ c1
  have hN : mKd (mkC M (c + 4) N) (mNx M) = c + 4 := by rw [mKd_mkC, if_pos rfl]
  refine W.newcK hC.1 hC.2.1 hC.2.2.2.2.2.2.1 (hts _ hw) (hts _ hw2) (hts _ hw3) rfl hd hr1 hr2 hKn.2.1 (h := gB G + mNx M) hH.1 fun H1 kC hkC e1 z1 o1 => ?_
  refine k2 H1 (hH.push (by rw [z1, hH.1]) (fun q hq => o1 q (by rw [← hH.1]; exact hq)) ?_) ⟨Nat.le_trans hS.1 (by rw [z1, hH.1]; omega), fun q h1 h2 => (o1 q (by have := hS.1; rw [hH.1] at this; omega)).trans (hS.2.1 q h1 h2), hS.2.2⟩
  rw [cell_obj hN]
  refine ⟨_, c1, (u_born ty hts c4 hKn hkC e1 c2).to (fun j hj => ?_)⟩
  rw [c7 j hj]
  unfold vp_V
  rw [List.getD_eq_getElem?_getD, fs_at (by rw [c5]; exact hj)]
  show am_dv c j = am_fv G (mkC M (c + 4) N) (mNx M) c j
  unfold am_dv am_fv
  rw [rI_mkC, rL_mkC, rR_mkC, if_pos rfl, if_pos rfl, if_pos rfl]
  rfl
end RfRows
end
section
/-! ===== calls ===== -/
/-- what the tables say of a call: the code, the link, the length of its row of arguments -/
def am_mb (y : MethodName) (Xc : am_X) (n : Nat) : Prop := Cond.code y (xC Xc) (xL Xc) (xT Xc) ∈ am_ws ∧ Cond.initialized y.cls ∈ am_ws ∧ (y.cls ≠ "java/lang/invoke/MethodHandle" ∧ y.cls ≠ "java/lang/invoke/VarHandle") ∧ (parseMethodDescriptor y.desc).map (fun d => d.parameters.length) = some n ∧ xL Xc ≤ 18 ∧ am_gw (Cond.code y (xC Xc) (xL Xc) (xT Xc)) = true
section RfCalls
variable {G : am_G} {l : Launch} {X Xc : am_X} {pc : Nat} {ls st rest : List Value} {M : am_M} {o x : am_R} {a b c k idx n : Nat} {y : MethodName} {as : List Value}
theorem am_blind (G : am_G) (M : am_M) (av : List Value) : FrameBlind (va_Pc av (fun U => am_Hp G M U.heap ∧ am_Tb G U)) := by
  intro A U g mk h
  obtain ⟨h1, h2, h3⟩ := h
  exact ⟨h1, h2, h3.moved (U := U.calling g mk A) (State.WarmedH.refl U) (fun _ _ _ => rfl)⟩
theorem am_entry {s : State} {H : Heap} {locs : List Loc} (hT : am_Tb G s) (hH : am_Hp G M H) (hS : va_S (gA G) s.heap H locs) (av : List Value) : ∀ U : State, U.heap = H → s.WarmedH U.vm → va_Pc av (fun U => am_Hp G M U.heap ∧ am_Tb G U) av.toArray U := fun U hU hW => ⟨rfl, by rw [hU]; exact hH, hT.moved hW (fun q h1 h2 => by rw [hU]; exact hS.2.1 q h1 h2)⟩
theorem am_cat {s : State} (hT : am_Tb G s) (h : (rest.map Value.category).sum ≤ 8) : ((rest.map (rv G)).map fun v => v.category).sum ≤ 8 := by
  rw [List.map_map]
  have e : ((fun v : Value => v.category) ∘ rv G) = Value.category := by funext v; exact rv_cat hT v
  rw [e]
  exact h
/-- a call, by its contract: the rest of the walk stands over what comes back -/
theorem Rf.callC {v1 : Option Value} {M1 : am_M} (hx : x = some (v1, M1)) (hc : Ct G l y Xc as M x) (hdp : xD Xc + 1 ≤ xD X)
    (hrun : ∀ (p : Program) (e : Env) (R : Room) (s : State) (m : MethodId) (args : Array Value) (below : List Frame) (meth : Method) (cd : Code) (cells slots : Nat) (H : Heap) (locs : List Loc) (lsR : Array Slot) (mc ms : Nat) (Qc : Array Value → State → Outcome → State → Prop), am_C G X p R s m meth cd → am_Hp G M H → va_S (gA G) s.heap H locs → LV G (xL X) ls lsR → cells + mc ≤ R.cells → slots + ms ≤ R.slots → Met l y [.code y (xC Xc) (xL Xc) (xT Xc)] { frames := xD Xc, cells := mc, slots := ms, locals := 37 * xD Xc } (va_Pc (as.map (rv G)) (fun U => am_Hp G M U.heap ∧ am_Tb G U)) Qc mc ms (gA G) → va_Run p l e R s m args below meth cd H locs cells slots mc ms (F0 m pc lsR (st.map (rv G))) (rest.map (rv G)) (Qc (as.map (rv G)).toArray) (gA G))
    (k : Rf G l X (pc + 3) ls (v1.toList ++ rest) M1 o) : Rf G l X pc ls st M o := by
  intro v M' ho
  obtain ⟨hm1, hMet⟩ := hc v1 M1 hx
  obtain ⟨hm2, k⟩ := k v M' ho
  refine ⟨⟨by omega, by omega⟩, fun p e R s m args below meth cd n0 u0 cells slots H locs lsR hC h1 h2 h3 h4 hH hS hL => ?_⟩
  have hr := hrun p e R s m args below meth cd cells slots H locs lsR _ _ _ hC hH hS hL (by omega) (by omega) hMet
  intro T hT XS
  obtain ⟨vv, st0, t, T', L, h0, X', hLf, e1, e2, ⟨hq1, hq2, hq3⟩, stp⟩ := hr T hT XS
  cases hq1
  have hz := hq3.1
  have hk := hq3.2
  rw [h0] at hz hk
  have key := k p e R s m args below meth cd n0 u0 (cells + (mNx M1 - mNx M)) (slots + (mUs M1 - mUs M)) T'.heap (locs ++ L) lsR hC h1 h2 (by omega) (by omega) (by rw [e1]; exact hq2) ⟨Nat.le_trans hS.1 (by rw [e1]; exact hz), fun q g1 g2 => by rw [e1, hk q (Nat.lt_of_lt_of_le g1 hS.1) g2]; exact hS.2.1 q g1 g2, fun q hq => by
      rcases List.mem_append.mp hq with h | h
      · exact hS.2.2 q h
      · exact hLf q h⟩ hL
  have ev : (v1.toList ++ rest).map (rv G) = (v1.map (rv G)).toList ++ rest.map (rv G) := by cases v1 <;> simp
  rw [ev] at key
  obtain ⟨t2, a1, b1⟩ := key T' rfl X'
  exact ⟨t2, stp t2 a1, b1⟩
theorem am_cb {R : Room} {s : State} {args : Array Value} {m : MethodId} {p : Program} {meth : Method} {cd : Code} {mc ms : Nat} (hC : am_C G X p R s m meth cd) (hb : am_mb y Xc n) (hdp : xD Xc + 1 ≤ xD X) :
    ({ frames := xD Xc, cells := mc, slots := ms, locals := 37 * xD Xc } : Room).frames + 1 ≤ R.frames ∧ 8 + (xL Xc + 11) + ({ frames := xD Xc, cells := mc, slots := ms, locals := 37 * xD Xc } : Room).locals ≤ R.locals ∧ (∀ w ∈ [Cond.code y (xC Xc) (xL Xc) (xT Xc)], ∀ (a' : Array Value) (U : State), s.WarmedH U.vm → w.before a' U = true) ∧ (∀ sig, parseMethodDescriptor y.desc = some sig → n = sig.parameters.length) := by
  obtain ⟨b1, b2, b3, b4, b5, b6⟩ := hb
  have h1 := hC.2.2.2.2.2.2.2.1
  have h2 := hC.2.2.2.2.2.2.2.2.1
  refine ⟨by rw [h1]; exact hdp, by rw [h2]; show 8 + (xL Xc + 11) + 37 * xD Xc ≤ _; omega, fun w hw a' U hW => ?_, fun sig h => ?_⟩
  · rw [List.mem_singleton.mp hw]
    exact word_at hW (Or.inl rfl) (hC.2.2.2.2.2.2.2.2.2.2.1 _ b1 #[])
  · rw [h] at b4
    exact (Option.some.inj b4).symm
theorem Rf.callV {v1 : Option Value} {M1 : am_M} {C : String} {T : u_T} {N : Nat} {As : List Value} (hx : x = some (v1, M1)) (hc : Ct G l y Xc (.ref b :: As) M x) (hd : decode (xC X) pc = .ok (.invokevirtual idx, 3)) (hb : am_mb y Xc n) (hw1 : Cond.methodLink (xO X) idx y ∈ am_ws) (hw2 : Cond.instanceMethod y ∈ am_ws) (hw3 : Cond.selects C y y ∈ am_ws) (hcl : am_cl[c]? = some (C, T, N)) (hdp : xD Xc + 1 ≤ xD X) (hn : As.length = n) (hst : st = As.reverse ++ .ref b :: rest) (hcat : (rest.map Value.category).sum ≤ 8) (hk : mKd M b = c + 4)
    (k : Rf G l X (pc + 3) ls (v1.toList ++ rest) M1 o) : Rf G l X pc ls st M o := by
  refine Rf.callC (rest := rest) hx hc hdp (fun p e R s m args below meth cd cells slots H locs lsR mc ms Qc hC hH hS hL hr1 hr2 hM => ?_) k
  obtain ⟨q1, q2, q3, q4⟩ := am_cb (args := args) (mc := mc) (ms := ms) hC hb hdp
  have hts : ∀ w ∈ am_ws, w.before args s = true := fun w hw => hC.2.2.2.2.2.2.2.2.2.2.1 w hw args
  have hT := hC.2.2.2.2.2.2.2.2.2.2
  have hb9 := cl_lt hcl
  have hlt := kd_lt hk (by omega)
  subst hst
  refine va_runV (Ts := am_ws) (C := C) (As := As.map (rv G)) ⟨hC.1, hC.2.1, hC.2.2.1, hC.2.2.2.2.2.2.1, hts⟩ hM ⟨⟨rfl, rfl, q1, q2, q3, List.mem_singleton.mpr rfl, hts _ hb.1, hts _ hb.2.1, hb.2.2.1, q4, hts _ hw1⟩, hts _ hw2, hts _ hw3⟩ ⟨am_blind G M _, va_recv hT.2.1 hH.2 hcl (q0 := b) (ci := c) (fs := am_fs G M b c) (by rw [wd_at hlt, cell_obj hk]), am_entry hT hH hS _⟩ rfl (by rw [List.length_map]; exact hn) hL.1 (by simp [rv]) (lv_room (am_cat hT hcat)) hd ⟨hr1, hr2⟩
theorem Rf.callS {v1 : Option Value} {M1 : am_M} (hx : x = some (v1, M1)) (hc : Ct G l y Xc as M x) (hd : decode (xC X) pc = .ok (.invokestatic idx, 3)) (hb : am_mb y Xc n) (hw1 : Cond.methodLink (xO X) idx y ∈ am_ws) (hw2 : Cond.static y ∈ am_ws) (hdp : xD Xc + 1 ≤ xD X) (hn : as.length = n) (hst : st = as.reverse ++ rest) (hcat : (rest.map Value.category).sum ≤ 8)
    (k : Rf G l X (pc + 3) ls (v1.toList ++ rest) M1 o) : Rf G l X pc ls st M o := by
  refine Rf.callC (rest := rest) hx hc hdp (fun p e R s m args below meth cd cells slots H locs lsR mc ms Qc hC hH hS hL hr1 hr2 hM => ?_) k
  obtain ⟨q1, q2, q3, q4⟩ := am_cb (args := args) (mc := mc) (ms := ms) hC hb hdp
  have hts : ∀ w ∈ am_ws, w.before args s = true := fun w hw => hC.2.2.2.2.2.2.2.2.2.2.1 w hw args
  have hT := hC.2.2.2.2.2.2.2.2.2.2
  subst hst
  refine va_runS (Ts := am_ws) (As := as.map (rv G)) ⟨hC.1, hC.2.1, hC.2.2.1, hC.2.2.2.2.2.2.1, hts⟩ hM ⟨⟨rfl, rfl, q1, q2, q3, List.mem_singleton.mpr rfl, hts _ hb.1, hts _ hb.2.1, hb.2.2.1, q4, hts _ hw1⟩, hts _ hw2⟩ ⟨am_blind G M _, am_entry hT hH hS _⟩ rfl (by rw [List.length_map]; exact hn) hL.1 (by simp) (lv_room (am_cat hT hcat)) hd ⟨hr1, hr2⟩
theorem Rf.callSN {v1 : Option Value} {M1 : am_M} {host : String} (hx : x = some (v1, M1)) (hc : Ct G l y Xc as M x) (hd : decode (xC X) pc = .ok (.invokestatic idx, 3)) (hb : am_mb y Xc n) (hw1 : Cond.methodLinkNest (xO X) idx y host ∈ am_ws) (hw2 : Cond.static y ∈ am_ws) (hdp : xD Xc + 1 ≤ xD X) (hn : as.length = n) (hst : st = as.reverse ++ rest) (hcat : (rest.map Value.category).sum ≤ 8)
    (k : Rf G l X (pc + 3) ls (v1.toList ++ rest) M1 o) : Rf G l X pc ls st M o := by
  refine Rf.callC (rest := rest) hx hc hdp (fun p e R s m args below meth cd cells slots H locs lsR mc ms Qc hC hH hS hL hr1 hr2 hM => ?_) k
  obtain ⟨q1, q2, q3, q4⟩ := am_cb (args := args) (mc := mc) (ms := ms) hC hb hdp
  have hts : ∀ w ∈ am_ws, w.before args s = true := fun w hw => hC.2.2.2.2.2.2.2.2.2.2.1 w hw args
  have hT := hC.2.2.2.2.2.2.2.2.2.2
  subst hst
  refine va_runSN (Ts := am_ws) (As := as.map (rv G)) ⟨hC.1, hC.2.1, hC.2.2.1, hC.2.2.2.2.2.2.1, hts⟩ hM ⟨⟨⟨rfl, rfl, q1, q2, q3, List.mem_singleton.mpr rfl⟩, hts _ hb.1, hts _ hb.2.1, hb.2.2.1, q4, hts _ hw1⟩, hts _ hw2, trivial⟩ ⟨am_blind G M _, am_entry hT hH hS _⟩ rfl (by rw [List.length_map]; exact hn) hL.1 (by simp) (lv_room (am_cat hT hcat)) hd ⟨hr1, hr2⟩
theorem Rf.callI {M1 : am_M} {As : List Value} (hx : x = some (none, M1)) (hc : Ct G l y Xc (.ref b :: As) M x) (hd : decode (xC X) pc = .ok (.invokespecial idx, 3)) (hb : am_mb y Xc n) (hrt : xT Xc = none) (hy : y.name = "<init>") (hw1 : Cond.methodLink (xO X) idx y ∈ am_ws) (hw2 : Cond.instanceMethod y ∈ am_ws) (hdp : xD Xc + 1 ≤ xD X) (hn : As.length = n) (hst : st = As.reverse ++ .ref b :: rest) (hcat : (rest.map Value.category).sum ≤ 8)
    (k : Rf G l X (pc + 3) ls rest M1 o) : Rf G l X pc ls st M o := by
  refine Rf.callC (v1 := none) (rest := rest) hx hc hdp (fun p e R s m args below meth cd cells slots H locs lsR mc ms Qc hC hH hS hL hr1 hr2 hM => ?_) k
  obtain ⟨q1, q2, q3, q4⟩ := am_cb (args := args) (mc := mc) (ms := ms) hC hb hdp
  have hts : ∀ w ∈ am_ws, w.before args s = true := fun w hw => hC.2.2.2.2.2.2.2.2.2.2.1 w hw args
  have hT := hC.2.2.2.2.2.2.2.2.2.2
  have hb1 := hb.1
  rw [hrt] at hM q3 hb1
  subst hst
  refine va_runI (Ts := am_ws) (As := As.map (rv G)) ⟨hC.1, hC.2.1, hC.2.2.1, hC.2.2.2.2.2.2.1, hts⟩ hM ⟨⟨rfl, rfl, q1, q2, q3, List.mem_singleton.mpr rfl, hts _ hb1, hts _ hb.2.1, hb.2.2.1, q4, hts _ hw1⟩, hy, hts _ hw2⟩ ⟨am_blind G M _, am_entry hT hH hS _⟩ rfl (by rw [List.length_map]; exact hn) hL.1 (by simp [rv]) (lv_room (am_cat hT hcat)) hd ⟨hr1, hr2⟩
theorem Rf.callIN {M1 : am_M} {As : List Value} {host : String} (hx : x = some (none, M1)) (hc : Ct G l y Xc (.ref b :: As) M x) (hd : decode (xC X) pc = .ok (.invokespecial idx, 3)) (hb : am_mb y Xc n) (hrt : xT Xc = none) (hy : y.name = "<init>") (hw1 : Cond.methodLinkNest (xO X) idx y host ∈ am_ws) (hw2 : Cond.instanceMethod y ∈ am_ws) (hdp : xD Xc + 1 ≤ xD X) (hn : As.length = n) (hst : st = As.reverse ++ .ref b :: rest) (hcat : (rest.map Value.category).sum ≤ 8)
    (k : Rf G l X (pc + 3) ls rest M1 o) : Rf G l X pc ls st M o := by
  refine Rf.callC (v1 := none) (rest := rest) hx hc hdp (fun p e R s m args below meth cd cells slots H locs lsR mc ms Qc hC hH hS hL hr1 hr2 hM => ?_) k
  obtain ⟨q1, q2, q3, q4⟩ := am_cb (args := args) (mc := mc) (ms := ms) hC hb hdp
  have hts : ∀ w ∈ am_ws, w.before args s = true := fun w hw => hC.2.2.2.2.2.2.2.2.2.2.1 w hw args
  have hT := hC.2.2.2.2.2.2.2.2.2.2
  have hb1 := hb.1
  rw [hrt] at hM q3 hb1
  subst hst
  refine va_runIN (Ts := am_ws) (As := As.map (rv G)) ⟨hC.1, hC.2.1, hC.2.2.1, hC.2.2.2.2.2.2.1, hts⟩ hM ⟨⟨⟨rfl, rfl, q1, q2, q3, List.mem_singleton.mpr rfl⟩, hts _ hb1, hts _ hb.2.1, hb.2.2.1, q4, hts _ hw1⟩, hy, hts _ hw2⟩ ⟨am_blind G M _, am_entry hT hH hS _⟩ rfl (by rw [List.length_map]; exact hn) hL.1 (by simp [rv]) (lv_room (am_cat hT hcat)) hd ⟨hr1, hr2⟩
/-- Object's constructor -/
theorem r_objInit (hd : decode (xC X) pc = .ok (.invokespecial idx, 3)) (hw : Cond.methodLink (xO X) idx objectInit ∈ am_ws) (hw2 : Cond.instanceMethod objectInit ∈ am_ws) (hw3 : Cond.code objectInit ⟨#[0xb1]⟩ 1 none ∈ am_ws) (hcat : (rest.map Value.category).sum ≤ 8) (hdp : 1 ≤ xD X) (k : Rf G l X (pc + 3) ls rest M o) : Rf G l X pc ls (.ref a :: rest) M o := by
  refine Rf.go (fun p e R s m args below meth c cells slots H locs lsR Q hC hL k => ?_) k
  have hT := hC.2.2.2.2.2.2.2.2.2.2
  have h1 := hC.2.2.2.2.2.2.2.1
  have h2 := hC.2.2.2.2.2.2.2.2.1
  have h3 := am_cat (rest := rest) hT hcat
  refine W.objInit hC.1 hC.2.1 hC.2.2.2.2.2.2.1 (hT.1 _ hw args) (hT.1 _ hw2 args) (hT.1 _ hw3 args) rfl (by rw [hC.2.2.1]; exact hL.1) rfl hd (by rw [h1]; exact hdp) (by rw [h2]; show 2 * 0 + _ + 12 ≤ _; omega) k
/-- a contract out of a walk -/
theorem Ct.of {as : List Value} (hp : plainName y.cls = true) (hcls : y.cls = xO X) (hnm : y.name = xN X) (has : (as.map Value.category).sum ≤ xL X) (k : Rf G l X 0 (am_ini (xL X) as) [] M o) : Ct G l y X as M o := by
  intro v M' ho
  obtain ⟨hm, k⟩ := k v M' ho
  refine ⟨hm, ?_⟩
  refine Met.ofW (cc := xC X) (maxL := xL X) (ret := xT X) hp rfl ?_
  intro p e s m args below meth c s₁ B hml hv
  obtain ⟨rfl, hH, hT⟩ := hv
  rw [lg_entry_eq]
  have h5 : gB G ≤ s.heap.size := by rw [hH.1]; omega
  have hnm2 : meth.name = xN X := ((name_of_methodNamed B.named B.method).1).trans hnm
  have hown : s.vm.findClass (xO X) = some m.cls := by rw [← hcls]; exact findClass_of_methodNamed B.named
  exact k p e _ s m _ below meth c (mNx M) (mUs M) 0 0 s.heap [] _ ⟨B.exec, B.bytes, hml, B.returns, B.notSynchronized, hnm2, hown, rfl, rfl, h5, hT⟩ (by show mNx M + (mNx M' - mNx M) = _; omega) (by show mUs M + (mUs M' - mUs M) = _; omega) (by omega) (by omega) hH va_S.rf (LV.ini hT (by rw [sl_len hT]; exact has))
end RfCalls
end
section
/-! ===== calls, with what comes back ===== -/
def xV (w : Nat) (r : am_R) : am_R := if 100 ≤ w ∧ w < 140 then r else none
def xI (v : Nat) (i : Int32) (f : Int32 → am_R) : am_R := if (v = 2 ∨ v = 3) ∧ ¬ (i < 0 ∨ 5 ≤ i.toNatClampNeg) then f ((if v = 2 then am_KL else am_KM).getD i.toNatClampNeg 0) else none
def xB (v : Nat) (i : Int32) (f : Int32 → am_R) : am_R := if (200 ≤ v ∧ v < 240) ∧ ¬ (i < 0 ∨ am_sl (v - 200) ≤ i.toNatClampNeg) then f (am_sb (v - 200) i.toNatClampNeg) else none
def xLn (v : Nat) (f : Int32 → am_R) : am_R := if 200 ≤ v ∧ v < 240 then f (Int32.ofNat (am_sl (v - 200))) else none
section RfCalls2
variable {G : am_G} {l : Launch} {X Xc : am_X} {pc : Nat} {ls st rest : List Value} {M : am_M} {o x : am_R} {a b c k idx n : Nat} {y : MethodName} {as As : List Value} {host C : String} {T : u_T} {N : Nat}
theorem r_cvV {f : am_M → am_R} (hc : Ct G l y Xc (.ref b :: As) M x) (hd : decode (xC X) pc = .ok (.invokevirtual idx, 3)) (hb : am_mb y Xc n) (hw1 : Cond.methodLink (xO X) idx y ∈ am_ws) (hw2 : Cond.instanceMethod y ∈ am_ws) (hw3 : Cond.selects C y y ∈ am_ws) (hcl : am_cl[c]? = some (C, T, N)) (hdp : xD Xc + 1 ≤ xD X) (hn : As.length = n) (hst : st = As.reverse ++ .ref b :: rest) (hcat : (rest.map Value.category).sum ≤ 8) (kk : ∀ M1, Rf G l X (pc + 3) ls rest M1 (f M1)) : Rf G l X pc ls st M (cv M b (c + 4) (bV x f)) := by
  unfold cv
  refine Rf.ite (fun hk => ?_) (fun _ => Rf.no)
  rcases hx : x with _ | ⟨_ | v, M1⟩
  · exact Rf.no
  · exact Rf.callV (v1 := none) (M1 := M1) rfl (hx ▸ hc) hd hb hw1 hw2 hw3 hcl hdp hn hst hcat hk (kk M1)
  · exact Rf.no
theorem r_csV {f : am_M → am_R} (hc : Ct G l y Xc as M x) (hd : decode (xC X) pc = .ok (.invokestatic idx, 3)) (hb : am_mb y Xc n) (hw1 : Cond.methodLink (xO X) idx y ∈ am_ws) (hw2 : Cond.static y ∈ am_ws) (hdp : xD Xc + 1 ≤ xD X) (hn : as.length = n) (hst : st = as.reverse ++ rest) (hcat : (rest.map Value.category).sum ≤ 8) (kk : ∀ M1, Rf G l X (pc + 3) ls rest M1 (f M1)) : Rf G l X pc ls st M (bV x f) := by
  rcases hx : x with _ | ⟨_ | v, M1⟩
  · exact Rf.no
  · exact Rf.callS (v1 := none) (M1 := M1) rfl (hx ▸ hc) hd hb hw1 hw2 hdp hn hst hcat (kk M1)
  · exact Rf.no
theorem r_cvI {f : Int32 → am_M → am_R} (hc : Ct G l y Xc (.ref b :: As) M x) (hd : decode (xC X) pc = .ok (.invokevirtual idx, 3)) (hb : am_mb y Xc n) (hw1 : Cond.methodLink (xO X) idx y ∈ am_ws) (hw2 : Cond.instanceMethod y ∈ am_ws) (hw3 : Cond.selects C y y ∈ am_ws) (hcl : am_cl[c]? = some (C, T, N)) (hdp : xD Xc + 1 ≤ xD X) (hn : As.length = n) (hst : st = As.reverse ++ .ref b :: rest) (hcat : (rest.map Value.category).sum ≤ 8) (kk : ∀ r M1, Rf G l X (pc + 3) ls (.int r :: rest) M1 (f r M1)) : Rf G l X pc ls st M (cv M b (c + 4) (bI x f)) := by
  unfold cv
  refine Rf.ite (fun hk => ?_) (fun _ => Rf.no)
  rcases hx : x with _ | ⟨_ | v, M1⟩
  · exact Rf.no
  · exact Rf.no
  · cases v <;> first | exact Rf.no | skip
    rename_i r
    exact Rf.callV (v1 := some (.int r)) (M1 := M1) rfl (hx ▸ hc) hd hb hw1 hw2 hw3 hcl hdp hn hst hcat hk (kk r M1)
theorem r_csI {f : Int32 → am_M → am_R} (hc : Ct G l y Xc as M x) (hd : decode (xC X) pc = .ok (.invokestatic idx, 3)) (hb : am_mb y Xc n) (hw1 : Cond.methodLink (xO X) idx y ∈ am_ws) (hw2 : Cond.static y ∈ am_ws) (hdp : xD Xc + 1 ≤ xD X) (hn : as.length = n) (hst : st = as.reverse ++ rest) (hcat : (rest.map Value.category).sum ≤ 8) (kk : ∀ r M1, Rf G l X (pc + 3) ls (.int r :: rest) M1 (f r M1)) : Rf G l X pc ls st M (bI x f) := by
  rcases hx : x with _ | ⟨_ | v, M1⟩
  · exact Rf.no
  · exact Rf.no
  · cases v <;> first | exact Rf.no | skip
    rename_i r
    exact Rf.callS (v1 := some (.int r)) (M1 := M1) rfl (hx ▸ hc) hd hb hw1 hw2 hdp hn hst hcat (kk r M1)
theorem r_cnI {f : Int32 → am_M → am_R} (hc : Ct G l y Xc as M x) (hd : decode (xC X) pc = .ok (.invokestatic idx, 3)) (hb : am_mb y Xc n) (hw1 : Cond.methodLinkNest (xO X) idx y host ∈ am_ws) (hw2 : Cond.static y ∈ am_ws) (hdp : xD Xc + 1 ≤ xD X) (hn : as.length = n) (hst : st = as.reverse ++ rest) (hcat : (rest.map Value.category).sum ≤ 8) (kk : ∀ r M1, Rf G l X (pc + 3) ls (.int r :: rest) M1 (f r M1)) : Rf G l X pc ls st M (bI x f) := by
  rcases hx : x with _ | ⟨_ | v, M1⟩
  · exact Rf.no
  · exact Rf.no
  · cases v <;> first | exact Rf.no | skip
    rename_i r
    exact Rf.callSN (v1 := some (.int r)) (M1 := M1) rfl (hx ▸ hc) hd hb hw1 hw2 hdp hn hst hcat (kk r M1)
theorem r_cvL {f : Int64 → am_M → am_R} (hc : Ct G l y Xc (.ref b :: As) M x) (hd : decode (xC X) pc = .ok (.invokevirtual idx, 3)) (hb : am_mb y Xc n) (hw1 : Cond.methodLink (xO X) idx y ∈ am_ws) (hw2 : Cond.instanceMethod y ∈ am_ws) (hw3 : Cond.selects C y y ∈ am_ws) (hcl : am_cl[c]? = some (C, T, N)) (hdp : xD Xc + 1 ≤ xD X) (hn : As.length = n) (hst : st = As.reverse ++ .ref b :: rest) (hcat : (rest.map Value.category).sum ≤ 8) (kk : ∀ r M1, Rf G l X (pc + 3) ls (.long r :: rest) M1 (f r M1)) : Rf G l X pc ls st M (cv M b (c + 4) (bL x f)) := by
  unfold cv
  refine Rf.ite (fun hk => ?_) (fun _ => Rf.no)
  rcases hx : x with _ | ⟨_ | v, M1⟩
  · exact Rf.no
  · exact Rf.no
  · cases v <;> first | exact Rf.no | skip
    rename_i r
    exact Rf.callV (v1 := some (.long r)) (M1 := M1) rfl (hx ▸ hc) hd hb hw1 hw2 hw3 hcl hdp hn hst hcat hk (kk r M1)
theorem r_csL {f : Int64 → am_M → am_R} (hc : Ct G l y Xc as M x) (hd : decode (xC X) pc = .ok (.invokestatic idx, 3)) (hb : am_mb y Xc n) (hw1 : Cond.methodLink (xO X) idx y ∈ am_ws) (hw2 : Cond.static y ∈ am_ws) (hdp : xD Xc + 1 ≤ xD X) (hn : as.length = n) (hst : st = as.reverse ++ rest) (hcat : (rest.map Value.category).sum ≤ 8) (kk : ∀ r M1, Rf G l X (pc + 3) ls (.long r :: rest) M1 (f r M1)) : Rf G l X pc ls st M (bL x f) := by
  rcases hx : x with _ | ⟨_ | v, M1⟩
  · exact Rf.no
  · exact Rf.no
  · cases v <;> first | exact Rf.no | skip
    rename_i r
    exact Rf.callS (v1 := some (.long r)) (M1 := M1) rfl (hx ▸ hc) hd hb hw1 hw2 hdp hn hst hcat (kk r M1)
theorem r_cvR {fn : am_M → am_R} {f : Nat → am_M → am_R} (hc : Ct G l y Xc (.ref b :: As) M x) (hd : decode (xC X) pc = .ok (.invokevirtual idx, 3)) (hb : am_mb y Xc n) (hw1 : Cond.methodLink (xO X) idx y ∈ am_ws) (hw2 : Cond.instanceMethod y ∈ am_ws) (hw3 : Cond.selects C y y ∈ am_ws) (hcl : am_cl[c]? = some (C, T, N)) (hdp : xD Xc + 1 ≤ xD X) (hn : As.length = n) (hst : st = As.reverse ++ .ref b :: rest) (hcat : (rest.map Value.category).sum ≤ 8) (kn : ∀ M1, Rf G l X (pc + 3) ls (.null :: rest) M1 (fn M1)) (kk : ∀ r M1, Rf G l X (pc + 3) ls (.ref r :: rest) M1 (f r M1)) : Rf G l X pc ls st M (cv M b (c + 4) (bR x fn f)) := by
  unfold cv
  refine Rf.ite (fun hk => ?_) (fun _ => Rf.no)
  rcases hx : x with _ | ⟨_ | v, M1⟩
  · exact Rf.no
  · exact Rf.no
  · cases v <;> first | exact Rf.no | skip
    · exact Rf.callV (v1 := some .null) (M1 := M1) rfl (hx ▸ hc) hd hb hw1 hw2 hw3 hcl hdp hn hst hcat hk (kn M1)
    · rename_i r
      exact Rf.callV (v1 := some (.ref r)) (M1 := M1) rfl (hx ▸ hc) hd hb hw1 hw2 hw3 hcl hdp hn hst hcat hk (kk r M1)
theorem r_csR {fn : am_M → am_R} {f : Nat → am_M → am_R} (hc : Ct G l y Xc as M x) (hd : decode (xC X) pc = .ok (.invokestatic idx, 3)) (hb : am_mb y Xc n) (hw1 : Cond.methodLink (xO X) idx y ∈ am_ws) (hw2 : Cond.static y ∈ am_ws) (hdp : xD Xc + 1 ≤ xD X) (hn : as.length = n) (hst : st = as.reverse ++ rest) (hcat : (rest.map Value.category).sum ≤ 8) (kn : ∀ M1, Rf G l X (pc + 3) ls (.null :: rest) M1 (fn M1)) (kk : ∀ r M1, Rf G l X (pc + 3) ls (.ref r :: rest) M1 (f r M1)) : Rf G l X pc ls st M (bR x fn f) := by
  rcases hx : x with _ | ⟨_ | v, M1⟩
  · exact Rf.no
  · exact Rf.no
  · cases v <;> first | exact Rf.no | skip
    · exact Rf.callS (v1 := some .null) (M1 := M1) rfl (hx ▸ hc) hd hb hw1 hw2 hdp hn hst hcat (kn M1)
    · rename_i r
      exact Rf.callS (v1 := some (.ref r)) (M1 := M1) rfl (hx ▸ hc) hd hb hw1 hw2 hdp hn hst hcat (kk r M1)
theorem r_ciV {f : am_M → am_R} (hc : Ct G l y Xc (.ref b :: As) M x) (hd : decode (xC X) pc = .ok (.invokespecial idx, 3)) (hb : am_mb y Xc n) (hrt : xT Xc = none) (hy : y.name = "<init>") (hw1 : Cond.methodLink (xO X) idx y ∈ am_ws) (hw2 : Cond.instanceMethod y ∈ am_ws) (hdp : xD Xc + 1 ≤ xD X) (hn : As.length = n) (hst : st = As.reverse ++ .ref b :: rest) (hcat : (rest.map Value.category).sum ≤ 8) (kk : ∀ M1, Rf G l X (pc + 3) ls rest M1 (f M1)) : Rf G l X pc ls st M (bV x f) := by
  rcases hx : x with _ | ⟨_ | v, M1⟩
  · exact Rf.no
  · exact Rf.callI (M1 := M1) rfl (hx ▸ hc) hd hb hrt hy hw1 hw2 hdp hn hst hcat (kk M1)
  · exact Rf.no
theorem r_cinV {f : am_M → am_R} (hc : Ct G l y Xc (.ref b :: As) M x) (hd : decode (xC X) pc = .ok (.invokespecial idx, 3)) (hb : am_mb y Xc n) (hrt : xT Xc = none) (hy : y.name = "<init>") (hw1 : Cond.methodLinkNest (xO X) idx y host ∈ am_ws) (hw2 : Cond.instanceMethod y ∈ am_ws) (hdp : xD Xc + 1 ≤ xD X) (hn : As.length = n) (hst : st = As.reverse ++ .ref b :: rest) (hcat : (rest.map Value.category).sum ≤ 8) (kk : ∀ M1, Rf G l X (pc + 3) ls rest M1 (f M1)) : Rf G l X pc ls st M (bV x f) := by
  rcases hx : x with _ | ⟨_ | v, M1⟩
  · exact Rf.no
  · exact Rf.callIN (M1 := M1) rfl (hx ▸ hc) hd hb hrt hy hw1 hw2 hdp hn hst hcat (kk M1)
  · exact Rf.no
end RfCalls2
end
section
/-! ===== constants, statics, texts, copies ===== -/
def cpy (M : am_M) (a0 : Nat) (sp : Int32) (a1 : Nat) (dp n : Int32) (f : am_M → am_R) : am_R := if (mKd M a0 = 0 ∧ mKd M a1 = 0) ∧ (¬ sp < 0 ∧ ¬ dp < 0 ∧ ¬ n < 0) ∧ sp.toNatClampNeg + n.toNatClampNeg ≤ mLn M a0 ∧ dp.toNatClampNeg + n.toNatClampNeg ≤ mLn M a1 then f (cpI M a0 sp.toNatClampNeg a1 dp.toNatClampNeg n.toNatClampNeg) else none
section RfSp
variable {G : am_G} {l : Launch} {X Xc : am_X} {pc : Nat} {ls st rest : List Value} {M : am_M} {o x : am_R} {a b c k idx n w : Nat} {i : Int32} {y : MethodName} {as As : List Value}
theorem am_s1 {s : State} (hT : am_Tb G s) (h : 100 ≤ w ∧ w < 140) : ∃ (own : String) (idx : Nat) (tx : String) (k : Nat), w = 100 + k ∧ am_S1 G s k own idx tx := by
  have hk : w - 100 < am_str.length := by show w - 100 < 40; omega
  obtain ⟨⟨own, idx, tx⟩, hq⟩ : ∃ q, am_str[w - 100]? = some q := ⟨_, List.getElem?_eq_getElem hk⟩
  exact ⟨own, idx, tx, w - 100, by omega, hT.2.2.2.1 _ own idx tx hq⟩
theorem r_ldcS {tx : String} (hd : decode (xC X) pc = .ok (.ldc idx, 2)) (k : Nat) (hs : am_str[k]? = some (xO X, idx, tx)) (kk : Rf G l X (pc + 2) ls (.retAddr (100 + k) :: st) M o) : Rf G l X pc ls st M o := by
  refine Rf.goH (fun p e R s m args below meth cd cells slots H locs lsR Q hC hH hS hL k2 => ?_) kk
  obtain ⟨a, v, q1, q2, q3, -⟩ := hC.2.2.2.2.2.2.2.2.2.2.2.2.2.1 k _ _ _ hs
  have e : rv G (.retAddr (100 + k)) = .ref a := q1
  rw [List.map_cons, e] at k2
  exact va_ldcS hC.1 hC.2.1 hC.2.2.2.2.2.2.1 q3 hd k2
theorem r_ldcw (hd : decode (xC X) pc = .ok (.ldc_w idx, 3)) (v : Int32) (hw : Cond.constant (xO X) idx v ∈ am_ws) (k : Rf G l X (pc + 3) ls (.int v :: st) M o) : Rf G l X pc ls st M o := Rf.go (fun p e R s m args below meth c cells slots H locs lsR Q hC hL k => lv_ldcw hC.1 hC.2.1 hC.2.2.2.2.2.2.1 (hC.2.2.2.2.2.2.2.2.2.2.1 _ hw _) hd k) k
theorem r_spV (hd : decode (xC X) pc = .ok (.getfield idx, 3)) (hw : Cond.fieldLink (xO X) idx "java/lang/String" "value" "[B" ∈ am_ws) (kk : Rf G l X (pc + 3) ls (.retAddr (w + 100) :: st) M o) : Rf G l X pc ls (.retAddr w :: st) M (xV w o) := by
  unfold xV
  refine Rf.ite (fun h => ?_) (fun _ => Rf.no)
  refine Rf.goH (fun p e R s m args below meth cd cells slots H locs lsR Q hC hH hS hL k2 => ?_) kk
  have hT := hC.2.2.2.2.2.2.2.2.2.2
  obtain ⟨own, ix, tx, k, rfl, a, v, q1, q2, q3, q4, q5, q6, q7⟩ := am_s1 hT h
  have e : rv G (.retAddr (100 + k)) = .ref a := q1
  have e2 : rv G (.retAddr (100 + k + 100)) = .ref v := by rw [show 100 + k + 100 = 200 + k by omega]; exact q2
  rw [List.map_cons, e2] at k2
  rw [List.map_cons, e]
  exact vk_getf hC.1 hC.2.1 q6 hS hC.2.2.2.2.2.2.1 (hT.1 _ hw args) (fun _ h => h) hd k2
theorem r_spC (hd : decode (xC X) pc = .ok (.getfield idx, 3)) (hw : Cond.fieldLink (xO X) idx "java/lang/String" "coder" "B" ∈ am_ws) (kk : Rf G l X (pc + 3) ls (.int 0 :: st) M o) : Rf G l X pc ls (.retAddr w :: st) M (xV w o) := by
  unfold xV
  refine Rf.ite (fun h => ?_) (fun _ => Rf.no)
  refine Rf.goH (fun p e R s m args below meth cd cells slots H locs lsR Q hC hH hS hL k2 => ?_) kk
  have hT := hC.2.2.2.2.2.2.2.2.2.2
  obtain ⟨own, ix, tx, k, rfl, a, v, q1, q2, q3, q4, q5, q6, q7⟩ := am_s1 hT h
  have e : rv G (.retAddr (100 + k)) = .ref a := q1
  rw [List.map_cons, e]
  exact vk_getf hC.1 hC.2.1 q5 hS hC.2.2.2.2.2.2.1 (hT.1 _ hw args) (fun _ h => h) hd k2
theorem r_getZ (hd : decode (xC X) pc = .ok (.getstatic idx, 3)) (hw : Cond.fieldLink (xO X) idx "java/lang/String" "COMPACT_STRINGS" "Z" ∈ am_ws) (kk : Rf G l X (pc + 3) ls (.int 1 :: st) M o) : Rf G l X pc ls st M o := by
  refine Rf.goH (fun p e R s m args below meth cd cells slots H locs lsR Q hC hH hS hL k2 => ?_) kk
  have hT := hC.2.2.2.2.2.2.2.2.2.2
  exact va_gets hC.1 hC.2.1 hT.2.2.2.2.2.2.1 hS hC.2.2.2.2.2.2.1 (hT.1 _ hw args) (fun _ h => h) hd k2
theorem r_getF (hd : decode (xC X) pc = .ok (.getstatic idx, 3)) (hw : Cond.fieldLink (xO X) idx "jdk/internal/util/Preconditions" "SIOOBE_FORMATTER" "Ljava/util/function/BiFunction;" ∈ am_ws) (kk : Rf G l X (pc + 3) ls (.retAddr 4 :: st) M o) : Rf G l X pc ls st M o := by
  refine Rf.goH (fun p e R s m args below meth cd cells slots H locs lsR Q hC hH hS hL k2 => ?_) kk
  have hT := hC.2.2.2.2.2.2.2.2.2.2
  exact va_gets hC.1 hC.2.1 hT.2.2.2.2.2.2.2.1 hS hC.2.2.2.2.2.2.1 (hT.1 _ hw args) (fun _ h => h) hd k2
theorem r_getKL (hd : decode (xC X) pc = .ok (.getstatic idx, 3)) (hw : Cond.fieldLink (xO X) idx "NumberedSparks" "KIND_LEAST" "[I" ∈ am_ws) (kk : Rf G l X (pc + 3) ls (.retAddr 2 :: st) M o) : Rf G l X pc ls st M o := by
  refine Rf.goH (fun p e R s m args below meth cd cells slots H locs lsR Q hC hH hS hL k2 => ?_) kk
  have hT := hC.2.2.2.2.2.2.2.2.2.2
  obtain ⟨a, q1, q2, -⟩ := hT.2.2.2.2.1
  have e : rv G (.retAddr 2) = .ref a := q1
  rw [List.map_cons, e] at k2
  exact va_gets hC.1 hC.2.1 q2 hS hC.2.2.2.2.2.2.1 (hT.1 _ hw args) (fun _ h => h) hd k2
theorem r_getKM (hd : decode (xC X) pc = .ok (.getstatic idx, 3)) (hw : Cond.fieldLink (xO X) idx "NumberedSparks" "KIND_MOST" "[I" ∈ am_ws) (kk : Rf G l X (pc + 3) ls (.retAddr 3 :: st) M o) : Rf G l X pc ls st M o := by
  refine Rf.goH (fun p e R s m args below meth cd cells slots H locs lsR Q hC hH hS hL k2 => ?_) kk
  have hT := hC.2.2.2.2.2.2.2.2.2.2
  obtain ⟨a, q1, q2, -⟩ := hT.2.2.2.2.2.1
  have e : rv G (.retAddr 3) = .ref a := q1
  rw [List.map_cons, e] at k2
  exact va_gets hC.1 hC.2.1 q2 hS hC.2.2.2.2.2.2.1 (hT.1 _ hw args) (fun _ h => h) hd k2
theorem am_tlen {z N : Nat} (h1 : N ≤ z) (h2 : z.toInt32 = Int32.ofNat N) (i : Int32) (hi : i.toNatClampNeg < N) : ¬ z ≤ i.toNatClampNeg := by omega
theorem r_xI {v : Nat} {f : Int32 → am_R} (hd : decode (xC X) pc = .ok (.iaload, 1)) (kk : ∀ x, Rf G l X (pc + 1) ls (.int x :: st) M (f x)) : Rf G l X pc ls (.int i :: .retAddr v :: st) M (xI v i f) := by
  unfold xI
  refine Rf.ite (fun h => ?_) (fun _ => Rf.no)
  refine Rf.goH (fun p e R s m args below meth cd cells slots H locs lsR Q hC hH hS hL k2 => ?_) (kk _)
  have hT := hC.2.2.2.2.2.2.2.2.2.2
  have hlt : i.toNatClampNeg < 5 := Nat.not_le.mp fun q => h.2 (Or.inr q)
  have h0 : ¬ i < 0 := fun q => h.2 (Or.inl q)
  rcases h.1 with rfl | rfl
  · obtain ⟨a, q1, -, q3⟩ := hT.2.2.2.2.1
    obtain ⟨cell, t1, t2, t3, t4, t5, t6, -⟩ := q3.kept hS.2.1
    have e : rv G (.retAddr 2) = .ref a := q1
    rw [List.map_cons, List.map_cons, e]
    exact W.iald hC.1 hC.2.1 t1 t2 t3 (fun q => q.elim h0 (fun z => by omega)) (t6 _ hlt) rfl rfl hd k2
  · obtain ⟨a, q1, -, q3⟩ := hT.2.2.2.2.2.1
    obtain ⟨cell, t1, t2, t3, t4, t5, t6, -⟩ := q3.kept hS.2.1
    have e : rv G (.retAddr 3) = .ref a := q1
    rw [List.map_cons, List.map_cons, e]
    exact W.iald hC.1 hC.2.1 t1 t2 t3 (fun q => q.elim h0 (fun z => by omega)) (t6 _ hlt) rfl rfl hd k2
theorem am_s2 {s : State} (hT : am_Tb G s) (h : 200 ≤ w ∧ w < 240) : ∃ (k v : Nat), w = 200 + k ∧ gS G (200 + k) = .ref v ∧ va_T .byte v (am_sl k) (fun j => .int (am_sb k j)) (gA G) s s.heap := by
  obtain ⟨own, ix, tx, k, hk, a, v, q1, q2, q3, q4, q5, q6, q7⟩ := am_s1 (w := w - 100) hT (by omega)
  exact ⟨k, v, by omega, q2, q7⟩
theorem r_xB {v : Nat} {f : Int32 → am_R} (hd : decode (xC X) pc = .ok (.baload, 1)) (kk : ∀ x, Rf G l X (pc + 1) ls (.int x :: st) M (f x)) : Rf G l X pc ls (.int i :: .retAddr v :: st) M (xB v i f) := by
  unfold xB
  refine Rf.ite (fun h => ?_) (fun _ => Rf.no)
  refine Rf.goH (fun p e R s m args below meth cd cells slots H locs lsR Q hC hH hS hL k2 => ?_) (kk _)
  have hT := hC.2.2.2.2.2.2.2.2.2.2
  obtain ⟨k, v', rfl, q1, q3⟩ := am_s2 hT h.1
  have hlt : i.toNatClampNeg < am_sl k := Nat.not_le.mp fun q => h.2 (Or.inr (by rw [show 200 + k - 200 = k by omega]; exact q))
  have h0 : ¬ i < 0 := fun q => h.2 (Or.inl q)
  obtain ⟨cell, t1, t2, t3, t4, t5, t6, -⟩ := q3.kept hS.2.1
  have e : rv G (.retAddr (200 + k)) = .ref v' := q1
  rw [show 200 + k - 200 = k by omega] at k2
  rw [List.map_cons, List.map_cons, e]
  exact W.bald hC.1 hC.2.1 t1 t2 t3 (fun q => q.elim h0 (fun z => by omega)) (t6 _ hlt) rfl rfl hd k2
theorem r_xLn {v : Nat} {f : Int32 → am_R} (hd : decode (xC X) pc = .ok (.arraylength, 1)) (kk : ∀ x, Rf G l X (pc + 1) ls (.int x :: st) M (f x)) : Rf G l X pc ls (.retAddr v :: st) M (xLn v f) := by
  unfold xLn
  refine Rf.ite (fun h => ?_) (fun _ => Rf.no)
  refine Rf.goH (fun p e R s m args below meth cd cells slots H locs lsR Q hC hH hS hL k2 => ?_) (kk _)
  have hT := hC.2.2.2.2.2.2.2.2.2.2
  obtain ⟨k, v', rfl, q1, q3⟩ := am_s2 hT h
  obtain ⟨cell, t1, t2, t3, t4, t5, t6, -⟩ := q3.kept hS.2.1
  have e : rv G (.retAddr (200 + k)) = .ref v' := q1
  rw [show 200 + k - 200 = k by omega] at k2
  rw [List.map_cons, e]
  exact W.alen hC.1 hC.2.1 t1 t2 t5 rfl rfl hd k2
/-- a method of a String constant -/
theorem r_cvS {f : Int32 → am_M → am_R} (hc : Ct G l y Xc (.retAddr w :: As) M x) (hd : decode (xC X) pc = .ok (.invokevirtual idx, 3)) (hb : am_mb y Xc n) (hw1 : Cond.methodLink (xO X) idx y ∈ am_ws) (hw2 : Cond.instanceMethod y ∈ am_ws) (hw3 : Cond.selects "java/lang/String" y y ∈ am_ws) (hdp : xD Xc + 1 ≤ xD X) (hn : As.length = n) (hst : st = As.reverse ++ .retAddr w :: rest) (hcat : (rest.map Value.category).sum ≤ 8) (kk : ∀ r M1, Rf G l X (pc + 3) ls (.int r :: rest) M1 (f r M1)) : Rf G l X pc ls st M (xV w (bI x f)) := by
  unfold xV
  refine Rf.ite (fun h => ?_) (fun _ => Rf.no)
  rcases hx : x with _ | ⟨_ | v, M1⟩
  · exact Rf.no
  · exact Rf.no
  · cases v <;> first | exact Rf.no | skip
    rename_i r
    refine Rf.callC (v1 := some (.int r)) (M1 := M1) (rest := rest) rfl (hx ▸ hc) hdp (fun p e R s m args below meth cd cells slots H locs lsR mc ms Qc hC hH hS hL hr1 hr2 hM => ?_) (kk r M1)
    obtain ⟨q1, q2, q3, q4⟩ := am_cb (args := args) (mc := mc) (ms := ms) hC hb hdp
    have hts : ∀ w ∈ am_ws, w.before args s = true := fun w hw => hC.2.2.2.2.2.2.2.2.2.2.1 w hw args
    have hT := hC.2.2.2.2.2.2.2.2.2.2
    obtain ⟨own, ix, tx, k, rfl, a, v, z1, z2, z3, z4, z5, z6, z7⟩ := am_s1 hT h
    have e2 : rv G (.retAddr (100 + k)) = .ref a := z1
    subst hst
    have hP := am_entry (M := M) hT hH hS ((.retAddr (100 + k) :: As).map (rv G))
    have hB := am_blind G M ((.retAddr (100 + k) :: As).map (rv G))
    rw [List.map_cons, e2] at hM hP hB ⊢
    obtain ⟨cell, g1, g2, g3, -⟩ := z4.kept hS.2.1
    exact va_runV (Ts := am_ws) (C := "java/lang/String") (As := As.map (rv G)) ⟨hC.1, hC.2.1, hC.2.2.1, hC.2.2.2.2.2.2.1, hts⟩ hM ⟨⟨rfl, rfl, q1, q2, q3, List.mem_singleton.mpr rfl, hts _ hb.1, hts _ hb.2.1, hb.2.2.1, q4, hts _ hw1⟩, hts _ hw2, hts _ hw3⟩ ⟨hB, ⟨cell, g1, g2, g3⟩, hP⟩ rfl (by rw [List.length_map]; exact hn) hL.1 (by simp [e2]) (lv_room (am_cat hT hcat)) hd ⟨hr1, hr2⟩
theorem r_cpy {sp dp nn : Int32} {f : am_M → am_R} (hd : decode (xC X) pc = .ok (.invokestatic idx, 3)) (hw1 : Cond.methodLink (xO X) idx arraycopyName ∈ am_ws) (hw2 : Cond.native arraycopyName ∈ am_ws) (hw3 : Cond.static arraycopyName ∈ am_ws) (hw4 : Cond.initialized "java/lang/System" ∈ am_ws) (hcat : (rest.map Value.category).sum ≤ 8) (hdp : 1 ≤ xD X) (kk : ∀ M1, Rf G l X (pc + 3) ls rest M1 (f M1)) : Rf G l X pc ls (.int nn :: .int dp :: .ref b :: .int sp :: .ref a :: rest) M (cpy M a sp b dp nn f) := by
  unfold cpy
  refine Rf.ite (fun h => ?_) (fun _ => Rf.no)
  obtain ⟨⟨k0, k1⟩, ⟨h1, h2, h3⟩, h4, h5⟩ := h
  refine Rf.goM (M1 := cpI M a sp.toNatClampNeg b dp.toNatClampNeg nn.toNatClampNeg) rfl rfl (fun p e R s m args below meth cd cells slots H locs lsR Q hC hH hS hL kk => ?_) (kk _)
  have hT := hC.2.2.2.2.2.2.2.2.2.2
  have hK := hT.2.1
  have nn' : ∀ z : Int32, ¬ z < 0 → z.toInt = (z.toNatClampNeg : Int) := by
    intro z hz
    have hz0 : (0 : Int) ≤ z.toInt := by
      have := Int32.not_lt.mp hz
      simpa using Int32.le_iff_toInt_le.mp this
    show z.toInt = ((z.toInt.toNat : Nat) : Int)
    omega
  have ha0 : (am_wd G M)[a]? = some (gB G + a, .inl (gC G 0, mLn M a, .inl (rI M a))) := by rw [wd_at (kd_lt k0), cell_I k0]
  have ha1 : (am_wd G M)[b]? = some (gB G + b, .inl (gC G 0, mLn M b, .inl (rI M b))) := by rw [wd_at (kd_lt k1), cell_I k1]
  have hlo := hC.2.2.2.2.2.2.2.2.1
  have hfr := hC.2.2.2.2.2.2.2.1
  have hc8 := am_cat (rest := rest) hT hcat
  intro T hTh XS
  have hc0 : H[gB G + a]? = some (vp_cell (gC G 0) (mLn M a, .inl (rI M a))) := hH.2 a _ ha0
  have hc1 : H[gB G + b]? = some (vp_cell (gC G 0) (mLn M b, .inl (rI M b))) := hH.2 b _ ha1
  have ht : (am_tys G)[0]? = some (gC G 0, .int) := rfl
  obtain ⟨-, kc0, hk0, cm0, hkk0⟩ := (hK.2 0 _ ht).1 (mLn M a) (fun j => .int (rI M a j))
  obtain ⟨-, kc1, hk1, cm1, hkk1⟩ := (hK.2 0 _ ht).1 (mLn M b) (fun j => .int (rI M b j))
  obtain ⟨vm', X', step⟩ := XS.arraycopy hC.1 hC.2.2.2.2.2.2.1 (hT.1 _ hw1 args) (hT.1 _ hw2 args) (hT.1 _ hw3 args) (hT.1 _ hw4 args) (src := gB G + a) (dst := gB G + b) (cs := vp_cell (gC G 0) (mLn M a, .inl (rI M a))) (cd := vp_cell (gC G 0) (mLn M b, .inl (rI M b))) (srcPos := sp) (destPos := dp) (n := nn) (by rw [hTh]; exact hc0) (by rw [hTh]; exact hc1)
    (fun _ h => by cases h) (fun _ h => by cases h) (fun h => by cases h) (fun h => by cases h) hk0 hk1 hkk0 hkk1 (by simp [show refKind .int = false from rfl]) h1 h2 h3
    (by rw [nn' sp h1, nn' nn h3]; show ¬ _ > ((arrV (gC G 0) (mLn M a) (fun j => .int (rI M a j))).slots.size : Int); rw [arrV_size]; omega)
    (by rw [nn' dp h2, nn' nn h3]; show ¬ _ > ((arrV (gC G 0) (mLn M b) (fun j => .int (rI M b j))).slots.size : Int); rw [arrV_size]; omega)
    (fun vm₁ _ i hi => by
      have e : (vp_cell (gC G 0) (mLn M a, .inl (rI M a))).slots.getD (sp.toNatClampNeg + i) .null = .int (rI M a (sp.toNatClampNeg + i)) := by
        show (arrV (gC G 0) (mLn M a) (fun j => .int (rI M a j))).slots.getD _ _ = _
        rw [Array.getD_eq_getD_getElem?, arrV_read _ _ (by omega)]
        rfl
      refine ⟨?_, ?_⟩
      · rw [e]
        rfl
      · rw [e]
        exact trivial)
    (g := F0 m pc lsR (.int nn :: .int dp :: .ref (gB G + b) :: .int sp :: .ref (gB G + a) :: rest.map (rv G))) rfl (by rw [hC.2.2.1]; exact hL.1) (rest := rest.map (rv G)) rfl (by rw [hC.2.1]; exact hd) (by rw [hfr]; exact hdp) (by
      have h37 : nativeFrameWords "java/lang/System" "arraycopy" 5 ≤ 18 := by decide +kernel
      rw [hlo]
      show 2 * 0 + _ + _ ≤ _
      omega)
  have e1 : copied (vp_cell (gC G 0) (mLn M a, .inl (rI M a))) (vp_cell (gC G 0) (mLn M b, .inl (rI M b))) sp dp nn = vp_cell (gC G 0) (mLn M b, .inl (va_cpy (rI M a) (rI M b) sp.toNatClampNeg dp.toNatClampNeg nn.toNatClampNeg)) := va_copied (fun z => .int z) (gC G 0) (gC G 0) (rI M a) (rI M b) h4
  rw [e1] at X' step
  have hl : gB G + b < H.size := (Array.getElem?_eq_some_iff.mp hc1).1
  have hheap : ((T.setVm vm').setCell (gB G + b) (vp_cell (gC G 0) (mLn M b, .inl (va_cpy (rI M a) (rI M b) sp.toNatClampNeg dp.toNatClampNeg nn.toNatClampNeg)))).heap = H.setIfInBounds (gB G + b) (vp_cell (gC G 0) (mLn M b, .inl (va_cpy (rI M a) (rI M b) sp.toNatClampNeg dp.toNatClampNeg nn.toNatClampNeg))) := by rw [← hTh]; rfl
  have oq : ∀ q : Nat, q ≠ gB G + b → (H.setIfInBounds (gB G + b) (vp_cell (gC G 0) (mLn M b, .inl (va_cpy (rI M a) (rI M b) sp.toNatClampNeg dp.toNatClampNeg nn.toNatClampNeg))))[q]? = H[q]? := fun q hq => by simp [Array.getElem?_setIfInBounds, Ne.symm hq]
  have hcell : am_cell G (cpI M a sp.toNatClampNeg b dp.toNatClampNeg nn.toNatClampNeg) b = .inl (gC G 0, mLn M b, .inl (va_cpy (rI M a) (rI M b) sp.toNatClampNeg dp.toNatClampNeg nn.toNatClampNeg)) := by
    rw [cell_I (show mKd (cpI M a sp.toNatClampNeg b dp.toNatClampNeg nn.toNatClampNeg) b = 0 from k1)]
    have : rI (cpI M a sp.toNatClampNeg b dp.toNatClampNeg nn.toNatClampNeg) b = va_cpy (rI M a) (rI M b) sp.toNatClampNeg dp.toNatClampNeg nn.toNatClampNeg := by
      show (if b = b then _ else _) = _
      rw [if_pos rfl]
      rfl
    rw [this]
    rfl
  obtain ⟨t, a1, b1⟩ := kk _ _ (hH.put rfl (fun j hj => cell_same rfl rfl (by show (if j = b then _ else _) = _; rw [if_neg hj]; rfl) rfl rfl) hcell (by simp) (hH.2.set (wd_D G M) ha1 (show (H.setIfInBounds (gB G + b) _)[gB G + b]? = some _ by simp [Array.getElem?_setIfInBounds, hl]) oq)) ⟨by simp; exact hS.1, fun q g1 g2 => by
      rw [oq q (fun e => g2 (by rw [e]; exact Nat.le_add_right _ _))]
      exact hS.2.1 q g1 g2, fun q hq => by
      rcases List.mem_append.mp hq with h | h
      · exact hS.2.2 q h
      · obtain ⟨z, -, hz⟩ := List.mem_map.mp h
        rw [← hz]
        exact Nat.le_add_right _ _⟩ _ hheap X'
  exact ⟨t, step t a1, b1⟩
end RfSp
end
