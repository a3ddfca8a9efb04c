section
-- ===== PART A: goes FIRST, ahead of the names: the tables' words, and 'selects' of the private methods out of them =====
/-- a private method of a class that the tables say can be made, by its rows of tables_1 -/
def lw_okq (q : MethodName × Nat) : Prop := (q.1.cls ≠ "java/lang/invoke/MethodHandle" ∧ q.1.cls ≠ "java/lang/invoke/VarHandle") ∧ Cond.instantiable q.1.cls q.2 ∈ tables_1 ∧ Cond.privateMethod q.1 ∈ tables_1 ∧ Cond.instanceMethod q.1 ∈ tables_1
theorem lw_p0 : lw_okq (⟨"NumberedSparks", "putOnTape", "(I)V"⟩, 11) := ⟨⟨by decide +kernel, by decide +kernel⟩, List.mem_of_getElem? (i := 19) (by decide +kernel), List.mem_of_getElem? (i := 347) (by decide +kernel), List.mem_of_getElem? (i := 348) (by decide +kernel)⟩
theorem lw_p1 : lw_okq (⟨"NumberedSparks$Reader", "advance", "()V"⟩, 9) := ⟨⟨by decide +kernel, by decide +kernel⟩, List.mem_of_getElem? (i := 71) (by decide +kernel), List.mem_of_getElem? (i := 373) (by decide +kernel), List.mem_of_getElem? (i := 374) (by decide +kernel)⟩
theorem lw_p2 : lw_okq (⟨"NumberedSparks$Reader", "byteAt", "(I)I"⟩, 9) := ⟨⟨by decide +kernel, by decide +kernel⟩, List.mem_of_getElem? (i := 71) (by decide +kernel), List.mem_of_getElem? (i := 377) (by decide +kernel), List.mem_of_getElem? (i := 378) (by decide +kernel)⟩
theorem lw_p3 : lw_okq (⟨"NumberedSparks$Reader", "readWorld", "()V"⟩, 9) := ⟨⟨by decide +kernel, by decide +kernel⟩, List.mem_of_getElem? (i := 71) (by decide +kernel), List.mem_of_getElem? (i := 388) (by decide +kernel), List.mem_of_getElem? (i := 389) (by decide +kernel)⟩
theorem lw_p4 : lw_okq (⟨"NumberedSparks$Reader", "needWord", "(Ljava/lang/String;)V"⟩, 9) := ⟨⟨by decide +kernel, by decide +kernel⟩, List.mem_of_getElem? (i := 71) (by decide +kernel), List.mem_of_getElem? (i := 393) (by decide +kernel), List.mem_of_getElem? (i := 394) (by decide +kernel)⟩
theorem lw_p5 : lw_okq (⟨"NumberedSparks$Reader", "takeWord", "(Ljava/lang/String;)Z"⟩, 9) := ⟨⟨by decide +kernel, by decide +kernel⟩, List.mem_of_getElem? (i := 71) (by decide +kernel), List.mem_of_getElem? (i := 397) (by decide +kernel), List.mem_of_getElem? (i := 398) (by decide +kernel)⟩
theorem lw_p6 : lw_okq (⟨"NumberedSparks$Reader", "isWord", "(Ljava/lang/String;)Z"⟩, 9) := ⟨⟨by decide +kernel, by decide +kernel⟩, List.mem_of_getElem? (i := 71) (by decide +kernel), List.mem_of_getElem? (i := 401) (by decide +kernel), List.mem_of_getElem? (i := 402) (by decide +kernel)⟩
theorem lw_p7 : lw_okq (⟨"NumberedSparks$Reader", "fail", "(I)V"⟩, 9) := ⟨⟨by decide +kernel, by decide +kernel⟩, List.mem_of_getElem? (i := 71) (by decide +kernel), List.mem_of_getElem? (i := 453) (by decide +kernel), List.mem_of_getElem? (i := 454) (by decide +kernel)⟩
theorem lw_p8 : lw_okq (⟨"NumberedSparks$Reader", "needNumber", "(II)I"⟩, 9) := ⟨⟨by decide +kernel, by decide +kernel⟩, List.mem_of_getElem? (i := 71) (by decide +kernel), List.mem_of_getElem? (i := 457) (by decide +kernel), List.mem_of_getElem? (i := 458) (by decide +kernel)⟩
theorem lw_p9 : lw_okq (⟨"NumberedSparks$Reader", "needSign", "(C)V"⟩, 9) := ⟨⟨by decide +kernel, by decide +kernel⟩, List.mem_of_getElem? (i := 71) (by decide +kernel), List.mem_of_getElem? (i := 461) (by decide +kernel), List.mem_of_getElem? (i := 462) (by decide +kernel)⟩
theorem lw_p10 : lw_okq (⟨"NumberedSparks$Reader", "readSeed", "()V"⟩, 9) := ⟨⟨by decide +kernel, by decide +kernel⟩, List.mem_of_getElem? (i := 71) (by decide +kernel), List.mem_of_getElem? (i := 466) (by decide +kernel), List.mem_of_getElem? (i := 467) (by decide +kernel)⟩
theorem lw_p11 : lw_okq (⟨"NumberedSparks$Reader", "readKind", "()V"⟩, 9) := ⟨⟨by decide +kernel, by decide +kernel⟩, List.mem_of_getElem? (i := 71) (by decide +kernel), List.mem_of_getElem? (i := 472) (by decide +kernel), List.mem_of_getElem? (i := 473) (by decide +kernel)⟩
theorem lw_p12 : lw_okq (⟨"NumberedSparks$Reader", "numberBehind", "(Ljava/lang/String;III)I"⟩, 9) := ⟨⟨by decide +kernel, by decide +kernel⟩, List.mem_of_getElem? (i := 71) (by decide +kernel), List.mem_of_getElem? (i := 482) (by decide +kernel), List.mem_of_getElem? (i := 483) (by decide +kernel)⟩
theorem lw_p13 : lw_okq (⟨"NumberedSparks$Reader", "readFalls", "()I"⟩, 9) := ⟨⟨by decide +kernel, by decide +kernel⟩, List.mem_of_getElem? (i := 71) (by decide +kernel), List.mem_of_getElem? (i := 487) (by decide +kernel), List.mem_of_getElem? (i := 488) (by decide +kernel)⟩
theorem lw_p14 : lw_okq (⟨"NumberedSparks$Reader", "readEdge", "()I"⟩, 9) := ⟨⟨by decide +kernel, by decide +kernel⟩, List.mem_of_getElem? (i := 71) (by decide +kernel), List.mem_of_getElem? (i := 493) (by decide +kernel), List.mem_of_getElem? (i := 494) (by decide +kernel)⟩
theorem lw_p15 : lw_okq (⟨"NumberedSparks$Reader", "readSource", "()V"⟩, 9) := ⟨⟨by decide +kernel, by decide +kernel⟩, List.mem_of_getElem? (i := 71) (by decide +kernel), List.mem_of_getElem? (i := 507) (by decide +kernel), List.mem_of_getElem? (i := 508) (by decide +kernel)⟩
def lw_privs_1 : List (MethodName × Nat) := [(⟨"NumberedSparks", "putOnTape", "(I)V"⟩, 11), (⟨"NumberedSparks$Reader", "advance", "()V"⟩, 9), (⟨"NumberedSparks$Reader", "byteAt", "(I)I"⟩, 9), (⟨"NumberedSparks$Reader", "readWorld", "()V"⟩, 9), (⟨"NumberedSparks$Reader", "needWord", "(Ljava/lang/String;)V"⟩, 9), (⟨"NumberedSparks$Reader", "takeWord", "(Ljava/lang/String;)Z"⟩, 9), (⟨"NumberedSparks$Reader", "isWord", "(Ljava/lang/String;)Z"⟩, 9), (⟨"NumberedSparks$Reader", "fail", "(I)V"⟩, 9), (⟨"NumberedSparks$Reader", "needNumber", "(II)I"⟩, 9), (⟨"NumberedSparks$Reader", "needSign", "(C)V"⟩, 9), (⟨"NumberedSparks$Reader", "readSeed", "()V"⟩, 9), (⟨"NumberedSparks$Reader", "readKind", "()V"⟩, 9), (⟨"NumberedSparks$Reader", "numberBehind", "(Ljava/lang/String;III)I"⟩, 9), (⟨"NumberedSparks$Reader", "readFalls", "()I"⟩, 9), (⟨"NumberedSparks$Reader", "readEdge", "()I"⟩, 9), (⟨"NumberedSparks$Reader", "readSource", "()V"⟩, 9)]
theorem lw_r1 : ∀ q ∈ lw_privs_1, lw_okq q := List.forall_mem_cons.mpr ⟨lw_p0, List.forall_mem_cons.mpr ⟨lw_p1, List.forall_mem_cons.mpr ⟨lw_p2, List.forall_mem_cons.mpr ⟨lw_p3, List.forall_mem_cons.mpr ⟨lw_p4, List.forall_mem_cons.mpr ⟨lw_p5, List.forall_mem_cons.mpr ⟨lw_p6, List.forall_mem_cons.mpr ⟨lw_p7, List.forall_mem_cons.mpr ⟨lw_p8, List.forall_mem_cons.mpr ⟨lw_p9, List.forall_mem_cons.mpr ⟨lw_p10, List.forall_mem_cons.mpr ⟨lw_p11, List.forall_mem_cons.mpr ⟨lw_p12, List.forall_mem_cons.mpr ⟨lw_p13, List.forall_mem_cons.mpr ⟨lw_p14, List.forall_mem_cons.mpr ⟨lw_p15, fun _ h => absurd h List.not_mem_nil⟩⟩⟩⟩⟩⟩⟩⟩⟩⟩⟩⟩⟩⟩⟩⟩
theorem lw_p16 : lw_okq (⟨"NumberedSparks$Spark", "ageBeyond", "(II)I"⟩, 10) := ⟨⟨by decide +kernel, by decide +kernel⟩, List.mem_of_getElem? (i := 151) (by decide +kernel), List.mem_of_getElem? (i := 702) (by decide +kernel), List.mem_of_getElem? (i := 703) (by decide +kernel)⟩
theorem lw_p17 : lw_okq (⟨"NumberedSparks$Spark", "freePlace", "(II)I"⟩, 10) := ⟨⟨by decide +kernel, by decide +kernel⟩, List.mem_of_getElem? (i := 151) (by decide +kernel), List.mem_of_getElem? (i := 718) (by decide +kernel), List.mem_of_getElem? (i := 719) (by decide +kernel)⟩
theorem lw_p18 : lw_okq (⟨"NumberedSparks", "isAmong", "(II)Z"⟩, 11) := ⟨⟨by decide +kernel, by decide +kernel⟩, List.mem_of_getElem? (i := 19) (by decide +kernel), List.mem_of_getElem? (i := 783) (by decide +kernel), List.mem_of_getElem? (i := 784) (by decide +kernel)⟩
theorem lw_p19 : lw_okq (⟨"NumberedSparks$Walk", "measureSpans", "()V"⟩, 9) := ⟨⟨by decide +kernel, by decide +kernel⟩, List.mem_of_getElem? (i := 144) (by decide +kernel), List.mem_of_getElem? (i := 807) (by decide +kernel), List.mem_of_getElem? (i := 808) (by decide +kernel)⟩
theorem lw_p20 : lw_okq (⟨"NumberedSparks$Walk", "spanBehind", "(II)I"⟩, 9) := ⟨⟨by decide +kernel, by decide +kernel⟩, List.mem_of_getElem? (i := 144) (by decide +kernel), List.mem_of_getElem? (i := 812) (by decide +kernel), List.mem_of_getElem? (i := 813) (by decide +kernel)⟩
theorem lw_p21 : lw_okq (⟨"NumberedSparks$Walk", "spanOf", "(II)I"⟩, 9) := ⟨⟨by decide +kernel, by decide +kernel⟩, List.mem_of_getElem? (i := 144) (by decide +kernel), List.mem_of_getElem? (i := 816) (by decide +kernel), List.mem_of_getElem? (i := 817) (by decide +kernel)⟩
theorem lw_p22 : lw_okq (⟨"NumberedSparks$Walk", "sourceOfLeastRoot", "()I"⟩, 9) := ⟨⟨by decide +kernel, by decide +kernel⟩, List.mem_of_getElem? (i := 144) (by decide +kernel), List.mem_of_getElem? (i := 827) (by decide +kernel), List.mem_of_getElem? (i := 828) (by decide +kernel)⟩
theorem lw_p23 : lw_okq (⟨"NumberedSparks$Walk", "isOutside", "(LNumberedSparks$Spark;)Z"⟩, 9) := ⟨⟨by decide +kernel, by decide +kernel⟩, List.mem_of_getElem? (i := 144) (by decide +kernel), List.mem_of_getElem? (i := 833) (by decide +kernel), List.mem_of_getElem? (i := 834) (by decide +kernel)⟩
theorem lw_p24 : lw_okq (⟨"NumberedSparks$Walk", "show", "(I)V"⟩, 9) := ⟨⟨by decide +kernel, by decide +kernel⟩, List.mem_of_getElem? (i := 144) (by decide +kernel), List.mem_of_getElem? (i := 838) (by decide +kernel), List.mem_of_getElem? (i := 839) (by decide +kernel)⟩
theorem lw_p25 : lw_okq (⟨"NumberedSparks$Walk", "stepChild", "(LNumberedSparks$Spark;II)V"⟩, 9) := ⟨⟨by decide +kernel, by decide +kernel⟩, List.mem_of_getElem? (i := 144) (by decide +kernel), List.mem_of_getElem? (i := 842) (by decide +kernel), List.mem_of_getElem? (i := 843) (by decide +kernel)⟩
theorem lw_p26 : lw_okq (⟨"NumberedSparks", "isWindow", "(II)Z"⟩, 11) := ⟨⟨by decide +kernel, by decide +kernel⟩, List.mem_of_getElem? (i := 19) (by decide +kernel), List.mem_of_getElem? (i := 883) (by decide +kernel), List.mem_of_getElem? (i := 884) (by decide +kernel)⟩
theorem lw_p27 : lw_okq (⟨"NumberedSparks", "countComingAndGoing", "(II)V"⟩, 11) := ⟨⟨by decide +kernel, by decide +kernel⟩, List.mem_of_getElem? (i := 19) (by decide +kernel), List.mem_of_getElem? (i := 933) (by decide +kernel), List.mem_of_getElem? (i := 934) (by decide +kernel)⟩
theorem lw_p28 : lw_okq (⟨"NumberedSparks$Frame", "append", "(LNumberedSparks$Spark;I)V"⟩, 13) := ⟨⟨by decide +kernel, by decide +kernel⟩, List.mem_of_getElem? (i := 233) (by decide +kernel), List.mem_of_getElem? (i := 972) (by decide +kernel), List.mem_of_getElem? (i := 973) (by decide +kernel)⟩
theorem lw_p29 : lw_okq (⟨"NumberedSparks$Frame", "grow", "()V"⟩, 13) := ⟨⟨by decide +kernel, by decide +kernel⟩, List.mem_of_getElem? (i := 233) (by decide +kernel), List.mem_of_getElem? (i := 976) (by decide +kernel), List.mem_of_getElem? (i := 977) (by decide +kernel)⟩
theorem lw_p30 : lw_okq (⟨"NumberedSparks$Frame", "putInOrder", "()V"⟩, 13) := ⟨⟨by decide +kernel, by decide +kernel⟩, List.mem_of_getElem? (i := 233) (by decide +kernel), List.mem_of_getElem? (i := 993) (by decide +kernel), List.mem_of_getElem? (i := 994) (by decide +kernel)⟩
theorem lw_p31 : lw_okq (⟨"NumberedSparks$Frame", "depthOf", "(I)I"⟩, 13) := ⟨⟨by decide +kernel, by decide +kernel⟩, List.mem_of_getElem? (i := 233) (by decide +kernel), List.mem_of_getElem? (i := 998) (by decide +kernel), List.mem_of_getElem? (i := 999) (by decide +kernel)⟩
def lw_privs_2 : List (MethodName × Nat) := [(⟨"NumberedSparks$Spark", "ageBeyond", "(II)I"⟩, 10), (⟨"NumberedSparks$Spark", "freePlace", "(II)I"⟩, 10), (⟨"NumberedSparks", "isAmong", "(II)Z"⟩, 11), (⟨"NumberedSparks$Walk", "measureSpans", "()V"⟩, 9), (⟨"NumberedSparks$Walk", "spanBehind", "(II)I"⟩, 9), (⟨"NumberedSparks$Walk", "spanOf", "(II)I"⟩, 9), (⟨"NumberedSparks$Walk", "sourceOfLeastRoot", "()I"⟩, 9), (⟨"NumberedSparks$Walk", "isOutside", "(LNumberedSparks$Spark;)Z"⟩, 9), (⟨"NumberedSparks$Walk", "show", "(I)V"⟩, 9), (⟨"NumberedSparks$Walk", "stepChild", "(LNumberedSparks$Spark;II)V"⟩, 9), (⟨"NumberedSparks", "isWindow", "(II)Z"⟩, 11), (⟨"NumberedSparks", "countComingAndGoing", "(II)V"⟩, 11), (⟨"NumberedSparks$Frame", "append", "(LNumberedSparks$Spark;I)V"⟩, 13), (⟨"NumberedSparks$Frame", "grow", "()V"⟩, 13), (⟨"NumberedSparks$Frame", "putInOrder", "()V"⟩, 13), (⟨"NumberedSparks$Frame", "depthOf", "(I)I"⟩, 13)]
theorem lw_r2 : ∀ q ∈ lw_privs_2, lw_okq q := List.forall_mem_cons.mpr ⟨lw_p16, List.forall_mem_cons.mpr ⟨lw_p17, List.forall_mem_cons.mpr ⟨lw_p18, List.forall_mem_cons.mpr ⟨lw_p19, List.forall_mem_cons.mpr ⟨lw_p20, List.forall_mem_cons.mpr ⟨lw_p21, List.forall_mem_cons.mpr ⟨lw_p22, List.forall_mem_cons.mpr ⟨lw_p23, List.forall_mem_cons.mpr ⟨lw_p24, List.forall_mem_cons.mpr ⟨lw_p25, List.forall_mem_cons.mpr ⟨lw_p26, List.forall_mem_cons.mpr ⟨lw_p27, List.forall_mem_cons.mpr ⟨lw_p28, List.forall_mem_cons.mpr ⟨lw_p29, List.forall_mem_cons.mpr ⟨lw_p30, List.forall_mem_cons.mpr ⟨lw_p31, fun _ h => absurd h List.not_mem_nil⟩⟩⟩⟩⟩⟩⟩⟩⟩⟩⟩⟩⟩⟩⟩⟩
theorem lw_p32 : lw_okq (⟨"NumberedSparks$Frame", "forgetColumns", "(II[I)V"⟩, 13) := ⟨⟨by decide +kernel, by decide +kernel⟩, List.mem_of_getElem? (i := 233) (by decide +kernel), List.mem_of_getElem? (i := 1081) (by decide +kernel), List.mem_of_getElem? (i := 1082) (by decide +kernel)⟩
theorem lw_p33 : lw_okq (⟨"NumberedSparksModel", "puts4", "(I)V"⟩, 42) := ⟨⟨by decide +kernel, by decide +kernel⟩, List.mem_of_getElem? (i := 1126) (by decide +kernel), List.mem_of_getElem? (i := 1264) (by decide +kernel), List.mem_of_getElem? (i := 1265) (by decide +kernel)⟩
theorem lw_p34 : lw_okq (⟨"NumberedSparksModel", "advance", "()V"⟩, 42) := ⟨⟨by decide +kernel, by decide +kernel⟩, List.mem_of_getElem? (i := 1126) (by decide +kernel), List.mem_of_getElem? (i := 1279) (by decide +kernel), List.mem_of_getElem? (i := 1280) (by decide +kernel)⟩
theorem lw_p35 : lw_okq (⟨"NumberedSparksModel", "see", "(I)I"⟩, 42) := ⟨⟨by decide +kernel, by decide +kernel⟩, List.mem_of_getElem? (i := 1126) (by decide +kernel), List.mem_of_getElem? (i := 1283) (by decide +kernel), List.mem_of_getElem? (i := 1284) (by decide +kernel)⟩
theorem lw_p36 : lw_okq (⟨"NumberedSparksModel", "errs", "(II)V"⟩, 42) := ⟨⟨by decide +kernel, by decide +kernel⟩, List.mem_of_getElem? (i := 1126) (by decide +kernel), List.mem_of_getElem? (i := 1293) (by decide +kernel), List.mem_of_getElem? (i := 1294) (by decide +kernel)⟩
theorem lw_p37 : lw_okq (⟨"NumberedSparksModel", "good", "()Z"⟩, 42) := ⟨⟨by decide +kernel, by decide +kernel⟩, List.mem_of_getElem? (i := 1126) (by decide +kernel), List.mem_of_getElem? (i := 1297) (by decide +kernel), List.mem_of_getElem? (i := 1298) (by decide +kernel)⟩
theorem lw_p38 : lw_okq (⟨"NumberedSparksModel", "readLine", "(I)V"⟩, 42) := ⟨⟨by decide +kernel, by decide +kernel⟩, List.mem_of_getElem? (i := 1126) (by decide +kernel), List.mem_of_getElem? (i := 1301) (by decide +kernel), List.mem_of_getElem? (i := 1302) (by decide +kernel)⟩
theorem lw_p39 : lw_okq (⟨"NumberedSparksModel", "passes", "(Ljava/lang/String;)V"⟩, 42) := ⟨⟨by decide +kernel, by decide +kernel⟩, List.mem_of_getElem? (i := 1126) (by decide +kernel), List.mem_of_getElem? (i := 1306) (by decide +kernel), List.mem_of_getElem? (i := 1307) (by decide +kernel)⟩
theorem lw_p40 : lw_okq (⟨"NumberedSparksModel", "takes", "(Ljava/lang/String;)Z"⟩, 42) := ⟨⟨by decide +kernel, by decide +kernel⟩, List.mem_of_getElem? (i := 1126) (by decide +kernel), List.mem_of_getElem? (i := 1310) (by decide +kernel), List.mem_of_getElem? (i := 1311) (by decide +kernel)⟩
theorem lw_p41 : lw_okq (⟨"NumberedSparksModel", "isWord", "(Ljava/lang/String;)Z"⟩, 42) := ⟨⟨by decide +kernel, by decide +kernel⟩, List.mem_of_getElem? (i := 1126) (by decide +kernel), List.mem_of_getElem? (i := 1314) (by decide +kernel), List.mem_of_getElem? (i := 1315) (by decide +kernel)⟩
theorem lw_p42 : lw_okq (⟨"NumberedSparksModel", "number", "(II)I"⟩, 42) := ⟨⟨by decide +kernel, by decide +kernel⟩, List.mem_of_getElem? (i := 1126) (by decide +kernel), List.mem_of_getElem? (i := 1320) (by decide +kernel), List.mem_of_getElem? (i := 1321) (by decide +kernel)⟩
theorem lw_p43 : lw_okq (⟨"NumberedSparksModel", "readSeed", "()V"⟩, 42) := ⟨⟨by decide +kernel, by decide +kernel⟩, List.mem_of_getElem? (i := 1126) (by decide +kernel), List.mem_of_getElem? (i := 1325) (by decide +kernel), List.mem_of_getElem? (i := 1326) (by decide +kernel)⟩
theorem lw_p44 : lw_okq (⟨"NumberedSparksModel", "readKind", "()V"⟩, 42) := ⟨⟨by decide +kernel, by decide +kernel⟩, List.mem_of_getElem? (i := 1126) (by decide +kernel), List.mem_of_getElem? (i := 1331) (by decide +kernel), List.mem_of_getElem? (i := 1332) (by decide +kernel)⟩
theorem lw_p45 : lw_okq (⟨"NumberedSparksModel", "falls", "()I"⟩, 42) := ⟨⟨by decide +kernel, by decide +kernel⟩, List.mem_of_getElem? (i := 1126) (by decide +kernel), List.mem_of_getElem? (i := 1339) (by decide +kernel), List.mem_of_getElem? (i := 1340) (by decide +kernel)⟩
theorem lw_p46 : lw_okq (⟨"NumberedSparksModel", "readSource", "()V"⟩, 42) := ⟨⟨by decide +kernel, by decide +kernel⟩, List.mem_of_getElem? (i := 1126) (by decide +kernel), List.mem_of_getElem? (i := 1350) (by decide +kernel), List.mem_of_getElem? (i := 1351) (by decide +kernel)⟩
theorem lw_p47 : lw_okq (⟨"NumberedSparksModel", "roots", "(I)I"⟩, 42) := ⟨⟨by decide +kernel, by decide +kernel⟩, List.mem_of_getElem? (i := 1126) (by decide +kernel), List.mem_of_getElem? (i := 1378) (by decide +kernel), List.mem_of_getElem? (i := 1379) (by decide +kernel)⟩
def lw_privs_3 : List (MethodName × Nat) := [(⟨"NumberedSparks$Frame", "forgetColumns", "(II[I)V"⟩, 13), (⟨"NumberedSparksModel", "puts4", "(I)V"⟩, 42), (⟨"NumberedSparksModel", "advance", "()V"⟩, 42), (⟨"NumberedSparksModel", "see", "(I)I"⟩, 42), (⟨"NumberedSparksModel", "errs", "(II)V"⟩, 42), (⟨"NumberedSparksModel", "good", "()Z"⟩, 42), (⟨"NumberedSparksModel", "readLine", "(I)V"⟩, 42), (⟨"NumberedSparksModel", "passes", "(Ljava/lang/String;)V"⟩, 42), (⟨"NumberedSparksModel", "takes", "(Ljava/lang/String;)Z"⟩, 42), (⟨"NumberedSparksModel", "isWord", "(Ljava/lang/String;)Z"⟩, 42), (⟨"NumberedSparksModel", "number", "(II)I"⟩, 42), (⟨"NumberedSparksModel", "readSeed", "()V"⟩, 42), (⟨"NumberedSparksModel", "readKind", "()V"⟩, 42), (⟨"NumberedSparksModel", "falls", "()I"⟩, 42), (⟨"NumberedSparksModel", "readSource", "()V"⟩, 42), (⟨"NumberedSparksModel", "roots", "(I)I"⟩, 42)]
theorem lw_r3 : ∀ q ∈ lw_privs_3, lw_okq q := List.forall_mem_cons.mpr ⟨lw_p32, List.forall_mem_cons.mpr ⟨lw_p33, List.forall_mem_cons.mpr ⟨lw_p34, List.forall_mem_cons.mpr ⟨lw_p35, List.forall_mem_cons.mpr ⟨lw_p36, List.forall_mem_cons.mpr ⟨lw_p37, List.forall_mem_cons.mpr ⟨lw_p38, List.forall_mem_cons.mpr ⟨lw_p39, List.forall_mem_cons.mpr ⟨lw_p40, List.forall_mem_cons.mpr ⟨lw_p41, List.forall_mem_cons.mpr ⟨lw_p42, List.forall_mem_cons.mpr ⟨lw_p43, List.forall_mem_cons.mpr ⟨lw_p44, List.forall_mem_cons.mpr ⟨lw_p45, List.forall_mem_cons.mpr ⟨lw_p46, List.forall_mem_cons.mpr ⟨lw_p47, fun _ h => absurd h List.not_mem_nil⟩⟩⟩⟩⟩⟩⟩⟩⟩⟩⟩⟩⟩⟩⟩⟩
theorem lw_p48 : lw_okq (⟨"NumberedSparksModel", "groups", "(I)I"⟩, 42) := ⟨⟨by decide +kernel, by decide +kernel⟩, List.mem_of_getElem? (i := 1126) (by decide +kernel), List.mem_of_getElem? (i := 1382) (by decide +kernel), List.mem_of_getElem? (i := 1383) (by decide +kernel)⟩
theorem lw_p49 : lw_okq (⟨"NumberedSparksModel", "ofSource", "(II)I"⟩, 42) := ⟨⟨by decide +kernel, by decide +kernel⟩, List.mem_of_getElem? (i := 1126) (by decide +kernel), List.mem_of_getElem? (i := 1386) (by decide +kernel), List.mem_of_getElem? (i := 1387) (by decide +kernel)⟩
theorem lw_p50 : lw_okq (⟨"NumberedSparksModel", "keeps", "(II)V"⟩, 42) := ⟨⟨by decide +kernel, by decide +kernel⟩, List.mem_of_getElem? (i := 1126) (by decide +kernel), List.mem_of_getElem? (i := 1395) (by decide +kernel), List.mem_of_getElem? (i := 1396) (by decide +kernel)⟩
theorem lw_p51 : lw_okq (⟨"NumberedSparksModel", "mixedOf", "(II)J"⟩, 42) := ⟨⟨by decide +kernel, by decide +kernel⟩, List.mem_of_getElem? (i := 1126) (by decide +kernel), List.mem_of_getElem? (i := 1412) (by decide +kernel), List.mem_of_getElem? (i := 1413) (by decide +kernel)⟩
theorem lw_p52 : lw_okq (⟨"NumberedSparksModel", "isSpark", "(I)Z"⟩, 42) := ⟨⟨by decide +kernel, by decide +kernel⟩, List.mem_of_getElem? (i := 1126) (by decide +kernel), List.mem_of_getElem? (i := 1424) (by decide +kernel), List.mem_of_getElem? (i := 1425) (by decide +kernel)⟩
theorem lw_p53 : lw_okq (⟨"NumberedSparksModel", "hasChild", "(II)Z"⟩, 42) := ⟨⟨by decide +kernel, by decide +kernel⟩, List.mem_of_getElem? (i := 1126) (by decide +kernel), List.mem_of_getElem? (i := 1431) (by decide +kernel), List.mem_of_getElem? (i := 1432) (by decide +kernel)⟩
theorem lw_p54 : lw_okq (⟨"NumberedSparksModel", "childOf", "(II)I"⟩, 42) := ⟨⟨by decide +kernel, by decide +kernel⟩, List.mem_of_getElem? (i := 1126) (by decide +kernel), List.mem_of_getElem? (i := 1442) (by decide +kernel), List.mem_of_getElem? (i := 1443) (by decide +kernel)⟩
theorem lw_p55 : lw_okq (⟨"NumberedSparksModel", "kindOf", "(I)I"⟩, 42) := ⟨⟨by decide +kernel, by decide +kernel⟩, List.mem_of_getElem? (i := 1126) (by decide +kernel), List.mem_of_getElem? (i := 1449) (by decide +kernel), List.mem_of_getElem? (i := 1450) (by decide +kernel)⟩
theorem lw_p56 : lw_okq (⟨"NumberedSparksModel", "lays", "(I)V"⟩, 42) := ⟨⟨by decide +kernel, by decide +kernel⟩, List.mem_of_getElem? (i := 1126) (by decide +kernel), List.mem_of_getElem? (i := 1464) (by decide +kernel), List.mem_of_getElem? (i := 1465) (by decide +kernel)⟩
theorem lw_p57 : lw_okq (⟨"NumberedSparksModel", "laysRoot", "(I)V"⟩, 42) := ⟨⟨by decide +kernel, by decide +kernel⟩, List.mem_of_getElem? (i := 1126) (by decide +kernel), List.mem_of_getElem? (i := 1468) (by decide +kernel), List.mem_of_getElem? (i := 1469) (by decide +kernel)⟩
theorem lw_p58 : lw_okq (⟨"NumberedSparksModel", "draw", "(III)I"⟩, 42) := ⟨⟨by decide +kernel, by decide +kernel⟩, List.mem_of_getElem? (i := 1126) (by decide +kernel), List.mem_of_getElem? (i := 1472) (by decide +kernel), List.mem_of_getElem? (i := 1473) (by decide +kernel)⟩
theorem lw_p59 : lw_okq (⟨"NumberedSparksModel", "laysOne", "(III)V"⟩, 42) := ⟨⟨by decide +kernel, by decide +kernel⟩, List.mem_of_getElem? (i := 1126) (by decide +kernel), List.mem_of_getElem? (i := 1476) (by decide +kernel), List.mem_of_getElem? (i := 1477) (by decide +kernel)⟩
theorem lw_p60 : lw_okq (⟨"NumberedSparksModel", "edge", "()I"⟩, 42) := ⟨⟨by decide +kernel, by decide +kernel⟩, List.mem_of_getElem? (i := 1126) (by decide +kernel), List.mem_of_getElem? (i := 1480) (by decide +kernel), List.mem_of_getElem? (i := 1481) (by decide +kernel)⟩
theorem lw_p61 : lw_okq (⟨"NumberedSparksModel", "isBeyond", "(I)Z"⟩, 42) := ⟨⟨by decide +kernel, by decide +kernel⟩, List.mem_of_getElem? (i := 1126) (by decide +kernel), List.mem_of_getElem? (i := 1484) (by decide +kernel), List.mem_of_getElem? (i := 1485) (by decide +kernel)⟩
theorem lw_p62 : lw_okq (⟨"NumberedSparksModel", "raw", "(II)I"⟩, 42) := ⟨⟨by decide +kernel, by decide +kernel⟩, List.mem_of_getElem? (i := 1126) (by decide +kernel), List.mem_of_getElem? (i := 1488) (by decide +kernel), List.mem_of_getElem? (i := 1489) (by decide +kernel)⟩
theorem lw_p63 : lw_okq (⟨"NumberedSparksModel", "world", "(I)I"⟩, 42) := ⟨⟨by decide +kernel, by decide +kernel⟩, List.mem_of_getElem? (i := 1126) (by decide +kernel), List.mem_of_getElem? (i := 1492) (by decide +kernel), List.mem_of_getElem? (i := 1493) (by decide +kernel)⟩
def lw_privs_4 : List (MethodName × Nat) := [(⟨"NumberedSparksModel", "groups", "(I)I"⟩, 42), (⟨"NumberedSparksModel", "ofSource", "(II)I"⟩, 42), (⟨"NumberedSparksModel", "keeps", "(II)V"⟩, 42), (⟨"NumberedSparksModel", "mixedOf", "(II)J"⟩, 42), (⟨"NumberedSparksModel", "isSpark", "(I)Z"⟩, 42), (⟨"NumberedSparksModel", "hasChild", "(II)Z"⟩, 42), (⟨"NumberedSparksModel", "childOf", "(II)I"⟩, 42), (⟨"NumberedSparksModel", "kindOf", "(I)I"⟩, 42), (⟨"NumberedSparksModel", "lays", "(I)V"⟩, 42), (⟨"NumberedSparksModel", "laysRoot", "(I)V"⟩, 42), (⟨"NumberedSparksModel", "draw", "(III)I"⟩, 42), (⟨"NumberedSparksModel", "laysOne", "(III)V"⟩, 42), (⟨"NumberedSparksModel", "edge", "()I"⟩, 42), (⟨"NumberedSparksModel", "isBeyond", "(I)Z"⟩, 42), (⟨"NumberedSparksModel", "raw", "(II)I"⟩, 42), (⟨"NumberedSparksModel", "world", "(I)I"⟩, 42)]
theorem lw_r4 : ∀ q ∈ lw_privs_4, lw_okq q := List.forall_mem_cons.mpr ⟨lw_p48, List.forall_mem_cons.mpr ⟨lw_p49, List.forall_mem_cons.mpr ⟨lw_p50, List.forall_mem_cons.mpr ⟨lw_p51, List.forall_mem_cons.mpr ⟨lw_p52, List.forall_mem_cons.mpr ⟨lw_p53, List.forall_mem_cons.mpr ⟨lw_p54, List.forall_mem_cons.mpr ⟨lw_p55, List.forall_mem_cons.mpr ⟨lw_p56, List.forall_mem_cons.mpr ⟨lw_p57, List.forall_mem_cons.mpr ⟨lw_p58, List.forall_mem_cons.mpr ⟨lw_p59, List.forall_mem_cons.mpr ⟨lw_p60, List.forall_mem_cons.mpr ⟨lw_p61, List.forall_mem_cons.mpr ⟨lw_p62, List.forall_mem_cons.mpr ⟨lw_p63, fun _ h => absurd h List.not_mem_nil⟩⟩⟩⟩⟩⟩⟩⟩⟩⟩⟩⟩⟩⟩⟩⟩
theorem lw_p64 : lw_okq (⟨"NumberedSparksModel", "laysChild", "(I)V"⟩, 42) := ⟨⟨by decide +kernel, by decide +kernel⟩, List.mem_of_getElem? (i := 1126) (by decide +kernel), List.mem_of_getElem? (i := 1496) (by decide +kernel), List.mem_of_getElem? (i := 1497) (by decide +kernel)⟩
theorem lw_p65 : lw_okq (⟨"NumberedSparksModel", "placeBy", "(II)I"⟩, 42) := ⟨⟨by decide +kernel, by decide +kernel⟩, List.mem_of_getElem? (i := 1126) (by decide +kernel), List.mem_of_getElem? (i := 1500) (by decide +kernel), List.mem_of_getElem? (i := 1501) (by decide +kernel)⟩
theorem lw_p66 : lw_okq (⟨"NumberedSparksModel", "isTick", "(I)Z"⟩, 42) := ⟨⟨by decide +kernel, by decide +kernel⟩, List.mem_of_getElem? (i := 1126) (by decide +kernel), List.mem_of_getElem? (i := 1509) (by decide +kernel), List.mem_of_getElem? (i := 1510) (by decide +kernel)⟩
theorem lw_p67 : lw_okq (⟨"NumberedSparksModel", "overAt", "(I)I"⟩, 42) := ⟨⟨by decide +kernel, by decide +kernel⟩, List.mem_of_getElem? (i := 1126) (by decide +kernel), List.mem_of_getElem? (i := 1524) (by decide +kernel), List.mem_of_getElem? (i := 1525) (by decide +kernel)⟩
theorem lw_p68 : lw_okq (⟨"NumberedSparksModel", "cellBy", "(I)I"⟩, 42) := ⟨⟨by decide +kernel, by decide +kernel⟩, List.mem_of_getElem? (i := 1126) (by decide +kernel), List.mem_of_getElem? (i := 1538) (by decide +kernel), List.mem_of_getElem? (i := 1539) (by decide +kernel)⟩
theorem lw_p69 : lw_okq (⟨"NumberedSparksModel", "gathers", "(I)V"⟩, 42) := ⟨⟨by decide +kernel, by decide +kernel⟩, List.mem_of_getElem? (i := 1126) (by decide +kernel), List.mem_of_getElem? (i := 1566) (by decide +kernel), List.mem_of_getElem? (i := 1567) (by decide +kernel)⟩
theorem lw_p70 : lw_okq (⟨"NumberedSparksModel", "firstGroup", "(II)I"⟩, 42) := ⟨⟨by decide +kernel, by decide +kernel⟩, List.mem_of_getElem? (i := 1126) (by decide +kernel), List.mem_of_getElem? (i := 1570) (by decide +kernel), List.mem_of_getElem? (i := 1571) (by decide +kernel)⟩
theorem lw_p71 : lw_okq (⟨"NumberedSparksModel", "isGroup", "(III)Z"⟩, 42) := ⟨⟨by decide +kernel, by decide +kernel⟩, List.mem_of_getElem? (i := 1126) (by decide +kernel), List.mem_of_getElem? (i := 1574) (by decide +kernel), List.mem_of_getElem? (i := 1575) (by decide +kernel)⟩
theorem lw_p72 : lw_okq (⟨"NumberedSparksModel", "comesLine", "(II)V"⟩, 42) := ⟨⟨by decide +kernel, by decide +kernel⟩, List.mem_of_getElem? (i := 1126) (by decide +kernel), List.mem_of_getElem? (i := 1578) (by decide +kernel), List.mem_of_getElem? (i := 1579) (by decide +kernel)⟩
theorem lw_p73 : lw_okq (⟨"NumberedSparksModel", "comes", "(II)V"⟩, 42) := ⟨⟨by decide +kernel, by decide +kernel⟩, List.mem_of_getElem? (i := 1126) (by decide +kernel), List.mem_of_getElem? (i := 1582) (by decide +kernel), List.mem_of_getElem? (i := 1583) (by decide +kernel)⟩
theorem lw_p74 : lw_okq (⟨"NumberedSparksModel", "codeAt", "(I)I"⟩, 42) := ⟨⟨by decide +kernel, by decide +kernel⟩, List.mem_of_getElem? (i := 1126) (by decide +kernel), List.mem_of_getElem? (i := 1586) (by decide +kernel), List.mem_of_getElem? (i := 1587) (by decide +kernel)⟩
theorem lw_p75 : lw_okq (⟨"NumberedSparksModel", "laysFrame", "(I)V"⟩, 42) := ⟨⟨by decide +kernel, by decide +kernel⟩, List.mem_of_getElem? (i := 1126) (by decide +kernel), List.mem_of_getElem? (i := 1595) (by decide +kernel), List.mem_of_getElem? (i := 1596) (by decide +kernel)⟩
theorem lw_p76 : lw_okq (⟨"NumberedSparksModel", "sorts", "()V"⟩, 42) := ⟨⟨by decide +kernel, by decide +kernel⟩, List.mem_of_getElem? (i := 1126) (by decide +kernel), List.mem_of_getElem? (i := 1599) (by decide +kernel), List.mem_of_getElem? (i := 1600) (by decide +kernel)⟩
theorem lw_p77 : lw_okq (⟨"NumberedSparksModel", "isColumn", "(II)Z"⟩, 42) := ⟨⟨by decide +kernel, by decide +kernel⟩, List.mem_of_getElem? (i := 1126) (by decide +kernel), List.mem_of_getElem? (i := 1613) (by decide +kernel), List.mem_of_getElem? (i := 1614) (by decide +kernel)⟩
theorem lw_p78 : lw_okq (⟨"NumberedSparksModel", "laysColumns", "(I)V"⟩, 42) := ⟨⟨by decide +kernel, by decide +kernel⟩, List.mem_of_getElem? (i := 1126) (by decide +kernel), List.mem_of_getElem? (i := 1617) (by decide +kernel), List.mem_of_getElem? (i := 1618) (by decide +kernel)⟩
theorem lw_p79 : lw_okq (⟨"NumberedSparksModel", "topOf", "(II)I"⟩, 42) := ⟨⟨by decide +kernel, by decide +kernel⟩, List.mem_of_getElem? (i := 1126) (by decide +kernel), List.mem_of_getElem? (i := 1625) (by decide +kernel), List.mem_of_getElem? (i := 1626) (by decide +kernel)⟩
def lw_privs_5 : List (MethodName × Nat) := [(⟨"NumberedSparksModel", "laysChild", "(I)V"⟩, 42), (⟨"NumberedSparksModel", "placeBy", "(II)I"⟩, 42), (⟨"NumberedSparksModel", "isTick", "(I)Z"⟩, 42), (⟨"NumberedSparksModel", "overAt", "(I)I"⟩, 42), (⟨"NumberedSparksModel", "cellBy", "(I)I"⟩, 42), (⟨"NumberedSparksModel", "gathers", "(I)V"⟩, 42), (⟨"NumberedSparksModel", "firstGroup", "(II)I"⟩, 42), (⟨"NumberedSparksModel", "isGroup", "(III)Z"⟩, 42), (⟨"NumberedSparksModel", "comesLine", "(II)V"⟩, 42), (⟨"NumberedSparksModel", "comes", "(II)V"⟩, 42), (⟨"NumberedSparksModel", "codeAt", "(I)I"⟩, 42), (⟨"NumberedSparksModel", "laysFrame", "(I)V"⟩, 42), (⟨"NumberedSparksModel", "sorts", "()V"⟩, 42), (⟨"NumberedSparksModel", "isColumn", "(II)Z"⟩, 42), (⟨"NumberedSparksModel", "laysColumns", "(I)V"⟩, 42), (⟨"NumberedSparksModel", "topOf", "(II)I"⟩, 42)]
theorem lw_r5 : ∀ q ∈ lw_privs_5, lw_okq q := List.forall_mem_cons.mpr ⟨lw_p64, List.forall_mem_cons.mpr ⟨lw_p65, List.forall_mem_cons.mpr ⟨lw_p66, List.forall_mem_cons.mpr ⟨lw_p67, List.forall_mem_cons.mpr ⟨lw_p68, List.forall_mem_cons.mpr ⟨lw_p69, List.forall_mem_cons.mpr ⟨lw_p70, List.forall_mem_cons.mpr ⟨lw_p71, List.forall_mem_cons.mpr ⟨lw_p72, List.forall_mem_cons.mpr ⟨lw_p73, List.forall_mem_cons.mpr ⟨lw_p74, List.forall_mem_cons.mpr ⟨lw_p75, List.forall_mem_cons.mpr ⟨lw_p76, List.forall_mem_cons.mpr ⟨lw_p77, List.forall_mem_cons.mpr ⟨lw_p78, List.forall_mem_cons.mpr ⟨lw_p79, fun _ h => absurd h List.not_mem_nil⟩⟩⟩⟩⟩⟩⟩⟩⟩⟩⟩⟩⟩⟩⟩⟩
theorem lw_p80 : lw_okq (⟨"NumberedSparksModel", "isCell", "(III)Z"⟩, 42) := ⟨⟨by decide +kernel, by decide +kernel⟩, List.mem_of_getElem? (i := 1126) (by decide +kernel), List.mem_of_getElem? (i := 1637) (by decide +kernel), List.mem_of_getElem? (i := 1638) (by decide +kernel)⟩
theorem lw_p81 : lw_okq (⟨"NumberedSparksModel", "squares", "(IIIII)J"⟩, 42) := ⟨⟨by decide +kernel, by decide +kernel⟩, List.mem_of_getElem? (i := 1126) (by decide +kernel), List.mem_of_getElem? (i := 1641) (by decide +kernel), List.mem_of_getElem? (i := 1642) (by decide +kernel)⟩
theorem lw_p82 : lw_okq (⟨"NumberedSparksModel", "laysHeaps", "(I)V"⟩, 42) := ⟨⟨by decide +kernel, by decide +kernel⟩, List.mem_of_getElem? (i := 1126) (by decide +kernel), List.mem_of_getElem? (i := 1656) (by decide +kernel), List.mem_of_getElem? (i := 1657) (by decide +kernel)⟩
theorem lw_p83 : lw_okq (⟨"NumberedSparksModel", "placeAt", "(III)I"⟩, 42) := ⟨⟨by decide +kernel, by decide +kernel⟩, List.mem_of_getElem? (i := 1126) (by decide +kernel), List.mem_of_getElem? (i := 1660) (by decide +kernel), List.mem_of_getElem? (i := 1661) (by decide +kernel)⟩
theorem lw_p84 : lw_okq (⟨"NumberedSparksModel", "isSpan", "(III)Z"⟩, 42) := ⟨⟨by decide +kernel, by decide +kernel⟩, List.mem_of_getElem? (i := 1126) (by decide +kernel), List.mem_of_getElem? (i := 1716) (by decide +kernel), List.mem_of_getElem? (i := 1717) (by decide +kernel)⟩
theorem lw_p85 : lw_okq (⟨"NumberedSparksModel", "bornOf", "(I)I"⟩, 42) := ⟨⟨by decide +kernel, by decide +kernel⟩, List.mem_of_getElem? (i := 1126) (by decide +kernel), List.mem_of_getElem? (i := 1720) (by decide +kernel), List.mem_of_getElem? (i := 1721) (by decide +kernel)⟩
theorem lw_p86 : lw_okq (⟨"NumberedSparksModel", "endingsOf", "(III)I"⟩, 42) := ⟨⟨by decide +kernel, by decide +kernel⟩, List.mem_of_getElem? (i := 1126) (by decide +kernel), List.mem_of_getElem? (i := 1728) (by decide +kernel), List.mem_of_getElem? (i := 1729) (by decide +kernel)⟩
theorem lw_p87 : lw_okq (⟨"NumberedSparksModel", "lastBirth", "(I)I"⟩, 42) := ⟨⟨by decide +kernel, by decide +kernel⟩, List.mem_of_getElem? (i := 1126) (by decide +kernel), List.mem_of_getElem? (i := 1736) (by decide +kernel), List.mem_of_getElem? (i := 1737) (by decide +kernel)⟩
theorem lw_p88 : lw_okq (⟨"NumberedSparksModel", "bornIn", "(IIIZ)I"⟩, 42) := ⟨⟨by decide +kernel, by decide +kernel⟩, List.mem_of_getElem? (i := 1126) (by decide +kernel), List.mem_of_getElem? (i := 1740) (by decide +kernel), List.mem_of_getElem? (i := 1741) (by decide +kernel)⟩
theorem lw_p89 : lw_okq (⟨"NumberedSparksModel", "says", "(I)V"⟩, 42) := ⟨⟨by decide +kernel, by decide +kernel⟩, List.mem_of_getElem? (i := 1126) (by decide +kernel), List.mem_of_getElem? (i := 1760) (by decide +kernel), List.mem_of_getElem? (i := 1761) (by decide +kernel)⟩
theorem lw_p90 : lw_okq (⟨"NumberedSparksModel", "saysNumber", "(I)V"⟩, 42) := ⟨⟨by decide +kernel, by decide +kernel⟩, List.mem_of_getElem? (i := 1126) (by decide +kernel), List.mem_of_getElem? (i := 1772) (by decide +kernel), List.mem_of_getElem? (i := 1773) (by decide +kernel)⟩
def lw_privs_6 : List (MethodName × Nat) := [(⟨"NumberedSparksModel", "isCell", "(III)Z"⟩, 42), (⟨"NumberedSparksModel", "squares", "(IIIII)J"⟩, 42), (⟨"NumberedSparksModel", "laysHeaps", "(I)V"⟩, 42), (⟨"NumberedSparksModel", "placeAt", "(III)I"⟩, 42), (⟨"NumberedSparksModel", "isSpan", "(III)Z"⟩, 42), (⟨"NumberedSparksModel", "bornOf", "(I)I"⟩, 42), (⟨"NumberedSparksModel", "endingsOf", "(III)I"⟩, 42), (⟨"NumberedSparksModel", "lastBirth", "(I)I"⟩, 42), (⟨"NumberedSparksModel", "bornIn", "(IIIZ)I"⟩, 42), (⟨"NumberedSparksModel", "says", "(I)V"⟩, 42), (⟨"NumberedSparksModel", "saysNumber", "(I)V"⟩, 42)]
theorem lw_r6 : ∀ q ∈ lw_privs_6, lw_okq q := List.forall_mem_cons.mpr ⟨lw_p80, List.forall_mem_cons.mpr ⟨lw_p81, List.forall_mem_cons.mpr ⟨lw_p82, List.forall_mem_cons.mpr ⟨lw_p83, List.forall_mem_cons.mpr ⟨lw_p84, List.forall_mem_cons.mpr ⟨lw_p85, List.forall_mem_cons.mpr ⟨lw_p86, List.forall_mem_cons.mpr ⟨lw_p87, List.forall_mem_cons.mpr ⟨lw_p88, List.forall_mem_cons.mpr ⟨lw_p89, List.forall_mem_cons.mpr ⟨lw_p90, fun _ h => absurd h List.not_mem_nil⟩⟩⟩⟩⟩⟩⟩⟩⟩⟩⟩
def lw_privs : List (MethodName × Nat) := lw_privs_1 ++ (lw_privs_2 ++ (lw_privs_3 ++ (lw_privs_4 ++ (lw_privs_5 ++ (lw_privs_6)))))
def lw_tbl : List Cond := k2_sels lw_privs ++ tables_1
theorem lw_privs_ok : ∀ q ∈ lw_privs, lw_okq q := by
  show ∀ q ∈ lw_privs_1 ++ (lw_privs_2 ++ (lw_privs_3 ++ (lw_privs_4 ++ (lw_privs_5 ++ (lw_privs_6))))), lw_okq q
  exact List.forall_mem_append.mpr ⟨lw_r1, List.forall_mem_append.mpr ⟨lw_r2, List.forall_mem_append.mpr ⟨lw_r3, List.forall_mem_append.mpr ⟨lw_r4, List.forall_mem_append.mpr ⟨lw_r5, lw_r6⟩⟩⟩⟩⟩

/-! ===== BEGIN printed: names, fields, word lists, decode rows ===== -/
def RX0 : String := "NumberedSparks$Finder"
def TX0 : u_T := fun k => match k with
  | 0 => ("NumberedSparks$Finder", "scene", "LNumberedSparks$Scene;", true)
  | 1 => ("NumberedSparks$Finder", "own", "LNumberedSparks$Spark;", true)
  | 2 => ("NumberedSparks$Finder", "child", "LNumberedSparks$Spark;", true)
  | _ => ("NumberedSparks$Finder", "grandchild", "LNumberedSparks$Spark;", true)
def tyX0 : Nat → FieldType := fun k => match k with
  | 0 => .object "NumberedSparks$Scene"
  | 1 => .object "NumberedSparks$Spark"
  | 2 => .object "NumberedSparks$Spark"
  | _ => .object "NumberedSparks$Spark"
abbrev wsX00 : List Cond := u_ws RX0 TX0 4
theorem nmX0 : ∀ a, a < 4 → ∀ b, b < 4 → a ≠ b → (TX0 a).2.1 ≠ (TX0 b).2.1 := by decide +kernel
theorem tyX0_ok : ∀ k, k < 4 → parseFieldDescriptor (TX0 k).2.2.1 = some (tyX0 k) := by decide +kernel
abbrev cX0_init : ByteArray := prog_2_method_1_code
def yX0_init : MethodName := ⟨RX0, "<init>", "(LNumberedSparks$Scene;)V"⟩
abbrev cX0_find : ByteArray := prog_2_method_2_code
def yX0_find : MethodName := ⟨RX0, "find", "(I)LNumberedSparks$Spark;"⟩
def RX1 : String := "NumberedSparks$Frame"
def TX1 : u_T := fun k => match k with
  | 0 => ("NumberedSparks$Frame", "scene", "LNumberedSparks$Scene;", true)
  | 1 => ("NumberedSparks$Frame", "walk", "LNumberedSparks$Walk;", true)
  | 2 => ("NumberedSparks$Frame", "length", "I", false)
  | 3 => ("NumberedSparks$Frame", "codes", "[I", false)
  | 4 => ("NumberedSparks$Frame", "kinds", "[I", false)
  | 5 => ("NumberedSparks$Frame", "borns", "[I", false)
  | 6 => ("NumberedSparks$Frame", "ends", "[I", false)
  | 7 => ("NumberedSparks$Frame", "xs", "[I", false)
  | 8 => ("NumberedSparks$Frame", "ys", "[I", false)
  | 9 => ("NumberedSparks$Frame", "zs", "[I", false)
  | 10 => ("NumberedSparks$Frame", "order", "[I", false)
  | 11 => ("NumberedSparks$Frame", "depths", "[I", true)
  | _ => ("NumberedSparks$Frame", "tick", "I", false)
def tyX1 : Nat → FieldType := fun k => match k with
  | 0 => .object "NumberedSparks$Scene"
  | 1 => .object "NumberedSparks$Walk"
  | 2 => .int
  | 3 => .array .int
  | 4 => .array .int
  | 5 => .array .int
  | 6 => .array .int
  | 7 => .array .int
  | 8 => .array .int
  | 9 => .array .int
  | 10 => .array .int
  | 11 => .array .int
  | _ => .int
abbrev wsX10 : List Cond := u_ws RX1 TX1 13
theorem nmX1 : ∀ a, a < 13 → ∀ b, b < 13 → a ≠ b → (TX1 a).2.1 ≠ (TX1 b).2.1 := by decide +kernel
theorem tyX1_ok : ∀ k, k < 13 → parseFieldDescriptor (TX1 k).2.2.1 = some (tyX1 k) := by decide +kernel
abbrev cX1_init : ByteArray := prog_3_method_1_code
def yX1_init : MethodName := ⟨RX1, "<init>", "(LNumberedSparks$Scene;LNumberedSparks$Walk;)V"⟩
abbrev cX1_forget : ByteArray := prog_3_method_2_code
def yX1_forget : MethodName := ⟨RX1, "forget", "()V"⟩
abbrev cX1_shows : ByteArray := prog_3_method_3_code
def yX1_shows : MethodName := ⟨RX1, "shows", "(I)Z"⟩
abbrev cX1_append : ByteArray := prog_3_method_4_code
def yX1_append : MethodName := ⟨RX1, "append", "(LNumberedSparks$Spark;I)V"⟩
abbrev cX1_grow : ByteArray := prog_3_method_5_code
def yX1_grow : MethodName := ⟨RX1, "grow", "()V"⟩
abbrev cX1_putInOrder : ByteArray := prog_3_method_6_code
def yX1_putInOrder : MethodName := ⟨RX1, "putInOrder", "()V"⟩
abbrev cX1_depthOf : ByteArray := prog_3_method_7_code
def yX1_depthOf : MethodName := ⟨RX1, "depthOf", "(I)I"⟩
abbrev cX1_placeOf : ByteArray := prog_3_method_8_code
def yX1_placeOf : MethodName := ⟨RX1, "placeOf", "(II)I"⟩
abbrev cX1_isInColumn : ByteArray := prog_3_method_9_code
def yX1_isInColumn : MethodName := ⟨RX1, "isInColumn", "(III)Z"⟩
abbrev cX1_columnOf : ByteArray := prog_3_method_10_code
def yX1_columnOf : MethodName := ⟨RX1, "columnOf", "(I)I"⟩
abbrev cX1_farSquared : ByteArray := prog_3_method_11_code
def yX1_farSquared : MethodName := ⟨RX1, "farSquared", "(IIII)I"⟩
abbrev cX1_fromTop : ByteArray := prog_3_method_12_code
def yX1_fromTop : MethodName := ⟨RX1, "fromTop", "(III)I"⟩
abbrev cX1_countColumns : ByteArray := prog_3_method_13_code
def yX1_countColumns : MethodName := ⟨RX1, "countColumns", "([I)V"⟩
abbrev cX1_countLayer : ByteArray := prog_3_method_14_code
def yX1_countLayer : MethodName := ⟨RX1, "countLayer", "(I[I)V"⟩
abbrev cX1_countTwos : ByteArray := prog_3_method_15_code
def yX1_countTwos : MethodName := ⟨RX1, "countTwos", "([I)J"⟩
abbrev cX1_forgetColumns : ByteArray := prog_3_method_16_code
def yX1_forgetColumns : MethodName := ⟨RX1, "forgetColumns", "(II[I)V"⟩
abbrev cX1_markTops : ByteArray := prog_3_method_17_code
def yX1_markTops : MethodName := ⟨RX1, "markTops", "([I)V"⟩
def RX2 : String := "NumberedSparks$History"
def TX2 : u_T := fun k => match k with
  | 0 => ("NumberedSparks$History", "kinds", "[I", true)
  | 1 => ("NumberedSparks$History", "whats", "[I", true)
  | 2 => ("NumberedSparks$History", "values", "[I", true)
  | _ => ("NumberedSparks$History", "length", "I", false)
def tyX2 : Nat → FieldType := fun k => match k with
  | 0 => .array .int
  | 1 => .array .int
  | 2 => .array .int
  | _ => .int
abbrev wsX20 : List Cond := u_ws RX2 TX2 4
theorem nmX2 : ∀ a, a < 4 → ∀ b, b < 4 → a ≠ b → (TX2 a).2.1 ≠ (TX2 b).2.1 := by decide +kernel
theorem tyX2_ok : ∀ k, k < 4 → parseFieldDescriptor (TX2 k).2.2.1 = some (tyX2 k) := by decide +kernel
abbrev cX2_init : ByteArray := prog_4_method_1_code
def yX2_init : MethodName := ⟨RX2, "<init>", "()V"⟩
abbrev cX2_forget : ByteArray := prog_4_method_2_code
def yX2_forget : MethodName := ⟨RX2, "forget", "()V"⟩
abbrev cX2_isEmpty : ByteArray := prog_4_method_3_code
def yX2_isEmpty : MethodName := ⟨RX2, "isEmpty", "()Z"⟩
abbrev cX2_remember : ByteArray := prog_4_method_4_code
def yX2_remember : MethodName := ⟨RX2, "remember", "(III)V"⟩
abbrev cX2_takeBack : ByteArray := prog_4_method_5_code
def yX2_takeBack : MethodName := ⟨RX2, "takeBack", "(LNumberedSparks$Scene;)V"⟩
def RX3 : String := "NumberedSparks$Output"
def TX3 : u_T := fun k => match k with
  | 0 => ("NumberedSparks$Output", "bytes", "[I", true)
  | _ => ("NumberedSparks$Output", "length", "I", false)
def tyX3 : Nat → FieldType := fun k => match k with
  | 0 => .array .int
  | _ => .int
abbrev wsX30 : List Cond := u_ws RX3 TX3 2
theorem nmX3 : ∀ a, a < 2 → ∀ b, b < 2 → a ≠ b → (TX3 a).2.1 ≠ (TX3 b).2.1 := by decide +kernel
theorem tyX3_ok : ∀ k, k < 2 → parseFieldDescriptor (TX3 k).2.2.1 = some (tyX3 k) := by decide +kernel
abbrev cX3_init : ByteArray := prog_5_method_1_code
def yX3_init : MethodName := ⟨RX3, "<init>", "()V"⟩
abbrev cX3_clear : ByteArray := prog_5_method_2_code
def yX3_clear : MethodName := ⟨RX3, "clear", "()V"⟩
abbrev cX3_put : ByteArray := prog_5_method_3_code
def yX3_put : MethodName := ⟨RX3, "put", "(I)V"⟩
abbrev cX3_putNumber : ByteArray := prog_5_method_4_code
def yX3_putNumber : MethodName := ⟨RX3, "putNumber", "(I)V"⟩
abbrev cX3_byteAt : ByteArray := prog_5_method_5_code
def yX3_byteAt : MethodName := ⟨RX3, "byteAt", "(I)I"⟩
def RX4 : String := "NumberedSparks$Reader"
def TX4 : u_T := fun k => match k with
  | 0 => ("NumberedSparks$Reader", "draft", "LNumberedSparks$Scene;", true)
  | 1 => ("NumberedSparks$Reader", "fault", "I", false)
  | 2 => ("NumberedSparks$Reader", "faultPlace", "I", false)
  | 3 => ("NumberedSparks$Reader", "text", "[I", false)
  | 4 => ("NumberedSparks$Reader", "length", "I", false)
  | 5 => ("NumberedSparks$Reader", "token", "I", false)
  | 6 => ("NumberedSparks$Reader", "start", "I", false)
  | 7 => ("NumberedSparks$Reader", "beyond", "I", false)
  | _ => ("NumberedSparks$Reader", "value", "I", false)
def tyX4 : Nat → FieldType := fun k => match k with
  | 0 => .object "NumberedSparks$Scene"
  | 1 => .int
  | 2 => .int
  | 3 => .array .int
  | 4 => .int
  | 5 => .int
  | 6 => .int
  | 7 => .int
  | _ => .int
abbrev wsX40 : List Cond := u_ws RX4 TX4 9
theorem nmX4 : ∀ a, a < 9 → ∀ b, b < 9 → a ≠ b → (TX4 a).2.1 ≠ (TX4 b).2.1 := by decide +kernel
theorem tyX4_ok : ∀ k, k < 9 → parseFieldDescriptor (TX4 k).2.2.1 = some (tyX4 k) := by decide +kernel
abbrev cX4_init : ByteArray := prog_6_method_1_code
def yX4_init : MethodName := ⟨RX4, "<init>", "()V"⟩
abbrev cX4_read : ByteArray := prog_6_method_2_code
def yX4_read : MethodName := ⟨RX4, "read", "([II)I"⟩
abbrev cX4_readWorld : ByteArray := prog_6_method_3_code
def yX4_readWorld : MethodName := ⟨RX4, "readWorld", "()V"⟩
abbrev cX4_readSeed : ByteArray := prog_6_method_4_code
def yX4_readSeed : MethodName := ⟨RX4, "readSeed", "()V"⟩
abbrev cX4_readKind : ByteArray := prog_6_method_5_code
def yX4_readKind : MethodName := ⟨RX4, "readKind", "()V"⟩
abbrev cX4_readFalls : ByteArray := prog_6_method_6_code
def yX4_readFalls : MethodName := ⟨RX4, "readFalls", "()I"⟩
abbrev cX4_readEdge : ByteArray := prog_6_method_7_code
def yX4_readEdge : MethodName := ⟨RX4, "readEdge", "()I"⟩
abbrev cX4_readSource : ByteArray := prog_6_method_8_code
def yX4_readSource : MethodName := ⟨RX4, "readSource", "()V"⟩
abbrev cX4_numberBehind : ByteArray := prog_6_method_9_code
def yX4_numberBehind : MethodName := ⟨RX4, "numberBehind", "(Ljava/lang/String;III)I"⟩
abbrev cX4_isWord : ByteArray := prog_6_method_10_code
def yX4_isWord : MethodName := ⟨RX4, "isWord", "(Ljava/lang/String;)Z"⟩
abbrev cX4_takeWord : ByteArray := prog_6_method_11_code
def yX4_takeWord : MethodName := ⟨RX4, "takeWord", "(Ljava/lang/String;)Z"⟩
abbrev cX4_needWord : ByteArray := prog_6_method_12_code
def yX4_needWord : MethodName := ⟨RX4, "needWord", "(Ljava/lang/String;)V"⟩
abbrev cX4_needSign : ByteArray := prog_6_method_13_code
def yX4_needSign : MethodName := ⟨RX4, "needSign", "(C)V"⟩
abbrev cX4_needNumber : ByteArray := prog_6_method_14_code
def yX4_needNumber : MethodName := ⟨RX4, "needNumber", "(II)I"⟩
abbrev cX4_fail : ByteArray := prog_6_method_15_code
def yX4_fail : MethodName := ⟨RX4, "fail", "(I)V"⟩
abbrev cX4_byteAt : ByteArray := prog_6_method_16_code
def yX4_byteAt : MethodName := ⟨RX4, "byteAt", "(I)I"⟩
abbrev cX4_isLetter : ByteArray := prog_6_method_17_code
def yX4_isLetter : MethodName := ⟨RX4, "isLetter", "(I)Z"⟩
abbrev cX4_isDigit : ByteArray := prog_6_method_18_code
def yX4_isDigit : MethodName := ⟨RX4, "isDigit", "(I)Z"⟩
abbrev cX4_advance : ByteArray := prog_6_method_19_code
def yX4_advance : MethodName := ⟨RX4, "advance", "()V"⟩
def RX5 : String := "NumberedSparks$Scene"
def TX5 : u_T := fun k => match k with
  | 0 => ("NumberedSparks$Scene", "cells", "[I", true)
  | 1 => ("NumberedSparks$Scene", "kinds", "[I", true)
  | 2 => ("NumberedSparks$Scene", "sources", "[I", true)
  | 3 => ("NumberedSparks$Scene", "kindCount", "I", false)
  | 4 => ("NumberedSparks$Scene", "sourceCount", "I", false)
  | 5 => ("NumberedSparks$Scene", "seed", "I", false)
  | 6 => ("NumberedSparks$Scene", "seedTold", "Z", false)
  | _ => ("NumberedSparks$Scene", "stands", "Z", false)
def tyX5 : Nat → FieldType := fun k => match k with
  | 0 => .array .int
  | 1 => .array .int
  | 2 => .array .int
  | 3 => .int
  | 4 => .int
  | 5 => .int
  | 6 => .boolean
  | _ => .boolean
abbrev wsX50 : List Cond := u_ws RX5 TX5 8
theorem nmX5 : ∀ a, a < 8 → ∀ b, b < 8 → a ≠ b → (TX5 a).2.1 ≠ (TX5 b).2.1 := by decide +kernel
theorem tyX5_ok : ∀ k, k < 8 → parseFieldDescriptor (TX5 k).2.2.1 = some (tyX5 k) := by decide +kernel
abbrev cX5_init : ByteArray := prog_7_method_1_code
def yX5_init : MethodName := ⟨RX5, "<init>", "()V"⟩
abbrev cX5_clear : ByteArray := prog_7_method_2_code
def yX5_clear : MethodName := ⟨RX5, "clear", "()V"⟩
abbrev cX5_become : ByteArray := prog_7_method_3_code
def yX5_become : MethodName := ⟨RX5, "become", "(LNumberedSparks$Scene;)V"⟩
abbrev cX5_cellsAlong : ByteArray := prog_7_method_4_code
def yX5_cellsAlong : MethodName := ⟨RX5, "cellsAlong", "(I)I"⟩
abbrev cX5_isCell : ByteArray := prog_7_method_5_code
def yX5_isCell : MethodName := ⟨RX5, "isCell", "(II)Z"⟩
abbrev cX5_isCellOfWorld : ByteArray := prog_7_method_6_code
def yX5_isCellOfWorld : MethodName := ⟨RX5, "isCellOfWorld", "(III)Z"⟩
abbrev cX5_isKind : ByteArray := prog_7_method_7_code
def yX5_isKind : MethodName := ⟨RX5, "isKind", "(I)Z"⟩
abbrev cX5_isSource : ByteArray := prog_7_method_8_code
def yX5_isSource : MethodName := ⟨RX5, "isSource", "(I)Z"⟩
abbrev cX5_ofKind : ByteArray := prog_7_method_9_code
def yX5_ofKind : MethodName := ⟨RX5, "ofKind", "(II)I"⟩
abbrev cX5_setKind : ByteArray := prog_7_method_10_code
def yX5_setKind : MethodName := ⟨RX5, "setKind", "(III)V"⟩
abbrev cX5_ofSource : ByteArray := prog_7_method_11_code
def yX5_ofSource : MethodName := ⟨RX5, "ofSource", "(II)I"⟩
abbrev cX5_setSource : ByteArray := prog_7_method_12_code
def yX5_setSource : MethodName := ⟨RX5, "setSource", "(III)V"⟩
abbrev cX5_mix : ByteArray := prog_7_method_13_code
def yX5_mix : MethodName := ⟨RX5, "mix", "(II)J"⟩
abbrev cX5_draw : ByteArray := prog_7_method_14_code
def yX5_draw : MethodName := ⟨RX5, "draw", "(III)I"⟩
abbrev cX5_colourOf : ByteArray := prog_7_method_15_code
def yX5_colourOf : MethodName := ⟨RX5, "colourOf", "(I)I"⟩
abbrev cX5_hasSpark : ByteArray := prog_7_method_16_code
def yX5_hasSpark : MethodName := ⟨RX5, "hasSpark", "(I)Z"⟩
abbrev cX5_kindOfSpark : ByteArray := prog_7_method_17_code
def yX5_kindOfSpark : MethodName := ⟨RX5, "kindOfSpark", "(I)I"⟩
abbrev cX5_burstsUpTo : ByteArray := prog_7_method_18_code
def yX5_burstsUpTo : MethodName := ⟨RX5, "burstsUpTo", "(II)I"⟩
abbrev cX5_plannedTick : ByteArray := prog_7_method_19_code
def yX5_plannedTick : MethodName := ⟨RX5, "plannedTick", "(II)I"⟩
abbrev cX5_birthTick : ByteArray := prog_7_method_20_code
def yX5_birthTick : MethodName := ⟨RX5, "birthTick", "(II)I"⟩
abbrev cX5_bornBefore : ByteArray := prog_7_method_21_code
def yX5_bornBefore : MethodName := ⟨RX5, "bornBefore", "(II)I"⟩
abbrev cX5_tickOfBirth : ByteArray := prog_7_method_22_code
def yX5_tickOfBirth : MethodName := ⟨RX5, "tickOfBirth", "(II)I"⟩
abbrev cX5_codeOfBirth : ByteArray := prog_7_method_23_code
def yX5_codeOfBirth : MethodName := ⟨RX5, "codeOfBirth", "(II)I"⟩
abbrev cX5_countBirths : ByteArray := prog_7_method_24_code
def yX5_countBirths : MethodName := ⟨RX5, "countBirths", "(III[I)V"⟩
def RX6 : String := "NumberedSparks$Spark"
def TX6 : u_T := fun k => match k with
  | 0 => ("NumberedSparks$Spark", "scene", "LNumberedSparks$Scene;", true)
  | 1 => ("NumberedSparks$Spark", "start", "[I", true)
  | 2 => ("NumberedSparks$Spark", "speed", "[I", true)
  | 3 => ("NumberedSparks$Spark", "code", "I", false)
  | 4 => ("NumberedSparks$Spark", "kind", "I", false)
  | 5 => ("NumberedSparks$Spark", "generation", "I", false)
  | 6 => ("NumberedSparks$Spark", "born", "I", false)
  | 7 => ("NumberedSparks$Spark", "ends", "I", false)
  | 8 => ("NumberedSparks$Spark", "falls", "I", false)
  | _ => ("NumberedSparks$Spark", "edge", "I", false)
def tyX6 : Nat → FieldType := fun k => match k with
  | 0 => .object "NumberedSparks$Scene"
  | 1 => .array .int
  | 2 => .array .int
  | 3 => .int
  | 4 => .int
  | 5 => .int
  | 6 => .int
  | 7 => .int
  | 8 => .int
  | _ => .int
abbrev wsX60 : List Cond := u_ws RX6 TX6 10
theorem nmX6 : ∀ a, a < 10 → ∀ b, b < 10 → a ≠ b → (TX6 a).2.1 ≠ (TX6 b).2.1 := by decide +kernel
theorem tyX6_ok : ∀ k, k < 10 → parseFieldDescriptor (TX6 k).2.2.1 = some (tyX6 k) := by decide +kernel
abbrev cX6_init : ByteArray := prog_8_method_1_code
def yX6_init : MethodName := ⟨RX6, "<init>", "(LNumberedSparks$Scene;)V"⟩
abbrev cX6_beginAtSource : ByteArray := prog_8_method_2_code
def yX6_beginAtSource : MethodName := ⟨RX6, "beginAtSource", "(III)V"⟩
abbrev cX6_beginAsChild : ByteArray := prog_8_method_3_code
def yX6_beginAsChild : MethodName := ⟨RX6, "beginAsChild", "(LNumberedSparks$Spark;I)V"⟩
abbrev cX6_fly : ByteArray := prog_8_method_4_code
def yX6_fly : MethodName := ⟨RX6, "fly", "()V"⟩
abbrev cX6_ageBeyond : ByteArray := prog_8_method_5_code
def yX6_ageBeyond : MethodName := ⟨RX6, "ageBeyond", "(II)I"⟩
abbrev cX6_isThere : ByteArray := prog_8_method_6_code
def yX6_isThere : MethodName := ⟨RX6, "isThere", "(I)Z"⟩
abbrev cX6_freePlace : ByteArray := prog_8_method_7_code
def yX6_freePlace : MethodName := ⟨RX6, "freePlace", "(II)I"⟩
abbrev cX6_placeAt : ByteArray := prog_8_method_8_code
def yX6_placeAt : MethodName := ⟨RX6, "placeAt", "(II)I"⟩
abbrev cX6_cellAt : ByteArray := prog_8_method_9_code
def yX6_cellAt : MethodName := ⟨RX6, "cellAt", "(I)I"⟩
abbrev cX6_edgesAt : ByteArray := prog_8_method_10_code
def yX6_edgesAt : MethodName := ⟨RX6, "edgesAt", "(I)I"⟩
abbrev cX6_firstInColumn : ByteArray := prog_8_method_11_code
def yX6_firstInColumn : MethodName := ⟨RX6, "firstInColumn", "(IIII)I"⟩
abbrev cX6_crossings : ByteArray := prog_8_method_12_code
def yX6_crossings : MethodName := ⟨RX6, "crossings", "(IIIZ)I"⟩
def RX7 : String := "NumberedSparks$Walk"
def TX7 : u_T := fun k => match k with
  | 0 => ("NumberedSparks$Walk", "scene", "LNumberedSparks$Scene;", true)
  | 1 => ("NumberedSparks$Walk", "line", "[LNumberedSparks$Spark;", true)
  | 2 => ("NumberedSparks$Walk", "shownRows", "[I", true)
  | 3 => ("NumberedSparks$Walk", "nextRoot", "[I", true)
  | 4 => ("NumberedSparks$Walk", "beyondRoots", "[I", true)
  | 5 => ("NumberedSparks$Walk", "spans", "[I", true)
  | 6 => ("NumberedSparks$Walk", "first", "I", false)
  | 7 => ("NumberedSparks$Walk", "beyond", "I", false)
  | _ => ("NumberedSparks$Walk", "showing", "I", false)
def tyX7 : Nat → FieldType := fun k => match k with
  | 0 => .object "NumberedSparks$Scene"
  | 1 => .array (.object "NumberedSparks$Spark")
  | 2 => .array .int
  | 3 => .array .int
  | 4 => .array .int
  | 5 => .array .int
  | 6 => .int
  | 7 => .int
  | _ => .int
abbrev wsX70 : List Cond := u_ws RX7 TX7 9
theorem nmX7 : ∀ a, a < 9 → ∀ b, b < 9 → a ≠ b → (TX7 a).2.1 ≠ (TX7 b).2.1 := by decide +kernel
theorem tyX7_ok : ∀ k, k < 9 → parseFieldDescriptor (TX7 k).2.2.1 = some (tyX7 k) := by decide +kernel
abbrev cX7_init : ByteArray := prog_9_method_1_code
def yX7_init : MethodName := ⟨RX7, "<init>", "(LNumberedSparks$Scene;)V"⟩
abbrev cX7_start : ByteArray := prog_9_method_2_code
def yX7_start : MethodName := ⟨RX7, "start", "(II)V"⟩
abbrev cX7_startWithRoot : ByteArray := prog_9_method_3_code
def yX7_startWithRoot : MethodName := ⟨RX7, "startWithRoot", "(II)V"⟩
abbrev cX7_measureSpans : ByteArray := prog_9_method_4_code
def yX7_measureSpans : MethodName := ⟨RX7, "measureSpans", "()V"⟩
abbrev cX7_spanOf : ByteArray := prog_9_method_5_code
def yX7_spanOf : MethodName := ⟨RX7, "spanOf", "(II)I"⟩
abbrev cX7_spanBehind : ByteArray := prog_9_method_6_code
def yX7_spanBehind : MethodName := ⟨RX7, "spanBehind", "(II)I"⟩
abbrev cX7_stepRoot : ByteArray := prog_9_method_7_code
def yX7_stepRoot : MethodName := ⟨RX7, "stepRoot", "()Z"⟩
abbrev cX7_stepChild : ByteArray := prog_9_method_8_code
def yX7_stepChild : MethodName := ⟨RX7, "stepChild", "(LNumberedSparks$Spark;II)V"⟩
abbrev cX7_isOutside : ByteArray := prog_9_method_9_code
def yX7_isOutside : MethodName := ⟨RX7, "isOutside", "(LNumberedSparks$Spark;)Z"⟩
abbrev cX7_show : ByteArray := prog_9_method_10_code
def yX7_show : MethodName := ⟨RX7, "show", "(I)V"⟩
abbrev cX7_sourceOfLeastRoot : ByteArray := prog_9_method_11_code
def yX7_sourceOfLeastRoot : MethodName := ⟨RX7, "sourceOfLeastRoot", "()I"⟩
abbrev cX7_shown : ByteArray := prog_9_method_12_code
def yX7_shown : MethodName := ⟨RX7, "shown", "(I)LNumberedSparks$Spark;"⟩
def RX8 : String := "NumberedSparks"
def TX8 : u_T := fun k => match k with
  | 0 => ("NumberedSparks", "tape", "[I", true)
  | 1 => ("NumberedSparks", "tapeLength", "I", false)
  | 2 => ("NumberedSparks", "scene", "LNumberedSparks$Scene;", true)
  | 3 => ("NumberedSparks", "reader", "LNumberedSparks$Reader;", true)
  | 4 => ("NumberedSparks", "history", "LNumberedSparks$History;", true)
  | 5 => ("NumberedSparks", "out", "LNumberedSparks$Output;", true)
  | 6 => ("NumberedSparks", "walk", "LNumberedSparks$Walk;", true)
  | 7 => ("NumberedSparks", "frame", "LNumberedSparks$Frame;", true)
  | 8 => ("NumberedSparks", "finder", "LNumberedSparks$Finder;", true)
  | 9 => ("NumberedSparks", "otherFinder", "LNumberedSparks$Finder;", true)
  | _ => ("NumberedSparks", "counts", "[I", true)
def tyX8 : Nat → FieldType := fun k => match k with
  | 0 => .array .int
  | 1 => .int
  | 2 => .object "NumberedSparks$Scene"
  | 3 => .object "NumberedSparks$Reader"
  | 4 => .object "NumberedSparks$History"
  | 5 => .object "NumberedSparks$Output"
  | 6 => .object "NumberedSparks$Walk"
  | 7 => .object "NumberedSparks$Frame"
  | 8 => .object "NumberedSparks$Finder"
  | 9 => .object "NumberedSparks$Finder"
  | _ => .array .int
abbrev wsX80 : List Cond := u_ws RX8 TX8 11
theorem nmX8 : ∀ a, a < 11 → ∀ b, b < 11 → a ≠ b → (TX8 a).2.1 ≠ (TX8 b).2.1 := by decide +kernel
theorem tyX8_ok : ∀ k, k < 11 → parseFieldDescriptor (TX8 k).2.2.1 = some (tyX8 k) := by decide +kernel
abbrev cX8_init : ByteArray := prog_1_method_1_code
def yX8_init : MethodName := ⟨RX8, "<init>", "()V"⟩
abbrev cX8_feed : ByteArray := prog_1_method_2_code
def yX8_feed : MethodName := ⟨RX8, "feed", "(IIIII)I"⟩
abbrev cX8_putOnTape : ByteArray := prog_1_method_3_code
def yX8_putOnTape : MethodName := ⟨RX8, "putOnTape", "(I)V"⟩
abbrev cX8_end : ByteArray := prog_1_method_4_code
def yX8_end : MethodName := ⟨RX8, "end", "(I)I"⟩
abbrev cX8_scene : ByteArray := prog_1_method_5_code
def yX8_scene : MethodName := ⟨RX8, "scene", "()I"⟩
abbrev cX8_fault : ByteArray := prog_1_method_6_code
def yX8_fault : MethodName := ⟨RX8, "fault", "(I)I"⟩
abbrev cX8_count : ByteArray := prog_1_method_7_code
def yX8_count : MethodName := ⟨RX8, "count", "(I)I"⟩
abbrev cX8_kind : ByteArray := prog_1_method_8_code
def yX8_kind : MethodName := ⟨RX8, "kind", "(II)I"⟩
abbrev cX8_source : ByteArray := prog_1_method_9_code
def yX8_source : MethodName := ⟨RX8, "source", "(II)I"⟩
abbrev cX8_seed : ByteArray := prog_1_method_10_code
def yX8_seed : MethodName := ⟨RX8, "seed", "(I)I"⟩
abbrev cX8_sets : ByteArray := prog_1_method_11_code
def yX8_sets : MethodName := ⟨RX8, "sets", "(III)I"⟩
abbrev cX8_undo : ByteArray := prog_1_method_12_code
def yX8_undo : MethodName := ⟨RX8, "undo", "()I"⟩
abbrev cX8_mixed : ByteArray := prog_1_method_13_code
def yX8_mixed : MethodName := ⟨RX8, "mixed", "(II)J"⟩
abbrev cX8_is : ByteArray := prog_1_method_14_code
def yX8_is : MethodName := ⟨RX8, "is", "(I)I"⟩
abbrev cX8_child : ByteArray := prog_1_method_15_code
def yX8_child : MethodName := ⟨RX8, "child", "(II)I"⟩
abbrev cX8_parent : ByteArray := prog_1_method_16_code
def yX8_parent : MethodName := ⟨RX8, "parent", "(I)I"⟩
abbrev cX8_spark : ByteArray := prog_1_method_17_code
def yX8_spark : MethodName := ⟨RX8, "spark", "(II)I"⟩
abbrev cX8_place : ByteArray := prog_1_method_18_code
def yX8_place : MethodName := ⟨RX8, "place", "(III)I"⟩
abbrev cX8_size : ByteArray := prog_1_method_19_code
def yX8_size : MethodName := ⟨RX8, "size", "(II)I"⟩
abbrev cX8_edges : ByteArray := prog_1_method_20_code
def yX8_edges : MethodName := ⟨RX8, "edges", "(I)I"⟩
abbrev cX8_over : ByteArray := prog_1_method_21_code
def yX8_over : MethodName := ⟨RX8, "over", "(I)I"⟩
abbrev cX8_reach : ByteArray := prog_1_method_22_code
def yX8_reach : MethodName := ⟨RX8, "reach", "(III)I"⟩
abbrev cX8_cellsOf : ByteArray := prog_1_method_23_code
def yX8_cellsOf : MethodName := ⟨RX8, "cellsOf", "(I)I"⟩
abbrev cX8_isAmong : ByteArray := prog_1_method_24_code
def yX8_isAmong : MethodName := ⟨RX8, "isAmong", "(II)Z"⟩
abbrev cX8_meets : ByteArray := prog_1_method_25_code
def yX8_meets : MethodName := ⟨RX8, "meets", "(II)I"⟩
abbrev cX8_kin : ByteArray := prog_1_method_26_code
def yX8_kin : MethodName := ⟨RX8, "kin", "(II)I"⟩
abbrev cX8_line : ByteArray := prog_1_method_27_code
def yX8_line : MethodName := ⟨RX8, "line", "(II)I"⟩
abbrev cX8_tell : ByteArray := prog_1_method_28_code
def yX8_tell : MethodName := ⟨RX8, "tell", "(I)I"⟩
abbrev cX8_octet : ByteArray := prog_1_method_29_code
def yX8_octet : MethodName := ⟨RX8, "octet", "(I)I"⟩
abbrev cX8_births : ByteArray := prog_1_method_30_code
def yX8_births : MethodName := ⟨RX8, "births", "(III)I"⟩
abbrev cX8_bornAs : ByteArray := prog_1_method_31_code
def yX8_bornAs : MethodName := ⟨RX8, "bornAs", "(II)I"⟩
abbrev cX8_latest : ByteArray := prog_1_method_32_code
def yX8_latest : MethodName := ⟨RX8, "latest", "(II)I"⟩
abbrev cX8_next : ByteArray := prog_1_method_33_code
def yX8_next : MethodName := ⟨RX8, "next", "(II)I"⟩
abbrev cX8_lull : ByteArray := prog_1_method_34_code
def yX8_lull : MethodName := ⟨RX8, "lull", "(IIII)I"⟩
abbrev cX8_endings : ByteArray := prog_1_method_35_code
def yX8_endings : MethodName := ⟨RX8, "endings", "(II)I"⟩
abbrev cX8_peak : ByteArray := prog_1_method_36_code
def yX8_peak : MethodName := ⟨RX8, "peak", "(III)I"⟩
abbrev cX8_countComingAndGoing : ByteArray := prog_1_method_37_code
def yX8_countComingAndGoing : MethodName := ⟨RX8, "countComingAndGoing", "(II)V"⟩
abbrev cX8_firstIn : ByteArray := prog_1_method_38_code
def yX8_firstIn : MethodName := ⟨RX8, "firstIn", "(III)I"⟩
abbrev cX8_flux : ByteArray := prog_1_method_39_code
def yX8_flux : MethodName := ⟨RX8, "flux", "(IIII)I"⟩
abbrev cX8_many : ByteArray := prog_1_method_40_code
def yX8_many : MethodName := ⟨RX8, "many", "(II)I"⟩
abbrev cX8_drawn : ByteArray := prog_1_method_41_code
def yX8_drawn : MethodName := ⟨RX8, "drawn", "(II)I"⟩
abbrev cX8_digest : ByteArray := prog_1_method_42_code
def yX8_digest : MethodName := ⟨RX8, "digest", "(I)J"⟩
abbrev cX8_inColumn : ByteArray := prog_1_method_43_code
def yX8_inColumn : MethodName := ⟨RX8, "inColumn", "(III)I"⟩
abbrev cX8_top : ByteArray := prog_1_method_44_code
def yX8_top : MethodName := ⟨RX8, "top", "(III)I"⟩
abbrev cX8_below : ByteArray := prog_1_method_45_code
def yX8_below : MethodName := ⟨RX8, "below", "(IIII)I"⟩
abbrev cX8_fullest : ByteArray := prog_1_method_46_code
def yX8_fullest : MethodName := ⟨RX8, "fullest", "(II)I"⟩
abbrev cX8_columns : ByteArray := prog_1_method_47_code
def yX8_columns : MethodName := ⟨RX8, "columns", "(I)I"⟩
abbrev cX8_nearest : ByteArray := prog_1_method_48_code
def yX8_nearest : MethodName := ⟨RX8, "nearest", "(IIII)I"⟩
abbrev cX8_within : ByteArray := prog_1_method_49_code
def yX8_within : MethodName := ⟨RX8, "within", "(IIIII)I"⟩
abbrev cX8_twos : ByteArray := prog_1_method_50_code
def yX8_twos : MethodName := ⟨RX8, "twos", "(I)J"⟩
abbrev cX8_box : ByteArray := prog_1_method_51_code
def yX8_box : MethodName := ⟨RX8, "box", "(II)I"⟩
abbrev cX8_middle : ByteArray := prog_1_method_52_code
def yX8_middle : MethodName := ⟨RX8, "middle", "(II)I"⟩
abbrev cX8_both : ByteArray := prog_1_method_53_code
def yX8_both : MethodName := ⟨RX8, "both", "(II)I"⟩
abbrev cX8_ofAge : ByteArray := prog_1_method_54_code
def yX8_ofAge : MethodName := ⟨RX8, "ofAge", "(III)I"⟩
abbrev cX8_colours : ByteArray := prog_1_method_55_code
def yX8_colours : MethodName := ⟨RX8, "colours", "(II)I"⟩
abbrev cX8_twins : ByteArray := prog_1_method_56_code
def yX8_twins : MethodName := ⟨RX8, "twins", "(I)I"⟩
abbrev cX8_picture : ByteArray := prog_1_method_57_code
def yX8_picture : MethodName := ⟨RX8, "picture", "(I)I"⟩
abbrev cX8_layer : ByteArray := prog_1_method_58_code
def yX8_layer : MethodName := ⟨RX8, "layer", "(II)I"⟩
abbrev cX8_isTick : ByteArray := prog_1_method_59_code
def yX8_isTick : MethodName := ⟨RX8, "isTick", "(I)Z"⟩
abbrev cX8_isAxis : ByteArray := prog_1_method_60_code
def yX8_isAxis : MethodName := ⟨RX8, "isAxis", "(I)Z"⟩
abbrev cX8_isWindow : ByteArray := prog_1_method_61_code
def yX8_isWindow : MethodName := ⟨RX8, "isWindow", "(II)Z"⟩
abbrev cX8_sourceOf : ByteArray := prog_1_method_62_code
def yX8_sourceOf : MethodName := ⟨RX8, "sourceOf", "(I)I"⟩
abbrev cX8_numberOf : ByteArray := prog_1_method_63_code
def yX8_numberOf : MethodName := ⟨RX8, "numberOf", "(I)I"⟩
abbrev cX8_codeOfRoot : ByteArray := prog_1_method_64_code
def yX8_codeOfRoot : MethodName := ⟨RX8, "codeOfRoot", "(II)I"⟩
abbrev cX8_generationOf : ByteArray := prog_1_method_65_code
def yX8_generationOf : MethodName := ⟨RX8, "generationOf", "(I)I"⟩
abbrev cX8_codeOfChild : ByteArray := prog_1_method_66_code
def yX8_codeOfChild : MethodName := ⟨RX8, "codeOfChild", "(III)I"⟩
abbrev cX8_codeOfParent : ByteArray := prog_1_method_67_code
def yX8_codeOfParent : MethodName := ⟨RX8, "codeOfParent", "(I)I"⟩
abbrev cX8_comesOf : ByteArray := prog_1_method_68_code
def yX8_comesOf : MethodName := ⟨RX8, "comesOf", "(II)Z"⟩
def RX9 : String := "NumberedSparksModel"
def TX9 : u_T := fun k => match k with
  | 0 => ("NumberedSparksModel", "thrown", "I", false)
  | 1 => ("NumberedSparksModel", "isThere", "Z", false)
  | 2 => ("NumberedSparksModel", "wide", "[I", true)
  | 3 => ("NumberedSparksModel", "seed", "I", false)
  | 4 => ("NumberedSparksModel", "kinds", "I", false)
  | 5 => ("NumberedSparksModel", "kind", "[I", true)
  | 6 => ("NumberedSparksModel", "sources", "I", false)
  | 7 => ("NumberedSparksModel", "source", "[I", true)
  | 8 => ("NumberedSparksModel", "freshWide", "[I", true)
  | 9 => ("NumberedSparksModel", "freshSeed", "I", false)
  | 10 => ("NumberedSparksModel", "freshKinds", "I", false)
  | 11 => ("NumberedSparksModel", "freshKind", "[I", true)
  | 12 => ("NumberedSparksModel", "freshSources", "I", false)
  | 13 => ("NumberedSparksModel", "freshSource", "[I", true)
  | 14 => ("NumberedSparksModel", "tape", "[B", true)
  | 15 => ("NumberedSparksModel", "taped", "I", false)
  | 16 => ("NumberedSparksModel", "size", "I", false)
  | 17 => ("NumberedSparksModel", "at", "I", false)
  | 18 => ("NumberedSparksModel", "from", "I", false)
  | 19 => ("NumberedSparksModel", "token", "I", false)
  | 20 => ("NumberedSparksModel", "value", "I", false)
  | 21 => ("NumberedSparksModel", "faultKind", "I", false)
  | 22 => ("NumberedSparksModel", "faultPlace", "I", false)
  | 23 => ("NumberedSparksModel", "isSeeded", "Z", false)
  | 24 => ("NumberedSparksModel", "acts", "I", false)
  | 25 => ("NumberedSparksModel", "actAt", "[I", true)
  | 26 => ("NumberedSparksModel", "actWas", "[I", true)
  | 27 => ("NumberedSparksModel", "itsKind", "I", false)
  | 28 => ("NumberedSparksModel", "born", "I", false)
  | 29 => ("NumberedSparksModel", "ends", "I", false)
  | 30 => ("NumberedSparksModel", "begin", "[I", true)
  | 31 => ("NumberedSparksModel", "speed", "[I", true)
  | 32 => ("NumberedSparksModel", "lastPlace", "[I", true)
  | 33 => ("NumberedSparksModel", "cellsOfOne", "[I", true)
  | 34 => ("NumberedSparksModel", "many", "I", false)
  | 35 => ("NumberedSparksModel", "keys", "[J", true)
  | 36 => ("NumberedSparksModel", "place0", "[I", true)
  | 37 => ("NumberedSparksModel", "place1", "[I", true)
  | 38 => ("NumberedSparksModel", "heaps", "[I", true)
  | 39 => ("NumberedSparksModel", "leftOver", "I", false)
  | 40 => ("NumberedSparksModel", "told", "[B", true)
  | _ => ("NumberedSparksModel", "toldMany", "I", false)
def tyX9 : Nat → FieldType := fun k => match k with
  | 0 => .int
  | 1 => .boolean
  | 2 => .array .int
  | 3 => .int
  | 4 => .int
  | 5 => .array .int
  | 6 => .int
  | 7 => .array .int
  | 8 => .array .int
  | 9 => .int
  | 10 => .int
  | 11 => .array .int
  | 12 => .int
  | 13 => .array .int
  | 14 => .array .byte
  | 15 => .int
  | 16 => .int
  | 17 => .int
  | 18 => .int
  | 19 => .int
  | 20 => .int
  | 21 => .int
  | 22 => .int
  | 23 => .boolean
  | 24 => .int
  | 25 => .array .int
  | 26 => .array .int
  | 27 => .int
  | 28 => .int
  | 29 => .int
  | 30 => .array .int
  | 31 => .array .int
  | 32 => .array .int
  | 33 => .array .int
  | 34 => .int
  | 35 => .array .long
  | 36 => .array .int
  | 37 => .array .int
  | 38 => .array .int
  | 39 => .int
  | 40 => .array .byte
  | _ => .int
abbrev wsX90 : List Cond := u_ws RX9 TX9 42
theorem nmX9 : ∀ a, a < 42 → ∀ b, b < 42 → a ≠ b → (TX9 a).2.1 ≠ (TX9 b).2.1 := by decide +kernel
theorem tyX9_ok : ∀ k, k < 42 → parseFieldDescriptor (TX9 k).2.2.1 = some (tyX9 k) := by decide +kernel
abbrev cX9_init : ByteArray := prog_11_method_1_code
def yX9_init : MethodName := ⟨RX9, "<init>", "()V"⟩
abbrev cX9_in : ByteArray := prog_11_method_3_code
def yX9_in : MethodName := ⟨RX9, "in", "(JJJ)Z"⟩
abbrev cX9_puts4 : ByteArray := prog_11_method_4_code
def yX9_puts4 : MethodName := ⟨RX9, "puts4", "(I)V"⟩
abbrev cX9_feed : ByteArray := prog_11_method_5_code
def yX9_feed : MethodName := ⟨RX9, "feed", "(IIIII)I"⟩
abbrev cX9_end : ByteArray := prog_11_method_6_code
def yX9_end : MethodName := ⟨RX9, "end", "(I)I"⟩
abbrev cX9_good : ByteArray := prog_11_method_7_code
def yX9_good : MethodName := ⟨RX9, "good", "()Z"⟩
abbrev cX9_errs : ByteArray := prog_11_method_8_code
def yX9_errs : MethodName := ⟨RX9, "errs", "(II)V"⟩
abbrev cX9_see : ByteArray := prog_11_method_9_code
def yX9_see : MethodName := ⟨RX9, "see", "(I)I"⟩
abbrev cX9_advance : ByteArray := prog_11_method_10_code
def yX9_advance : MethodName := ⟨RX9, "advance", "()V"⟩
abbrev cX9_isWord : ByteArray := prog_11_method_11_code
def yX9_isWord : MethodName := ⟨RX9, "isWord", "(Ljava/lang/String;)Z"⟩
abbrev cX9_takes : ByteArray := prog_11_method_12_code
def yX9_takes : MethodName := ⟨RX9, "takes", "(Ljava/lang/String;)Z"⟩
abbrev cX9_passes : ByteArray := prog_11_method_13_code
def yX9_passes : MethodName := ⟨RX9, "passes", "(Ljava/lang/String;)V"⟩
abbrev cX9_number : ByteArray := prog_11_method_14_code
def yX9_number : MethodName := ⟨RX9, "number", "(II)I"⟩
abbrev cX9_falls : ByteArray := prog_11_method_15_code
def yX9_falls : MethodName := ⟨RX9, "falls", "()I"⟩
abbrev cX9_readKind : ByteArray := prog_11_method_16_code
def yX9_readKind : MethodName := ⟨RX9, "readKind", "()V"⟩
abbrev cX9_readSource : ByteArray := prog_11_method_17_code
def yX9_readSource : MethodName := ⟨RX9, "readSource", "()V"⟩
abbrev cX9_readSeed : ByteArray := prog_11_method_18_code
def yX9_readSeed : MethodName := ⟨RX9, "readSeed", "()V"⟩
abbrev cX9_readLine : ByteArray := prog_11_method_19_code
def yX9_readLine : MethodName := ⟨RX9, "readLine", "(I)V"⟩
abbrev cX9_scene : ByteArray := prog_11_method_20_code
def yX9_scene : MethodName := ⟨RX9, "scene", "()I"⟩
abbrev cX9_fault : ByteArray := prog_11_method_21_code
def yX9_fault : MethodName := ⟨RX9, "fault", "(I)I"⟩
abbrev cX9_count : ByteArray := prog_11_method_22_code
def yX9_count : MethodName := ⟨RX9, "count", "(I)I"⟩
abbrev cX9_kind : ByteArray := prog_11_method_23_code
def yX9_kind : MethodName := ⟨RX9, "kind", "(II)I"⟩
abbrev cX9_ofSource : ByteArray := prog_11_method_24_code
def yX9_ofSource : MethodName := ⟨RX9, "ofSource", "(II)I"⟩
abbrev cX9_groups : ByteArray := prog_11_method_25_code
def yX9_groups : MethodName := ⟨RX9, "groups", "(I)I"⟩
abbrev cX9_roots : ByteArray := prog_11_method_26_code
def yX9_roots : MethodName := ⟨RX9, "roots", "(I)I"⟩
abbrev cX9_source : ByteArray := prog_11_method_27_code
def yX9_source : MethodName := ⟨RX9, "source", "(II)I"⟩
abbrev cX9_keeps : ByteArray := prog_11_method_28_code
def yX9_keeps : MethodName := ⟨RX9, "keeps", "(II)V"⟩
abbrev cX9_seed : ByteArray := prog_11_method_29_code
def yX9_seed : MethodName := ⟨RX9, "seed", "(I)I"⟩
abbrev cX9_sets : ByteArray := prog_11_method_30_code
def yX9_sets : MethodName := ⟨RX9, "sets", "(III)I"⟩
abbrev cX9_undo : ByteArray := prog_11_method_31_code
def yX9_undo : MethodName := ⟨RX9, "undo", "()I"⟩
abbrev cX9_mixedOf : ByteArray := prog_11_method_32_code
def yX9_mixedOf : MethodName := ⟨RX9, "mixedOf", "(II)J"⟩
abbrev cX9_mixed : ByteArray := prog_11_method_33_code
def yX9_mixed : MethodName := ⟨RX9, "mixed", "(II)J"⟩
abbrev cX9_draw : ByteArray := prog_11_method_34_code
def yX9_draw : MethodName := ⟨RX9, "draw", "(III)I"⟩
abbrev cX9_first : ByteArray := prog_11_method_35_code
def yX9_first : MethodName := ⟨RX9, "first", "(I)I"⟩
abbrev cX9_second : ByteArray := prog_11_method_36_code
def yX9_second : MethodName := ⟨RX9, "second", "(I)I"⟩
abbrev cX9_hasChild : ByteArray := prog_11_method_37_code
def yX9_hasChild : MethodName := ⟨RX9, "hasChild", "(II)Z"⟩
abbrev cX9_isSpark : ByteArray := prog_11_method_38_code
def yX9_isSpark : MethodName := ⟨RX9, "isSpark", "(I)Z"⟩
abbrev cX9_raw : ByteArray := prog_11_method_39_code
def yX9_raw : MethodName := ⟨RX9, "raw", "(II)I"⟩
abbrev cX9_edge : ByteArray := prog_11_method_40_code
def yX9_edge : MethodName := ⟨RX9, "edge", "()I"⟩
abbrev cX9_world : ByteArray := prog_11_method_41_code
def yX9_world : MethodName := ⟨RX9, "world", "(I)I"⟩
abbrev cX9_placeBy : ByteArray := prog_11_method_42_code
def yX9_placeBy : MethodName := ⟨RX9, "placeBy", "(II)I"⟩
abbrev cX9_isBeyond : ByteArray := prog_11_method_43_code
def yX9_isBeyond : MethodName := ⟨RX9, "isBeyond", "(I)Z"⟩
abbrev cX9_laysOne : ByteArray := prog_11_method_44_code
def yX9_laysOne : MethodName := ⟨RX9, "laysOne", "(III)V"⟩
abbrev cX9_laysRoot : ByteArray := prog_11_method_45_code
def yX9_laysRoot : MethodName := ⟨RX9, "laysRoot", "(I)V"⟩
abbrev cX9_laysChild : ByteArray := prog_11_method_46_code
def yX9_laysChild : MethodName := ⟨RX9, "laysChild", "(I)V"⟩
abbrev cX9_lays : ByteArray := prog_11_method_47_code
def yX9_lays : MethodName := ⟨RX9, "lays", "(I)V"⟩
abbrev cX9_generation : ByteArray := prog_11_method_48_code
def yX9_generation : MethodName := ⟨RX9, "generation", "(I)I"⟩
abbrev cX9_is : ByteArray := prog_11_method_49_code
def yX9_is : MethodName := ⟨RX9, "is", "(I)I"⟩
abbrev cX9_kindOf : ByteArray := prog_11_method_50_code
def yX9_kindOf : MethodName := ⟨RX9, "kindOf", "(I)I"⟩
abbrev cX9_childOf : ByteArray := prog_11_method_51_code
def yX9_childOf : MethodName := ⟨RX9, "childOf", "(II)I"⟩
abbrev cX9_child : ByteArray := prog_11_method_52_code
def yX9_child : MethodName := ⟨RX9, "child", "(II)I"⟩
abbrev cX9_parentOf : ByteArray := prog_11_method_53_code
def yX9_parentOf : MethodName := ⟨RX9, "parentOf", "(I)I"⟩
abbrev cX9_parent : ByteArray := prog_11_method_54_code
def yX9_parent : MethodName := ⟨RX9, "parent", "(I)I"⟩
abbrev cX9_spark : ByteArray := prog_11_method_55_code
def yX9_spark : MethodName := ⟨RX9, "spark", "(II)I"⟩
abbrev cX9_isTick : ByteArray := prog_11_method_56_code
def yX9_isTick : MethodName := ⟨RX9, "isTick", "(I)Z"⟩
abbrev cX9_place : ByteArray := prog_11_method_57_code
def yX9_place : MethodName := ⟨RX9, "place", "(III)I"⟩
abbrev cX9_size : ByteArray := prog_11_method_58_code
def yX9_size : MethodName := ⟨RX9, "size", "(II)I"⟩
abbrev cX9_overAt : ByteArray := prog_11_method_59_code
def yX9_overAt : MethodName := ⟨RX9, "overAt", "(I)I"⟩
abbrev cX9_edges : ByteArray := prog_11_method_60_code
def yX9_edges : MethodName := ⟨RX9, "edges", "(I)I"⟩
abbrev cX9_over : ByteArray := prog_11_method_61_code
def yX9_over : MethodName := ⟨RX9, "over", "(I)I"⟩
abbrev cX9_cellBy : ByteArray := prog_11_method_62_code
def yX9_cellBy : MethodName := ⟨RX9, "cellBy", "(I)I"⟩
abbrev cX9_cellsOf : ByteArray := prog_11_method_63_code
def yX9_cellsOf : MethodName := ⟨RX9, "cellsOf", "(I)I"⟩
abbrev cX9_meets : ByteArray := prog_11_method_64_code
def yX9_meets : MethodName := ⟨RX9, "meets", "(II)I"⟩
abbrev cX9_reach : ByteArray := prog_11_method_65_code
def yX9_reach : MethodName := ⟨RX9, "reach", "(III)I"⟩
abbrev cX9_kin : ByteArray := prog_11_method_66_code
def yX9_kin : MethodName := ⟨RX9, "kin", "(II)I"⟩
abbrev cX9_line : ByteArray := prog_11_method_67_code
def yX9_line : MethodName := ⟨RX9, "line", "(II)I"⟩
abbrev cX9_isFrom : ByteArray := prog_11_method_68_code
def yX9_isFrom : MethodName := ⟨RX9, "isFrom", "(II)Z"⟩
abbrev cX9_firstGroup : ByteArray := prog_11_method_69_code
def yX9_firstGroup : MethodName := ⟨RX9, "firstGroup", "(II)I"⟩
abbrev cX9_isGroup : ByteArray := prog_11_method_70_code
def yX9_isGroup : MethodName := ⟨RX9, "isGroup", "(III)Z"⟩
abbrev cX9_comes : ByteArray := prog_11_method_71_code
def yX9_comes : MethodName := ⟨RX9, "comes", "(II)V"⟩
abbrev cX9_comesLine : ByteArray := prog_11_method_72_code
def yX9_comesLine : MethodName := ⟨RX9, "comesLine", "(II)V"⟩
abbrev cX9_sorts : ByteArray := prog_11_method_73_code
def yX9_sorts : MethodName := ⟨RX9, "sorts", "()V"⟩
abbrev cX9_gathers : ByteArray := prog_11_method_74_code
def yX9_gathers : MethodName := ⟨RX9, "gathers", "(I)V"⟩
abbrev cX9_laysFrame : ByteArray := prog_11_method_75_code
def yX9_laysFrame : MethodName := ⟨RX9, "laysFrame", "(I)V"⟩
abbrev cX9_codeAt : ByteArray := prog_11_method_76_code
def yX9_codeAt : MethodName := ⟨RX9, "codeAt", "(I)I"⟩
abbrev cX9_many : ByteArray := prog_11_method_77_code
def yX9_many : MethodName := ⟨RX9, "many", "(II)I"⟩
abbrev cX9_drawn : ByteArray := prog_11_method_78_code
def yX9_drawn : MethodName := ⟨RX9, "drawn", "(II)I"⟩
abbrev cX9_placeAt : ByteArray := prog_11_method_79_code
def yX9_placeAt : MethodName := ⟨RX9, "placeAt", "(III)I"⟩
abbrev cX9_digest : ByteArray := prog_11_method_80_code
def yX9_digest : MethodName := ⟨RX9, "digest", "(I)J"⟩
abbrev cX9_isColumn : ByteArray := prog_11_method_81_code
def yX9_isColumn : MethodName := ⟨RX9, "isColumn", "(II)Z"⟩
abbrev cX9_laysColumns : ByteArray := prog_11_method_82_code
def yX9_laysColumns : MethodName := ⟨RX9, "laysColumns", "(I)V"⟩
abbrev cX9_inColumn : ByteArray := prog_11_method_83_code
def yX9_inColumn : MethodName := ⟨RX9, "inColumn", "(III)I"⟩
abbrev cX9_topOf : ByteArray := prog_11_method_84_code
def yX9_topOf : MethodName := ⟨RX9, "topOf", "(II)I"⟩
abbrev cX9_top : ByteArray := prog_11_method_85_code
def yX9_top : MethodName := ⟨RX9, "top", "(III)I"⟩
abbrev cX9_fullest : ByteArray := prog_11_method_86_code
def yX9_fullest : MethodName := ⟨RX9, "fullest", "(II)I"⟩
abbrev cX9_isCell : ByteArray := prog_11_method_87_code
def yX9_isCell : MethodName := ⟨RX9, "isCell", "(III)Z"⟩
abbrev cX9_squares : ByteArray := prog_11_method_88_code
def yX9_squares : MethodName := ⟨RX9, "squares", "(IIIII)J"⟩
abbrev cX9_nearest : ByteArray := prog_11_method_89_code
def yX9_nearest : MethodName := ⟨RX9, "nearest", "(IIII)I"⟩
abbrev cX9_within : ByteArray := prog_11_method_90_code
def yX9_within : MethodName := ⟨RX9, "within", "(IIIII)I"⟩
abbrev cX9_laysHeaps : ByteArray := prog_11_method_91_code
def yX9_laysHeaps : MethodName := ⟨RX9, "laysHeaps", "(I)V"⟩
abbrev cX9_twos : ByteArray := prog_11_method_92_code
def yX9_twos : MethodName := ⟨RX9, "twos", "(I)J"⟩
abbrev cX9_firstIn : ByteArray := prog_11_method_93_code
def yX9_firstIn : MethodName := ⟨RX9, "firstIn", "(III)I"⟩
abbrev cX9_peak : ByteArray := prog_11_method_94_code
def yX9_peak : MethodName := ⟨RX9, "peak", "(III)I"⟩
abbrev cX9_box : ByteArray := prog_11_method_95_code
def yX9_box : MethodName := ⟨RX9, "box", "(II)I"⟩
abbrev cX9_middle : ByteArray := prog_11_method_96_code
def yX9_middle : MethodName := ⟨RX9, "middle", "(II)I"⟩
abbrev cX9_both : ByteArray := prog_11_method_97_code
def yX9_both : MethodName := ⟨RX9, "both", "(II)I"⟩
abbrev cX9_ofAge : ByteArray := prog_11_method_98_code
def yX9_ofAge : MethodName := ⟨RX9, "ofAge", "(III)I"⟩
abbrev cX9_flux : ByteArray := prog_11_method_99_code
def yX9_flux : MethodName := ⟨RX9, "flux", "(IIII)I"⟩
abbrev cX9_colours : ByteArray := prog_11_method_100_code
def yX9_colours : MethodName := ⟨RX9, "colours", "(II)I"⟩
abbrev cX9_columns : ByteArray := prog_11_method_101_code
def yX9_columns : MethodName := ⟨RX9, "columns", "(I)I"⟩
abbrev cX9_below : ByteArray := prog_11_method_102_code
def yX9_below : MethodName := ⟨RX9, "below", "(IIII)I"⟩
abbrev cX9_twins : ByteArray := prog_11_method_103_code
def yX9_twins : MethodName := ⟨RX9, "twins", "(I)I"⟩
abbrev cX9_isSpan : ByteArray := prog_11_method_104_code
def yX9_isSpan : MethodName := ⟨RX9, "isSpan", "(III)Z"⟩
abbrev cX9_bornOf : ByteArray := prog_11_method_105_code
def yX9_bornOf : MethodName := ⟨RX9, "bornOf", "(I)I"⟩
abbrev cX9_births : ByteArray := prog_11_method_106_code
def yX9_births : MethodName := ⟨RX9, "births", "(III)I"⟩
abbrev cX9_endings : ByteArray := prog_11_method_107_code
def yX9_endings : MethodName := ⟨RX9, "endings", "(II)I"⟩
abbrev cX9_endingsOf : ByteArray := prog_11_method_108_code
def yX9_endingsOf : MethodName := ⟨RX9, "endingsOf", "(III)I"⟩
abbrev cX9_bornIn : ByteArray := prog_11_method_109_code
def yX9_bornIn : MethodName := ⟨RX9, "bornIn", "(IIIZ)I"⟩
abbrev cX9_lastBirth : ByteArray := prog_11_method_110_code
def yX9_lastBirth : MethodName := ⟨RX9, "lastBirth", "(I)I"⟩
abbrev cX9_bornAs : ByteArray := prog_11_method_111_code
def yX9_bornAs : MethodName := ⟨RX9, "bornAs", "(II)I"⟩
abbrev cX9_latest : ByteArray := prog_11_method_112_code
def yX9_latest : MethodName := ⟨RX9, "latest", "(II)I"⟩
abbrev cX9_next : ByteArray := prog_11_method_113_code
def yX9_next : MethodName := ⟨RX9, "next", "(II)I"⟩
abbrev cX9_lull : ByteArray := prog_11_method_114_code
def yX9_lull : MethodName := ⟨RX9, "lull", "(IIII)I"⟩
abbrev cX9_says : ByteArray := prog_11_method_115_code
def yX9_says : MethodName := ⟨RX9, "says", "(I)V"⟩
abbrev cX9_saysNumber : ByteArray := prog_11_method_116_code
def yX9_saysNumber : MethodName := ⟨RX9, "saysNumber", "(I)V"⟩
abbrev cX9_picture : ByteArray := prog_11_method_117_code
def yX9_picture : MethodName := ⟨RX9, "picture", "(I)I"⟩
abbrev cX9_layer : ByteArray := prog_11_method_118_code
def yX9_layer : MethodName := ⟨RX9, "layer", "(II)I"⟩
abbrev cX9_tell : ByteArray := prog_11_method_119_code
def yX9_tell : MethodName := ⟨RX9, "tell", "(I)I"⟩
abbrev cX9_octet : ByteArray := prog_11_method_120_code
def yX9_octet : MethodName := ⟨RX9, "octet", "(I)I"⟩
def RJx145de : String := "java/io/Serializable"
def TJx145de : u_T := fun k => match k with
  | _ => ("", "", "", false)
def tyJx145de : Nat → FieldType := fun k => match k with
  | _ => .int
abbrev wsJx145de0 : List Cond := u_ws RJx145de TJx145de 0
theorem nmJx145de : ∀ a, a < 0 → ∀ b, b < 0 → a ≠ b → (TJx145de a).2.1 ≠ (TJx145de b).2.1 := by decide +kernel
theorem tyJx145de_ok : ∀ k, k < 0 → parseFieldDescriptor (TJx145de k).2.2.1 = some (tyJx145de k) := by decide +kernel
def RJx9f9b0 : String := "java/lang/CharSequence"
def TJx9f9b0 : u_T := fun k => match k with
  | _ => ("", "", "", false)
def tyJx9f9b0 : Nat → FieldType := fun k => match k with
  | _ => .int
abbrev wsJx9f9b00 : List Cond := u_ws RJx9f9b0 TJx9f9b0 0
theorem nmJx9f9b0 : ∀ a, a < 0 → ∀ b, b < 0 → a ≠ b → (TJx9f9b0 a).2.1 ≠ (TJx9f9b0 b).2.1 := by decide +kernel
theorem tyJx9f9b0_ok : ∀ k, k < 0 → parseFieldDescriptor (TJx9f9b0 k).2.2.1 = some (tyJx9f9b0 k) := by decide +kernel
def RJx8e188 : String := "java/lang/Cloneable"
def TJx8e188 : u_T := fun k => match k with
  | _ => ("", "", "", false)
def tyJx8e188 : Nat → FieldType := fun k => match k with
  | _ => .int
abbrev wsJx8e1880 : List Cond := u_ws RJx8e188 TJx8e188 0
theorem nmJx8e188 : ∀ a, a < 0 → ∀ b, b < 0 → a ≠ b → (TJx8e188 a).2.1 ≠ (TJx8e188 b).2.1 := by decide +kernel
theorem tyJx8e188_ok : ∀ k, k < 0 → parseFieldDescriptor (TJx8e188 k).2.2.1 = some (tyJx8e188 k) := by decide +kernel
def RJxb160c : String := "java/lang/Comparable"
def TJxb160c : u_T := fun k => match k with
  | _ => ("", "", "", false)
def tyJxb160c : Nat → FieldType := fun k => match k with
  | _ => .int
abbrev wsJxb160c0 : List Cond := u_ws RJxb160c TJxb160c 0
theorem nmJxb160c : ∀ a, a < 0 → ∀ b, b < 0 → a ≠ b → (TJxb160c a).2.1 ≠ (TJxb160c b).2.1 := by decide +kernel
theorem tyJxb160c_ok : ∀ k, k < 0 → parseFieldDescriptor (TJxb160c k).2.2.1 = some (tyJxb160c k) := by decide +kernel
def RJ9 : String := "java/lang/Math"
def TJ9 : u_T := fun k => match k with
  | _ => ("", "", "", false)
def tyJ9 : Nat → FieldType := fun k => match k with
  | _ => .int
abbrev wsJ90 : List Cond := u_ws RJ9 TJ9 0
theorem nmJ9 : ∀ a, a < 0 → ∀ b, b < 0 → a ≠ b → (TJ9 a).2.1 ≠ (TJ9 b).2.1 := by decide +kernel
theorem tyJ9_ok : ∀ k, k < 0 → parseFieldDescriptor (TJ9 k).2.2.1 = some (tyJ9 k) := by decide +kernel
abbrev cJ9_floorDiv_7cf53 : ByteArray := prog_13_method_47_code
def yJ9_floorDiv_7cf53 : MethodName := ⟨RJ9, "floorDiv", "(II)I"⟩
abbrev cJ9_floorMod_7cf53 : ByteArray := prog_13_method_50_code
def yJ9_floorMod_7cf53 : MethodName := ⟨RJ9, "floorMod", "(II)I"⟩
abbrev cJ9_abs_0f7a4 : ByteArray := prog_13_method_59_code
def yJ9_abs_0f7a4 : MethodName := ⟨RJ9, "abs", "(I)I"⟩
abbrev cJ9_max_7cf53 : ByteArray := prog_13_method_65_code
def yJ9_max_7cf53 : MethodName := ⟨RJ9, "max", "(II)I"⟩
abbrev cJ9_min_7cf53 : ByteArray := prog_13_method_69_code
def yJ9_min_7cf53 : MethodName := ⟨RJ9, "min", "(II)I"⟩
def RJ0 : String := "java/lang/String"
def TJ0 : u_T := fun k => match k with
  | _ => ("", "", "", false)
def tyJ0 : Nat → FieldType := fun k => match k with
  | _ => .int
abbrev wsJ00 : List Cond := u_ws RJ0 TJ0 0
theorem nmJ0 : ∀ a, a < 0 → ∀ b, b < 0 → a ≠ b → (TJ0 a).2.1 ≠ (TJ0 b).2.1 := by decide +kernel
theorem tyJ0_ok : ∀ k, k < 0 → parseFieldDescriptor (TJ0 k).2.2.1 = some (tyJ0 k) := by decide +kernel
abbrev cJ0_length_8abf5 : ByteArray := prog_14_method_54_code
def yJ0_length_8abf5 : MethodName := ⟨RJ0, "length", "()I"⟩
abbrev cJ0_charAt_5068e : ByteArray := prog_14_method_56_code
def yJ0_charAt_5068e : MethodName := ⟨RJ0, "charAt", "(I)C"⟩
abbrev cJ0_coder_7d493 : ByteArray := prog_14_method_152_code
def yJ0_coder_7d493 : MethodName := ⟨RJ0, "coder", "()B"⟩
abbrev cJ0_isLatin1_aae02 : ByteArray := prog_14_method_154_code
def yJ0_isLatin1_aae02 : MethodName := ⟨RJ0, "isLatin1", "()Z"⟩
abbrev cJ0_checkIndex_df160 : ByteArray := prog_14_method_155_code
def yJ0_checkIndex_df160 : MethodName := ⟨RJ0, "checkIndex", "(II)V"⟩
def RJ1 : String := "java/lang/StringLatin1"
def TJ1 : u_T := fun k => match k with
  | _ => ("", "", "", false)
def tyJ1 : Nat → FieldType := fun k => match k with
  | _ => .int
abbrev wsJ10 : List Cond := u_ws RJ1 TJ1 0
theorem nmJ1 : ∀ a, a < 0 → ∀ b, b < 0 → a ≠ b → (TJ1 a).2.1 ≠ (TJ1 b).2.1 := by decide +kernel
theorem tyJ1_ok : ∀ k, k < 0 → parseFieldDescriptor (TJ1 k).2.2.1 = some (tyJ1 k) := by decide +kernel
abbrev cJ1_charAt_3b067 : ByteArray := prog_15_method_2_code
def yJ1_charAt_3b067 : MethodName := ⟨RJ1, "charAt", "([BI)C"⟩
def RJ2 : String := "java/lang/StringUTF16"
def TJ2 : u_T := fun k => match k with
  | _ => ("", "", "", false)
def tyJ2 : Nat → FieldType := fun k => match k with
  | _ => .int
abbrev wsJ20 : List Cond := u_ws RJ2 TJ2 0
theorem nmJ2 : ∀ a, a < 0 → ∀ b, b < 0 → a ≠ b → (TJ2 a).2.1 ≠ (TJ2 b).2.1 := by decide +kernel
theorem tyJ2_ok : ∀ k, k < 0 → parseFieldDescriptor (TJ2 k).2.2.1 = some (tyJ2 k) := by decide +kernel
abbrev cJ2_getChar_3b067 : ByteArray := prog_16_method_5_code
def yJ2_getChar_3b067 : MethodName := ⟨RJ2, "getChar", "([BI)C"⟩
abbrev cJ2_length_9d52b : ByteArray := prog_16_method_6_code
def yJ2_length_9d52b : MethodName := ⟨RJ2, "length", "([B)I"⟩
abbrev cJ2_charAt_3b067 : ByteArray := prog_16_method_83_code
def yJ2_charAt_3b067 : MethodName := ⟨RJ2, "charAt", "([BI)C"⟩
abbrev cJ2_checkIndex_2214a : ByteArray := prog_16_method_91_code
def yJ2_checkIndex_2214a : MethodName := ⟨RJ2, "checkIndex", "(I[B)V"⟩
def RJ10 : String := "java/lang/System"
def TJ10 : u_T := fun k => match k with
  | _ => ("", "", "", false)
def tyJ10 : Nat → FieldType := fun k => match k with
  | _ => .int
abbrev wsJ100 : List Cond := u_ws RJ10 TJ10 0
theorem nmJ10 : ∀ a, a < 0 → ∀ b, b < 0 → a ≠ b → (TJ10 a).2.1 ≠ (TJ10 b).2.1 := by decide +kernel
theorem tyJ10_ok : ∀ k, k < 0 → parseFieldDescriptor (TJ10 k).2.2.1 = some (tyJ10 k) := by decide +kernel
def RJxfd54e : String := "java/lang/constant/Constable"
def TJxfd54e : u_T := fun k => match k with
  | _ => ("", "", "", false)
def tyJxfd54e : Nat → FieldType := fun k => match k with
  | _ => .int
abbrev wsJxfd54e0 : List Cond := u_ws RJxfd54e TJxfd54e 0
theorem nmJxfd54e : ∀ a, a < 0 → ∀ b, b < 0 → a ≠ b → (TJxfd54e a).2.1 ≠ (TJxfd54e b).2.1 := by decide +kernel
theorem tyJxfd54e_ok : ∀ k, k < 0 → parseFieldDescriptor (TJxfd54e k).2.2.1 = some (tyJxfd54e k) := by decide +kernel
def RJx3cf43 : String := "java/lang/constant/ConstantDesc"
def TJx3cf43 : u_T := fun k => match k with
  | _ => ("", "", "", false)
def tyJx3cf43 : Nat → FieldType := fun k => match k with
  | _ => .int
abbrev wsJx3cf430 : List Cond := u_ws RJx3cf43 TJx3cf43 0
theorem nmJx3cf43 : ∀ a, a < 0 → ∀ b, b < 0 → a ≠ b → (TJx3cf43 a).2.1 ≠ (TJx3cf43 b).2.1 := by decide +kernel
theorem tyJx3cf43_ok : ∀ k, k < 0 → parseFieldDescriptor (TJx3cf43 k).2.2.1 = some (tyJx3cf43 k) := by decide +kernel
def RJ7 : String := "java/util/Arrays"
def TJ7 : u_T := fun k => match k with
  | _ => ("", "", "", false)
def tyJ7 : Nat → FieldType := fun k => match k with
  | _ => .int
abbrev wsJ70 : List Cond := u_ws RJ7 TJ7 0
theorem nmJ7 : ∀ a, a < 0 → ∀ b, b < 0 → a ≠ b → (TJ7 a).2.1 ≠ (TJ7 b).2.1 := by decide +kernel
theorem tyJ7_ok : ∀ k, k < 0 → parseFieldDescriptor (TJ7 k).2.2.1 = some (tyJ7 k) := by decide +kernel
abbrev cJ7_fill_53178 : ByteArray := prog_18_method_103_code
def yJ7_fill_53178 : MethodName := ⟨RJ7, "fill", "([II)V"⟩
abbrev cJ7_copyOf_59c91 : ByteArray := prog_18_method_123_code
def yJ7_copyOf_59c91 : MethodName := ⟨RJ7, "copyOf", "([II)[I"⟩
def RJ3 : String := "jdk/internal/util/Preconditions"
def TJ3 : u_T := fun k => match k with
  | _ => ("", "", "", false)
def tyJ3 : Nat → FieldType := fun k => match k with
  | _ => .int
abbrev wsJ30 : List Cond := u_ws RJ3 TJ3 0
theorem nmJ3 : ∀ a, a < 0 → ∀ b, b < 0 → a ≠ b → (TJ3 a).2.1 ≠ (TJ3 b).2.1 := by decide +kernel
theorem tyJ3_ok : ∀ k, k < 0 → parseFieldDescriptor (TJ3 k).2.2.1 = some (tyJ3 k) := by decide +kernel
abbrev cJ3_checkIndex_8e157 : ByteArray := prog_19_method_11_code
def yJ3_checkIndex_8e157 : MethodName := ⟨RJ3, "checkIndex", "(IILjava/util/function/BiFunction;)I"⟩
def RL : String := "NumberedSparksLaw"
abbrev cL_law : ByteArray := code
def yL_law : MethodName := ⟨RL, "law", "([I)Z"⟩
end
section
/-! ===== AM: an abstract memory of numbered cells, the machine's heap as its picture ===== -/
abbrev am_M : Type := Nat × Nat × (Nat → Nat × Nat) × (Nat → Nat → Int32) × (Nat → Nat → Int64) × (Nat → Nat → Option Nat)
abbrev am_R : Type := Option (Option Value × am_M)
def mNx (M : am_M) : Nat := M.1
def mUs (M : am_M) : Nat := M.2.1
def mSh (M : am_M) (a : Nat) : Nat × Nat := M.2.2.1 a
def mKd (M : am_M) (a : Nat) : Nat := if a < mNx M then (mSh M a).1 else 999
def mLn (M : am_M) (a : Nat) : Nat := (mSh M a).2
def rI (M : am_M) (a k : Nat) : Int32 := M.2.2.2.1 a k
def rL (M : am_M) (a k : Nat) : Int64 := M.2.2.2.2.1 a k
def rR (M : am_M) (a k : Nat) : Option Nat := M.2.2.2.2.2 a k
def am_up {α : Type} (f : Nat → Nat → α) (a k : Nat) (v : α) : Nat → Nat → α := fun b j => if b = a ∧ j = k then v else f b j
def wI (M : am_M) (a k : Nat) (v : Int32) : am_M := (M.1, M.2.1, M.2.2.1, am_up M.2.2.2.1 a k v, M.2.2.2.2.1, M.2.2.2.2.2)
def wL (M : am_M) (a k : Nat) (v : Int64) : am_M := (M.1, M.2.1, M.2.2.1, M.2.2.2.1, am_up M.2.2.2.2.1 a k v, M.2.2.2.2.2)
def wR (M : am_M) (a k : Nat) (v : Option Nat) : am_M := (M.1, M.2.1, M.2.2.1, M.2.2.2.1, M.2.2.2.2.1, am_up M.2.2.2.2.2 a k v)
def mkC (M : am_M) (t n : Nat) : am_M := (M.1 + 1, M.2.1 + n, fun b => if b = M.1 then (t, n) else M.2.2.1 b, fun b j => if b = M.1 then 0 else M.2.2.2.1 b j, fun b j => if b = M.1 then 0 else M.2.2.2.2.1 b j, fun b j => if b = M.1 then none else M.2.2.2.2.2 b j)
def cpI (M : am_M) (a0 sp a1 dp n : Nat) : am_M := (M.1, M.2.1, M.2.2.1, fun b => if b = a1 then va_cpy (M.2.2.2.1 a0) (M.2.2.2.1 a1) sp dp n else M.2.2.2.1 b, M.2.2.2.2.1, M.2.2.2.2.2)
/-! reading behind writing -/
theorem rI_wI (M : am_M) (a k : Nat) (v : Int32) (b j : Nat) : rI (wI M a k v) b j = if b = a ∧ j = k then v else rI M b j := rfl
theorem rL_wL (M : am_M) (a k : Nat) (v : Int64) (b j : Nat) : rL (wL M a k v) b j = if b = a ∧ j = k then v else rL M b j := rfl
theorem rR_wR (M : am_M) (a k : Nat) (v : Option Nat) (b j : Nat) : rR (wR M a k v) b j = if b = a ∧ j = k then v else rR M b j := rfl
theorem rL_wI (M : am_M) (a k : Nat) (v : Int32) (b j : Nat) : rL (wI M a k v) b j = rL M b j := rfl
theorem rR_wI (M : am_M) (a k : Nat) (v : Int32) (b j : Nat) : rR (wI M a k v) b j = rR M b j := rfl
theorem rI_wL (M : am_M) (a k : Nat) (v : Int64) (b j : Nat) : rI (wL M a k v) b j = rI M b j := rfl
theorem rR_wL (M : am_M) (a k : Nat) (v : Int64) (b j : Nat) : rR (wL M a k v) b j = rR M b j := rfl
theorem rI_wR (M : am_M) (a k : Nat) (v : Option Nat) (b j : Nat) : rI (wR M a k v) b j = rI M b j := rfl
theorem rL_wR (M : am_M) (a k : Nat) (v : Option Nat) (b j : Nat) : rL (wR M a k v) b j = rL M b j := rfl
theorem mKd_wI (M : am_M) (a k : Nat) (v : Int32) (b : Nat) : mKd (wI M a k v) b = mKd M b := rfl
theorem mKd_wL (M : am_M) (a k : Nat) (v : Int64) (b : Nat) : mKd (wL M a k v) b = mKd M b := rfl
theorem mKd_wR (M : am_M) (a k : Nat) (v : Option Nat) (b : Nat) : mKd (wR M a k v) b = mKd M b := rfl
theorem mLn_wI (M : am_M) (a k : Nat) (v : Int32) (b : Nat) : mLn (wI M a k v) b = mLn M b := rfl
theorem mLn_wL (M : am_M) (a k : Nat) (v : Int64) (b : Nat) : mLn (wL M a k v) b = mLn M b := rfl
theorem mLn_wR (M : am_M) (a k : Nat) (v : Option Nat) (b : Nat) : mLn (wR M a k v) b = mLn M b := rfl
theorem mNx_wI (M : am_M) (a k : Nat) (v : Int32) : mNx (wI M a k v) = mNx M := rfl
theorem mNx_wL (M : am_M) (a k : Nat) (v : Int64) : mNx (wL M a k v) = mNx M := rfl
theorem mNx_wR (M : am_M) (a k : Nat) (v : Option Nat) : mNx (wR M a k v) = mNx M := rfl
theorem mUs_wI (M : am_M) (a k : Nat) (v : Int32) : mUs (wI M a k v) = mUs M := rfl
theorem mUs_wL (M : am_M) (a k : Nat) (v : Int64) : mUs (wL M a k v) = mUs M := rfl
theorem mUs_wR (M : am_M) (a k : Nat) (v : Option Nat) : mUs (wR M a k v) = mUs M := rfl
theorem mNx_mkC (M : am_M) (t n : Nat) : mNx (mkC M t n) = mNx M + 1 := rfl
theorem mUs_mkC (M : am_M) (t n : Nat) : mUs (mkC M t n) = mUs M + n := rfl
theorem rI_mkC (M : am_M) (t n b j : Nat) : rI (mkC M t n) b j = if b = mNx M then 0 else rI M b j := rfl
theorem rL_mkC (M : am_M) (t n b j : Nat) : rL (mkC M t n) b j = if b = mNx M then 0 else rL M b j := rfl
theorem rR_mkC (M : am_M) (t n b j : Nat) : rR (mkC M t n) b j = if b = mNx M then none else rR M b j := rfl
theorem mLn_mkC (M : am_M) (t n b : Nat) : mLn (mkC M t n) b = if b = mNx M then n else mLn M b := by
  unfold mLn mSh mkC mNx
  by_cases h : b = M.1 <;> simp [h]
theorem mKd_mkC (M : am_M) (t n b : Nat) : mKd (mkC M t n) b = if b = mNx M then t else mKd M b := by
  unfold mKd
  rw [mNx_mkC]
  by_cases h : b = mNx M
  · subst h
    simp [mSh, mkC, mNx]
  · by_cases h2 : b < mNx M
    · rw [if_pos (by omega), if_neg h, if_pos h2]
      show (if b = M.1 then (t, n) else M.2.2.1 b).1 = (M.2.2.1 b).1
      rw [if_neg (show ¬ b = M.1 from h)]
    · rw [if_neg (by omega), if_neg h, if_neg h2]
theorem mKd_cpI (M : am_M) (a0 sp a1 dp n b : Nat) : mKd (cpI M a0 sp a1 dp n) b = mKd M b := rfl
theorem mLn_cpI (M : am_M) (a0 sp a1 dp n b : Nat) : mLn (cpI M a0 sp a1 dp n) b = mLn M b := rfl
theorem mNx_cpI (M : am_M) (a0 sp a1 dp n : Nat) : mNx (cpI M a0 sp a1 dp n) = mNx M := rfl
theorem mUs_cpI (M : am_M) (a0 sp a1 dp n : Nat) : mUs (cpI M a0 sp a1 dp n) = mUs M := rfl
theorem rL_cpI (M : am_M) (a0 sp a1 dp n b j : Nat) : rL (cpI M a0 sp a1 dp n) b j = rL M b j := rfl
theorem rR_cpI (M : am_M) (a0 sp a1 dp n b j : Nat) : rR (cpI M a0 sp a1 dp n) b j = rR M b j := rfl
theorem rI_cpI (M : am_M) (a0 sp a1 dp n b j : Nat) : rI (cpI M a0 sp a1 dp n) b j = if b = a1 ∧ dp ≤ j ∧ j < dp + n then rI M a0 (sp + (j - dp)) else rI M b j := by
  unfold rI cpI va_cpy
  by_cases h : b = a1
  · subst h
    by_cases h2 : dp ≤ j ∧ j < dp + n <;> simp [h2]
  · simp [h]
/-! the steps that a walked method is printed in -/
def nm {α β : Type} (x : α) (f : α → β) : β := f x
def fI (M : am_M) (a t k : Nat) (f : Int32 → am_R) : am_R := if mKd M a = t then f (rI M a k) else none
def fL (M : am_M) (a t k : Nat) (f : Int64 → am_R) : am_R := if mKd M a = t then f (rL M a k) else none
def fR (M : am_M) (a t k : Nat) (f : Nat → am_R) : am_R := if mKd M a = t then (match rR M a k with | some b => f b | none => none) else none
def sI (M : am_M) (a t k : Nat) (v : Int32) (f : am_M → am_R) : am_R := if mKd M a = t then f (wI M a k v) else none
def sR (M : am_M) (a t k v : Nat) (f : am_M → am_R) : am_R := if mKd M a = t then f (wR M a k (some v)) else none
def aI (M : am_M) (b : Nat) (i : Int32) (f : Int32 → am_R) : am_R := if mKd M b = 0 ∧ ¬ (i < 0 ∨ mLn M b ≤ i.toNatClampNeg) then f (rI M b i.toNatClampNeg) else none
def aL (M : am_M) (b : Nat) (i : Int32) (f : Int64 → am_R) : am_R := if mKd M b = 1 ∧ ¬ (i < 0 ∨ mLn M b ≤ i.toNatClampNeg) then f (rL M b i.toNatClampNeg) else none
def aB (M : am_M) (b : Nat) (i : Int32) (f : Int32 → am_R) : am_R := if mKd M b = 2 ∧ ¬ (i < 0 ∨ mLn M b ≤ i.toNatClampNeg) then f (rI M b i.toNatClampNeg) else none
def aR (M : am_M) (b : Nat) (i : Int32) (f : Nat → am_R) : am_R := if mKd M b = 3 ∧ ¬ (i < 0 ∨ mLn M b ≤ i.toNatClampNeg) then (match rR M b i.toNatClampNeg with | some x => f x | none => none) else none
def tI (M : am_M) (b : Nat) (i v : Int32) (f : am_M → am_R) : am_R := if mKd M b = 0 ∧ ¬ (i < 0 ∨ mLn M b ≤ i.toNatClampNeg) then f (wI M b i.toNatClampNeg v) else none
def tL (M : am_M) (b : Nat) (i : Int32) (v : Int64) (f : am_M → am_R) : am_R := if mKd M b = 1 ∧ ¬ (i < 0 ∨ mLn M b ≤ i.toNatClampNeg) then f (wL M b i.toNatClampNeg v) else none
def tB (M : am_M) (b : Nat) (i v : Int32) (f : am_M → am_R) : am_R := if mKd M b = 2 ∧ ¬ (i < 0 ∨ mLn M b ≤ i.toNatClampNeg) then f (wI M b i.toNatClampNeg v.toInt8.toInt32) else none
def tR (M : am_M) (b : Nat) (i : Int32) (t v : Nat) (f : am_M → am_R) : am_R := if mKd M b = 3 ∧ mKd M v = t ∧ ¬ (i < 0 ∨ mLn M b ≤ i.toNatClampNeg) then f (wR M b i.toNatClampNeg (some v)) else none
def aN (M : am_M) (b : Nat) (f : Int32 → am_R) : am_R := if mKd M b < 4 then f (Int32.ofNat (mLn M b)) else none
def nO (M : am_M) (t n : Nat) (f : Nat → am_M → am_R) : am_R := f (mNx M) (mkC M t n)
def nA (M : am_M) (t : Nat) (n : Int32) (f : Nat → am_M → am_R) : am_R := if ¬ n < 0 ∧ n.toNatClampNeg * 8 ≤ 536870912 then f (mNx M) (mkC M t n.toNatClampNeg) else none
def dZ (y : Int32) (r : am_R) : am_R := if y = 0 then none else r
def dZL (y : Int64) (r : am_R) : am_R := if y = 0 then none else r
def cv (M : am_M) (b t : Nat) (r : am_R) : am_R := if mKd M b = t then r else none
def bV (x : am_R) (f : am_M → am_R) : am_R := match x with
  | some (none, M) => f M
  | _ => none
def bI (x : am_R) (f : Int32 → am_M → am_R) : am_R := match x with
  | some (some (.int r), M) => f r M
  | _ => none
def bL (x : am_R) (f : Int64 → am_M → am_R) : am_R := match x with
  | some (some (.long r), M) => f r M
  | _ => none
def bR (x : am_R) (fn : am_M → am_R) (f : Nat → am_M → am_R) : am_R := match x with
  | some (some .null, M) => fn M
  | some (some (.ref b), M) => f b M
  | _ => none
/-- fuel of loops: more than any loop here needs; nothing unfolds it -/
noncomputable def fu : Nat := Classical.choose (⟨100000000, Nat.le_refl _⟩ : ∃ n : Nat, 100000000 ≤ n)
theorem fu_ge : 100000000 ≤ fu := Classical.choose_spec (⟨100000000, Nat.le_refl _⟩ : ∃ n : Nat, 100000000 ≤ n)
/-! ===== the classes, by their numbers ===== -/
abbrev am_cl : List vw_C := [(RX0, TX0, 4), (RX1, TX1, 13), (RX2, TX2, 4), (RX3, TX3, 2), (RX4, TX4, 9), (RX5, TX5, 8), (RX6, TX6, 10), (RX7, TX7, 9), (RX8, TX8, 11), (RX9, TX9, 42)]
/-- what a field holds: 0 a number of 32 bits, 1 of 64, 2 a reference -/
def am_fts : Nat → List Nat := fun c => match c with
  | 0 => [2, 2, 2, 2]
  | 1 => [2, 2, 0, 2, 2, 2, 2, 2, 2, 2, 2, 2, 0]
  | 2 => [2, 2, 2, 0]
  | 3 => [2, 0]
  | 4 => [2, 0, 0, 2, 0, 0, 0, 0, 0]
  | 5 => [2, 2, 2, 0, 0, 0, 0, 0]
  | 6 => [2, 2, 2, 0, 0, 0, 0, 0, 0, 0]
  | 7 => [2, 2, 2, 2, 2, 2, 0, 0, 0]
  | 8 => [2, 0, 2, 2, 2, 2, 2, 2, 2, 2, 2]
  | 9 => [0, 0, 2, 0, 0, 2, 0, 2, 2, 0, 0, 2, 0, 2, 2, 0, 0, 0, 0, 0, 0, 0, 0, 0, 0, 2, 2, 0, 0, 0, 2, 2, 2, 2, 0, 2, 2, 2, 2, 0, 2, 0]
  | _ => []
def am_ft (c k : Nat) : Nat := (am_fts c).getD k 0
def am_nf (c : Nat) : Nat := (am_fts c).length
end
section
/-! ===== the picture: what the machine's heap holds of a memory ===== -/
abbrev am_G : Type := Nat × va_G × (Nat → ClassId) × (Nat → Value)
def gB (G : am_G) : Nat := G.1
def gD (G : am_G) : va_G := G.2.1
def gC (G : am_G) : Nat → ClassId := G.2.2.1
def gS (G : am_G) : Nat → Value := G.2.2.2
def gA (G : am_G) : Nat → Prop := fun q => gB G ≤ q
def rv (G : am_G) : Value → Value
  | .ref n => .ref (gB G + n)
  | .retAddr k => gS G k
  | v => v
def am_fv (G : am_G) (M : am_M) (n c k : Nat) : Value := match am_ft c k with
  | 0 => .int (rI M n k)
  | 1 => .long (rL M n k)
  | _ => va_rf ((rR M n k).map (gB G + ·))
def am_fs (G : am_G) (M : am_M) (n c : Nat) : List Value := (List.range (am_nf c)).map (am_fv G M n c)
def am_cell (G : am_G) (M : am_M) (n : Nat) : va_E := match mKd M n with
  | 0 => .inl (gC G 0, mLn M n, .inl (rI M n))
  | 1 => .inl (gC G 1, mLn M n, .inr (.inl (rL M n)))
  | 2 => .inl (gC G 2, mLn M n, .inl (rI M n))
  | 3 => .inl (gC G 3, mLn M n, .inr (.inr (.inr (.inr fun j => (rR M n j).map (gB G + ·)))))
  | c + 4 => .inr (c, am_fs G M n c)
def am_wd (G : am_G) (M : am_M) : va_W := (List.range (mNx M)).map fun n => (gB G + n, am_cell G M n)
def am_Hp (G : am_G) (M : am_M) (H : Heap) : Prop := H.size = gB G + mNx M ∧ va_P (gD G) am_cl (am_wd G M) H
theorem wd_at {G : am_G} {M : am_M} {n : Nat} (h : n < mNx M) : (am_wd G M)[n]? = some (gB G + n, am_cell G M n) := by simp [am_wd, h]
theorem wd_of {G : am_G} {M : am_M} {k : Nat} {q : Nat × va_E} (h : (am_wd G M)[k]? = some q) : k < mNx M ∧ q = (gB G + k, am_cell G M k) := by
  have hk : k < mNx M := by
    have := (List.getElem?_eq_some_iff.mp h).1
    simpa [am_wd] using this
  rw [wd_at hk] at h
  exact ⟨hk, (Option.some.inj h).symm⟩
theorem wd_D (G : am_G) (M : am_M) : va_D (gA G) (am_wd G M) := by
  refine ⟨fun i j p q hi hj e => ?_, fun k q hk => ?_⟩
  · obtain ⟨-, rfl⟩ := wd_of hi
    obtain ⟨-, rfl⟩ := wd_of hj
    dsimp only at e
    omega
  · obtain ⟨-, rfl⟩ := wd_of hk
    exact Nat.le_add_right _ _
theorem kd_lt {M : am_M} {a t : Nat} (h : mKd M a = t) (ht : t ≠ 999 := by decide) : a < mNx M := by
  unfold mKd at h
  by_cases hl : a < mNx M
  · exact hl
  · rw [if_neg hl] at h
    exact absurd h.symm ht
theorem wd_set {G : am_G} {M M' : am_M} {n : Nat} {e : va_E} (hx : mNx M' = mNx M) (ho : ∀ j, j ≠ n → am_cell G M' j = am_cell G M j) (he : am_cell G M' n = e) : (am_wd G M).set n (gB G + n, e) = am_wd G M' := by
  apply List.ext_getElem?
  intro j
  rw [List.getElem?_set]
  by_cases hj : n = j
  · subst hj
    rw [if_pos rfl]
    by_cases hn : n < mNx M
    · rw [if_pos (by simpa [am_wd] using hn), wd_at (by rw [hx]; exact hn), he]
    · rw [if_neg (by simpa [am_wd] using hn)]
      exact (List.getElem?_eq_none (by simp [am_wd, hx]; omega)).symm
  · rw [if_neg hj]
    by_cases hn : j < mNx M
    · rw [wd_at hn, wd_at (by rw [hx]; exact hn), ho j (fun q => hj q.symm)]
    · rw [List.getElem?_eq_none (by simp [am_wd]; omega), List.getElem?_eq_none (by simp [am_wd, hx]; omega)]
theorem am_range_set {α : Type} {N k : Nat} {f g : Nat → α} {v : α} (hg : g k = v) (ho : ∀ j, j ≠ k → g j = f j) : ((List.range N).map f).set k v = (List.range N).map g := by
  apply List.ext_getElem?
  intro j
  rw [List.getElem?_set]
  by_cases hj : k = j
  · subst hj
    rw [if_pos rfl]
    by_cases hn : k < N
    · rw [if_pos (by simpa using hn)]
      simp [hn, hg]
    · rw [if_neg (by simpa using hn)]
      exact (List.getElem?_eq_none (by simp; omega)).symm
  · rw [if_neg hj]
    by_cases hn : j < N
    · simp [hn, ho j (fun q => hj q.symm)]
    · rw [List.getElem?_eq_none (by simp; omega), List.getElem?_eq_none (by simp; omega)]
/-! cells behind a write -/
theorem cell_obj {G : am_G} {M : am_M} {a c : Nat} (h : mKd M a = c + 4) : am_cell G M a = .inr (c, am_fs G M a c) := by
  unfold am_cell
  rw [h]
theorem cell_I {G : am_G} {M : am_M} {a : Nat} (h : mKd M a = 0) : am_cell G M a = .inl (gC G 0, mLn M a, .inl (rI M a)) := by
  unfold am_cell
  rw [h]
theorem cell_L {G : am_G} {M : am_M} {a : Nat} (h : mKd M a = 1) : am_cell G M a = .inl (gC G 1, mLn M a, .inr (.inl (rL M a))) := by
  unfold am_cell
  rw [h]
theorem cell_B {G : am_G} {M : am_M} {a : Nat} (h : mKd M a = 2) : am_cell G M a = .inl (gC G 2, mLn M a, .inl (rI M a)) := by
  unfold am_cell
  rw [h]
theorem cell_R {G : am_G} {M : am_M} {a : Nat} (h : mKd M a = 3) : am_cell G M a = .inl (gC G 3, mLn M a, .inr (.inr (.inr (.inr fun j => (rR M a j).map (gB G + ·))))) := by
  unfold am_cell
  rw [h]
theorem cell_same {G : am_G} {M M' : am_M} {j : Nat} (hk : mKd M' j = mKd M j) (hl : mLn M' j = mLn M j) (h1 : rI M' j = rI M j) (h2 : rL M' j = rL M j) (h3 : rR M' j = rR M j) : am_cell G M' j = am_cell G M j := by
  unfold am_cell am_fs am_fv
  rw [hk, hl, h1, h2, h3]
theorem rI_wI_ne {M : am_M} {a k : Nat} {v : Int32} {b : Nat} (h : b ≠ a) : rI (wI M a k v) b = rI M b := by
  funext j
  rw [rI_wI, if_neg (fun q => h q.1)]
theorem rL_wL_ne {M : am_M} {a k : Nat} {v : Int64} {b : Nat} (h : b ≠ a) : rL (wL M a k v) b = rL M b := by
  funext j
  rw [rL_wL, if_neg (fun q => h q.1)]
theorem rR_wR_ne {M : am_M} {a k : Nat} {v : Option Nat} {b : Nat} (h : b ≠ a) : rR (wR M a k v) b = rR M b := by
  funext j
  rw [rR_wR, if_neg (fun q => h q.1)]
theorem cell_wI {G : am_G} {M : am_M} {a k : Nat} {v : Int32} {j : Nat} (h : j ≠ a) : am_cell G (wI M a k v) j = am_cell G M j := cell_same rfl rfl (rI_wI_ne h) rfl rfl
theorem cell_wL {G : am_G} {M : am_M} {a k : Nat} {v : Int64} {j : Nat} (h : j ≠ a) : am_cell G (wL M a k v) j = am_cell G M j := cell_same rfl rfl rfl (rL_wL_ne h) rfl
theorem cell_wR {G : am_G} {M : am_M} {a k : Nat} {v : Option Nat} {j : Nat} (h : j ≠ a) : am_cell G (wR M a k v) j = am_cell G M j := cell_same rfl rfl rfl rfl (rR_wR_ne h)
theorem fv_I {G : am_G} {M : am_M} {n c k : Nat} (h : am_ft c k = 0) : am_fv G M n c k = .int (rI M n k) := by
  unfold am_fv
  rw [h]
  rfl
theorem fv_R {G : am_G} {M : am_M} {n c k : Nat} (h : am_ft c k = 2) : am_fv G M n c k = va_rf ((rR M n k).map (gB G + ·)) := by
  unfold am_fv
  rw [h]
  rfl
theorem fs_at {G : am_G} {M : am_M} {n c k : Nat} (h : k < am_nf c) : (am_fs G M n c)[k]? = some (am_fv G M n c k) := by simp [am_fs, h]
theorem fs_wI {G : am_G} {M : am_M} {a c k : Nat} {v : Int32} (h : am_ft c k = 0) : (am_fs G M a c).set k (.int v) = am_fs G (wI M a k v) a c := by
  refine am_range_set ?_ (fun j hj => ?_)
  · rw [fv_I h, rI_wI, if_pos ⟨rfl, rfl⟩]
  · unfold am_fv
    rw [rI_wI, if_neg (fun q => hj q.2)]
    rfl
theorem fs_wR {G : am_G} {M : am_M} {a c k b : Nat} (h : am_ft c k = 2) : (am_fs G M a c).set k (.ref (gB G + b)) = am_fs G (wR M a k (some b)) a c := by
  refine am_range_set ?_ (fun j hj => ?_)
  · rw [fv_R h, rR_wR, if_pos ⟨rfl, rfl⟩]
    rfl
  · unfold am_fv
    rw [rR_wR, if_neg (fun q => hj q.2)]
    rfl
theorem upd_wI {M : am_M} {a k : Nat} {v : Int32} : upd (rI M a) k v = rI (wI M a k v) a := by
  funext j
  rw [rI_wI]
  unfold upd
  by_cases h : j = k <;> simp [h]
theorem upd_wL {M : am_M} {a k : Nat} {v : Int64} : vp_updL (rL M a) k v = rL (wL M a k v) a := by
  funext j
  rw [rL_wL]
  unfold vp_updL
  by_cases h : j = k <;> simp [h]
theorem upd_wR {G : am_G} {M : am_M} {a k b : Nat} : va_up (fun j => (rR M a j).map (gB G + ·)) k (some (gB G + b)) = fun j => (rR (wR M a k (some b)) a j).map (gB G + ·) := by
  funext j
  rw [rR_wR]
  unfold va_up
  by_cases h : j = k <;> simp [h]
/-! a new cell -/
theorem wd_push {G : am_G} {M : am_M} {t n : Nat} : am_wd G (mkC M t n) = am_wd G M ++ [(gB G + mNx M, am_cell G (mkC M t n) (mNx M))] := by
  unfold am_wd
  rw [mNx_mkC, List.range_succ, List.map_append]
  congr 1
  refine List.map_congr_left (fun j hj => ?_)
  have hj : j < mNx M := List.mem_range.mp hj
  have hne : ¬ j = mNx M := Nat.ne_of_lt hj
  rw [cell_same (G := G) (M := M) (M' := mkC M t n) (j := j) ?_ ?_ ?_ ?_ ?_]
  · rw [mKd_mkC, if_neg hne]
  · rw [mLn_mkC, if_neg hne]
  · funext k; rw [rI_mkC, if_neg hne]
  · funext k; rw [rL_mkC, if_neg hne]
  · funext k; rw [rR_mkC, if_neg hne]
theorem am_Hp.push {G : am_G} {M : am_M} {H H1 : Heap} {t n : Nat} (h : am_Hp G M H) (hz : H1.size = H.size + 1) (ho : ∀ q : Nat, q < H.size → H1[q]? = H[q]?) (hc : va_at (gD G) am_cl (gB G + mNx M, am_cell G (mkC M t n) (mNx M)) H1) : am_Hp G (mkC M t n) H1 := by
  refine ⟨by rw [hz, h.1, mNx_mkC]; omega, ?_⟩
  rw [wd_push]
  refine va_P.app (fun k q hk => (h.2 k q hk).kept (ho _ ((h.2 k q hk).lt))) (fun k q hk => ?_)
  have hk0 : k < 1 := (List.getElem?_eq_some_iff.mp hk).1
  rw [show k = 0 by omega] at hk
  cases hk
  exact hc
/-- a cell is written: the others stay -/
theorem am_Hp.put {G : am_G} {M M' : am_M} {H H1 : Heap} {n : Nat} {e : va_E} (h : am_Hp G M H) (hx : mNx M' = mNx M) (ho : ∀ j, j ≠ n → am_cell G M' j = am_cell G M j) (he : am_cell G M' n = e) (hz : H1.size = H.size) (hP : va_P (gD G) am_cl ((am_wd G M).set n (gB G + n, e)) H1) : am_Hp G M' H1 := ⟨by rw [hz, h.1, hx], by rw [← wd_set hx ho he]; exact hP⟩
end
section
/-- the String constants: class, place in its pool, text -/
def am_str : List (String × Nat × String) := [("NumberedSparks$Reader", 80, "world"), ("NumberedSparks$Reader", 53, "seed"), ("NumberedSparks$Reader", 62, "kind"), ("NumberedSparks$Reader", 102, "life"), ("NumberedSparks$Reader", 108, "vary"), ("NumberedSparks$Reader", 114, "speed"), ("NumberedSparks$Reader", 132, "falls"), ("NumberedSparks$Reader", 120, "size"), ("NumberedSparks$Reader", 140, "bounce"), ("NumberedSparks$Reader", 142, "ends"), ("NumberedSparks$Reader", 144, "wrap"), ("NumberedSparks$Reader", 125, "childs"), ("NumberedSparks$Reader", 130, "of"), ("NumberedSparks$Reader", 67, "source"), ("NumberedSparks$Reader", 152, "at"), ("NumberedSparks$Reader", 154, "from"), ("NumberedSparks$Reader", 156, "every"), ("NumberedSparks$Reader", 158, "burst"), ("NumberedSparks$Reader", 160, "until"), ("NumberedSparks$Reader", 162, "jitter"), ("NumberedSparksModel", 201, "world"), ("NumberedSparksModel", 203, "seed"), ("NumberedSparksModel", 208, "kind"), ("NumberedSparksModel", 156, "life"), ("NumberedSparksModel", 162, "vary"), ("NumberedSparksModel", 164, "speed"), ("NumberedSparksModel", 165, "falls"), ("NumberedSparksModel", 169, "size"), ("NumberedSparksModel", 170, "wrap"), ("NumberedSparksModel", 172, "bounce"), ("NumberedSparksModel", 174, "ends"), ("NumberedSparksModel", 176, "childs"), ("NumberedSparksModel", 178, "of"), ("NumberedSparksModel", 212, "source"), ("NumberedSparksModel", 183, "at"), ("NumberedSparksModel", 184, "from"), ("NumberedSparksModel", 185, "every"), ("NumberedSparksModel", 187, "burst"), ("NumberedSparksModel", 189, "until"), ("NumberedSparksModel", 191, "jitter")]
/-- their bytes -/
def am_stx : List (List Nat) := [[119, 111, 114, 108, 100], [115, 101, 101, 100], [107, 105, 110, 100], [108, 105, 102, 101], [118, 97, 114, 121], [115, 112, 101, 101, 100], [102, 97, 108, 108, 115], [115, 105, 122, 101], [98, 111, 117, 110, 99, 101], [101, 110, 100, 115], [119, 114, 97, 112], [99, 104, 105, 108, 100, 115], [111, 102], [115, 111, 117, 114, 99, 101], [97, 116], [102, 114, 111, 109], [101, 118, 101, 114, 121], [98, 117, 114, 115, 116], [117, 110, 116, 105, 108], [106, 105, 116, 116, 101, 114], [119, 111, 114, 108, 100], [115, 101, 101, 100], [107, 105, 110, 100], [108, 105, 102, 101], [118, 97, 114, 121], [115, 112, 101, 101, 100], [102, 97, 108, 108, 115], [115, 105, 122, 101], [119, 114, 97, 112], [98, 111, 117, 110, 99, 101], [101, 110, 100, 115], [99, 104, 105, 108, 100, 115], [111, 102], [115, 111, 117, 114, 99, 101], [97, 116], [102, 114, 111, 109], [101, 118, 101, 114, 121], [98, 117, 114, 115, 116], [117, 110, 116, 105, 108], [106, 105, 116, 116, 101, 114]]
def am_sb (k j : Nat) : Int32 := nI ((am_stx.getD k []).getD j 0)
def am_sl (k : Nat) : Nat := (am_stx.getD k []).length
def am_KL : List Int32 := [1, 0, 0, -9, 1]
def am_KM : List Int32 := [40, 20, 20, 9, 9]
/-! ===== what is held of the tables, of constants and statics ===== -/
def am_nest : Cond → Bool
  | .methodLinkNest .. => true
  | _ => false
def am_gw (w : Cond) : Bool := goodWord w || am_nest w
def am_ws : List Cond := lw_tbl.filter am_gw
theorem am_in {w : Cond} (i : Nat) (h : lw_tbl[i]? = some w) (g : am_gw w = true) : w ∈ am_ws := List.mem_filter.mpr ⟨List.mem_of_getElem? h, g⟩
def am_tys (G : am_G) : List (ClassId × FieldType) := [(gC G 0, .int), (gC G 1, .long), (gC G 2, .byte), (gC G 3, .object RX6)]
/-- one String constant -/
def am_S1 (G : am_G) (U : State) (k : Nat) (own : String) (idx : Nat) (tx : String) : Prop := ∃ a v : Nat, gS G (100 + k) = .ref a ∧ gS G (200 + k) = .ref v ∧ vk_R own idx tx a U ∧ va_O "java/lang/String" a (gA G) U U.heap ∧ va_OF "java/lang/String" "coder" "B" (.int 0) a (gA G) U U.heap ∧ va_OF "java/lang/String" "value" "[B" (.ref v) a (gA G) U U.heap ∧ va_T .byte v (am_sl k) (fun j => .int (am_sb k j)) (gA G) U U.heap
def am_Sp (G : am_G) (U : State) : Prop :=
  (∀ (k : Nat) (own : String) (idx : Nat) (tx : String), am_str[k]? = some (own, idx, tx) → am_S1 G U k own idx tx) ∧
  (∃ a : Nat, gS G 2 = .ref a ∧ va_Z "NumberedSparks" "KIND_LEAST" "[I" (.ref a) (gA G) U U.heap ∧ va_T .int a 5 (fun j => .int (am_KL.getD j 0)) (gA G) U U.heap) ∧
  (∃ a : Nat, gS G 3 = .ref a ∧ va_Z "NumberedSparks" "KIND_MOST" "[I" (.ref a) (gA G) U U.heap ∧ va_T .int a 5 (fun j => .int (am_KM.getD j 0)) (gA G) U U.heap) ∧
  va_Z "java/lang/String" "COMPACT_STRINGS" "Z" (.int 1) (gA G) U U.heap ∧
  va_Z "jdk/internal/util/Preconditions" "SIOOBE_FORMATTER" "Ljava/util/function/BiFunction;" (gS G 4) (gA G) U U.heap ∧
  ∀ k, gS G k = .null ∨ ∃ a : Nat, gS G k = .ref a
def am_Tb (G : am_G) (U : State) : Prop := (∀ w ∈ am_ws, ∀ args : Array Value, w.before args U = true) ∧ va_K (gD G) am_cl (am_tys G) U ∧ va_AO RX6 U ∧ am_Sp G U
theorem am_Sp.moved {G : am_G} {s U : State} (hW : s.WarmedH U.vm) (hq : ∀ a : Nat, a < s.heap.size → ¬ gA G a → U.heap[a]? = s.heap[a]?) (h : am_Sp G s) : am_Sp G U := by
  obtain ⟨h1, ⟨a2, e2, z2, t2⟩, ⟨a3, e3, z3, t3⟩, h4, h5, h6⟩ := h
  refine ⟨fun k own idx tx hk => ?_, ⟨a2, e2, (z2.moved hW.alike).kept hq, (t2.moved hW.alike).kept hq⟩, ⟨a3, e3, (z3.moved hW.alike).kept hq, (t3.moved hW.alike).kept hq⟩, (h4.moved hW.alike).kept hq, (h5.moved hW.alike).kept hq, h6⟩
  obtain ⟨a, v, q1, q2, q3, q4, q5, q6, q7⟩ := h1 k own idx tx hk
  exact ⟨a, v, q1, q2, q3.warm hW, (q4.moved hW.alike).kept hq, (q5.moved hW.alike).kept hq, (q6.moved hW.alike).kept hq, (q7.moved hW.alike).kept hq⟩
theorem am_Tb.moved {G : am_G} {s U : State} (hW : s.WarmedH U.vm) (hq : ∀ a : Nat, a < s.heap.size → ¬ gA G a → U.heap[a]? = s.heap[a]?) (h : am_Tb G s) : am_Tb G U := by
  obtain ⟨h1, h2, h3, h4⟩ := h
  refine ⟨fun w hw args => ?_, va_K.moved hW.alike h2, h3.moved hW.alike, h4.moved hW hq⟩
  have hg : am_gw w = true := (List.mem_filter.mp hw).2
  unfold am_gw at hg
  rcases Bool.or_eq_true _ _ |>.mp hg with hg | hg
  · exact word_at hW (good_of_word hg) (h1 w hw #[])
  · cases w <;> first | exact va_Nw.use rfl (va_Nw.warmM hW (h1 _ hw #[])) | cases hg
theorem rv_cat {G : am_G} {s : State} (h : am_Tb G s) (v : Value) : (rv G v).category = v.category := by
  cases v <;> try rfl
  rename_i k
  rcases h.2.2.2.2.2.2.2.2 k with e | ⟨a, e⟩ <;> simp [rv, e, Value.category]
/-! ===== locals ===== -/
def LV (G : am_G) (nL : Nat) (ls : List Value) (lsR : Array Slot) : Prop := lsR.size = nL ∧ lv_wf lsR ∧ ∀ (i : Nat) (v : Value), ls[i]? = some v → v ≠ .retAddr 0 → lsR[i]? = some (.val (rv G v))
def am_prs (G : am_G) (ls : List Value) : List (Nat × Value) := (List.range ls.length).filterMap fun j => match ls[j]? with
  | some v => if v = .retAddr 0 then none else some (j, rv G v)
  | none => none
theorem prs_mem {G : am_G} {ls : List Value} {j : Nat} {v : Value} (h : ls[j]? = some v) (hv : v ≠ .retAddr 0) : (j, rv G v) ∈ am_prs G ls := by
  refine List.mem_filterMap.mpr ⟨j, List.mem_range.mpr (List.getElem?_eq_some_iff.mp h).1, ?_⟩
  rw [h]
  simp [hv]
theorem prs_of {G : am_G} {ls : List Value} {q : Nat × Value} (h : q ∈ am_prs G ls) : ∃ v, ls[q.1]? = some v ∧ v ≠ .retAddr 0 ∧ q.2 = rv G v := by
  obtain ⟨j, -, hj⟩ := List.mem_filterMap.mp h
  cases hl : ls[j]? with
  | none => rw [hl] at hj; cases hj
  | some v =>
    rw [hl] at hj
    by_cases hv : v = .retAddr 0
    · simp [hv] at hj
    · simp [hv] at hj
      subst hj
      exact ⟨v, hl, hv, rfl⟩
theorem LV.has {G : am_G} {nL : Nat} {ls : List Value} {lsR : Array Slot} (h : LV G nL ls lsR) : lv_has lsR nL (am_prs G ls) := ⟨h.1, h.2.1, fun q hq => by
  obtain ⟨v, h1, h2, h3⟩ := prs_of hq
  rw [h3]
  exact h.2.2 _ _ h1 h2⟩
theorem LV.at {G : am_G} {nL : Nat} {ls : List Value} {lsR : Array Slot} (h : LV G nL ls lsR) {i : Nat} {v : Value} (hi : ls[i]? = some v) (hv : v ≠ .retAddr 0) : lsR[i]? = some (.val (rv G v)) := h.2.2 i v hi hv
def am_clr (ls : List Value) (i : Nat) : List Value := match i with
  | 0 => ls
  | j + 1 => match ls[j]? with
    | some (.long _) => ls.set j (.retAddr 0)
    | some (.double _) => ls.set j (.retAddr 0)
    | _ => ls
def st1 (ls : List Value) (i : Nat) (v : Value) : List Value := (am_clr ls i).set i v
def st2 (ls : List Value) (i : Nat) (v : Value) : List Value := ((am_clr ls i).set i v).set (i + 1) (.retAddr 0)
theorem clr_of {ls : List Value} {i j : Nat} {v : Value} (h : (am_clr ls i)[j]? = some v) (hv : v ≠ .retAddr 0) : ls[j]? = some v ∧ ¬ (j + 1 = i ∧ v.category = 2) := by
  unfold am_clr at h
  split at h
  · exact ⟨h, fun q => by omega⟩
  · rename_i m
    split at h
    · rw [List.getElem?_set] at h
      split at h
      · split at h
        · exact absurd (Option.some.inj h).symm hv
        · cases h
      · rename_i hne
        exact ⟨h, fun q => hne (by omega)⟩
    · rw [List.getElem?_set] at h
      split at h
      · split at h
        · exact absurd (Option.some.inj h).symm hv
        · cases h
      · rename_i hne
        exact ⟨h, fun q => hne (by omega)⟩
    · rename_i h1 h2
      refine ⟨h, fun q => ?_⟩
      have hj : j = m := by omega
      subst hj
      cases v <;> simp [Value.category] at q
      · exact h1 _ h
      · exact h2 _ h
theorem LV.put1 {G : am_G} {s : State} (hT : am_Tb G s) {nL : Nat} {ls : List Value} {lsR lsR' : Array Slot} {i : Nat} {v : Value} (hh : lv_has lsR' nL ((i, rv G v) :: (am_prs G ls).filter (fun q => !(q.1 == i) && !(q.1 + 1 == i && q.2.category == 2)))) : LV G nL (st1 ls i v) lsR' := by
  refine ⟨hh.1, hh.2.1, fun j w hj hw => ?_⟩
  unfold st1 at hj
  rw [List.getElem?_set] at hj
  split at hj
  · split at hj
    · rename_i h1 h2
      subst h1
      cases hj
      exact hh.2.2 (i, rv G v) List.mem_cons_self
    · cases hj
  · rename_i hne
    obtain ⟨h1, h2⟩ := clr_of hj hw
    refine hh.2.2 (j, rv G w) (List.mem_cons_of_mem _ (List.mem_filter.mpr ⟨prs_mem h1 hw, ?_⟩))
    have hji : ¬ j = i := fun q => hne q.symm
    simp only [rv_cat hT]
    simp [hji]
    exact Classical.not_and_iff_not_or_not.mp h2
theorem LV.put2 {G : am_G} {s : State} (hT : am_Tb G s) {nL : Nat} {ls : List Value} {lsR lsR' : Array Slot} {i : Nat} {v : Value} (hh : lv_has lsR' nL ((i, rv G v) :: (am_prs G ls).filter (fun q => !(q.1 == i) && (!(q.1 == i + 1) && !(q.1 + 1 == i && q.2.category == 2))))) : LV G nL (st2 ls i v) lsR' := by
  refine ⟨hh.1, hh.2.1, fun j w hj hw => ?_⟩
  unfold st2 at hj
  rw [List.getElem?_set] at hj
  split at hj
  · split at hj
    · exact absurd (Option.some.inj hj).symm hw
    · cases hj
  · rename_i hne2
    rw [List.getElem?_set] at hj
    split at hj
    · split at hj
      · rename_i h1 h2
        subst h1
        cases hj
        exact hh.2.2 (i, rv G v) List.mem_cons_self
      · cases hj
    · rename_i hne
      obtain ⟨h1, h2⟩ := clr_of hj hw
      refine hh.2.2 (j, rv G w) (List.mem_cons_of_mem _ (List.mem_filter.mpr ⟨prs_mem h1 hw, ?_⟩))
      have hji : ¬ j = i := fun q => hne q.symm
      have hji2 : ¬ j = i + 1 := fun q => hne2 q.symm
      simp only [rv_cat hT]
      simp [hji, hji2]
      exact Classical.not_and_iff_not_or_not.mp h2
/-- fewer locals known -/
def msk : List Bool → List Value → List Value
  | b :: bs, v :: vs => (if b then v else .retAddr 0) :: msk bs vs
  | _, _ => []
theorem msk_of : ∀ {bs : List Bool} {ls : List Value} {i : Nat} {v : Value}, (msk bs ls)[i]? = some v → v ≠ .retAddr 0 → ls[i]? = some v
  | [], ls, i, v, h, _ => by simp [msk] at h
  | b :: bs, [], i, v, h, _ => by simp [msk] at h
  | b :: bs, x :: vs, 0, v, h, hv => by
    cases b
    · simp [msk] at h
      exact absurd h.symm hv
    · simpa [msk] using h
  | b :: bs, x :: vs, i + 1, v, h, hv => by
    simp [msk] at h ⊢
    exact msk_of h hv
theorem LV.msk {G : am_G} {nL : Nat} {ls : List Value} {lsR : Array Slot} (bs : List Bool) (h : LV G nL ls lsR) : LV G nL (msk bs ls) lsR := ⟨h.1, h.2.1, fun i v hi hv => h.2.2 i v (msk_of hi hv) hv⟩
def am_ini1 : List Value → List Value
  | [] => []
  | v :: vs => if v.category = 2 then v :: .retAddr 0 :: am_ini1 vs else v :: am_ini1 vs
def am_ini (n : Nat) (vs : List Value) : List Value := am_ini1 vs ++ List.replicate (n - (am_ini1 vs).length) (.retAddr 0)
theorem ini_sl {G : am_G} {s : State} (hT : am_Tb G s) : ∀ (vs : List Value) (i : Nat) (v : Value), (am_ini1 vs)[i]? = some v → v ≠ .retAddr 0 → (lg_sl (vs.map (rv G)))[i]? = some (.val (rv G v))
  | [], i, v, h, _ => by simp [am_ini1] at h
  | w :: vs, i, v, h, hv => by
    unfold am_ini1 at h
    have hc : (rv G w).category = w.category := rv_cat hT w
    have e : lg_sl ((w :: vs).map (rv G)) = (if w.category = 2 then [.val (rv G w), .second] else [.val (rv G w)]) ++ lg_sl (vs.map (rv G)) := by
      simp [lg_sl, hc]
    rw [e]
    by_cases h2 : w.category = 2
    · rw [if_pos h2] at h ⊢
      match i, h with
      | 0, h => simp at h; subst h; rfl
      | 1, h => simp at h; exact absurd h.symm hv
      | j + 2, h =>
        simp at h
        simpa using ini_sl hT vs j v h hv
    · rw [if_neg h2] at h ⊢
      match i, h with
      | 0, h => simp at h; subst h; rfl
      | j + 1, h =>
        simp at h
        simpa using ini_sl hT vs j v h hv
theorem LV.ini {G : am_G} {s : State} (hT : am_Tb G s) {n : Nat} {vs : List Value} (hn : (lg_sl (vs.map (rv G))).length ≤ n) : LV G n (am_ini n vs) ((lg_sl (vs.map (rv G)) ++ List.replicate (n - (lg_sl (vs.map (rv G))).length) Slot.unset).toArray) := by
  have hl := lv_entry (vs.map (rv G)) hn
  refine ⟨hl.1, hl.2.1, fun i v hi hv => ?_⟩
  unfold am_ini at hi
  rw [List.getElem?_append] at hi
  split at hi
  · have h1 := ini_sl hT vs i v hi hv
    rw [List.getElem?_toArray, List.getElem?_append_left (List.getElem?_eq_some_iff.mp h1).1]
    exact h1
  · rw [List.getElem?_replicate] at hi
    split at hi
    · exact absurd (Option.some.inj hi).symm hv
    · cases hi
theorem sl_len {G : am_G} {s : State} (hT : am_Tb G s) : ∀ vs : List Value, (lg_sl (vs.map (rv G))).length = (vs.map Value.category).sum
  | [] => rfl
  | w :: vs => by
    have hc : (rv G w).category = w.category := rv_cat hT w
    have e : lg_sl ((w :: vs).map (rv G)) = (if w.category = 2 then [.val (rv G w), .second] else [.val (rv G w)]) ++ lg_sl (vs.map (rv G)) := by
      simp [lg_sl, hc]
    rw [e, List.length_append, sl_len hT vs, List.map_cons, List.sum_cons]
    rcases lv_cat w with h | h <;> simp [h]
end
section
/-! ===== the judgement: a walked method, as a value ===== -/
/-- a method: its class, its bytes, its locals, what it returns, its name, how many frames it may nest -/
abbrev am_X : Type := String × ByteArray × Nat × Option FieldType × String × Nat
def xO (X : am_X) : String := X.1
def xC (X : am_X) : ByteArray := X.2.1
def xL (X : am_X) : Nat := X.2.2.1
def xT (X : am_X) : Option FieldType := X.2.2.2.1
def xN (X : am_X) : String := X.2.2.2.2.1
def xD (X : am_X) : Nat := X.2.2.2.2.2
def am_Q (G : am_G) (v : Option Value) (M' : am_M) : Array Value → State → Outcome → State → Prop := fun _ st oc t => oc = .returned (v.map (rv G)) ∧ am_Hp G M' t.heap ∧ va_F (gA G) st t
def am_C (G : am_G) (X : am_X) (p : Program) (R : Room) (s : State) (m : MethodId) (meth : Method) (c : Code) : Prop :=
  p.tables.exec = Jvm.exec ∧ c.code = xC X ∧ c.maxLocals = xL X ∧ meth.sig.returnType = xT X ∧ meth.locks = false ∧ meth.name = xN X ∧ s.vm.findClass (xO X) = some m.cls ∧ xD X ≤ R.frames ∧ 37 * xD X ≤ R.locals ∧ gB G ≤ s.heap.size ∧ am_Tb G s
def Rf (G : am_G) (l : Launch) (X : am_X) (pc : Nat) (ls st : List Value) (M : am_M) (o : am_R) : Prop :=
  ∀ (v : Option Value) (M' : am_M), o = some (v, M') → (mNx M ≤ mNx M' ∧ mUs M ≤ mUs M') ∧
    ∀ (p : Program) (e : Env) (R : Room) (s : State) (m : MethodId) (args : Array Value) (below : List Frame) (meth : Method) (c : Code) (n0 u0 cells slots : Nat) (H : Heap) (locs : List Loc) (lsR : Array Slot),
      am_C G X p R s m meth c → mNx M' ≤ n0 + R.cells → mUs M' ≤ u0 + R.slots → n0 + cells = mNx M → u0 + slots = mUs M → am_Hp G M H → va_S (gA G) s.heap H locs → LV G (xL X) ls lsR →
      W p l e R s m args below meth c H locs cells slots (MQ below (am_Q G v M') args s R.cells R.slots (gA G)) (F0 m pc lsR (st.map (rv G)))
/-- a contract: the method, called with these values over this memory, answers as 'o' says -/
def Ct (G : am_G) (l : Launch) (y : MethodName) (X : am_X) (as : List Value) (M : am_M) (o : am_R) : Prop :=
  ∀ (v : Option Value) (M' : am_M), o = some (v, M') → (mNx M ≤ mNx M' ∧ mUs M ≤ mUs M') ∧
    Met l y [.code y (xC X) (xL X) (xT X)] { frames := xD X, cells := mNx M' - mNx M, slots := mUs M' - mUs M, locals := 37 * xD X } (va_Pc (as.map (rv G)) (fun U => am_Hp G M U.heap ∧ am_Tb G U)) (am_Q G v M') (mNx M' - mNx M) (mUs M' - mUs M) (gA G)
section RfRows
variable {G : am_G} {l : Launch} {X : am_X} {pc : Nat} {ls st : List Value} {M : am_M} {o : am_R}
theorem Rf.no : Rf G l X pc ls st M none := fun v M' h => by cases h
theorem Rf.nm {α : Type} {x : α} {f : α → am_R} (k : ∀ x, Rf G l X pc ls st M (f x)) : Rf G l X pc ls st M (nm x f) := k x
theorem Rf.msk (bs : List Bool) (k : Rf G l X pc (msk bs ls) st M o) : Rf G l X pc ls st M o := by
  intro v M' ho
  obtain ⟨hm, k⟩ := k v M' ho
  exact ⟨hm, fun p e R s m args below meth c n0 u0 cells slots H locs lsR hC h1 h2 h3 h4 hH hS hL => k p e R s m args below meth c n0 u0 cells slots H locs lsR hC h1 h2 h3 h4 hH hS (hL.msk bs)⟩
theorem Rf.ite {c : Prop} [Decidable c] {A B : am_R} (ka : c → Rf G l X pc ls st M A) (kb : ¬ c → Rf G l X pc ls st M B) : Rf G l X pc ls st M (if c then A else B) := by
  by_cases h : c
  · rw [if_pos h]; exact ka h
  · rw [if_neg h]; exact kb h
/-- a step that moves nothing but the frame -/
theorem Rf.go {pc' : Nat} {st' : List Value}
    (h : ∀ (p : Program) (e : Env) (R : Room) (s : State) (m : MethodId) (args : Array Value) (below : List Frame) (meth : Method) (c : Code) (cells slots : Nat) (H : Heap) (locs : List Loc) (lsR : Array Slot) (Q : State → Prop), am_C G X p R s m meth c → LV G (xL X) ls lsR → W p l e R s m args below meth c H locs cells slots Q (F0 m pc' lsR (st'.map (rv G))) → W p l e R s m args below meth c H locs cells slots Q (F0 m pc lsR (st.map (rv G))))
    (k : Rf G l X pc' ls st' M o) : Rf G l X pc ls st M o := by
  intro v M' ho
  obtain ⟨hm, k⟩ := k v M' ho
  exact ⟨hm, fun p e R s m args below meth c n0 u0 cells slots H locs lsR hC h1 h2 h3 h4 hH hS hL => h p e R s m args below meth c cells slots H locs lsR _ hC hL (k p e R s m args below meth c n0 u0 cells slots H locs lsR hC h1 h2 h3 h4 hH hS hL)⟩
/-- a step that moves the locals -/
theorem Rf.gol {pc' : Nat} {ls' st' : List Value}
    (h : ∀ (p : Program) (e : Env) (R : Room) (s : State) (m : MethodId) (args : Array Value) (below : List Frame) (meth : Method) (c : Code) (cells slots : Nat) (H : Heap) (locs : List Loc) (lsR : Array Slot) (Q : State → Prop), am_C G X p R s m meth c → LV G (xL X) ls lsR → (∀ lsR', LV G (xL X) ls' lsR' → W p l e R s m args below meth c H locs cells slots Q (F0 m pc' lsR' (st'.map (rv G)))) → W p l e R s m args below meth c H locs cells slots Q (F0 m pc lsR (st.map (rv G))))
    (k : Rf G l X pc' ls' st' M o) : Rf G l X pc ls st M o := by
  intro v M' ho
  obtain ⟨hm, k⟩ := k v M' ho
  exact ⟨hm, fun p e R s m args below meth c n0 u0 cells slots H locs lsR hC h1 h2 h3 h4 hH hS hL => h p e R s m args below meth c cells slots H locs lsR _ hC hL (fun lsR' hL' => k p e R s m args below meth c n0 u0 cells slots H locs lsR' hC h1 h2 h3 h4 hH hS hL')⟩
variable {x y : Int32} {xl yl : Int64} {i : Nat}
theorem r_iconst {n : Int} (hd : decode (xC X) pc = .ok (.iconst n, 1)) (v : Int32) (hv : Int32.ofInt n = v) (k : Rf G l X (pc + 1) ls (.int v :: st) M o) : Rf G l X pc ls st M o := Rf.go (fun p e R s m args below meth c cells slots H locs lsR Q hC hL k => lv_iconst hC.1 hC.2.1 hd hv k) k
theorem r_bipush {n : Int} (hd : decode (xC X) pc = .ok (.bipush n, 2)) (v : Int32) (hv : (Int8.ofInt n).toInt32 = v) (k : Rf G l X (pc + 2) ls (.int v :: st) M o) : Rf G l X pc ls st M o := Rf.go (fun p e R s m args below meth c cells slots H locs lsR Q hC hL k => lv_bipush hC.1 hC.2.1 hd hv k) k
theorem r_sipush {n : Int} (hd : decode (xC X) pc = .ok (.sipush n, 3)) (v : Int32) (hv : (Int16.ofInt n).toInt32 = v) (k : Rf G l X (pc + 3) ls (.int v :: st) M o) : Rf G l X pc ls st M o := Rf.go (fun p e R s m args below meth c cells slots H locs lsR Q hC hL k => lv_sipush hC.1 hC.2.1 hd hv k) k
theorem r_lconst {n : Fin 2} (hd : decode (xC X) pc = .ok (.lconst n, 1)) (v : Int64) (hv : Int64.ofNat (n : Nat) = v) (k : Rf G l X (pc + 1) ls (.long v :: st) M o) : Rf G l X pc ls st M o := Rf.go (fun p e R s m args below meth c cells slots H locs lsR Q hC hL k => lv_lconst hC.1 hC.2.1 hd hv k) k
theorem r_null (hd : decode (xC X) pc = .ok (.aconst_null, 1)) (k : Rf G l X (pc + 1) ls (.null :: st) M o) : Rf G l X pc ls st M o := Rf.go (fun p e R s m args below meth c cells slots H locs lsR Q hC hL k => lv_null hC.1 hC.2.1 hd k) k
theorem r_ldc {idx : Nat} (hd : decode (xC X) pc = .ok (.ldc idx, 2)) (v : Int32) (hw : Cond.constant (xO X) idx v ∈ am_ws) (k : Rf G l X (pc + 2) ls (.int v :: st) M o) : Rf G l X pc ls st M o := Rf.go (fun p e R s m args below meth c cells slots H locs lsR Q hC hL k => lv_ldc hC.1 hC.2.1 hC.2.2.2.2.2.2.1 (hC.2.2.2.2.2.2.2.2.2.2.1 _ hw _) hd k) k
theorem r_ldc2 {idx : Nat} (hd : decode (xC X) pc = .ok (.ldc2_w idx, 3)) (v : Int64) (hw : Cond.constantLong (xO X) idx v ∈ am_ws) (k : Rf G l X (pc + 3) ls (.long v :: st) M o) : Rf G l X pc ls st M o := Rf.go (fun p e R s m args below meth c cells slots H locs lsR Q hC hL k => lv_ldc2 hC.1 hC.2.1 hC.2.2.2.2.2.2.1 (hC.2.2.2.2.2.2.2.2.2.2.1 _ hw _) hd k) k
theorem r_iload (hd : decode (xC X) pc = .ok (.iload i, 2)) (hl : ls[i]? = some (.int x)) (k : Rf G l X (pc + 2) ls (.int x :: st) M o) : Rf G l X pc ls st M o := Rf.go (fun p e R s m args below meth c cells slots H locs lsR Q hC hL k => lv_iload hC.1 hC.2.1 hd (hL.at hl (fun h => by cases h)) k) k
theorem r_iload_n {j : Fin 4} (hd : decode (xC X) pc = .ok (.iload_n j, 1)) (hl : ls[(j : Nat)]? = some (.int x)) (k : Rf G l X (pc + 1) ls (.int x :: st) M o) : Rf G l X pc ls st M o := Rf.go (fun p e R s m args below meth c cells slots H locs lsR Q hC hL k => lv_iload_n hC.1 hC.2.1 hd rfl (hL.at hl (fun h => by cases h)) k) k
theorem r_lload (hd : decode (xC X) pc = .ok (.lload i, 2)) (hl : ls[i]? = some (.long xl)) (k : Rf G l X (pc + 2) ls (.long xl :: st) M o) : Rf G l X pc ls st M o := Rf.go (fun p e R s m args below meth c cells slots H locs lsR Q hC hL k => lv_lload hC.1 hC.2.1 hd (hL.at hl (fun h => by cases h)) k) k
theorem r_lload_n {j : Fin 4} (hd : decode (xC X) pc = .ok (.lload_n j, 1)) (hl : ls[(j : Nat)]? = some (.long xl)) (k : Rf G l X (pc + 1) ls (.long xl :: st) M o) : Rf G l X pc ls st M o := Rf.go (fun p e R s m args below meth c cells slots H locs lsR Q hC hL k => lv_lload_n hC.1 hC.2.1 hd rfl (hL.at hl (fun h => by cases h)) k) k
theorem r_aload {a : Nat} (hd : decode (xC X) pc = .ok (.aload i, 2)) (hl : ls[i]? = some (.ref a)) (k : Rf G l X (pc + 2) ls (.ref a :: st) M o) : Rf G l X pc ls st M o := Rf.go (fun p e R s m args below meth c cells slots H locs lsR Q hC hL k => lv_aload hC.1 hC.2.1 hd (hL.at hl (fun h => by cases h)) k) k
theorem r_aload_n {a : Nat} {j : Fin 4} (hd : decode (xC X) pc = .ok (.aload_n j, 1)) (hl : ls[(j : Nat)]? = some (.ref a)) (k : Rf G l X (pc + 1) ls (.ref a :: st) M o) : Rf G l X pc ls st M o := Rf.go (fun p e R s m args below meth c cells slots H locs lsR Q hC hL k => lv_aload_n hC.1 hC.2.1 hd rfl (hL.at hl (fun h => by cases h)) k) k
theorem r_aload_N {j : Fin 4} (hd : decode (xC X) pc = .ok (.aload_n j, 1)) (hl : ls[(j : Nat)]? = some .null) (k : Rf G l X (pc + 1) ls (.null :: st) M o) : Rf G l X pc ls st M o := Rf.go (fun p e R s m args below meth c cells slots H locs lsR Q hC hL k => lv_aload_nN hC.1 hC.2.1 hd rfl (hL.at hl (fun h => by cases h)) k) k
theorem r_aloadN (hd : decode (xC X) pc = .ok (.aload i, 2)) (hl : ls[i]? = some .null) (k : Rf G l X (pc + 2) ls (.null :: st) M o) : Rf G l X pc ls st M o := Rf.go (fun p e R s m args below meth c cells slots H locs lsR Q hC hL k => lv_aloadN hC.1 hC.2.1 hd (hL.at hl (fun h => by cases h)) k) k
theorem r_aload_s {a : Nat} {j : Fin 4} (hd : decode (xC X) pc = .ok (.aload_n j, 1)) (hl : ls[(j : Nat)]? = some (.retAddr a)) (ha : a ≠ 0) (k : Rf G l X (pc + 1) ls (.retAddr a :: st) M o) : Rf G l X pc ls st M o := Rf.go (fun p e R s m args below meth c cells slots H locs lsR Q hC hL k => by
  have h1 := hL.at hl (fun h => by cases h; exact ha rfl)
  have h2 : rv G (.retAddr a) = gS G a := rfl
  rw [h2] at h1
  rw [List.map_cons, h2] at k
  rcases hC.2.2.2.2.2.2.2.2.2.2.2.2.2.2.2.2.2.2 a with q | ⟨b, q⟩
  · rw [q] at h1 k
    exact lv_aload_nN hC.1 hC.2.1 hd rfl h1 k
  · rw [q] at h1 k
    exact lv_aload_n hC.1 hC.2.1 hd rfl h1 k) k
theorem r_istore {ls' : List Value} (hd : decode (xC X) pc = .ok (.istore i, 2)) (hi : i < xL X) (hs : st1 ls i (.int x) = ls') (k : Rf G l X (pc + 2) ls' st M o) : Rf G l X pc ls (.int x :: st) M o := Rf.gol (fun p e R s m args below meth c cells slots H locs lsR Q hC hL k => lv_istore hC.1 hC.2.1 hd hL.has hi rfl (fun lsR' h => k lsR' (hs ▸ LV.put1 (lsR := lsR) hC.2.2.2.2.2.2.2.2.2.2 h))) k
theorem r_istore_n {ls' : List Value} {j : Fin 4} (hd : decode (xC X) pc = .ok (.istore_n j, 1)) (hi : (j : Nat) < xL X) (hs : st1 ls j (.int x) = ls') (k : Rf G l X (pc + 1) ls' st M o) : Rf G l X pc ls (.int x :: st) M o := Rf.gol (fun p e R s m args below meth c cells slots H locs lsR Q hC hL k => lv_istore_n hC.1 hC.2.1 hd rfl hL.has hi rfl (fun lsR' h => k lsR' (hs ▸ LV.put1 (lsR := lsR) hC.2.2.2.2.2.2.2.2.2.2 h))) k
theorem r_lstore {ls' : List Value} (hd : decode (xC X) pc = .ok (.lstore i, 2)) (hi : i + 1 < xL X) (hs : st2 ls i (.long xl) = ls') (k : Rf G l X (pc + 2) ls' st M o) : Rf G l X pc ls (.long xl :: st) M o := Rf.gol (fun p e R s m args below meth c cells slots H locs lsR Q hC hL k => lv_lstore hC.1 hC.2.1 hd hL.has hi rfl (fun lsR' h => k lsR' (hs ▸ LV.put2 (lsR := lsR) hC.2.2.2.2.2.2.2.2.2.2 h))) k
theorem r_lstore_n {ls' : List Value} {j : Fin 4} (hd : decode (xC X) pc = .ok (.lstore_n j, 1)) (hi : (j : Nat) + 1 < xL X) (hs : st2 ls j (.long xl) = ls') (k : Rf G l X (pc + 1) ls' st M o) : Rf G l X pc ls (.long xl :: st) M o := Rf.gol (fun p e R s m args below meth c cells slots H locs lsR Q hC hL k => lv_lstore_n hC.1 hC.2.1 hd rfl hL.has hi rfl (fun lsR' h => k lsR' (hs ▸ LV.put2 (lsR := lsR) hC.2.2.2.2.2.2.2.2.2.2 h))) k
theorem r_astore {ls' : List Value} {a : Nat} (hd : decode (xC X) pc = .ok (.astore i, 2)) (hi : i < xL X) (hs : st1 ls i (.ref a) = ls') (k : Rf G l X (pc + 2) ls' st M o) : Rf G l X pc ls (.ref a :: st) M o := Rf.gol (fun p e R s m args below meth c cells slots H locs lsR Q hC hL k => lv_astore hC.1 hC.2.1 hd hL.has hi rfl (fun lsR' h => k lsR' (hs ▸ LV.put1 (lsR := lsR) hC.2.2.2.2.2.2.2.2.2.2 h))) k
theorem r_astore_n {ls' : List Value} {a : Nat} {j : Fin 4} (hd : decode (xC X) pc = .ok (.astore_n j, 1)) (hi : (j : Nat) < xL X) (hs : st1 ls j (.ref a) = ls') (k : Rf G l X (pc + 1) ls' st M o) : Rf G l X pc ls (.ref a :: st) M o := Rf.gol (fun p e R s m args below meth c cells slots H locs lsR Q hC hL k => lv_astore_n hC.1 hC.2.1 hd rfl hL.has hi rfl (fun lsR' h => k lsR' (hs ▸ LV.put1 (lsR := lsR) hC.2.2.2.2.2.2.2.2.2.2 h))) k
theorem r_astoreN {ls' : List Value} (hd : decode (xC X) pc = .ok (.astore i, 2)) (hi : i < xL X) (hs : st1 ls i .null = ls') (k : Rf G l X (pc + 2) ls' st M o) : Rf G l X pc ls (.null :: st) M o := Rf.gol (fun p e R s m args below meth c cells slots H locs lsR Q hC hL k => lv_astoreN hC.1 hC.2.1 hd hL.has hi rfl (fun lsR' h => k lsR' (hs ▸ LV.put1 (lsR := lsR) hC.2.2.2.2.2.2.2.2.2.2 h))) k
theorem r_astore_N {ls' : List Value} {j : Fin 4} (hd : decode (xC X) pc = .ok (.astore_n j, 1)) (hi : (j : Nat) < xL X) (hs : st1 ls j .null = ls') (k : Rf G l X (pc + 1) ls' st M o) : Rf G l X pc ls (.null :: st) M o := Rf.gol (fun p e R s m args below meth c cells slots H locs lsR Q hC hL k => lv_astore_nN hC.1 hC.2.1 hd rfl hL.has hi rfl (fun lsR' h => k lsR' (hs ▸ LV.put1 (lsR := lsR) hC.2.2.2.2.2.2.2.2.2.2 h))) k
theorem r_iinc {ls' : List Value} {n : Int} (hd : decode (xC X) pc = .ok (.iinc i n, 3)) (hi : i < xL X) (hl : ls[i]? = some (.int x)) (hv : x + Int32.ofInt n = y) (hs : st1 ls i (.int y) = ls') (k : Rf G l X (pc + 3) ls' st M o) : Rf G l X pc ls st M o := Rf.gol (fun p e R s m args below meth c cells slots H locs lsR Q hC hL k => by
  obtain ⟨q, hq⟩ := List.getElem?_of_mem (prs_mem (G := G) hl (fun h => by cases h))
  exact lv_iinc hC.1 hC.2.1 hd hL.has (k := q) hq hv hi rfl (fun lsR' h => k lsR' (hs ▸ LV.put1 (lsR := lsR) (v := .int y) hC.2.2.2.2.2.2.2.2.2.2 h))) k
theorem r_iadd (hd : decode (xC X) pc = .ok (.iadd, 1)) (k : Rf G l X (pc + 1) ls (.int (x + y) :: st) M o) : Rf G l X pc ls (.int y :: .int x :: st) M o := Rf.go (fun p e R s m args below meth c cells slots H locs lsR Q hC hL k => lv_iadd hC.1 hC.2.1 hd k) k
theorem r_isub (hd : decode (xC X) pc = .ok (.isub, 1)) (k : Rf G l X (pc + 1) ls (.int (x - y) :: st) M o) : Rf G l X pc ls (.int y :: .int x :: st) M o := Rf.go (fun p e R s m args below meth c cells slots H locs lsR Q hC hL k => lv_isub hC.1 hC.2.1 hd k) k
theorem r_imul (hd : decode (xC X) pc = .ok (.imul, 1)) (k : Rf G l X (pc + 1) ls (.int (x * y) :: st) M o) : Rf G l X pc ls (.int y :: .int x :: st) M o := Rf.go (fun p e R s m args below meth c cells slots H locs lsR Q hC hL k => lv_imul hC.1 hC.2.1 hd k) k
theorem r_iand (hd : decode (xC X) pc = .ok (.iand, 1)) (k : Rf G l X (pc + 1) ls (.int (x &&& y) :: st) M o) : Rf G l X pc ls (.int y :: .int x :: st) M o := Rf.go (fun p e R s m args below meth c cells slots H locs lsR Q hC hL k => lv_iand hC.1 hC.2.1 hd k) k
theorem r_ior (hd : decode (xC X) pc = .ok (.ior, 1)) (k : Rf G l X (pc + 1) ls (.int (x ||| y) :: st) M o) : Rf G l X pc ls (.int y :: .int x :: st) M o := Rf.go (fun p e R s m args below meth c cells slots H locs lsR Q hC hL k => lv_ior hC.1 hC.2.1 hd k) k
theorem r_ixor (hd : decode (xC X) pc = .ok (.ixor, 1)) (k : Rf G l X (pc + 1) ls (.int (x ^^^ y) :: st) M o) : Rf G l X pc ls (.int y :: .int x :: st) M o := Rf.go (fun p e R s m args below meth c cells slots H locs lsR Q hC hL k => lv_ixor hC.1 hC.2.1 hd k) k
theorem r_ishl (hd : decode (xC X) pc = .ok (.ishl, 1)) (k : Rf G l X (pc + 1) ls (.int (x <<< (y &&& 31)) :: st) M o) : Rf G l X pc ls (.int y :: .int x :: st) M o := Rf.go (fun p e R s m args below meth c cells slots H locs lsR Q hC hL k => lv_ishl hC.1 hC.2.1 hd k) k
theorem r_ishr (hd : decode (xC X) pc = .ok (.ishr, 1)) (k : Rf G l X (pc + 1) ls (.int (x >>> (y &&& 31)) :: st) M o) : Rf G l X pc ls (.int y :: .int x :: st) M o := Rf.go (fun p e R s m args below meth c cells slots H locs lsR Q hC hL k => lv_ishr hC.1 hC.2.1 hd k) k
theorem r_iushr (hd : decode (xC X) pc = .ok (.iushr, 1)) (k : Rf G l X (pc + 1) ls (.int ((x.toUInt32 >>> (y.toUInt32 &&& Int32.toUInt32 31)).toInt32) :: st) M o) : Rf G l X pc ls (.int y :: .int x :: st) M o := Rf.go (fun p e R s m args below meth c cells slots H locs lsR Q hC hL k => lv_iushr hC.1 hC.2.1 hd rfl k) k
theorem r_ladd (hd : decode (xC X) pc = .ok (.ladd, 1)) (k : Rf G l X (pc + 1) ls (.long (xl + yl) :: st) M o) : Rf G l X pc ls (.long yl :: .long xl :: st) M o := Rf.go (fun p e R s m args below meth c cells slots H locs lsR Q hC hL k => lv_ladd hC.1 hC.2.1 hd k) k
theorem r_lsub (hd : decode (xC X) pc = .ok (.lsub, 1)) (k : Rf G l X (pc + 1) ls (.long (xl - yl) :: st) M o) : Rf G l X pc ls (.long yl :: .long xl :: st) M o := Rf.go (fun p e R s m args below meth c cells slots H locs lsR Q hC hL k => lv_lsub hC.1 hC.2.1 hd k) k
theorem r_lmul (hd : decode (xC X) pc = .ok (.lmul, 1)) (k : Rf G l X (pc + 1) ls (.long (xl * yl) :: st) M o) : Rf G l X pc ls (.long yl :: .long xl :: st) M o := Rf.go (fun p e R s m args below meth c cells slots H locs lsR Q hC hL k => lv_lmul hC.1 hC.2.1 hd k) k
theorem r_land (hd : decode (xC X) pc = .ok (.land, 1)) (k : Rf G l X (pc + 1) ls (.long (xl &&& yl) :: st) M o) : Rf G l X pc ls (.long yl :: .long xl :: st) M o := Rf.go (fun p e R s m args below meth c cells slots H locs lsR Q hC hL k => lv_land hC.1 hC.2.1 hd k) k
theorem r_lor (hd : decode (xC X) pc = .ok (.lor, 1)) (k : Rf G l X (pc + 1) ls (.long (xl ||| yl) :: st) M o) : Rf G l X pc ls (.long yl :: .long xl :: st) M o := Rf.go (fun p e R s m args below meth c cells slots H locs lsR Q hC hL k => lv_lor hC.1 hC.2.1 hd k) k
theorem r_lxor (hd : decode (xC X) pc = .ok (.lxor, 1)) (k : Rf G l X (pc + 1) ls (.long (xl ^^^ yl) :: st) M o) : Rf G l X pc ls (.long yl :: .long xl :: st) M o := Rf.go (fun p e R s m args below meth c cells slots H locs lsR Q hC hL k => lv_lxor hC.1 hC.2.1 hd k) k
theorem r_lushr (hd : decode (xC X) pc = .ok (.lushr, 1)) (k : Rf G l X (pc + 1) ls (.long ((xl.toUInt64 >>> (y.toInt64.toUInt64 &&& Int64.toUInt64 63)).toInt64) :: st) M o) : Rf G l X pc ls (.int y :: .long xl :: st) M o := Rf.go (fun p e R s m args below meth c cells slots H locs lsR Q hC hL k => lv_lushr hC.1 hC.2.1 hd rfl k) k
theorem r_lcmp (hd : decode (xC X) pc = .ok (.lcmp, 1)) (k : Rf G l X (pc + 1) ls (.int (lg_cmp xl yl) :: st) M o) : Rf G l X pc ls (.long yl :: .long xl :: st) M o := Rf.go (fun p e R s m args below meth c cells slots H locs lsR Q hC hL k => W.lcmp hC.1 hC.2.1 hd k) k
theorem r_ineg (hd : decode (xC X) pc = .ok (.ineg, 1)) (k : Rf G l X (pc + 1) ls (.int (-x) :: st) M o) : Rf G l X pc ls (.int x :: st) M o := Rf.go (fun p e R s m args below meth c cells slots H locs lsR Q hC hL k => lv_ineg hC.1 hC.2.1 hd k) k
theorem r_i2l (hd : decode (xC X) pc = .ok (.i2l, 1)) (k : Rf G l X (pc + 1) ls (.long (x.toInt64) :: st) M o) : Rf G l X pc ls (.int x :: st) M o := Rf.go (fun p e R s m args below meth c cells slots H locs lsR Q hC hL k => lv_i2l hC.1 hC.2.1 hd rfl k) k
theorem r_l2i (hd : decode (xC X) pc = .ok (.l2i, 1)) (k : Rf G l X (pc + 1) ls (.int (xl.toInt32) :: st) M o) : Rf G l X pc ls (.long xl :: st) M o := Rf.go (fun p e R s m args below meth c cells slots H locs lsR Q hC hL k => lv_l2i hC.1 hC.2.1 hd rfl k) k
theorem r_i2b (hd : decode (xC X) pc = .ok (.i2b, 1)) (k : Rf G l X (pc + 1) ls (.int (x.toInt8.toInt32) :: st) M o) : Rf G l X pc ls (.int x :: st) M o := Rf.go (fun p e R s m args below meth c cells slots H locs lsR Q hC hL k => lv_i2b hC.1 hC.2.1 hd rfl k) k
end RfRows
end
section
section RfRows
variable {G : am_G} {l : Launch} {X : am_X} {pc : Nat} {ls st : List Value} {M : am_M} {o : am_R} {x y : Int32} {xl yl : Int64} {i : Nat} {A B : am_R}
theorem r_i2c (hd : decode (xC X) pc = .ok (.i2c, 1)) (k : Rf G l X (pc + 1) ls (.int ((x.toUInt32 % 65536).toInt32) :: st) M o) : Rf G l X pc ls (.int x :: st) M o := Rf.go (fun p e R s m args below meth c cells slots H locs lsR Q hC hL k => lv_i2c hC.1 hC.2.1 hd rfl k) k
theorem r_lshl (hd : decode (xC X) pc = .ok (.lshl, 1)) (k : Rf G l X (pc + 1) ls (.long (xl <<< (y.toInt64 &&& 63)) :: st) M o) : Rf G l X pc ls (.int y :: .long xl :: st) M o := Rf.go (fun p e R s m args below meth c cells slots H locs lsR Q hC hL k => lv_lshl hC.1 hC.2.1 hd rfl k) k
theorem r_dup {v : Value} (hd : decode (xC X) pc = .ok (.dup, 1)) (hv : v.category = 1) (k : Rf G l X (pc + 1) ls (v :: v :: st) M o) : Rf G l X pc ls (v :: st) M o := Rf.go (fun p e R s m args below meth c cells slots H locs lsR Q hC hL k => lv_dup hC.1 hC.2.1 hd (by rw [rv_cat hC.2.2.2.2.2.2.2.2.2.2]; exact hv) k) k
theorem r_pop {v : Value} (hd : decode (xC X) pc = .ok (.pop, 1)) (hv : v.category = 1) (k : Rf G l X (pc + 1) ls st M o) : Rf G l X pc ls (v :: st) M o := Rf.go (fun p e R s m args below meth c cells slots H locs lsR Q hC hL k => lv_pop hC.1 hC.2.1 hd (by rw [rv_cat hC.2.2.2.2.2.2.2.2.2.2]; exact hv) k) k
theorem r_dup2 {v w : Value} (hd : decode (xC X) pc = .ok (.dup2, 1)) (hv : v.category = 1) (hw : w.category = 1) (k : Rf G l X (pc + 1) ls (v :: w :: v :: w :: st) M o) : Rf G l X pc ls (v :: w :: st) M o := Rf.go (fun p e R s m args below meth c cells slots H locs lsR Q hC hL k => lv_dup2_11 hC.1 hC.2.1 hd (by rw [rv_cat hC.2.2.2.2.2.2.2.2.2.2]; exact hv) (by rw [rv_cat hC.2.2.2.2.2.2.2.2.2.2]; exact hw) k) k
theorem r_goto {off : Int} {tgt : Nat} (hd : decode (xC X) pc = .ok (.goto off, 3)) (ht : (pc : Int) + off = (tgt : Int)) (k : Rf G l X tgt ls st M o) : Rf G l X pc ls st M o := Rf.go (fun p e R s m args below meth c cells slots H locs lsR Q hC hL k => lv_goto hC.1 hC.2.1 hd ht k) k
theorem r_ifnull {off : Int} {a : Nat} (hd : decode (xC X) pc = .ok (.ifnull off, 3)) (k : Rf G l X (pc + 3) ls st M o) : Rf G l X pc ls (.ref a :: st) M o := Rf.go (fun p e R s m args below meth c cells slots H locs lsR Q hC hL k => lv_ifnull hC.1 hC.2.1 hd k) k
theorem r_ifnullN {off : Int} {tgt : Nat} (hd : decode (xC X) pc = .ok (.ifnull off, 3)) (ht : (pc : Int) + off = (tgt : Int)) (k : Rf G l X tgt ls st M o) : Rf G l X pc ls (.null :: st) M o := Rf.go (fun p e R s m args below meth c cells slots H locs lsR Q hC hL k => lv_ifnullN hC.1 hC.2.1 hd ht k) k
theorem r_ifnonnull {off : Int} {a tgt : Nat} (hd : decode (xC X) pc = .ok (.ifnonnull off, 3)) (ht : (pc : Int) + off = (tgt : Int)) (k : Rf G l X tgt ls st M o) : Rf G l X pc ls (.ref a :: st) M o := Rf.go (fun p e R s m args below meth c cells slots H locs lsR Q hC hL k => lv_ifnonnull hC.1 hC.2.1 hd ht k) k
theorem r_ifnonnullN {off : Int} (hd : decode (xC X) pc = .ok (.ifnonnull off, 3)) (k : Rf G l X (pc + 3) ls st M o) : Rf G l X pc ls (.null :: st) M o := Rf.go (fun p e R s m args below meth c cells slots H locs lsR Q hC hL k => lv_ifnonnullN hC.1 hC.2.1 hd k) k
theorem r_idiv (hd : decode (xC X) pc = .ok (.idiv, 1)) (k : Rf G l X (pc + 1) ls (.int (x / y) :: st) M o) : Rf G l X pc ls (.int y :: .int x :: st) M (dZ y o) := by
  by_cases h : y = 0
  · rw [dZ, if_pos h]; exact Rf.no
  · rw [dZ, if_neg h]; exact Rf.go (fun p e R s m args below meth c cells slots H locs lsR Q hC hL k => lv_idiv hC.1 hC.2.1 hd h k) k
theorem r_irem (hd : decode (xC X) pc = .ok (.irem, 1)) (k : Rf G l X (pc + 1) ls (.int (x - x / y * y) :: st) M o) : Rf G l X pc ls (.int y :: .int x :: st) M (dZ y o) := by
  by_cases h : y = 0
  · rw [dZ, if_pos h]; exact Rf.no
  · rw [dZ, if_neg h]; exact Rf.go (fun p e R s m args below meth c cells slots H locs lsR Q hC hL k => lv_irem hC.1 hC.2.1 hd h k) k
theorem r_ldiv (hd : decode (xC X) pc = .ok (.ldiv, 1)) (k : Rf G l X (pc + 1) ls (.long (xl / yl) :: st) M o) : Rf G l X pc ls (.long yl :: .long xl :: st) M (dZL yl o) := by
  by_cases h : yl = 0
  · rw [dZL, if_pos h]; exact Rf.no
  · rw [dZL, if_neg h]; exact Rf.go (fun p e R s m args below meth c cells slots H locs lsR Q hC hL k => lv_ldiv hC.1 hC.2.1 hd h k) k
theorem r_lrem (hd : decode (xC X) pc = .ok (.lrem, 1)) (k : Rf G l X (pc + 1) ls (.long (xl - xl / yl * yl) :: st) M o) : Rf G l X pc ls (.long yl :: .long xl :: st) M (dZL yl o) := by
  by_cases h : yl = 0
  · rw [dZL, if_pos h]; exact Rf.no
  · rw [dZL, if_neg h]; exact Rf.go (fun p e R s m args below meth c cells slots H locs lsR Q hC hL k => lv_lrem hC.1 hC.2.1 hd h k) k
/-- a divisor that is a number not 0 -/
theorem r_idivk (hd : decode (xC X) pc = .ok (.idiv, 1)) (h : ¬ y = 0) (k : Rf G l X (pc + 1) ls (.int (x / y) :: st) M o) : Rf G l X pc ls (.int y :: .int x :: st) M o := Rf.go (fun p e R s m args below meth c cells slots H locs lsR Q hC hL k => lv_idiv hC.1 hC.2.1 hd h k) k
theorem r_iremk (hd : decode (xC X) pc = .ok (.irem, 1)) (h : ¬ y = 0) (k : Rf G l X (pc + 1) ls (.int (x - x / y * y) :: st) M o) : Rf G l X pc ls (.int y :: .int x :: st) M o := Rf.go (fun p e R s m args below meth c cells slots H locs lsR Q hC hL k => lv_irem hC.1 hC.2.1 hd h k) k
theorem r_ldivk (hd : decode (xC X) pc = .ok (.ldiv, 1)) (h : ¬ yl = 0) (k : Rf G l X (pc + 1) ls (.long (xl / yl) :: st) M o) : Rf G l X pc ls (.long yl :: .long xl :: st) M o := Rf.go (fun p e R s m args below meth c cells slots H locs lsR Q hC hL k => lv_ldiv hC.1 hC.2.1 hd h k) k
theorem Rf.br {c : Prop} [Decidable c] {pc1 pc2 : Nat} {st' : List Value}
    (h : ∀ (p : Program) (e : Env) (R : Room) (s : State) (m : MethodId) (args : Array Value) (below : List Frame) (meth : Method) (c' : Code) (cells slots : Nat) (H : Heap) (locs : List Loc) (lsR : Array Slot) (Q : State → Prop), am_C G X p R s m meth c' → (c → W p l e R s m args below meth c' H locs cells slots Q (F0 m pc1 lsR (st'.map (rv G)))) → (¬ c → W p l e R s m args below meth c' H locs cells slots Q (F0 m pc2 lsR (st'.map (rv G)))) → W p l e R s m args below meth c' H locs cells slots Q (F0 m pc lsR (st.map (rv G))))
    (ka : Rf G l X pc1 ls st' M A) (kb : Rf G l X pc2 ls st' M B) : Rf G l X pc ls st M (if c then A else B) := by
  by_cases hc : c
  · rw [if_pos hc]
    exact Rf.go (fun p e R s m args below meth c cells slots H locs lsR Q hC hL k => h p e R s m args below meth c cells slots H locs lsR Q hC (fun _ => k) (fun q => absurd hc q)) ka
  · rw [if_neg hc]
    exact Rf.go (fun p e R s m args below meth c cells slots H locs lsR Q hC hL k => h p e R s m args below meth c cells slots H locs lsR Q hC (fun q => absurd q hc) (fun _ => k)) kb
theorem r_if_eq {off : Int} {tgt : Nat} (hd : decode (xC X) pc = .ok (.ifCond .eq off, 3)) (ht : (pc : Int) + off = (tgt : Int)) (ka : Rf G l X tgt ls st M A) (kb : Rf G l X (pc + 3) ls st M B) : Rf G l X pc ls (.int x :: st) M (if x = 0 then A else B) := Rf.br (fun p e R s m args below meth c cells slots H locs lsR Q hC ka kb => lv_if_eq hC.1 hC.2.1 hd ht ka kb) ka kb
theorem r_if_lt {off : Int} {tgt : Nat} (hd : decode (xC X) pc = .ok (.ifCond .lt off, 3)) (ht : (pc : Int) + off = (tgt : Int)) (ka : Rf G l X tgt ls st M A) (kb : Rf G l X (pc + 3) ls st M B) : Rf G l X pc ls (.int x :: st) M (if x < 0 then A else B) := Rf.br (fun p e R s m args below meth c cells slots H locs lsR Q hC ka kb => lv_if_lt hC.1 hC.2.1 hd ht ka kb) ka kb
theorem r_if_ge {off : Int} {tgt : Nat} (hd : decode (xC X) pc = .ok (.ifCond .ge off, 3)) (ht : (pc : Int) + off = (tgt : Int)) (ka : Rf G l X tgt ls st M A) (kb : Rf G l X (pc + 3) ls st M B) : Rf G l X pc ls (.int x :: st) M (if 0 ≤ x then A else B) := Rf.br (fun p e R s m args below meth c cells slots H locs lsR Q hC ka kb => lv_if_ge hC.1 hC.2.1 hd ht ka kb) ka kb
theorem r_if_gt {off : Int} {tgt : Nat} (hd : decode (xC X) pc = .ok (.ifCond .gt off, 3)) (ht : (pc : Int) + off = (tgt : Int)) (ka : Rf G l X tgt ls st M A) (kb : Rf G l X (pc + 3) ls st M B) : Rf G l X pc ls (.int x :: st) M (if 0 < x then A else B) := Rf.br (fun p e R s m args below meth c cells slots H locs lsR Q hC ka kb => lv_if_gt hC.1 hC.2.1 hd ht ka kb) ka kb
theorem r_if_le {off : Int} {tgt : Nat} (hd : decode (xC X) pc = .ok (.ifCond .le off, 3)) (ht : (pc : Int) + off = (tgt : Int)) (ka : Rf G l X tgt ls st M A) (kb : Rf G l X (pc + 3) ls st M B) : Rf G l X pc ls (.int x :: st) M (if x ≤ 0 then A else B) := Rf.br (fun p e R s m args below meth c cells slots H locs lsR Q hC ka kb => lv_if_le hC.1 hC.2.1 hd ht ka kb) ka kb
theorem r_if_ne {off : Int} {tgt : Nat} (hd : decode (xC X) pc = .ok (.ifCond .ne off, 3)) (ht : (pc : Int) + off = (tgt : Int)) (ka : Rf G l X (pc + 3) ls st M A) (kb : Rf G l X tgt ls st M B) : Rf G l X pc ls (.int x :: st) M (if x = 0 then A else B) := Rf.br (fun p e R s m args below meth c cells slots H locs lsR Q hC ka kb => lv_if_ne hC.1 hC.2.1 hd ht kb ka) ka kb
theorem r_icmp_eq {off : Int} {tgt : Nat} (hd : decode (xC X) pc = .ok (.if_icmp .eq off, 3)) (ht : (pc : Int) + off = (tgt : Int)) (ka : Rf G l X tgt ls st M A) (kb : Rf G l X (pc + 3) ls st M B) : Rf G l X pc ls (.int y :: .int x :: st) M (if x = y then A else B) := Rf.br (fun p e R s m args below meth c cells slots H locs lsR Q hC ka kb => lv_icmp_eq hC.1 hC.2.1 hd ht ka kb) ka kb
theorem r_icmp_lt {off : Int} {tgt : Nat} (hd : decode (xC X) pc = .ok (.if_icmp .lt off, 3)) (ht : (pc : Int) + off = (tgt : Int)) (ka : Rf G l X tgt ls st M A) (kb : Rf G l X (pc + 3) ls st M B) : Rf G l X pc ls (.int y :: .int x :: st) M (if x < y then A else B) := Rf.br (fun p e R s m args below meth c cells slots H locs lsR Q hC ka kb => lv_icmp_lt hC.1 hC.2.1 hd ht ka kb) ka kb
theorem r_icmp_ge {off : Int} {tgt : Nat} (hd : decode (xC X) pc = .ok (.if_icmp .ge off, 3)) (ht : (pc : Int) + off = (tgt : Int)) (ka : Rf G l X tgt ls st M A) (kb : Rf G l X (pc + 3) ls st M B) : Rf G l X pc ls (.int y :: .int x :: st) M (if y ≤ x then A else B) := Rf.br (fun p e R s m args below meth c cells slots H locs lsR Q hC ka kb => lv_icmp_ge hC.1 hC.2.1 hd ht ka kb) ka kb
theorem r_icmp_gt {off : Int} {tgt : Nat} (hd : decode (xC X) pc = .ok (.if_icmp .gt off, 3)) (ht : (pc : Int) + off = (tgt : Int)) (ka : Rf G l X tgt ls st M A) (kb : Rf G l X (pc + 3) ls st M B) : Rf G l X pc ls (.int y :: .int x :: st) M (if y < x then A else B) := Rf.br (fun p e R s m args below meth c cells slots H locs lsR Q hC ka kb => lv_icmp_gt hC.1 hC.2.1 hd ht ka kb) ka kb
theorem r_icmp_le {off : Int} {tgt : Nat} (hd : decode (xC X) pc = .ok (.if_icmp .le off, 3)) (ht : (pc : Int) + off = (tgt : Int)) (ka : Rf G l X tgt ls st M A) (kb : Rf G l X (pc + 3) ls st M B) : Rf G l X pc ls (.int y :: .int x :: st) M (if x ≤ y then A else B) := Rf.br (fun p e R s m args below meth c cells slots H locs lsR Q hC ka kb => lv_icmp_le hC.1 hC.2.1 hd ht ka kb) ka kb
theorem r_icmp_ne {off : Int} {tgt : Nat} (hd : decode (xC X) pc = .ok (.if_icmp .ne off, 3)) (ht : (pc : Int) + off = (tgt : Int)) (ka : Rf G l X (pc + 3) ls st M A) (kb : Rf G l X tgt ls st M B) : Rf G l X pc ls (.int y :: .int x :: st) M (if x = y then A else B) := Rf.br (fun p e R s m args below meth c cells slots H locs lsR Q hC ka kb => lv_icmp_ne hC.1 hC.2.1 hd ht kb ka) ka kb
theorem r_tsIn {dflt lo hi off : Int} {offs : Array Int} {len tgt : Nat} (hd : decode (xC X) pc = .ok (.tableswitch dflt lo hi offs, len)) (h1 : ¬ x.toInt < lo) (h2 : ¬ hi < x.toInt) (ho : offs[(x.toInt - lo).toNat]? = some off) (ht : (pc : Int) + off = (tgt : Int)) (k : Rf G l X tgt ls st M o) : Rf G l X pc ls (.int x :: st) M o := Rf.go (fun p e R s m args below meth c cells slots H locs lsR Q hC hL k => lv_tableIn hC.1 hC.2.1 hd h1 h2 ho ht k) k
theorem r_tsOut {dflt lo hi : Int} {offs : Array Int} {len tgt : Nat} (hd : decode (xC X) pc = .ok (.tableswitch dflt lo hi offs, len)) (h : x.toInt < lo ∨ hi < x.toInt) (ht : (pc : Int) + dflt = (tgt : Int)) (k : Rf G l X tgt ls st M o) : Rf G l X pc ls (.int x :: st) M o := Rf.go (fun p e R s m args below meth c cells slots H locs lsR Q hC hL k => lv_tableOut hC.1 hC.2.1 hd h ht k) k
/-! returns -/
theorem Rf.ret {v : Option Value} {st : List Value}
    (h : ∀ (p : Program) (e : Env) (R : Room) (s : State) (m : MethodId) (args : Array Value) (below : List Frame) (meth : Method) (c : Code) (cells slots : Nat) (H : Heap) (locs : List Loc) (lsR : Array Slot) (Qc : Array Value → State → Outcome → State → Prop), am_C G X p R s m meth c → (∀ t : State, t.heap = H → s.WarmedH t.vm → Qc args s (.returned (v.map (rv G))) t) → (∀ q ∈ locs, gA G q.base) → W p l e R s m args below meth c H locs cells slots (MQ below Qc args s cells slots (gA G)) (F0 m pc lsR (st.map (rv G)))) : Rf G l X pc ls st M (some (v, M)) := by
  intro v' M' ho
  cases ho
  refine ⟨⟨Nat.le_refl _, Nat.le_refl _⟩, fun p e R s m args below meth c n0 u0 cells slots H locs lsR hC h1 h2 h3 h4 hH hS hL => ?_⟩
  refine W.widen (k := R.cells) (n := R.slots) (by omega) (by omega) ?_
  exact h p e R s m args below meth c R.cells R.slots H locs lsR _ hC (fun t ht hW => ⟨rfl, by rw [ht]; exact hH, hS.F ht⟩) hS.2.2
theorem r_iret (hd : decode (xC X) pc = .ok (.ireturn, 1)) (hr : xT X = some .int) : Rf G l X pc ls [.int x] M (some (some (.int x), M)) := Rf.ret (fun p e R s m args below meth c cells slots H locs lsR Qc hC hq hf => W.iret hC.1 hC.2.1 (hC.2.2.2.1.trans hr) hq hf hd hC.2.2.2.2.1)
theorem r_zret {ty : FieldType} (hd : decode (xC X) pc = .ok (.ireturn, 1)) (hr : xT X = some ty) (hn : narrow ty (.int x) = .int x) : Rf G l X pc ls [.int x] M (some (some (.int x), M)) := Rf.ret (fun p e R s m args below meth c cells slots H locs lsR Qc hC hq hf => W.zret hC.1 hC.2.1 (hC.2.2.2.1.trans hr) hn hq hf hd hC.2.2.2.2.1)
theorem r_lret (hd : decode (xC X) pc = .ok (.lreturn, 1)) (hr : xT X = some .long) : Rf G l X pc ls [.long xl] M (some (some (.long xl), M)) := Rf.ret (fun p e R s m args below meth c cells slots H locs lsR Qc hC hq hf => W.lret hC.1 hC.2.1 (hC.2.2.2.1.trans hr) hq hf hd hC.2.2.2.2.1)
theorem r_aret {a : Nat} {rt : FieldType} (hd : decode (xC X) pc = .ok (.areturn, 1)) (hr : xT X = some rt) (hrt : (∃ n, rt = .object n) ∨ ∃ t, rt = .array t) : Rf G l X pc ls [.ref a] M (some (some (.ref a), M)) := Rf.ret (fun p e R s m args below meth c cells slots H locs lsR Qc hC hq hf => W.aret hC.1 hC.2.1 (hC.2.2.2.1.trans hr) hrt (Or.inr ⟨_, rfl⟩) hq hf hd hC.2.2.2.2.1)
theorem r_aretN {rt : FieldType} (hd : decode (xC X) pc = .ok (.areturn, 1)) (hr : xT X = some rt) (hrt : (∃ n, rt = .object n) ∨ ∃ t, rt = .array t) : Rf G l X pc ls [.null] M (some (some .null, M)) := Rf.ret (fun p e R s m args below meth c cells slots H locs lsR Qc hC hq hf => W.aret hC.1 hC.2.1 (hC.2.2.2.1.trans hr) hrt (Or.inl rfl) hq hf hd hC.2.2.2.2.1)
theorem r_vret (hd : decode (xC X) pc = .ok (.return_, 1)) (hr : xT X = none) : Rf G l X pc ls [] M (some (none, M)) := Rf.ret (fun p e R s m args below meth c cells slots H locs lsR Qc hC hq hf => W.vret hC.1 hC.2.1 (hC.2.2.2.1.trans hr) hq hf hd hC.2.2.2.2.1)
end RfRows
end
section
/-! ===== rows over the heap ===== -/
def am_dv (c k : Nat) : Value := match am_ft c k with
  | 0 => .int 0
  | 1 => .long 0
  | _ => .null
def am_Cl (c : Nat) (C : String) (T : u_T) (N : Nat) (ty : Nat → FieldType) : Prop :=
  am_cl[c]? = some (C, T, N) ∧ (∀ k, k < N → parseFieldDescriptor (T k).2.2.1 = some (ty k)) ∧ (∀ a, a < N → ∀ b, b < N → a ≠ b → (T a).2.1 ≠ (T b).2.1) ∧ (∀ w ∈ u_ws C T N, w ∈ am_ws) ∧ am_nf c = N ∧ (∀ k, k < N → (T k).1 = C) ∧ ∀ k, k < N → defaultValue (ty k) = am_dv c k
def am_fl (own : String) (idx c k : Nat) (tk : FieldType) (fin : Bool) : Prop := ∃ (C : String) (T : u_T) (N : Nat) (ty : Nat → FieldType), am_Cl c C T N ty ∧ k < N ∧ ty k = tk ∧ (T k).2.2.2 = fin ∧ Cond.fieldLink own idx C (T k).2.1 (T k).2.2.1 ∈ am_ws
theorem cl_lt {c : Nat} {q : vw_C} (h : am_cl[c]? = some q) : c < 10 := (List.getElem?_eq_some_iff.mp h).1
section RfRows
variable {G : am_G} {l : Launch} {X : am_X} {pc : Nat} {ls st : List Value} {M : am_M} {o : am_R} {x y : Int32} {xl yl : Int64} {i : Nat} {A B : am_R}
theorem Rf.goH {pc' : Nat} {st' : List Value}
    (h : ∀ (p : Program) (e : Env) (R : Room) (s : State) (m : MethodId) (args : Array Value) (below : List Frame) (meth : Method) (c : Code) (cells slots : Nat) (H : Heap) (locs : List Loc) (lsR : Array Slot) (Q : State → Prop), am_C G X p R s m meth c → am_Hp G M H → va_S (gA G) s.heap H locs → LV G (xL X) ls lsR → W p l e R s m args below meth c H locs cells slots Q (F0 m pc' lsR (st'.map (rv G))) → W p l e R s m args below meth c H locs cells slots Q (F0 m pc lsR (st.map (rv G))))
    (k : Rf G l X pc' ls st' M o) : Rf G l X pc ls st M o := by
  intro v M' ho
  obtain ⟨hm, k⟩ := k v M' ho
  exact ⟨hm, fun p e R s m args below meth c n0 u0 cells slots H locs lsR hC h1 h2 h3 h4 hH hS hL => h p e R s m args below meth c cells slots H locs lsR _ hC hH hS hL (k p e R s m args below meth c n0 u0 cells slots H locs lsR hC h1 h2 h3 h4 hH hS hL)⟩
theorem Rf.goM {M1 : am_M} {pc' : Nat} {st' : List Value} (hx : mNx M1 = mNx M) (hu : mUs M1 = mUs M)
    (h : ∀ (p : Program) (e : Env) (R : Room) (s : State) (m : MethodId) (args : Array Value) (below : List Frame) (meth : Method) (c : Code) (cells slots : Nat) (H : Heap) (locs : List Loc) (lsR : Array Slot) (Q : State → Prop), am_C G X p R s m meth c → am_Hp G M H → va_S (gA G) s.heap H locs → LV G (xL X) ls lsR → (∀ (H1 : Heap) (locs1 : List Loc), am_Hp G M1 H1 → va_S (gA G) s.heap H1 locs1 → W p l e R s m args below meth c H1 locs1 cells slots Q (F0 m pc' lsR (st'.map (rv G)))) → W p l e R s m args below meth c H locs cells slots Q (F0 m pc lsR (st.map (rv G))))
    (k : Rf G l X pc' ls st' M1 o) : Rf G l X pc ls st M o := by
  intro v M' ho
  obtain ⟨hm, k⟩ := k v M' ho
  rw [hx, hu] at hm
  exact ⟨hm, fun p e R s m args below meth c n0 u0 cells slots H locs lsR hC h1 h2 h3 h4 hH hS hL => h p e R s m args below meth c cells slots H locs lsR _ hC hH hS hL (fun H1 locs1 hH1 hS1 => k p e R s m args below meth c n0 u0 cells slots H1 locs1 lsR hC h1 h2 (by rw [hx]; exact h3) (by rw [hu]; exact h4) hH1 hS1 hL)⟩
theorem Rf.goN {t n pc' : Nat} {st' : List Value}
    (h : ∀ (p : Program) (e : Env) (R : Room) (s : State) (m : MethodId) (args : Array Value) (below : List Frame) (meth : Method) (c : Code) (cells slots : Nat) (H : Heap) (locs : List Loc) (lsR : Array Slot) (Q : State → Prop), am_C G X p R s m meth c → am_Hp G M H → va_S (gA G) s.heap H locs → LV G (xL X) ls lsR → cells + 1 ≤ R.cells → slots + n ≤ R.slots → (∀ (H1 : Heap), am_Hp G (mkC M t n) H1 → va_S (gA G) s.heap H1 locs → W p l e R s m args below meth c H1 locs (cells + 1) (slots + n) Q (F0 m pc' lsR (st'.map (rv G)))) → W p l e R s m args below meth c H locs cells slots Q (F0 m pc lsR (st.map (rv G))))
    (k : Rf G l X pc' ls st' (mkC M t n) o) : Rf G l X pc ls st M o := by
  intro v M' ho
  obtain ⟨hm, k⟩ := k v M' ho
  rw [mNx_mkC, mUs_mkC] at hm
  exact ⟨⟨by omega, by omega⟩, fun p e R s m args below meth c n0 u0 cells slots H locs lsR hC h1 h2 h3 h4 hH hS hL => h p e R s m args below meth c cells slots H locs lsR _ hC hH hS hL (by omega) (by omega) (fun H1 hH1 hS1 => k p e R s m args below meth c n0 u0 (cells + 1) (slots + n) H1 locs lsR hC h1 h2 (by rw [mNx_mkC]; omega) (by rw [mUs_mkC]; omega) hH1 hS1 hL)⟩
/-! fields -/
variable {a b c k idx : Nat} {tk : FieldType} {fin : Bool}
theorem r_fI {f : Int32 → am_R} (hd : decode (xC X) pc = .ok (.getfield idx, 3)) (hf : am_fl (xO X) idx c k tk fin) (ht : am_ft c k = 0) (kk : ∀ x, Rf G l X (pc + 3) ls (.int x :: st) M (f x)) : Rf G l X pc ls (.ref a :: st) M (fI M a (c + 4) k f) := by
  unfold fI
  refine Rf.ite (fun h => ?_) (fun _ => Rf.no)
  obtain ⟨C, T, N, ty, ⟨c1, c2, c3, c4, c5, c6, c7⟩, hk, -, -, hw⟩ := hf
  have hc9 := cl_lt c1
  have ha := kd_lt h (by omega)
  refine Rf.goH (fun p e R s m args below meth cd cells slots H locs lsR Q hC hH hS hL k2 => ?_) (kk (rI M a k))
  exact va_get (Ts := am_ws) hC.1 hC.2.1 (fun w hw => hC.2.2.2.2.2.2.2.2.2.2.1 w hw args) c4 hC.2.2.2.2.2.2.1 hC.2.2.2.2.2.2.2.2.2.2.2.1 hH.2 a (by rw [wd_at ha, cell_obj h]) c1 k hk (hC.2.2.2.2.2.2.2.2.2.2.1 _ hw args) (fun z hz => by rw [c6 k hk] at hz; exact hz) (by rw [fs_at (by omega), fv_I ht]; rfl) hd k2
theorem r_fR {f : Nat → am_R} (hd : decode (xC X) pc = .ok (.getfield idx, 3)) (hf : am_fl (xO X) idx c k tk fin) (ht : am_ft c k = 2) (kk : ∀ b, Rf G l X (pc + 3) ls (.ref b :: st) M (f b)) : Rf G l X pc ls (.ref a :: st) M (fR M a (c + 4) k f) := by
  unfold fR
  refine Rf.ite (fun h => ?_) (fun _ => Rf.no)
  obtain ⟨C, T, N, ty, ⟨c1, c2, c3, c4, c5, c6, c7⟩, hk, -, -, hw⟩ := hf
  have hc9 := cl_lt c1
  have ha := kd_lt h (by omega)
  cases hr : rR M a k with
  | none => exact Rf.no
  | some b =>
    refine Rf.goH (fun p e R s m args below meth cd cells slots H locs lsR Q hC hH hS hL k2 => ?_) (kk b)
    exact va_get (Ts := am_ws) hC.1 hC.2.1 (fun w hw => hC.2.2.2.2.2.2.2.2.2.2.1 w hw args) c4 hC.2.2.2.2.2.2.1 hC.2.2.2.2.2.2.2.2.2.2.2.1 hH.2 a (by rw [wd_at ha, cell_obj h]) c1 k hk (hC.2.2.2.2.2.2.2.2.2.2.1 _ hw args) (fun z hz => by rw [c6 k hk] at hz; exact hz) (by rw [fs_at (by omega), fv_R ht, hr]; rfl) hd k2
/-- a store into a field, by the cell -/
theorem am_putf {p : Program} {e : Env} {R : Room} {s : State} {m : MethodId} {args : Array Value} {below : List Frame} {meth : Method} {cd : Code} {cells slots : Nat} {H : Heap} {locs : List Loc} {lsR : Array Slot} {Q : State → Prop} {M1 : am_M} {v : Value} {rest : List Value} (hC : am_C G X p R s m meth cd) (hH : am_Hp G M H) (hS : va_S (gA G) s.heap H locs) (hd : decode (xC X) pc = .ok (.putfield idx, 3)) (hf : am_fl (xO X) idx c k tk fin) (hfin : fin = false ∨ (xN X = "<init>" ∧ (am_cl.map (fun z => z.1)).getD c "" = xO X)) (h : mKd M a = c + 4) (hn : narrow tk v = v) (hfit : fits tk v = true) (hx : mNx M1 = mNx M) (ho : ∀ j, j ≠ a → am_cell G M1 j = am_cell G M j) (hk1 : mKd M1 a = c + 4) (hset : (am_fs G M a c).set k v = am_fs G M1 a c)
    (kk : ∀ (H1 : Heap) (locs1 : List Loc), am_Hp G M1 H1 → va_S (gA G) s.heap H1 locs1 → W p l e R s m args below meth cd H1 locs1 cells slots Q (F0 m (pc + 3) lsR rest)) : W p l e R s m args below meth cd H locs cells slots Q (F0 m pc lsR (v :: .ref (gB G + a) :: rest)) := by
  obtain ⟨C, T, N, ty, ⟨c1, c2, c3, c4, c5, c6, c7⟩, hk, htk, hfn, hw⟩ := hf
  have hc9 := cl_lt c1
  have ha := kd_lt h (by omega)
  have hts : ∀ w ∈ am_ws, w.before args s = true := fun w hw => hC.2.2.2.2.2.2.2.2.2.2.1 w hw args
  have hK := hC.2.2.2.2.2.2.2.2.2.2.2.1
  have hown := hC.2.2.2.2.2.2.1
  have hlink := hts _ hw
  have he : (am_wd G M)[a]? = some (gB G + a, .inr (c, am_fs G M a c)) := by rw [wd_at ha, cell_obj h]
  have hap := va_apart (own := xO X) hts c4 ty c2 c3 hK c1
  obtain ⟨r, h1, cell, q1, q2, q3, q4⟩ := hH.2 a _ he
  have hr : r = (C, T, N) := Option.some.inj (h1.symm.trans c1)
  subst hr
  obtain ⟨hSl, hfc, kC, hkC, hkind⟩ := hK.1 c _ c1
  obtain ⟨cf, kf, fi, f, hi, hsl⟩ := hSl k hk
  have hi' : s.fieldFound? C (T k).2.1 (T k).2.2.1 = some (cf, kf, fi, f) := by rw [← c6 k hk]; exact hi
  have hlay := hts _ (c4 _ (u_in_lay hk))
  have hd2 : parseFieldDescriptor (T k).2.2.1 = some tk := by rw [← htk]; exact c2 k hk
  have hst := (u_facts hfc hkC (u_lays hts c4 hk) hi).1
  have hl : k < (am_fs G M a c).length := by simp [am_fs]; omega
  have fini : ∀ H' : Heap, H'[gB G + a]? = some (cell.setSlot f.slot v) → H'.size = H.size → (∀ q, q ≠ gB G + a → H'[q]? = H[q]?) → W p l e R s m args below meth cd H' (locs ++ [⟨gB G + a, f.slot⟩]) cells slots Q (F0 m (pc + 3) lsR rest) := by
    intro H' e1 e2 e3
    rw [hsl] at e1 ⊢
    have hP1 := hH.2.set (wd_D G M) (e := .inr (c, (am_fs G M a c).set k v)) he ⟨_, c1, t_OB.to (V := updV (vp_V (am_fs G M a c)) k v) ⟨_, e1, q2, q3, t_set q4 hap hk v⟩ (fun j _ => vp_updV_set hl v j)⟩ e3
    refine kk H' _ (hH.put hx ho (by rw [cell_obj hk1, ← hset]) e2 hP1) (hS.put e2 e3 (Nat.le_add_right _ _))
  by_cases hff : fin = false
  · unfold u_lay at hlay
    rw [if_neg (by rw [hfn, hff]; decide)] at hlay
    have h6 := u_store hfc hkC hkind hlay hi hd2 hn hfit
    exact W.putK hC.1 hC.2.1 (f := f) ⟨hown, hlink, ⟨_, _, _, hi'⟩, hst⟩ (by rw [q2]; exact h6) q1 q3 (by rw [hsl]; exact k2_hasslot (q4 k hk)) rfl rfl hd fini
  · have hft : fin = true := by cases fin <;> simp_all
    obtain ⟨hin2, hdecl⟩ := hfin.resolve_left hff
    have hC' : C = xO X := by
      have h9 : (am_cl.map (fun z => z.1))[c]? = some C := by rw [List.getElem?_map, c1]; rfl
      rw [← hdecl, List.getD_eq_getElem?_getD, h9]
      rfl
    unfold u_lay at hlay
    rw [if_pos (by rw [hfn, hft])] at hlay
    have hcf : m.cls = cf := by
      obtain ⟨_, _, c', _, _, _, -, -, hf', -, -, -, hown2, -⟩ := Cond.laysFinal_spec hlay
      have e1 : c' = cf := by have := hi.symm.trans hf'; simp at this; exact this.1.symm
      rw [c6 k hk, hC'] at hown2
      rw [← e1]; exact Option.some.inj (hown.symm.trans hown2)
    have h6 := u_fits hfc hkC hkind (Or.inr hlay) hi hd2 hn hfit
    exact W.putFinK hC.1 hC.2.1 hown hlink hi' hst hcf (hC.2.2.2.2.2.1.trans hin2) (by rw [q2]; exact h6) q1 q3 (by rw [hsl]; exact k2_hasslot (q4 k hk)) rfl rfl hd fini
theorem r_sI {f : am_M → am_R} (hd : decode (xC X) pc = .ok (.putfield idx, 3)) (hf : am_fl (xO X) idx c k tk false) (ht : am_ft c k = 0) (hn : narrow tk (.int x) = .int x) (hfit : fits tk (.int x) = true) (kk : ∀ M1, Rf G l X (pc + 3) ls st M1 (f M1)) : Rf G l X pc ls (.int x :: .ref a :: st) M (sI M a (c + 4) k x f) := by
  unfold sI
  refine Rf.ite (fun h => ?_) (fun _ => Rf.no)
  refine Rf.goM (M1 := wI M a k x) rfl rfl (fun p e R s m args below meth cd cells slots H locs lsR Q hC hH hS hL k2 => ?_) (kk _)
  exact am_putf (M1 := wI M a k x) (v := .int x) (rest := st.map (rv G)) hC hH hS hd hf (Or.inl rfl) h hn hfit rfl (fun j hj => cell_wI hj) h (fs_wI ht) k2
theorem r_sR {f : am_M → am_R} (hd : decode (xC X) pc = .ok (.putfield idx, 3)) (hf : am_fl (xO X) idx c k tk fin) (ht : am_ft c k = 2) (hfin : fin = false ∨ (xN X = "<init>" ∧ (am_cl.map (fun z => z.1)).getD c "" = xO X)) (hn : ∀ q, narrow tk (.ref q) = .ref q) (hfit : ∀ q, fits tk (.ref q) = true) (kk : ∀ M1, Rf G l X (pc + 3) ls st M1 (f M1)) : Rf G l X pc ls (.ref b :: .ref a :: st) M (sR M a (c + 4) k b f) := by
  unfold sR
  refine Rf.ite (fun h => ?_) (fun _ => Rf.no)
  refine Rf.goM (M1 := wR M a k (some b)) rfl rfl (fun p e R s m args below meth cd cells slots H locs lsR Q hC hH hS hL k2 => ?_) (kk _)
  exact am_putf (M1 := wR M a k (some b)) (v := .ref (gB G + b)) (rest := st.map (rv G)) hC hH hS hd hf hfin h (hn _) (hfit _) rfl (fun j hj => cell_wR hj) h (fs_wR ht) k2
end RfRows
end
section
/-! ===== arrays, new cells, calls ===== -/
section RfRows
variable {G : am_G} {l : Launch} {X : am_X} {pc : Nat} {ls st : List Value} {M : am_M} {o : am_R} {x y : Int32} {xl yl : Int64} {i : Int32} {A B : am_R} {a b c k idx : Nat}
theorem r_aI {f : Int32 → am_R} (hd : decode (xC X) pc = .ok (.iaload, 1)) (kk : ∀ x, Rf G l X (pc + 1) ls (.int x :: st) M (f x)) : Rf G l X pc ls (.int i :: .ref a :: st) M (aI M a i f) := by
  unfold aI
  refine Rf.ite (fun h => ?_) (fun _ => Rf.no)
  refine Rf.goH (fun p e R s m args below meth cd cells slots H locs lsR Q hC hH hS hL k2 => ?_) (kk _)
  exact va_iald hC.1 hC.2.1 hC.2.2.2.2.2.2.2.2.2.2.2.1 hH.2 a 0 (by rw [wd_at (kd_lt h.1), cell_I h.1]) rfl h.2 hd k2
theorem r_aB {f : Int32 → am_R} (hd : decode (xC X) pc = .ok (.baload, 1)) (kk : ∀ x, Rf G l X (pc + 1) ls (.int x :: st) M (f x)) : Rf G l X pc ls (.int i :: .ref a :: st) M (aB M a i f) := by
  unfold aB
  refine Rf.ite (fun h => ?_) (fun _ => Rf.no)
  refine Rf.goH (fun p e R s m args below meth cd cells slots H locs lsR Q hC hH hS hL k2 => ?_) (kk _)
  exact va_bald hC.1 hC.2.1 hC.2.2.2.2.2.2.2.2.2.2.2.1 hH.2 a 2 (by rw [wd_at (kd_lt h.1), cell_B h.1]) rfl h.2 hd k2
theorem r_aL {f : Int64 → am_R} (hd : decode (xC X) pc = .ok (.laload, 1)) (kk : ∀ x, Rf G l X (pc + 1) ls (.long x :: st) M (f x)) : Rf G l X pc ls (.int i :: .ref a :: st) M (aL M a i f) := by
  unfold aL
  refine Rf.ite (fun h => ?_) (fun _ => Rf.no)
  refine Rf.goH (fun p e R s m args below meth cd cells slots H locs lsR Q hC hH hS hL k2 => ?_) (kk _)
  exact va_lald hC.1 hC.2.1 hC.2.2.2.2.2.2.2.2.2.2.2.1 hH.2 a 1 (by rw [wd_at (kd_lt h.1), cell_L h.1]) rfl h.2 hd k2
theorem r_aR {f : Nat → am_R} (hd : decode (xC X) pc = .ok (.aaload, 1)) (kk : ∀ b, Rf G l X (pc + 1) ls (.ref b :: st) M (f b)) : Rf G l X pc ls (.int i :: .ref a :: st) M (aR M a i f) := by
  unfold aR
  refine Rf.ite (fun h => ?_) (fun _ => Rf.no)
  cases hr : rR M a i.toNatClampNeg with
  | none => exact Rf.no
  | some b =>
    refine Rf.goH (fun p e R s m args below meth cd cells slots H locs lsR Q hC hH hS hL k2 => ?_) (kk b)
    refine va_aldq hC.1 hC.2.1 hC.2.2.2.2.2.2.2.2.2.2.2.1 hH.2 a 3 (by rw [wd_at (kd_lt h.1), cell_R h.1]) rfl h.2 hd ?_
    rw [hr]
    exact k2
theorem r_aN {f : Int32 → am_R} (hd : decode (xC X) pc = .ok (.arraylength, 1)) (kk : ∀ x, Rf G l X (pc + 1) ls (.int x :: st) M (f x)) : Rf G l X pc ls (.ref a :: st) M (aN M a f) := by
  unfold aN
  refine Rf.ite (fun h => ?_) (fun _ => Rf.no)
  refine Rf.goH (fun p e R s m args below meth cd cells slots H locs lsR Q hC hH hS hL k2 => ?_) (kk _)
  have ha : a < mNx M := kd_lt (t := mKd M a) rfl (by omega)
  rcases (show mKd M a = 0 ∨ mKd M a = 1 ∨ mKd M a = 2 ∨ mKd M a = 3 by omega) with h1 | h1 | h1 | h1
  · exact va_alen hC.1 hC.2.1 hC.2.2.2.2.2.2.2.2.2.2.2.1 hH.2 a 0 (x := (mLn M a, .inl (rI M a))) (by rw [wd_at ha, cell_I h1]) rfl rfl hd k2
  · exact va_alen hC.1 hC.2.1 hC.2.2.2.2.2.2.2.2.2.2.2.1 hH.2 a 1 (x := (mLn M a, .inr (.inl (rL M a)))) (by rw [wd_at ha, cell_L h1]) rfl rfl hd k2
  · exact va_alen hC.1 hC.2.1 hC.2.2.2.2.2.2.2.2.2.2.2.1 hH.2 a 2 (x := (mLn M a, .inl (rI M a))) (by rw [wd_at ha, cell_B h1]) rfl rfl hd k2
  · exact va_alen hC.1 hC.2.1 hC.2.2.2.2.2.2.2.2.2.2.2.1 hH.2 a 3 (x := (mLn M a, .inr (.inr (.inr (.inr fun j => (rR M a j).map (gB G + ·)))))) (by rw [wd_at ha, cell_R h1]) rfl rfl hd k2
theorem r_tI {f : am_M → am_R} (hd : decode (xC X) pc = .ok (.iastore, 1)) (kk : ∀ M1, Rf G l X (pc + 1) ls st M1 (f M1)) : Rf G l X pc ls (.int x :: .int i :: .ref a :: st) M (tI M a i x f) := by
  unfold tI
  refine Rf.ite (fun h => ?_) (fun _ => Rf.no)
  refine Rf.goM (M1 := wI M a i.toNatClampNeg x) rfl rfl (fun p e R s m args below meth cd cells slots H locs lsR Q hC hH hS hL k2 => ?_) (kk _)
  have he : (am_wd G M)[a]? = some (gB G + a, .inl (gC G 0, mLn M a, .inl (rI M a))) := by rw [wd_at (kd_lt h.1), cell_I h.1]
  have hK := hC.2.2.2.2.2.2.2.2.2.2.2.1
  refine W.iast hC.1 hC.2.1 (hH.2 a _ he) ((hK.2 0 _ rfl).1 (mLn M a) (fun j => .int (rI M a j))) (fun q => by cases q) (by show ¬ (i < 0 ∨ (arrV _ _ _).slots.size ≤ _); rw [arrV_size]; exact h.2) rfl rfl hd fun H1 e z oq => ?_
  refine k2 H1 _ (hH.put rfl (fun j hj => cell_wI hj) (cell_I h.1) z (hH.2.set (wd_D G M) he ?_ oq)) (hS.put z oq (Nat.le_add_right _ _))
  show H1[gB G + a]? = some (vp_cell _ _)
  rw [e, ← upd_wI]
  rw [vp_cell_i, vp_cell_i, arrV_store]
  congr 2
  funext q
  by_cases hq : q = i.toNatClampNeg
  · subst hq
    simp [updV, upd]
  · simp [updV, upd, hq]
theorem r_tB {f : am_M → am_R} (hd : decode (xC X) pc = .ok (.bastore, 1)) (kk : ∀ M1, Rf G l X (pc + 1) ls st M1 (f M1)) : Rf G l X pc ls (.int x :: .int i :: .ref a :: st) M (tB M a i x f) := by
  unfold tB
  refine Rf.ite (fun h => ?_) (fun _ => Rf.no)
  refine Rf.goM (M1 := wI M a i.toNatClampNeg x.toInt8.toInt32) rfl rfl (fun p e R s m args below meth cd cells slots H locs lsR Q hC hH hS hL k2 => ?_) (kk _)
  have he : (am_wd G M)[a]? = some (gB G + a, .inl (gC G 2, mLn M a, .inl (rI M a))) := by rw [wd_at (kd_lt h.1), cell_B h.1]
  have hK := hC.2.2.2.2.2.2.2.2.2.2.2.1
  refine W.bast hC.1 hC.2.1 (hH.2 a _ he) ((hK.2 2 _ rfl).1 (mLn M a) (fun j => .int (rI M a j))) (fun q => by cases q) (by show ¬ (i < 0 ∨ (arrV _ _ _).slots.size ≤ _); rw [arrV_size]; exact h.2) rfl rfl hd fun H1 e z oq => ?_
  refine k2 H1 _ (hH.put rfl (fun j hj => cell_wI hj) (cell_B h.1) z (hH.2.set (wd_D G M) he ?_ oq)) (hS.put z oq (Nat.le_add_right _ _))
  show H1[gB G + a]? = some (vp_cell _ _)
  rw [e, ← upd_wI]
  rw [vp_cell_i, vp_cell_i, arrV_store]
  congr 2
  funext q
  by_cases hq : q = i.toNatClampNeg
  · subst hq
    simp [updV, upd, narrow_byte]
  · simp [updV, upd, hq]
theorem r_tL {f : am_M → am_R} (hd : decode (xC X) pc = .ok (.lastore, 1)) (kk : ∀ M1, Rf G l X (pc + 1) ls st M1 (f M1)) : Rf G l X pc ls (.long xl :: .int i :: .ref a :: st) M (tL M a i xl f) := by
  unfold tL
  refine Rf.ite (fun h => ?_) (fun _ => Rf.no)
  refine Rf.goM (M1 := wL M a i.toNatClampNeg xl) rfl rfl (fun p e R s m args below meth cd cells slots H locs lsR Q hC hH hS hL k2 => ?_) (kk _)
  have he : (am_wd G M)[a]? = some (gB G + a, .inl (gC G 1, mLn M a, .inr (.inl (rL M a)))) := by rw [wd_at (kd_lt h.1), cell_L h.1]
  have hK := hC.2.2.2.2.2.2.2.2.2.2.2.1
  refine W.last hC.1 hC.2.1 (hH.2 a _ he) ((hK.2 1 _ rfl).1 (mLn M a) (fun j => .long (rL M a j))) (fun q => by cases q) (by show ¬ (i < 0 ∨ (arrV _ _ _).slots.size ≤ _); rw [arrV_size]; exact h.2) rfl rfl hd fun H1 e z oq => ?_
  refine k2 H1 _ (hH.put rfl (fun j hj => cell_wL hj) (cell_L h.1) z (hH.2.set (wd_D G M) he ?_ oq)) (hS.put z oq (Nat.le_add_right _ _))
  show H1[gB G + a]? = some (vp_cell _ _)
  rw [e, ← upd_wL]
  rw [vp_cell_l, vp_cell_l, arrV_store]
  congr 2
  funext q
  by_cases hq : q = i.toNatClampNeg
  · subst hq
    simp [updV, vp_updL]
  · simp [updV, vp_updL, hq]
theorem r_tR {f : am_M → am_R} (hd : decode (xC X) pc = .ok (.aastore, 1)) (kk : ∀ M1, Rf G l X (pc + 1) ls st M1 (f M1)) : Rf G l X pc ls (.ref b :: .int i :: .ref a :: st) M (tR M a i 10 b f) := by
  unfold tR
  refine Rf.ite (fun h => ?_) (fun _ => Rf.no)
  refine Rf.goM (M1 := wR M a i.toNatClampNeg (some b)) rfl rfl (fun p e R s m args below meth cd cells slots H locs lsR Q hC hH hS hL k2 => ?_) (kk _)
  have he : (am_wd G M)[a]? = some (gB G + a, .inl (gC G 3, mLn M a, .inr (.inr (.inr (.inr fun j => (rR M a j).map (gB G + ·)))))) := by rw [wd_at (kd_lt h.1), cell_R h.1]
  have hv : (am_wd G M)[b]? = some (gB G + b, .inr (6, am_fs G M b 6)) := by rw [wd_at (kd_lt h.2.1), cell_obj h.2.1]
  have hK := hC.2.2.2.2.2.2.2.2.2.2.2.1
  have hlt : i.toNatClampNeg < mLn M a := Nat.not_le.mp fun q => h.2.2 (Or.inr q)
  have h0 : ¬ i < 0 := fun q => h.2.2 (Or.inl q)
  obtain ⟨r', hr', cellV, g1, g2, g3, -⟩ := hH.2 b _ hv
  have hcls := (hK.1 6 _ (show am_cl[6]? = some (RX6, TX6, 10) from rfl)).2
  obtain ⟨kA, comp, k1, k2', k3, -⟩ := (hK.2 3 _ (show (am_tys G)[3]? = some (gC G 3, .object RX6) from rfl)).2
  have hcomp : comp = (gD G).1 6 := Option.some.inj (k3.symm.trans hcls.1)
  subst hcomp
  obtain ⟨kC, hkC, -⟩ := id hcls.2
  refine W.aast hC.1 hC.2.1 (hH.2 a _ he) (fun q h => by cases h) (fun h => by cases h) k1 k2' rfl hkC ⟨h0, by show _ < (arrV _ _ _).slots.size; rw [arrV_size]; exact hlt⟩ g1 (fun q h => by rw [g3] at h; cases h) (by rw [g2]; exact hkC) (by rw [g2]; exact va_assign hcls) rfl rfl hd fun H1 e z oq => ?_
  refine k2 H1 _ (hH.put rfl (fun j hj => cell_wR hj) (cell_R h.1) z (hH.2.set (wd_D G M) he ?_ oq)) (hS.put z oq (Nat.le_add_right _ _))
  show H1[gB G + a]? = some (vp_cell _ _)
  rw [e, ← upd_wR]
  rw [vp_cell_q, vp_cell_q, arrV_store]
  congr 2
  funext q
  by_cases hq : q = i.toNatClampNeg
  · subst hq
    simp [updV, va_up, va_rf]
  · simp [updV, va_up, hq]
/-- a new array of numbers -/
theorem r_nA {t : Nat} {at' : ArrayType} {f : Nat → am_M → am_R} (ht : (t = 0 ∧ at' = .int) ∨ (t = 1 ∧ at' = .long) ∨ (t = 2 ∧ at' = .byte)) (hd : decode (xC X) pc = .ok (.newarray at', 2)) (hw : Cond.arrayClass (newarray.typeOf at') ∈ am_ws) (kk : ∀ b M1, Rf G l X (pc + 2) ls (.ref b :: st) M1 (f b M1)) : Rf G l X pc ls (.int i :: st) M (nA M t i f) := by
  unfold nA
  refine Rf.ite (fun h => ?_) (fun _ => Rf.no)
  refine Rf.goN (t := t) (n := i.toNatClampNeg) (fun p e R s m args below meth cd cells slots H locs lsR Q hC hH hS hL hr1 hr2 k2 => ?_) (kk _ _)
  have hK := hC.2.2.2.2.2.2.2.2.2.2.2.1
  have hN : mKd (mkC M t i.toNatClampNeg) (mNx M) = t := by rw [mKd_mkC, if_pos rfl]
  have hLn : mLn (mkC M t i.toNatClampNeg) (mNx M) = i.toNatClampNeg := by rw [mLn_mkC, if_pos rfl]
  refine va_newaK hC.1 hC.2.1 (hC.2.2.2.2.2.2.2.2.2.2.1 _ hw args) rfl hd rfl h.1 rfl ?_ hr1 hr2 (h := gB G + mNx M) hH.1 (fun H1 cA e1 z1 o1 hAr hNm => ?_)
  · rcases ht with ⟨rfl, rfl⟩ | ⟨rfl, rfl⟩ | ⟨rfl, rfl⟩
    · have : componentBytes (newarray.typeOf .int) = 4 := rfl
      rw [this]; omega
    · have : componentBytes (newarray.typeOf .long) = 8 := rfl
      rw [this]; omega
    · have : componentBytes (newarray.typeOf .byte) = 1 := rfl
      rw [this]; omega
  · refine k2 H1 (hH.push (by rw [z1, hH.1]) (fun q hq => o1 q (by rw [← hH.1]; exact hq)) ?_) ⟨Nat.le_trans hS.1 (by rw [z1, hH.1]; omega), fun q h1 h2 => (o1 q (by have := hS.1; rw [hH.1] at this; omega)).trans (hS.2.1 q h1 h2), hS.2.2⟩
    rcases ht with ⟨rfl, rfl⟩ | ⟨rfl, rfl⟩ | ⟨rfl, rfl⟩
    · rw [cell_I hN, hLn]
      have hc : cA = gC G 0 := Option.some.inj (hNm.symm.trans (hK.2 0 _ (show (am_tys G)[0]? = some (gC G 0, .int) from rfl)).2)
      subst hc
      show H1[gB G + mNx M]? = some (vp_cell _ _)
      rw [e1, vp_cell_i]
      congr 2
      funext j
      rw [rI_mkC, if_pos rfl]
      rfl
    · rw [cell_L hN, hLn]
      have hc : cA = gC G 1 := Option.some.inj (hNm.symm.trans (hK.2 1 _ (show (am_tys G)[1]? = some (gC G 1, .long) from rfl)).2)
      subst hc
      show H1[gB G + mNx M]? = some (vp_cell _ _)
      rw [e1, vp_cell_l]
      congr 2
      funext j
      rw [rL_mkC, if_pos rfl]
      rfl
    · rw [cell_B hN, hLn]
      have hc : cA = gC G 2 := Option.some.inj (hNm.symm.trans (hK.2 2 _ (show (am_tys G)[2]? = some (gC G 2, .byte) from rfl)).2)
      subst hc
      show H1[gB G + mNx M]? = some (vp_cell _ _)
      rw [e1, vp_cell_i]
      congr 2
      funext j
      rw [rI_mkC, if_pos rfl]
      rfl
theorem r_nR {f : Nat → am_M → am_R} (hd : decode (xC X) pc = .ok (.anewarray idx, 3)) (hw : Cond.classLink (xO X) idx RX6 ∈ am_ws) (kk : ∀ b M1, Rf G l X (pc + 3) ls (.ref b :: st) M1 (f b M1)) : Rf G l X pc ls (.int i :: st) M (nA M 3 i f) := by
  unfold nA
  refine Rf.ite (fun h => ?_) (fun _ => Rf.no)
  refine Rf.goN (t := 3) (n := i.toNatClampNeg) (fun p e R s m args below meth cd cells slots H locs lsR Q hC hH hS hL hr1 hr2 k2 => ?_) (kk _ _)
  have hK := hC.2.2.2.2.2.2.2.2.2.2.2.1
  have hN : mKd (mkC M 3 i.toNatClampNeg) (mNx M) = 3 := by rw [mKd_mkC, if_pos rfl]
  have hLn : mLn (mkC M 3 i.toNatClampNeg) (mNx M) = i.toNatClampNeg := by rw [mLn_mkC, if_pos rfl]
  refine W.anew hC.1 hC.2.1 hC.2.2.2.2.2.2.1 (hC.2.2.2.2.2.2.2.2.2.2.1 _ hw args) (va_AO.use hC.2.2.2.2.2.2.2.2.2.2.2.2.1) rfl hd rfl h.1 (by omega) hr1 hr2 (fun cA kA comp f1 f2 f3 f4 => ?_)
  have hc : cA = gC G 3 := by
    obtain ⟨_, _, _, _, _, h9⟩ := (hK.2 3 _ (show (am_tys G)[3]? = some (gC G 3, .object RX6) from rfl)).2
    exact Option.some.inj (f1.symm.trans h9)
  subst hc
  generalize hH1 : H.push ({ cls := gC G 3, slots := Array.replicate i.toNatClampNeg .null, vm := .none } : Cell) = H1
  have z1 : H1.size = H.size + 1 := by rw [← hH1]; simp
  have o1 : ∀ q : Nat, q < H.size → H1[q]? = H[q]? := fun q hq => by rw [← hH1, Array.getElem?_push, if_neg (Nat.ne_of_lt hq)]
  have k3 := k2 H1 (hH.push z1 o1 ?_) ⟨Nat.le_trans hS.1 (by omega), fun q h1 h2 => (o1 q (Nat.lt_of_lt_of_le h1 hS.1)).trans (hS.2.1 q h1 h2), hS.2.2⟩
  · rw [hH.1]
    exact k3
  · rw [cell_R hN, hLn]
    show H1[gB G + mNx M]? = some (vp_cell _ _)
    rw [← hH.1, ← hH1, vp_cell_q]
    simp only [Array.getElem?_push_size, arrV]
    congr 2
    apply Array.ext
    · simp
    · intro j h1 h2
      simp [rR_mkC, va_rf]
/-- a new object -/
theorem r_nO {C : String} {T : u_T} {N : Nat} {ty : Nat → FieldType} {f : Nat → am_M → am_R} (hcl : am_Cl c C T N ty) (hd : decode (xC X) pc = .ok (.new idx, 3)) (hw : Cond.classLink (xO X) idx C ∈ am_ws) (hw2 : Cond.instantiable C N ∈ am_ws) (hw3 : Cond.initialized C ∈ am_ws) (kk : ∀ b M1, Rf G l X (pc + 3) ls (.ref b :: st) M1 (f b M1)) : Rf G l X pc ls st M (nO M (c + 4) N f) := by
  unfold nO
  refine Rf.goN (t := c + 4) (n := N) (fun p e R s m args below meth cd cells slots H locs lsR Q hC hH hS hL hr1 hr2 k2 => ?_) (kk _ _)
  obtain ⟨c1, c2, c3, c4, c5, c6, c7⟩ := hcl
  have hts : ∀ w ∈ am_ws, w.before args s = true := fun w hw => hC.2.2.2.2.2.2.2.2.2.2.1 w hw args
  have hK := hC.2.2.2.2.2.2.2.2.2.2.2.1
  have hKn := hK.1 c _ c1
  have hN : mKd (mkC M (c + 4) N) (mNx M) = c + 4 := by rw [mKd_mkC, if_pos rfl]
  refine W.newcK hC.1 hC.2.1 hC.2.2.2.2.2.2.1 (hts _ hw) (hts _ hw2) (hts _ hw3) rfl hd hr1 hr2 hKn.2.1 (h := gB G + mNx M) hH.1 fun H1 kC hkC e1 z1 o1 => ?_
  refine k2 H1 (hH.push (by rw [z1, hH.1]) (fun q hq => o1 q (by rw [← hH.1]; exact hq)) ?_) ⟨Nat.le_trans hS.1 (by rw [z1, hH.1]; omega), fun q h1 h2 => (o1 q (by have := hS.1; rw [hH.1] at this; omega)).trans (hS.2.1 q h1 h2), hS.2.2⟩
  rw [cell_obj hN]
  refine ⟨_, c1, (u_born ty hts c4 hKn hkC e1 c2).to (fun j hj => ?_)⟩
  rw [c7 j hj]
  unfold vp_V
  rw [List.getD_eq_getElem?_getD, fs_at (by rw [c5]; exact hj)]
  show am_dv c j = am_fv G (mkC M (c + 4) N) (mNx M) c j
  unfold am_dv am_fv
  rw [rI_mkC, rL_mkC, rR_mkC, if_pos rfl, if_pos rfl, if_pos rfl]
  rfl
end RfRows
end
section
/-! ===== calls ===== -/
/-- what the tables say of a call: the code, the link, the length of its row of arguments -/
def am_mb (y : MethodName) (Xc : am_X) (n : Nat) : Prop := Cond.code y (xC Xc) (xL Xc) (xT Xc) ∈ am_ws ∧ Cond.initialized y.cls ∈ am_ws ∧ (y.cls ≠ "java/lang/invoke/MethodHandle" ∧ y.cls ≠ "java/lang/invoke/VarHandle") ∧ (parseMethodDescriptor y.desc).map (fun d => d.parameters.length) = some n ∧ xL Xc ≤ 18 ∧ am_gw (Cond.code y (xC Xc) (xL Xc) (xT Xc)) = true
section RfCalls
variable {G : am_G} {l : Launch} {X Xc : am_X} {pc : Nat} {ls st rest : List Value} {M : am_M} {o x : am_R} {a b c k idx n : Nat} {y : MethodName} {as : List Value}
theorem am_blind (G : am_G) (M : am_M) (av : List Value) : FrameBlind (va_Pc av (fun U => am_Hp G M U.heap ∧ am_Tb G U)) := by
  intro A U g mk h
  obtain ⟨h1, h2, h3⟩ := h
  exact ⟨h1, h2, h3.moved (U := U.calling g mk A) (State.WarmedH.refl U) (fun _ _ _ => rfl)⟩
theorem am_entry {s : State} {H : Heap} {locs : List Loc} (hT : am_Tb G s) (hH : am_Hp G M H) (hS : va_S (gA G) s.heap H locs) (av : List Value) : ∀ U : State, U.heap = H → s.WarmedH U.vm → va_Pc av (fun U => am_Hp G M U.heap ∧ am_Tb G U) av.toArray U := fun U hU hW => ⟨rfl, by rw [hU]; exact hH, hT.moved hW (fun q h1 h2 => by rw [hU]; exact hS.2.1 q h1 h2)⟩
theorem am_cat {s : State} (hT : am_Tb G s) (h : (rest.map Value.category).sum ≤ 8) : ((rest.map (rv G)).map fun v => v.category).sum ≤ 8 := by
  rw [List.map_map]
  have e : ((fun v : Value => v.category) ∘ rv G) = Value.category := by funext v; exact rv_cat hT v
  rw [e]
  exact h
/-- a call, by its contract: the rest of the walk stands over what comes back -/
theorem Rf.callC {v1 : Option Value} {M1 : am_M} (hx : x = some (v1, M1)) (hc : Ct G l y Xc as M x) (hdp : xD Xc + 1 ≤ xD X)
    (hrun : ∀ (p : Program) (e : Env) (R : Room) (s : State) (m : MethodId) (args : Array Value) (below : List Frame) (meth : Method) (cd : Code) (cells slots : Nat) (H : Heap) (locs : List Loc) (lsR : Array Slot) (mc ms : Nat) (Qc : Array Value → State → Outcome → State → Prop), am_C G X p R s m meth cd → am_Hp G M H → va_S (gA G) s.heap H locs → LV G (xL X) ls lsR → cells + mc ≤ R.cells → slots + ms ≤ R.slots → Met l y [.code y (xC Xc) (xL Xc) (xT Xc)] { frames := xD Xc, cells := mc, slots := ms, locals := 37 * xD Xc } (va_Pc (as.map (rv G)) (fun U => am_Hp G M U.heap ∧ am_Tb G U)) Qc mc ms (gA G) → va_Run p l e R s m args below meth cd H locs cells slots mc ms (F0 m pc lsR (st.map (rv G))) (rest.map (rv G)) (Qc (as.map (rv G)).toArray) (gA G))
    (k : Rf G l X (pc + 3) ls (v1.toList ++ rest) M1 o) : Rf G l X pc ls st M o := by
  intro v M' ho
  obtain ⟨hm1, hMet⟩ := hc v1 M1 hx
  obtain ⟨hm2, k⟩ := k v M' ho
  refine ⟨⟨by omega, by omega⟩, fun p e R s m args below meth cd n0 u0 cells slots H locs lsR hC h1 h2 h3 h4 hH hS hL => ?_⟩
  have hr := hrun p e R s m args below meth cd cells slots H locs lsR _ _ _ hC hH hS hL (by omega) (by omega) hMet
  intro T hT XS
  obtain ⟨vv, st0, t, T', L, h0, X', hLf, e1, e2, ⟨hq1, hq2, hq3⟩, stp⟩ := hr T hT XS
  cases hq1
  have hz := hq3.1
  have hk := hq3.2
  rw [h0] at hz hk
  have key := k p e R s m args below meth cd n0 u0 (cells + (mNx M1 - mNx M)) (slots + (mUs M1 - mUs M)) T'.heap (locs ++ L) lsR hC h1 h2 (by omega) (by omega) (by rw [e1]; exact hq2) ⟨Nat.le_trans hS.1 (by rw [e1]; exact hz), fun q g1 g2 => by rw [e1, hk q (Nat.lt_of_lt_of_le g1 hS.1) g2]; exact hS.2.1 q g1 g2, fun q hq => by
      rcases List.mem_append.mp hq with h | h
      · exact hS.2.2 q h
      · exact hLf q h⟩ hL
  have ev : (v1.toList ++ rest).map (rv G) = (v1.map (rv G)).toList ++ rest.map (rv G) := by cases v1 <;> simp
  rw [ev] at key
  obtain ⟨t2, a1, b1⟩ := key T' rfl X'
  exact ⟨t2, stp t2 a1, b1⟩
theorem am_cb {R : Room} {s : State} {args : Array Value} {m : MethodId} {p : Program} {meth : Method} {cd : Code} {mc ms : Nat} (hC : am_C G X p R s m meth cd) (hb : am_mb y Xc n) (hdp : xD Xc + 1 ≤ xD X) :
    ({ frames := xD Xc, cells := mc, slots := ms, locals := 37 * xD Xc } : Room).frames + 1 ≤ R.frames ∧ 8 + (xL Xc + 11) + ({ frames := xD Xc, cells := mc, slots := ms, locals := 37 * xD Xc } : Room).locals ≤ R.locals ∧ (∀ w ∈ [Cond.code y (xC Xc) (xL Xc) (xT Xc)], ∀ (a' : Array Value) (U : State), s.WarmedH U.vm → w.before a' U = true) ∧ (∀ sig, parseMethodDescriptor y.desc = some sig → n = sig.parameters.length) := by
  obtain ⟨b1, b2, b3, b4, b5, b6⟩ := hb
  have h1 := hC.2.2.2.2.2.2.2.1
  have h2 := hC.2.2.2.2.2.2.2.2.1
  refine ⟨Nat.le_trans hdp h1, by show 8 + (xL Xc + 11) + 37 * xD Xc ≤ _; omega, fun w hw a' U hW => ?_, fun sig h => ?_⟩
  · rw [List.mem_singleton.mp hw]
    exact word_at hW (Or.inl rfl) (hC.2.2.2.2.2.2.2.2.2.2.1 _ b1 #[])
  · rw [h] at b4
    exact (Option.some.inj b4).symm
theorem Rf.callV {v1 : Option Value} {M1 : am_M} {C : String} {T : u_T} {N : Nat} {As : List Value} (hx : x = some (v1, M1)) (hc : Ct G l y Xc (.ref b :: As) M x) (hd : decode (xC X) pc = .ok (.invokevirtual idx, 3)) (hb : am_mb y Xc n) (hw1 : Cond.methodLink (xO X) idx y ∈ am_ws) (hw2 : Cond.instanceMethod y ∈ am_ws) (hw3 : Cond.selects C y y ∈ am_ws) (hcl : am_cl[c]? = some (C, T, N)) (hdp : xD Xc + 1 ≤ xD X) (hn : As.length = n) (hst : st = As.reverse ++ .ref b :: rest) (hcat : (rest.map Value.category).sum ≤ 8) (hk : mKd M b = c + 4)
    (k : Rf G l X (pc + 3) ls (v1.toList ++ rest) M1 o) : Rf G l X pc ls st M o := by
  refine Rf.callC (rest := rest) hx hc hdp (fun p e R s m args below meth cd cells slots H locs lsR mc ms Qc hC hH hS hL hr1 hr2 hM => ?_) k
  obtain ⟨q1, q2, q3, q4⟩ := am_cb (args := args) (mc := mc) (ms := ms) hC hb hdp
  have hts : ∀ w ∈ am_ws, w.before args s = true := fun w hw => hC.2.2.2.2.2.2.2.2.2.2.1 w hw args
  have hT := hC.2.2.2.2.2.2.2.2.2.2
  have hb9 := cl_lt hcl
  have hlt := kd_lt hk (by omega)
  subst hst
  refine va_runV (Ts := am_ws) (C := C) (As := As.map (rv G)) ⟨hC.1, hC.2.1, hC.2.2.1, hC.2.2.2.2.2.2.1, hts⟩ hM ⟨⟨rfl, rfl, q1, q2, q3, List.mem_singleton.mpr rfl, hts _ hb.1, hts _ hb.2.1, hb.2.2.1, q4, hts _ hw1⟩, hts _ hw2, hts _ hw3⟩ ⟨am_blind G M _, va_recv hT.2.1 hH.2 hcl (q0 := b) (ci := c) (fs := am_fs G M b c) (by rw [wd_at hlt, cell_obj hk]), am_entry hT hH hS _⟩ rfl (by rw [List.length_map]; exact hn) hL.1 (by simp [rv]) (lv_room (am_cat hT hcat)) hd ⟨hr1, hr2⟩
theorem Rf.callS {v1 : Option Value} {M1 : am_M} (hx : x = some (v1, M1)) (hc : Ct G l y Xc as M x) (hd : decode (xC X) pc = .ok (.invokestatic idx, 3)) (hb : am_mb y Xc n) (hw1 : Cond.methodLink (xO X) idx y ∈ am_ws) (hw2 : Cond.static y ∈ am_ws) (hdp : xD Xc + 1 ≤ xD X) (hn : as.length = n) (hst : st = as.reverse ++ rest) (hcat : (rest.map Value.category).sum ≤ 8)
    (k : Rf G l X (pc + 3) ls (v1.toList ++ rest) M1 o) : Rf G l X pc ls st M o := by
  refine Rf.callC (rest := rest) hx hc hdp (fun p e R s m args below meth cd cells slots H locs lsR mc ms Qc hC hH hS hL hr1 hr2 hM => ?_) k
  obtain ⟨q1, q2, q3, q4⟩ := am_cb (args := args) (mc := mc) (ms := ms) hC hb hdp
  have hts : ∀ w ∈ am_ws, w.before args s = true := fun w hw => hC.2.2.2.2.2.2.2.2.2.2.1 w hw args
  have hT := hC.2.2.2.2.2.2.2.2.2.2
  subst hst
  refine va_runS (Ts := am_ws) (As := as.map (rv G)) ⟨hC.1, hC.2.1, hC.2.2.1, hC.2.2.2.2.2.2.1, hts⟩ hM ⟨⟨rfl, rfl, q1, q2, q3, List.mem_singleton.mpr rfl, hts _ hb.1, hts _ hb.2.1, hb.2.2.1, q4, hts _ hw1⟩, hts _ hw2⟩ ⟨am_blind G M _, am_entry hT hH hS _⟩ rfl (by rw [List.length_map]; exact hn) hL.1 (by simp) (lv_room (am_cat hT hcat)) hd ⟨hr1, hr2⟩
theorem Rf.callSN {v1 : Option Value} {M1 : am_M} {host : String} (hx : x = some (v1, M1)) (hc : Ct G l y Xc as M x) (hd : decode (xC X) pc = .ok (.invokestatic idx, 3)) (hb : am_mb y Xc n) (hw1 : Cond.methodLinkNest (xO X) idx y host ∈ am_ws) (hw2 : Cond.static y ∈ am_ws) (hdp : xD Xc + 1 ≤ xD X) (hn : as.length = n) (hst : st = as.reverse ++ rest) (hcat : (rest.map Value.category).sum ≤ 8)
    (k : Rf G l X (pc + 3) ls (v1.toList ++ rest) M1 o) : Rf G l X pc ls st M o := by
  refine Rf.callC (rest := rest) hx hc hdp (fun p e R s m args below meth cd cells slots H locs lsR mc ms Qc hC hH hS hL hr1 hr2 hM => ?_) k
  obtain ⟨q1, q2, q3, q4⟩ := am_cb (args := args) (mc := mc) (ms := ms) hC hb hdp
  have hts : ∀ w ∈ am_ws, w.before args s = true := fun w hw => hC.2.2.2.2.2.2.2.2.2.2.1 w hw args
  have hT := hC.2.2.2.2.2.2.2.2.2.2
  subst hst
  refine va_runSN (Ts := am_ws) (As := as.map (rv G)) ⟨hC.1, hC.2.1, hC.2.2.1, hC.2.2.2.2.2.2.1, hts⟩ hM ⟨⟨⟨rfl, rfl, q1, q2, q3, List.mem_singleton.mpr rfl⟩, hts _ hb.1, hts _ hb.2.1, hb.2.2.1, q4, hts _ hw1⟩, hts _ hw2, trivial⟩ ⟨am_blind G M _, am_entry hT hH hS _⟩ rfl (by rw [List.length_map]; exact hn) hL.1 (by simp) (lv_room (am_cat hT hcat)) hd ⟨hr1, hr2⟩
theorem Rf.callI {M1 : am_M} {As : List Value} (hx : x = some (none, M1)) (hc : Ct G l y Xc (.ref b :: As) M x) (hd : decode (xC X) pc = .ok (.invokespecial idx, 3)) (hb : am_mb y Xc n) (hrt : xT Xc = none) (hy : y.name = "<init>") (hw1 : Cond.methodLink (xO X) idx y ∈ am_ws) (hw2 : Cond.instanceMethod y ∈ am_ws) (hdp : xD Xc + 1 ≤ xD X) (hn : As.length = n) (hst : st = As.reverse ++ .ref b :: rest) (hcat : (rest.map Value.category).sum ≤ 8)
    (k : Rf G l X (pc + 3) ls rest M1 o) : Rf G l X pc ls st M o := by
  refine Rf.callC (v1 := none) (rest := rest) hx hc hdp (fun p e R s m args below meth cd cells slots H locs lsR mc ms Qc hC hH hS hL hr1 hr2 hM => ?_) k
  obtain ⟨q1, q2, q3, q4⟩ := am_cb (args := args) (mc := mc) (ms := ms) hC hb hdp
  have hts : ∀ w ∈ am_ws, w.before args s = true := fun w hw => hC.2.2.2.2.2.2.2.2.2.2.1 w hw args
  have hT := hC.2.2.2.2.2.2.2.2.2.2
  have hb1 := hb.1
  rw [hrt] at hM q3 hb1
  subst hst
  refine va_runI (Ts := am_ws) (As := As.map (rv G)) ⟨hC.1, hC.2.1, hC.2.2.1, hC.2.2.2.2.2.2.1, hts⟩ hM ⟨⟨rfl, rfl, q1, q2, q3, List.mem_singleton.mpr rfl, hts _ hb1, hts _ hb.2.1, hb.2.2.1, q4, hts _ hw1⟩, hy, hts _ hw2⟩ ⟨am_blind G M _, am_entry hT hH hS _⟩ rfl (by rw [List.length_map]; exact hn) hL.1 (by simp [rv]) (lv_room (am_cat hT hcat)) hd ⟨hr1, hr2⟩
theorem Rf.callIN {M1 : am_M} {As : List Value} {host : String} (hx : x = some (none, M1)) (hc : Ct G l y Xc (.ref b :: As) M x) (hd : decode (xC X) pc = .ok (.invokespecial idx, 3)) (hb : am_mb y Xc n) (hrt : xT Xc = none) (hy : y.name = "<init>") (hw1 : Cond.methodLinkNest (xO X) idx y host ∈ am_ws) (hw2 : Cond.instanceMethod y ∈ am_ws) (hdp : xD Xc + 1 ≤ xD X) (hn : As.length = n) (hst : st = As.reverse ++ .ref b :: rest) (hcat : (rest.map Value.category).sum ≤ 8)
    (k : Rf G l X (pc + 3) ls rest M1 o) : Rf G l X pc ls st M o := by
  refine Rf.callC (v1 := none) (rest := rest) hx hc hdp (fun p e R s m args below meth cd cells slots H locs lsR mc ms Qc hC hH hS hL hr1 hr2 hM => ?_) k
  obtain ⟨q1, q2, q3, q4⟩ := am_cb (args := args) (mc := mc) (ms := ms) hC hb hdp
  have hts : ∀ w ∈ am_ws, w.before args s = true := fun w hw => hC.2.2.2.2.2.2.2.2.2.2.1 w hw args
  have hT := hC.2.2.2.2.2.2.2.2.2.2
  have hb1 := hb.1
  rw [hrt] at hM q3 hb1
  subst hst
  refine va_runIN (Ts := am_ws) (As := As.map (rv G)) ⟨hC.1, hC.2.1, hC.2.2.1, hC.2.2.2.2.2.2.1, hts⟩ hM ⟨⟨⟨rfl, rfl, q1, q2, q3, List.mem_singleton.mpr rfl⟩, hts _ hb1, hts _ hb.2.1, hb.2.2.1, q4, hts _ hw1⟩, hy, hts _ hw2⟩ ⟨am_blind G M _, am_entry hT hH hS _⟩ rfl (by rw [List.length_map]; exact hn) hL.1 (by simp [rv]) (lv_room (am_cat hT hcat)) hd ⟨hr1, hr2⟩
/-- Object's constructor -/
theorem r_objInit (hd : decode (xC X) pc = .ok (.invokespecial idx, 3)) (hw : Cond.methodLink (xO X) idx objectInit ∈ am_ws) (hw2 : Cond.instanceMethod objectInit ∈ am_ws) (hw3 : Cond.code objectInit ⟨#[0xb1]⟩ 1 none ∈ am_ws) (hcat : (rest.map Value.category).sum ≤ 8) (hdp : 1 ≤ xD X) (k : Rf G l X (pc + 3) ls rest M o) : Rf G l X pc ls (.ref a :: rest) M o := by
  refine Rf.go (fun p e R s m args below meth c cells slots H locs lsR Q hC hL k => ?_) k
  have hT := hC.2.2.2.2.2.2.2.2.2.2
  have h1 := hC.2.2.2.2.2.2.2.1
  have h2 := hC.2.2.2.2.2.2.2.2.1
  have h3 := am_cat (rest := rest) hT hcat
  refine W.objInit hC.1 hC.2.1 hC.2.2.2.2.2.2.1 (hT.1 _ hw args) (hT.1 _ hw2 args) (hT.1 _ hw3 args) rfl (by rw [hC.2.2.1]; exact hL.1) rfl hd (Nat.le_trans hdp h1) (by show 2 * 0 + _ + 12 ≤ _; omega) k
/-- a contract out of a walk -/
theorem Ct.of {as : List Value} (hp : plainName y.cls = true) (hcls : y.cls = xO X) (hnm : y.name = xN X) (has : (as.map Value.category).sum ≤ xL X) (k : Rf G l X 0 (am_ini (xL X) as) [] M o) : Ct G l y X as M o := by
  intro v M' ho
  obtain ⟨hm, k⟩ := k v M' ho
  refine ⟨hm, ?_⟩
  refine Met.ofW (cc := xC X) (maxL := xL X) (ret := xT X) hp rfl ?_
  intro p e s m args below meth c s₁ B hml hv
  obtain ⟨rfl, hH, hT⟩ := hv
  rw [lg_entry_eq]
  have h5 : gB G ≤ s.heap.size := by rw [hH.1]; omega
  have hnm2 : meth.name = xN X := ((name_of_methodNamed B.named B.method).1).trans hnm
  have hown : s.vm.findClass (xO X) = some m.cls := by rw [← hcls]; exact findClass_of_methodNamed B.named
  exact k p e _ s m _ below meth c (mNx M) (mUs M) 0 0 s.heap [] _ ⟨B.exec, B.bytes, hml, B.returns, B.notSynchronized, hnm2, hown, Nat.le_refl _, Nat.le_refl _, h5, hT⟩ (by show _ ≤ mNx M + (mNx M' - mNx M); omega) (by show _ ≤ mUs M + (mUs M' - mUs M); omega) (by omega) (by omega) hH va_S.rf (LV.ini hT (by rw [sl_len hT]; exact has))
end RfCalls
end
section
/-! ===== calls, with what comes back ===== -/
def xV (w : Nat) (r : am_R) : am_R := if 100 ≤ w ∧ w < 140 then r else none
def xI (v : Nat) (i : Int32) (f : Int32 → am_R) : am_R := if (v = 2 ∨ v = 3) ∧ ¬ (i < 0 ∨ 5 ≤ i.toNatClampNeg) then f ((if v = 2 then am_KL else am_KM).getD i.toNatClampNeg 0) else none
def xB (v : Nat) (i : Int32) (f : Int32 → am_R) : am_R := if (200 ≤ v ∧ v < 240) ∧ ¬ (i < 0 ∨ am_sl (v - 200) ≤ i.toNatClampNeg) then f (am_sb (v - 200) i.toNatClampNeg) else none
def xLn (v : Nat) (f : Int32 → am_R) : am_R := if 200 ≤ v ∧ v < 240 then f (Int32.ofNat (am_sl (v - 200))) else none
section RfCalls2
variable {G : am_G} {l : Launch} {X Xc : am_X} {pc : Nat} {ls st rest : List Value} {M : am_M} {o x : am_R} {a b c k idx n : Nat} {y : MethodName} {as As : List Value} {host C : String} {T : u_T} {N : Nat}
theorem r_cvV {f : am_M → am_R} (hc : Ct G l y Xc (.ref b :: As) M x) (hd : decode (xC X) pc = .ok (.invokevirtual idx, 3)) (hb : am_mb y Xc n) (hw1 : Cond.methodLink (xO X) idx y ∈ am_ws) (hw2 : Cond.instanceMethod y ∈ am_ws) (hw3 : Cond.selects C y y ∈ am_ws) (hcl : am_cl[c]? = some (C, T, N)) (hdp : xD Xc + 1 ≤ xD X) (hn : As.length = n) (hst : st = As.reverse ++ .ref b :: rest) (hcat : (rest.map Value.category).sum ≤ 8) (kk : ∀ M1, Rf G l X (pc + 3) ls rest M1 (f M1)) : Rf G l X pc ls st M (cv M b (c + 4) (bV x f)) := by
  unfold cv
  refine Rf.ite (fun hk => ?_) (fun _ => Rf.no)
  rcases hx : x with _ | ⟨_ | v, M1⟩
  · exact Rf.no
  · exact Rf.callV (v1 := none) (M1 := M1) rfl (hx ▸ hc) hd hb hw1 hw2 hw3 hcl hdp hn hst hcat hk (kk M1)
  · exact Rf.no
theorem r_csV {f : am_M → am_R} (hc : Ct G l y Xc as M x) (hd : decode (xC X) pc = .ok (.invokestatic idx, 3)) (hb : am_mb y Xc n) (hw1 : Cond.methodLink (xO X) idx y ∈ am_ws) (hw2 : Cond.static y ∈ am_ws) (hdp : xD Xc + 1 ≤ xD X) (hn : as.length = n) (hst : st = as.reverse ++ rest) (hcat : (rest.map Value.category).sum ≤ 8) (kk : ∀ M1, Rf G l X (pc + 3) ls rest M1 (f M1)) : Rf G l X pc ls st M (bV x f) := by
  rcases hx : x with _ | ⟨_ | v, M1⟩
  · exact Rf.no
  · exact Rf.callS (v1 := none) (M1 := M1) rfl (hx ▸ hc) hd hb hw1 hw2 hdp hn hst hcat (kk M1)
  · exact Rf.no
theorem r_cvI {f : Int32 → am_M → am_R} (hc : Ct G l y Xc (.ref b :: As) M x) (hd : decode (xC X) pc = .ok (.invokevirtual idx, 3)) (hb : am_mb y Xc n) (hw1 : Cond.methodLink (xO X) idx y ∈ am_ws) (hw2 : Cond.instanceMethod y ∈ am_ws) (hw3 : Cond.selects C y y ∈ am_ws) (hcl : am_cl[c]? = some (C, T, N)) (hdp : xD Xc + 1 ≤ xD X) (hn : As.length = n) (hst : st = As.reverse ++ .ref b :: rest) (hcat : (rest.map Value.category).sum ≤ 8) (kk : ∀ r M1, Rf G l X (pc + 3) ls (.int r :: rest) M1 (f r M1)) : Rf G l X pc ls st M (cv M b (c + 4) (bI x f)) := by
  unfold cv
  refine Rf.ite (fun hk => ?_) (fun _ => Rf.no)
  rcases hx : x with _ | ⟨_ | v, M1⟩
  · exact Rf.no
  · exact Rf.no
  · cases v <;> first | exact Rf.no | skip
    rename_i r
    exact Rf.callV (v1 := some (.int r)) (M1 := M1) rfl (hx ▸ hc) hd hb hw1 hw2 hw3 hcl hdp hn hst hcat hk (kk r M1)
theorem r_csI {f : Int32 → am_M → am_R} (hc : Ct G l y Xc as M x) (hd : decode (xC X) pc = .ok (.invokestatic idx, 3)) (hb : am_mb y Xc n) (hw1 : Cond.methodLink (xO X) idx y ∈ am_ws) (hw2 : Cond.static y ∈ am_ws) (hdp : xD Xc + 1 ≤ xD X) (hn : as.length = n) (hst : st = as.reverse ++ rest) (hcat : (rest.map Value.category).sum ≤ 8) (kk : ∀ r M1, Rf G l X (pc + 3) ls (.int r :: rest) M1 (f r M1)) : Rf G l X pc ls st M (bI x f) := by
  rcases hx : x with _ | ⟨_ | v, M1⟩
  · exact Rf.no
  · exact Rf.no
  · cases v <;> first | exact Rf.no | skip
    rename_i r
    exact Rf.callS (v1 := some (.int r)) (M1 := M1) rfl (hx ▸ hc) hd hb hw1 hw2 hdp hn hst hcat (kk r M1)
theorem r_cnI {f : Int32 → am_M → am_R} (hc : Ct G l y Xc as M x) (hd : decode (xC X) pc = .ok (.invokestatic idx, 3)) (hb : am_mb y Xc n) (hw1 : Cond.methodLinkNest (xO X) idx y host ∈ am_ws) (hw2 : Cond.static y ∈ am_ws) (hdp : xD Xc + 1 ≤ xD X) (hn : as.length = n) (hst : st = as.reverse ++ rest) (hcat : (rest.map Value.category).sum ≤ 8) (kk : ∀ r M1, Rf G l X (pc + 3) ls (.int r :: rest) M1 (f r M1)) : Rf G l X pc ls st M (bI x f) := by
  rcases hx : x with _ | ⟨_ | v, M1⟩
  · exact Rf.no
  · exact Rf.no
  · cases v <;> first | exact Rf.no | skip
    rename_i r
    exact Rf.callSN (v1 := some (.int r)) (M1 := M1) rfl (hx ▸ hc) hd hb hw1 hw2 hdp hn hst hcat (kk r M1)
theorem r_cvL {f : Int64 → am_M → am_R} (hc : Ct G l y Xc (.ref b :: As) M x) (hd : decode (xC X) pc = .ok (.invokevirtual idx, 3)) (hb : am_mb y Xc n) (hw1 : Cond.methodLink (xO X) idx y ∈ am_ws) (hw2 : Cond.instanceMethod y ∈ am_ws) (hw3 : Cond.selects C y y ∈ am_ws) (hcl : am_cl[c]? = some (C, T, N)) (hdp : xD Xc + 1 ≤ xD X) (hn : As.length = n) (hst : st = As.reverse ++ .ref b :: rest) (hcat : (rest.map Value.category).sum ≤ 8) (kk : ∀ r M1, Rf G l X (pc + 3) ls (.long r :: rest) M1 (f r M1)) : Rf G l X pc ls st M (cv M b (c + 4) (bL x f)) := by
  unfold cv
  refine Rf.ite (fun hk => ?_) (fun _ => Rf.no)
  rcases hx : x with _ | ⟨_ | v, M1⟩
  · exact Rf.no
  · exact Rf.no
  · cases v <;> first | exact Rf.no | skip
    rename_i r
    exact Rf.callV (v1 := some (.long r)) (M1 := M1) rfl (hx ▸ hc) hd hb hw1 hw2 hw3 hcl hdp hn hst hcat hk (kk r M1)
theorem r_csL {f : Int64 → am_M → am_R} (hc : Ct G l y Xc as M x) (hd : decode (xC X) pc = .ok (.invokestatic idx, 3)) (hb : am_mb y Xc n) (hw1 : Cond.methodLink (xO X) idx y ∈ am_ws) (hw2 : Cond.static y ∈ am_ws) (hdp : xD Xc + 1 ≤ xD X) (hn : as.length = n) (hst : st = as.reverse ++ rest) (hcat : (rest.map Value.category).sum ≤ 8) (kk : ∀ r M1, Rf G l X (pc + 3) ls (.long r :: rest) M1 (f r M1)) : Rf G l X pc ls st M (bL x f) := by
  rcases hx : x with _ | ⟨_ | v, M1⟩
  · exact Rf.no
  · exact Rf.no
  · cases v <;> first | exact Rf.no | skip
    rename_i r
    exact Rf.callS (v1 := some (.long r)) (M1 := M1) rfl (hx ▸ hc) hd hb hw1 hw2 hdp hn hst hcat (kk r M1)
theorem r_cvR {fn : am_M → am_R} {f : Nat → am_M → am_R} (hc : Ct G l y Xc (.ref b :: As) M x) (hd : decode (xC X) pc = .ok (.invokevirtual idx, 3)) (hb : am_mb y Xc n) (hw1 : Cond.methodLink (xO X) idx y ∈ am_ws) (hw2 : Cond.instanceMethod y ∈ am_ws) (hw3 : Cond.selects C y y ∈ am_ws) (hcl : am_cl[c]? = some (C, T, N)) (hdp : xD Xc + 1 ≤ xD X) (hn : As.length = n) (hst : st = As.reverse ++ .ref b :: rest) (hcat : (rest.map Value.category).sum ≤ 8) (kn : ∀ M1, Rf G l X (pc + 3) ls (.null :: rest) M1 (fn M1)) (kk : ∀ r M1, Rf G l X (pc + 3) ls (.ref r :: rest) M1 (f r M1)) : Rf G l X pc ls st M (cv M b (c + 4) (bR x fn f)) := by
  unfold cv
  refine Rf.ite (fun hk => ?_) (fun _ => Rf.no)
  rcases hx : x with _ | ⟨_ | v, M1⟩
  · exact Rf.no
  · exact Rf.no
  · cases v <;> first | exact Rf.no | skip
    · exact Rf.callV (v1 := some .null) (M1 := M1) rfl (hx ▸ hc) hd hb hw1 hw2 hw3 hcl hdp hn hst hcat hk (kn M1)
    · rename_i r
      exact Rf.callV (v1 := some (.ref r)) (M1 := M1) rfl (hx ▸ hc) hd hb hw1 hw2 hw3 hcl hdp hn hst hcat hk (kk r M1)
theorem r_csR {fn : am_M → am_R} {f : Nat → am_M → am_R} (hc : Ct G l y Xc as M x) (hd : decode (xC X) pc = .ok (.invokestatic idx, 3)) (hb : am_mb y Xc n) (hw1 : Cond.methodLink (xO X) idx y ∈ am_ws) (hw2 : Cond.static y ∈ am_ws) (hdp : xD Xc + 1 ≤ xD X) (hn : as.length = n) (hst : st = as.reverse ++ rest) (hcat : (rest.map Value.category).sum ≤ 8) (kn : ∀ M1, Rf G l X (pc + 3) ls (.null :: rest) M1 (fn M1)) (kk : ∀ r M1, Rf G l X (pc + 3) ls (.ref r :: rest) M1 (f r M1)) : Rf G l X pc ls st M (bR x fn f) := by
  rcases hx : x with _ | ⟨_ | v, M1⟩
  · exact Rf.no
  · exact Rf.no
  · cases v <;> first | exact Rf.no | skip
    · exact Rf.callS (v1 := some .null) (M1 := M1) rfl (hx ▸ hc) hd hb hw1 hw2 hdp hn hst hcat (kn M1)
    · rename_i r
      exact Rf.callS (v1 := some (.ref r)) (M1 := M1) rfl (hx ▸ hc) hd hb hw1 hw2 hdp hn hst hcat (kk r M1)
theorem r_ciV {f : am_M → am_R} (hc : Ct G l y Xc (.ref b :: As) M x) (hd : decode (xC X) pc = .ok (.invokespecial idx, 3)) (hb : am_mb y Xc n) (hrt : xT Xc = none) (hy : y.name = "<init>") (hw1 : Cond.methodLink (xO X) idx y ∈ am_ws) (hw2 : Cond.instanceMethod y ∈ am_ws) (hdp : xD Xc + 1 ≤ xD X) (hn : As.length = n) (hst : st = As.reverse ++ .ref b :: rest) (hcat : (rest.map Value.category).sum ≤ 8) (kk : ∀ M1, Rf G l X (pc + 3) ls rest M1 (f M1)) : Rf G l X pc ls st M (bV x f) := by
  rcases hx : x with _ | ⟨_ | v, M1⟩
  · exact Rf.no
  · exact Rf.callI (M1 := M1) rfl (hx ▸ hc) hd hb hrt hy hw1 hw2 hdp hn hst hcat (kk M1)
  · exact Rf.no
theorem r_cinV {f : am_M → am_R} (hc : Ct G l y Xc (.ref b :: As) M x) (hd : decode (xC X) pc = .ok (.invokespecial idx, 3)) (hb : am_mb y Xc n) (hrt : xT Xc = none) (hy : y.name = "<init>") (hw1 : Cond.methodLinkNest (xO X) idx y host ∈ am_ws) (hw2 : Cond.instanceMethod y ∈ am_ws) (hdp : xD Xc + 1 ≤ xD X) (hn : As.length = n) (hst : st = As.reverse ++ .ref b :: rest) (hcat : (rest.map Value.category).sum ≤ 8) (kk : ∀ M1, Rf G l X (pc + 3) ls rest M1 (f M1)) : Rf G l X pc ls st M (bV x f) := by
  rcases hx : x with _ | ⟨_ | v, M1⟩
  · exact Rf.no
  · exact Rf.callIN (M1 := M1) rfl (hx ▸ hc) hd hb hrt hy hw1 hw2 hdp hn hst hcat (kk M1)
  · exact Rf.no
end RfCalls2
end
section
/-! ===== constants, statics, texts, copies ===== -/
def cpy (M : am_M) (a0 : Nat) (sp : Int32) (a1 : Nat) (dp n : Int32) (f : am_M → am_R) : am_R := if (mKd M a0 = 0 ∧ mKd M a1 = 0) ∧ (¬ sp < 0 ∧ ¬ dp < 0 ∧ ¬ n < 0) ∧ sp.toNatClampNeg + n.toNatClampNeg ≤ mLn M a0 ∧ dp.toNatClampNeg + n.toNatClampNeg ≤ mLn M a1 then f (cpI M a0 sp.toNatClampNeg a1 dp.toNatClampNeg n.toNatClampNeg) else none
section RfSp
variable {G : am_G} {l : Launch} {X Xc : am_X} {pc : Nat} {ls st rest : List Value} {M : am_M} {o x : am_R} {a b c k idx n w : Nat} {i : Int32} {y : MethodName} {as As : List Value}
theorem am_s1 {s : State} (hT : am_Tb G s) (h : 100 ≤ w ∧ w < 140) : ∃ (own : String) (idx : Nat) (tx : String) (k : Nat), w = 100 + k ∧ am_S1 G s k own idx tx := by
  have hk : w - 100 < am_str.length := by show w - 100 < 40; omega
  obtain ⟨⟨own, idx, tx⟩, hq⟩ : ∃ q, am_str[w - 100]? = some q := ⟨_, List.getElem?_eq_getElem hk⟩
  exact ⟨own, idx, tx, w - 100, by omega, hT.2.2.2.1 _ own idx tx hq⟩
theorem r_ldcS {tx : String} (hd : decode (xC X) pc = .ok (.ldc idx, 2)) (k : Nat) (hs : am_str[k]? = some (xO X, idx, tx)) (kk : Rf G l X (pc + 2) ls (.retAddr (100 + k) :: st) M o) : Rf G l X pc ls st M o := by
  refine Rf.goH (fun p e R s m args below meth cd cells slots H locs lsR Q hC hH hS hL k2 => ?_) kk
  obtain ⟨a, v, q1, q2, q3, -⟩ := hC.2.2.2.2.2.2.2.2.2.2.2.2.2.1 k _ _ _ hs
  have e : rv G (.retAddr (100 + k)) = .ref a := q1
  rw [List.map_cons, e] at k2
  exact va_ldcS hC.1 hC.2.1 hC.2.2.2.2.2.2.1 q3 hd k2
theorem r_ldcw (hd : decode (xC X) pc = .ok (.ldc_w idx, 3)) (v : Int32) (hw : Cond.constant (xO X) idx v ∈ am_ws) (k : Rf G l X (pc + 3) ls (.int v :: st) M o) : Rf G l X pc ls st M o := Rf.go (fun p e R s m args below meth c cells slots H locs lsR Q hC hL k => lv_ldcw hC.1 hC.2.1 hC.2.2.2.2.2.2.1 (hC.2.2.2.2.2.2.2.2.2.2.1 _ hw _) hd k) k
theorem r_spV (hd : decode (xC X) pc = .ok (.getfield idx, 3)) (hw : Cond.fieldLink (xO X) idx "java/lang/String" "value" "[B" ∈ am_ws) (kk : Rf G l X (pc + 3) ls (.retAddr (w + 100) :: st) M o) : Rf G l X pc ls (.retAddr w :: st) M (xV w o) := by
  unfold xV
  refine Rf.ite (fun h => ?_) (fun _ => Rf.no)
  refine Rf.goH (fun p e R s m args below meth cd cells slots H locs lsR Q hC hH hS hL k2 => ?_) kk
  have hT := hC.2.2.2.2.2.2.2.2.2.2
  obtain ⟨own, ix, tx, k, rfl, a, v, q1, q2, q3, q4, q5, q6, q7⟩ := am_s1 hT h
  have e : rv G (.retAddr (100 + k)) = .ref a := q1
  have e2 : rv G (.retAddr (100 + k + 100)) = .ref v := by rw [show 100 + k + 100 = 200 + k by omega]; exact q2
  rw [List.map_cons, e2] at k2
  rw [List.map_cons, e]
  exact vk_getf hC.1 hC.2.1 q6 hS hC.2.2.2.2.2.2.1 (hT.1 _ hw args) (fun _ h => h) hd k2
theorem r_spC (hd : decode (xC X) pc = .ok (.getfield idx, 3)) (hw : Cond.fieldLink (xO X) idx "java/lang/String" "coder" "B" ∈ am_ws) (kk : Rf G l X (pc + 3) ls (.int 0 :: st) M o) : Rf G l X pc ls (.retAddr w :: st) M (xV w o) := by
  unfold xV
  refine Rf.ite (fun h => ?_) (fun _ => Rf.no)
  refine Rf.goH (fun p e R s m args below meth cd cells slots H locs lsR Q hC hH hS hL k2 => ?_) kk
  have hT := hC.2.2.2.2.2.2.2.2.2.2
  obtain ⟨own, ix, tx, k, rfl, a, v, q1, q2, q3, q4, q5, q6, q7⟩ := am_s1 hT h
  have e : rv G (.retAddr (100 + k)) = .ref a := q1
  rw [List.map_cons, e]
  exact vk_getf hC.1 hC.2.1 q5 hS hC.2.2.2.2.2.2.1 (hT.1 _ hw args) (fun _ h => h) hd k2
theorem r_getZ (hd : decode (xC X) pc = .ok (.getstatic idx, 3)) (hw : Cond.fieldLink (xO X) idx "java/lang/String" "COMPACT_STRINGS" "Z" ∈ am_ws) (kk : Rf G l X (pc + 3) ls (.int 1 :: st) M o) : Rf G l X pc ls st M o := by
  refine Rf.goH (fun p e R s m args below meth cd cells slots H locs lsR Q hC hH hS hL k2 => ?_) kk
  have hT := hC.2.2.2.2.2.2.2.2.2.2
  exact va_gets hC.1 hC.2.1 hT.2.2.2.2.2.2.1 hS hC.2.2.2.2.2.2.1 (hT.1 _ hw args) (fun _ h => h) hd k2
theorem r_getF (hd : decode (xC X) pc = .ok (.getstatic idx, 3)) (hw : Cond.fieldLink (xO X) idx "jdk/internal/util/Preconditions" "SIOOBE_FORMATTER" "Ljava/util/function/BiFunction;" ∈ am_ws) (kk : Rf G l X (pc + 3) ls (.retAddr 4 :: st) M o) : Rf G l X pc ls st M o := by
  refine Rf.goH (fun p e R s m args below meth cd cells slots H locs lsR Q hC hH hS hL k2 => ?_) kk
  have hT := hC.2.2.2.2.2.2.2.2.2.2
  exact va_gets hC.1 hC.2.1 hT.2.2.2.2.2.2.2.1 hS hC.2.2.2.2.2.2.1 (hT.1 _ hw args) (fun _ h => h) hd k2
theorem r_getKL (hd : decode (xC X) pc = .ok (.getstatic idx, 3)) (hw : Cond.fieldLink (xO X) idx "NumberedSparks" "KIND_LEAST" "[I" ∈ am_ws) (kk : Rf G l X (pc + 3) ls (.retAddr 2 :: st) M o) : Rf G l X pc ls st M o := by
  refine Rf.goH (fun p e R s m args below meth cd cells slots H locs lsR Q hC hH hS hL k2 => ?_) kk
  have hT := hC.2.2.2.2.2.2.2.2.2.2
  obtain ⟨a, q1, q2, -⟩ := hT.2.2.2.2.1
  have e : rv G (.retAddr 2) = .ref a := q1
  rw [List.map_cons, e] at k2
  exact va_gets hC.1 hC.2.1 q2 hS hC.2.2.2.2.2.2.1 (hT.1 _ hw args) (fun _ h => h) hd k2
theorem r_getKM (hd : decode (xC X) pc = .ok (.getstatic idx, 3)) (hw : Cond.fieldLink (xO X) idx "NumberedSparks" "KIND_MOST" "[I" ∈ am_ws) (kk : Rf G l X (pc + 3) ls (.retAddr 3 :: st) M o) : Rf G l X pc ls st M o := by
  refine Rf.goH (fun p e R s m args below meth cd cells slots H locs lsR Q hC hH hS hL k2 => ?_) kk
  have hT := hC.2.2.2.2.2.2.2.2.2.2
  obtain ⟨a, q1, q2, -⟩ := hT.2.2.2.2.2.1
  have e : rv G (.retAddr 3) = .ref a := q1
  rw [List.map_cons, e] at k2
  exact va_gets hC.1 hC.2.1 q2 hS hC.2.2.2.2.2.2.1 (hT.1 _ hw args) (fun _ h => h) hd k2
theorem am_tlen {z N : Nat} (h1 : N ≤ z) (h2 : z.toInt32 = Int32.ofNat N) (i : Int32) (hi : i.toNatClampNeg < N) : ¬ z ≤ i.toNatClampNeg := by omega
theorem r_xI {v : Nat} {f : Int32 → am_R} (hd : decode (xC X) pc = .ok (.iaload, 1)) (kk : ∀ x, Rf G l X (pc + 1) ls (.int x :: st) M (f x)) : Rf G l X pc ls (.int i :: .retAddr v :: st) M (xI v i f) := by
  unfold xI
  refine Rf.ite (fun h => ?_) (fun _ => Rf.no)
  refine Rf.goH (fun p e R s m args below meth cd cells slots H locs lsR Q hC hH hS hL k2 => ?_) (kk _)
  have hT := hC.2.2.2.2.2.2.2.2.2.2
  have hlt : i.toNatClampNeg < 5 := Nat.not_le.mp fun q => h.2 (Or.inr q)
  have h0 : ¬ i < 0 := fun q => h.2 (Or.inl q)
  rcases h.1 with rfl | rfl
  · obtain ⟨a, q1, -, q3⟩ := hT.2.2.2.2.1
    obtain ⟨cell, t1, t2, t3, t4, t5, t6, -⟩ := q3.kept hS.2.1
    have e : rv G (.retAddr 2) = .ref a := q1
    rw [List.map_cons, List.map_cons, e]
    exact W.iald hC.1 hC.2.1 t1 t2 t3 (fun q => q.elim h0 (fun z => by omega)) (t6 _ hlt) rfl rfl hd k2
  · obtain ⟨a, q1, -, q3⟩ := hT.2.2.2.2.2.1
    obtain ⟨cell, t1, t2, t3, t4, t5, t6, -⟩ := q3.kept hS.2.1
    have e : rv G (.retAddr 3) = .ref a := q1
    rw [List.map_cons, List.map_cons, e]
    exact W.iald hC.1 hC.2.1 t1 t2 t3 (fun q => q.elim h0 (fun z => by omega)) (t6 _ hlt) rfl rfl hd k2
theorem am_s2 {s : State} (hT : am_Tb G s) (h : 200 ≤ w ∧ w < 240) : ∃ (k v : Nat), w = 200 + k ∧ gS G (200 + k) = .ref v ∧ va_T .byte v (am_sl k) (fun j => .int (am_sb k j)) (gA G) s s.heap := by
  obtain ⟨own, ix, tx, k, hk, a, v, q1, q2, q3, q4, q5, q6, q7⟩ := am_s1 (w := w - 100) hT (by omega)
  exact ⟨k, v, by omega, q2, q7⟩
theorem r_xB {v : Nat} {f : Int32 → am_R} (hd : decode (xC X) pc = .ok (.baload, 1)) (kk : ∀ x, Rf G l X (pc + 1) ls (.int x :: st) M (f x)) : Rf G l X pc ls (.int i :: .retAddr v :: st) M (xB v i f) := by
  unfold xB
  refine Rf.ite (fun h => ?_) (fun _ => Rf.no)
  refine Rf.goH (fun p e R s m args below meth cd cells slots H locs lsR Q hC hH hS hL k2 => ?_) (kk _)
  have hT := hC.2.2.2.2.2.2.2.2.2.2
  obtain ⟨k, v', rfl, q1, q3⟩ := am_s2 hT h.1
  have hlt : i.toNatClampNeg < am_sl k := Nat.not_le.mp fun q => h.2 (Or.inr (by rw [show 200 + k - 200 = k by omega]; exact q))
  have h0 : ¬ i < 0 := fun q => h.2 (Or.inl q)
  obtain ⟨cell, t1, t2, t3, t4, t5, t6, -⟩ := q3.kept hS.2.1
  have e : rv G (.retAddr (200 + k)) = .ref v' := q1
  rw [show 200 + k - 200 = k by omega] at k2
  rw [List.map_cons, List.map_cons, e]
  exact W.bald hC.1 hC.2.1 t1 t2 t3 (fun q => q.elim h0 (fun z => by omega)) (t6 _ hlt) rfl rfl hd k2
theorem r_xLn {v : Nat} {f : Int32 → am_R} (hd : decode (xC X) pc = .ok (.arraylength, 1)) (kk : ∀ x, Rf G l X (pc + 1) ls (.int x :: st) M (f x)) : Rf G l X pc ls (.retAddr v :: st) M (xLn v f) := by
  unfold xLn
  refine Rf.ite (fun h => ?_) (fun _ => Rf.no)
  refine Rf.goH (fun p e R s m args below meth cd cells slots H locs lsR Q hC hH hS hL k2 => ?_) (kk _)
  have hT := hC.2.2.2.2.2.2.2.2.2.2
  obtain ⟨k, v', rfl, q1, q3⟩ := am_s2 hT h
  obtain ⟨cell, t1, t2, t3, t4, t5, t6, -⟩ := q3.kept hS.2.1
  have e : rv G (.retAddr (200 + k)) = .ref v' := q1
  rw [show 200 + k - 200 = k by omega] at k2
  rw [List.map_cons, e]
  exact W.alen hC.1 hC.2.1 t1 t2 t5 rfl rfl hd k2
/-- a method of a String constant -/
theorem r_cvS {f : Int32 → am_M → am_R} (hc : Ct G l y Xc (.retAddr w :: As) M x) (hd : decode (xC X) pc = .ok (.invokevirtual idx, 3)) (hb : am_mb y Xc n) (hw1 : Cond.methodLink (xO X) idx y ∈ am_ws) (hw2 : Cond.instanceMethod y ∈ am_ws) (hw3 : Cond.selects "java/lang/String" y y ∈ am_ws) (hdp : xD Xc + 1 ≤ xD X) (hn : As.length = n) (hst : st = As.reverse ++ .retAddr w :: rest) (hcat : (rest.map Value.category).sum ≤ 8) (kk : ∀ r M1, Rf G l X (pc + 3) ls (.int r :: rest) M1 (f r M1)) : Rf G l X pc ls st M (xV w (bI x f)) := by
  unfold xV
  refine Rf.ite (fun h => ?_) (fun _ => Rf.no)
  rcases hx : x with _ | ⟨_ | v, M1⟩
  · exact Rf.no
  · exact Rf.no
  · cases v <;> first | exact Rf.no | skip
    rename_i r
    refine Rf.callC (v1 := some (.int r)) (M1 := M1) (rest := rest) rfl (hx ▸ hc) hdp (fun p e R s m args below meth cd cells slots H locs lsR mc ms Qc hC hH hS hL hr1 hr2 hM => ?_) (kk r M1)
    obtain ⟨q1, q2, q3, q4⟩ := am_cb (args := args) (mc := mc) (ms := ms) hC hb hdp
    have hts : ∀ w ∈ am_ws, w.before args s = true := fun w hw => hC.2.2.2.2.2.2.2.2.2.2.1 w hw args
    have hT := hC.2.2.2.2.2.2.2.2.2.2
    obtain ⟨own, ix, tx, k, rfl, a, v, z1, z2, z3, z4, z5, z6, z7⟩ := am_s1 hT h
    have e2 : rv G (.retAddr (100 + k)) = .ref a := z1
    subst hst
    have hP := am_entry (M := M) hT hH hS ((.retAddr (100 + k) :: As).map (rv G))
    have hB := am_blind G M ((.retAddr (100 + k) :: As).map (rv G))
    rw [List.map_cons, e2] at hM hP hB ⊢
    obtain ⟨cell, g1, g2, g3, -⟩ := z4.kept hS.2.1
    exact va_runV (Ts := am_ws) (C := "java/lang/String") (As := As.map (rv G)) ⟨hC.1, hC.2.1, hC.2.2.1, hC.2.2.2.2.2.2.1, hts⟩ hM ⟨⟨rfl, rfl, q1, q2, q3, List.mem_singleton.mpr rfl, hts _ hb.1, hts _ hb.2.1, hb.2.2.1, q4, hts _ hw1⟩, hts _ hw2, hts _ hw3⟩ ⟨hB, ⟨cell, g1, g2, g3⟩, hP⟩ rfl (by rw [List.length_map]; exact hn) hL.1 (by simp [e2]) (lv_room (am_cat hT hcat)) hd ⟨hr1, hr2⟩
theorem r_cpy {sp dp nn : Int32} {f : am_M → am_R} (hd : decode (xC X) pc = .ok (.invokestatic idx, 3)) (hw1 : Cond.methodLink (xO X) idx arraycopyName ∈ am_ws) (hw2 : Cond.native arraycopyName ∈ am_ws) (hw3 : Cond.static arraycopyName ∈ am_ws) (hw4 : Cond.initialized "java/lang/System" ∈ am_ws) (hcat : (rest.map Value.category).sum ≤ 8) (hdp : 1 ≤ xD X) (kk : ∀ M1, Rf G l X (pc + 3) ls rest M1 (f M1)) : Rf G l X pc ls (.int nn :: .int dp :: .ref b :: .int sp :: .ref a :: rest) M (cpy M a sp b dp nn f) := by
  unfold cpy
  refine Rf.ite (fun h => ?_) (fun _ => Rf.no)
  obtain ⟨⟨k0, k1⟩, ⟨h1, h2, h3⟩, h4, h5⟩ := h
  refine Rf.goM (M1 := cpI M a sp.toNatClampNeg b dp.toNatClampNeg nn.toNatClampNeg) rfl rfl (fun p e R s m args below meth cd cells slots H locs lsR Q hC hH hS hL kk => ?_) (kk _)
  have hT := hC.2.2.2.2.2.2.2.2.2.2
  have hK := hT.2.1
  have nn' : ∀ z : Int32, ¬ z < 0 → z.toInt = (z.toNatClampNeg : Int) := by
    intro z hz
    have hz0 : (0 : Int) ≤ z.toInt := by
      have := Int32.not_lt.mp hz
      simpa using Int32.le_iff_toInt_le.mp this
    show z.toInt = ((z.toInt.toNat : Nat) : Int)
    omega
  have ha0 : (am_wd G M)[a]? = some (gB G + a, .inl (gC G 0, mLn M a, .inl (rI M a))) := by rw [wd_at (kd_lt k0), cell_I k0]
  have ha1 : (am_wd G M)[b]? = some (gB G + b, .inl (gC G 0, mLn M b, .inl (rI M b))) := by rw [wd_at (kd_lt k1), cell_I k1]
  have hlo := hC.2.2.2.2.2.2.2.2.1
  have hfr := hC.2.2.2.2.2.2.2.1
  have hc8 := am_cat (rest := rest) hT hcat
  intro T hTh XS
  have hc0 : H[gB G + a]? = some (vp_cell (gC G 0) (mLn M a, .inl (rI M a))) := hH.2 a _ ha0
  have hc1 : H[gB G + b]? = some (vp_cell (gC G 0) (mLn M b, .inl (rI M b))) := hH.2 b _ ha1
  have ht : (am_tys G)[0]? = some (gC G 0, .int) := rfl
  obtain ⟨-, kc0, hk0, cm0, hkk0⟩ := (hK.2 0 _ ht).1 (mLn M a) (fun j => .int (rI M a j))
  obtain ⟨-, kc1, hk1, cm1, hkk1⟩ := (hK.2 0 _ ht).1 (mLn M b) (fun j => .int (rI M b j))
  obtain ⟨vm', X', step⟩ := XS.arraycopy hC.1 hC.2.2.2.2.2.2.1 (hT.1 _ hw1 args) (hT.1 _ hw2 args) (hT.1 _ hw3 args) (hT.1 _ hw4 args) (src := gB G + a) (dst := gB G + b) (cs := vp_cell (gC G 0) (mLn M a, .inl (rI M a))) (cd := vp_cell (gC G 0) (mLn M b, .inl (rI M b))) (srcPos := sp) (destPos := dp) (n := nn) (by rw [hTh]; exact hc0) (by rw [hTh]; exact hc1)
    (fun _ h => by cases h) (fun _ h => by cases h) (fun h => by cases h) (fun h => by cases h) hk0 hk1 hkk0 hkk1 (by simp [show refKind .int = false from rfl]) h1 h2 h3
    (by rw [nn' sp h1, nn' nn h3]; show ¬ _ > ((arrV (gC G 0) (mLn M a) (fun j => .int (rI M a j))).slots.size : Int); rw [arrV_size]; omega)
    (by rw [nn' dp h2, nn' nn h3]; show ¬ _ > ((arrV (gC G 0) (mLn M b) (fun j => .int (rI M b j))).slots.size : Int); rw [arrV_size]; omega)
    (fun vm₁ _ i hi => by
      have e : (vp_cell (gC G 0) (mLn M a, .inl (rI M a))).slots.getD (sp.toNatClampNeg + i) .null = .int (rI M a (sp.toNatClampNeg + i)) := by
        show (arrV (gC G 0) (mLn M a) (fun j => .int (rI M a j))).slots.getD _ _ = _
        rw [Array.getD_eq_getD_getElem?, arrV_read _ _ (by omega)]
        rfl
      refine ⟨?_, ?_⟩
      · rw [e]
        rfl
      · rw [e]
        exact trivial)
    (g := F0 m pc lsR (.int nn :: .int dp :: .ref (gB G + b) :: .int sp :: .ref (gB G + a) :: rest.map (rv G))) rfl (by rw [hC.2.2.1]; exact hL.1) (rest := rest.map (rv G)) rfl (by rw [hC.2.1]; exact hd) (Nat.le_trans hdp hfr) (by
      have h37 : nativeFrameWords "java/lang/System" "arraycopy" 5 ≤ 18 := by decide +kernel
      show 2 * 0 + _ + _ ≤ _
      omega)
  have e1 : copied (vp_cell (gC G 0) (mLn M a, .inl (rI M a))) (vp_cell (gC G 0) (mLn M b, .inl (rI M b))) sp dp nn = vp_cell (gC G 0) (mLn M b, .inl (va_cpy (rI M a) (rI M b) sp.toNatClampNeg dp.toNatClampNeg nn.toNatClampNeg)) := va_copied (fun z => .int z) (gC G 0) (gC G 0) (rI M a) (rI M b) h4
  rw [e1] at X' step
  have hl : gB G + b < H.size := (Array.getElem?_eq_some_iff.mp hc1).1
  have hheap : ((T.setVm vm').setCell (gB G + b) (vp_cell (gC G 0) (mLn M b, .inl (va_cpy (rI M a) (rI M b) sp.toNatClampNeg dp.toNatClampNeg nn.toNatClampNeg)))).heap = H.setIfInBounds (gB G + b) (vp_cell (gC G 0) (mLn M b, .inl (va_cpy (rI M a) (rI M b) sp.toNatClampNeg dp.toNatClampNeg nn.toNatClampNeg))) := by rw [← hTh]; rfl
  have oq : ∀ q : Nat, q ≠ gB G + b → (H.setIfInBounds (gB G + b) (vp_cell (gC G 0) (mLn M b, .inl (va_cpy (rI M a) (rI M b) sp.toNatClampNeg dp.toNatClampNeg nn.toNatClampNeg))))[q]? = H[q]? := fun q hq => by simp [Array.getElem?_setIfInBounds, Ne.symm hq]
  have hcell : am_cell G (cpI M a sp.toNatClampNeg b dp.toNatClampNeg nn.toNatClampNeg) b = .inl (gC G 0, mLn M b, .inl (va_cpy (rI M a) (rI M b) sp.toNatClampNeg dp.toNatClampNeg nn.toNatClampNeg)) := by
    rw [cell_I (show mKd (cpI M a sp.toNatClampNeg b dp.toNatClampNeg nn.toNatClampNeg) b = 0 from k1)]
    have : rI (cpI M a sp.toNatClampNeg b dp.toNatClampNeg nn.toNatClampNeg) b = va_cpy (rI M a) (rI M b) sp.toNatClampNeg dp.toNatClampNeg nn.toNatClampNeg := by
      show (if b = b then _ else _) = _
      rw [if_pos rfl]
      rfl
    rw [this]
    rfl
  obtain ⟨t, a1, b1⟩ := kk _ _ (hH.put rfl (fun j hj => cell_same rfl rfl (by show (if j = b then _ else _) = _; rw [if_neg hj]; rfl) rfl rfl) hcell (by simp) (hH.2.set (wd_D G M) ha1 (show (H.setIfInBounds (gB G + b) _)[gB G + b]? = some _ by simp [Array.getElem?_setIfInBounds, hl]) oq)) ⟨by simp; exact hS.1, fun q g1 g2 => by
      rw [oq q (fun e => g2 (by rw [e]; exact Nat.le_add_right _ _))]
      exact hS.2.1 q g1 g2, fun q hq => by
      rcases List.mem_append.mp hq with h | h
      · exact hS.2.2 q h
      · obtain ⟨z, -, hz⟩ := List.mem_map.mp h
        rw [← hz]
        exact Nat.le_add_right _ _⟩ _ hheap X'
  exact ⟨t, step t a1, b1⟩
end RfSp
end
section
/-! ===== words of the tables by their places (printed by wip/whole/gen_tables.py) ===== -/
theorem am_inw {w : Cond} (h : w ∈ lw_tbl) (g : am_gw w = true) : w ∈ am_ws := List.mem_filter.mpr ⟨h, g⟩
theorem am_t1 {w : Cond} (i : Nat) (h : tables_1_1[i]? = some w) (g : am_gw w = true) : w ∈ am_ws := am_inw (List.mem_append_right _ (List.mem_append_left _ (List.mem_of_getElem? h))) g
theorem am_t2 {w : Cond} (i : Nat) (h : tables_1_2[i]? = some w) (g : am_gw w = true) : w ∈ am_ws := am_inw (List.mem_append_right _ (List.mem_append_right _ (List.mem_append_left _ (List.mem_of_getElem? h)))) g
theorem am_t3 {w : Cond} (i : Nat) (h : tables_1_3[i]? = some w) (g : am_gw w = true) : w ∈ am_ws := am_inw (List.mem_append_right _ (List.mem_append_right _ (List.mem_append_right _ (List.mem_append_left _ (List.mem_of_getElem? h))))) g
theorem am_t4 {w : Cond} (i : Nat) (h : tables_1_4[i]? = some w) (g : am_gw w = true) : w ∈ am_ws := am_inw (List.mem_append_right _ (List.mem_append_right _ (List.mem_append_right _ (List.mem_append_right _ (List.mem_append_left _ (List.mem_of_getElem? h)))))) g
theorem am_t5 {w : Cond} (i : Nat) (h : tables_1_5[i]? = some w) (g : am_gw w = true) : w ∈ am_ws := am_inw (List.mem_append_right _ (List.mem_append_right _ (List.mem_append_right _ (List.mem_append_right _ (List.mem_append_right _ (List.mem_append_left _ (List.mem_of_getElem? h))))))) g
theorem am_t6 {w : Cond} (i : Nat) (h : tables_1_6[i]? = some w) (g : am_gw w = true) : w ∈ am_ws := am_inw (List.mem_append_right _ (List.mem_append_right _ (List.mem_append_right _ (List.mem_append_right _ (List.mem_append_right _ (List.mem_append_right _ (List.mem_append_left _ (List.mem_of_getElem? h)))))))) g
theorem am_t7 {w : Cond} (i : Nat) (h : tables_1_7[i]? = some w) (g : am_gw w = true) : w ∈ am_ws := am_inw (List.mem_append_right _ (List.mem_append_right _ (List.mem_append_right _ (List.mem_append_right _ (List.mem_append_right _ (List.mem_append_right _ (List.mem_append_right _ (List.mem_append_left _ (List.mem_of_getElem? h))))))))) g
theorem am_t8 {w : Cond} (i : Nat) (h : tables_1_8[i]? = some w) (g : am_gw w = true) : w ∈ am_ws := am_inw (List.mem_append_right _ (List.mem_append_right _ (List.mem_append_right _ (List.mem_append_right _ (List.mem_append_right _ (List.mem_append_right _ (List.mem_append_right _ (List.mem_append_right _ (List.mem_of_getElem? h))))))))) g
theorem am_tp {w : Cond} (i : Nat) (h : (k2_sels lw_privs)[i]? = some w) (g : am_gw w = true) : w ∈ am_ws := am_inw (List.mem_append_left _ (List.mem_of_getElem? h)) g
theorem wd_0 : (Cond.initialized "NumberedSparksLaw") ∈ am_ws := am_t1 0 rfl rfl
theorem wd_1 : (Cond.initialized "NumberedSparks") ∈ am_ws := am_t1 1 rfl rfl
theorem wd_2 : (Cond.initialized "NumberedSparks$Scene") ∈ am_ws := am_t1 2 rfl rfl
theorem wd_3 : (Cond.initialized "NumberedSparks$Reader") ∈ am_ws := am_t1 3 rfl rfl
theorem wd_4 : (Cond.initialized "NumberedSparks$History") ∈ am_ws := am_t1 4 rfl rfl
theorem wd_5 : (Cond.initialized "NumberedSparks$Output") ∈ am_ws := am_t1 5 rfl rfl
theorem wd_6 : (Cond.initialized "NumberedSparks$Walk") ∈ am_ws := am_t1 6 rfl rfl
theorem wd_7 : (Cond.initialized "NumberedSparks$Spark") ∈ am_ws := am_t1 7 rfl rfl
theorem wd_8 : (Cond.initialized "NumberedSparks$Frame") ∈ am_ws := am_t1 8 rfl rfl
theorem wd_9 : (Cond.initialized "NumberedSparks$Finder") ∈ am_ws := am_t1 9 rfl rfl
theorem wd_10 : (Cond.initialized "NumberedSparksModel") ∈ am_ws := am_t1 10 rfl rfl
theorem wd_11 : (Cond.initialized "java/lang/Math") ∈ am_ws := am_t1 11 rfl rfl
theorem wd_12 : (Cond.initialized "java/util/Arrays") ∈ am_ws := am_t1 12 rfl rfl
theorem wd_13 : (Cond.initialized "java/lang/String") ∈ am_ws := am_t1 13 rfl rfl
theorem wd_14 : (Cond.initialized "java/lang/StringLatin1") ∈ am_ws := am_t1 14 rfl rfl
theorem wd_15 : (Cond.initialized "jdk/internal/util/Preconditions") ∈ am_ws := am_t1 15 rfl rfl
theorem wd_16 : (Cond.initialized "java/lang/StringUTF16") ∈ am_ws := am_t1 16 rfl rfl
theorem wd_17 : (Cond.initialized "java/lang/System") ∈ am_ws := am_t1 17 rfl rfl
theorem wd_18 : (Cond.classLink "NumberedSparksLaw" (7 : Nat) "NumberedSparks") ∈ am_ws := am_t1 18 rfl rfl
theorem wd_19 : (Cond.instantiable "NumberedSparks" (11 : Nat)) ∈ am_ws := am_t1 19 rfl rfl
theorem wd_20 : (Cond.methodLink "NumberedSparksLaw" (9 : Nat) ({ cls := "NumberedSparks", name := "<init>", desc := "()V" } : MethodName)) ∈ am_ws := am_t1 20 rfl rfl
theorem wd_21 : (Cond.instanceMethod ({ cls := "NumberedSparks", name := "<init>", desc := "()V" } : MethodName)) ∈ am_ws := am_t1 21 rfl rfl
theorem wd_22 : (Cond.code ({ cls := "NumberedSparks", name := "<init>", desc := "()V" } : MethodName) prog_1_method_1_code (1 : Nat) (Option.none : Option FieldType)) ∈ am_ws := am_t1 22 rfl rfl
theorem wd_23 : (Cond.methodLink "NumberedSparks" (1 : Nat) ({ cls := "java/lang/Object", name := "<init>", desc := "()V" } : MethodName)) ∈ am_ws := am_t1 23 rfl rfl
theorem wd_24 : (Cond.instanceMethod ({ cls := "java/lang/Object", name := "<init>", desc := "()V" } : MethodName)) ∈ am_ws := am_t1 24 rfl rfl
theorem wd_25 : (Cond.code ({ cls := "java/lang/Object", name := "<init>", desc := "()V" } : MethodName) object_method_1_code (1 : Nat) (Option.none : Option FieldType)) ∈ am_ws := am_t1 25 rfl rfl
theorem wd_26 : (Cond.classLink "NumberedSparks" (13 : Nat) "NumberedSparks$Scene") ∈ am_ws := am_t1 26 rfl rfl
theorem wd_27 : (Cond.instantiable "NumberedSparks$Scene" (8 : Nat)) ∈ am_ws := am_t1 27 rfl rfl
theorem wd_28 : (Cond.methodLinkNest "NumberedSparks" (15 : Nat) ({ cls := "NumberedSparks$Scene", name := "<init>", desc := "()V" } : MethodName) "NumberedSparks") ∈ am_ws := am_t1 28 rfl rfl
theorem wd_29 : (Cond.instanceMethod ({ cls := "NumberedSparks$Scene", name := "<init>", desc := "()V" } : MethodName)) ∈ am_ws := am_t1 29 rfl rfl
theorem wd_30 : (Cond.code ({ cls := "NumberedSparks$Scene", name := "<init>", desc := "()V" } : MethodName) prog_7_method_1_code (1 : Nat) (Option.none : Option FieldType)) ∈ am_ws := am_t1 30 rfl rfl
theorem wd_31 : (Cond.methodLink "NumberedSparks$Scene" (3 : Nat) ({ cls := "java/lang/Object", name := "<init>", desc := "()V" } : MethodName)) ∈ am_ws := am_t1 31 rfl rfl
theorem wd_32 : (Cond.fieldLink "NumberedSparks$Scene" (9 : Nat) "NumberedSparks$Scene" "cells" "[I") ∈ am_ws := am_t1 32 rfl rfl
theorem wd_33 : (Cond.fieldLink "NumberedSparks$Reader" (86 : Nat) "NumberedSparks$Scene" "cells" "[I") ∈ am_ws := am_t1 33 rfl rfl
theorem wd_34 : (Cond.fieldLink "NumberedSparks$Scene" (15 : Nat) "NumberedSparks$Scene" "kinds" "[I") ∈ am_ws := am_t1 34 rfl rfl
theorem wd_35 : (Cond.fieldLink "NumberedSparks$Scene" (18 : Nat) "NumberedSparks$Scene" "sources" "[I") ∈ am_ws := am_t1 35 rfl rfl
theorem wd_36 : (Cond.fieldLink "NumberedSparks$Scene" (27 : Nat) "NumberedSparks$Scene" "kindCount" "I") ∈ am_ws := am_t1 36 rfl rfl
theorem wd_37 : (Cond.fieldLink "NumberedSparks$Walk" (67 : Nat) "NumberedSparks$Scene" "kindCount" "I") ∈ am_ws := am_t1 37 rfl rfl
theorem wd_38 : (Cond.fieldLink "NumberedSparks$Reader" (99 : Nat) "NumberedSparks$Scene" "kindCount" "I") ∈ am_ws := am_t1 38 rfl rfl
theorem wd_39 : (Cond.fieldLink "NumberedSparks" (104 : Nat) "NumberedSparks$Scene" "kindCount" "I") ∈ am_ws := am_t1 39 rfl rfl
theorem wd_40 : (Cond.fieldLink "NumberedSparks$Scene" (31 : Nat) "NumberedSparks$Scene" "sourceCount" "I") ∈ am_ws := am_t1 40 rfl rfl
theorem wd_41 : (Cond.fieldLink "NumberedSparks" (107 : Nat) "NumberedSparks$Scene" "sourceCount" "I") ∈ am_ws := am_t1 41 rfl rfl
theorem wd_42 : (Cond.fieldLink "NumberedSparks$Reader" (146 : Nat) "NumberedSparks$Scene" "sourceCount" "I") ∈ am_ws := am_t1 42 rfl rfl
theorem wd_43 : (Cond.fieldLink "NumberedSparks$Scene" (34 : Nat) "NumberedSparks$Scene" "seed" "I") ∈ am_ws := am_t1 43 rfl rfl
theorem wd_44 : (Cond.fieldLink "NumberedSparks$Reader" (97 : Nat) "NumberedSparks$Scene" "seed" "I") ∈ am_ws := am_t1 44 rfl rfl
theorem wd_45 : (Cond.fieldLink "NumberedSparks$History" (35 : Nat) "NumberedSparks$Scene" "seed" "I") ∈ am_ws := am_t1 45 rfl rfl
theorem wd_46 : (Cond.fieldLink "NumberedSparks" (110 : Nat) "NumberedSparks$Scene" "seed" "I") ∈ am_ws := am_t1 46 rfl rfl
theorem wd_47 : (Cond.fieldLink "NumberedSparks$Scene" (37 : Nat) "NumberedSparks$Scene" "seedTold" "Z") ∈ am_ws := am_t1 47 rfl rfl
theorem wd_48 : (Cond.fieldLink "NumberedSparks$Reader" (92 : Nat) "NumberedSparks$Scene" "seedTold" "Z") ∈ am_ws := am_t1 48 rfl rfl
theorem wd_49 : (Cond.fieldLink "NumberedSparks$Frame" (51 : Nat) "NumberedSparks$Scene" "stands" "Z") ∈ am_ws := am_t1 49 rfl rfl
theorem wd_50 : (Cond.fieldLink "NumberedSparks$Scene" (47 : Nat) "NumberedSparks$Scene" "stands" "Z") ∈ am_ws := am_t1 50 rfl rfl
theorem wd_51 : (Cond.fieldLink "NumberedSparks" (130 : Nat) "NumberedSparks$Scene" "stands" "Z") ∈ am_ws := am_t1 51 rfl rfl
theorem wd_69 : (Cond.arrayClass FieldType.int) ∈ am_ws := am_t1 69 rfl rfl
theorem wd_70 : (Cond.classLink "NumberedSparks" (20 : Nat) "NumberedSparks$Reader") ∈ am_ws := am_t1 70 rfl rfl
theorem wd_71 : (Cond.instantiable "NumberedSparks$Reader" (9 : Nat)) ∈ am_ws := am_t1 71 rfl rfl
theorem wd_72 : (Cond.methodLinkNest "NumberedSparks" (22 : Nat) ({ cls := "NumberedSparks$Reader", name := "<init>", desc := "()V" } : MethodName) "NumberedSparks") ∈ am_ws := am_t1 72 rfl rfl
theorem wd_73 : (Cond.instanceMethod ({ cls := "NumberedSparks$Reader", name := "<init>", desc := "()V" } : MethodName)) ∈ am_ws := am_t1 73 rfl rfl
theorem wd_74 : (Cond.code ({ cls := "NumberedSparks$Reader", name := "<init>", desc := "()V" } : MethodName) prog_6_method_1_code (1 : Nat) (Option.none : Option FieldType)) ∈ am_ws := am_t1 74 rfl rfl
theorem wd_75 : (Cond.methodLink "NumberedSparks$Reader" (3 : Nat) ({ cls := "java/lang/Object", name := "<init>", desc := "()V" } : MethodName)) ∈ am_ws := am_t1 75 rfl rfl
theorem wd_76 : (Cond.classLink "NumberedSparks$Reader" (9 : Nat) "NumberedSparks$Scene") ∈ am_ws := am_t1 76 rfl rfl
theorem wd_77 : (Cond.methodLinkNest "NumberedSparks$Reader" (11 : Nat) ({ cls := "NumberedSparks$Scene", name := "<init>", desc := "()V" } : MethodName) "NumberedSparks") ∈ am_ws := am_t1 77 rfl rfl
theorem wd_78 : (Cond.fieldLink "NumberedSparks$Reader" (12 : Nat) "NumberedSparks$Reader" "draft" "LNumberedSparks$Scene;") ∈ am_ws := am_t1 78 rfl rfl
theorem wd_79 : (Cond.fieldLink "NumberedSparks" (84 : Nat) "NumberedSparks$Reader" "draft" "LNumberedSparks$Scene;") ∈ am_ws := am_t1 79 rfl rfl
theorem wd_80 : (Cond.fieldLink "NumberedSparks$Reader" (38 : Nat) "NumberedSparks$Reader" "fault" "I") ∈ am_ws := am_t1 80 rfl rfl
theorem wd_81 : (Cond.fieldLink "NumberedSparks" (94 : Nat) "NumberedSparks$Reader" "fault" "I") ∈ am_ws := am_t1 81 rfl rfl
theorem wd_82 : (Cond.fieldLink "NumberedSparks$Reader" (18 : Nat) "NumberedSparks$Reader" "faultPlace" "I") ∈ am_ws := am_t1 82 rfl rfl
theorem wd_83 : (Cond.fieldLink "NumberedSparks" (97 : Nat) "NumberedSparks$Reader" "faultPlace" "I") ∈ am_ws := am_t1 83 rfl rfl
theorem wd_84 : (Cond.fieldLink "NumberedSparks$Reader" (22 : Nat) "NumberedSparks$Reader" "text" "[I") ∈ am_ws := am_t1 84 rfl rfl
theorem wd_85 : (Cond.fieldLink "NumberedSparks$Reader" (32 : Nat) "NumberedSparks$Reader" "length" "I") ∈ am_ws := am_t1 85 rfl rfl
theorem wd_86 : (Cond.fieldLink "NumberedSparks$Reader" (50 : Nat) "NumberedSparks$Reader" "token" "I") ∈ am_ws := am_t1 86 rfl rfl
theorem wd_87 : (Cond.fieldLink "NumberedSparks$Reader" (170 : Nat) "NumberedSparks$Reader" "start" "I") ∈ am_ws := am_t1 87 rfl rfl
theorem wd_88 : (Cond.fieldLink "NumberedSparks$Reader" (41 : Nat) "NumberedSparks$Reader" "beyond" "I") ∈ am_ws := am_t1 88 rfl rfl
theorem wd_89 : (Cond.fieldLink "NumberedSparks$Reader" (137 : Nat) "NumberedSparks$Reader" "value" "I") ∈ am_ws := am_t1 89 rfl rfl
theorem wd_109 : (Cond.classLink "NumberedSparks" (27 : Nat) "NumberedSparks$History") ∈ am_ws := am_t1 109 rfl rfl
theorem wd_110 : (Cond.instantiable "NumberedSparks$History" (4 : Nat)) ∈ am_ws := am_t1 110 rfl rfl
theorem wd_111 : (Cond.methodLinkNest "NumberedSparks" (29 : Nat) ({ cls := "NumberedSparks$History", name := "<init>", desc := "()V" } : MethodName) "NumberedSparks") ∈ am_ws := am_t1 111 rfl rfl
theorem wd_112 : (Cond.instanceMethod ({ cls := "NumberedSparks$History", name := "<init>", desc := "()V" } : MethodName)) ∈ am_ws := am_t1 112 rfl rfl
theorem wd_113 : (Cond.code ({ cls := "NumberedSparks$History", name := "<init>", desc := "()V" } : MethodName) prog_4_method_1_code (1 : Nat) (Option.none : Option FieldType)) ∈ am_ws := am_t1 113 rfl rfl
theorem wd_114 : (Cond.methodLink "NumberedSparks$History" (3 : Nat) ({ cls := "java/lang/Object", name := "<init>", desc := "()V" } : MethodName)) ∈ am_ws := am_t1 114 rfl rfl
theorem wd_115 : (Cond.fieldLink "NumberedSparks$History" (11 : Nat) "NumberedSparks$History" "kinds" "[I") ∈ am_ws := am_t1 115 rfl rfl
theorem wd_116 : (Cond.fieldLink "NumberedSparks$History" (15 : Nat) "NumberedSparks$History" "whats" "[I") ∈ am_ws := am_t1 116 rfl rfl
theorem wd_117 : (Cond.fieldLink "NumberedSparks$History" (18 : Nat) "NumberedSparks$History" "values" "[I") ∈ am_ws := am_t1 117 rfl rfl
theorem wd_118 : (Cond.fieldLink "NumberedSparks$History" (21 : Nat) "NumberedSparks$History" "length" "I") ∈ am_ws := am_t1 118 rfl rfl
theorem wd_119 : (Cond.fieldLink "NumberedSparks" (155 : Nat) "NumberedSparks$History" "length" "I") ∈ am_ws := am_t1 119 rfl rfl
theorem wd_129 : (Cond.classLink "NumberedSparks" (34 : Nat) "NumberedSparks$Output") ∈ am_ws := am_t1 129 rfl rfl
theorem wd_130 : (Cond.instantiable "NumberedSparks$Output" (2 : Nat)) ∈ am_ws := am_t1 130 rfl rfl
theorem wd_131 : (Cond.methodLinkNest "NumberedSparks" (36 : Nat) ({ cls := "NumberedSparks$Output", name := "<init>", desc := "()V" } : MethodName) "NumberedSparks") ∈ am_ws := am_t1 131 rfl rfl
theorem wd_132 : (Cond.instanceMethod ({ cls := "NumberedSparks$Output", name := "<init>", desc := "()V" } : MethodName)) ∈ am_ws := am_t1 132 rfl rfl
theorem wd_133 : (Cond.code ({ cls := "NumberedSparks$Output", name := "<init>", desc := "()V" } : MethodName) prog_5_method_1_code (1 : Nat) (Option.none : Option FieldType)) ∈ am_ws := am_t1 133 rfl rfl
theorem wd_134 : (Cond.methodLink "NumberedSparks$Output" (3 : Nat) ({ cls := "java/lang/Object", name := "<init>", desc := "()V" } : MethodName)) ∈ am_ws := am_t1 134 rfl rfl
theorem wd_135 : (Cond.fieldLink "NumberedSparks$Output" (9 : Nat) "NumberedSparks$Output" "bytes" "[I") ∈ am_ws := am_t1 135 rfl rfl
theorem wd_136 : (Cond.fieldLink "NumberedSparks$Output" (15 : Nat) "NumberedSparks$Output" "length" "I") ∈ am_ws := am_t1 136 rfl rfl
theorem wd_137 : (Cond.fieldLink "NumberedSparks" (113 : Nat) "NumberedSparks$Output" "length" "I") ∈ am_ws := am_t1 137 rfl rfl
theorem wd_143 : (Cond.classLink "NumberedSparks" (41 : Nat) "NumberedSparks$Walk") ∈ am_ws := am_t1 143 rfl rfl
theorem wd_144 : (Cond.instantiable "NumberedSparks$Walk" (9 : Nat)) ∈ am_ws := am_t1 144 rfl rfl
theorem wd_145 : (Cond.methodLink "NumberedSparks" (43 : Nat) ({ cls := "NumberedSparks$Walk", name := "<init>", desc := "(LNumberedSparks$Scene;)V" } : MethodName)) ∈ am_ws := am_t1 145 rfl rfl
theorem wd_146 : (Cond.instanceMethod ({ cls := "NumberedSparks$Walk", name := "<init>", desc := "(LNumberedSparks$Scene;)V" } : MethodName)) ∈ am_ws := am_t1 146 rfl rfl
theorem wd_147 : (Cond.code ({ cls := "NumberedSparks$Walk", name := "<init>", desc := "(LNumberedSparks$Scene;)V" } : MethodName) prog_9_method_1_code (3 : Nat) (Option.none : Option FieldType)) ∈ am_ws := am_t1 147 rfl rfl
theorem wd_148 : (Cond.methodLink "NumberedSparks$Walk" (3 : Nat) ({ cls := "java/lang/Object", name := "<init>", desc := "()V" } : MethodName)) ∈ am_ws := am_t1 148 rfl rfl
theorem wd_149 : (Cond.classLink "NumberedSparks$Walk" (9 : Nat) "NumberedSparks$Spark") ∈ am_ws := am_t1 149 rfl rfl
theorem wd_151 : (Cond.instantiable "NumberedSparks$Spark" (10 : Nat)) ∈ am_ws := am_t1 151 rfl rfl
theorem wd_152 : (Cond.methodLink "NumberedSparks$Walk" (34 : Nat) ({ cls := "NumberedSparks$Spark", name := "<init>", desc := "(LNumberedSparks$Scene;)V" } : MethodName)) ∈ am_ws := am_t1 152 rfl rfl
theorem wd_153 : (Cond.instanceMethod ({ cls := "NumberedSparks$Spark", name := "<init>", desc := "(LNumberedSparks$Scene;)V" } : MethodName)) ∈ am_ws := am_t1 153 rfl rfl
theorem wd_154 : (Cond.code ({ cls := "NumberedSparks$Spark", name := "<init>", desc := "(LNumberedSparks$Scene;)V" } : MethodName) prog_8_method_1_code (2 : Nat) (Option.none : Option FieldType)) ∈ am_ws := am_t1 154 rfl rfl
theorem wd_155 : (Cond.methodLink "NumberedSparks$Spark" (3 : Nat) ({ cls := "java/lang/Object", name := "<init>", desc := "()V" } : MethodName)) ∈ am_ws := am_t1 155 rfl rfl
theorem wd_156 : (Cond.fieldLink "NumberedSparks$Spark" (18 : Nat) "NumberedSparks$Spark" "scene" "LNumberedSparks$Scene;") ∈ am_ws := am_t1 156 rfl rfl
theorem wd_157 : (Cond.fieldLink "NumberedSparks$Spark" (9 : Nat) "NumberedSparks$Spark" "start" "[I") ∈ am_ws := am_t1 157 rfl rfl
theorem wd_158 : (Cond.fieldLink "NumberedSparks" (264 : Nat) "NumberedSparks$Spark" "start" "[I") ∈ am_ws := am_t1 158 rfl rfl
theorem wd_159 : (Cond.fieldLink "NumberedSparks$Spark" (15 : Nat) "NumberedSparks$Spark" "speed" "[I") ∈ am_ws := am_t1 159 rfl rfl
theorem wd_160 : (Cond.fieldLink "NumberedSparks" (203 : Nat) "NumberedSparks$Spark" "speed" "[I") ∈ am_ws := am_t1 160 rfl rfl
theorem wd_161 : (Cond.fieldLink "NumberedSparks$Spark" (26 : Nat) "NumberedSparks$Spark" "code" "I") ∈ am_ws := am_t1 161 rfl rfl
theorem wd_162 : (Cond.fieldLink "NumberedSparks$Frame" (97 : Nat) "NumberedSparks$Spark" "code" "I") ∈ am_ws := am_t1 162 rfl rfl
theorem wd_163 : (Cond.fieldLink "NumberedSparks" (249 : Nat) "NumberedSparks$Spark" "code" "I") ∈ am_ws := am_t1 163 rfl rfl
theorem wd_164 : (Cond.fieldLink "NumberedSparks$Spark" (35 : Nat) "NumberedSparks$Spark" "kind" "I") ∈ am_ws := am_t1 164 rfl rfl
theorem wd_165 : (Cond.fieldLink "NumberedSparks$Frame" (100 : Nat) "NumberedSparks$Spark" "kind" "I") ∈ am_ws := am_t1 165 rfl rfl
theorem wd_166 : (Cond.fieldLink "NumberedSparks$Walk" (101 : Nat) "NumberedSparks$Spark" "kind" "I") ∈ am_ws := am_t1 166 rfl rfl
theorem wd_167 : (Cond.fieldLink "NumberedSparks" (180 : Nat) "NumberedSparks$Spark" "kind" "I") ∈ am_ws := am_t1 167 rfl rfl
theorem wd_168 : (Cond.fieldLink "NumberedSparks$Spark" (38 : Nat) "NumberedSparks$Spark" "generation" "I") ∈ am_ws := am_t1 168 rfl rfl
theorem wd_169 : (Cond.fieldLink "NumberedSparks$Walk" (118 : Nat) "NumberedSparks$Spark" "generation" "I") ∈ am_ws := am_t1 169 rfl rfl
theorem wd_170 : (Cond.fieldLink "NumberedSparks" (191 : Nat) "NumberedSparks$Spark" "generation" "I") ∈ am_ws := am_t1 170 rfl rfl
theorem wd_171 : (Cond.fieldLink "NumberedSparks$Spark" (41 : Nat) "NumberedSparks$Spark" "born" "I") ∈ am_ws := am_t1 171 rfl rfl
theorem wd_172 : (Cond.fieldLink "NumberedSparks$Frame" (92 : Nat) "NumberedSparks$Spark" "born" "I") ∈ am_ws := am_t1 172 rfl rfl
theorem wd_173 : (Cond.fieldLink "NumberedSparks$Walk" (112 : Nat) "NumberedSparks$Spark" "born" "I") ∈ am_ws := am_t1 173 rfl rfl
theorem wd_174 : (Cond.fieldLink "NumberedSparks" (197 : Nat) "NumberedSparks$Spark" "born" "I") ∈ am_ws := am_t1 174 rfl rfl
theorem wd_175 : (Cond.fieldLink "NumberedSparks$Spark" (51 : Nat) "NumberedSparks$Spark" "ends" "I") ∈ am_ws := am_t1 175 rfl rfl
theorem wd_176 : (Cond.fieldLink "NumberedSparks$Frame" (103 : Nat) "NumberedSparks$Spark" "ends" "I") ∈ am_ws := am_t1 176 rfl rfl
theorem wd_177 : (Cond.fieldLink "NumberedSparks$Walk" (115 : Nat) "NumberedSparks$Spark" "ends" "I") ∈ am_ws := am_t1 177 rfl rfl
theorem wd_178 : (Cond.fieldLink "NumberedSparks" (200 : Nat) "NumberedSparks$Spark" "ends" "I") ∈ am_ws := am_t1 178 rfl rfl
theorem wd_179 : (Cond.fieldLink "NumberedSparks$Spark" (60 : Nat) "NumberedSparks$Spark" "falls" "I") ∈ am_ws := am_t1 179 rfl rfl
theorem wd_180 : (Cond.fieldLink "NumberedSparks$Spark" (63 : Nat) "NumberedSparks$Spark" "edge" "I") ∈ am_ws := am_t1 180 rfl rfl
theorem wd_202 : (Cond.fieldLink "NumberedSparks$Walk" (30 : Nat) "NumberedSparks$Walk" "scene" "LNumberedSparks$Scene;") ∈ am_ws := am_t1 202 rfl rfl
theorem wd_203 : (Cond.fieldLink "NumberedSparks$Walk" (11 : Nat) "NumberedSparks$Walk" "line" "[LNumberedSparks$Spark;") ∈ am_ws := am_t1 203 rfl rfl
theorem wd_204 : (Cond.fieldLink "NumberedSparks$Walk" (17 : Nat) "NumberedSparks$Walk" "shownRows" "[I") ∈ am_ws := am_t1 204 rfl rfl
theorem wd_205 : (Cond.fieldLink "NumberedSparks$Walk" (21 : Nat) "NumberedSparks$Walk" "nextRoot" "[I") ∈ am_ws := am_t1 205 rfl rfl
theorem wd_206 : (Cond.fieldLink "NumberedSparks$Walk" (24 : Nat) "NumberedSparks$Walk" "beyondRoots" "[I") ∈ am_ws := am_t1 206 rfl rfl
theorem wd_207 : (Cond.fieldLink "NumberedSparks$Walk" (27 : Nat) "NumberedSparks$Walk" "spans" "[I") ∈ am_ws := am_t1 207 rfl rfl
theorem wd_208 : (Cond.fieldLink "NumberedSparks$Walk" (37 : Nat) "NumberedSparks$Walk" "first" "I") ∈ am_ws := am_t1 208 rfl rfl
theorem wd_209 : (Cond.fieldLink "NumberedSparks$Walk" (41 : Nat) "NumberedSparks$Walk" "beyond" "I") ∈ am_ws := am_t1 209 rfl rfl
theorem wd_210 : (Cond.fieldLink "NumberedSparks$Frame" (75 : Nat) "NumberedSparks$Walk" "showing" "I") ∈ am_ws := am_t1 210 rfl rfl
theorem wd_211 : (Cond.fieldLink "NumberedSparks$Walk" (76 : Nat) "NumberedSparks$Walk" "showing" "I") ∈ am_ws := am_t1 211 rfl rfl
theorem wd_212 : (Cond.fieldLink "NumberedSparks" (243 : Nat) "NumberedSparks$Walk" "showing" "I") ∈ am_ws := am_t1 212 rfl rfl
theorem wd_232 : (Cond.classLink "NumberedSparks" (50 : Nat) "NumberedSparks$Frame") ∈ am_ws := am_t1 232 rfl rfl
theorem wd_233 : (Cond.instantiable "NumberedSparks$Frame" (13 : Nat)) ∈ am_ws := am_t1 233 rfl rfl
theorem wd_234 : (Cond.methodLink "NumberedSparks" (52 : Nat) ({ cls := "NumberedSparks$Frame", name := "<init>", desc := "(LNumberedSparks$Scene;LNumberedSparks$Walk;)V" } : MethodName)) ∈ am_ws := am_t1 234 rfl rfl
theorem wd_235 : (Cond.instanceMethod ({ cls := "NumberedSparks$Frame", name := "<init>", desc := "(LNumberedSparks$Scene;LNumberedSparks$Walk;)V" } : MethodName)) ∈ am_ws := am_t1 235 rfl rfl
theorem wd_236 : (Cond.code ({ cls := "NumberedSparks$Frame", name := "<init>", desc := "(LNumberedSparks$Scene;LNumberedSparks$Walk;)V" } : MethodName) prog_3_method_1_code (3 : Nat) (Option.none : Option FieldType)) ∈ am_ws := am_t1 236 rfl rfl
theorem wd_237 : (Cond.methodLink "NumberedSparks$Frame" (3 : Nat) ({ cls := "java/lang/Object", name := "<init>", desc := "()V" } : MethodName)) ∈ am_ws := am_t1 237 rfl rfl
theorem wd_238 : (Cond.fieldLink "NumberedSparks$Frame" (43 : Nat) "NumberedSparks$Frame" "scene" "LNumberedSparks$Scene;") ∈ am_ws := am_t1 238 rfl rfl
theorem wd_239 : (Cond.fieldLink "NumberedSparks$Frame" (47 : Nat) "NumberedSparks$Frame" "walk" "LNumberedSparks$Walk;") ∈ am_ws := am_t1 239 rfl rfl
theorem wd_240 : (Cond.fieldLink "NumberedSparks$Frame" (61 : Nat) "NumberedSparks$Frame" "length" "I") ∈ am_ws := am_t2 0 rfl rfl
theorem wd_241 : (Cond.fieldLink "NumberedSparks" (312 : Nat) "NumberedSparks$Frame" "length" "I") ∈ am_ws := am_t2 1 rfl rfl
theorem wd_242 : (Cond.fieldLink "NumberedSparks$Frame" (9 : Nat) "NumberedSparks$Frame" "codes" "[I") ∈ am_ws := am_t2 2 rfl rfl
theorem wd_243 : (Cond.fieldLink "NumberedSparks" (316 : Nat) "NumberedSparks$Frame" "codes" "[I") ∈ am_ws := am_t2 3 rfl rfl
theorem wd_244 : (Cond.fieldLink "NumberedSparks$Frame" (15 : Nat) "NumberedSparks$Frame" "kinds" "[I") ∈ am_ws := am_t2 4 rfl rfl
theorem wd_245 : (Cond.fieldLink "NumberedSparks" (313 : Nat) "NumberedSparks$Frame" "kinds" "[I") ∈ am_ws := am_t2 5 rfl rfl
theorem wd_246 : (Cond.fieldLink "NumberedSparks$Frame" (18 : Nat) "NumberedSparks$Frame" "borns" "[I") ∈ am_ws := am_t2 6 rfl rfl
theorem wd_247 : (Cond.fieldLink "NumberedSparks" (361 : Nat) "NumberedSparks$Frame" "borns" "[I") ∈ am_ws := am_t2 7 rfl rfl
theorem wd_248 : (Cond.fieldLink "NumberedSparks$Frame" (21 : Nat) "NumberedSparks$Frame" "ends" "[I") ∈ am_ws := am_t2 8 rfl rfl
theorem wd_249 : (Cond.fieldLink "NumberedSparks" (364 : Nat) "NumberedSparks$Frame" "ends" "[I") ∈ am_ws := am_t2 9 rfl rfl
theorem wd_250 : (Cond.fieldLink "NumberedSparks$Frame" (24 : Nat) "NumberedSparks$Frame" "xs" "[I") ∈ am_ws := am_t2 10 rfl rfl
theorem wd_251 : (Cond.fieldLink "NumberedSparks" (326 : Nat) "NumberedSparks$Frame" "xs" "[I") ∈ am_ws := am_t2 11 rfl rfl
theorem wd_252 : (Cond.fieldLink "NumberedSparks$Frame" (27 : Nat) "NumberedSparks$Frame" "ys" "[I") ∈ am_ws := am_t2 12 rfl rfl
theorem wd_253 : (Cond.fieldLink "NumberedSparks" (329 : Nat) "NumberedSparks$Frame" "ys" "[I") ∈ am_ws := am_t2 13 rfl rfl
theorem wd_254 : (Cond.fieldLink "NumberedSparks$Frame" (30 : Nat) "NumberedSparks$Frame" "zs" "[I") ∈ am_ws := am_t2 14 rfl rfl
theorem wd_255 : (Cond.fieldLink "NumberedSparks" (332 : Nat) "NumberedSparks$Frame" "zs" "[I") ∈ am_ws := am_t2 15 rfl rfl
theorem wd_256 : (Cond.fieldLink "NumberedSparks$Frame" (33 : Nat) "NumberedSparks$Frame" "order" "[I") ∈ am_ws := am_t2 16 rfl rfl
theorem wd_257 : (Cond.fieldLink "NumberedSparks" (319 : Nat) "NumberedSparks$Frame" "order" "[I") ∈ am_ws := am_t2 17 rfl rfl
theorem wd_258 : (Cond.fieldLink "NumberedSparks$Frame" (36 : Nat) "NumberedSparks$Frame" "depths" "[I") ∈ am_ws := am_t2 18 rfl rfl
theorem wd_259 : (Cond.fieldLink "NumberedSparks$Frame" (39 : Nat) "NumberedSparks$Frame" "tick" "I") ∈ am_ws := am_t2 19 rfl rfl
theorem wd_287 : (Cond.classLink "NumberedSparks" (59 : Nat) "NumberedSparks$Finder") ∈ am_ws := am_t2 47 rfl rfl
theorem wd_288 : (Cond.instantiable "NumberedSparks$Finder" (4 : Nat)) ∈ am_ws := am_t2 48 rfl rfl
theorem wd_289 : (Cond.methodLink "NumberedSparks" (61 : Nat) ({ cls := "NumberedSparks$Finder", name := "<init>", desc := "(LNumberedSparks$Scene;)V" } : MethodName)) ∈ am_ws := am_t2 49 rfl rfl
theorem wd_290 : (Cond.instanceMethod ({ cls := "NumberedSparks$Finder", name := "<init>", desc := "(LNumberedSparks$Scene;)V" } : MethodName)) ∈ am_ws := am_t2 50 rfl rfl
theorem wd_291 : (Cond.code ({ cls := "NumberedSparks$Finder", name := "<init>", desc := "(LNumberedSparks$Scene;)V" } : MethodName) prog_2_method_1_code (2 : Nat) (Option.none : Option FieldType)) ∈ am_ws := am_t2 51 rfl rfl
theorem wd_292 : (Cond.methodLink "NumberedSparks$Finder" (1 : Nat) ({ cls := "java/lang/Object", name := "<init>", desc := "()V" } : MethodName)) ∈ am_ws := am_t2 52 rfl rfl
theorem wd_293 : (Cond.classLink "NumberedSparks$Finder" (13 : Nat) "NumberedSparks$Spark") ∈ am_ws := am_t2 53 rfl rfl
theorem wd_294 : (Cond.methodLink "NumberedSparks$Finder" (15 : Nat) ({ cls := "NumberedSparks$Spark", name := "<init>", desc := "(LNumberedSparks$Scene;)V" } : MethodName)) ∈ am_ws := am_t2 54 rfl rfl
theorem wd_295 : (Cond.fieldLink "NumberedSparks$Finder" (7 : Nat) "NumberedSparks$Finder" "scene" "LNumberedSparks$Scene;") ∈ am_ws := am_t2 55 rfl rfl
theorem wd_296 : (Cond.fieldLink "NumberedSparks$Finder" (18 : Nat) "NumberedSparks$Finder" "own" "LNumberedSparks$Spark;") ∈ am_ws := am_t2 56 rfl rfl
theorem wd_297 : (Cond.fieldLink "NumberedSparks$Finder" (22 : Nat) "NumberedSparks$Finder" "child" "LNumberedSparks$Spark;") ∈ am_ws := am_t2 57 rfl rfl
theorem wd_298 : (Cond.fieldLink "NumberedSparks$Finder" (25 : Nat) "NumberedSparks$Finder" "grandchild" "LNumberedSparks$Spark;") ∈ am_ws := am_t2 58 rfl rfl
theorem wd_308 : (Cond.fieldLink "NumberedSparks" (9 : Nat) "NumberedSparks" "tape" "[I") ∈ am_ws := am_t2 68 rfl rfl
theorem wd_309 : (Cond.fieldLink "NumberedSparks" (72 : Nat) "NumberedSparks" "tapeLength" "I") ∈ am_ws := am_t2 69 rfl rfl
theorem wd_310 : (Cond.fieldLink "NumberedSparks" (16 : Nat) "NumberedSparks" "scene" "LNumberedSparks$Scene;") ∈ am_ws := am_t2 70 rfl rfl
theorem wd_311 : (Cond.fieldLink "NumberedSparks" (23 : Nat) "NumberedSparks" "reader" "LNumberedSparks$Reader;") ∈ am_ws := am_t2 71 rfl rfl
theorem wd_312 : (Cond.fieldLink "NumberedSparks" (30 : Nat) "NumberedSparks" "history" "LNumberedSparks$History;") ∈ am_ws := am_t2 72 rfl rfl
theorem wd_313 : (Cond.fieldLink "NumberedSparks" (37 : Nat) "NumberedSparks" "out" "LNumberedSparks$Output;") ∈ am_ws := am_t2 73 rfl rfl
theorem wd_314 : (Cond.fieldLink "NumberedSparks" (46 : Nat) "NumberedSparks" "walk" "LNumberedSparks$Walk;") ∈ am_ws := am_t2 74 rfl rfl
theorem wd_315 : (Cond.fieldLink "NumberedSparks" (55 : Nat) "NumberedSparks" "frame" "LNumberedSparks$Frame;") ∈ am_ws := am_t2 75 rfl rfl
theorem wd_316 : (Cond.fieldLink "NumberedSparks" (62 : Nat) "NumberedSparks" "finder" "LNumberedSparks$Finder;") ∈ am_ws := am_t2 76 rfl rfl
theorem wd_317 : (Cond.fieldLink "NumberedSparks" (66 : Nat) "NumberedSparks" "otherFinder" "LNumberedSparks$Finder;") ∈ am_ws := am_t2 77 rfl rfl
theorem wd_318 : (Cond.fieldLink "NumberedSparks" (69 : Nat) "NumberedSparks" "counts" "[I") ∈ am_ws := am_t2 78 rfl rfl
theorem wd_342 : (Cond.methodLink "NumberedSparksLaw" (13 : Nat) ({ cls := "NumberedSparks", name := "feed", desc := "(IIIII)I" } : MethodName)) ∈ am_ws := am_t2 102 rfl rfl
theorem wd_343 : (Cond.instanceMethod ({ cls := "NumberedSparks", name := "feed", desc := "(IIIII)I" } : MethodName)) ∈ am_ws := am_t2 103 rfl rfl
theorem wd_344 : (Cond.selects "NumberedSparks" ({ cls := "NumberedSparks", name := "feed", desc := "(IIIII)I" } : MethodName) ({ cls := "NumberedSparks", name := "feed", desc := "(IIIII)I" } : MethodName)) ∈ am_ws := am_t2 104 rfl rfl
theorem wd_345 : (Cond.code ({ cls := "NumberedSparks", name := "feed", desc := "(IIIII)I" } : MethodName) prog_1_method_2_code (6 : Nat) (Option.some FieldType.int)) ∈ am_ws := am_t2 105 rfl rfl
theorem wd_346 : (Cond.methodLink "NumberedSparks" (76 : Nat) ({ cls := "NumberedSparks", name := "putOnTape", desc := "(I)V" } : MethodName)) ∈ am_ws := am_t2 106 rfl rfl
theorem wd_348 : (Cond.instanceMethod ({ cls := "NumberedSparks", name := "putOnTape", desc := "(I)V" } : MethodName)) ∈ am_ws := am_t2 108 rfl rfl
theorem wd_349 : (Cond.code ({ cls := "NumberedSparks", name := "putOnTape", desc := "(I)V" } : MethodName) prog_1_method_3_code (3 : Nat) (Option.none : Option FieldType)) ∈ am_ws := am_t2 109 rfl rfl
theorem wd_350 : (Cond.methodLink "NumberedSparksLaw" (18 : Nat) ({ cls := "NumberedSparks", name := "end", desc := "(I)I" } : MethodName)) ∈ am_ws := am_t2 110 rfl rfl
theorem wd_351 : (Cond.instanceMethod ({ cls := "NumberedSparks", name := "end", desc := "(I)I" } : MethodName)) ∈ am_ws := am_t2 111 rfl rfl
theorem wd_352 : (Cond.selects "NumberedSparks" ({ cls := "NumberedSparks", name := "end", desc := "(I)I" } : MethodName) ({ cls := "NumberedSparks", name := "end", desc := "(I)I" } : MethodName)) ∈ am_ws := am_t2 112 rfl rfl
theorem wd_353 : (Cond.code ({ cls := "NumberedSparks", name := "end", desc := "(I)I" } : MethodName) prog_1_method_4_code (2 : Nat) (Option.some FieldType.int)) ∈ am_ws := am_t2 113 rfl rfl
theorem wd_354 : (Cond.methodLink "NumberedSparksLaw" (23 : Nat) ({ cls := "NumberedSparks", name := "scene", desc := "()I" } : MethodName)) ∈ am_ws := am_t2 114 rfl rfl
theorem wd_355 : (Cond.instanceMethod ({ cls := "NumberedSparks", name := "scene", desc := "()I" } : MethodName)) ∈ am_ws := am_t2 115 rfl rfl
theorem wd_356 : (Cond.selects "NumberedSparks" ({ cls := "NumberedSparks", name := "scene", desc := "()I" } : MethodName) ({ cls := "NumberedSparks", name := "scene", desc := "()I" } : MethodName)) ∈ am_ws := am_t2 116 rfl rfl
theorem wd_357 : (Cond.code ({ cls := "NumberedSparks", name := "scene", desc := "()I" } : MethodName) prog_1_method_5_code (2 : Nat) (Option.some FieldType.int)) ∈ am_ws := am_t2 117 rfl rfl
theorem wd_358 : (Cond.methodLink "NumberedSparks" (80 : Nat) ({ cls := "NumberedSparks$Reader", name := "read", desc := "([II)I" } : MethodName)) ∈ am_ws := am_t2 118 rfl rfl
theorem wd_359 : (Cond.instanceMethod ({ cls := "NumberedSparks$Reader", name := "read", desc := "([II)I" } : MethodName)) ∈ am_ws := am_t2 119 rfl rfl
theorem wd_360 : (Cond.selects "NumberedSparks$Reader" ({ cls := "NumberedSparks$Reader", name := "read", desc := "([II)I" } : MethodName) ({ cls := "NumberedSparks$Reader", name := "read", desc := "([II)I" } : MethodName)) ∈ am_ws := am_t2 120 rfl rfl
theorem wd_361 : (Cond.code ({ cls := "NumberedSparks$Reader", name := "read", desc := "([II)I" } : MethodName) prog_6_method_2_code (5 : Nat) (Option.some FieldType.int)) ∈ am_ws := am_t2 121 rfl rfl
theorem wd_362 : (Cond.methodLink "NumberedSparks$Reader" (26 : Nat) ({ cls := "java/lang/Math", name := "min", desc := "(II)I" } : MethodName)) ∈ am_ws := am_t2 122 rfl rfl
theorem wd_363 : (Cond.static ({ cls := "java/lang/Math", name := "min", desc := "(II)I" } : MethodName)) ∈ am_ws := am_t2 123 rfl rfl
theorem wd_364 : (Cond.code ({ cls := "java/lang/Math", name := "min", desc := "(II)I" } : MethodName) prog_13_method_69_code (2 : Nat) (Option.some FieldType.int)) ∈ am_ws := am_t2 124 rfl rfl
theorem wd_365 : (Cond.methodLink "NumberedSparks$Reader" (35 : Nat) ({ cls := "NumberedSparks$Scene", name := "clear", desc := "()V" } : MethodName)) ∈ am_ws := am_t2 125 rfl rfl
theorem wd_366 : (Cond.instanceMethod ({ cls := "NumberedSparks$Scene", name := "clear", desc := "()V" } : MethodName)) ∈ am_ws := am_t2 126 rfl rfl
theorem wd_367 : (Cond.selects "NumberedSparks$Scene" ({ cls := "NumberedSparks$Scene", name := "clear", desc := "()V" } : MethodName) ({ cls := "NumberedSparks$Scene", name := "clear", desc := "()V" } : MethodName)) ∈ am_ws := am_t2 127 rfl rfl
theorem wd_368 : (Cond.code ({ cls := "NumberedSparks$Scene", name := "clear", desc := "()V" } : MethodName) prog_7_method_2_code (1 : Nat) (Option.none : Option FieldType)) ∈ am_ws := am_t2 128 rfl rfl
theorem wd_369 : (Cond.methodLink "NumberedSparks$Scene" (21 : Nat) ({ cls := "java/util/Arrays", name := "fill", desc := "([II)V" } : MethodName)) ∈ am_ws := am_t2 129 rfl rfl
theorem wd_370 : (Cond.static ({ cls := "java/util/Arrays", name := "fill", desc := "([II)V" } : MethodName)) ∈ am_ws := am_t2 130 rfl rfl
theorem wd_371 : (Cond.code ({ cls := "java/util/Arrays", name := "fill", desc := "([II)V" } : MethodName) prog_18_method_103_code (4 : Nat) (Option.none : Option FieldType)) ∈ am_ws := am_t2 131 rfl rfl
theorem wd_372 : (Cond.methodLink "NumberedSparks$Reader" (44 : Nat) ({ cls := "NumberedSparks$Reader", name := "advance", desc := "()V" } : MethodName)) ∈ am_ws := am_t2 132 rfl rfl
theorem wd_374 : (Cond.instanceMethod ({ cls := "NumberedSparks$Reader", name := "advance", desc := "()V" } : MethodName)) ∈ am_ws := am_t2 134 rfl rfl
theorem wd_375 : (Cond.code ({ cls := "NumberedSparks$Reader", name := "advance", desc := "()V" } : MethodName) prog_6_method_19_code (1 : Nat) (Option.none : Option FieldType)) ∈ am_ws := am_t2 135 rfl rfl
theorem wd_376 : (Cond.methodLink "NumberedSparks$Reader" (177 : Nat) ({ cls := "NumberedSparks$Reader", name := "byteAt", desc := "(I)I" } : MethodName)) ∈ am_ws := am_t2 136 rfl rfl
theorem wd_378 : (Cond.instanceMethod ({ cls := "NumberedSparks$Reader", name := "byteAt", desc := "(I)I" } : MethodName)) ∈ am_ws := am_t2 138 rfl rfl
theorem wd_379 : (Cond.code ({ cls := "NumberedSparks$Reader", name := "byteAt", desc := "(I)I" } : MethodName) prog_6_method_16_code (2 : Nat) (Option.some FieldType.int)) ∈ am_ws := am_t2 139 rfl rfl
theorem wd_380 : (Cond.methodLink "NumberedSparks$Reader" (185 : Nat) ({ cls := "NumberedSparks$Reader", name := "isLetter", desc := "(I)Z" } : MethodName)) ∈ am_ws := am_t2 140 rfl rfl
theorem wd_381 : (Cond.static ({ cls := "NumberedSparks$Reader", name := "isLetter", desc := "(I)Z" } : MethodName)) ∈ am_ws := am_t2 141 rfl rfl
theorem wd_382 : (Cond.code ({ cls := "NumberedSparks$Reader", name := "isLetter", desc := "(I)Z" } : MethodName) prog_6_method_17_code (1 : Nat) (Option.some FieldType.boolean)) ∈ am_ws := am_t2 142 rfl rfl
theorem wd_383 : (Cond.methodLink "NumberedSparks$Reader" (189 : Nat) ({ cls := "NumberedSparks$Reader", name := "isDigit", desc := "(I)Z" } : MethodName)) ∈ am_ws := am_t2 143 rfl rfl
theorem wd_384 : (Cond.static ({ cls := "NumberedSparks$Reader", name := "isDigit", desc := "(I)Z" } : MethodName)) ∈ am_ws := am_t2 144 rfl rfl
theorem wd_385 : (Cond.code ({ cls := "NumberedSparks$Reader", name := "isDigit", desc := "(I)Z" } : MethodName) prog_6_method_18_code (1 : Nat) (Option.some FieldType.boolean)) ∈ am_ws := am_t2 145 rfl rfl
theorem wd_386 : (Cond.constant "NumberedSparks$Reader" (192 : Nat) (100000000 : Int32)) ∈ am_ws := am_t2 146 rfl rfl
theorem wd_387 : (Cond.methodLink "NumberedSparks$Reader" (47 : Nat) ({ cls := "NumberedSparks$Reader", name := "readWorld", desc := "()V" } : MethodName)) ∈ am_ws := am_t2 147 rfl rfl
theorem wd_389 : (Cond.instanceMethod ({ cls := "NumberedSparks$Reader", name := "readWorld", desc := "()V" } : MethodName)) ∈ am_ws := am_t2 149 rfl rfl
theorem wd_390 : (Cond.code ({ cls := "NumberedSparks$Reader", name := "readWorld", desc := "()V" } : MethodName) prog_6_method_3_code (2 : Nat) (Option.none : Option FieldType)) ∈ am_ws := am_t2 150 rfl rfl
theorem wd_392 : (Cond.methodLink "NumberedSparks$Reader" (82 : Nat) ({ cls := "NumberedSparks$Reader", name := "needWord", desc := "(Ljava/lang/String;)V" } : MethodName)) ∈ am_ws := am_t2 152 rfl rfl
theorem wd_394 : (Cond.instanceMethod ({ cls := "NumberedSparks$Reader", name := "needWord", desc := "(Ljava/lang/String;)V" } : MethodName)) ∈ am_ws := am_t2 154 rfl rfl
theorem wd_395 : (Cond.code ({ cls := "NumberedSparks$Reader", name := "needWord", desc := "(Ljava/lang/String;)V" } : MethodName) prog_6_method_12_code (2 : Nat) (Option.none : Option FieldType)) ∈ am_ws := am_t2 155 rfl rfl
theorem wd_396 : (Cond.methodLink "NumberedSparks$Reader" (134 : Nat) ({ cls := "NumberedSparks$Reader", name := "takeWord", desc := "(Ljava/lang/String;)Z" } : MethodName)) ∈ am_ws := am_t2 156 rfl rfl
theorem wd_398 : (Cond.instanceMethod ({ cls := "NumberedSparks$Reader", name := "takeWord", desc := "(Ljava/lang/String;)Z" } : MethodName)) ∈ am_ws := am_t2 158 rfl rfl
theorem wd_399 : (Cond.code ({ cls := "NumberedSparks$Reader", name := "takeWord", desc := "(Ljava/lang/String;)Z" } : MethodName) prog_6_method_11_code (2 : Nat) (Option.some FieldType.boolean)) ∈ am_ws := am_t2 159 rfl rfl
theorem wd_400 : (Cond.methodLink "NumberedSparks$Reader" (55 : Nat) ({ cls := "NumberedSparks$Reader", name := "isWord", desc := "(Ljava/lang/String;)Z" } : MethodName)) ∈ am_ws := am_t2 160 rfl rfl
theorem wd_402 : (Cond.instanceMethod ({ cls := "NumberedSparks$Reader", name := "isWord", desc := "(Ljava/lang/String;)Z" } : MethodName)) ∈ am_ws := am_t2 162 rfl rfl
theorem wd_403 : (Cond.code ({ cls := "NumberedSparks$Reader", name := "isWord", desc := "(Ljava/lang/String;)Z" } : MethodName) prog_6_method_10_code (3 : Nat) (Option.some FieldType.boolean)) ∈ am_ws := am_t2 163 rfl rfl
theorem wd_404 : (Cond.methodLink "NumberedSparks$Reader" (173 : Nat) ({ cls := "java/lang/String", name := "length", desc := "()I" } : MethodName)) ∈ am_ws := am_t2 164 rfl rfl
theorem wd_405 : (Cond.instanceMethod ({ cls := "java/lang/String", name := "length", desc := "()I" } : MethodName)) ∈ am_ws := am_t2 165 rfl rfl
theorem wd_406 : (Cond.selects "java/lang/String" ({ cls := "java/lang/String", name := "length", desc := "()I" } : MethodName) ({ cls := "java/lang/String", name := "length", desc := "()I" } : MethodName)) ∈ am_ws := am_t2 166 rfl rfl
theorem wd_407 : (Cond.code ({ cls := "java/lang/String", name := "length", desc := "()I" } : MethodName) prog_14_method_54_code (1 : Nat) (Option.some FieldType.int)) ∈ am_ws := am_t2 167 rfl rfl
theorem wd_408 : (Cond.methodLink "java/lang/String" (335 : Nat) ({ cls := "java/lang/String", name := "coder", desc := "()B" } : MethodName)) ∈ am_ws := am_t2 168 rfl rfl
theorem wd_409 : (Cond.instanceMethod ({ cls := "java/lang/String", name := "coder", desc := "()B" } : MethodName)) ∈ am_ws := am_t2 169 rfl rfl
theorem wd_410 : (Cond.selects "java/lang/String" ({ cls := "java/lang/String", name := "coder", desc := "()B" } : MethodName) ({ cls := "java/lang/String", name := "coder", desc := "()B" } : MethodName)) ∈ am_ws := am_t2 170 rfl rfl
theorem wd_411 : (Cond.code ({ cls := "java/lang/String", name := "coder", desc := "()B" } : MethodName) prog_14_method_152_code (1 : Nat) (Option.some FieldType.byte)) ∈ am_ws := am_t2 171 rfl rfl
theorem wd_412 : (Cond.fieldLink "java/lang/String" (38 : Nat) "java/lang/String" "COMPACT_STRINGS" "Z") ∈ am_ws := am_t2 172 rfl rfl
theorem wd_414 : (Cond.methodLink "NumberedSparks$Reader" (181 : Nat) ({ cls := "java/lang/String", name := "charAt", desc := "(I)C" } : MethodName)) ∈ am_ws := am_t2 174 rfl rfl
theorem wd_415 : (Cond.instanceMethod ({ cls := "java/lang/String", name := "charAt", desc := "(I)C" } : MethodName)) ∈ am_ws := am_t2 175 rfl rfl
theorem wd_416 : (Cond.selects "java/lang/String" ({ cls := "java/lang/String", name := "charAt", desc := "(I)C" } : MethodName) ({ cls := "java/lang/String", name := "charAt", desc := "(I)C" } : MethodName)) ∈ am_ws := am_t2 176 rfl rfl
theorem wd_417 : (Cond.code ({ cls := "java/lang/String", name := "charAt", desc := "(I)C" } : MethodName) prog_14_method_56_code (2 : Nat) (Option.some FieldType.char)) ∈ am_ws := am_t2 177 rfl rfl
theorem wd_418 : (Cond.methodLink "java/lang/String" (492 : Nat) ({ cls := "java/lang/String", name := "isLatin1", desc := "()Z" } : MethodName)) ∈ am_ws := am_t2 178 rfl rfl
theorem wd_419 : (Cond.instanceMethod ({ cls := "java/lang/String", name := "isLatin1", desc := "()Z" } : MethodName)) ∈ am_ws := am_t2 179 rfl rfl
theorem wd_420 : (Cond.selects "java/lang/String" ({ cls := "java/lang/String", name := "isLatin1", desc := "()Z" } : MethodName) ({ cls := "java/lang/String", name := "isLatin1", desc := "()Z" } : MethodName)) ∈ am_ws := am_t2 180 rfl rfl
theorem wd_421 : (Cond.code ({ cls := "java/lang/String", name := "isLatin1", desc := "()Z" } : MethodName) prog_14_method_154_code (1 : Nat) (Option.some FieldType.boolean)) ∈ am_ws := am_t2 181 rfl rfl
theorem wd_422 : (Cond.methodLink "java/lang/String" (495 : Nat) ({ cls := "java/lang/StringLatin1", name := "charAt", desc := "([BI)C" } : MethodName)) ∈ am_ws := am_t2 182 rfl rfl
theorem wd_423 : (Cond.static ({ cls := "java/lang/StringLatin1", name := "charAt", desc := "([BI)C" } : MethodName)) ∈ am_ws := am_t2 183 rfl rfl
theorem wd_424 : (Cond.code ({ cls := "java/lang/StringLatin1", name := "charAt", desc := "([BI)C" } : MethodName) prog_15_method_2_code (2 : Nat) (Option.some FieldType.char)) ∈ am_ws := am_t2 184 rfl rfl
theorem wd_425 : (Cond.methodLink "java/lang/StringLatin1" (9 : Nat) ({ cls := "java/lang/String", name := "checkIndex", desc := "(II)V" } : MethodName)) ∈ am_ws := am_t2 185 rfl rfl
theorem wd_426 : (Cond.static ({ cls := "java/lang/String", name := "checkIndex", desc := "(II)V" } : MethodName)) ∈ am_ws := am_t2 186 rfl rfl
theorem wd_427 : (Cond.code ({ cls := "java/lang/String", name := "checkIndex", desc := "(II)V" } : MethodName) prog_14_method_155_code (2 : Nat) (Option.none : Option FieldType)) ∈ am_ws := am_t2 187 rfl rfl
theorem wd_428 : (Cond.fieldLink "java/lang/String" (1053 : Nat) "jdk/internal/util/Preconditions" "SIOOBE_FORMATTER" "Ljava/util/function/BiFunction;") ∈ am_ws := am_t2 188 rfl rfl
theorem wd_430 : (Cond.methodLink "java/lang/String" (1059 : Nat) ({ cls := "jdk/internal/util/Preconditions", name := "checkIndex", desc := "(IILjava/util/function/BiFunction;)I" } : MethodName)) ∈ am_ws := am_t2 190 rfl rfl
theorem wd_431 : (Cond.static ({ cls := "jdk/internal/util/Preconditions", name := "checkIndex", desc := "(IILjava/util/function/BiFunction;)I" } : MethodName)) ∈ am_ws := am_t2 191 rfl rfl
theorem wd_432 : (Cond.code ({ cls := "jdk/internal/util/Preconditions", name := "checkIndex", desc := "(IILjava/util/function/BiFunction;)I" } : MethodName) prog_19_method_11_code (3 : Nat) (Option.some FieldType.int)) ∈ am_ws := am_t2 192 rfl rfl
theorem wd_433 : (Cond.methodLink "java/lang/String" (498 : Nat) ({ cls := "java/lang/StringUTF16", name := "charAt", desc := "([BI)C" } : MethodName)) ∈ am_ws := am_t2 193 rfl rfl
theorem wd_434 : (Cond.static ({ cls := "java/lang/StringUTF16", name := "charAt", desc := "([BI)C" } : MethodName)) ∈ am_ws := am_t2 194 rfl rfl
theorem wd_435 : (Cond.code ({ cls := "java/lang/StringUTF16", name := "charAt", desc := "([BI)C" } : MethodName) prog_16_method_83_code (2 : Nat) (Option.some FieldType.char)) ∈ am_ws := am_t2 195 rfl rfl
theorem wd_436 : (Cond.methodLink "java/lang/StringUTF16" (67 : Nat) ({ cls := "java/lang/StringUTF16", name := "checkIndex", desc := "(I[B)V" } : MethodName)) ∈ am_ws := am_t2 196 rfl rfl
theorem wd_437 : (Cond.static ({ cls := "java/lang/StringUTF16", name := "checkIndex", desc := "(I[B)V" } : MethodName)) ∈ am_ws := am_t2 197 rfl rfl
theorem wd_438 : (Cond.code ({ cls := "java/lang/StringUTF16", name := "checkIndex", desc := "(I[B)V" } : MethodName) prog_16_method_91_code (2 : Nat) (Option.none : Option FieldType)) ∈ am_ws := am_t2 198 rfl rfl
theorem wd_439 : (Cond.methodLink "java/lang/StringUTF16" (48 : Nat) ({ cls := "java/lang/StringUTF16", name := "length", desc := "([B)I" } : MethodName)) ∈ am_ws := am_t2 199 rfl rfl
theorem wd_440 : (Cond.static ({ cls := "java/lang/StringUTF16", name := "length", desc := "([B)I" } : MethodName)) ∈ am_ws := am_t2 200 rfl rfl
theorem wd_441 : (Cond.code ({ cls := "java/lang/StringUTF16", name := "length", desc := "([B)I" } : MethodName) prog_16_method_6_code (1 : Nat) (Option.some FieldType.int)) ∈ am_ws := am_t2 201 rfl rfl
theorem wd_442 : (Cond.methodLink "java/lang/StringUTF16" (414 : Nat) ({ cls := "java/lang/String", name := "checkIndex", desc := "(II)V" } : MethodName)) ∈ am_ws := am_t2 202 rfl rfl
theorem wd_443 : (Cond.methodLink "java/lang/StringUTF16" (71 : Nat) ({ cls := "java/lang/StringUTF16", name := "getChar", desc := "([BI)C" } : MethodName)) ∈ am_ws := am_t2 203 rfl rfl
theorem wd_444 : (Cond.static ({ cls := "java/lang/StringUTF16", name := "getChar", desc := "([BI)C" } : MethodName)) ∈ am_ws := am_t2 204 rfl rfl
theorem wd_445 : (Cond.code ({ cls := "java/lang/StringUTF16", name := "getChar", desc := "([BI)C" } : MethodName) prog_16_method_5_code (2 : Nat) (Option.some FieldType.char)) ∈ am_ws := am_t2 205 rfl rfl
theorem wd_446 : (Cond.fieldLink "java/lang/StringUTF16" (44 : Nat) "java/lang/StringUTF16" "$assertionsDisabled" "Z") ∈ am_ws := am_t2 206 rfl rfl
theorem wd_448 : (Cond.fieldLink "java/lang/StringUTF16" (59 : Nat) "java/lang/StringUTF16" "HI_BYTE_SHIFT" "I") ∈ am_ws := am_t2 208 rfl rfl
theorem wd_450 : (Cond.fieldLink "java/lang/StringUTF16" (63 : Nat) "java/lang/StringUTF16" "LO_BYTE_SHIFT" "I") ∈ am_ws := am_t2 210 rfl rfl
theorem wd_452 : (Cond.methodLink "NumberedSparks$Reader" (72 : Nat) ({ cls := "NumberedSparks$Reader", name := "fail", desc := "(I)V" } : MethodName)) ∈ am_ws := am_t2 212 rfl rfl
theorem wd_454 : (Cond.instanceMethod ({ cls := "NumberedSparks$Reader", name := "fail", desc := "(I)V" } : MethodName)) ∈ am_ws := am_t2 214 rfl rfl
theorem wd_455 : (Cond.code ({ cls := "NumberedSparks$Reader", name := "fail", desc := "(I)V" } : MethodName) prog_6_method_15_code (2 : Nat) (Option.none : Option FieldType)) ∈ am_ws := am_t2 215 rfl rfl
theorem wd_456 : (Cond.methodLink "NumberedSparks$Reader" (89 : Nat) ({ cls := "NumberedSparks$Reader", name := "needNumber", desc := "(II)I" } : MethodName)) ∈ am_ws := am_t2 216 rfl rfl
theorem wd_458 : (Cond.instanceMethod ({ cls := "NumberedSparks$Reader", name := "needNumber", desc := "(II)I" } : MethodName)) ∈ am_ws := am_t2 218 rfl rfl
theorem wd_459 : (Cond.code ({ cls := "NumberedSparks$Reader", name := "needNumber", desc := "(II)I" } : MethodName) prog_6_method_14_code (4 : Nat) (Option.some FieldType.int)) ∈ am_ws := am_t2 219 rfl rfl
theorem wd_460 : (Cond.methodLink "NumberedSparks$Reader" (76 : Nat) ({ cls := "NumberedSparks$Reader", name := "needSign", desc := "(C)V" } : MethodName)) ∈ am_ws := am_t2 220 rfl rfl
theorem wd_462 : (Cond.instanceMethod ({ cls := "NumberedSparks$Reader", name := "needSign", desc := "(C)V" } : MethodName)) ∈ am_ws := am_t2 222 rfl rfl
theorem wd_463 : (Cond.code ({ cls := "NumberedSparks$Reader", name := "needSign", desc := "(C)V" } : MethodName) prog_6_method_13_code (2 : Nat) (Option.none : Option FieldType)) ∈ am_ws := am_t2 223 rfl rfl
theorem wd_465 : (Cond.methodLink "NumberedSparks$Reader" (59 : Nat) ({ cls := "NumberedSparks$Reader", name := "readSeed", desc := "()V" } : MethodName)) ∈ am_ws := am_t2 225 rfl rfl
theorem wd_467 : (Cond.instanceMethod ({ cls := "NumberedSparks$Reader", name := "readSeed", desc := "()V" } : MethodName)) ∈ am_ws := am_t2 227 rfl rfl
theorem wd_468 : (Cond.code ({ cls := "NumberedSparks$Reader", name := "readSeed", desc := "()V" } : MethodName) prog_6_method_4_code (1 : Nat) (Option.none : Option FieldType)) ∈ am_ws := am_t2 228 rfl rfl
theorem wd_469 : (Cond.constant "NumberedSparks$Reader" (96 : Nat) (999999 : Int32)) ∈ am_ws := am_t2 229 rfl rfl
theorem wd_471 : (Cond.methodLink "NumberedSparks$Reader" (64 : Nat) ({ cls := "NumberedSparks$Reader", name := "readKind", desc := "()V" } : MethodName)) ∈ am_ws := am_t2 231 rfl rfl
theorem wd_473 : (Cond.instanceMethod ({ cls := "NumberedSparks$Reader", name := "readKind", desc := "()V" } : MethodName)) ∈ am_ws := am_t2 233 rfl rfl
theorem wd_474 : (Cond.code ({ cls := "NumberedSparks$Reader", name := "readKind", desc := "()V" } : MethodName) prog_6_method_5_code (2 : Nat) (Option.none : Option FieldType)) ∈ am_ws := am_t2 234 rfl rfl
theorem wd_476 : (Cond.methodLink "NumberedSparks$Reader" (104 : Nat) ({ cls := "NumberedSparks$Scene", name := "setKind", desc := "(III)V" } : MethodName)) ∈ am_ws := am_t2 236 rfl rfl
theorem wd_477 : (Cond.instanceMethod ({ cls := "NumberedSparks$Scene", name := "setKind", desc := "(III)V" } : MethodName)) ∈ am_ws := am_t2 237 rfl rfl
theorem wd_478 : (Cond.selects "NumberedSparks$Scene" ({ cls := "NumberedSparks$Scene", name := "setKind", desc := "(III)V" } : MethodName) ({ cls := "NumberedSparks$Scene", name := "setKind", desc := "(III)V" } : MethodName)) ∈ am_ws := am_t2 238 rfl rfl
theorem wd_479 : (Cond.code ({ cls := "NumberedSparks$Scene", name := "setKind", desc := "(III)V" } : MethodName) prog_7_method_10_code (5 : Nat) (Option.none : Option FieldType)) ∈ am_ws := am_t2 239 rfl rfl
theorem wd_481 : (Cond.methodLink "NumberedSparks$Reader" (110 : Nat) ({ cls := "NumberedSparks$Reader", name := "numberBehind", desc := "(Ljava/lang/String;III)I" } : MethodName)) ∈ am_ws := am_t3 1 rfl rfl
theorem wd_483 : (Cond.instanceMethod ({ cls := "NumberedSparks$Reader", name := "numberBehind", desc := "(Ljava/lang/String;III)I" } : MethodName)) ∈ am_ws := am_t3 3 rfl rfl
theorem wd_484 : (Cond.code ({ cls := "NumberedSparks$Reader", name := "numberBehind", desc := "(Ljava/lang/String;III)I" } : MethodName) prog_6_method_9_code (5 : Nat) (Option.some FieldType.int)) ∈ am_ws := am_t3 4 rfl rfl
theorem wd_486 : (Cond.methodLink "NumberedSparks$Reader" (116 : Nat) ({ cls := "NumberedSparks$Reader", name := "readFalls", desc := "()I" } : MethodName)) ∈ am_ws := am_t3 6 rfl rfl
theorem wd_488 : (Cond.instanceMethod ({ cls := "NumberedSparks$Reader", name := "readFalls", desc := "()I" } : MethodName)) ∈ am_ws := am_t3 8 rfl rfl
theorem wd_489 : (Cond.code ({ cls := "NumberedSparks$Reader", name := "readFalls", desc := "()I" } : MethodName) prog_6_method_6_code (3 : Nat) (Option.some FieldType.int)) ∈ am_ws := am_t3 9 rfl rfl
theorem wd_492 : (Cond.methodLink "NumberedSparks$Reader" (122 : Nat) ({ cls := "NumberedSparks$Reader", name := "readEdge", desc := "()I" } : MethodName)) ∈ am_ws := am_t3 12 rfl rfl
theorem wd_494 : (Cond.instanceMethod ({ cls := "NumberedSparks$Reader", name := "readEdge", desc := "()I" } : MethodName)) ∈ am_ws := am_t3 14 rfl rfl
theorem wd_495 : (Cond.code ({ cls := "NumberedSparks$Reader", name := "readEdge", desc := "()I" } : MethodName) prog_6_method_7_code (1 : Nat) (Option.some FieldType.int)) ∈ am_ws := am_t3 15 rfl rfl
theorem wd_500 : (Cond.methodLink "NumberedSparks$Reader" (127 : Nat) ({ cls := "NumberedSparks$Scene", name := "ofKind", desc := "(II)I" } : MethodName)) ∈ am_ws := am_t3 20 rfl rfl
theorem wd_501 : (Cond.instanceMethod ({ cls := "NumberedSparks$Scene", name := "ofKind", desc := "(II)I" } : MethodName)) ∈ am_ws := am_t3 21 rfl rfl
theorem wd_502 : (Cond.selects "NumberedSparks$Scene" ({ cls := "NumberedSparks$Scene", name := "ofKind", desc := "(II)I" } : MethodName) ({ cls := "NumberedSparks$Scene", name := "ofKind", desc := "(II)I" } : MethodName)) ∈ am_ws := am_t3 22 rfl rfl
theorem wd_503 : (Cond.code ({ cls := "NumberedSparks$Scene", name := "ofKind", desc := "(II)I" } : MethodName) prog_7_method_9_code (4 : Nat) (Option.some FieldType.int)) ∈ am_ws := am_t3 23 rfl rfl
theorem wd_506 : (Cond.methodLink "NumberedSparks$Reader" (69 : Nat) ({ cls := "NumberedSparks$Reader", name := "readSource", desc := "()V" } : MethodName)) ∈ am_ws := am_t3 26 rfl rfl
theorem wd_508 : (Cond.instanceMethod ({ cls := "NumberedSparks$Reader", name := "readSource", desc := "()V" } : MethodName)) ∈ am_ws := am_t3 28 rfl rfl
theorem wd_509 : (Cond.code ({ cls := "NumberedSparks$Reader", name := "readSource", desc := "()V" } : MethodName) prog_6_method_8_code (3 : Nat) (Option.none : Option FieldType)) ∈ am_ws := am_t3 29 rfl rfl
theorem wd_510 : (Cond.methodLink "NumberedSparks$Reader" (149 : Nat) ({ cls := "NumberedSparks$Scene", name := "setSource", desc := "(III)V" } : MethodName)) ∈ am_ws := am_t3 30 rfl rfl
theorem wd_511 : (Cond.instanceMethod ({ cls := "NumberedSparks$Scene", name := "setSource", desc := "(III)V" } : MethodName)) ∈ am_ws := am_t3 31 rfl rfl
theorem wd_512 : (Cond.selects "NumberedSparks$Scene" ({ cls := "NumberedSparks$Scene", name := "setSource", desc := "(III)V" } : MethodName) ({ cls := "NumberedSparks$Scene", name := "setSource", desc := "(III)V" } : MethodName)) ∈ am_ws := am_t3 32 rfl rfl
theorem wd_513 : (Cond.code ({ cls := "NumberedSparks$Scene", name := "setSource", desc := "(III)V" } : MethodName) prog_7_method_12_code (5 : Nat) (Option.none : Option FieldType)) ∈ am_ws := am_t3 33 rfl rfl
theorem wd_520 : (Cond.methodLink "NumberedSparks$Reader" (164 : Nat) ({ cls := "NumberedSparks$Scene", name := "ofSource", desc := "(II)I" } : MethodName)) ∈ am_ws := am_t3 40 rfl rfl
theorem wd_521 : (Cond.instanceMethod ({ cls := "NumberedSparks$Scene", name := "ofSource", desc := "(II)I" } : MethodName)) ∈ am_ws := am_t3 41 rfl rfl
theorem wd_522 : (Cond.selects "NumberedSparks$Scene" ({ cls := "NumberedSparks$Scene", name := "ofSource", desc := "(II)I" } : MethodName) ({ cls := "NumberedSparks$Scene", name := "ofSource", desc := "(II)I" } : MethodName)) ∈ am_ws := am_t3 42 rfl rfl
theorem wd_523 : (Cond.code ({ cls := "NumberedSparks$Scene", name := "ofSource", desc := "(II)I" } : MethodName) prog_7_method_11_code (4 : Nat) (Option.some FieldType.int)) ∈ am_ws := am_t3 43 rfl rfl
theorem wd_524 : (Cond.methodLink "NumberedSparks$Reader" (167 : Nat) ({ cls := "NumberedSparks$Scene", name := "burstsUpTo", desc := "(II)I" } : MethodName)) ∈ am_ws := am_t3 44 rfl rfl
theorem wd_525 : (Cond.instanceMethod ({ cls := "NumberedSparks$Scene", name := "burstsUpTo", desc := "(II)I" } : MethodName)) ∈ am_ws := am_t3 45 rfl rfl
theorem wd_526 : (Cond.selects "NumberedSparks$Scene" ({ cls := "NumberedSparks$Scene", name := "burstsUpTo", desc := "(II)I" } : MethodName) ({ cls := "NumberedSparks$Scene", name := "burstsUpTo", desc := "(II)I" } : MethodName)) ∈ am_ws := am_t3 46 rfl rfl
theorem wd_527 : (Cond.code ({ cls := "NumberedSparks$Scene", name := "burstsUpTo", desc := "(II)I" } : MethodName) prog_7_method_18_code (6 : Nat) (Option.some FieldType.int)) ∈ am_ws := am_t3 47 rfl rfl
theorem wd_528 : (Cond.methodLink "NumberedSparks$Scene" (84 : Nat) ({ cls := "NumberedSparks$Scene", name := "ofSource", desc := "(II)I" } : MethodName)) ∈ am_ws := am_t3 48 rfl rfl
theorem wd_529 : (Cond.methodLink "NumberedSparks$Scene" (94 : Nat) ({ cls := "java/lang/Math", name := "min", desc := "(II)I" } : MethodName)) ∈ am_ws := am_t3 49 rfl rfl
theorem wd_530 : (Cond.methodLink "NumberedSparks" (87 : Nat) ({ cls := "NumberedSparks$Scene", name := "become", desc := "(LNumberedSparks$Scene;)V" } : MethodName)) ∈ am_ws := am_t3 50 rfl rfl
theorem wd_531 : (Cond.instanceMethod ({ cls := "NumberedSparks$Scene", name := "become", desc := "(LNumberedSparks$Scene;)V" } : MethodName)) ∈ am_ws := am_t3 51 rfl rfl
theorem wd_532 : (Cond.selects "NumberedSparks$Scene" ({ cls := "NumberedSparks$Scene", name := "become", desc := "(LNumberedSparks$Scene;)V" } : MethodName) ({ cls := "NumberedSparks$Scene", name := "become", desc := "(LNumberedSparks$Scene;)V" } : MethodName)) ∈ am_ws := am_t3 52 rfl rfl
theorem wd_533 : (Cond.code ({ cls := "NumberedSparks$Scene", name := "become", desc := "(LNumberedSparks$Scene;)V" } : MethodName) prog_7_method_3_code (2 : Nat) (Option.none : Option FieldType)) ∈ am_ws := am_t3 53 rfl rfl
theorem wd_534 : (Cond.methodLink "NumberedSparks$Scene" (41 : Nat) ({ cls := "java/lang/System", name := "arraycopy", desc := "(Ljava/lang/Object;ILjava/lang/Object;II)V" } : MethodName)) ∈ am_ws := am_t3 54 rfl rfl
theorem wd_535 : (Cond.static ({ cls := "java/lang/System", name := "arraycopy", desc := "(Ljava/lang/Object;ILjava/lang/Object;II)V" } : MethodName)) ∈ am_ws := am_t3 55 rfl rfl
theorem wd_536 : (Cond.native ({ cls := "java/lang/System", name := "arraycopy", desc := "(Ljava/lang/Object;ILjava/lang/Object;II)V" } : MethodName)) ∈ am_ws := am_t3 56 rfl rfl
theorem wd_537 : (Cond.methodLink "NumberedSparks" (90 : Nat) ({ cls := "NumberedSparks$History", name := "forget", desc := "()V" } : MethodName)) ∈ am_ws := am_t3 57 rfl rfl
theorem wd_538 : (Cond.instanceMethod ({ cls := "NumberedSparks$History", name := "forget", desc := "()V" } : MethodName)) ∈ am_ws := am_t3 58 rfl rfl
theorem wd_539 : (Cond.selects "NumberedSparks$History" ({ cls := "NumberedSparks$History", name := "forget", desc := "()V" } : MethodName) ({ cls := "NumberedSparks$History", name := "forget", desc := "()V" } : MethodName)) ∈ am_ws := am_t3 59 rfl rfl
theorem wd_540 : (Cond.code ({ cls := "NumberedSparks$History", name := "forget", desc := "()V" } : MethodName) prog_4_method_2_code (1 : Nat) (Option.none : Option FieldType)) ∈ am_ws := am_t3 60 rfl rfl
theorem wd_541 : (Cond.methodLink "NumberedSparks" (93 : Nat) ({ cls := "NumberedSparks$Frame", name := "forget", desc := "()V" } : MethodName)) ∈ am_ws := am_t3 61 rfl rfl
theorem wd_542 : (Cond.instanceMethod ({ cls := "NumberedSparks$Frame", name := "forget", desc := "()V" } : MethodName)) ∈ am_ws := am_t3 62 rfl rfl
theorem wd_543 : (Cond.selects "NumberedSparks$Frame" ({ cls := "NumberedSparks$Frame", name := "forget", desc := "()V" } : MethodName) ({ cls := "NumberedSparks$Frame", name := "forget", desc := "()V" } : MethodName)) ∈ am_ws := am_t3 63 rfl rfl
theorem wd_544 : (Cond.code ({ cls := "NumberedSparks$Frame", name := "forget", desc := "()V" } : MethodName) prog_3_method_2_code (1 : Nat) (Option.none : Option FieldType)) ∈ am_ws := am_t3 64 rfl rfl
theorem wd_545 : (Cond.arrayClass FieldType.byte) ∈ am_ws := am_t3 65 rfl rfl
theorem wd_546 : (Cond.methodLink "NumberedSparksLaw" (28 : Nat) ({ cls := "NumberedSparks", name := "fault", desc := "(I)I" } : MethodName)) ∈ am_ws := am_t3 66 rfl rfl
theorem wd_547 : (Cond.instanceMethod ({ cls := "NumberedSparks", name := "fault", desc := "(I)I" } : MethodName)) ∈ am_ws := am_t3 67 rfl rfl
theorem wd_548 : (Cond.selects "NumberedSparks" ({ cls := "NumberedSparks", name := "fault", desc := "(I)I" } : MethodName) ({ cls := "NumberedSparks", name := "fault", desc := "(I)I" } : MethodName)) ∈ am_ws := am_t3 68 rfl rfl
theorem wd_549 : (Cond.code ({ cls := "NumberedSparks", name := "fault", desc := "(I)I" } : MethodName) prog_1_method_6_code (2 : Nat) (Option.some FieldType.int)) ∈ am_ws := am_t3 69 rfl rfl
theorem wd_550 : (Cond.methodLink "NumberedSparksLaw" (32 : Nat) ({ cls := "NumberedSparks", name := "count", desc := "(I)I" } : MethodName)) ∈ am_ws := am_t3 70 rfl rfl
theorem wd_551 : (Cond.instanceMethod ({ cls := "NumberedSparks", name := "count", desc := "(I)I" } : MethodName)) ∈ am_ws := am_t3 71 rfl rfl
theorem wd_552 : (Cond.selects "NumberedSparks" ({ cls := "NumberedSparks", name := "count", desc := "(I)I" } : MethodName) ({ cls := "NumberedSparks", name := "count", desc := "(I)I" } : MethodName)) ∈ am_ws := am_t3 72 rfl rfl
theorem wd_553 : (Cond.code ({ cls := "NumberedSparks", name := "count", desc := "(I)I" } : MethodName) prog_1_method_7_code (2 : Nat) (Option.some FieldType.int)) ∈ am_ws := am_t3 73 rfl rfl
theorem wd_554 : (Cond.methodLink "NumberedSparks" (100 : Nat) ({ cls := "NumberedSparks$Scene", name := "cellsAlong", desc := "(I)I" } : MethodName)) ∈ am_ws := am_t3 74 rfl rfl
theorem wd_555 : (Cond.instanceMethod ({ cls := "NumberedSparks$Scene", name := "cellsAlong", desc := "(I)I" } : MethodName)) ∈ am_ws := am_t3 75 rfl rfl
theorem wd_556 : (Cond.selects "NumberedSparks$Scene" ({ cls := "NumberedSparks$Scene", name := "cellsAlong", desc := "(I)I" } : MethodName) ({ cls := "NumberedSparks$Scene", name := "cellsAlong", desc := "(I)I" } : MethodName)) ∈ am_ws := am_t3 76 rfl rfl
theorem wd_557 : (Cond.code ({ cls := "NumberedSparks$Scene", name := "cellsAlong", desc := "(I)I" } : MethodName) prog_7_method_4_code (2 : Nat) (Option.some FieldType.int)) ∈ am_ws := am_t3 77 rfl rfl
theorem wd_558 : (Cond.methodLink "NumberedSparksLaw" (36 : Nat) ({ cls := "NumberedSparks", name := "kind", desc := "(II)I" } : MethodName)) ∈ am_ws := am_t3 78 rfl rfl
theorem wd_559 : (Cond.instanceMethod ({ cls := "NumberedSparks", name := "kind", desc := "(II)I" } : MethodName)) ∈ am_ws := am_t3 79 rfl rfl
theorem wd_560 : (Cond.selects "NumberedSparks" ({ cls := "NumberedSparks", name := "kind", desc := "(II)I" } : MethodName) ({ cls := "NumberedSparks", name := "kind", desc := "(II)I" } : MethodName)) ∈ am_ws := am_t3 80 rfl rfl
theorem wd_561 : (Cond.code ({ cls := "NumberedSparks", name := "kind", desc := "(II)I" } : MethodName) prog_1_method_8_code (3 : Nat) (Option.some FieldType.int)) ∈ am_ws := am_t3 81 rfl rfl
theorem wd_562 : (Cond.methodLink "NumberedSparks" (116 : Nat) ({ cls := "NumberedSparks$Scene", name := "isKind", desc := "(I)Z" } : MethodName)) ∈ am_ws := am_t3 82 rfl rfl
theorem wd_563 : (Cond.instanceMethod ({ cls := "NumberedSparks$Scene", name := "isKind", desc := "(I)Z" } : MethodName)) ∈ am_ws := am_t3 83 rfl rfl
theorem wd_564 : (Cond.selects "NumberedSparks$Scene" ({ cls := "NumberedSparks$Scene", name := "isKind", desc := "(I)Z" } : MethodName) ({ cls := "NumberedSparks$Scene", name := "isKind", desc := "(I)Z" } : MethodName)) ∈ am_ws := am_t3 84 rfl rfl
theorem wd_565 : (Cond.code ({ cls := "NumberedSparks$Scene", name := "isKind", desc := "(I)Z" } : MethodName) prog_7_method_7_code (2 : Nat) (Option.some FieldType.boolean)) ∈ am_ws := am_t3 85 rfl rfl
theorem wd_566 : (Cond.methodLink "NumberedSparks" (120 : Nat) ({ cls := "NumberedSparks$Scene", name := "ofKind", desc := "(II)I" } : MethodName)) ∈ am_ws := am_t3 86 rfl rfl
theorem wd_567 : (Cond.methodLink "NumberedSparksLaw" (41 : Nat) ({ cls := "NumberedSparks", name := "source", desc := "(II)I" } : MethodName)) ∈ am_ws := am_t3 87 rfl rfl
theorem wd_568 : (Cond.instanceMethod ({ cls := "NumberedSparks", name := "source", desc := "(II)I" } : MethodName)) ∈ am_ws := am_t3 88 rfl rfl
theorem wd_569 : (Cond.selects "NumberedSparks" ({ cls := "NumberedSparks", name := "source", desc := "(II)I" } : MethodName) ({ cls := "NumberedSparks", name := "source", desc := "(II)I" } : MethodName)) ∈ am_ws := am_t3 89 rfl rfl
theorem wd_570 : (Cond.code ({ cls := "NumberedSparks", name := "source", desc := "(II)I" } : MethodName) prog_1_method_9_code (3 : Nat) (Option.some FieldType.int)) ∈ am_ws := am_t3 90 rfl rfl
theorem wd_571 : (Cond.methodLink "NumberedSparks" (124 : Nat) ({ cls := "NumberedSparks$Scene", name := "isSource", desc := "(I)Z" } : MethodName)) ∈ am_ws := am_t3 91 rfl rfl
theorem wd_572 : (Cond.instanceMethod ({ cls := "NumberedSparks$Scene", name := "isSource", desc := "(I)Z" } : MethodName)) ∈ am_ws := am_t3 92 rfl rfl
theorem wd_573 : (Cond.selects "NumberedSparks$Scene" ({ cls := "NumberedSparks$Scene", name := "isSource", desc := "(I)Z" } : MethodName) ({ cls := "NumberedSparks$Scene", name := "isSource", desc := "(I)Z" } : MethodName)) ∈ am_ws := am_t3 93 rfl rfl
theorem wd_574 : (Cond.code ({ cls := "NumberedSparks$Scene", name := "isSource", desc := "(I)Z" } : MethodName) prog_7_method_8_code (2 : Nat) (Option.some FieldType.boolean)) ∈ am_ws := am_t3 94 rfl rfl
theorem wd_575 : (Cond.methodLink "NumberedSparks" (127 : Nat) ({ cls := "NumberedSparks$Scene", name := "ofSource", desc := "(II)I" } : MethodName)) ∈ am_ws := am_t3 95 rfl rfl
theorem wd_576 : (Cond.methodLink "NumberedSparksLaw" (45 : Nat) ({ cls := "NumberedSparks", name := "seed", desc := "(I)I" } : MethodName)) ∈ am_ws := am_t3 96 rfl rfl
theorem wd_577 : (Cond.instanceMethod ({ cls := "NumberedSparks", name := "seed", desc := "(I)I" } : MethodName)) ∈ am_ws := am_t3 97 rfl rfl
theorem wd_578 : (Cond.selects "NumberedSparks" ({ cls := "NumberedSparks", name := "seed", desc := "(I)I" } : MethodName) ({ cls := "NumberedSparks", name := "seed", desc := "(I)I" } : MethodName)) ∈ am_ws := am_t3 98 rfl rfl
theorem wd_579 : (Cond.code ({ cls := "NumberedSparks", name := "seed", desc := "(I)I" } : MethodName) prog_1_method_10_code (3 : Nat) (Option.some FieldType.int)) ∈ am_ws := am_t3 99 rfl rfl
theorem wd_580 : (Cond.constant "NumberedSparks" (134 : Nat) (999999 : Int32)) ∈ am_ws := am_t3 100 rfl rfl
theorem wd_581 : (Cond.methodLink "NumberedSparks" (135 : Nat) ({ cls := "NumberedSparks$History", name := "remember", desc := "(III)V" } : MethodName)) ∈ am_ws := am_t3 101 rfl rfl
theorem wd_582 : (Cond.instanceMethod ({ cls := "NumberedSparks$History", name := "remember", desc := "(III)V" } : MethodName)) ∈ am_ws := am_t3 102 rfl rfl
theorem wd_583 : (Cond.selects "NumberedSparks$History" ({ cls := "NumberedSparks$History", name := "remember", desc := "(III)V" } : MethodName) ({ cls := "NumberedSparks$History", name := "remember", desc := "(III)V" } : MethodName)) ∈ am_ws := am_t3 103 rfl rfl
theorem wd_584 : (Cond.code ({ cls := "NumberedSparks$History", name := "remember", desc := "(III)V" } : MethodName) prog_4_method_4_code (4 : Nat) (Option.none : Option FieldType)) ∈ am_ws := am_t3 104 rfl rfl
theorem wd_585 : (Cond.methodLink "NumberedSparks$History" (25 : Nat) ({ cls := "java/lang/System", name := "arraycopy", desc := "(Ljava/lang/Object;ILjava/lang/Object;II)V" } : MethodName)) ∈ am_ws := am_t3 105 rfl rfl
theorem wd_586 : (Cond.methodLink "NumberedSparksLaw" (201 : Nat) ({ cls := "NumberedSparks", name := "sets", desc := "(III)I" } : MethodName)) ∈ am_ws := am_t3 106 rfl rfl
theorem wd_587 : (Cond.instanceMethod ({ cls := "NumberedSparks", name := "sets", desc := "(III)I" } : MethodName)) ∈ am_ws := am_t3 107 rfl rfl
theorem wd_588 : (Cond.selects "NumberedSparks" ({ cls := "NumberedSparks", name := "sets", desc := "(III)I" } : MethodName) ({ cls := "NumberedSparks", name := "sets", desc := "(III)I" } : MethodName)) ∈ am_ws := am_t3 108 rfl rfl
theorem wd_589 : (Cond.code ({ cls := "NumberedSparks", name := "sets", desc := "(III)I" } : MethodName) prog_1_method_11_code (5 : Nat) (Option.some FieldType.int)) ∈ am_ws := am_t3 109 rfl rfl
theorem wd_590 : (Cond.fieldLink "NumberedSparks" (139 : Nat) "NumberedSparks" "KIND_LEAST" "[I") ∈ am_ws := am_t3 110 rfl rfl
theorem wd_592 : (Cond.fieldLink "NumberedSparks" (142 : Nat) "NumberedSparks" "KIND_MOST" "[I") ∈ am_ws := am_t3 112 rfl rfl
theorem wd_594 : (Cond.methodLink "NumberedSparks" (145 : Nat) ({ cls := "NumberedSparks$Scene", name := "setKind", desc := "(III)V" } : MethodName)) ∈ am_ws := am_t3 114 rfl rfl
theorem wd_595 : (Cond.methodLink "NumberedSparksLaw" (205 : Nat) ({ cls := "NumberedSparks", name := "undo", desc := "()I" } : MethodName)) ∈ am_ws := am_t3 115 rfl rfl
theorem wd_596 : (Cond.instanceMethod ({ cls := "NumberedSparks", name := "undo", desc := "()I" } : MethodName)) ∈ am_ws := am_t3 116 rfl rfl
theorem wd_597 : (Cond.selects "NumberedSparks" ({ cls := "NumberedSparks", name := "undo", desc := "()I" } : MethodName) ({ cls := "NumberedSparks", name := "undo", desc := "()I" } : MethodName)) ∈ am_ws := am_t3 117 rfl rfl
theorem wd_598 : (Cond.code ({ cls := "NumberedSparks", name := "undo", desc := "()I" } : MethodName) prog_1_method_12_code (1 : Nat) (Option.some FieldType.int)) ∈ am_ws := am_t3 118 rfl rfl
theorem wd_599 : (Cond.methodLink "NumberedSparks" (148 : Nat) ({ cls := "NumberedSparks$History", name := "isEmpty", desc := "()Z" } : MethodName)) ∈ am_ws := am_t3 119 rfl rfl
theorem wd_600 : (Cond.instanceMethod ({ cls := "NumberedSparks$History", name := "isEmpty", desc := "()Z" } : MethodName)) ∈ am_ws := am_t3 120 rfl rfl
theorem wd_601 : (Cond.selects "NumberedSparks$History" ({ cls := "NumberedSparks$History", name := "isEmpty", desc := "()Z" } : MethodName) ({ cls := "NumberedSparks$History", name := "isEmpty", desc := "()Z" } : MethodName)) ∈ am_ws := am_t3 121 rfl rfl
theorem wd_602 : (Cond.code ({ cls := "NumberedSparks$History", name := "isEmpty", desc := "()Z" } : MethodName) prog_4_method_3_code (1 : Nat) (Option.some FieldType.boolean)) ∈ am_ws := am_t3 122 rfl rfl
theorem wd_603 : (Cond.methodLink "NumberedSparks" (152 : Nat) ({ cls := "NumberedSparks$History", name := "takeBack", desc := "(LNumberedSparks$Scene;)V" } : MethodName)) ∈ am_ws := am_t3 123 rfl rfl
theorem wd_604 : (Cond.instanceMethod ({ cls := "NumberedSparks$History", name := "takeBack", desc := "(LNumberedSparks$Scene;)V" } : MethodName)) ∈ am_ws := am_t3 124 rfl rfl
theorem wd_605 : (Cond.selects "NumberedSparks$History" ({ cls := "NumberedSparks$History", name := "takeBack", desc := "(LNumberedSparks$Scene;)V" } : MethodName) ({ cls := "NumberedSparks$History", name := "takeBack", desc := "(LNumberedSparks$Scene;)V" } : MethodName)) ∈ am_ws := am_t3 125 rfl rfl
theorem wd_606 : (Cond.code ({ cls := "NumberedSparks$History", name := "takeBack", desc := "(LNumberedSparks$Scene;)V" } : MethodName) prog_4_method_5_code (2 : Nat) (Option.none : Option FieldType)) ∈ am_ws := am_t3 126 rfl rfl
theorem wd_607 : (Cond.methodLink "NumberedSparks$History" (31 : Nat) ({ cls := "NumberedSparks$History", name := "isEmpty", desc := "()Z" } : MethodName)) ∈ am_ws := am_t3 127 rfl rfl
theorem wd_608 : (Cond.methodLink "NumberedSparks$History" (40 : Nat) ({ cls := "NumberedSparks$Scene", name := "setKind", desc := "(III)V" } : MethodName)) ∈ am_ws := am_t3 128 rfl rfl
theorem wd_609 : (Cond.methodLink "NumberedSparksLaw" (49 : Nat) ({ cls := "NumberedSparks", name := "mixed", desc := "(II)J" } : MethodName)) ∈ am_ws := am_t3 129 rfl rfl
theorem wd_610 : (Cond.instanceMethod ({ cls := "NumberedSparks", name := "mixed", desc := "(II)J" } : MethodName)) ∈ am_ws := am_t3 130 rfl rfl
theorem wd_611 : (Cond.selects "NumberedSparks" ({ cls := "NumberedSparks", name := "mixed", desc := "(II)J" } : MethodName) ({ cls := "NumberedSparks", name := "mixed", desc := "(II)J" } : MethodName)) ∈ am_ws := am_t3 131 rfl rfl
theorem wd_612 : (Cond.code ({ cls := "NumberedSparks", name := "mixed", desc := "(II)J" } : MethodName) prog_1_method_13_code (3 : Nat) (Option.some FieldType.long)) ∈ am_ws := am_t3 132 rfl rfl
theorem wd_613 : (Cond.methodLink "NumberedSparks" (156 : Nat) ({ cls := "NumberedSparks$Scene", name := "mix", desc := "(II)J" } : MethodName)) ∈ am_ws := am_t3 133 rfl rfl
theorem wd_614 : (Cond.instanceMethod ({ cls := "NumberedSparks$Scene", name := "mix", desc := "(II)J" } : MethodName)) ∈ am_ws := am_t3 134 rfl rfl
theorem wd_615 : (Cond.selects "NumberedSparks$Scene" ({ cls := "NumberedSparks$Scene", name := "mix", desc := "(II)J" } : MethodName) ({ cls := "NumberedSparks$Scene", name := "mix", desc := "(II)J" } : MethodName)) ∈ am_ws := am_t3 135 rfl rfl
theorem wd_616 : (Cond.code ({ cls := "NumberedSparks$Scene", name := "mix", desc := "(II)J" } : MethodName) prog_7_method_13_code (5 : Nat) (Option.some FieldType.long)) ∈ am_ws := am_t3 136 rfl rfl
theorem wd_617 : (Cond.constantLong "NumberedSparks$Scene" (58 : Nat) (-7046029254386353131 : Int64)) ∈ am_ws := am_t3 137 rfl rfl
theorem wd_618 : (Cond.constantLong "NumberedSparks$Scene" (60 : Nat) (-3335678366873096957 : Int64)) ∈ am_ws := am_t3 138 rfl rfl
theorem wd_619 : (Cond.constantLong "NumberedSparks$Scene" (62 : Nat) (-4658895280553007687 : Int64)) ∈ am_ws := am_t3 139 rfl rfl
theorem wd_620 : (Cond.constantLong "NumberedSparks$Scene" (64 : Nat) (-7723592293110705685 : Int64)) ∈ am_ws := am_t3 140 rfl rfl
theorem wd_621 : (Cond.methodLink "NumberedSparksLaw" (54 : Nat) ({ cls := "NumberedSparks", name := "is", desc := "(I)I" } : MethodName)) ∈ am_ws := am_t3 141 rfl rfl
theorem wd_622 : (Cond.instanceMethod ({ cls := "NumberedSparks", name := "is", desc := "(I)I" } : MethodName)) ∈ am_ws := am_t3 142 rfl rfl
theorem wd_623 : (Cond.selects "NumberedSparks" ({ cls := "NumberedSparks", name := "is", desc := "(I)I" } : MethodName) ({ cls := "NumberedSparks", name := "is", desc := "(I)I" } : MethodName)) ∈ am_ws := am_t3 143 rfl rfl
theorem wd_624 : (Cond.code ({ cls := "NumberedSparks", name := "is", desc := "(I)I" } : MethodName) prog_1_method_14_code (2 : Nat) (Option.some FieldType.int)) ∈ am_ws := am_t3 144 rfl rfl
theorem wd_625 : (Cond.methodLink "NumberedSparks" (160 : Nat) ({ cls := "NumberedSparks$Scene", name := "hasSpark", desc := "(I)Z" } : MethodName)) ∈ am_ws := am_t3 145 rfl rfl
theorem wd_626 : (Cond.instanceMethod ({ cls := "NumberedSparks$Scene", name := "hasSpark", desc := "(I)Z" } : MethodName)) ∈ am_ws := am_t3 146 rfl rfl
theorem wd_627 : (Cond.selects "NumberedSparks$Scene" ({ cls := "NumberedSparks$Scene", name := "hasSpark", desc := "(I)Z" } : MethodName) ({ cls := "NumberedSparks$Scene", name := "hasSpark", desc := "(I)Z" } : MethodName)) ∈ am_ws := am_t3 147 rfl rfl
theorem wd_628 : (Cond.code ({ cls := "NumberedSparks$Scene", name := "hasSpark", desc := "(I)Z" } : MethodName) prog_7_method_16_code (6 : Nat) (Option.some FieldType.boolean)) ∈ am_ws := am_t3 148 rfl rfl
theorem wd_629 : (Cond.methodLinkNest "NumberedSparks$Scene" (74 : Nat) ({ cls := "NumberedSparks", name := "sourceOf", desc := "(I)I" } : MethodName) "NumberedSparks") ∈ am_ws := am_t3 149 rfl rfl
theorem wd_630 : (Cond.static ({ cls := "NumberedSparks", name := "sourceOf", desc := "(I)I" } : MethodName)) ∈ am_ws := am_t3 150 rfl rfl
theorem wd_631 : (Cond.code ({ cls := "NumberedSparks", name := "sourceOf", desc := "(I)I" } : MethodName) prog_1_method_62_code (1 : Nat) (Option.some FieldType.int)) ∈ am_ws := am_t3 151 rfl rfl
theorem wd_632 : (Cond.methodLink "NumberedSparks$Scene" (77 : Nat) ({ cls := "NumberedSparks$Scene", name := "isSource", desc := "(I)Z" } : MethodName)) ∈ am_ws := am_t3 152 rfl rfl
theorem wd_633 : (Cond.methodLinkNest "NumberedSparks$Scene" (81 : Nat) ({ cls := "NumberedSparks", name := "numberOf", desc := "(I)I" } : MethodName) "NumberedSparks") ∈ am_ws := am_t3 153 rfl rfl
theorem wd_634 : (Cond.static ({ cls := "NumberedSparks", name := "numberOf", desc := "(I)I" } : MethodName)) ∈ am_ws := am_t3 154 rfl rfl
theorem wd_635 : (Cond.code ({ cls := "NumberedSparks", name := "numberOf", desc := "(I)I" } : MethodName) prog_1_method_63_code (1 : Nat) (Option.some FieldType.int)) ∈ am_ws := am_t3 155 rfl rfl
theorem wd_636 : (Cond.methodLink "NumberedSparks$Scene" (88 : Nat) ({ cls := "NumberedSparks$Scene", name := "ofKind", desc := "(II)I" } : MethodName)) ∈ am_ws := am_t3 156 rfl rfl
theorem wd_637 : (Cond.methodLink "NumberedSparksLaw" (58 : Nat) ({ cls := "NumberedSparks", name := "child", desc := "(II)I" } : MethodName)) ∈ am_ws := am_t3 157 rfl rfl
theorem wd_638 : (Cond.instanceMethod ({ cls := "NumberedSparks", name := "child", desc := "(II)I" } : MethodName)) ∈ am_ws := am_t3 158 rfl rfl
theorem wd_639 : (Cond.selects "NumberedSparks" ({ cls := "NumberedSparks", name := "child", desc := "(II)I" } : MethodName) ({ cls := "NumberedSparks", name := "child", desc := "(II)I" } : MethodName)) ∈ am_ws := am_t3 159 rfl rfl
theorem wd_640 : (Cond.code ({ cls := "NumberedSparks", name := "child", desc := "(II)I" } : MethodName) prog_1_method_15_code (4 : Nat) (Option.some FieldType.int)) ∈ am_ws := am_t3 160 rfl rfl
theorem wd_641 : (Cond.methodLink "NumberedSparks" (163 : Nat) ({ cls := "NumberedSparks", name := "generationOf", desc := "(I)I" } : MethodName)) ∈ am_ws := am_t3 161 rfl rfl
theorem wd_642 : (Cond.static ({ cls := "NumberedSparks", name := "generationOf", desc := "(I)I" } : MethodName)) ∈ am_ws := am_t3 162 rfl rfl
theorem wd_643 : (Cond.code ({ cls := "NumberedSparks", name := "generationOf", desc := "(I)I" } : MethodName) prog_1_method_65_code (1 : Nat) (Option.some FieldType.int)) ∈ am_ws := am_t3 163 rfl rfl
theorem wd_644 : (Cond.methodLink "NumberedSparks" (166 : Nat) ({ cls := "NumberedSparks$Scene", name := "kindOfSpark", desc := "(I)I" } : MethodName)) ∈ am_ws := am_t3 164 rfl rfl
theorem wd_645 : (Cond.instanceMethod ({ cls := "NumberedSparks$Scene", name := "kindOfSpark", desc := "(I)I" } : MethodName)) ∈ am_ws := am_t3 165 rfl rfl
theorem wd_646 : (Cond.selects "NumberedSparks$Scene" ({ cls := "NumberedSparks$Scene", name := "kindOfSpark", desc := "(I)I" } : MethodName) ({ cls := "NumberedSparks$Scene", name := "kindOfSpark", desc := "(I)I" } : MethodName)) ∈ am_ws := am_t3 166 rfl rfl
theorem wd_647 : (Cond.code ({ cls := "NumberedSparks$Scene", name := "kindOfSpark", desc := "(I)I" } : MethodName) prog_7_method_17_code (4 : Nat) (Option.some FieldType.int)) ∈ am_ws := am_t3 167 rfl rfl
theorem wd_648 : (Cond.methodLinkNest "NumberedSparks$Scene" (91 : Nat) ({ cls := "NumberedSparks", name := "generationOf", desc := "(I)I" } : MethodName) "NumberedSparks") ∈ am_ws := am_t3 168 rfl rfl
theorem wd_649 : (Cond.methodLink "NumberedSparks" (169 : Nat) ({ cls := "NumberedSparks", name := "codeOfChild", desc := "(III)I" } : MethodName)) ∈ am_ws := am_t3 169 rfl rfl
theorem wd_650 : (Cond.static ({ cls := "NumberedSparks", name := "codeOfChild", desc := "(III)I" } : MethodName)) ∈ am_ws := am_t3 170 rfl rfl
theorem wd_651 : (Cond.code ({ cls := "NumberedSparks", name := "codeOfChild", desc := "(III)I" } : MethodName) prog_1_method_66_code (3 : Nat) (Option.some FieldType.int)) ∈ am_ws := am_t3 171 rfl rfl
theorem wd_652 : (Cond.methodLink "NumberedSparksLaw" (62 : Nat) ({ cls := "NumberedSparks", name := "parent", desc := "(I)I" } : MethodName)) ∈ am_ws := am_t3 172 rfl rfl
theorem wd_653 : (Cond.instanceMethod ({ cls := "NumberedSparks", name := "parent", desc := "(I)I" } : MethodName)) ∈ am_ws := am_t3 173 rfl rfl
theorem wd_654 : (Cond.selects "NumberedSparks" ({ cls := "NumberedSparks", name := "parent", desc := "(I)I" } : MethodName) ({ cls := "NumberedSparks", name := "parent", desc := "(I)I" } : MethodName)) ∈ am_ws := am_t3 174 rfl rfl
theorem wd_655 : (Cond.code ({ cls := "NumberedSparks", name := "parent", desc := "(I)I" } : MethodName) prog_1_method_16_code (2 : Nat) (Option.some FieldType.int)) ∈ am_ws := am_t3 175 rfl rfl
theorem wd_656 : (Cond.methodLink "NumberedSparks" (173 : Nat) ({ cls := "NumberedSparks", name := "codeOfParent", desc := "(I)I" } : MethodName)) ∈ am_ws := am_t3 176 rfl rfl
theorem wd_657 : (Cond.static ({ cls := "NumberedSparks", name := "codeOfParent", desc := "(I)I" } : MethodName)) ∈ am_ws := am_t3 177 rfl rfl
theorem wd_658 : (Cond.code ({ cls := "NumberedSparks", name := "codeOfParent", desc := "(I)I" } : MethodName) prog_1_method_67_code (1 : Nat) (Option.some FieldType.int)) ∈ am_ws := am_t3 178 rfl rfl
theorem wd_659 : (Cond.methodLink "NumberedSparksLaw" (66 : Nat) ({ cls := "NumberedSparks", name := "spark", desc := "(II)I" } : MethodName)) ∈ am_ws := am_t3 179 rfl rfl
theorem wd_660 : (Cond.instanceMethod ({ cls := "NumberedSparks", name := "spark", desc := "(II)I" } : MethodName)) ∈ am_ws := am_t3 180 rfl rfl
theorem wd_661 : (Cond.selects "NumberedSparks" ({ cls := "NumberedSparks", name := "spark", desc := "(II)I" } : MethodName) ({ cls := "NumberedSparks", name := "spark", desc := "(II)I" } : MethodName)) ∈ am_ws := am_t3 181 rfl rfl
theorem wd_662 : (Cond.code ({ cls := "NumberedSparks", name := "spark", desc := "(II)I" } : MethodName) prog_1_method_17_code (4 : Nat) (Option.some FieldType.int)) ∈ am_ws := am_t3 182 rfl rfl
theorem wd_663 : (Cond.methodLink "NumberedSparks" (176 : Nat) ({ cls := "NumberedSparks$Finder", name := "find", desc := "(I)LNumberedSparks$Spark;" } : MethodName)) ∈ am_ws := am_t3 183 rfl rfl
theorem wd_664 : (Cond.instanceMethod ({ cls := "NumberedSparks$Finder", name := "find", desc := "(I)LNumberedSparks$Spark;" } : MethodName)) ∈ am_ws := am_t3 184 rfl rfl
theorem wd_665 : (Cond.selects "NumberedSparks$Finder" ({ cls := "NumberedSparks$Finder", name := "find", desc := "(I)LNumberedSparks$Spark;" } : MethodName) ({ cls := "NumberedSparks$Finder", name := "find", desc := "(I)LNumberedSparks$Spark;" } : MethodName)) ∈ am_ws := am_t3 185 rfl rfl
theorem wd_666 : (Cond.code ({ cls := "NumberedSparks$Finder", name := "find", desc := "(I)LNumberedSparks$Spark;" } : MethodName) prog_2_method_2_code (5 : Nat) (Option.some (FieldType.object "NumberedSparks$Spark"))) ∈ am_ws := am_t3 186 rfl rfl
theorem wd_667 : (Cond.methodLink "NumberedSparks$Finder" (28 : Nat) ({ cls := "NumberedSparks$Scene", name := "hasSpark", desc := "(I)Z" } : MethodName)) ∈ am_ws := am_t3 187 rfl rfl
theorem wd_668 : (Cond.methodLinkNest "NumberedSparks$Finder" (34 : Nat) ({ cls := "NumberedSparks", name := "sourceOf", desc := "(I)I" } : MethodName) "NumberedSparks") ∈ am_ws := am_t3 188 rfl rfl
theorem wd_669 : (Cond.methodLinkNest "NumberedSparks$Finder" (40 : Nat) ({ cls := "NumberedSparks", name := "numberOf", desc := "(I)I" } : MethodName) "NumberedSparks") ∈ am_ws := am_t3 189 rfl rfl
theorem wd_670 : (Cond.methodLink "NumberedSparks$Finder" (43 : Nat) ({ cls := "NumberedSparks$Scene", name := "birthTick", desc := "(II)I" } : MethodName)) ∈ am_ws := am_t3 190 rfl rfl
theorem wd_671 : (Cond.instanceMethod ({ cls := "NumberedSparks$Scene", name := "birthTick", desc := "(II)I" } : MethodName)) ∈ am_ws := am_t3 191 rfl rfl
theorem wd_672 : (Cond.selects "NumberedSparks$Scene" ({ cls := "NumberedSparks$Scene", name := "birthTick", desc := "(II)I" } : MethodName) ({ cls := "NumberedSparks$Scene", name := "birthTick", desc := "(II)I" } : MethodName)) ∈ am_ws := am_t3 192 rfl rfl
theorem wd_673 : (Cond.code ({ cls := "NumberedSparks$Scene", name := "birthTick", desc := "(II)I" } : MethodName) prog_7_method_20_code (3 : Nat) (Option.some FieldType.int)) ∈ am_ws := am_t3 193 rfl rfl
theorem wd_674 : (Cond.methodLink "NumberedSparks$Scene" (102 : Nat) ({ cls := "NumberedSparks$Scene", name := "plannedTick", desc := "(II)I" } : MethodName)) ∈ am_ws := am_t3 194 rfl rfl
theorem wd_675 : (Cond.instanceMethod ({ cls := "NumberedSparks$Scene", name := "plannedTick", desc := "(II)I" } : MethodName)) ∈ am_ws := am_t3 195 rfl rfl
theorem wd_676 : (Cond.selects "NumberedSparks$Scene" ({ cls := "NumberedSparks$Scene", name := "plannedTick", desc := "(II)I" } : MethodName) ({ cls := "NumberedSparks$Scene", name := "plannedTick", desc := "(II)I" } : MethodName)) ∈ am_ws := am_t3 196 rfl rfl
theorem wd_677 : (Cond.code ({ cls := "NumberedSparks$Scene", name := "plannedTick", desc := "(II)I" } : MethodName) prog_7_method_19_code (4 : Nat) (Option.some FieldType.int)) ∈ am_ws := am_t3 197 rfl rfl
theorem wd_678 : (Cond.methodLink "NumberedSparks$Scene" (99 : Nat) ({ cls := "java/lang/Math", name := "max", desc := "(II)I" } : MethodName)) ∈ am_ws := am_t3 198 rfl rfl
theorem wd_679 : (Cond.static ({ cls := "java/lang/Math", name := "max", desc := "(II)I" } : MethodName)) ∈ am_ws := am_t3 199 rfl rfl
theorem wd_680 : (Cond.code ({ cls := "java/lang/Math", name := "max", desc := "(II)I" } : MethodName) prog_13_method_65_code (2 : Nat) (Option.some FieldType.int)) ∈ am_ws := am_t3 200 rfl rfl
theorem wd_681 : (Cond.methodLinkNest "NumberedSparks$Scene" (105 : Nat) ({ cls := "NumberedSparks", name := "codeOfRoot", desc := "(II)I" } : MethodName) "NumberedSparks") ∈ am_ws := am_t3 201 rfl rfl
theorem wd_682 : (Cond.static ({ cls := "NumberedSparks", name := "codeOfRoot", desc := "(II)I" } : MethodName)) ∈ am_ws := am_t3 202 rfl rfl
theorem wd_683 : (Cond.code ({ cls := "NumberedSparks", name := "codeOfRoot", desc := "(II)I" } : MethodName) prog_1_method_64_code (2 : Nat) (Option.some FieldType.int)) ∈ am_ws := am_t3 203 rfl rfl
theorem wd_684 : (Cond.methodLink "NumberedSparks$Scene" (70 : Nat) ({ cls := "NumberedSparks$Scene", name := "draw", desc := "(III)I" } : MethodName)) ∈ am_ws := am_t3 204 rfl rfl
theorem wd_685 : (Cond.instanceMethod ({ cls := "NumberedSparks$Scene", name := "draw", desc := "(III)I" } : MethodName)) ∈ am_ws := am_t3 205 rfl rfl
theorem wd_686 : (Cond.selects "NumberedSparks$Scene" ({ cls := "NumberedSparks$Scene", name := "draw", desc := "(III)I" } : MethodName) ({ cls := "NumberedSparks$Scene", name := "draw", desc := "(III)I" } : MethodName)) ∈ am_ws := am_t3 206 rfl rfl
theorem wd_687 : (Cond.code ({ cls := "NumberedSparks$Scene", name := "draw", desc := "(III)I" } : MethodName) prog_7_method_14_code (4 : Nat) (Option.some FieldType.int)) ∈ am_ws := am_t3 207 rfl rfl
theorem wd_688 : (Cond.methodLink "NumberedSparks$Scene" (66 : Nat) ({ cls := "NumberedSparks$Scene", name := "mix", desc := "(II)J" } : MethodName)) ∈ am_ws := am_t3 208 rfl rfl
theorem wd_689 : (Cond.methodLink "NumberedSparks$Finder" (47 : Nat) ({ cls := "NumberedSparks$Spark", name := "beginAtSource", desc := "(III)V" } : MethodName)) ∈ am_ws := am_t3 209 rfl rfl
theorem wd_690 : (Cond.instanceMethod ({ cls := "NumberedSparks$Spark", name := "beginAtSource", desc := "(III)V" } : MethodName)) ∈ am_ws := am_t3 210 rfl rfl
theorem wd_691 : (Cond.selects "NumberedSparks$Spark" ({ cls := "NumberedSparks$Spark", name := "beginAtSource", desc := "(III)V" } : MethodName) ({ cls := "NumberedSparks$Spark", name := "beginAtSource", desc := "(III)V" } : MethodName)) ∈ am_ws := am_t3 211 rfl rfl
theorem wd_692 : (Cond.code ({ cls := "NumberedSparks$Spark", name := "beginAtSource", desc := "(III)V" } : MethodName) prog_8_method_2_code (5 : Nat) (Option.none : Option FieldType)) ∈ am_ws := am_t3 212 rfl rfl
theorem wd_693 : (Cond.methodLinkNest "NumberedSparks$Spark" (22 : Nat) ({ cls := "NumberedSparks", name := "codeOfRoot", desc := "(II)I" } : MethodName) "NumberedSparks") ∈ am_ws := am_t3 213 rfl rfl
theorem wd_694 : (Cond.methodLink "NumberedSparks$Spark" (30 : Nat) ({ cls := "NumberedSparks$Scene", name := "ofSource", desc := "(II)I" } : MethodName)) ∈ am_ws := am_t3 214 rfl rfl
theorem wd_695 : (Cond.methodLink "NumberedSparks$Spark" (44 : Nat) ({ cls := "NumberedSparks$Scene", name := "ofKind", desc := "(II)I" } : MethodName)) ∈ am_ws := am_t3 215 rfl rfl
theorem wd_696 : (Cond.methodLink "NumberedSparks$Spark" (47 : Nat) ({ cls := "NumberedSparks$Scene", name := "draw", desc := "(III)I" } : MethodName)) ∈ am_ws := am_t3 216 rfl rfl
theorem wd_697 : (Cond.methodLink "NumberedSparks$Finder" (51 : Nat) ({ cls := "NumberedSparks$Spark", name := "fly", desc := "()V" } : MethodName)) ∈ am_ws := am_t3 217 rfl rfl
theorem wd_698 : (Cond.instanceMethod ({ cls := "NumberedSparks$Spark", name := "fly", desc := "()V" } : MethodName)) ∈ am_ws := am_t3 218 rfl rfl
theorem wd_699 : (Cond.selects "NumberedSparks$Spark" ({ cls := "NumberedSparks$Spark", name := "fly", desc := "()V" } : MethodName) ({ cls := "NumberedSparks$Spark", name := "fly", desc := "()V" } : MethodName)) ∈ am_ws := am_t3 219 rfl rfl
theorem wd_700 : (Cond.code ({ cls := "NumberedSparks$Spark", name := "fly", desc := "()V" } : MethodName) prog_8_method_4_code (3 : Nat) (Option.none : Option FieldType)) ∈ am_ws := am_t3 220 rfl rfl
theorem wd_701 : (Cond.methodLink "NumberedSparks$Spark" (66 : Nat) ({ cls := "NumberedSparks$Spark", name := "ageBeyond", desc := "(II)I" } : MethodName)) ∈ am_ws := am_t3 221 rfl rfl
theorem wd_703 : (Cond.instanceMethod ({ cls := "NumberedSparks$Spark", name := "ageBeyond", desc := "(II)I" } : MethodName)) ∈ am_ws := am_t3 223 rfl rfl
theorem wd_704 : (Cond.code ({ cls := "NumberedSparks$Spark", name := "ageBeyond", desc := "(II)I" } : MethodName) prog_8_method_5_code (8 : Nat) (Option.some FieldType.int)) ∈ am_ws := am_t3 224 rfl rfl
theorem wd_705 : (Cond.methodLink "NumberedSparks$Spark" (74 : Nat) ({ cls := "NumberedSparks$Scene", name := "cellsAlong", desc := "(I)I" } : MethodName)) ∈ am_ws := am_t3 225 rfl rfl
theorem wd_706 : (Cond.methodLink "NumberedSparks$Spark" (69 : Nat) ({ cls := "java/lang/Math", name := "min", desc := "(II)I" } : MethodName)) ∈ am_ws := am_t3 226 rfl rfl
theorem wd_707 : (Cond.methodLinkNest "NumberedSparks$Finder" (54 : Nat) ({ cls := "NumberedSparks", name := "generationOf", desc := "(I)I" } : MethodName) "NumberedSparks") ∈ am_ws := am_t3 227 rfl rfl
theorem wd_708 : (Cond.methodLink "NumberedSparks$Finder" (57 : Nat) ({ cls := "NumberedSparks$Spark", name := "beginAsChild", desc := "(LNumberedSparks$Spark;I)V" } : MethodName)) ∈ am_ws := am_t3 228 rfl rfl
theorem wd_709 : (Cond.instanceMethod ({ cls := "NumberedSparks$Spark", name := "beginAsChild", desc := "(LNumberedSparks$Spark;I)V" } : MethodName)) ∈ am_ws := am_t3 229 rfl rfl
theorem wd_710 : (Cond.selects "NumberedSparks$Spark" ({ cls := "NumberedSparks$Spark", name := "beginAsChild", desc := "(LNumberedSparks$Spark;I)V" } : MethodName) ({ cls := "NumberedSparks$Spark", name := "beginAsChild", desc := "(LNumberedSparks$Spark;I)V" } : MethodName)) ∈ am_ws := am_t3 230 rfl rfl
theorem wd_711 : (Cond.code ({ cls := "NumberedSparks$Spark", name := "beginAsChild", desc := "(LNumberedSparks$Spark;I)V" } : MethodName) prog_8_method_3_code (4 : Nat) (Option.none : Option FieldType)) ∈ am_ws := am_t3 231 rfl rfl
theorem wd_712 : (Cond.methodLinkNest "NumberedSparks$Spark" (54 : Nat) ({ cls := "NumberedSparks", name := "codeOfChild", desc := "(III)I" } : MethodName) "NumberedSparks") ∈ am_ws := am_t3 232 rfl rfl
theorem wd_713 : (Cond.methodLink "NumberedSparks$Spark" (57 : Nat) ({ cls := "NumberedSparks$Spark", name := "placeAt", desc := "(II)I" } : MethodName)) ∈ am_ws := am_t3 233 rfl rfl
theorem wd_714 : (Cond.instanceMethod ({ cls := "NumberedSparks$Spark", name := "placeAt", desc := "(II)I" } : MethodName)) ∈ am_ws := am_t3 234 rfl rfl
theorem wd_715 : (Cond.selects "NumberedSparks$Spark" ({ cls := "NumberedSparks$Spark", name := "placeAt", desc := "(II)I" } : MethodName) ({ cls := "NumberedSparks$Spark", name := "placeAt", desc := "(II)I" } : MethodName)) ∈ am_ws := am_t3 235 rfl rfl
theorem wd_716 : (Cond.code ({ cls := "NumberedSparks$Spark", name := "placeAt", desc := "(II)I" } : MethodName) prog_8_method_8_code (6 : Nat) (Option.some FieldType.int)) ∈ am_ws := am_t3 236 rfl rfl
theorem wd_717 : (Cond.methodLink "NumberedSparks$Spark" (78 : Nat) ({ cls := "NumberedSparks$Spark", name := "freePlace", desc := "(II)I" } : MethodName)) ∈ am_ws := am_t3 237 rfl rfl
theorem wd_719 : (Cond.instanceMethod ({ cls := "NumberedSparks$Spark", name := "freePlace", desc := "(II)I" } : MethodName)) ∈ am_ws := am_t3 239 rfl rfl
theorem wd_720 : (Cond.code ({ cls := "NumberedSparks$Spark", name := "freePlace", desc := "(II)I" } : MethodName) prog_8_method_7_code (4 : Nat) (Option.some FieldType.int)) ∈ am_ws := am_t4 0 rfl rfl
theorem wd_721 : (Cond.methodLink "NumberedSparks$Spark" (81 : Nat) ({ cls := "java/lang/Math", name := "floorMod", desc := "(II)I" } : MethodName)) ∈ am_ws := am_t4 1 rfl rfl
theorem wd_722 : (Cond.static ({ cls := "java/lang/Math", name := "floorMod", desc := "(II)I" } : MethodName)) ∈ am_ws := am_t4 2 rfl rfl
theorem wd_723 : (Cond.code ({ cls := "java/lang/Math", name := "floorMod", desc := "(II)I" } : MethodName) prog_13_method_50_code (3 : Nat) (Option.some FieldType.int)) ∈ am_ws := am_t4 3 rfl rfl
theorem wd_724 : (Cond.methodLink "NumberedSparks" (185 : Nat) ({ cls := "NumberedSparks", name := "sourceOf", desc := "(I)I" } : MethodName)) ∈ am_ws := am_t4 4 rfl rfl
theorem wd_725 : (Cond.methodLink "NumberedSparks" (188 : Nat) ({ cls := "NumberedSparks", name := "numberOf", desc := "(I)I" } : MethodName)) ∈ am_ws := am_t4 5 rfl rfl
theorem wd_726 : (Cond.methodLink "NumberedSparks" (194 : Nat) ({ cls := "NumberedSparks$Scene", name := "colourOf", desc := "(I)I" } : MethodName)) ∈ am_ws := am_t4 6 rfl rfl
theorem wd_727 : (Cond.instanceMethod ({ cls := "NumberedSparks$Scene", name := "colourOf", desc := "(I)I" } : MethodName)) ∈ am_ws := am_t4 7 rfl rfl
theorem wd_728 : (Cond.selects "NumberedSparks$Scene" ({ cls := "NumberedSparks$Scene", name := "colourOf", desc := "(I)I" } : MethodName) ({ cls := "NumberedSparks$Scene", name := "colourOf", desc := "(I)I" } : MethodName)) ∈ am_ws := am_t4 8 rfl rfl
theorem wd_729 : (Cond.code ({ cls := "NumberedSparks$Scene", name := "colourOf", desc := "(I)I" } : MethodName) prog_7_method_15_code (2 : Nat) (Option.some FieldType.int)) ∈ am_ws := am_t4 9 rfl rfl
theorem wd_730 : (Cond.methodLink "NumberedSparksLaw" (70 : Nat) ({ cls := "NumberedSparks", name := "place", desc := "(III)I" } : MethodName)) ∈ am_ws := am_t4 10 rfl rfl
theorem wd_731 : (Cond.instanceMethod ({ cls := "NumberedSparks", name := "place", desc := "(III)I" } : MethodName)) ∈ am_ws := am_t4 11 rfl rfl
theorem wd_732 : (Cond.selects "NumberedSparks" ({ cls := "NumberedSparks", name := "place", desc := "(III)I" } : MethodName) ({ cls := "NumberedSparks", name := "place", desc := "(III)I" } : MethodName)) ∈ am_ws := am_t4 12 rfl rfl
theorem wd_733 : (Cond.code ({ cls := "NumberedSparks", name := "place", desc := "(III)I" } : MethodName) prog_1_method_18_code (5 : Nat) (Option.some FieldType.int)) ∈ am_ws := am_t4 13 rfl rfl
theorem wd_734 : (Cond.methodLink "NumberedSparks" (206 : Nat) ({ cls := "NumberedSparks", name := "isTick", desc := "(I)Z" } : MethodName)) ∈ am_ws := am_t4 14 rfl rfl
theorem wd_735 : (Cond.static ({ cls := "NumberedSparks", name := "isTick", desc := "(I)Z" } : MethodName)) ∈ am_ws := am_t4 15 rfl rfl
theorem wd_736 : (Cond.code ({ cls := "NumberedSparks", name := "isTick", desc := "(I)Z" } : MethodName) prog_1_method_59_code (1 : Nat) (Option.some FieldType.boolean)) ∈ am_ws := am_t4 16 rfl rfl
theorem wd_737 : (Cond.methodLink "NumberedSparks" (209 : Nat) ({ cls := "NumberedSparks", name := "isAxis", desc := "(I)Z" } : MethodName)) ∈ am_ws := am_t4 17 rfl rfl
theorem wd_738 : (Cond.static ({ cls := "NumberedSparks", name := "isAxis", desc := "(I)Z" } : MethodName)) ∈ am_ws := am_t4 18 rfl rfl
theorem wd_739 : (Cond.code ({ cls := "NumberedSparks", name := "isAxis", desc := "(I)Z" } : MethodName) prog_1_method_60_code (1 : Nat) (Option.some FieldType.boolean)) ∈ am_ws := am_t4 19 rfl rfl
theorem wd_740 : (Cond.methodLink "NumberedSparks" (212 : Nat) ({ cls := "NumberedSparks$Spark", name := "isThere", desc := "(I)Z" } : MethodName)) ∈ am_ws := am_t4 20 rfl rfl
theorem wd_741 : (Cond.instanceMethod ({ cls := "NumberedSparks$Spark", name := "isThere", desc := "(I)Z" } : MethodName)) ∈ am_ws := am_t4 21 rfl rfl
theorem wd_742 : (Cond.selects "NumberedSparks$Spark" ({ cls := "NumberedSparks$Spark", name := "isThere", desc := "(I)Z" } : MethodName) ({ cls := "NumberedSparks$Spark", name := "isThere", desc := "(I)Z" } : MethodName)) ∈ am_ws := am_t4 22 rfl rfl
theorem wd_743 : (Cond.code ({ cls := "NumberedSparks$Spark", name := "isThere", desc := "(I)Z" } : MethodName) prog_8_method_6_code (2 : Nat) (Option.some FieldType.boolean)) ∈ am_ws := am_t4 23 rfl rfl
theorem wd_744 : (Cond.methodLink "NumberedSparks" (215 : Nat) ({ cls := "NumberedSparks$Spark", name := "placeAt", desc := "(II)I" } : MethodName)) ∈ am_ws := am_t4 24 rfl rfl
theorem wd_745 : (Cond.methodLink "NumberedSparksLaw" (75 : Nat) ({ cls := "NumberedSparks", name := "size", desc := "(II)I" } : MethodName)) ∈ am_ws := am_t4 25 rfl rfl
theorem wd_746 : (Cond.instanceMethod ({ cls := "NumberedSparks", name := "size", desc := "(II)I" } : MethodName)) ∈ am_ws := am_t4 26 rfl rfl
theorem wd_747 : (Cond.selects "NumberedSparks" ({ cls := "NumberedSparks", name := "size", desc := "(II)I" } : MethodName) ({ cls := "NumberedSparks", name := "size", desc := "(II)I" } : MethodName)) ∈ am_ws := am_t4 27 rfl rfl
theorem wd_748 : (Cond.code ({ cls := "NumberedSparks", name := "size", desc := "(II)I" } : MethodName) prog_1_method_19_code (6 : Nat) (Option.some FieldType.int)) ∈ am_ws := am_t4 28 rfl rfl
theorem wd_749 : (Cond.methodLink "NumberedSparks" (218 : Nat) ({ cls := "java/lang/Math", name := "max", desc := "(II)I" } : MethodName)) ∈ am_ws := am_t4 29 rfl rfl
theorem wd_750 : (Cond.methodLink "NumberedSparksLaw" (79 : Nat) ({ cls := "NumberedSparks", name := "edges", desc := "(I)I" } : MethodName)) ∈ am_ws := am_t4 30 rfl rfl
theorem wd_751 : (Cond.instanceMethod ({ cls := "NumberedSparks", name := "edges", desc := "(I)I" } : MethodName)) ∈ am_ws := am_t4 31 rfl rfl
theorem wd_752 : (Cond.selects "NumberedSparks" ({ cls := "NumberedSparks", name := "edges", desc := "(I)I" } : MethodName) ({ cls := "NumberedSparks", name := "edges", desc := "(I)I" } : MethodName)) ∈ am_ws := am_t4 32 rfl rfl
theorem wd_753 : (Cond.code ({ cls := "NumberedSparks", name := "edges", desc := "(I)I" } : MethodName) prog_1_method_20_code (5 : Nat) (Option.some FieldType.int)) ∈ am_ws := am_t4 33 rfl rfl
theorem wd_754 : (Cond.methodLink "NumberedSparks" (223 : Nat) ({ cls := "NumberedSparks$Spark", name := "edgesAt", desc := "(I)I" } : MethodName)) ∈ am_ws := am_t4 34 rfl rfl
theorem wd_755 : (Cond.instanceMethod ({ cls := "NumberedSparks$Spark", name := "edgesAt", desc := "(I)I" } : MethodName)) ∈ am_ws := am_t4 35 rfl rfl
theorem wd_756 : (Cond.selects "NumberedSparks$Spark" ({ cls := "NumberedSparks$Spark", name := "edgesAt", desc := "(I)I" } : MethodName) ({ cls := "NumberedSparks$Spark", name := "edgesAt", desc := "(I)I" } : MethodName)) ∈ am_ws := am_t4 36 rfl rfl
theorem wd_757 : (Cond.code ({ cls := "NumberedSparks$Spark", name := "edgesAt", desc := "(I)I" } : MethodName) prog_8_method_10_code (7 : Nat) (Option.some FieldType.int)) ∈ am_ws := am_t4 37 rfl rfl
theorem wd_758 : (Cond.methodLink "NumberedSparks$Spark" (84 : Nat) ({ cls := "java/lang/Math", name := "max", desc := "(II)I" } : MethodName)) ∈ am_ws := am_t4 38 rfl rfl
theorem wd_759 : (Cond.methodLink "NumberedSparks$Spark" (87 : Nat) ({ cls := "java/lang/Math", name := "floorDiv", desc := "(II)I" } : MethodName)) ∈ am_ws := am_t4 39 rfl rfl
theorem wd_760 : (Cond.static ({ cls := "java/lang/Math", name := "floorDiv", desc := "(II)I" } : MethodName)) ∈ am_ws := am_t4 40 rfl rfl
theorem wd_761 : (Cond.code ({ cls := "java/lang/Math", name := "floorDiv", desc := "(II)I" } : MethodName) prog_13_method_47_code (3 : Nat) (Option.some FieldType.int)) ∈ am_ws := am_t4 41 rfl rfl
theorem wd_762 : (Cond.methodLink "NumberedSparks$Spark" (90 : Nat) ({ cls := "java/lang/Math", name := "abs", desc := "(I)I" } : MethodName)) ∈ am_ws := am_t4 42 rfl rfl
theorem wd_763 : (Cond.static ({ cls := "java/lang/Math", name := "abs", desc := "(I)I" } : MethodName)) ∈ am_ws := am_t4 43 rfl rfl
theorem wd_764 : (Cond.code ({ cls := "java/lang/Math", name := "abs", desc := "(I)I" } : MethodName) prog_13_method_59_code (1 : Nat) (Option.some FieldType.int)) ∈ am_ws := am_t4 44 rfl rfl
theorem wd_765 : (Cond.methodLink "NumberedSparksLaw" (193 : Nat) ({ cls := "NumberedSparks", name := "over", desc := "(I)I" } : MethodName)) ∈ am_ws := am_t4 45 rfl rfl
theorem wd_766 : (Cond.instanceMethod ({ cls := "NumberedSparks", name := "over", desc := "(I)I" } : MethodName)) ∈ am_ws := am_t4 46 rfl rfl
theorem wd_767 : (Cond.selects "NumberedSparks" ({ cls := "NumberedSparks", name := "over", desc := "(I)I" } : MethodName) ({ cls := "NumberedSparks", name := "over", desc := "(I)I" } : MethodName)) ∈ am_ws := am_t4 47 rfl rfl
theorem wd_768 : (Cond.code ({ cls := "NumberedSparks", name := "over", desc := "(I)I" } : MethodName) prog_1_method_21_code (4 : Nat) (Option.some FieldType.int)) ∈ am_ws := am_t4 48 rfl rfl
theorem wd_769 : (Cond.methodLink "NumberedSparksLaw" (189 : Nat) ({ cls := "NumberedSparks", name := "reach", desc := "(III)I" } : MethodName)) ∈ am_ws := am_t4 49 rfl rfl
theorem wd_770 : (Cond.instanceMethod ({ cls := "NumberedSparks", name := "reach", desc := "(III)I" } : MethodName)) ∈ am_ws := am_t4 50 rfl rfl
theorem wd_771 : (Cond.selects "NumberedSparks" ({ cls := "NumberedSparks", name := "reach", desc := "(III)I" } : MethodName) ({ cls := "NumberedSparks", name := "reach", desc := "(III)I" } : MethodName)) ∈ am_ws := am_t4 51 rfl rfl
theorem wd_772 : (Cond.code ({ cls := "NumberedSparks", name := "reach", desc := "(III)I" } : MethodName) prog_1_method_22_code (8 : Nat) (Option.some FieldType.int)) ∈ am_ws := am_t4 52 rfl rfl
theorem wd_773 : (Cond.methodLink "NumberedSparks" (226 : Nat) ({ cls := "java/lang/Math", name := "min", desc := "(II)I" } : MethodName)) ∈ am_ws := am_t4 53 rfl rfl
theorem wd_774 : (Cond.methodLink "NumberedSparksLaw" (153 : Nat) ({ cls := "NumberedSparks", name := "cellsOf", desc := "(I)I" } : MethodName)) ∈ am_ws := am_t4 54 rfl rfl
theorem wd_775 : (Cond.instanceMethod ({ cls := "NumberedSparks", name := "cellsOf", desc := "(I)I" } : MethodName)) ∈ am_ws := am_t4 55 rfl rfl
theorem wd_776 : (Cond.selects "NumberedSparks" ({ cls := "NumberedSparks", name := "cellsOf", desc := "(I)I" } : MethodName) ({ cls := "NumberedSparks", name := "cellsOf", desc := "(I)I" } : MethodName)) ∈ am_ws := am_t4 56 rfl rfl
theorem wd_777 : (Cond.code ({ cls := "NumberedSparks", name := "cellsOf", desc := "(I)I" } : MethodName) prog_1_method_23_code (6 : Nat) (Option.some FieldType.int)) ∈ am_ws := am_t4 57 rfl rfl
theorem wd_778 : (Cond.methodLink "NumberedSparks" (229 : Nat) ({ cls := "NumberedSparks$Spark", name := "cellAt", desc := "(I)I" } : MethodName)) ∈ am_ws := am_t4 58 rfl rfl
theorem wd_779 : (Cond.instanceMethod ({ cls := "NumberedSparks$Spark", name := "cellAt", desc := "(I)I" } : MethodName)) ∈ am_ws := am_t4 59 rfl rfl
theorem wd_780 : (Cond.selects "NumberedSparks$Spark" ({ cls := "NumberedSparks$Spark", name := "cellAt", desc := "(I)I" } : MethodName) ({ cls := "NumberedSparks$Spark", name := "cellAt", desc := "(I)I" } : MethodName)) ∈ am_ws := am_t4 60 rfl rfl
theorem wd_781 : (Cond.code ({ cls := "NumberedSparks$Spark", name := "cellAt", desc := "(I)I" } : MethodName) prog_8_method_9_code (5 : Nat) (Option.some FieldType.int)) ∈ am_ws := am_t4 61 rfl rfl
theorem wd_782 : (Cond.methodLink "NumberedSparks" (232 : Nat) ({ cls := "NumberedSparks", name := "isAmong", desc := "(II)Z" } : MethodName)) ∈ am_ws := am_t4 62 rfl rfl
theorem wd_784 : (Cond.instanceMethod ({ cls := "NumberedSparks", name := "isAmong", desc := "(II)Z" } : MethodName)) ∈ am_ws := am_t4 64 rfl rfl
theorem wd_785 : (Cond.code ({ cls := "NumberedSparks", name := "isAmong", desc := "(II)Z" } : MethodName) prog_1_method_24_code (4 : Nat) (Option.some FieldType.boolean)) ∈ am_ws := am_t4 65 rfl rfl
theorem wd_786 : (Cond.methodLink "NumberedSparksLaw" (157 : Nat) ({ cls := "NumberedSparks", name := "meets", desc := "(II)I" } : MethodName)) ∈ am_ws := am_t4 66 rfl rfl
theorem wd_787 : (Cond.instanceMethod ({ cls := "NumberedSparks", name := "meets", desc := "(II)I" } : MethodName)) ∈ am_ws := am_t4 67 rfl rfl
theorem wd_788 : (Cond.selects "NumberedSparks" ({ cls := "NumberedSparks", name := "meets", desc := "(II)I" } : MethodName) ({ cls := "NumberedSparks", name := "meets", desc := "(II)I" } : MethodName)) ∈ am_ws := am_t4 68 rfl rfl
theorem wd_789 : (Cond.code ({ cls := "NumberedSparks", name := "meets", desc := "(II)I" } : MethodName) prog_1_method_25_code (7 : Nat) (Option.some FieldType.int)) ∈ am_ws := am_t4 69 rfl rfl
theorem wd_790 : (Cond.methodLink "NumberedSparksLaw" (185 : Nat) ({ cls := "NumberedSparks", name := "kin", desc := "(II)I" } : MethodName)) ∈ am_ws := am_t4 70 rfl rfl
theorem wd_791 : (Cond.instanceMethod ({ cls := "NumberedSparks", name := "kin", desc := "(II)I" } : MethodName)) ∈ am_ws := am_t4 71 rfl rfl
theorem wd_792 : (Cond.selects "NumberedSparks" ({ cls := "NumberedSparks", name := "kin", desc := "(II)I" } : MethodName) ({ cls := "NumberedSparks", name := "kin", desc := "(II)I" } : MethodName)) ∈ am_ws := am_t4 72 rfl rfl
theorem wd_793 : (Cond.code ({ cls := "NumberedSparks", name := "kin", desc := "(II)I" } : MethodName) prog_1_method_26_code (3 : Nat) (Option.some FieldType.int)) ∈ am_ws := am_t4 73 rfl rfl
theorem wd_794 : (Cond.methodLink "NumberedSparksLaw" (133 : Nat) ({ cls := "NumberedSparks", name := "line", desc := "(II)I" } : MethodName)) ∈ am_ws := am_t4 74 rfl rfl
theorem wd_795 : (Cond.instanceMethod ({ cls := "NumberedSparks", name := "line", desc := "(II)I" } : MethodName)) ∈ am_ws := am_t4 75 rfl rfl
theorem wd_796 : (Cond.selects "NumberedSparks" ({ cls := "NumberedSparks", name := "line", desc := "(II)I" } : MethodName) ({ cls := "NumberedSparks", name := "line", desc := "(II)I" } : MethodName)) ∈ am_ws := am_t4 76 rfl rfl
theorem wd_797 : (Cond.code ({ cls := "NumberedSparks", name := "line", desc := "(II)I" } : MethodName) prog_1_method_27_code (7 : Nat) (Option.some FieldType.int)) ∈ am_ws := am_t4 77 rfl rfl
theorem wd_798 : (Cond.methodLink "NumberedSparks" (236 : Nat) ({ cls := "NumberedSparks$Walk", name := "startWithRoot", desc := "(II)V" } : MethodName)) ∈ am_ws := am_t4 78 rfl rfl
theorem wd_799 : (Cond.instanceMethod ({ cls := "NumberedSparks$Walk", name := "startWithRoot", desc := "(II)V" } : MethodName)) ∈ am_ws := am_t4 79 rfl rfl
theorem wd_800 : (Cond.selects "NumberedSparks$Walk" ({ cls := "NumberedSparks$Walk", name := "startWithRoot", desc := "(II)V" } : MethodName) ({ cls := "NumberedSparks$Walk", name := "startWithRoot", desc := "(II)V" } : MethodName)) ∈ am_ws := am_t4 80 rfl rfl
theorem wd_801 : (Cond.code ({ cls := "NumberedSparks$Walk", name := "startWithRoot", desc := "(II)V" } : MethodName) prog_9_method_3_code (4 : Nat) (Option.none : Option FieldType)) ∈ am_ws := am_t4 81 rfl rfl
theorem wd_802 : (Cond.methodLink "NumberedSparks$Walk" (63 : Nat) ({ cls := "NumberedSparks$Walk", name := "start", desc := "(II)V" } : MethodName)) ∈ am_ws := am_t4 82 rfl rfl
theorem wd_803 : (Cond.instanceMethod ({ cls := "NumberedSparks$Walk", name := "start", desc := "(II)V" } : MethodName)) ∈ am_ws := am_t4 83 rfl rfl
theorem wd_804 : (Cond.selects "NumberedSparks$Walk" ({ cls := "NumberedSparks$Walk", name := "start", desc := "(II)V" } : MethodName) ({ cls := "NumberedSparks$Walk", name := "start", desc := "(II)V" } : MethodName)) ∈ am_ws := am_t4 84 rfl rfl
theorem wd_805 : (Cond.code ({ cls := "NumberedSparks$Walk", name := "start", desc := "(II)V" } : MethodName) prog_9_method_2_code (6 : Nat) (Option.none : Option FieldType)) ∈ am_ws := am_t4 85 rfl rfl
theorem wd_806 : (Cond.methodLink "NumberedSparks$Walk" (44 : Nat) ({ cls := "NumberedSparks$Walk", name := "measureSpans", desc := "()V" } : MethodName)) ∈ am_ws := am_t4 86 rfl rfl
theorem wd_808 : (Cond.instanceMethod ({ cls := "NumberedSparks$Walk", name := "measureSpans", desc := "()V" } : MethodName)) ∈ am_ws := am_t4 88 rfl rfl
theorem wd_809 : (Cond.code ({ cls := "NumberedSparks$Walk", name := "measureSpans", desc := "()V" } : MethodName) prog_9_method_4_code (4 : Nat) (Option.none : Option FieldType)) ∈ am_ws := am_t4 89 rfl rfl
theorem wd_810 : (Cond.methodLink "NumberedSparks$Walk" (70 : Nat) ({ cls := "NumberedSparks$Scene", name := "ofKind", desc := "(II)I" } : MethodName)) ∈ am_ws := am_t4 90 rfl rfl
theorem wd_811 : (Cond.methodLink "NumberedSparks$Walk" (73 : Nat) ({ cls := "NumberedSparks$Walk", name := "spanBehind", desc := "(II)I" } : MethodName)) ∈ am_ws := am_t4 91 rfl rfl
theorem wd_813 : (Cond.instanceMethod ({ cls := "NumberedSparks$Walk", name := "spanBehind", desc := "(II)I" } : MethodName)) ∈ am_ws := am_t4 93 rfl rfl
theorem wd_814 : (Cond.code ({ cls := "NumberedSparks$Walk", name := "spanBehind", desc := "(II)I" } : MethodName) prog_9_method_6_code (3 : Nat) (Option.some FieldType.int)) ∈ am_ws := am_t4 94 rfl rfl
theorem wd_815 : (Cond.methodLink "NumberedSparks$Walk" (57 : Nat) ({ cls := "NumberedSparks$Walk", name := "spanOf", desc := "(II)I" } : MethodName)) ∈ am_ws := am_t4 95 rfl rfl
theorem wd_817 : (Cond.instanceMethod ({ cls := "NumberedSparks$Walk", name := "spanOf", desc := "(II)I" } : MethodName)) ∈ am_ws := am_t4 97 rfl rfl
theorem wd_818 : (Cond.code ({ cls := "NumberedSparks$Walk", name := "spanOf", desc := "(II)I" } : MethodName) prog_9_method_5_code (4 : Nat) (Option.some FieldType.int)) ∈ am_ws := am_t4 98 rfl rfl
theorem wd_819 : (Cond.methodLink "NumberedSparks$Walk" (47 : Nat) ({ cls := "NumberedSparks$Scene", name := "isSource", desc := "(I)Z" } : MethodName)) ∈ am_ws := am_t4 99 rfl rfl
theorem wd_820 : (Cond.methodLink "NumberedSparks$Walk" (53 : Nat) ({ cls := "NumberedSparks$Scene", name := "ofSource", desc := "(II)I" } : MethodName)) ∈ am_ws := am_t4 100 rfl rfl
theorem wd_821 : (Cond.methodLink "NumberedSparks$Walk" (60 : Nat) ({ cls := "NumberedSparks$Scene", name := "burstsUpTo", desc := "(II)I" } : MethodName)) ∈ am_ws := am_t4 101 rfl rfl
theorem wd_822 : (Cond.methodLink "NumberedSparks" (240 : Nat) ({ cls := "NumberedSparks$Walk", name := "stepRoot", desc := "()Z" } : MethodName)) ∈ am_ws := am_t4 102 rfl rfl
theorem wd_823 : (Cond.instanceMethod ({ cls := "NumberedSparks$Walk", name := "stepRoot", desc := "()Z" } : MethodName)) ∈ am_ws := am_t4 103 rfl rfl
theorem wd_824 : (Cond.selects "NumberedSparks$Walk" ({ cls := "NumberedSparks$Walk", name := "stepRoot", desc := "()Z" } : MethodName) ({ cls := "NumberedSparks$Walk", name := "stepRoot", desc := "()Z" } : MethodName)) ∈ am_ws := am_t4 104 rfl rfl
theorem wd_825 : (Cond.code ({ cls := "NumberedSparks$Walk", name := "stepRoot", desc := "()Z" } : MethodName) prog_9_method_7_code (7 : Nat) (Option.some FieldType.boolean)) ∈ am_ws := am_t4 105 rfl rfl
theorem wd_826 : (Cond.methodLink "NumberedSparks$Walk" (79 : Nat) ({ cls := "NumberedSparks$Walk", name := "sourceOfLeastRoot", desc := "()I" } : MethodName)) ∈ am_ws := am_t4 106 rfl rfl
theorem wd_828 : (Cond.instanceMethod ({ cls := "NumberedSparks$Walk", name := "sourceOfLeastRoot", desc := "()I" } : MethodName)) ∈ am_ws := am_t4 108 rfl rfl
theorem wd_829 : (Cond.code ({ cls := "NumberedSparks$Walk", name := "sourceOfLeastRoot", desc := "()I" } : MethodName) prog_9_method_11_code (3 : Nat) (Option.some FieldType.int)) ∈ am_ws := am_t4 109 rfl rfl
theorem wd_830 : (Cond.methodLink "NumberedSparks$Walk" (83 : Nat) ({ cls := "NumberedSparks$Scene", name := "birthTick", desc := "(II)I" } : MethodName)) ∈ am_ws := am_t4 110 rfl rfl
theorem wd_831 : (Cond.methodLink "NumberedSparks$Walk" (86 : Nat) ({ cls := "NumberedSparks$Spark", name := "beginAtSource", desc := "(III)V" } : MethodName)) ∈ am_ws := am_t4 111 rfl rfl
theorem wd_832 : (Cond.methodLink "NumberedSparks$Walk" (90 : Nat) ({ cls := "NumberedSparks$Walk", name := "isOutside", desc := "(LNumberedSparks$Spark;)Z" } : MethodName)) ∈ am_ws := am_t4 112 rfl rfl
theorem wd_834 : (Cond.instanceMethod ({ cls := "NumberedSparks$Walk", name := "isOutside", desc := "(LNumberedSparks$Spark;)Z" } : MethodName)) ∈ am_ws := am_t4 114 rfl rfl
theorem wd_835 : (Cond.code ({ cls := "NumberedSparks$Walk", name := "isOutside", desc := "(LNumberedSparks$Spark;)Z" } : MethodName) prog_9_method_9_code (2 : Nat) (Option.some FieldType.boolean)) ∈ am_ws := am_t4 115 rfl rfl
theorem wd_836 : (Cond.methodLink "NumberedSparks$Walk" (94 : Nat) ({ cls := "NumberedSparks$Spark", name := "fly", desc := "()V" } : MethodName)) ∈ am_ws := am_t4 116 rfl rfl
theorem wd_837 : (Cond.methodLink "NumberedSparks$Walk" (97 : Nat) ({ cls := "NumberedSparks$Walk", name := "show", desc := "(I)V" } : MethodName)) ∈ am_ws := am_t4 117 rfl rfl
theorem wd_839 : (Cond.instanceMethod ({ cls := "NumberedSparks$Walk", name := "show", desc := "(I)V" } : MethodName)) ∈ am_ws := am_t4 119 rfl rfl
theorem wd_840 : (Cond.code ({ cls := "NumberedSparks$Walk", name := "show", desc := "(I)V" } : MethodName) prog_9_method_10_code (2 : Nat) (Option.none : Option FieldType)) ∈ am_ws := am_t4 120 rfl rfl
theorem wd_841 : (Cond.methodLink "NumberedSparks$Walk" (104 : Nat) ({ cls := "NumberedSparks$Walk", name := "stepChild", desc := "(LNumberedSparks$Spark;II)V" } : MethodName)) ∈ am_ws := am_t4 121 rfl rfl
theorem wd_843 : (Cond.instanceMethod ({ cls := "NumberedSparks$Walk", name := "stepChild", desc := "(LNumberedSparks$Spark;II)V" } : MethodName)) ∈ am_ws := am_t4 123 rfl rfl
theorem wd_844 : (Cond.code ({ cls := "NumberedSparks$Walk", name := "stepChild", desc := "(LNumberedSparks$Spark;II)V" } : MethodName) prog_9_method_8_code (8 : Nat) (Option.none : Option FieldType)) ∈ am_ws := am_t4 124 rfl rfl
theorem wd_845 : (Cond.methodLink "NumberedSparks$Walk" (108 : Nat) ({ cls := "NumberedSparks$Spark", name := "beginAsChild", desc := "(LNumberedSparks$Spark;I)V" } : MethodName)) ∈ am_ws := am_t4 125 rfl rfl
theorem wd_846 : (Cond.methodLink "NumberedSparks" (246 : Nat) ({ cls := "NumberedSparks$Walk", name := "shown", desc := "(I)LNumberedSparks$Spark;" } : MethodName)) ∈ am_ws := am_t4 126 rfl rfl
theorem wd_847 : (Cond.instanceMethod ({ cls := "NumberedSparks$Walk", name := "shown", desc := "(I)LNumberedSparks$Spark;" } : MethodName)) ∈ am_ws := am_t4 127 rfl rfl
theorem wd_848 : (Cond.selects "NumberedSparks$Walk" ({ cls := "NumberedSparks$Walk", name := "shown", desc := "(I)LNumberedSparks$Spark;" } : MethodName) ({ cls := "NumberedSparks$Walk", name := "shown", desc := "(I)LNumberedSparks$Spark;" } : MethodName)) ∈ am_ws := am_t4 128 rfl rfl
theorem wd_849 : (Cond.code ({ cls := "NumberedSparks$Walk", name := "shown", desc := "(I)LNumberedSparks$Spark;" } : MethodName) prog_9_method_12_code (2 : Nat) (Option.some (FieldType.object "NumberedSparks$Spark"))) ∈ am_ws := am_t4 129 rfl rfl
theorem wd_850 : (Cond.methodLink "NumberedSparks" (252 : Nat) ({ cls := "NumberedSparks", name := "comesOf", desc := "(II)Z" } : MethodName)) ∈ am_ws := am_t4 130 rfl rfl
theorem wd_851 : (Cond.static ({ cls := "NumberedSparks", name := "comesOf", desc := "(II)Z" } : MethodName)) ∈ am_ws := am_t4 131 rfl rfl
theorem wd_852 : (Cond.code ({ cls := "NumberedSparks", name := "comesOf", desc := "(II)Z" } : MethodName) prog_1_method_68_code (4 : Nat) (Option.some FieldType.boolean)) ∈ am_ws := am_t4 132 rfl rfl
theorem wd_853 : (Cond.methodLink "NumberedSparksLaw" (209 : Nat) ({ cls := "NumberedSparks", name := "tell", desc := "(I)I" } : MethodName)) ∈ am_ws := am_t4 133 rfl rfl
theorem wd_854 : (Cond.instanceMethod ({ cls := "NumberedSparks", name := "tell", desc := "(I)I" } : MethodName)) ∈ am_ws := am_t4 134 rfl rfl
theorem wd_855 : (Cond.selects "NumberedSparks" ({ cls := "NumberedSparks", name := "tell", desc := "(I)I" } : MethodName) ({ cls := "NumberedSparks", name := "tell", desc := "(I)I" } : MethodName)) ∈ am_ws := am_t4 135 rfl rfl
theorem wd_856 : (Cond.code ({ cls := "NumberedSparks", name := "tell", desc := "(I)I" } : MethodName) prog_1_method_28_code (4 : Nat) (Option.some FieldType.int)) ∈ am_ws := am_t4 136 rfl rfl
theorem wd_857 : (Cond.methodLink "NumberedSparks" (255 : Nat) ({ cls := "NumberedSparks$Output", name := "clear", desc := "()V" } : MethodName)) ∈ am_ws := am_t4 137 rfl rfl
theorem wd_858 : (Cond.instanceMethod ({ cls := "NumberedSparks$Output", name := "clear", desc := "()V" } : MethodName)) ∈ am_ws := am_t4 138 rfl rfl
theorem wd_859 : (Cond.selects "NumberedSparks$Output" ({ cls := "NumberedSparks$Output", name := "clear", desc := "()V" } : MethodName) ({ cls := "NumberedSparks$Output", name := "clear", desc := "()V" } : MethodName)) ∈ am_ws := am_t4 139 rfl rfl
theorem wd_860 : (Cond.code ({ cls := "NumberedSparks$Output", name := "clear", desc := "()V" } : MethodName) prog_5_method_2_code (1 : Nat) (Option.none : Option FieldType)) ∈ am_ws := am_t4 140 rfl rfl
theorem wd_861 : (Cond.methodLink "NumberedSparks" (258 : Nat) ({ cls := "NumberedSparks$Output", name := "put", desc := "(I)V" } : MethodName)) ∈ am_ws := am_t4 141 rfl rfl
theorem wd_862 : (Cond.instanceMethod ({ cls := "NumberedSparks$Output", name := "put", desc := "(I)V" } : MethodName)) ∈ am_ws := am_t4 142 rfl rfl
theorem wd_863 : (Cond.selects "NumberedSparks$Output" ({ cls := "NumberedSparks$Output", name := "put", desc := "(I)V" } : MethodName) ({ cls := "NumberedSparks$Output", name := "put", desc := "(I)V" } : MethodName)) ∈ am_ws := am_t4 143 rfl rfl
theorem wd_864 : (Cond.code ({ cls := "NumberedSparks$Output", name := "put", desc := "(I)V" } : MethodName) prog_5_method_3_code (2 : Nat) (Option.none : Option FieldType)) ∈ am_ws := am_t4 144 rfl rfl
theorem wd_865 : (Cond.methodLink "NumberedSparks" (261 : Nat) ({ cls := "NumberedSparks$Output", name := "putNumber", desc := "(I)V" } : MethodName)) ∈ am_ws := am_t4 145 rfl rfl
theorem wd_866 : (Cond.instanceMethod ({ cls := "NumberedSparks$Output", name := "putNumber", desc := "(I)V" } : MethodName)) ∈ am_ws := am_t4 146 rfl rfl
theorem wd_867 : (Cond.selects "NumberedSparks$Output" ({ cls := "NumberedSparks$Output", name := "putNumber", desc := "(I)V" } : MethodName) ({ cls := "NumberedSparks$Output", name := "putNumber", desc := "(I)V" } : MethodName)) ∈ am_ws := am_t4 147 rfl rfl
theorem wd_868 : (Cond.code ({ cls := "NumberedSparks$Output", name := "putNumber", desc := "(I)V" } : MethodName) prog_5_method_4_code (4 : Nat) (Option.none : Option FieldType)) ∈ am_ws := am_t4 148 rfl rfl
theorem wd_869 : (Cond.methodLink "NumberedSparks$Output" (19 : Nat) ({ cls := "NumberedSparks$Output", name := "put", desc := "(I)V" } : MethodName)) ∈ am_ws := am_t4 149 rfl rfl
theorem wd_870 : (Cond.methodLink "NumberedSparksLaw" (149 : Nat) ({ cls := "NumberedSparks", name := "octet", desc := "(I)I" } : MethodName)) ∈ am_ws := am_t4 150 rfl rfl
theorem wd_871 : (Cond.instanceMethod ({ cls := "NumberedSparks", name := "octet", desc := "(I)I" } : MethodName)) ∈ am_ws := am_t4 151 rfl rfl
theorem wd_872 : (Cond.selects "NumberedSparks" ({ cls := "NumberedSparks", name := "octet", desc := "(I)I" } : MethodName) ({ cls := "NumberedSparks", name := "octet", desc := "(I)I" } : MethodName)) ∈ am_ws := am_t4 152 rfl rfl
theorem wd_873 : (Cond.code ({ cls := "NumberedSparks", name := "octet", desc := "(I)I" } : MethodName) prog_1_method_29_code (2 : Nat) (Option.some FieldType.int)) ∈ am_ws := am_t4 153 rfl rfl
theorem wd_874 : (Cond.methodLink "NumberedSparks" (267 : Nat) ({ cls := "NumberedSparks$Output", name := "byteAt", desc := "(I)I" } : MethodName)) ∈ am_ws := am_t4 154 rfl rfl
theorem wd_875 : (Cond.instanceMethod ({ cls := "NumberedSparks$Output", name := "byteAt", desc := "(I)I" } : MethodName)) ∈ am_ws := am_t4 155 rfl rfl
theorem wd_876 : (Cond.selects "NumberedSparks$Output" ({ cls := "NumberedSparks$Output", name := "byteAt", desc := "(I)I" } : MethodName) ({ cls := "NumberedSparks$Output", name := "byteAt", desc := "(I)I" } : MethodName)) ∈ am_ws := am_t4 156 rfl rfl
theorem wd_877 : (Cond.code ({ cls := "NumberedSparks$Output", name := "byteAt", desc := "(I)I" } : MethodName) prog_5_method_5_code (2 : Nat) (Option.some FieldType.int)) ∈ am_ws := am_t4 157 rfl rfl
theorem wd_878 : (Cond.methodLink "NumberedSparksLaw" (83 : Nat) ({ cls := "NumberedSparks", name := "births", desc := "(III)I" } : MethodName)) ∈ am_ws := am_t4 158 rfl rfl
theorem wd_879 : (Cond.instanceMethod ({ cls := "NumberedSparks", name := "births", desc := "(III)I" } : MethodName)) ∈ am_ws := am_t4 159 rfl rfl
theorem wd_880 : (Cond.selects "NumberedSparks" ({ cls := "NumberedSparks", name := "births", desc := "(III)I" } : MethodName) ({ cls := "NumberedSparks", name := "births", desc := "(III)I" } : MethodName)) ∈ am_ws := am_t4 160 rfl rfl
theorem wd_881 : (Cond.code ({ cls := "NumberedSparks", name := "births", desc := "(III)I" } : MethodName) prog_1_method_30_code (4 : Nat) (Option.some FieldType.int)) ∈ am_ws := am_t4 161 rfl rfl
theorem wd_882 : (Cond.methodLink "NumberedSparks" (270 : Nat) ({ cls := "NumberedSparks", name := "isWindow", desc := "(II)Z" } : MethodName)) ∈ am_ws := am_t4 162 rfl rfl
theorem wd_884 : (Cond.instanceMethod ({ cls := "NumberedSparks", name := "isWindow", desc := "(II)Z" } : MethodName)) ∈ am_ws := am_t4 164 rfl rfl
theorem wd_885 : (Cond.code ({ cls := "NumberedSparks", name := "isWindow", desc := "(II)Z" } : MethodName) prog_1_method_61_code (3 : Nat) (Option.some FieldType.boolean)) ∈ am_ws := am_t4 165 rfl rfl
theorem wd_886 : (Cond.methodLink "NumberedSparks" (273 : Nat) ({ cls := "NumberedSparks$Scene", name := "bornBefore", desc := "(II)I" } : MethodName)) ∈ am_ws := am_t4 166 rfl rfl
theorem wd_887 : (Cond.instanceMethod ({ cls := "NumberedSparks$Scene", name := "bornBefore", desc := "(II)I" } : MethodName)) ∈ am_ws := am_t4 167 rfl rfl
theorem wd_888 : (Cond.selects "NumberedSparks$Scene" ({ cls := "NumberedSparks$Scene", name := "bornBefore", desc := "(II)I" } : MethodName) ({ cls := "NumberedSparks$Scene", name := "bornBefore", desc := "(II)I" } : MethodName)) ∈ am_ws := am_t4 168 rfl rfl
theorem wd_889 : (Cond.code ({ cls := "NumberedSparks$Scene", name := "bornBefore", desc := "(II)I" } : MethodName) prog_7_method_21_code (8 : Nat) (Option.some FieldType.int)) ∈ am_ws := am_t4 169 rfl rfl
theorem wd_890 : (Cond.methodLink "NumberedSparks$Scene" (108 : Nat) ({ cls := "NumberedSparks$Scene", name := "burstsUpTo", desc := "(II)I" } : MethodName)) ∈ am_ws := am_t4 170 rfl rfl
theorem wd_891 : (Cond.methodLink "NumberedSparks$Scene" (111 : Nat) ({ cls := "NumberedSparks$Scene", name := "birthTick", desc := "(II)I" } : MethodName)) ∈ am_ws := am_t4 171 rfl rfl
theorem wd_892 : (Cond.methodLink "NumberedSparksLaw" (161 : Nat) ({ cls := "NumberedSparks", name := "bornAs", desc := "(II)I" } : MethodName)) ∈ am_ws := am_t4 172 rfl rfl
theorem wd_893 : (Cond.instanceMethod ({ cls := "NumberedSparks", name := "bornAs", desc := "(II)I" } : MethodName)) ∈ am_ws := am_t4 173 rfl rfl
theorem wd_894 : (Cond.selects "NumberedSparks" ({ cls := "NumberedSparks", name := "bornAs", desc := "(II)I" } : MethodName) ({ cls := "NumberedSparks", name := "bornAs", desc := "(II)I" } : MethodName)) ∈ am_ws := am_t4 174 rfl rfl
theorem wd_895 : (Cond.code ({ cls := "NumberedSparks", name := "bornAs", desc := "(II)I" } : MethodName) prog_1_method_31_code (3 : Nat) (Option.some FieldType.int)) ∈ am_ws := am_t4 175 rfl rfl
theorem wd_896 : (Cond.methodLink "NumberedSparks" (276 : Nat) ({ cls := "NumberedSparks$Scene", name := "codeOfBirth", desc := "(II)I" } : MethodName)) ∈ am_ws := am_t4 176 rfl rfl
theorem wd_897 : (Cond.instanceMethod ({ cls := "NumberedSparks$Scene", name := "codeOfBirth", desc := "(II)I" } : MethodName)) ∈ am_ws := am_t4 177 rfl rfl
theorem wd_898 : (Cond.selects "NumberedSparks$Scene" ({ cls := "NumberedSparks$Scene", name := "codeOfBirth", desc := "(II)I" } : MethodName) ({ cls := "NumberedSparks$Scene", name := "codeOfBirth", desc := "(II)I" } : MethodName)) ∈ am_ws := am_t4 178 rfl rfl
theorem wd_899 : (Cond.code ({ cls := "NumberedSparks$Scene", name := "codeOfBirth", desc := "(II)I" } : MethodName) prog_7_method_23_code (8 : Nat) (Option.some FieldType.int)) ∈ am_ws := am_t4 179 rfl rfl
theorem wd_900 : (Cond.methodLink "NumberedSparks$Scene" (117 : Nat) ({ cls := "NumberedSparks$Scene", name := "tickOfBirth", desc := "(II)I" } : MethodName)) ∈ am_ws := am_t4 180 rfl rfl
theorem wd_901 : (Cond.instanceMethod ({ cls := "NumberedSparks$Scene", name := "tickOfBirth", desc := "(II)I" } : MethodName)) ∈ am_ws := am_t4 181 rfl rfl
theorem wd_902 : (Cond.selects "NumberedSparks$Scene" ({ cls := "NumberedSparks$Scene", name := "tickOfBirth", desc := "(II)I" } : MethodName) ({ cls := "NumberedSparks$Scene", name := "tickOfBirth", desc := "(II)I" } : MethodName)) ∈ am_ws := am_t4 182 rfl rfl
theorem wd_903 : (Cond.code ({ cls := "NumberedSparks$Scene", name := "tickOfBirth", desc := "(II)I" } : MethodName) prog_7_method_22_code (7 : Nat) (Option.some FieldType.int)) ∈ am_ws := am_t4 183 rfl rfl
theorem wd_904 : (Cond.methodLink "NumberedSparks$Scene" (114 : Nat) ({ cls := "NumberedSparks$Scene", name := "bornBefore", desc := "(II)I" } : MethodName)) ∈ am_ws := am_t4 184 rfl rfl
theorem wd_905 : (Cond.methodLink "NumberedSparksLaw" (165 : Nat) ({ cls := "NumberedSparks", name := "latest", desc := "(II)I" } : MethodName)) ∈ am_ws := am_t4 185 rfl rfl
theorem wd_906 : (Cond.instanceMethod ({ cls := "NumberedSparks", name := "latest", desc := "(II)I" } : MethodName)) ∈ am_ws := am_t4 186 rfl rfl
theorem wd_907 : (Cond.selects "NumberedSparks" ({ cls := "NumberedSparks", name := "latest", desc := "(II)I" } : MethodName) ({ cls := "NumberedSparks", name := "latest", desc := "(II)I" } : MethodName)) ∈ am_ws := am_t4 187 rfl rfl
theorem wd_908 : (Cond.code ({ cls := "NumberedSparks", name := "latest", desc := "(II)I" } : MethodName) prog_1_method_32_code (4 : Nat) (Option.some FieldType.int)) ∈ am_ws := am_t4 188 rfl rfl
theorem wd_909 : (Cond.methodLink "NumberedSparksLaw" (225 : Nat) ({ cls := "NumberedSparks", name := "next", desc := "(II)I" } : MethodName)) ∈ am_ws := am_t4 189 rfl rfl
theorem wd_910 : (Cond.instanceMethod ({ cls := "NumberedSparks", name := "next", desc := "(II)I" } : MethodName)) ∈ am_ws := am_t4 190 rfl rfl
theorem wd_911 : (Cond.selects "NumberedSparks" ({ cls := "NumberedSparks", name := "next", desc := "(II)I" } : MethodName) ({ cls := "NumberedSparks", name := "next", desc := "(II)I" } : MethodName)) ∈ am_ws := am_t4 191 rfl rfl
theorem wd_912 : (Cond.code ({ cls := "NumberedSparks", name := "next", desc := "(II)I" } : MethodName) prog_1_method_33_code (4 : Nat) (Option.some FieldType.int)) ∈ am_ws := am_t4 192 rfl rfl
theorem wd_913 : (Cond.methodLink "NumberedSparks" (279 : Nat) ({ cls := "NumberedSparks$Scene", name := "tickOfBirth", desc := "(II)I" } : MethodName)) ∈ am_ws := am_t4 193 rfl rfl
theorem wd_914 : (Cond.methodLink "NumberedSparksLaw" (229 : Nat) ({ cls := "NumberedSparks", name := "lull", desc := "(IIII)I" } : MethodName)) ∈ am_ws := am_t4 194 rfl rfl
theorem wd_915 : (Cond.instanceMethod ({ cls := "NumberedSparks", name := "lull", desc := "(IIII)I" } : MethodName)) ∈ am_ws := am_t4 195 rfl rfl
theorem wd_916 : (Cond.selects "NumberedSparks" ({ cls := "NumberedSparks", name := "lull", desc := "(IIII)I" } : MethodName) ({ cls := "NumberedSparks", name := "lull", desc := "(IIII)I" } : MethodName)) ∈ am_ws := am_t4 196 rfl rfl
theorem wd_917 : (Cond.code ({ cls := "NumberedSparks", name := "lull", desc := "(IIII)I" } : MethodName) prog_1_method_34_code (9 : Nat) (Option.some FieldType.int)) ∈ am_ws := am_t4 197 rfl rfl
theorem wd_918 : (Cond.methodLink "NumberedSparks" (282 : Nat) ({ cls := "NumberedSparks$Scene", name := "countBirths", desc := "(III[I)V" } : MethodName)) ∈ am_ws := am_t4 198 rfl rfl
theorem wd_919 : (Cond.instanceMethod ({ cls := "NumberedSparks$Scene", name := "countBirths", desc := "(III[I)V" } : MethodName)) ∈ am_ws := am_t4 199 rfl rfl
theorem wd_920 : (Cond.selects "NumberedSparks$Scene" ({ cls := "NumberedSparks$Scene", name := "countBirths", desc := "(III[I)V" } : MethodName) ({ cls := "NumberedSparks$Scene", name := "countBirths", desc := "(III[I)V" } : MethodName)) ∈ am_ws := am_t4 200 rfl rfl
theorem wd_921 : (Cond.code ({ cls := "NumberedSparks$Scene", name := "countBirths", desc := "(III[I)V" } : MethodName) prog_7_method_24_code (9 : Nat) (Option.none : Option FieldType)) ∈ am_ws := am_t4 201 rfl rfl
theorem wd_922 : (Cond.methodLink "NumberedSparksLaw" (87 : Nat) ({ cls := "NumberedSparks", name := "endings", desc := "(II)I" } : MethodName)) ∈ am_ws := am_t4 202 rfl rfl
theorem wd_923 : (Cond.instanceMethod ({ cls := "NumberedSparks", name := "endings", desc := "(II)I" } : MethodName)) ∈ am_ws := am_t4 203 rfl rfl
theorem wd_924 : (Cond.selects "NumberedSparks" ({ cls := "NumberedSparks", name := "endings", desc := "(II)I" } : MethodName) ({ cls := "NumberedSparks", name := "endings", desc := "(II)I" } : MethodName)) ∈ am_ws := am_t4 204 rfl rfl
theorem wd_925 : (Cond.code ({ cls := "NumberedSparks", name := "endings", desc := "(II)I" } : MethodName) prog_1_method_35_code (7 : Nat) (Option.some FieldType.int)) ∈ am_ws := am_t4 205 rfl rfl
theorem wd_926 : (Cond.methodLink "NumberedSparks" (286 : Nat) ({ cls := "NumberedSparks$Walk", name := "start", desc := "(II)V" } : MethodName)) ∈ am_ws := am_t4 206 rfl rfl
theorem wd_927 : (Cond.constant "NumberedSparks" (288 : Nat) (1000000 : Int32)) ∈ am_ws := am_t4 207 rfl rfl
theorem wd_928 : (Cond.methodLink "NumberedSparksLaw" (129 : Nat) ({ cls := "NumberedSparks", name := "peak", desc := "(III)I" } : MethodName)) ∈ am_ws := am_t4 208 rfl rfl
theorem wd_929 : (Cond.instanceMethod ({ cls := "NumberedSparks", name := "peak", desc := "(III)I" } : MethodName)) ∈ am_ws := am_t4 209 rfl rfl
theorem wd_930 : (Cond.selects "NumberedSparks" ({ cls := "NumberedSparks", name := "peak", desc := "(III)I" } : MethodName) ({ cls := "NumberedSparks", name := "peak", desc := "(III)I" } : MethodName)) ∈ am_ws := am_t4 210 rfl rfl
theorem wd_931 : (Cond.code ({ cls := "NumberedSparks", name := "peak", desc := "(III)I" } : MethodName) prog_1_method_36_code (8 : Nat) (Option.some FieldType.int)) ∈ am_ws := am_t4 211 rfl rfl
theorem wd_932 : (Cond.methodLink "NumberedSparks" (289 : Nat) ({ cls := "NumberedSparks", name := "countComingAndGoing", desc := "(II)V" } : MethodName)) ∈ am_ws := am_t4 212 rfl rfl
theorem wd_934 : (Cond.instanceMethod ({ cls := "NumberedSparks", name := "countComingAndGoing", desc := "(II)V" } : MethodName)) ∈ am_ws := am_t4 214 rfl rfl
theorem wd_935 : (Cond.code ({ cls := "NumberedSparks", name := "countComingAndGoing", desc := "(II)V" } : MethodName) prog_1_method_37_code (8 : Nat) (Option.none : Option FieldType)) ∈ am_ws := am_t4 215 rfl rfl
theorem wd_936 : (Cond.methodLink "NumberedSparks" (292 : Nat) ({ cls := "java/util/Arrays", name := "fill", desc := "([II)V" } : MethodName)) ∈ am_ws := am_t4 216 rfl rfl
theorem wd_937 : (Cond.methodLink "NumberedSparksLaw" (125 : Nat) ({ cls := "NumberedSparks", name := "firstIn", desc := "(III)I" } : MethodName)) ∈ am_ws := am_t4 217 rfl rfl
theorem wd_938 : (Cond.instanceMethod ({ cls := "NumberedSparks", name := "firstIn", desc := "(III)I" } : MethodName)) ∈ am_ws := am_t4 218 rfl rfl
theorem wd_939 : (Cond.selects "NumberedSparks" ({ cls := "NumberedSparks", name := "firstIn", desc := "(III)I" } : MethodName) ({ cls := "NumberedSparks", name := "firstIn", desc := "(III)I" } : MethodName)) ∈ am_ws := am_t4 219 rfl rfl
theorem wd_940 : (Cond.code ({ cls := "NumberedSparks", name := "firstIn", desc := "(III)I" } : MethodName) prog_1_method_38_code (8 : Nat) (Option.some FieldType.int)) ∈ am_ws := am_t4 220 rfl rfl
theorem wd_941 : (Cond.methodLink "NumberedSparks" (298 : Nat) ({ cls := "NumberedSparks$Scene", name := "isCell", desc := "(II)Z" } : MethodName)) ∈ am_ws := am_t4 221 rfl rfl
theorem wd_942 : (Cond.instanceMethod ({ cls := "NumberedSparks$Scene", name := "isCell", desc := "(II)Z" } : MethodName)) ∈ am_ws := am_t4 222 rfl rfl
theorem wd_943 : (Cond.selects "NumberedSparks$Scene" ({ cls := "NumberedSparks$Scene", name := "isCell", desc := "(II)Z" } : MethodName) ({ cls := "NumberedSparks$Scene", name := "isCell", desc := "(II)Z" } : MethodName)) ∈ am_ws := am_t4 223 rfl rfl
theorem wd_944 : (Cond.code ({ cls := "NumberedSparks$Scene", name := "isCell", desc := "(II)Z" } : MethodName) prog_7_method_5_code (3 : Nat) (Option.some FieldType.boolean)) ∈ am_ws := am_t4 224 rfl rfl
theorem wd_945 : (Cond.methodLink "NumberedSparks$Scene" (50 : Nat) ({ cls := "NumberedSparks$Scene", name := "cellsAlong", desc := "(I)I" } : MethodName)) ∈ am_ws := am_t4 225 rfl rfl
theorem wd_946 : (Cond.methodLink "NumberedSparks" (301 : Nat) ({ cls := "NumberedSparks$Spark", name := "firstInColumn", desc := "(IIII)I" } : MethodName)) ∈ am_ws := am_t4 226 rfl rfl
theorem wd_947 : (Cond.instanceMethod ({ cls := "NumberedSparks$Spark", name := "firstInColumn", desc := "(IIII)I" } : MethodName)) ∈ am_ws := am_t4 227 rfl rfl
theorem wd_948 : (Cond.selects "NumberedSparks$Spark" ({ cls := "NumberedSparks$Spark", name := "firstInColumn", desc := "(IIII)I" } : MethodName) ({ cls := "NumberedSparks$Spark", name := "firstInColumn", desc := "(IIII)I" } : MethodName)) ∈ am_ws := am_t4 228 rfl rfl
theorem wd_949 : (Cond.code ({ cls := "NumberedSparks$Spark", name := "firstInColumn", desc := "(IIII)I" } : MethodName) prog_8_method_11_code (8 : Nat) (Option.some FieldType.int)) ∈ am_ws := am_t4 229 rfl rfl
theorem wd_950 : (Cond.methodLink "NumberedSparksLaw" (197 : Nat) ({ cls := "NumberedSparks", name := "flux", desc := "(IIII)I" } : MethodName)) ∈ am_ws := am_t4 230 rfl rfl
theorem wd_951 : (Cond.instanceMethod ({ cls := "NumberedSparks", name := "flux", desc := "(IIII)I" } : MethodName)) ∈ am_ws := am_t4 231 rfl rfl
theorem wd_952 : (Cond.selects "NumberedSparks" ({ cls := "NumberedSparks", name := "flux", desc := "(IIII)I" } : MethodName) ({ cls := "NumberedSparks", name := "flux", desc := "(IIII)I" } : MethodName)) ∈ am_ws := am_t4 232 rfl rfl
theorem wd_953 : (Cond.code ({ cls := "NumberedSparks", name := "flux", desc := "(IIII)I" } : MethodName) prog_1_method_39_code (8 : Nat) (Option.some FieldType.int)) ∈ am_ws := am_t4 233 rfl rfl
theorem wd_954 : (Cond.methodLink "NumberedSparks" (305 : Nat) ({ cls := "NumberedSparks$Spark", name := "crossings", desc := "(IIIZ)I" } : MethodName)) ∈ am_ws := am_t4 234 rfl rfl
theorem wd_955 : (Cond.instanceMethod ({ cls := "NumberedSparks$Spark", name := "crossings", desc := "(IIIZ)I" } : MethodName)) ∈ am_ws := am_t4 235 rfl rfl
theorem wd_956 : (Cond.selects "NumberedSparks$Spark" ({ cls := "NumberedSparks$Spark", name := "crossings", desc := "(IIIZ)I" } : MethodName) ({ cls := "NumberedSparks$Spark", name := "crossings", desc := "(IIIZ)I" } : MethodName)) ∈ am_ws := am_t4 236 rfl rfl
theorem wd_957 : (Cond.code ({ cls := "NumberedSparks$Spark", name := "crossings", desc := "(IIIZ)I" } : MethodName) prog_8_method_12_code (11 : Nat) (Option.some FieldType.int)) ∈ am_ws := am_t4 237 rfl rfl
theorem wd_958 : (Cond.methodLink "NumberedSparksLaw" (91 : Nat) ({ cls := "NumberedSparks", name := "many", desc := "(II)I" } : MethodName)) ∈ am_ws := am_t4 238 rfl rfl
theorem wd_959 : (Cond.instanceMethod ({ cls := "NumberedSparks", name := "many", desc := "(II)I" } : MethodName)) ∈ am_ws := am_t4 239 rfl rfl
theorem wd_960 : (Cond.selects "NumberedSparks" ({ cls := "NumberedSparks", name := "many", desc := "(II)I" } : MethodName) ({ cls := "NumberedSparks", name := "many", desc := "(II)I" } : MethodName)) ∈ am_ws := am_t5 0 rfl rfl
theorem wd_961 : (Cond.code ({ cls := "NumberedSparks", name := "many", desc := "(II)I" } : MethodName) prog_1_method_40_code (5 : Nat) (Option.some FieldType.int)) ∈ am_ws := am_t5 1 rfl rfl
theorem wd_962 : (Cond.methodLink "NumberedSparks" (309 : Nat) ({ cls := "NumberedSparks$Frame", name := "shows", desc := "(I)Z" } : MethodName)) ∈ am_ws := am_t5 2 rfl rfl
theorem wd_963 : (Cond.instanceMethod ({ cls := "NumberedSparks$Frame", name := "shows", desc := "(I)Z" } : MethodName)) ∈ am_ws := am_t5 3 rfl rfl
theorem wd_964 : (Cond.selects "NumberedSparks$Frame" ({ cls := "NumberedSparks$Frame", name := "shows", desc := "(I)Z" } : MethodName) ({ cls := "NumberedSparks$Frame", name := "shows", desc := "(I)Z" } : MethodName)) ∈ am_ws := am_t5 4 rfl rfl
theorem wd_965 : (Cond.code ({ cls := "NumberedSparks$Frame", name := "shows", desc := "(I)Z" } : MethodName) prog_3_method_3_code (4 : Nat) (Option.some FieldType.boolean)) ∈ am_ws := am_t5 5 rfl rfl
theorem wd_966 : (Cond.methodLinkNest "NumberedSparks$Frame" (57 : Nat) ({ cls := "NumberedSparks", name := "isTick", desc := "(I)Z" } : MethodName) "NumberedSparks") ∈ am_ws := am_t5 6 rfl rfl
theorem wd_967 : (Cond.methodLink "NumberedSparks$Frame" (64 : Nat) ({ cls := "NumberedSparks$Walk", name := "start", desc := "(II)V" } : MethodName)) ∈ am_ws := am_t5 7 rfl rfl
theorem wd_968 : (Cond.constant "NumberedSparks$Frame" (70 : Nat) (1000000 : Int32)) ∈ am_ws := am_t5 8 rfl rfl
theorem wd_969 : (Cond.methodLink "NumberedSparks$Frame" (71 : Nat) ({ cls := "NumberedSparks$Walk", name := "stepRoot", desc := "()Z" } : MethodName)) ∈ am_ws := am_t5 9 rfl rfl
theorem wd_970 : (Cond.methodLink "NumberedSparks$Frame" (78 : Nat) ({ cls := "NumberedSparks$Walk", name := "shown", desc := "(I)LNumberedSparks$Spark;" } : MethodName)) ∈ am_ws := am_t5 10 rfl rfl
theorem wd_971 : (Cond.methodLink "NumberedSparks$Frame" (82 : Nat) ({ cls := "NumberedSparks$Frame", name := "append", desc := "(LNumberedSparks$Spark;I)V" } : MethodName)) ∈ am_ws := am_t5 11 rfl rfl
theorem wd_973 : (Cond.instanceMethod ({ cls := "NumberedSparks$Frame", name := "append", desc := "(LNumberedSparks$Spark;I)V" } : MethodName)) ∈ am_ws := am_t5 13 rfl rfl
theorem wd_974 : (Cond.code ({ cls := "NumberedSparks$Frame", name := "append", desc := "(LNumberedSparks$Spark;I)V" } : MethodName) prog_3_method_4_code (4 : Nat) (Option.none : Option FieldType)) ∈ am_ws := am_t5 14 rfl rfl
theorem wd_975 : (Cond.methodLink "NumberedSparks$Frame" (89 : Nat) ({ cls := "NumberedSparks$Frame", name := "grow", desc := "()V" } : MethodName)) ∈ am_ws := am_t5 15 rfl rfl
theorem wd_977 : (Cond.instanceMethod ({ cls := "NumberedSparks$Frame", name := "grow", desc := "()V" } : MethodName)) ∈ am_ws := am_t5 17 rfl rfl
theorem wd_978 : (Cond.code ({ cls := "NumberedSparks$Frame", name := "grow", desc := "()V" } : MethodName) prog_3_method_5_code (2 : Nat) (Option.none : Option FieldType)) ∈ am_ws := am_t5 18 rfl rfl
theorem wd_979 : (Cond.methodLink "NumberedSparks$Frame" (109 : Nat) ({ cls := "java/util/Arrays", name := "copyOf", desc := "([II)[I" } : MethodName)) ∈ am_ws := am_t5 19 rfl rfl
theorem wd_980 : (Cond.static ({ cls := "java/util/Arrays", name := "copyOf", desc := "([II)[I" } : MethodName)) ∈ am_ws := am_t5 20 rfl rfl
theorem wd_981 : (Cond.code ({ cls := "java/util/Arrays", name := "copyOf", desc := "([II)[I" } : MethodName) prog_18_method_123_code (3 : Nat) (Option.some (FieldType.array FieldType.int))) ∈ am_ws := am_t5 21 rfl rfl
theorem wd_982 : (Cond.methodLink "java/util/Arrays" (316 : Nat) ({ cls := "[I", name := "clone", desc := "()Ljava/lang/Object;" } : MethodName)) ∈ am_ws := am_t5 22 rfl rfl
theorem wd_984 : (Cond.native ({ cls := "java/lang/Object", name := "clone", desc := "()Ljava/lang/Object;" } : MethodName)) ∈ am_ws := am_t5 24 rfl rfl
theorem wd_985 : (Cond.instanceMethod ({ cls := "java/lang/Object", name := "clone", desc := "()Ljava/lang/Object;" } : MethodName)) ∈ am_ws := am_t5 25 rfl rfl
theorem wd_986 : (Cond.selects "[I" ({ cls := "[I", name := "clone", desc := "()Ljava/lang/Object;" } : MethodName) ({ cls := "java/lang/Object", name := "clone", desc := "()Ljava/lang/Object;" } : MethodName)) ∈ am_ws := am_t5 26 rfl rfl
theorem wd_988 : (Cond.classLink "java/util/Arrays" (317 : Nat) "[I") ∈ am_ws := am_t5 28 rfl rfl
theorem wd_989 : (Cond.methodLink "java/util/Arrays" (304 : Nat) ({ cls := "java/lang/Math", name := "min", desc := "(II)I" } : MethodName)) ∈ am_ws := am_t5 29 rfl rfl
theorem wd_990 : (Cond.methodLink "java/util/Arrays" (150 : Nat) ({ cls := "java/lang/System", name := "arraycopy", desc := "(Ljava/lang/Object;ILjava/lang/Object;II)V" } : MethodName)) ∈ am_ws := am_t5 30 rfl rfl
theorem wd_991 : (Cond.methodLink "NumberedSparks$Frame" (105 : Nat) ({ cls := "NumberedSparks$Spark", name := "placeAt", desc := "(II)I" } : MethodName)) ∈ am_ws := am_t5 31 rfl rfl
theorem wd_992 : (Cond.methodLink "NumberedSparks$Frame" (86 : Nat) ({ cls := "NumberedSparks$Frame", name := "putInOrder", desc := "()V" } : MethodName)) ∈ am_ws := am_t5 32 rfl rfl
theorem wd_994 : (Cond.instanceMethod ({ cls := "NumberedSparks$Frame", name := "putInOrder", desc := "()V" } : MethodName)) ∈ am_ws := am_t5 34 rfl rfl
theorem wd_995 : (Cond.code ({ cls := "NumberedSparks$Frame", name := "putInOrder", desc := "()V" } : MethodName) prog_3_method_6_code (5 : Nat) (Option.none : Option FieldType)) ∈ am_ws := am_t5 35 rfl rfl
theorem wd_996 : (Cond.methodLink "NumberedSparks$Frame" (115 : Nat) ({ cls := "java/util/Arrays", name := "fill", desc := "([II)V" } : MethodName)) ∈ am_ws := am_t5 36 rfl rfl
theorem wd_997 : (Cond.methodLink "NumberedSparks$Frame" (119 : Nat) ({ cls := "NumberedSparks$Frame", name := "depthOf", desc := "(I)I" } : MethodName)) ∈ am_ws := am_t5 37 rfl rfl
theorem wd_999 : (Cond.instanceMethod ({ cls := "NumberedSparks$Frame", name := "depthOf", desc := "(I)I" } : MethodName)) ∈ am_ws := am_t5 39 rfl rfl
theorem wd_1000 : (Cond.code ({ cls := "NumberedSparks$Frame", name := "depthOf", desc := "(I)I" } : MethodName) prog_3_method_7_code (2 : Nat) (Option.some FieldType.int)) ∈ am_ws := am_t5 40 rfl rfl
theorem wd_1001 : (Cond.methodLink "NumberedSparks$Frame" (123 : Nat) ({ cls := "java/lang/Math", name := "min", desc := "(II)I" } : MethodName)) ∈ am_ws := am_t5 41 rfl rfl
theorem wd_1002 : (Cond.methodLink "NumberedSparks$Frame" (128 : Nat) ({ cls := "java/lang/Math", name := "max", desc := "(II)I" } : MethodName)) ∈ am_ws := am_t5 42 rfl rfl
theorem wd_1003 : (Cond.methodLink "NumberedSparksLaw" (95 : Nat) ({ cls := "NumberedSparks", name := "drawn", desc := "(II)I" } : MethodName)) ∈ am_ws := am_t5 43 rfl rfl
theorem wd_1004 : (Cond.instanceMethod ({ cls := "NumberedSparks", name := "drawn", desc := "(II)I" } : MethodName)) ∈ am_ws := am_t5 44 rfl rfl
theorem wd_1005 : (Cond.selects "NumberedSparks" ({ cls := "NumberedSparks", name := "drawn", desc := "(II)I" } : MethodName) ({ cls := "NumberedSparks", name := "drawn", desc := "(II)I" } : MethodName)) ∈ am_ws := am_t5 45 rfl rfl
theorem wd_1006 : (Cond.code ({ cls := "NumberedSparks", name := "drawn", desc := "(II)I" } : MethodName) prog_1_method_41_code (3 : Nat) (Option.some FieldType.int)) ∈ am_ws := am_t5 46 rfl rfl
theorem wd_1007 : (Cond.methodLink "NumberedSparksLaw" (99 : Nat) ({ cls := "NumberedSparks", name := "digest", desc := "(I)J" } : MethodName)) ∈ am_ws := am_t5 47 rfl rfl
theorem wd_1008 : (Cond.instanceMethod ({ cls := "NumberedSparks", name := "digest", desc := "(I)J" } : MethodName)) ∈ am_ws := am_t5 48 rfl rfl
theorem wd_1009 : (Cond.selects "NumberedSparks" ({ cls := "NumberedSparks", name := "digest", desc := "(I)J" } : MethodName) ({ cls := "NumberedSparks", name := "digest", desc := "(I)J" } : MethodName)) ∈ am_ws := am_t5 49 rfl rfl
theorem wd_1010 : (Cond.code ({ cls := "NumberedSparks", name := "digest", desc := "(I)J" } : MethodName) prog_1_method_42_code (6 : Nat) (Option.some FieldType.long)) ∈ am_ws := am_t5 50 rfl rfl
theorem wd_1011 : (Cond.constantLong "NumberedSparks" (322 : Nat) (17 : Int64)) ∈ am_ws := am_t5 51 rfl rfl
theorem wd_1012 : (Cond.constantLong "NumberedSparks" (324 : Nat) (31 : Int64)) ∈ am_ws := am_t5 52 rfl rfl
theorem wd_1013 : (Cond.methodLink "NumberedSparksLaw" (104 : Nat) ({ cls := "NumberedSparks", name := "inColumn", desc := "(III)I" } : MethodName)) ∈ am_ws := am_t5 53 rfl rfl
theorem wd_1014 : (Cond.instanceMethod ({ cls := "NumberedSparks", name := "inColumn", desc := "(III)I" } : MethodName)) ∈ am_ws := am_t5 54 rfl rfl
theorem wd_1015 : (Cond.selects "NumberedSparks" ({ cls := "NumberedSparks", name := "inColumn", desc := "(III)I" } : MethodName) ({ cls := "NumberedSparks", name := "inColumn", desc := "(III)I" } : MethodName)) ∈ am_ws := am_t5 55 rfl rfl
theorem wd_1016 : (Cond.code ({ cls := "NumberedSparks", name := "inColumn", desc := "(III)I" } : MethodName) prog_1_method_43_code (6 : Nat) (Option.some FieldType.int)) ∈ am_ws := am_t5 56 rfl rfl
theorem wd_1017 : (Cond.methodLink "NumberedSparks" (335 : Nat) ({ cls := "NumberedSparks$Frame", name := "isInColumn", desc := "(III)Z" } : MethodName)) ∈ am_ws := am_t5 57 rfl rfl
theorem wd_1018 : (Cond.instanceMethod ({ cls := "NumberedSparks$Frame", name := "isInColumn", desc := "(III)Z" } : MethodName)) ∈ am_ws := am_t5 58 rfl rfl
theorem wd_1019 : (Cond.selects "NumberedSparks$Frame" ({ cls := "NumberedSparks$Frame", name := "isInColumn", desc := "(III)Z" } : MethodName) ({ cls := "NumberedSparks$Frame", name := "isInColumn", desc := "(III)Z" } : MethodName)) ∈ am_ws := am_t5 59 rfl rfl
theorem wd_1020 : (Cond.code ({ cls := "NumberedSparks$Frame", name := "isInColumn", desc := "(III)Z" } : MethodName) prog_3_method_9_code (4 : Nat) (Option.some FieldType.boolean)) ∈ am_ws := am_t5 60 rfl rfl
theorem wd_1021 : (Cond.methodLink "NumberedSparks$Frame" (131 : Nat) ({ cls := "NumberedSparks$Frame", name := "placeOf", desc := "(II)I" } : MethodName)) ∈ am_ws := am_t5 61 rfl rfl
theorem wd_1022 : (Cond.instanceMethod ({ cls := "NumberedSparks$Frame", name := "placeOf", desc := "(II)I" } : MethodName)) ∈ am_ws := am_t5 62 rfl rfl
theorem wd_1023 : (Cond.selects "NumberedSparks$Frame" ({ cls := "NumberedSparks$Frame", name := "placeOf", desc := "(II)I" } : MethodName) ({ cls := "NumberedSparks$Frame", name := "placeOf", desc := "(II)I" } : MethodName)) ∈ am_ws := am_t5 63 rfl rfl
theorem wd_1024 : (Cond.code ({ cls := "NumberedSparks$Frame", name := "placeOf", desc := "(II)I" } : MethodName) prog_3_method_8_code (3 : Nat) (Option.some FieldType.int)) ∈ am_ws := am_t5 64 rfl rfl
theorem wd_1025 : (Cond.methodLink "NumberedSparksLaw" (108 : Nat) ({ cls := "NumberedSparks", name := "top", desc := "(III)I" } : MethodName)) ∈ am_ws := am_t5 65 rfl rfl
theorem wd_1026 : (Cond.instanceMethod ({ cls := "NumberedSparks", name := "top", desc := "(III)I" } : MethodName)) ∈ am_ws := am_t5 66 rfl rfl
theorem wd_1027 : (Cond.selects "NumberedSparks" ({ cls := "NumberedSparks", name := "top", desc := "(III)I" } : MethodName) ({ cls := "NumberedSparks", name := "top", desc := "(III)I" } : MethodName)) ∈ am_ws := am_t5 67 rfl rfl
theorem wd_1028 : (Cond.code ({ cls := "NumberedSparks", name := "top", desc := "(III)I" } : MethodName) prog_1_method_44_code (4 : Nat) (Option.some FieldType.int)) ∈ am_ws := am_t5 68 rfl rfl
theorem wd_1029 : (Cond.methodLink "NumberedSparks" (339 : Nat) ({ cls := "NumberedSparks$Frame", name := "fromTop", desc := "(III)I" } : MethodName)) ∈ am_ws := am_t5 69 rfl rfl
theorem wd_1030 : (Cond.instanceMethod ({ cls := "NumberedSparks$Frame", name := "fromTop", desc := "(III)I" } : MethodName)) ∈ am_ws := am_t5 70 rfl rfl
theorem wd_1031 : (Cond.selects "NumberedSparks$Frame" ({ cls := "NumberedSparks$Frame", name := "fromTop", desc := "(III)I" } : MethodName) ({ cls := "NumberedSparks$Frame", name := "fromTop", desc := "(III)I" } : MethodName)) ∈ am_ws := am_t5 71 rfl rfl
theorem wd_1032 : (Cond.code ({ cls := "NumberedSparks$Frame", name := "fromTop", desc := "(III)I" } : MethodName) prog_3_method_12_code (6 : Nat) (Option.some FieldType.int)) ∈ am_ws := am_t5 72 rfl rfl
theorem wd_1033 : (Cond.methodLink "NumberedSparks$Frame" (134 : Nat) ({ cls := "NumberedSparks$Frame", name := "isInColumn", desc := "(III)Z" } : MethodName)) ∈ am_ws := am_t5 73 rfl rfl
theorem wd_1034 : (Cond.methodLink "NumberedSparksLaw" (221 : Nat) ({ cls := "NumberedSparks", name := "below", desc := "(IIII)I" } : MethodName)) ∈ am_ws := am_t5 74 rfl rfl
theorem wd_1035 : (Cond.instanceMethod ({ cls := "NumberedSparks", name := "below", desc := "(IIII)I" } : MethodName)) ∈ am_ws := am_t5 75 rfl rfl
theorem wd_1036 : (Cond.selects "NumberedSparks" ({ cls := "NumberedSparks", name := "below", desc := "(IIII)I" } : MethodName) ({ cls := "NumberedSparks", name := "below", desc := "(IIII)I" } : MethodName)) ∈ am_ws := am_t5 76 rfl rfl
theorem wd_1037 : (Cond.code ({ cls := "NumberedSparks", name := "below", desc := "(IIII)I" } : MethodName) prog_1_method_45_code (5 : Nat) (Option.some FieldType.int)) ∈ am_ws := am_t5 77 rfl rfl
theorem wd_1038 : (Cond.methodLink "NumberedSparksLaw" (112 : Nat) ({ cls := "NumberedSparks", name := "fullest", desc := "(II)I" } : MethodName)) ∈ am_ws := am_t5 78 rfl rfl
theorem wd_1039 : (Cond.instanceMethod ({ cls := "NumberedSparks", name := "fullest", desc := "(II)I" } : MethodName)) ∈ am_ws := am_t5 79 rfl rfl
theorem wd_1040 : (Cond.selects "NumberedSparks" ({ cls := "NumberedSparks", name := "fullest", desc := "(II)I" } : MethodName) ({ cls := "NumberedSparks", name := "fullest", desc := "(II)I" } : MethodName)) ∈ am_ws := am_t5 80 rfl rfl
theorem wd_1041 : (Cond.code ({ cls := "NumberedSparks", name := "fullest", desc := "(II)I" } : MethodName) prog_1_method_46_code (5 : Nat) (Option.some FieldType.int)) ∈ am_ws := am_t5 81 rfl rfl
theorem wd_1042 : (Cond.methodLink "NumberedSparks" (342 : Nat) ({ cls := "NumberedSparks$Frame", name := "countColumns", desc := "([I)V" } : MethodName)) ∈ am_ws := am_t5 82 rfl rfl
theorem wd_1043 : (Cond.instanceMethod ({ cls := "NumberedSparks$Frame", name := "countColumns", desc := "([I)V" } : MethodName)) ∈ am_ws := am_t5 83 rfl rfl
theorem wd_1044 : (Cond.selects "NumberedSparks$Frame" ({ cls := "NumberedSparks$Frame", name := "countColumns", desc := "([I)V" } : MethodName) ({ cls := "NumberedSparks$Frame", name := "countColumns", desc := "([I)V" } : MethodName)) ∈ am_ws := am_t5 84 rfl rfl
theorem wd_1045 : (Cond.code ({ cls := "NumberedSparks$Frame", name := "countColumns", desc := "([I)V" } : MethodName) prog_3_method_13_code (4 : Nat) (Option.none : Option FieldType)) ∈ am_ws := am_t5 85 rfl rfl
theorem wd_1046 : (Cond.methodLink "NumberedSparks$Frame" (138 : Nat) ({ cls := "NumberedSparks$Frame", name := "columnOf", desc := "(I)I" } : MethodName)) ∈ am_ws := am_t5 86 rfl rfl
theorem wd_1047 : (Cond.instanceMethod ({ cls := "NumberedSparks$Frame", name := "columnOf", desc := "(I)I" } : MethodName)) ∈ am_ws := am_t5 87 rfl rfl
theorem wd_1048 : (Cond.selects "NumberedSparks$Frame" ({ cls := "NumberedSparks$Frame", name := "columnOf", desc := "(I)I" } : MethodName) ({ cls := "NumberedSparks$Frame", name := "columnOf", desc := "(I)I" } : MethodName)) ∈ am_ws := am_t5 88 rfl rfl
theorem wd_1049 : (Cond.code ({ cls := "NumberedSparks$Frame", name := "columnOf", desc := "(I)I" } : MethodName) prog_3_method_10_code (2 : Nat) (Option.some FieldType.int)) ∈ am_ws := am_t5 89 rfl rfl
theorem wd_1050 : (Cond.methodLink "NumberedSparksLaw" (217 : Nat) ({ cls := "NumberedSparks", name := "columns", desc := "(I)I" } : MethodName)) ∈ am_ws := am_t5 90 rfl rfl
theorem wd_1051 : (Cond.instanceMethod ({ cls := "NumberedSparks", name := "columns", desc := "(I)I" } : MethodName)) ∈ am_ws := am_t5 91 rfl rfl
theorem wd_1052 : (Cond.selects "NumberedSparks" ({ cls := "NumberedSparks", name := "columns", desc := "(I)I" } : MethodName) ({ cls := "NumberedSparks", name := "columns", desc := "(I)I" } : MethodName)) ∈ am_ws := am_t5 92 rfl rfl
theorem wd_1053 : (Cond.code ({ cls := "NumberedSparks", name := "columns", desc := "(I)I" } : MethodName) prog_1_method_47_code (4 : Nat) (Option.some FieldType.int)) ∈ am_ws := am_t5 93 rfl rfl
theorem wd_1054 : (Cond.methodLink "NumberedSparksLaw" (116 : Nat) ({ cls := "NumberedSparks", name := "nearest", desc := "(IIII)I" } : MethodName)) ∈ am_ws := am_t5 94 rfl rfl
theorem wd_1055 : (Cond.instanceMethod ({ cls := "NumberedSparks", name := "nearest", desc := "(IIII)I" } : MethodName)) ∈ am_ws := am_t5 95 rfl rfl
theorem wd_1056 : (Cond.selects "NumberedSparks" ({ cls := "NumberedSparks", name := "nearest", desc := "(IIII)I" } : MethodName) ({ cls := "NumberedSparks", name := "nearest", desc := "(IIII)I" } : MethodName)) ∈ am_ws := am_t5 96 rfl rfl
theorem wd_1057 : (Cond.code ({ cls := "NumberedSparks", name := "nearest", desc := "(IIII)I" } : MethodName) prog_1_method_48_code (9 : Nat) (Option.some FieldType.int)) ∈ am_ws := am_t5 97 rfl rfl
theorem wd_1058 : (Cond.methodLink "NumberedSparks" (346 : Nat) ({ cls := "NumberedSparks$Scene", name := "isCellOfWorld", desc := "(III)Z" } : MethodName)) ∈ am_ws := am_t5 98 rfl rfl
theorem wd_1059 : (Cond.instanceMethod ({ cls := "NumberedSparks$Scene", name := "isCellOfWorld", desc := "(III)Z" } : MethodName)) ∈ am_ws := am_t5 99 rfl rfl
theorem wd_1060 : (Cond.selects "NumberedSparks$Scene" ({ cls := "NumberedSparks$Scene", name := "isCellOfWorld", desc := "(III)Z" } : MethodName) ({ cls := "NumberedSparks$Scene", name := "isCellOfWorld", desc := "(III)Z" } : MethodName)) ∈ am_ws := am_t5 100 rfl rfl
theorem wd_1061 : (Cond.code ({ cls := "NumberedSparks$Scene", name := "isCellOfWorld", desc := "(III)Z" } : MethodName) prog_7_method_6_code (4 : Nat) (Option.some FieldType.boolean)) ∈ am_ws := am_t5 101 rfl rfl
theorem wd_1062 : (Cond.methodLink "NumberedSparks$Scene" (54 : Nat) ({ cls := "NumberedSparks$Scene", name := "isCell", desc := "(II)Z" } : MethodName)) ∈ am_ws := am_t5 102 rfl rfl
theorem wd_1063 : (Cond.methodLink "NumberedSparks" (349 : Nat) ({ cls := "NumberedSparks$Frame", name := "farSquared", desc := "(IIII)I" } : MethodName)) ∈ am_ws := am_t5 103 rfl rfl
theorem wd_1064 : (Cond.instanceMethod ({ cls := "NumberedSparks$Frame", name := "farSquared", desc := "(IIII)I" } : MethodName)) ∈ am_ws := am_t5 104 rfl rfl
theorem wd_1065 : (Cond.selects "NumberedSparks$Frame" ({ cls := "NumberedSparks$Frame", name := "farSquared", desc := "(IIII)I" } : MethodName) ({ cls := "NumberedSparks$Frame", name := "farSquared", desc := "(IIII)I" } : MethodName)) ∈ am_ws := am_t5 105 rfl rfl
theorem wd_1066 : (Cond.code ({ cls := "NumberedSparks$Frame", name := "farSquared", desc := "(IIII)I" } : MethodName) prog_3_method_11_code (8 : Nat) (Option.some FieldType.int)) ∈ am_ws := am_t5 106 rfl rfl
theorem wd_1067 : (Cond.methodLink "NumberedSparksLaw" (177 : Nat) ({ cls := "NumberedSparks", name := "within", desc := "(IIIII)I" } : MethodName)) ∈ am_ws := am_t5 107 rfl rfl
theorem wd_1068 : (Cond.instanceMethod ({ cls := "NumberedSparks", name := "within", desc := "(IIIII)I" } : MethodName)) ∈ am_ws := am_t5 108 rfl rfl
theorem wd_1069 : (Cond.selects "NumberedSparks" ({ cls := "NumberedSparks", name := "within", desc := "(IIIII)I" } : MethodName) ({ cls := "NumberedSparks", name := "within", desc := "(IIIII)I" } : MethodName)) ∈ am_ws := am_t5 109 rfl rfl
theorem wd_1070 : (Cond.code ({ cls := "NumberedSparks", name := "within", desc := "(IIIII)I" } : MethodName) prog_1_method_49_code (8 : Nat) (Option.some FieldType.int)) ∈ am_ws := am_t5 110 rfl rfl
theorem wd_1071 : (Cond.methodLink "NumberedSparksLaw" (121 : Nat) ({ cls := "NumberedSparks", name := "twos", desc := "(I)J" } : MethodName)) ∈ am_ws := am_t5 111 rfl rfl
theorem wd_1072 : (Cond.instanceMethod ({ cls := "NumberedSparks", name := "twos", desc := "(I)J" } : MethodName)) ∈ am_ws := am_t5 112 rfl rfl
theorem wd_1073 : (Cond.selects "NumberedSparks" ({ cls := "NumberedSparks", name := "twos", desc := "(I)J" } : MethodName) ({ cls := "NumberedSparks", name := "twos", desc := "(I)J" } : MethodName)) ∈ am_ws := am_t5 113 rfl rfl
theorem wd_1074 : (Cond.code ({ cls := "NumberedSparks", name := "twos", desc := "(I)J" } : MethodName) prog_1_method_50_code (2 : Nat) (Option.some FieldType.long)) ∈ am_ws := am_t5 114 rfl rfl
theorem wd_1075 : (Cond.constantLong "NumberedSparks" (352 : Nat) (-2 : Int64)) ∈ am_ws := am_t5 115 rfl rfl
theorem wd_1076 : (Cond.methodLink "NumberedSparks" (354 : Nat) ({ cls := "NumberedSparks$Frame", name := "countTwos", desc := "([I)J" } : MethodName)) ∈ am_ws := am_t5 116 rfl rfl
theorem wd_1077 : (Cond.instanceMethod ({ cls := "NumberedSparks$Frame", name := "countTwos", desc := "([I)J" } : MethodName)) ∈ am_ws := am_t5 117 rfl rfl
theorem wd_1078 : (Cond.selects "NumberedSparks$Frame" ({ cls := "NumberedSparks$Frame", name := "countTwos", desc := "([I)J" } : MethodName) ({ cls := "NumberedSparks$Frame", name := "countTwos", desc := "([I)J" } : MethodName)) ∈ am_ws := am_t5 118 rfl rfl
theorem wd_1079 : (Cond.code ({ cls := "NumberedSparks$Frame", name := "countTwos", desc := "([I)J" } : MethodName) prog_3_method_15_code (7 : Nat) (Option.some FieldType.long)) ∈ am_ws := am_t5 119 rfl rfl
theorem wd_1080 : (Cond.methodLink "NumberedSparks$Frame" (141 : Nat) ({ cls := "NumberedSparks$Frame", name := "forgetColumns", desc := "(II[I)V" } : MethodName)) ∈ am_ws := am_t5 120 rfl rfl
theorem wd_1082 : (Cond.instanceMethod ({ cls := "NumberedSparks$Frame", name := "forgetColumns", desc := "(II[I)V" } : MethodName)) ∈ am_ws := am_t5 122 rfl rfl
theorem wd_1083 : (Cond.code ({ cls := "NumberedSparks$Frame", name := "forgetColumns", desc := "(II[I)V" } : MethodName) prog_3_method_16_code (6 : Nat) (Option.none : Option FieldType)) ∈ am_ws := am_t5 123 rfl rfl
theorem wd_1084 : (Cond.methodLink "NumberedSparksLaw" (137 : Nat) ({ cls := "NumberedSparks", name := "box", desc := "(II)I" } : MethodName)) ∈ am_ws := am_t5 124 rfl rfl
theorem wd_1085 : (Cond.instanceMethod ({ cls := "NumberedSparks", name := "box", desc := "(II)I" } : MethodName)) ∈ am_ws := am_t5 125 rfl rfl
theorem wd_1086 : (Cond.selects "NumberedSparks" ({ cls := "NumberedSparks", name := "box", desc := "(II)I" } : MethodName) ({ cls := "NumberedSparks", name := "box", desc := "(II)I" } : MethodName)) ∈ am_ws := am_t5 126 rfl rfl
theorem wd_1087 : (Cond.code ({ cls := "NumberedSparks", name := "box", desc := "(II)I" } : MethodName) prog_1_method_51_code (6 : Nat) (Option.some FieldType.int)) ∈ am_ws := am_t5 127 rfl rfl
theorem wd_1088 : (Cond.methodLink "NumberedSparks" (358 : Nat) ({ cls := "NumberedSparks$Frame", name := "placeOf", desc := "(II)I" } : MethodName)) ∈ am_ws := am_t5 128 rfl rfl
theorem wd_1089 : (Cond.methodLink "NumberedSparksLaw" (141 : Nat) ({ cls := "NumberedSparks", name := "middle", desc := "(II)I" } : MethodName)) ∈ am_ws := am_t5 129 rfl rfl
theorem wd_1090 : (Cond.instanceMethod ({ cls := "NumberedSparks", name := "middle", desc := "(II)I" } : MethodName)) ∈ am_ws := am_t5 130 rfl rfl
theorem wd_1091 : (Cond.selects "NumberedSparks" ({ cls := "NumberedSparks", name := "middle", desc := "(II)I" } : MethodName) ({ cls := "NumberedSparks", name := "middle", desc := "(II)I" } : MethodName)) ∈ am_ws := am_t5 131 rfl rfl
theorem wd_1092 : (Cond.code ({ cls := "NumberedSparks", name := "middle", desc := "(II)I" } : MethodName) prog_1_method_52_code (5 : Nat) (Option.some FieldType.int)) ∈ am_ws := am_t5 132 rfl rfl
theorem wd_1093 : (Cond.methodLink "NumberedSparksLaw" (173 : Nat) ({ cls := "NumberedSparks", name := "both", desc := "(II)I" } : MethodName)) ∈ am_ws := am_t5 133 rfl rfl
theorem wd_1094 : (Cond.instanceMethod ({ cls := "NumberedSparks", name := "both", desc := "(II)I" } : MethodName)) ∈ am_ws := am_t5 134 rfl rfl
theorem wd_1095 : (Cond.selects "NumberedSparks" ({ cls := "NumberedSparks", name := "both", desc := "(II)I" } : MethodName) ({ cls := "NumberedSparks", name := "both", desc := "(II)I" } : MethodName)) ∈ am_ws := am_t5 135 rfl rfl
theorem wd_1096 : (Cond.code ({ cls := "NumberedSparks", name := "both", desc := "(II)I" } : MethodName) prog_1_method_53_code (5 : Nat) (Option.some FieldType.int)) ∈ am_ws := am_t5 136 rfl rfl
theorem wd_1097 : (Cond.methodLink "NumberedSparksLaw" (181 : Nat) ({ cls := "NumberedSparks", name := "ofAge", desc := "(III)I" } : MethodName)) ∈ am_ws := am_t5 137 rfl rfl
theorem wd_1098 : (Cond.instanceMethod ({ cls := "NumberedSparks", name := "ofAge", desc := "(III)I" } : MethodName)) ∈ am_ws := am_t5 138 rfl rfl
theorem wd_1099 : (Cond.selects "NumberedSparks" ({ cls := "NumberedSparks", name := "ofAge", desc := "(III)I" } : MethodName) ({ cls := "NumberedSparks", name := "ofAge", desc := "(III)I" } : MethodName)) ∈ am_ws := am_t5 139 rfl rfl
theorem wd_1100 : (Cond.code ({ cls := "NumberedSparks", name := "ofAge", desc := "(III)I" } : MethodName) prog_1_method_54_code (9 : Nat) (Option.some FieldType.int)) ∈ am_ws := am_t5 140 rfl rfl
theorem wd_1101 : (Cond.methodLink "NumberedSparksLaw" (213 : Nat) ({ cls := "NumberedSparks", name := "colours", desc := "(II)I" } : MethodName)) ∈ am_ws := am_t5 141 rfl rfl
theorem wd_1102 : (Cond.instanceMethod ({ cls := "NumberedSparks", name := "colours", desc := "(II)I" } : MethodName)) ∈ am_ws := am_t5 142 rfl rfl
theorem wd_1103 : (Cond.selects "NumberedSparks" ({ cls := "NumberedSparks", name := "colours", desc := "(II)I" } : MethodName) ({ cls := "NumberedSparks", name := "colours", desc := "(II)I" } : MethodName)) ∈ am_ws := am_t5 143 rfl rfl
theorem wd_1104 : (Cond.code ({ cls := "NumberedSparks", name := "colours", desc := "(II)I" } : MethodName) prog_1_method_55_code (5 : Nat) (Option.some FieldType.int)) ∈ am_ws := am_t5 144 rfl rfl
theorem wd_1105 : (Cond.methodLink "NumberedSparksLaw" (233 : Nat) ({ cls := "NumberedSparks", name := "twins", desc := "(I)I" } : MethodName)) ∈ am_ws := am_t5 145 rfl rfl
theorem wd_1106 : (Cond.instanceMethod ({ cls := "NumberedSparks", name := "twins", desc := "(I)I" } : MethodName)) ∈ am_ws := am_t5 146 rfl rfl
theorem wd_1107 : (Cond.selects "NumberedSparks" ({ cls := "NumberedSparks", name := "twins", desc := "(I)I" } : MethodName) ({ cls := "NumberedSparks", name := "twins", desc := "(I)I" } : MethodName)) ∈ am_ws := am_t5 147 rfl rfl
theorem wd_1108 : (Cond.code ({ cls := "NumberedSparks", name := "twins", desc := "(I)I" } : MethodName) prog_1_method_56_code (6 : Nat) (Option.some FieldType.int)) ∈ am_ws := am_t5 148 rfl rfl
theorem wd_1109 : (Cond.methodLink "NumberedSparksLaw" (145 : Nat) ({ cls := "NumberedSparks", name := "picture", desc := "(I)I" } : MethodName)) ∈ am_ws := am_t5 149 rfl rfl
theorem wd_1110 : (Cond.instanceMethod ({ cls := "NumberedSparks", name := "picture", desc := "(I)I" } : MethodName)) ∈ am_ws := am_t5 150 rfl rfl
theorem wd_1111 : (Cond.selects "NumberedSparks" ({ cls := "NumberedSparks", name := "picture", desc := "(I)I" } : MethodName) ({ cls := "NumberedSparks", name := "picture", desc := "(I)I" } : MethodName)) ∈ am_ws := am_t5 151 rfl rfl
theorem wd_1112 : (Cond.code ({ cls := "NumberedSparks", name := "picture", desc := "(I)I" } : MethodName) prog_1_method_57_code (6 : Nat) (Option.some FieldType.int)) ∈ am_ws := am_t5 152 rfl rfl
theorem wd_1113 : (Cond.methodLink "NumberedSparks" (366 : Nat) ({ cls := "NumberedSparks$Frame", name := "markTops", desc := "([I)V" } : MethodName)) ∈ am_ws := am_t5 153 rfl rfl
theorem wd_1114 : (Cond.instanceMethod ({ cls := "NumberedSparks$Frame", name := "markTops", desc := "([I)V" } : MethodName)) ∈ am_ws := am_t5 154 rfl rfl
theorem wd_1115 : (Cond.selects "NumberedSparks$Frame" ({ cls := "NumberedSparks$Frame", name := "markTops", desc := "([I)V" } : MethodName) ({ cls := "NumberedSparks$Frame", name := "markTops", desc := "([I)V" } : MethodName)) ∈ am_ws := am_t5 155 rfl rfl
theorem wd_1116 : (Cond.code ({ cls := "NumberedSparks$Frame", name := "markTops", desc := "([I)V" } : MethodName) prog_3_method_17_code (4 : Nat) (Option.none : Option FieldType)) ∈ am_ws := am_t5 156 rfl rfl
theorem wd_1117 : (Cond.methodLink "NumberedSparksLaw" (169 : Nat) ({ cls := "NumberedSparks", name := "layer", desc := "(II)I" } : MethodName)) ∈ am_ws := am_t5 157 rfl rfl
theorem wd_1118 : (Cond.instanceMethod ({ cls := "NumberedSparks", name := "layer", desc := "(II)I" } : MethodName)) ∈ am_ws := am_t5 158 rfl rfl
theorem wd_1119 : (Cond.selects "NumberedSparks" ({ cls := "NumberedSparks", name := "layer", desc := "(II)I" } : MethodName) ({ cls := "NumberedSparks", name := "layer", desc := "(II)I" } : MethodName)) ∈ am_ws := am_t5 159 rfl rfl
theorem wd_1120 : (Cond.code ({ cls := "NumberedSparks", name := "layer", desc := "(II)I" } : MethodName) prog_1_method_58_code (6 : Nat) (Option.some FieldType.int)) ∈ am_ws := am_t5 160 rfl rfl
theorem wd_1121 : (Cond.methodLink "NumberedSparks" (369 : Nat) ({ cls := "NumberedSparks$Frame", name := "countLayer", desc := "(I[I)V" } : MethodName)) ∈ am_ws := am_t5 161 rfl rfl
theorem wd_1122 : (Cond.instanceMethod ({ cls := "NumberedSparks$Frame", name := "countLayer", desc := "(I[I)V" } : MethodName)) ∈ am_ws := am_t5 162 rfl rfl
theorem wd_1123 : (Cond.selects "NumberedSparks$Frame" ({ cls := "NumberedSparks$Frame", name := "countLayer", desc := "(I[I)V" } : MethodName) ({ cls := "NumberedSparks$Frame", name := "countLayer", desc := "(I[I)V" } : MethodName)) ∈ am_ws := am_t5 163 rfl rfl
theorem wd_1124 : (Cond.code ({ cls := "NumberedSparks$Frame", name := "countLayer", desc := "(I[I)V" } : MethodName) prog_3_method_14_code (5 : Nat) (Option.none : Option FieldType)) ∈ am_ws := am_t5 164 rfl rfl
theorem wd_1125 : (Cond.classLink "NumberedSparksLaw" (10 : Nat) "NumberedSparksModel") ∈ am_ws := am_t5 165 rfl rfl
theorem wd_1126 : (Cond.instantiable "NumberedSparksModel" (42 : Nat)) ∈ am_ws := am_t5 166 rfl rfl
theorem wd_1127 : (Cond.methodLink "NumberedSparksLaw" (12 : Nat) ({ cls := "NumberedSparksModel", name := "<init>", desc := "()V" } : MethodName)) ∈ am_ws := am_t5 167 rfl rfl
theorem wd_1128 : (Cond.instanceMethod ({ cls := "NumberedSparksModel", name := "<init>", desc := "()V" } : MethodName)) ∈ am_ws := am_t5 168 rfl rfl
theorem wd_1129 : (Cond.code ({ cls := "NumberedSparksModel", name := "<init>", desc := "()V" } : MethodName) prog_11_method_1_code (1 : Nat) (Option.none : Option FieldType)) ∈ am_ws := am_t5 169 rfl rfl
theorem wd_1130 : (Cond.methodLink "NumberedSparksModel" (1 : Nat) ({ cls := "java/lang/Object", name := "<init>", desc := "()V" } : MethodName)) ∈ am_ws := am_t5 170 rfl rfl
theorem wd_1131 : (Cond.constant "NumberedSparksModel" (64 : Nat) (64000 : Int32)) ∈ am_ws := am_t5 171 rfl rfl
theorem wd_1132 : (Cond.fieldLink "NumberedSparksModel" (219 : Nat) "NumberedSparksModel" "isThere" "Z") ∈ am_ws := am_t5 172 rfl rfl
theorem wd_1133 : (Cond.fieldLink "NumberedSparksModel" (7 : Nat) "NumberedSparksModel" "wide" "[I") ∈ am_ws := am_t5 173 rfl rfl
theorem wd_1134 : (Cond.fieldLink "NumberedSparksModel" (222 : Nat) "NumberedSparksModel" "seed" "I") ∈ am_ws := am_t5 174 rfl rfl
theorem wd_1135 : (Cond.fieldLink "NumberedSparksModel" (224 : Nat) "NumberedSparksModel" "kinds" "I") ∈ am_ws := am_t5 175 rfl rfl
theorem wd_1136 : (Cond.fieldLink "NumberedSparksModel" (13 : Nat) "NumberedSparksModel" "kind" "[I") ∈ am_ws := am_t5 176 rfl rfl
theorem wd_1137 : (Cond.fieldLink "NumberedSparksModel" (227 : Nat) "NumberedSparksModel" "sources" "I") ∈ am_ws := am_t5 177 rfl rfl
theorem wd_1138 : (Cond.fieldLink "NumberedSparksModel" (16 : Nat) "NumberedSparksModel" "source" "[I") ∈ am_ws := am_t5 178 rfl rfl
theorem wd_1139 : (Cond.fieldLink "NumberedSparksModel" (19 : Nat) "NumberedSparksModel" "freshWide" "[I") ∈ am_ws := am_t5 179 rfl rfl
theorem wd_1140 : (Cond.fieldLink "NumberedSparksModel" (198 : Nat) "NumberedSparksModel" "freshSeed" "I") ∈ am_ws := am_t5 180 rfl rfl
theorem wd_1141 : (Cond.fieldLink "NumberedSparksModel" (153 : Nat) "NumberedSparksModel" "freshKinds" "I") ∈ am_ws := am_t5 181 rfl rfl
theorem wd_1142 : (Cond.fieldLink "NumberedSparksModel" (22 : Nat) "NumberedSparksModel" "freshKind" "[I") ∈ am_ws := am_t5 182 rfl rfl
theorem wd_1143 : (Cond.fieldLink "NumberedSparksModel" (180 : Nat) "NumberedSparksModel" "freshSources" "I") ∈ am_ws := am_t5 183 rfl rfl
theorem wd_1144 : (Cond.fieldLink "NumberedSparksModel" (25 : Nat) "NumberedSparksModel" "freshSource" "[I") ∈ am_ws := am_t5 184 rfl rfl
theorem wd_1145 : (Cond.fieldLink "NumberedSparksModel" (28 : Nat) "NumberedSparksModel" "tape" "[B") ∈ am_ws := am_t5 185 rfl rfl
theorem wd_1146 : (Cond.fieldLink "NumberedSparksModel" (74 : Nat) "NumberedSparksModel" "taped" "I") ∈ am_ws := am_t5 186 rfl rfl
theorem wd_1147 : (Cond.fieldLink "NumberedSparksModel" (92 : Nat) "NumberedSparksModel" "size" "I") ∈ am_ws := am_t5 187 rfl rfl
theorem wd_1148 : (Cond.fieldLink "NumberedSparksModel" (95 : Nat) "NumberedSparksModel" "at" "I") ∈ am_ws := am_t5 188 rfl rfl
theorem wd_1149 : (Cond.fieldLink "NumberedSparksModel" (102 : Nat) "NumberedSparksModel" "from" "I") ∈ am_ws := am_t5 189 rfl rfl
theorem wd_1150 : (Cond.fieldLink "NumberedSparksModel" (105 : Nat) "NumberedSparksModel" "token" "I") ∈ am_ws := am_t5 190 rfl rfl
theorem wd_1151 : (Cond.fieldLink "NumberedSparksModel" (116 : Nat) "NumberedSparksModel" "value" "I") ∈ am_ws := am_t5 191 rfl rfl
theorem wd_1152 : (Cond.fieldLink "NumberedSparksModel" (85 : Nat) "NumberedSparksModel" "faultKind" "I") ∈ am_ws := am_t5 192 rfl rfl
theorem wd_1153 : (Cond.fieldLink "NumberedSparksModel" (32 : Nat) "NumberedSparksModel" "faultPlace" "I") ∈ am_ws := am_t5 193 rfl rfl
theorem wd_1154 : (Cond.fieldLink "NumberedSparksModel" (193 : Nat) "NumberedSparksModel" "isSeeded" "Z") ∈ am_ws := am_t5 194 rfl rfl
theorem wd_1155 : (Cond.fieldLink "NumberedSparksModel" (230 : Nat) "NumberedSparksModel" "acts" "I") ∈ am_ws := am_t5 195 rfl rfl
theorem wd_1156 : (Cond.fieldLink "NumberedSparksModel" (36 : Nat) "NumberedSparksModel" "actAt" "[I") ∈ am_ws := am_t5 196 rfl rfl
theorem wd_1157 : (Cond.fieldLink "NumberedSparksModel" (39 : Nat) "NumberedSparksModel" "actWas" "[I") ∈ am_ws := am_t5 197 rfl rfl
theorem wd_1158 : (Cond.fieldLink "NumberedSparksModel" (278 : Nat) "NumberedSparksModel" "itsKind" "I") ∈ am_ws := am_t5 198 rfl rfl
theorem wd_1159 : (Cond.fieldLink "NumberedSparksModel" (292 : Nat) "NumberedSparksModel" "born" "I") ∈ am_ws := am_t5 199 rfl rfl
theorem wd_1160 : (Cond.fieldLink "NumberedSparksModel" (303 : Nat) "NumberedSparksModel" "ends" "I") ∈ am_ws := am_t5 200 rfl rfl
theorem wd_1161 : (Cond.fieldLink "NumberedSparksModel" (42 : Nat) "NumberedSparksModel" "begin" "[I") ∈ am_ws := am_t5 201 rfl rfl
theorem wd_1162 : (Cond.fieldLink "NumberedSparksModel" (45 : Nat) "NumberedSparksModel" "speed" "[I") ∈ am_ws := am_t5 202 rfl rfl
theorem wd_1163 : (Cond.fieldLink "NumberedSparksModel" (48 : Nat) "NumberedSparksModel" "lastPlace" "[I") ∈ am_ws := am_t5 203 rfl rfl
theorem wd_1164 : (Cond.fieldLink "NumberedSparksModel" (51 : Nat) "NumberedSparksModel" "cellsOfOne" "[I") ∈ am_ws := am_t5 204 rfl rfl
theorem wd_1165 : (Cond.fieldLink "NumberedSparksModel" (361 : Nat) "NumberedSparksModel" "many" "I") ∈ am_ws := am_t5 205 rfl rfl
theorem wd_1166 : (Cond.fieldLink "NumberedSparksModel" (54 : Nat) "NumberedSparksModel" "keys" "[J") ∈ am_ws := am_t5 206 rfl rfl
theorem wd_1167 : (Cond.fieldLink "NumberedSparksModel" (58 : Nat) "NumberedSparksModel" "place0" "[I") ∈ am_ws := am_t5 207 rfl rfl
theorem wd_1168 : (Cond.fieldLink "NumberedSparksModel" (61 : Nat) "NumberedSparksModel" "place1" "[I") ∈ am_ws := am_t5 208 rfl rfl
theorem wd_1169 : (Cond.fieldLink "NumberedSparksModel" (65 : Nat) "NumberedSparksModel" "heaps" "[I") ∈ am_ws := am_t5 209 rfl rfl
theorem wd_1170 : (Cond.fieldLink "NumberedSparksModel" (443 : Nat) "NumberedSparksModel" "leftOver" "I") ∈ am_ws := am_t5 210 rfl rfl
theorem wd_1171 : (Cond.fieldLink "NumberedSparksModel" (68 : Nat) "NumberedSparksModel" "told" "[B") ∈ am_ws := am_t5 211 rfl rfl
theorem wd_1172 : (Cond.fieldLink "NumberedSparksModel" (233 : Nat) "NumberedSparksModel" "toldMany" "I") ∈ am_ws := am_t5 212 rfl rfl
theorem wd_1258 : (Cond.arrayClass FieldType.long) ∈ am_ws := am_t6 58 rfl rfl
theorem wd_1259 : (Cond.methodLink "NumberedSparksLaw" (17 : Nat) ({ cls := "NumberedSparksModel", name := "feed", desc := "(IIIII)I" } : MethodName)) ∈ am_ws := am_t6 59 rfl rfl
theorem wd_1260 : (Cond.instanceMethod ({ cls := "NumberedSparksModel", name := "feed", desc := "(IIIII)I" } : MethodName)) ∈ am_ws := am_t6 60 rfl rfl
theorem wd_1261 : (Cond.selects "NumberedSparksModel" ({ cls := "NumberedSparksModel", name := "feed", desc := "(IIIII)I" } : MethodName) ({ cls := "NumberedSparksModel", name := "feed", desc := "(IIIII)I" } : MethodName)) ∈ am_ws := am_t6 61 rfl rfl
theorem wd_1262 : (Cond.code ({ cls := "NumberedSparksModel", name := "feed", desc := "(IIIII)I" } : MethodName) prog_11_method_5_code (6 : Nat) (Option.some FieldType.int)) ∈ am_ws := am_t6 62 rfl rfl
theorem wd_1263 : (Cond.methodLink "NumberedSparksModel" (77 : Nat) ({ cls := "NumberedSparksModel", name := "puts4", desc := "(I)V" } : MethodName)) ∈ am_ws := am_t6 63 rfl rfl
theorem wd_1265 : (Cond.instanceMethod ({ cls := "NumberedSparksModel", name := "puts4", desc := "(I)V" } : MethodName)) ∈ am_ws := am_t6 65 rfl rfl
theorem wd_1266 : (Cond.code ({ cls := "NumberedSparksModel", name := "puts4", desc := "(I)V" } : MethodName) prog_11_method_4_code (3 : Nat) (Option.none : Option FieldType)) ∈ am_ws := am_t6 66 rfl rfl
theorem wd_1267 : (Cond.methodLink "NumberedSparksLaw" (22 : Nat) ({ cls := "NumberedSparksModel", name := "end", desc := "(I)I" } : MethodName)) ∈ am_ws := am_t6 67 rfl rfl
theorem wd_1268 : (Cond.instanceMethod ({ cls := "NumberedSparksModel", name := "end", desc := "(I)I" } : MethodName)) ∈ am_ws := am_t6 68 rfl rfl
theorem wd_1269 : (Cond.selects "NumberedSparksModel" ({ cls := "NumberedSparksModel", name := "end", desc := "(I)I" } : MethodName) ({ cls := "NumberedSparksModel", name := "end", desc := "(I)I" } : MethodName)) ∈ am_ws := am_t6 69 rfl rfl
theorem wd_1270 : (Cond.code ({ cls := "NumberedSparksModel", name := "end", desc := "(I)I" } : MethodName) prog_11_method_6_code (2 : Nat) (Option.some FieldType.int)) ∈ am_ws := am_t6 70 rfl rfl
theorem wd_1271 : (Cond.methodLink "NumberedSparksModel" (81 : Nat) ({ cls := "NumberedSparksModel", name := "in", desc := "(JJJ)Z" } : MethodName)) ∈ am_ws := am_t6 71 rfl rfl
theorem wd_1272 : (Cond.static ({ cls := "NumberedSparksModel", name := "in", desc := "(JJJ)Z" } : MethodName)) ∈ am_ws := am_t6 72 rfl rfl
theorem wd_1273 : (Cond.code ({ cls := "NumberedSparksModel", name := "in", desc := "(JJJ)Z" } : MethodName) prog_11_method_3_code (6 : Nat) (Option.some FieldType.boolean)) ∈ am_ws := am_t6 73 rfl rfl
theorem wd_1274 : (Cond.methodLink "NumberedSparksLaw" (27 : Nat) ({ cls := "NumberedSparksModel", name := "scene", desc := "()I" } : MethodName)) ∈ am_ws := am_t6 74 rfl rfl
theorem wd_1275 : (Cond.instanceMethod ({ cls := "NumberedSparksModel", name := "scene", desc := "()I" } : MethodName)) ∈ am_ws := am_t6 75 rfl rfl
theorem wd_1276 : (Cond.selects "NumberedSparksModel" ({ cls := "NumberedSparksModel", name := "scene", desc := "()I" } : MethodName) ({ cls := "NumberedSparksModel", name := "scene", desc := "()I" } : MethodName)) ∈ am_ws := am_t6 76 rfl rfl
theorem wd_1277 : (Cond.code ({ cls := "NumberedSparksModel", name := "scene", desc := "()I" } : MethodName) prog_11_method_20_code (3 : Nat) (Option.some FieldType.int)) ∈ am_ws := am_t6 77 rfl rfl
theorem wd_1278 : (Cond.methodLink "NumberedSparksModel" (140 : Nat) ({ cls := "NumberedSparksModel", name := "advance", desc := "()V" } : MethodName)) ∈ am_ws := am_t6 78 rfl rfl
theorem wd_1280 : (Cond.instanceMethod ({ cls := "NumberedSparksModel", name := "advance", desc := "()V" } : MethodName)) ∈ am_ws := am_t6 80 rfl rfl
theorem wd_1281 : (Cond.code ({ cls := "NumberedSparksModel", name := "advance", desc := "()V" } : MethodName) prog_11_method_10_code (2 : Nat) (Option.none : Option FieldType)) ∈ am_ws := am_t6 81 rfl rfl
theorem wd_1282 : (Cond.methodLink "NumberedSparksModel" (98 : Nat) ({ cls := "NumberedSparksModel", name := "see", desc := "(I)I" } : MethodName)) ∈ am_ws := am_t6 82 rfl rfl
theorem wd_1284 : (Cond.instanceMethod ({ cls := "NumberedSparksModel", name := "see", desc := "(I)I" } : MethodName)) ∈ am_ws := am_t6 84 rfl rfl
theorem wd_1285 : (Cond.code ({ cls := "NumberedSparksModel", name := "see", desc := "(I)I" } : MethodName) prog_11_method_9_code (2 : Nat) (Option.some FieldType.int)) ∈ am_ws := am_t6 85 rfl rfl
theorem wd_1286 : (Cond.constantLong "NumberedSparksModel" (108 : Nat) (97 : Int64)) ∈ am_ws := am_t6 86 rfl rfl
theorem wd_1287 : (Cond.constantLong "NumberedSparksModel" (110 : Nat) (122 : Int64)) ∈ am_ws := am_t6 87 rfl rfl
theorem wd_1288 : (Cond.constantLong "NumberedSparksModel" (112 : Nat) (48 : Int64)) ∈ am_ws := am_t6 88 rfl rfl
theorem wd_1289 : (Cond.constantLong "NumberedSparksModel" (114 : Nat) (57 : Int64)) ∈ am_ws := am_t6 89 rfl rfl
theorem wd_1290 : (Cond.constant "NumberedSparksModel" (119 : Nat) (9999999 : Int32)) ∈ am_ws := am_t6 90 rfl rfl
theorem wd_1291 : (Cond.methodLink "NumberedSparksModel" (120 : Nat) ({ cls := "java/lang/Math", name := "min", desc := "(II)I" } : MethodName)) ∈ am_ws := am_t6 91 rfl rfl
theorem wd_1292 : (Cond.methodLink "NumberedSparksModel" (146 : Nat) ({ cls := "NumberedSparksModel", name := "errs", desc := "(II)V" } : MethodName)) ∈ am_ws := am_t6 92 rfl rfl
theorem wd_1294 : (Cond.instanceMethod ({ cls := "NumberedSparksModel", name := "errs", desc := "(II)V" } : MethodName)) ∈ am_ws := am_t6 94 rfl rfl
theorem wd_1295 : (Cond.code ({ cls := "NumberedSparksModel", name := "errs", desc := "(II)V" } : MethodName) prog_11_method_8_code (3 : Nat) (Option.none : Option FieldType)) ∈ am_ws := am_t6 95 rfl rfl
theorem wd_1296 : (Cond.methodLink "NumberedSparksModel" (88 : Nat) ({ cls := "NumberedSparksModel", name := "good", desc := "()Z" } : MethodName)) ∈ am_ws := am_t6 96 rfl rfl
theorem wd_1298 : (Cond.instanceMethod ({ cls := "NumberedSparksModel", name := "good", desc := "()Z" } : MethodName)) ∈ am_ws := am_t6 98 rfl rfl
theorem wd_1299 : (Cond.code ({ cls := "NumberedSparksModel", name := "good", desc := "()Z" } : MethodName) prog_11_method_7_code (1 : Nat) (Option.some FieldType.boolean)) ∈ am_ws := am_t6 99 rfl rfl
theorem wd_1300 : (Cond.methodLink "NumberedSparksModel" (216 : Nat) ({ cls := "NumberedSparksModel", name := "readLine", desc := "(I)V" } : MethodName)) ∈ am_ws := am_t6 100 rfl rfl
theorem wd_1302 : (Cond.instanceMethod ({ cls := "NumberedSparksModel", name := "readLine", desc := "(I)V" } : MethodName)) ∈ am_ws := am_t6 102 rfl rfl
theorem wd_1303 : (Cond.code ({ cls := "NumberedSparksModel", name := "readLine", desc := "(I)V" } : MethodName) prog_11_method_19_code (3 : Nat) (Option.none : Option FieldType)) ∈ am_ws := am_t6 103 rfl rfl
theorem wd_1305 : (Cond.methodLink "NumberedSparksModel" (158 : Nat) ({ cls := "NumberedSparksModel", name := "passes", desc := "(Ljava/lang/String;)V" } : MethodName)) ∈ am_ws := am_t6 105 rfl rfl
theorem wd_1307 : (Cond.instanceMethod ({ cls := "NumberedSparksModel", name := "passes", desc := "(Ljava/lang/String;)V" } : MethodName)) ∈ am_ws := am_t6 107 rfl rfl
theorem wd_1308 : (Cond.code ({ cls := "NumberedSparksModel", name := "passes", desc := "(Ljava/lang/String;)V" } : MethodName) prog_11_method_13_code (2 : Nat) (Option.none : Option FieldType)) ∈ am_ws := am_t6 108 rfl rfl
theorem wd_1309 : (Cond.methodLink "NumberedSparksModel" (143 : Nat) ({ cls := "NumberedSparksModel", name := "takes", desc := "(Ljava/lang/String;)Z" } : MethodName)) ∈ am_ws := am_t6 109 rfl rfl
theorem wd_1311 : (Cond.instanceMethod ({ cls := "NumberedSparksModel", name := "takes", desc := "(Ljava/lang/String;)Z" } : MethodName)) ∈ am_ws := am_t6 111 rfl rfl
theorem wd_1312 : (Cond.code ({ cls := "NumberedSparksModel", name := "takes", desc := "(Ljava/lang/String;)Z" } : MethodName) prog_11_method_12_code (2 : Nat) (Option.some FieldType.boolean)) ∈ am_ws := am_t6 112 rfl rfl
theorem wd_1313 : (Cond.methodLink "NumberedSparksModel" (136 : Nat) ({ cls := "NumberedSparksModel", name := "isWord", desc := "(Ljava/lang/String;)Z" } : MethodName)) ∈ am_ws := am_t6 113 rfl rfl
theorem wd_1315 : (Cond.instanceMethod ({ cls := "NumberedSparksModel", name := "isWord", desc := "(Ljava/lang/String;)Z" } : MethodName)) ∈ am_ws := am_t6 115 rfl rfl
theorem wd_1316 : (Cond.code ({ cls := "NumberedSparksModel", name := "isWord", desc := "(Ljava/lang/String;)Z" } : MethodName) prog_11_method_11_code (4 : Nat) (Option.some FieldType.boolean)) ∈ am_ws := am_t6 116 rfl rfl
theorem wd_1317 : (Cond.methodLink "NumberedSparksModel" (126 : Nat) ({ cls := "java/lang/String", name := "length", desc := "()I" } : MethodName)) ∈ am_ws := am_t6 117 rfl rfl
theorem wd_1318 : (Cond.methodLink "NumberedSparksModel" (132 : Nat) ({ cls := "java/lang/String", name := "charAt", desc := "(I)C" } : MethodName)) ∈ am_ws := am_t6 118 rfl rfl
theorem wd_1319 : (Cond.methodLink "NumberedSparksModel" (150 : Nat) ({ cls := "NumberedSparksModel", name := "number", desc := "(II)I" } : MethodName)) ∈ am_ws := am_t6 119 rfl rfl
theorem wd_1321 : (Cond.instanceMethod ({ cls := "NumberedSparksModel", name := "number", desc := "(II)I" } : MethodName)) ∈ am_ws := am_t6 121 rfl rfl
theorem wd_1322 : (Cond.code ({ cls := "NumberedSparksModel", name := "number", desc := "(II)I" } : MethodName) prog_11_method_14_code (4 : Nat) (Option.some FieldType.int)) ∈ am_ws := am_t6 122 rfl rfl
theorem wd_1324 : (Cond.methodLink "NumberedSparksModel" (205 : Nat) ({ cls := "NumberedSparksModel", name := "readSeed", desc := "()V" } : MethodName)) ∈ am_ws := am_t6 124 rfl rfl
theorem wd_1326 : (Cond.instanceMethod ({ cls := "NumberedSparksModel", name := "readSeed", desc := "()V" } : MethodName)) ∈ am_ws := am_t6 126 rfl rfl
theorem wd_1327 : (Cond.code ({ cls := "NumberedSparksModel", name := "readSeed", desc := "()V" } : MethodName) prog_11_method_18_code (1 : Nat) (Option.none : Option FieldType)) ∈ am_ws := am_t6 127 rfl rfl
theorem wd_1328 : (Cond.constant "NumberedSparksModel" (197 : Nat) (999999 : Int32)) ∈ am_ws := am_t6 128 rfl rfl
theorem wd_1330 : (Cond.methodLink "NumberedSparksModel" (209 : Nat) ({ cls := "NumberedSparksModel", name := "readKind", desc := "()V" } : MethodName)) ∈ am_ws := am_t6 130 rfl rfl
theorem wd_1332 : (Cond.instanceMethod ({ cls := "NumberedSparksModel", name := "readKind", desc := "()V" } : MethodName)) ∈ am_ws := am_t6 132 rfl rfl
theorem wd_1333 : (Cond.code ({ cls := "NumberedSparksModel", name := "readKind", desc := "()V" } : MethodName) prog_11_method_16_code (2 : Nat) (Option.none : Option FieldType)) ∈ am_ws := am_t6 133 rfl rfl
theorem wd_1338 : (Cond.methodLink "NumberedSparksModel" (167 : Nat) ({ cls := "NumberedSparksModel", name := "falls", desc := "()I" } : MethodName)) ∈ am_ws := am_t6 138 rfl rfl
theorem wd_1340 : (Cond.instanceMethod ({ cls := "NumberedSparksModel", name := "falls", desc := "()I" } : MethodName)) ∈ am_ws := am_t6 140 rfl rfl
theorem wd_1341 : (Cond.code ({ cls := "NumberedSparksModel", name := "falls", desc := "()I" } : MethodName) prog_11_method_15_code (3 : Nat) (Option.some FieldType.int)) ∈ am_ws := am_t6 141 rfl rfl
theorem wd_1349 : (Cond.methodLink "NumberedSparksModel" (213 : Nat) ({ cls := "NumberedSparksModel", name := "readSource", desc := "()V" } : MethodName)) ∈ am_ws := am_t6 149 rfl rfl
theorem wd_1351 : (Cond.instanceMethod ({ cls := "NumberedSparksModel", name := "readSource", desc := "()V" } : MethodName)) ∈ am_ws := am_t6 151 rfl rfl
theorem wd_1352 : (Cond.code ({ cls := "NumberedSparksModel", name := "readSource", desc := "()V" } : MethodName) prog_11_method_17_code (3 : Nat) (Option.none : Option FieldType)) ∈ am_ws := am_t6 152 rfl rfl
theorem wd_1359 : (Cond.methodLink "NumberedSparksLaw" (31 : Nat) ({ cls := "NumberedSparksModel", name := "fault", desc := "(I)I" } : MethodName)) ∈ am_ws := am_t6 159 rfl rfl
theorem wd_1360 : (Cond.instanceMethod ({ cls := "NumberedSparksModel", name := "fault", desc := "(I)I" } : MethodName)) ∈ am_ws := am_t6 160 rfl rfl
theorem wd_1361 : (Cond.selects "NumberedSparksModel" ({ cls := "NumberedSparksModel", name := "fault", desc := "(I)I" } : MethodName) ({ cls := "NumberedSparksModel", name := "fault", desc := "(I)I" } : MethodName)) ∈ am_ws := am_t6 161 rfl rfl
theorem wd_1362 : (Cond.code ({ cls := "NumberedSparksModel", name := "fault", desc := "(I)I" } : MethodName) prog_11_method_21_code (2 : Nat) (Option.some FieldType.int)) ∈ am_ws := am_t6 162 rfl rfl
theorem wd_1363 : (Cond.methodLink "NumberedSparksLaw" (35 : Nat) ({ cls := "NumberedSparksModel", name := "count", desc := "(I)I" } : MethodName)) ∈ am_ws := am_t6 163 rfl rfl
theorem wd_1364 : (Cond.instanceMethod ({ cls := "NumberedSparksModel", name := "count", desc := "(I)I" } : MethodName)) ∈ am_ws := am_t6 164 rfl rfl
theorem wd_1365 : (Cond.selects "NumberedSparksModel" ({ cls := "NumberedSparksModel", name := "count", desc := "(I)I" } : MethodName) ({ cls := "NumberedSparksModel", name := "count", desc := "(I)I" } : MethodName)) ∈ am_ws := am_t6 165 rfl rfl
theorem wd_1366 : (Cond.code ({ cls := "NumberedSparksModel", name := "count", desc := "(I)I" } : MethodName) prog_11_method_22_code (2 : Nat) (Option.some FieldType.int)) ∈ am_ws := am_t6 166 rfl rfl
theorem wd_1367 : (Cond.methodLink "NumberedSparksLaw" (40 : Nat) ({ cls := "NumberedSparksModel", name := "kind", desc := "(II)I" } : MethodName)) ∈ am_ws := am_t6 167 rfl rfl
theorem wd_1368 : (Cond.instanceMethod ({ cls := "NumberedSparksModel", name := "kind", desc := "(II)I" } : MethodName)) ∈ am_ws := am_t6 168 rfl rfl
theorem wd_1369 : (Cond.selects "NumberedSparksModel" ({ cls := "NumberedSparksModel", name := "kind", desc := "(II)I" } : MethodName) ({ cls := "NumberedSparksModel", name := "kind", desc := "(II)I" } : MethodName)) ∈ am_ws := am_t6 169 rfl rfl
theorem wd_1370 : (Cond.code ({ cls := "NumberedSparksModel", name := "kind", desc := "(II)I" } : MethodName) prog_11_method_23_code (3 : Nat) (Option.some FieldType.int)) ∈ am_ws := am_t6 170 rfl rfl
theorem wd_1371 : (Cond.constantLong "NumberedSparksModel" (236 : Nat) (7 : Int64)) ∈ am_ws := am_t6 171 rfl rfl
theorem wd_1372 : (Cond.methodLink "NumberedSparksLaw" (44 : Nat) ({ cls := "NumberedSparksModel", name := "source", desc := "(II)I" } : MethodName)) ∈ am_ws := am_t6 172 rfl rfl
theorem wd_1373 : (Cond.instanceMethod ({ cls := "NumberedSparksModel", name := "source", desc := "(II)I" } : MethodName)) ∈ am_ws := am_t6 173 rfl rfl
theorem wd_1374 : (Cond.selects "NumberedSparksModel" ({ cls := "NumberedSparksModel", name := "source", desc := "(II)I" } : MethodName) ({ cls := "NumberedSparksModel", name := "source", desc := "(II)I" } : MethodName)) ∈ am_ws := am_t6 174 rfl rfl
theorem wd_1375 : (Cond.code ({ cls := "NumberedSparksModel", name := "source", desc := "(II)I" } : MethodName) prog_11_method_27_code (3 : Nat) (Option.some FieldType.int)) ∈ am_ws := am_t6 175 rfl rfl
theorem wd_1376 : (Cond.constantLong "NumberedSparksModel" (244 : Nat) (9 : Int64)) ∈ am_ws := am_t6 176 rfl rfl
theorem wd_1377 : (Cond.methodLink "NumberedSparksModel" (246 : Nat) ({ cls := "NumberedSparksModel", name := "roots", desc := "(I)I" } : MethodName)) ∈ am_ws := am_t6 177 rfl rfl
theorem wd_1379 : (Cond.instanceMethod ({ cls := "NumberedSparksModel", name := "roots", desc := "(I)I" } : MethodName)) ∈ am_ws := am_t6 179 rfl rfl
theorem wd_1380 : (Cond.code ({ cls := "NumberedSparksModel", name := "roots", desc := "(I)I" } : MethodName) prog_11_method_26_code (2 : Nat) (Option.some FieldType.int)) ∈ am_ws := am_t6 180 rfl rfl
theorem wd_1381 : (Cond.methodLink "NumberedSparksModel" (241 : Nat) ({ cls := "NumberedSparksModel", name := "groups", desc := "(I)I" } : MethodName)) ∈ am_ws := am_t6 181 rfl rfl
theorem wd_1383 : (Cond.instanceMethod ({ cls := "NumberedSparksModel", name := "groups", desc := "(I)I" } : MethodName)) ∈ am_ws := am_t6 183 rfl rfl
theorem wd_1384 : (Cond.code ({ cls := "NumberedSparksModel", name := "groups", desc := "(I)I" } : MethodName) prog_11_method_25_code (3 : Nat) (Option.some FieldType.int)) ∈ am_ws := am_t6 184 rfl rfl
theorem wd_1385 : (Cond.methodLink "NumberedSparksModel" (238 : Nat) ({ cls := "NumberedSparksModel", name := "ofSource", desc := "(II)I" } : MethodName)) ∈ am_ws := am_t6 185 rfl rfl
theorem wd_1387 : (Cond.instanceMethod ({ cls := "NumberedSparksModel", name := "ofSource", desc := "(II)I" } : MethodName)) ∈ am_ws := am_t6 187 rfl rfl
theorem wd_1388 : (Cond.code ({ cls := "NumberedSparksModel", name := "ofSource", desc := "(II)I" } : MethodName) prog_11_method_24_code (3 : Nat) (Option.some FieldType.int)) ∈ am_ws := am_t6 188 rfl rfl
theorem wd_1389 : (Cond.methodLink "NumberedSparksLaw" (48 : Nat) ({ cls := "NumberedSparksModel", name := "seed", desc := "(I)I" } : MethodName)) ∈ am_ws := am_t6 189 rfl rfl
theorem wd_1390 : (Cond.instanceMethod ({ cls := "NumberedSparksModel", name := "seed", desc := "(I)I" } : MethodName)) ∈ am_ws := am_t6 190 rfl rfl
theorem wd_1391 : (Cond.selects "NumberedSparksModel" ({ cls := "NumberedSparksModel", name := "seed", desc := "(I)I" } : MethodName) ({ cls := "NumberedSparksModel", name := "seed", desc := "(I)I" } : MethodName)) ∈ am_ws := am_t6 191 rfl rfl
theorem wd_1392 : (Cond.code ({ cls := "NumberedSparksModel", name := "seed", desc := "(I)I" } : MethodName) prog_11_method_29_code (3 : Nat) (Option.some FieldType.int)) ∈ am_ws := am_t6 192 rfl rfl
theorem wd_1393 : (Cond.constantLong "NumberedSparksModel" (249 : Nat) (999999 : Int64)) ∈ am_ws := am_t6 193 rfl rfl
theorem wd_1394 : (Cond.methodLink "NumberedSparksModel" (251 : Nat) ({ cls := "NumberedSparksModel", name := "keeps", desc := "(II)V" } : MethodName)) ∈ am_ws := am_t6 194 rfl rfl
theorem wd_1396 : (Cond.instanceMethod ({ cls := "NumberedSparksModel", name := "keeps", desc := "(II)V" } : MethodName)) ∈ am_ws := am_t6 196 rfl rfl
theorem wd_1397 : (Cond.code ({ cls := "NumberedSparksModel", name := "keeps", desc := "(II)V" } : MethodName) prog_11_method_28_code (4 : Nat) (Option.none : Option FieldType)) ∈ am_ws := am_t6 197 rfl rfl
theorem wd_1398 : (Cond.methodLink "NumberedSparksLaw" (204 : Nat) ({ cls := "NumberedSparksModel", name := "sets", desc := "(III)I" } : MethodName)) ∈ am_ws := am_t6 198 rfl rfl
theorem wd_1399 : (Cond.instanceMethod ({ cls := "NumberedSparksModel", name := "sets", desc := "(III)I" } : MethodName)) ∈ am_ws := am_t6 199 rfl rfl
theorem wd_1400 : (Cond.selects "NumberedSparksModel" ({ cls := "NumberedSparksModel", name := "sets", desc := "(III)I" } : MethodName) ({ cls := "NumberedSparksModel", name := "sets", desc := "(III)I" } : MethodName)) ∈ am_ws := am_t6 200 rfl rfl
theorem wd_1401 : (Cond.code ({ cls := "NumberedSparksModel", name := "sets", desc := "(III)I" } : MethodName) prog_11_method_30_code (8 : Nat) (Option.some FieldType.int)) ∈ am_ws := am_t6 201 rfl rfl
theorem wd_1402 : (Cond.constantLong "NumberedSparksModel" (254 : Nat) (4 : Int64)) ∈ am_ws := am_t6 202 rfl rfl
theorem wd_1403 : (Cond.methodLink "NumberedSparksLaw" (208 : Nat) ({ cls := "NumberedSparksModel", name := "undo", desc := "()I" } : MethodName)) ∈ am_ws := am_t6 203 rfl rfl
theorem wd_1404 : (Cond.instanceMethod ({ cls := "NumberedSparksModel", name := "undo", desc := "()I" } : MethodName)) ∈ am_ws := am_t6 204 rfl rfl
theorem wd_1405 : (Cond.selects "NumberedSparksModel" ({ cls := "NumberedSparksModel", name := "undo", desc := "()I" } : MethodName) ({ cls := "NumberedSparksModel", name := "undo", desc := "()I" } : MethodName)) ∈ am_ws := am_t6 205 rfl rfl
theorem wd_1406 : (Cond.code ({ cls := "NumberedSparksModel", name := "undo", desc := "()I" } : MethodName) prog_11_method_31_code (1 : Nat) (Option.some FieldType.int)) ∈ am_ws := am_t6 206 rfl rfl
theorem wd_1407 : (Cond.methodLink "NumberedSparksLaw" (53 : Nat) ({ cls := "NumberedSparksModel", name := "mixed", desc := "(II)J" } : MethodName)) ∈ am_ws := am_t6 207 rfl rfl
theorem wd_1408 : (Cond.instanceMethod ({ cls := "NumberedSparksModel", name := "mixed", desc := "(II)J" } : MethodName)) ∈ am_ws := am_t6 208 rfl rfl
theorem wd_1409 : (Cond.selects "NumberedSparksModel" ({ cls := "NumberedSparksModel", name := "mixed", desc := "(II)J" } : MethodName) ({ cls := "NumberedSparksModel", name := "mixed", desc := "(II)J" } : MethodName)) ∈ am_ws := am_t6 209 rfl rfl
theorem wd_1410 : (Cond.code ({ cls := "NumberedSparksModel", name := "mixed", desc := "(II)J" } : MethodName) prog_11_method_33_code (3 : Nat) (Option.some FieldType.long)) ∈ am_ws := am_t6 210 rfl rfl
theorem wd_1411 : (Cond.methodLink "NumberedSparksModel" (264 : Nat) ({ cls := "NumberedSparksModel", name := "mixedOf", desc := "(II)J" } : MethodName)) ∈ am_ws := am_t6 211 rfl rfl
theorem wd_1413 : (Cond.instanceMethod ({ cls := "NumberedSparksModel", name := "mixedOf", desc := "(II)J" } : MethodName)) ∈ am_ws := am_t6 213 rfl rfl
theorem wd_1414 : (Cond.code ({ cls := "NumberedSparksModel", name := "mixedOf", desc := "(II)J" } : MethodName) prog_11_method_32_code (5 : Nat) (Option.some FieldType.long)) ∈ am_ws := am_t6 214 rfl rfl
theorem wd_1415 : (Cond.constantLong "NumberedSparksModel" (256 : Nat) (-7046029254386353131 : Int64)) ∈ am_ws := am_t6 215 rfl rfl
theorem wd_1416 : (Cond.constantLong "NumberedSparksModel" (258 : Nat) (-3335678366873096957 : Int64)) ∈ am_ws := am_t6 216 rfl rfl
theorem wd_1417 : (Cond.constantLong "NumberedSparksModel" (260 : Nat) (-4658895280553007687 : Int64)) ∈ am_ws := am_t6 217 rfl rfl
theorem wd_1418 : (Cond.constantLong "NumberedSparksModel" (262 : Nat) (-7723592293110705685 : Int64)) ∈ am_ws := am_t6 218 rfl rfl
theorem wd_1419 : (Cond.methodLink "NumberedSparksLaw" (57 : Nat) ({ cls := "NumberedSparksModel", name := "is", desc := "(I)I" } : MethodName)) ∈ am_ws := am_t6 219 rfl rfl
theorem wd_1420 : (Cond.instanceMethod ({ cls := "NumberedSparksModel", name := "is", desc := "(I)I" } : MethodName)) ∈ am_ws := am_t6 220 rfl rfl
theorem wd_1421 : (Cond.selects "NumberedSparksModel" ({ cls := "NumberedSparksModel", name := "is", desc := "(I)I" } : MethodName) ({ cls := "NumberedSparksModel", name := "is", desc := "(I)I" } : MethodName)) ∈ am_ws := am_t6 221 rfl rfl
theorem wd_1422 : (Cond.code ({ cls := "NumberedSparksModel", name := "is", desc := "(I)I" } : MethodName) prog_11_method_49_code (2 : Nat) (Option.some FieldType.int)) ∈ am_ws := am_t6 222 rfl rfl
theorem wd_1423 : (Cond.methodLink "NumberedSparksModel" (318 : Nat) ({ cls := "NumberedSparksModel", name := "isSpark", desc := "(I)Z" } : MethodName)) ∈ am_ws := am_t6 223 rfl rfl
theorem wd_1425 : (Cond.instanceMethod ({ cls := "NumberedSparksModel", name := "isSpark", desc := "(I)Z" } : MethodName)) ∈ am_ws := am_t6 225 rfl rfl
theorem wd_1426 : (Cond.code ({ cls := "NumberedSparksModel", name := "isSpark", desc := "(I)Z" } : MethodName) prog_11_method_38_code (5 : Nat) (Option.some FieldType.boolean)) ∈ am_ws := am_t6 226 rfl rfl
theorem wd_1427 : (Cond.methodLink "NumberedSparksModel" (268 : Nat) ({ cls := "NumberedSparksModel", name := "first", desc := "(I)I" } : MethodName)) ∈ am_ws := am_t6 227 rfl rfl
theorem wd_1428 : (Cond.static ({ cls := "NumberedSparksModel", name := "first", desc := "(I)I" } : MethodName)) ∈ am_ws := am_t6 228 rfl rfl
theorem wd_1429 : (Cond.code ({ cls := "NumberedSparksModel", name := "first", desc := "(I)I" } : MethodName) prog_11_method_35_code (1 : Nat) (Option.some FieldType.int)) ∈ am_ws := am_t6 229 rfl rfl
theorem wd_1430 : (Cond.methodLink "NumberedSparksModel" (271 : Nat) ({ cls := "NumberedSparksModel", name := "hasChild", desc := "(II)Z" } : MethodName)) ∈ am_ws := am_t6 230 rfl rfl
theorem wd_1432 : (Cond.instanceMethod ({ cls := "NumberedSparksModel", name := "hasChild", desc := "(II)Z" } : MethodName)) ∈ am_ws := am_t6 232 rfl rfl
theorem wd_1433 : (Cond.code ({ cls := "NumberedSparksModel", name := "hasChild", desc := "(II)Z" } : MethodName) prog_11_method_37_code (3 : Nat) (Option.some FieldType.boolean)) ∈ am_ws := am_t6 233 rfl rfl
theorem wd_1434 : (Cond.methodLink "NumberedSparksModel" (275 : Nat) ({ cls := "NumberedSparksModel", name := "second", desc := "(I)I" } : MethodName)) ∈ am_ws := am_t6 234 rfl rfl
theorem wd_1435 : (Cond.static ({ cls := "NumberedSparksModel", name := "second", desc := "(I)I" } : MethodName)) ∈ am_ws := am_t6 235 rfl rfl
theorem wd_1436 : (Cond.code ({ cls := "NumberedSparksModel", name := "second", desc := "(I)I" } : MethodName) prog_11_method_36_code (1 : Nat) (Option.some FieldType.int)) ∈ am_ws := am_t6 236 rfl rfl
theorem wd_1437 : (Cond.methodLink "NumberedSparksLaw" (61 : Nat) ({ cls := "NumberedSparksModel", name := "child", desc := "(II)I" } : MethodName)) ∈ am_ws := am_t6 237 rfl rfl
theorem wd_1438 : (Cond.instanceMethod ({ cls := "NumberedSparksModel", name := "child", desc := "(II)I" } : MethodName)) ∈ am_ws := am_t6 238 rfl rfl
theorem wd_1439 : (Cond.selects "NumberedSparksModel" ({ cls := "NumberedSparksModel", name := "child", desc := "(II)I" } : MethodName) ({ cls := "NumberedSparksModel", name := "child", desc := "(II)I" } : MethodName)) ∈ am_ws := am_t6 239 rfl rfl
theorem wd_1440 : (Cond.code ({ cls := "NumberedSparksModel", name := "child", desc := "(II)I" } : MethodName) prog_11_method_52_code (3 : Nat) (Option.some FieldType.int)) ∈ am_ws := am_t7 0 rfl rfl
theorem wd_1441 : (Cond.methodLink "NumberedSparksModel" (327 : Nat) ({ cls := "NumberedSparksModel", name := "childOf", desc := "(II)I" } : MethodName)) ∈ am_ws := am_t7 1 rfl rfl
theorem wd_1443 : (Cond.instanceMethod ({ cls := "NumberedSparksModel", name := "childOf", desc := "(II)I" } : MethodName)) ∈ am_ws := am_t7 3 rfl rfl
theorem wd_1444 : (Cond.code ({ cls := "NumberedSparksModel", name := "childOf", desc := "(II)I" } : MethodName) prog_11_method_51_code (4 : Nat) (Option.some FieldType.int)) ∈ am_ws := am_t7 4 rfl rfl
theorem wd_1445 : (Cond.methodLink "NumberedSparksModel" (321 : Nat) ({ cls := "NumberedSparksModel", name := "generation", desc := "(I)I" } : MethodName)) ∈ am_ws := am_t7 5 rfl rfl
theorem wd_1446 : (Cond.static ({ cls := "NumberedSparksModel", name := "generation", desc := "(I)I" } : MethodName)) ∈ am_ws := am_t7 6 rfl rfl
theorem wd_1447 : (Cond.code ({ cls := "NumberedSparksModel", name := "generation", desc := "(I)I" } : MethodName) prog_11_method_48_code (1 : Nat) (Option.some FieldType.int)) ∈ am_ws := am_t7 7 rfl rfl
theorem wd_1448 : (Cond.methodLink "NumberedSparksModel" (324 : Nat) ({ cls := "NumberedSparksModel", name := "kindOf", desc := "(I)I" } : MethodName)) ∈ am_ws := am_t7 8 rfl rfl
theorem wd_1450 : (Cond.instanceMethod ({ cls := "NumberedSparksModel", name := "kindOf", desc := "(I)I" } : MethodName)) ∈ am_ws := am_t7 10 rfl rfl
theorem wd_1451 : (Cond.code ({ cls := "NumberedSparksModel", name := "kindOf", desc := "(I)I" } : MethodName) prog_11_method_50_code (5 : Nat) (Option.some FieldType.int)) ∈ am_ws := am_t7 11 rfl rfl
theorem wd_1452 : (Cond.methodLink "NumberedSparksLaw" (65 : Nat) ({ cls := "NumberedSparksModel", name := "parent", desc := "(I)I" } : MethodName)) ∈ am_ws := am_t7 12 rfl rfl
theorem wd_1453 : (Cond.instanceMethod ({ cls := "NumberedSparksModel", name := "parent", desc := "(I)I" } : MethodName)) ∈ am_ws := am_t7 13 rfl rfl
theorem wd_1454 : (Cond.selects "NumberedSparksModel" ({ cls := "NumberedSparksModel", name := "parent", desc := "(I)I" } : MethodName) ({ cls := "NumberedSparksModel", name := "parent", desc := "(I)I" } : MethodName)) ∈ am_ws := am_t7 14 rfl rfl
theorem wd_1455 : (Cond.code ({ cls := "NumberedSparksModel", name := "parent", desc := "(I)I" } : MethodName) prog_11_method_54_code (2 : Nat) (Option.some FieldType.int)) ∈ am_ws := am_t7 15 rfl rfl
theorem wd_1456 : (Cond.methodLink "NumberedSparksModel" (330 : Nat) ({ cls := "NumberedSparksModel", name := "parentOf", desc := "(I)I" } : MethodName)) ∈ am_ws := am_t7 16 rfl rfl
theorem wd_1457 : (Cond.static ({ cls := "NumberedSparksModel", name := "parentOf", desc := "(I)I" } : MethodName)) ∈ am_ws := am_t7 17 rfl rfl
theorem wd_1458 : (Cond.code ({ cls := "NumberedSparksModel", name := "parentOf", desc := "(I)I" } : MethodName) prog_11_method_53_code (1 : Nat) (Option.some FieldType.int)) ∈ am_ws := am_t7 18 rfl rfl
theorem wd_1459 : (Cond.methodLink "NumberedSparksLaw" (69 : Nat) ({ cls := "NumberedSparksModel", name := "spark", desc := "(II)I" } : MethodName)) ∈ am_ws := am_t7 19 rfl rfl
theorem wd_1460 : (Cond.instanceMethod ({ cls := "NumberedSparksModel", name := "spark", desc := "(II)I" } : MethodName)) ∈ am_ws := am_t7 20 rfl rfl
theorem wd_1461 : (Cond.selects "NumberedSparksModel" ({ cls := "NumberedSparksModel", name := "spark", desc := "(II)I" } : MethodName) ({ cls := "NumberedSparksModel", name := "spark", desc := "(II)I" } : MethodName)) ∈ am_ws := am_t7 21 rfl rfl
theorem wd_1462 : (Cond.code ({ cls := "NumberedSparksModel", name := "spark", desc := "(II)I" } : MethodName) prog_11_method_55_code (3 : Nat) (Option.some FieldType.int)) ∈ am_ws := am_t7 22 rfl rfl
theorem wd_1463 : (Cond.methodLink "NumberedSparksModel" (333 : Nat) ({ cls := "NumberedSparksModel", name := "lays", desc := "(I)V" } : MethodName)) ∈ am_ws := am_t7 23 rfl rfl
theorem wd_1465 : (Cond.instanceMethod ({ cls := "NumberedSparksModel", name := "lays", desc := "(I)V" } : MethodName)) ∈ am_ws := am_t7 25 rfl rfl
theorem wd_1466 : (Cond.code ({ cls := "NumberedSparksModel", name := "lays", desc := "(I)V" } : MethodName) prog_11_method_47_code (3 : Nat) (Option.none : Option FieldType)) ∈ am_ws := am_t7 26 rfl rfl
theorem wd_1467 : (Cond.methodLink "NumberedSparksModel" (312 : Nat) ({ cls := "NumberedSparksModel", name := "laysRoot", desc := "(I)V" } : MethodName)) ∈ am_ws := am_t7 27 rfl rfl
theorem wd_1469 : (Cond.instanceMethod ({ cls := "NumberedSparksModel", name := "laysRoot", desc := "(I)V" } : MethodName)) ∈ am_ws := am_t7 29 rfl rfl
theorem wd_1470 : (Cond.code ({ cls := "NumberedSparksModel", name := "laysRoot", desc := "(I)V" } : MethodName) prog_11_method_45_code (6 : Nat) (Option.none : Option FieldType)) ∈ am_ws := am_t7 30 rfl rfl
theorem wd_1471 : (Cond.methodLink "NumberedSparksModel" (295 : Nat) ({ cls := "NumberedSparksModel", name := "draw", desc := "(III)I" } : MethodName)) ∈ am_ws := am_t7 31 rfl rfl
theorem wd_1473 : (Cond.instanceMethod ({ cls := "NumberedSparksModel", name := "draw", desc := "(III)I" } : MethodName)) ∈ am_ws := am_t7 33 rfl rfl
theorem wd_1474 : (Cond.code ({ cls := "NumberedSparksModel", name := "draw", desc := "(III)I" } : MethodName) prog_11_method_34_code (4 : Nat) (Option.some FieldType.int)) ∈ am_ws := am_t7 34 rfl rfl
theorem wd_1475 : (Cond.methodLink "NumberedSparksModel" (305 : Nat) ({ cls := "NumberedSparksModel", name := "laysOne", desc := "(III)V" } : MethodName)) ∈ am_ws := am_t7 35 rfl rfl
theorem wd_1477 : (Cond.instanceMethod ({ cls := "NumberedSparksModel", name := "laysOne", desc := "(III)V" } : MethodName)) ∈ am_ws := am_t7 37 rfl rfl
theorem wd_1478 : (Cond.code ({ cls := "NumberedSparksModel", name := "laysOne", desc := "(III)V" } : MethodName) prog_11_method_44_code (7 : Nat) (Option.none : Option FieldType)) ∈ am_ws := am_t7 38 rfl rfl
theorem wd_1479 : (Cond.methodLink "NumberedSparksModel" (286 : Nat) ({ cls := "NumberedSparksModel", name := "edge", desc := "()I" } : MethodName)) ∈ am_ws := am_t7 39 rfl rfl
theorem wd_1481 : (Cond.instanceMethod ({ cls := "NumberedSparksModel", name := "edge", desc := "()I" } : MethodName)) ∈ am_ws := am_t7 41 rfl rfl
theorem wd_1482 : (Cond.code ({ cls := "NumberedSparksModel", name := "edge", desc := "()I" } : MethodName) prog_11_method_40_code (1 : Nat) (Option.some FieldType.int)) ∈ am_ws := am_t7 42 rfl rfl
theorem wd_1483 : (Cond.methodLink "NumberedSparksModel" (299 : Nat) ({ cls := "NumberedSparksModel", name := "isBeyond", desc := "(I)Z" } : MethodName)) ∈ am_ws := am_t7 43 rfl rfl
theorem wd_1485 : (Cond.instanceMethod ({ cls := "NumberedSparksModel", name := "isBeyond", desc := "(I)Z" } : MethodName)) ∈ am_ws := am_t7 45 rfl rfl
theorem wd_1486 : (Cond.code ({ cls := "NumberedSparksModel", name := "isBeyond", desc := "(I)Z" } : MethodName) prog_11_method_43_code (4 : Nat) (Option.some FieldType.boolean)) ∈ am_ws := am_t7 46 rfl rfl
theorem wd_1487 : (Cond.methodLink "NumberedSparksModel" (281 : Nat) ({ cls := "NumberedSparksModel", name := "raw", desc := "(II)I" } : MethodName)) ∈ am_ws := am_t7 47 rfl rfl
theorem wd_1489 : (Cond.instanceMethod ({ cls := "NumberedSparksModel", name := "raw", desc := "(II)I" } : MethodName)) ∈ am_ws := am_t7 49 rfl rfl
theorem wd_1490 : (Cond.code ({ cls := "NumberedSparksModel", name := "raw", desc := "(II)I" } : MethodName) prog_11_method_39_code (4 : Nat) (Option.some FieldType.int)) ∈ am_ws := am_t7 50 rfl rfl
theorem wd_1491 : (Cond.methodLink "NumberedSparksModel" (284 : Nat) ({ cls := "NumberedSparksModel", name := "world", desc := "(I)I" } : MethodName)) ∈ am_ws := am_t7 51 rfl rfl
theorem wd_1493 : (Cond.instanceMethod ({ cls := "NumberedSparksModel", name := "world", desc := "(I)I" } : MethodName)) ∈ am_ws := am_t7 53 rfl rfl
theorem wd_1494 : (Cond.code ({ cls := "NumberedSparksModel", name := "world", desc := "(I)I" } : MethodName) prog_11_method_41_code (2 : Nat) (Option.some FieldType.int)) ∈ am_ws := am_t7 54 rfl rfl
theorem wd_1495 : (Cond.methodLink "NumberedSparksModel" (315 : Nat) ({ cls := "NumberedSparksModel", name := "laysChild", desc := "(I)V" } : MethodName)) ∈ am_ws := am_t7 55 rfl rfl
theorem wd_1497 : (Cond.instanceMethod ({ cls := "NumberedSparksModel", name := "laysChild", desc := "(I)V" } : MethodName)) ∈ am_ws := am_t7 57 rfl rfl
theorem wd_1498 : (Cond.code ({ cls := "NumberedSparksModel", name := "laysChild", desc := "(I)V" } : MethodName) prog_11_method_46_code (3 : Nat) (Option.none : Option FieldType)) ∈ am_ws := am_t7 58 rfl rfl
theorem wd_1499 : (Cond.methodLink "NumberedSparksModel" (309 : Nat) ({ cls := "NumberedSparksModel", name := "placeBy", desc := "(II)I" } : MethodName)) ∈ am_ws := am_t7 59 rfl rfl
theorem wd_1501 : (Cond.instanceMethod ({ cls := "NumberedSparksModel", name := "placeBy", desc := "(II)I" } : MethodName)) ∈ am_ws := am_t7 61 rfl rfl
theorem wd_1502 : (Cond.code ({ cls := "NumberedSparksModel", name := "placeBy", desc := "(II)I" } : MethodName) prog_11_method_42_code (6 : Nat) (Option.some FieldType.int)) ∈ am_ws := am_t7 62 rfl rfl
theorem wd_1503 : (Cond.methodLink "NumberedSparksModel" (289 : Nat) ({ cls := "java/lang/Math", name := "floorMod", desc := "(II)I" } : MethodName)) ∈ am_ws := am_t7 63 rfl rfl
theorem wd_1504 : (Cond.methodLink "NumberedSparksLaw" (74 : Nat) ({ cls := "NumberedSparksModel", name := "place", desc := "(III)I" } : MethodName)) ∈ am_ws := am_t7 64 rfl rfl
theorem wd_1505 : (Cond.instanceMethod ({ cls := "NumberedSparksModel", name := "place", desc := "(III)I" } : MethodName)) ∈ am_ws := am_t7 65 rfl rfl
theorem wd_1506 : (Cond.selects "NumberedSparksModel" ({ cls := "NumberedSparksModel", name := "place", desc := "(III)I" } : MethodName) ({ cls := "NumberedSparksModel", name := "place", desc := "(III)I" } : MethodName)) ∈ am_ws := am_t7 66 rfl rfl
theorem wd_1507 : (Cond.code ({ cls := "NumberedSparksModel", name := "place", desc := "(III)I" } : MethodName) prog_11_method_57_code (4 : Nat) (Option.some FieldType.int)) ∈ am_ws := am_t7 67 rfl rfl
theorem wd_1508 : (Cond.methodLink "NumberedSparksModel" (338 : Nat) ({ cls := "NumberedSparksModel", name := "isTick", desc := "(I)Z" } : MethodName)) ∈ am_ws := am_t7 68 rfl rfl
theorem wd_1510 : (Cond.instanceMethod ({ cls := "NumberedSparksModel", name := "isTick", desc := "(I)Z" } : MethodName)) ∈ am_ws := am_t7 70 rfl rfl
theorem wd_1511 : (Cond.code ({ cls := "NumberedSparksModel", name := "isTick", desc := "(I)Z" } : MethodName) prog_11_method_56_code (2 : Nat) (Option.some FieldType.boolean)) ∈ am_ws := am_t7 71 rfl rfl
theorem wd_1512 : (Cond.constantLong "NumberedSparksModel" (336 : Nat) (30000 : Int64)) ∈ am_ws := am_t7 72 rfl rfl
theorem wd_1513 : (Cond.constantLong "NumberedSparksModel" (341 : Nat) (2 : Int64)) ∈ am_ws := am_t7 73 rfl rfl
theorem wd_1514 : (Cond.methodLink "NumberedSparksLaw" (78 : Nat) ({ cls := "NumberedSparksModel", name := "size", desc := "(II)I" } : MethodName)) ∈ am_ws := am_t7 74 rfl rfl
theorem wd_1515 : (Cond.instanceMethod ({ cls := "NumberedSparksModel", name := "size", desc := "(II)I" } : MethodName)) ∈ am_ws := am_t7 75 rfl rfl
theorem wd_1516 : (Cond.selects "NumberedSparksModel" ({ cls := "NumberedSparksModel", name := "size", desc := "(II)I" } : MethodName) ({ cls := "NumberedSparksModel", name := "size", desc := "(II)I" } : MethodName)) ∈ am_ws := am_t7 76 rfl rfl
theorem wd_1517 : (Cond.code ({ cls := "NumberedSparksModel", name := "size", desc := "(II)I" } : MethodName) prog_11_method_58_code (3 : Nat) (Option.some FieldType.int)) ∈ am_ws := am_t7 77 rfl rfl
theorem wd_1518 : (Cond.methodLink "NumberedSparksModel" (343 : Nat) ({ cls := "java/lang/Math", name := "max", desc := "(II)I" } : MethodName)) ∈ am_ws := am_t7 78 rfl rfl
theorem wd_1519 : (Cond.methodLink "NumberedSparksLaw" (82 : Nat) ({ cls := "NumberedSparksModel", name := "edges", desc := "(I)I" } : MethodName)) ∈ am_ws := am_t7 79 rfl rfl
theorem wd_1520 : (Cond.instanceMethod ({ cls := "NumberedSparksModel", name := "edges", desc := "(I)I" } : MethodName)) ∈ am_ws := am_t7 80 rfl rfl
theorem wd_1521 : (Cond.selects "NumberedSparksModel" ({ cls := "NumberedSparksModel", name := "edges", desc := "(I)I" } : MethodName) ({ cls := "NumberedSparksModel", name := "edges", desc := "(I)I" } : MethodName)) ∈ am_ws := am_t7 81 rfl rfl
theorem wd_1522 : (Cond.code ({ cls := "NumberedSparksModel", name := "edges", desc := "(I)I" } : MethodName) prog_11_method_60_code (4 : Nat) (Option.some FieldType.int)) ∈ am_ws := am_t7 82 rfl rfl
theorem wd_1523 : (Cond.methodLink "NumberedSparksModel" (352 : Nat) ({ cls := "NumberedSparksModel", name := "overAt", desc := "(I)I" } : MethodName)) ∈ am_ws := am_t7 83 rfl rfl
theorem wd_1525 : (Cond.instanceMethod ({ cls := "NumberedSparksModel", name := "overAt", desc := "(I)I" } : MethodName)) ∈ am_ws := am_t7 85 rfl rfl
theorem wd_1526 : (Cond.code ({ cls := "NumberedSparksModel", name := "overAt", desc := "(I)I" } : MethodName) prog_11_method_59_code (4 : Nat) (Option.some FieldType.int)) ∈ am_ws := am_t7 86 rfl rfl
theorem wd_1527 : (Cond.methodLink "NumberedSparksModel" (346 : Nat) ({ cls := "java/lang/Math", name := "floorDiv", desc := "(II)I" } : MethodName)) ∈ am_ws := am_t7 87 rfl rfl
theorem wd_1528 : (Cond.methodLink "NumberedSparksModel" (349 : Nat) ({ cls := "java/lang/Math", name := "abs", desc := "(I)I" } : MethodName)) ∈ am_ws := am_t7 88 rfl rfl
theorem wd_1529 : (Cond.methodLink "NumberedSparksLaw" (196 : Nat) ({ cls := "NumberedSparksModel", name := "over", desc := "(I)I" } : MethodName)) ∈ am_ws := am_t7 89 rfl rfl
theorem wd_1530 : (Cond.instanceMethod ({ cls := "NumberedSparksModel", name := "over", desc := "(I)I" } : MethodName)) ∈ am_ws := am_t7 90 rfl rfl
theorem wd_1531 : (Cond.selects "NumberedSparksModel" ({ cls := "NumberedSparksModel", name := "over", desc := "(I)I" } : MethodName) ({ cls := "NumberedSparksModel", name := "over", desc := "(I)I" } : MethodName)) ∈ am_ws := am_t7 91 rfl rfl
theorem wd_1532 : (Cond.code ({ cls := "NumberedSparksModel", name := "over", desc := "(I)I" } : MethodName) prog_11_method_61_code (3 : Nat) (Option.some FieldType.int)) ∈ am_ws := am_t7 92 rfl rfl
theorem wd_1533 : (Cond.methodLink "NumberedSparksLaw" (156 : Nat) ({ cls := "NumberedSparksModel", name := "cellsOf", desc := "(I)I" } : MethodName)) ∈ am_ws := am_t7 93 rfl rfl
theorem wd_1534 : (Cond.instanceMethod ({ cls := "NumberedSparksModel", name := "cellsOf", desc := "(I)I" } : MethodName)) ∈ am_ws := am_t7 94 rfl rfl
theorem wd_1535 : (Cond.selects "NumberedSparksModel" ({ cls := "NumberedSparksModel", name := "cellsOf", desc := "(I)I" } : MethodName) ({ cls := "NumberedSparksModel", name := "cellsOf", desc := "(I)I" } : MethodName)) ∈ am_ws := am_t7 95 rfl rfl
theorem wd_1536 : (Cond.code ({ cls := "NumberedSparksModel", name := "cellsOf", desc := "(I)I" } : MethodName) prog_11_method_63_code (6 : Nat) (Option.some FieldType.int)) ∈ am_ws := am_t7 96 rfl rfl
theorem wd_1537 : (Cond.methodLink "NumberedSparksModel" (355 : Nat) ({ cls := "NumberedSparksModel", name := "cellBy", desc := "(I)I" } : MethodName)) ∈ am_ws := am_t7 97 rfl rfl
theorem wd_1539 : (Cond.instanceMethod ({ cls := "NumberedSparksModel", name := "cellBy", desc := "(I)I" } : MethodName)) ∈ am_ws := am_t7 99 rfl rfl
theorem wd_1540 : (Cond.code ({ cls := "NumberedSparksModel", name := "cellBy", desc := "(I)I" } : MethodName) prog_11_method_62_code (2 : Nat) (Option.some FieldType.int)) ∈ am_ws := am_t7 100 rfl rfl
theorem wd_1541 : (Cond.methodLink "NumberedSparksLaw" (160 : Nat) ({ cls := "NumberedSparksModel", name := "meets", desc := "(II)I" } : MethodName)) ∈ am_ws := am_t7 101 rfl rfl
theorem wd_1542 : (Cond.instanceMethod ({ cls := "NumberedSparksModel", name := "meets", desc := "(II)I" } : MethodName)) ∈ am_ws := am_t7 102 rfl rfl
theorem wd_1543 : (Cond.selects "NumberedSparksModel" ({ cls := "NumberedSparksModel", name := "meets", desc := "(II)I" } : MethodName) ({ cls := "NumberedSparksModel", name := "meets", desc := "(II)I" } : MethodName)) ∈ am_ws := am_t7 103 rfl rfl
theorem wd_1544 : (Cond.code ({ cls := "NumberedSparksModel", name := "meets", desc := "(II)I" } : MethodName) prog_11_method_64_code (6 : Nat) (Option.some FieldType.int)) ∈ am_ws := am_t7 104 rfl rfl
theorem wd_1545 : (Cond.methodLink "NumberedSparksLaw" (192 : Nat) ({ cls := "NumberedSparksModel", name := "reach", desc := "(III)I" } : MethodName)) ∈ am_ws := am_t7 105 rfl rfl
theorem wd_1546 : (Cond.instanceMethod ({ cls := "NumberedSparksModel", name := "reach", desc := "(III)I" } : MethodName)) ∈ am_ws := am_t7 106 rfl rfl
theorem wd_1547 : (Cond.selects "NumberedSparksModel" ({ cls := "NumberedSparksModel", name := "reach", desc := "(III)I" } : MethodName) ({ cls := "NumberedSparksModel", name := "reach", desc := "(III)I" } : MethodName)) ∈ am_ws := am_t7 107 rfl rfl
theorem wd_1548 : (Cond.code ({ cls := "NumberedSparksModel", name := "reach", desc := "(III)I" } : MethodName) prog_11_method_65_code (6 : Nat) (Option.some FieldType.int)) ∈ am_ws := am_t7 108 rfl rfl
theorem wd_1549 : (Cond.methodLink "NumberedSparksLaw" (188 : Nat) ({ cls := "NumberedSparksModel", name := "kin", desc := "(II)I" } : MethodName)) ∈ am_ws := am_t7 109 rfl rfl
theorem wd_1550 : (Cond.instanceMethod ({ cls := "NumberedSparksModel", name := "kin", desc := "(II)I" } : MethodName)) ∈ am_ws := am_t7 110 rfl rfl
theorem wd_1551 : (Cond.selects "NumberedSparksModel" ({ cls := "NumberedSparksModel", name := "kin", desc := "(II)I" } : MethodName) ({ cls := "NumberedSparksModel", name := "kin", desc := "(II)I" } : MethodName)) ∈ am_ws := am_t7 111 rfl rfl
theorem wd_1552 : (Cond.code ({ cls := "NumberedSparksModel", name := "kin", desc := "(II)I" } : MethodName) prog_11_method_66_code (3 : Nat) (Option.some FieldType.int)) ∈ am_ws := am_t7 112 rfl rfl
theorem wd_1553 : (Cond.methodLink "NumberedSparksLaw" (136 : Nat) ({ cls := "NumberedSparksModel", name := "line", desc := "(II)I" } : MethodName)) ∈ am_ws := am_t7 113 rfl rfl
theorem wd_1554 : (Cond.instanceMethod ({ cls := "NumberedSparksModel", name := "line", desc := "(II)I" } : MethodName)) ∈ am_ws := am_t7 114 rfl rfl
theorem wd_1555 : (Cond.selects "NumberedSparksModel" ({ cls := "NumberedSparksModel", name := "line", desc := "(II)I" } : MethodName) ({ cls := "NumberedSparksModel", name := "line", desc := "(II)I" } : MethodName)) ∈ am_ws := am_t7 115 rfl rfl
theorem wd_1556 : (Cond.code ({ cls := "NumberedSparksModel", name := "line", desc := "(II)I" } : MethodName) prog_11_method_67_code (8 : Nat) (Option.some FieldType.int)) ∈ am_ws := am_t7 116 rfl rfl
theorem wd_1557 : (Cond.methodLink "NumberedSparksModel" (358 : Nat) ({ cls := "NumberedSparksModel", name := "isFrom", desc := "(II)Z" } : MethodName)) ∈ am_ws := am_t7 117 rfl rfl
theorem wd_1558 : (Cond.static ({ cls := "NumberedSparksModel", name := "isFrom", desc := "(II)Z" } : MethodName)) ∈ am_ws := am_t7 118 rfl rfl
theorem wd_1559 : (Cond.code ({ cls := "NumberedSparksModel", name := "isFrom", desc := "(II)Z" } : MethodName) prog_11_method_68_code (3 : Nat) (Option.some FieldType.boolean)) ∈ am_ws := am_t7 119 rfl rfl
theorem wd_1560 : (Cond.methodLink "NumberedSparksLaw" (94 : Nat) ({ cls := "NumberedSparksModel", name := "many", desc := "(II)I" } : MethodName)) ∈ am_ws := am_t7 120 rfl rfl
theorem wd_1561 : (Cond.instanceMethod ({ cls := "NumberedSparksModel", name := "many", desc := "(II)I" } : MethodName)) ∈ am_ws := am_t7 121 rfl rfl
theorem wd_1562 : (Cond.selects "NumberedSparksModel" ({ cls := "NumberedSparksModel", name := "many", desc := "(II)I" } : MethodName) ({ cls := "NumberedSparksModel", name := "many", desc := "(II)I" } : MethodName)) ∈ am_ws := am_t7 122 rfl rfl
theorem wd_1563 : (Cond.code ({ cls := "NumberedSparksModel", name := "many", desc := "(II)I" } : MethodName) prog_11_method_77_code (5 : Nat) (Option.some FieldType.int)) ∈ am_ws := am_t7 123 rfl rfl
theorem wd_1564 : (Cond.constantLong "NumberedSparksModel" (385 : Nat) (-1 : Int64)) ∈ am_ws := am_t7 124 rfl rfl
theorem wd_1565 : (Cond.methodLink "NumberedSparksModel" (377 : Nat) ({ cls := "NumberedSparksModel", name := "gathers", desc := "(I)V" } : MethodName)) ∈ am_ws := am_t7 125 rfl rfl
theorem wd_1567 : (Cond.instanceMethod ({ cls := "NumberedSparksModel", name := "gathers", desc := "(I)V" } : MethodName)) ∈ am_ws := am_t7 127 rfl rfl
theorem wd_1568 : (Cond.code ({ cls := "NumberedSparksModel", name := "gathers", desc := "(I)V" } : MethodName) prog_11_method_74_code (6 : Nat) (Option.none : Option FieldType)) ∈ am_ws := am_t7 128 rfl rfl
theorem wd_1569 : (Cond.methodLink "NumberedSparksModel" (367 : Nat) ({ cls := "NumberedSparksModel", name := "firstGroup", desc := "(II)I" } : MethodName)) ∈ am_ws := am_t7 129 rfl rfl
theorem wd_1571 : (Cond.instanceMethod ({ cls := "NumberedSparksModel", name := "firstGroup", desc := "(II)I" } : MethodName)) ∈ am_ws := am_t7 131 rfl rfl
theorem wd_1572 : (Cond.code ({ cls := "NumberedSparksModel", name := "firstGroup", desc := "(II)I" } : MethodName) prog_11_method_69_code (4 : Nat) (Option.some FieldType.int)) ∈ am_ws := am_t7 132 rfl rfl
theorem wd_1573 : (Cond.methodLink "NumberedSparksModel" (370 : Nat) ({ cls := "NumberedSparksModel", name := "isGroup", desc := "(III)Z" } : MethodName)) ∈ am_ws := am_t7 133 rfl rfl
theorem wd_1575 : (Cond.instanceMethod ({ cls := "NumberedSparksModel", name := "isGroup", desc := "(III)Z" } : MethodName)) ∈ am_ws := am_t7 135 rfl rfl
theorem wd_1576 : (Cond.code ({ cls := "NumberedSparksModel", name := "isGroup", desc := "(III)Z" } : MethodName) prog_11_method_70_code (4 : Nat) (Option.some FieldType.boolean)) ∈ am_ws := am_t7 136 rfl rfl
theorem wd_1577 : (Cond.methodLink "NumberedSparksModel" (374 : Nat) ({ cls := "NumberedSparksModel", name := "comesLine", desc := "(II)V" } : MethodName)) ∈ am_ws := am_t7 137 rfl rfl
theorem wd_1579 : (Cond.instanceMethod ({ cls := "NumberedSparksModel", name := "comesLine", desc := "(II)V" } : MethodName)) ∈ am_ws := am_t7 139 rfl rfl
theorem wd_1580 : (Cond.code ({ cls := "NumberedSparksModel", name := "comesLine", desc := "(II)V" } : MethodName) prog_11_method_72_code (4 : Nat) (Option.none : Option FieldType)) ∈ am_ws := am_t7 140 rfl rfl
theorem wd_1581 : (Cond.methodLink "NumberedSparksModel" (364 : Nat) ({ cls := "NumberedSparksModel", name := "comes", desc := "(II)V" } : MethodName)) ∈ am_ws := am_t7 141 rfl rfl
theorem wd_1583 : (Cond.instanceMethod ({ cls := "NumberedSparksModel", name := "comes", desc := "(II)V" } : MethodName)) ∈ am_ws := am_t7 143 rfl rfl
theorem wd_1584 : (Cond.code ({ cls := "NumberedSparksModel", name := "comes", desc := "(II)V" } : MethodName) prog_11_method_71_code (3 : Nat) (Option.none : Option FieldType)) ∈ am_ws := am_t7 144 rfl rfl
theorem wd_1585 : (Cond.methodLink "NumberedSparksModel" (387 : Nat) ({ cls := "NumberedSparksModel", name := "codeAt", desc := "(I)I" } : MethodName)) ∈ am_ws := am_t7 145 rfl rfl
theorem wd_1587 : (Cond.instanceMethod ({ cls := "NumberedSparksModel", name := "codeAt", desc := "(I)I" } : MethodName)) ∈ am_ws := am_t7 147 rfl rfl
theorem wd_1588 : (Cond.code ({ cls := "NumberedSparksModel", name := "codeAt", desc := "(I)I" } : MethodName) prog_11_method_76_code (2 : Nat) (Option.some FieldType.int)) ∈ am_ws := am_t7 148 rfl rfl
theorem wd_1589 : (Cond.constantLong "NumberedSparksModel" (383 : Nat) (2147483647 : Int64)) ∈ am_ws := am_t7 149 rfl rfl
theorem wd_1590 : (Cond.methodLink "NumberedSparksLaw" (98 : Nat) ({ cls := "NumberedSparksModel", name := "drawn", desc := "(II)I" } : MethodName)) ∈ am_ws := am_t7 150 rfl rfl
theorem wd_1591 : (Cond.instanceMethod ({ cls := "NumberedSparksModel", name := "drawn", desc := "(II)I" } : MethodName)) ∈ am_ws := am_t7 151 rfl rfl
theorem wd_1592 : (Cond.selects "NumberedSparksModel" ({ cls := "NumberedSparksModel", name := "drawn", desc := "(II)I" } : MethodName) ({ cls := "NumberedSparksModel", name := "drawn", desc := "(II)I" } : MethodName)) ∈ am_ws := am_t7 152 rfl rfl
theorem wd_1593 : (Cond.code ({ cls := "NumberedSparksModel", name := "drawn", desc := "(II)I" } : MethodName) prog_11_method_78_code (3 : Nat) (Option.some FieldType.int)) ∈ am_ws := am_t7 153 rfl rfl
theorem wd_1594 : (Cond.methodLink "NumberedSparksModel" (390 : Nat) ({ cls := "NumberedSparksModel", name := "laysFrame", desc := "(I)V" } : MethodName)) ∈ am_ws := am_t7 154 rfl rfl
theorem wd_1596 : (Cond.instanceMethod ({ cls := "NumberedSparksModel", name := "laysFrame", desc := "(I)V" } : MethodName)) ∈ am_ws := am_t7 156 rfl rfl
theorem wd_1597 : (Cond.code ({ cls := "NumberedSparksModel", name := "laysFrame", desc := "(I)V" } : MethodName) prog_11_method_75_code (2 : Nat) (Option.none : Option FieldType)) ∈ am_ws := am_t7 157 rfl rfl
theorem wd_1598 : (Cond.methodLink "NumberedSparksModel" (380 : Nat) ({ cls := "NumberedSparksModel", name := "sorts", desc := "()V" } : MethodName)) ∈ am_ws := am_t7 158 rfl rfl
theorem wd_1600 : (Cond.instanceMethod ({ cls := "NumberedSparksModel", name := "sorts", desc := "()V" } : MethodName)) ∈ am_ws := am_t7 160 rfl rfl
theorem wd_1601 : (Cond.code ({ cls := "NumberedSparksModel", name := "sorts", desc := "()V" } : MethodName) prog_11_method_73_code (6 : Nat) (Option.none : Option FieldType)) ∈ am_ws := am_t7 161 rfl rfl
theorem wd_1602 : (Cond.methodLink "NumberedSparksLaw" (103 : Nat) ({ cls := "NumberedSparksModel", name := "digest", desc := "(I)J" } : MethodName)) ∈ am_ws := am_t7 162 rfl rfl
theorem wd_1603 : (Cond.instanceMethod ({ cls := "NumberedSparksModel", name := "digest", desc := "(I)J" } : MethodName)) ∈ am_ws := am_t7 163 rfl rfl
theorem wd_1604 : (Cond.selects "NumberedSparksModel" ({ cls := "NumberedSparksModel", name := "digest", desc := "(I)J" } : MethodName) ({ cls := "NumberedSparksModel", name := "digest", desc := "(I)J" } : MethodName)) ∈ am_ws := am_t7 164 rfl rfl
theorem wd_1605 : (Cond.code ({ cls := "NumberedSparksModel", name := "digest", desc := "(I)J" } : MethodName) prog_11_method_80_code (6 : Nat) (Option.some FieldType.long)) ∈ am_ws := am_t7 165 rfl rfl
theorem wd_1606 : (Cond.constantLong "NumberedSparksModel" (393 : Nat) (17 : Int64)) ∈ am_ws := am_t7 166 rfl rfl
theorem wd_1607 : (Cond.constantLong "NumberedSparksModel" (395 : Nat) (31 : Int64)) ∈ am_ws := am_t7 167 rfl rfl
theorem wd_1608 : (Cond.methodLink "NumberedSparksLaw" (107 : Nat) ({ cls := "NumberedSparksModel", name := "inColumn", desc := "(III)I" } : MethodName)) ∈ am_ws := am_t7 168 rfl rfl
theorem wd_1609 : (Cond.instanceMethod ({ cls := "NumberedSparksModel", name := "inColumn", desc := "(III)I" } : MethodName)) ∈ am_ws := am_t7 169 rfl rfl
theorem wd_1610 : (Cond.selects "NumberedSparksModel" ({ cls := "NumberedSparksModel", name := "inColumn", desc := "(III)I" } : MethodName) ({ cls := "NumberedSparksModel", name := "inColumn", desc := "(III)I" } : MethodName)) ∈ am_ws := am_t7 170 rfl rfl
theorem wd_1611 : (Cond.code ({ cls := "NumberedSparksModel", name := "inColumn", desc := "(III)I" } : MethodName) prog_11_method_83_code (6 : Nat) (Option.some FieldType.int)) ∈ am_ws := am_t7 171 rfl rfl
theorem wd_1612 : (Cond.methodLink "NumberedSparksModel" (397 : Nat) ({ cls := "NumberedSparksModel", name := "isColumn", desc := "(II)Z" } : MethodName)) ∈ am_ws := am_t7 172 rfl rfl
theorem wd_1614 : (Cond.instanceMethod ({ cls := "NumberedSparksModel", name := "isColumn", desc := "(II)Z" } : MethodName)) ∈ am_ws := am_t7 174 rfl rfl
theorem wd_1615 : (Cond.code ({ cls := "NumberedSparksModel", name := "isColumn", desc := "(II)Z" } : MethodName) prog_11_method_81_code (3 : Nat) (Option.some FieldType.boolean)) ∈ am_ws := am_t7 175 rfl rfl
theorem wd_1616 : (Cond.methodLink "NumberedSparksModel" (400 : Nat) ({ cls := "NumberedSparksModel", name := "laysColumns", desc := "(I)V" } : MethodName)) ∈ am_ws := am_t7 176 rfl rfl
theorem wd_1618 : (Cond.instanceMethod ({ cls := "NumberedSparksModel", name := "laysColumns", desc := "(I)V" } : MethodName)) ∈ am_ws := am_t7 178 rfl rfl
theorem wd_1619 : (Cond.code ({ cls := "NumberedSparksModel", name := "laysColumns", desc := "(I)V" } : MethodName) prog_11_method_82_code (3 : Nat) (Option.none : Option FieldType)) ∈ am_ws := am_t7 179 rfl rfl
theorem wd_1620 : (Cond.methodLink "NumberedSparksLaw" (111 : Nat) ({ cls := "NumberedSparksModel", name := "top", desc := "(III)I" } : MethodName)) ∈ am_ws := am_t7 180 rfl rfl
theorem wd_1621 : (Cond.instanceMethod ({ cls := "NumberedSparksModel", name := "top", desc := "(III)I" } : MethodName)) ∈ am_ws := am_t7 181 rfl rfl
theorem wd_1622 : (Cond.selects "NumberedSparksModel" ({ cls := "NumberedSparksModel", name := "top", desc := "(III)I" } : MethodName) ({ cls := "NumberedSparksModel", name := "top", desc := "(III)I" } : MethodName)) ∈ am_ws := am_t7 182 rfl rfl
theorem wd_1623 : (Cond.code ({ cls := "NumberedSparksModel", name := "top", desc := "(III)I" } : MethodName) prog_11_method_85_code (5 : Nat) (Option.some FieldType.int)) ∈ am_ws := am_t7 183 rfl rfl
theorem wd_1624 : (Cond.methodLink "NumberedSparksModel" (403 : Nat) ({ cls := "NumberedSparksModel", name := "topOf", desc := "(II)I" } : MethodName)) ∈ am_ws := am_t7 184 rfl rfl
theorem wd_1626 : (Cond.instanceMethod ({ cls := "NumberedSparksModel", name := "topOf", desc := "(II)I" } : MethodName)) ∈ am_ws := am_t7 186 rfl rfl
theorem wd_1627 : (Cond.code ({ cls := "NumberedSparksModel", name := "topOf", desc := "(II)I" } : MethodName) prog_11_method_84_code (5 : Nat) (Option.some FieldType.int)) ∈ am_ws := am_t7 187 rfl rfl
theorem wd_1628 : (Cond.methodLink "NumberedSparksLaw" (115 : Nat) ({ cls := "NumberedSparksModel", name := "fullest", desc := "(II)I" } : MethodName)) ∈ am_ws := am_t7 188 rfl rfl
theorem wd_1629 : (Cond.instanceMethod ({ cls := "NumberedSparksModel", name := "fullest", desc := "(II)I" } : MethodName)) ∈ am_ws := am_t7 189 rfl rfl
theorem wd_1630 : (Cond.selects "NumberedSparksModel" ({ cls := "NumberedSparksModel", name := "fullest", desc := "(II)I" } : MethodName) ({ cls := "NumberedSparksModel", name := "fullest", desc := "(II)I" } : MethodName)) ∈ am_ws := am_t7 190 rfl rfl
theorem wd_1631 : (Cond.code ({ cls := "NumberedSparksModel", name := "fullest", desc := "(II)I" } : MethodName) prog_11_method_86_code (5 : Nat) (Option.some FieldType.int)) ∈ am_ws := am_t7 191 rfl rfl
theorem wd_1632 : (Cond.methodLink "NumberedSparksLaw" (120 : Nat) ({ cls := "NumberedSparksModel", name := "nearest", desc := "(IIII)I" } : MethodName)) ∈ am_ws := am_t7 192 rfl rfl
theorem wd_1633 : (Cond.instanceMethod ({ cls := "NumberedSparksModel", name := "nearest", desc := "(IIII)I" } : MethodName)) ∈ am_ws := am_t7 193 rfl rfl
theorem wd_1634 : (Cond.selects "NumberedSparksModel" ({ cls := "NumberedSparksModel", name := "nearest", desc := "(IIII)I" } : MethodName) ({ cls := "NumberedSparksModel", name := "nearest", desc := "(IIII)I" } : MethodName)) ∈ am_ws := am_t7 194 rfl rfl
theorem wd_1635 : (Cond.code ({ cls := "NumberedSparksModel", name := "nearest", desc := "(IIII)I" } : MethodName) prog_11_method_89_code (12 : Nat) (Option.some FieldType.int)) ∈ am_ws := am_t7 195 rfl rfl
theorem wd_1636 : (Cond.methodLink "NumberedSparksModel" (408 : Nat) ({ cls := "NumberedSparksModel", name := "isCell", desc := "(III)Z" } : MethodName)) ∈ am_ws := am_t7 196 rfl rfl
theorem wd_1638 : (Cond.instanceMethod ({ cls := "NumberedSparksModel", name := "isCell", desc := "(III)Z" } : MethodName)) ∈ am_ws := am_t7 198 rfl rfl
theorem wd_1639 : (Cond.code ({ cls := "NumberedSparksModel", name := "isCell", desc := "(III)Z" } : MethodName) prog_11_method_87_code (4 : Nat) (Option.some FieldType.boolean)) ∈ am_ws := am_t7 199 rfl rfl
theorem wd_1640 : (Cond.methodLink "NumberedSparksModel" (411 : Nat) ({ cls := "NumberedSparksModel", name := "squares", desc := "(IIIII)J" } : MethodName)) ∈ am_ws := am_t7 200 rfl rfl
theorem wd_1642 : (Cond.instanceMethod ({ cls := "NumberedSparksModel", name := "squares", desc := "(IIIII)J" } : MethodName)) ∈ am_ws := am_t7 202 rfl rfl
theorem wd_1643 : (Cond.code ({ cls := "NumberedSparksModel", name := "squares", desc := "(IIIII)J" } : MethodName) prog_11_method_88_code (12 : Nat) (Option.some FieldType.long)) ∈ am_ws := am_t7 203 rfl rfl
theorem wd_1644 : (Cond.constantLong "NumberedSparksModel" (406 : Nat) (8 : Int64)) ∈ am_ws := am_t7 204 rfl rfl
theorem wd_1645 : (Cond.methodLink "NumberedSparksLaw" (180 : Nat) ({ cls := "NumberedSparksModel", name := "within", desc := "(IIIII)I" } : MethodName)) ∈ am_ws := am_t7 205 rfl rfl
theorem wd_1646 : (Cond.instanceMethod ({ cls := "NumberedSparksModel", name := "within", desc := "(IIIII)I" } : MethodName)) ∈ am_ws := am_t7 206 rfl rfl
theorem wd_1647 : (Cond.selects "NumberedSparksModel" ({ cls := "NumberedSparksModel", name := "within", desc := "(IIIII)I" } : MethodName) ({ cls := "NumberedSparksModel", name := "within", desc := "(IIIII)I" } : MethodName)) ∈ am_ws := am_t7 207 rfl rfl
theorem wd_1648 : (Cond.code ({ cls := "NumberedSparksModel", name := "within", desc := "(IIIII)I" } : MethodName) prog_11_method_90_code (8 : Nat) (Option.some FieldType.int)) ∈ am_ws := am_t7 208 rfl rfl
theorem wd_1649 : (Cond.constantLong "NumberedSparksModel" (415 : Nat) (600 : Int64)) ∈ am_ws := am_t7 209 rfl rfl
theorem wd_1650 : (Cond.methodLink "NumberedSparksLaw" (124 : Nat) ({ cls := "NumberedSparksModel", name := "twos", desc := "(I)J" } : MethodName)) ∈ am_ws := am_t7 210 rfl rfl
theorem wd_1651 : (Cond.instanceMethod ({ cls := "NumberedSparksModel", name := "twos", desc := "(I)J" } : MethodName)) ∈ am_ws := am_t7 211 rfl rfl
theorem wd_1652 : (Cond.selects "NumberedSparksModel" ({ cls := "NumberedSparksModel", name := "twos", desc := "(I)J" } : MethodName) ({ cls := "NumberedSparksModel", name := "twos", desc := "(I)J" } : MethodName)) ∈ am_ws := am_t7 212 rfl rfl
theorem wd_1653 : (Cond.code ({ cls := "NumberedSparksModel", name := "twos", desc := "(I)J" } : MethodName) prog_11_method_92_code (5 : Nat) (Option.some FieldType.long)) ∈ am_ws := am_t7 213 rfl rfl
theorem wd_1654 : (Cond.constantLong "NumberedSparksModel" (420 : Nat) (-2 : Int64)) ∈ am_ws := am_t7 214 rfl rfl
theorem wd_1655 : (Cond.methodLink "NumberedSparksModel" (422 : Nat) ({ cls := "NumberedSparksModel", name := "laysHeaps", desc := "(I)V" } : MethodName)) ∈ am_ws := am_t7 215 rfl rfl
theorem wd_1657 : (Cond.instanceMethod ({ cls := "NumberedSparksModel", name := "laysHeaps", desc := "(I)V" } : MethodName)) ∈ am_ws := am_t7 217 rfl rfl
theorem wd_1658 : (Cond.code ({ cls := "NumberedSparksModel", name := "laysHeaps", desc := "(I)V" } : MethodName) prog_11_method_91_code (3 : Nat) (Option.none : Option FieldType)) ∈ am_ws := am_t7 218 rfl rfl
theorem wd_1659 : (Cond.methodLink "NumberedSparksModel" (417 : Nat) ({ cls := "NumberedSparksModel", name := "placeAt", desc := "(III)I" } : MethodName)) ∈ am_ws := am_t7 219 rfl rfl
theorem wd_1661 : (Cond.instanceMethod ({ cls := "NumberedSparksModel", name := "placeAt", desc := "(III)I" } : MethodName)) ∈ am_ws := am_t7 221 rfl rfl
theorem wd_1662 : (Cond.code ({ cls := "NumberedSparksModel", name := "placeAt", desc := "(III)I" } : MethodName) prog_11_method_79_code (4 : Nat) (Option.some FieldType.int)) ∈ am_ws := am_t7 222 rfl rfl
theorem wd_1663 : (Cond.methodLink "NumberedSparksLaw" (128 : Nat) ({ cls := "NumberedSparksModel", name := "firstIn", desc := "(III)I" } : MethodName)) ∈ am_ws := am_t7 223 rfl rfl
theorem wd_1664 : (Cond.instanceMethod ({ cls := "NumberedSparksModel", name := "firstIn", desc := "(III)I" } : MethodName)) ∈ am_ws := am_t7 224 rfl rfl
theorem wd_1665 : (Cond.selects "NumberedSparksModel" ({ cls := "NumberedSparksModel", name := "firstIn", desc := "(III)I" } : MethodName) ({ cls := "NumberedSparksModel", name := "firstIn", desc := "(III)I" } : MethodName)) ∈ am_ws := am_t7 225 rfl rfl
theorem wd_1666 : (Cond.code ({ cls := "NumberedSparksModel", name := "firstIn", desc := "(III)I" } : MethodName) prog_11_method_93_code (5 : Nat) (Option.some FieldType.int)) ∈ am_ws := am_t7 226 rfl rfl
theorem wd_1667 : (Cond.methodLink "NumberedSparksModel" (425 : Nat) ({ cls := "NumberedSparksModel", name := "inColumn", desc := "(III)I" } : MethodName)) ∈ am_ws := am_t7 227 rfl rfl
theorem wd_1668 : (Cond.methodLink "NumberedSparksLaw" (132 : Nat) ({ cls := "NumberedSparksModel", name := "peak", desc := "(III)I" } : MethodName)) ∈ am_ws := am_t7 228 rfl rfl
theorem wd_1669 : (Cond.instanceMethod ({ cls := "NumberedSparksModel", name := "peak", desc := "(III)I" } : MethodName)) ∈ am_ws := am_t7 229 rfl rfl
theorem wd_1670 : (Cond.selects "NumberedSparksModel" ({ cls := "NumberedSparksModel", name := "peak", desc := "(III)I" } : MethodName) ({ cls := "NumberedSparksModel", name := "peak", desc := "(III)I" } : MethodName)) ∈ am_ws := am_t7 230 rfl rfl
theorem wd_1671 : (Cond.code ({ cls := "NumberedSparksModel", name := "peak", desc := "(III)I" } : MethodName) prog_11_method_94_code (7 : Nat) (Option.some FieldType.int)) ∈ am_ws := am_t7 231 rfl rfl
theorem wd_1672 : (Cond.constantLong "NumberedSparksModel" (428 : Nat) (30001 : Int64)) ∈ am_ws := am_t7 232 rfl rfl
theorem wd_1673 : (Cond.constantLong "NumberedSparksModel" (430 : Nat) (60 : Int64)) ∈ am_ws := am_t7 233 rfl rfl
theorem wd_1674 : (Cond.methodLink "NumberedSparksLaw" (140 : Nat) ({ cls := "NumberedSparksModel", name := "box", desc := "(II)I" } : MethodName)) ∈ am_ws := am_t7 234 rfl rfl
theorem wd_1675 : (Cond.instanceMethod ({ cls := "NumberedSparksModel", name := "box", desc := "(II)I" } : MethodName)) ∈ am_ws := am_t7 235 rfl rfl
theorem wd_1676 : (Cond.selects "NumberedSparksModel" ({ cls := "NumberedSparksModel", name := "box", desc := "(II)I" } : MethodName) ({ cls := "NumberedSparksModel", name := "box", desc := "(II)I" } : MethodName)) ∈ am_ws := am_t7 236 rfl rfl
theorem wd_1677 : (Cond.code ({ cls := "NumberedSparksModel", name := "box", desc := "(II)I" } : MethodName) prog_11_method_95_code (6 : Nat) (Option.some FieldType.int)) ∈ am_ws := am_t7 237 rfl rfl
theorem wd_1678 : (Cond.constantLong "NumberedSparksModel" (432 : Nat) (5 : Int64)) ∈ am_ws := am_t7 238 rfl rfl
theorem wd_1679 : (Cond.methodLink "NumberedSparksLaw" (144 : Nat) ({ cls := "NumberedSparksModel", name := "middle", desc := "(II)I" } : MethodName)) ∈ am_ws := am_t7 239 rfl rfl
theorem wd_1680 : (Cond.instanceMethod ({ cls := "NumberedSparksModel", name := "middle", desc := "(II)I" } : MethodName)) ∈ am_ws := am_t8 0 rfl rfl
theorem wd_1681 : (Cond.selects "NumberedSparksModel" ({ cls := "NumberedSparksModel", name := "middle", desc := "(II)I" } : MethodName) ({ cls := "NumberedSparksModel", name := "middle", desc := "(II)I" } : MethodName)) ∈ am_ws := am_t8 1 rfl rfl
theorem wd_1682 : (Cond.code ({ cls := "NumberedSparksModel", name := "middle", desc := "(II)I" } : MethodName) prog_11_method_96_code (6 : Nat) (Option.some FieldType.int)) ∈ am_ws := am_t8 2 rfl rfl
theorem wd_1683 : (Cond.methodLink "NumberedSparksLaw" (176 : Nat) ({ cls := "NumberedSparksModel", name := "both", desc := "(II)I" } : MethodName)) ∈ am_ws := am_t8 3 rfl rfl
theorem wd_1684 : (Cond.instanceMethod ({ cls := "NumberedSparksModel", name := "both", desc := "(II)I" } : MethodName)) ∈ am_ws := am_t8 4 rfl rfl
theorem wd_1685 : (Cond.selects "NumberedSparksModel" ({ cls := "NumberedSparksModel", name := "both", desc := "(II)I" } : MethodName) ({ cls := "NumberedSparksModel", name := "both", desc := "(II)I" } : MethodName)) ∈ am_ws := am_t8 5 rfl rfl
theorem wd_1686 : (Cond.code ({ cls := "NumberedSparksModel", name := "both", desc := "(II)I" } : MethodName) prog_11_method_97_code (5 : Nat) (Option.some FieldType.int)) ∈ am_ws := am_t8 6 rfl rfl
theorem wd_1687 : (Cond.methodLink "NumberedSparksLaw" (184 : Nat) ({ cls := "NumberedSparksModel", name := "ofAge", desc := "(III)I" } : MethodName)) ∈ am_ws := am_t8 7 rfl rfl
theorem wd_1688 : (Cond.instanceMethod ({ cls := "NumberedSparksModel", name := "ofAge", desc := "(III)I" } : MethodName)) ∈ am_ws := am_t8 8 rfl rfl
theorem wd_1689 : (Cond.selects "NumberedSparksModel" ({ cls := "NumberedSparksModel", name := "ofAge", desc := "(III)I" } : MethodName) ({ cls := "NumberedSparksModel", name := "ofAge", desc := "(III)I" } : MethodName)) ∈ am_ws := am_t8 9 rfl rfl
theorem wd_1690 : (Cond.code ({ cls := "NumberedSparksModel", name := "ofAge", desc := "(III)I" } : MethodName) prog_11_method_98_code (10 : Nat) (Option.some FieldType.int)) ∈ am_ws := am_t8 10 rfl rfl
theorem wd_1691 : (Cond.methodLink "NumberedSparksLaw" (200 : Nat) ({ cls := "NumberedSparksModel", name := "flux", desc := "(IIII)I" } : MethodName)) ∈ am_ws := am_t8 11 rfl rfl
theorem wd_1692 : (Cond.instanceMethod ({ cls := "NumberedSparksModel", name := "flux", desc := "(IIII)I" } : MethodName)) ∈ am_ws := am_t8 12 rfl rfl
theorem wd_1693 : (Cond.selects "NumberedSparksModel" ({ cls := "NumberedSparksModel", name := "flux", desc := "(IIII)I" } : MethodName) ({ cls := "NumberedSparksModel", name := "flux", desc := "(IIII)I" } : MethodName)) ∈ am_ws := am_t8 13 rfl rfl
theorem wd_1694 : (Cond.code ({ cls := "NumberedSparksModel", name := "flux", desc := "(IIII)I" } : MethodName) prog_11_method_99_code (10 : Nat) (Option.some FieldType.int)) ∈ am_ws := am_t8 14 rfl rfl
theorem wd_1695 : (Cond.methodLink "NumberedSparksLaw" (216 : Nat) ({ cls := "NumberedSparksModel", name := "colours", desc := "(II)I" } : MethodName)) ∈ am_ws := am_t8 15 rfl rfl
theorem wd_1696 : (Cond.instanceMethod ({ cls := "NumberedSparksModel", name := "colours", desc := "(II)I" } : MethodName)) ∈ am_ws := am_t8 16 rfl rfl
theorem wd_1697 : (Cond.selects "NumberedSparksModel" ({ cls := "NumberedSparksModel", name := "colours", desc := "(II)I" } : MethodName) ({ cls := "NumberedSparksModel", name := "colours", desc := "(II)I" } : MethodName)) ∈ am_ws := am_t8 17 rfl rfl
theorem wd_1698 : (Cond.code ({ cls := "NumberedSparksModel", name := "colours", desc := "(II)I" } : MethodName) prog_11_method_100_code (5 : Nat) (Option.some FieldType.int)) ∈ am_ws := am_t8 18 rfl rfl
theorem wd_1699 : (Cond.methodLink "NumberedSparksLaw" (220 : Nat) ({ cls := "NumberedSparksModel", name := "columns", desc := "(I)I" } : MethodName)) ∈ am_ws := am_t8 19 rfl rfl
theorem wd_1700 : (Cond.instanceMethod ({ cls := "NumberedSparksModel", name := "columns", desc := "(I)I" } : MethodName)) ∈ am_ws := am_t8 20 rfl rfl
theorem wd_1701 : (Cond.selects "NumberedSparksModel" ({ cls := "NumberedSparksModel", name := "columns", desc := "(I)I" } : MethodName) ({ cls := "NumberedSparksModel", name := "columns", desc := "(I)I" } : MethodName)) ∈ am_ws := am_t8 21 rfl rfl
theorem wd_1702 : (Cond.code ({ cls := "NumberedSparksModel", name := "columns", desc := "(I)I" } : MethodName) prog_11_method_101_code (4 : Nat) (Option.some FieldType.int)) ∈ am_ws := am_t8 22 rfl rfl
theorem wd_1703 : (Cond.methodLink "NumberedSparksLaw" (224 : Nat) ({ cls := "NumberedSparksModel", name := "below", desc := "(IIII)I" } : MethodName)) ∈ am_ws := am_t8 23 rfl rfl
theorem wd_1704 : (Cond.instanceMethod ({ cls := "NumberedSparksModel", name := "below", desc := "(IIII)I" } : MethodName)) ∈ am_ws := am_t8 24 rfl rfl
theorem wd_1705 : (Cond.selects "NumberedSparksModel" ({ cls := "NumberedSparksModel", name := "below", desc := "(IIII)I" } : MethodName) ({ cls := "NumberedSparksModel", name := "below", desc := "(IIII)I" } : MethodName)) ∈ am_ws := am_t8 25 rfl rfl
theorem wd_1706 : (Cond.code ({ cls := "NumberedSparksModel", name := "below", desc := "(IIII)I" } : MethodName) prog_11_method_102_code (7 : Nat) (Option.some FieldType.int)) ∈ am_ws := am_t8 26 rfl rfl
theorem wd_1707 : (Cond.methodLink "NumberedSparksLaw" (236 : Nat) ({ cls := "NumberedSparksModel", name := "twins", desc := "(I)I" } : MethodName)) ∈ am_ws := am_t8 27 rfl rfl
theorem wd_1708 : (Cond.instanceMethod ({ cls := "NumberedSparksModel", name := "twins", desc := "(I)I" } : MethodName)) ∈ am_ws := am_t8 28 rfl rfl
theorem wd_1709 : (Cond.selects "NumberedSparksModel" ({ cls := "NumberedSparksModel", name := "twins", desc := "(I)I" } : MethodName) ({ cls := "NumberedSparksModel", name := "twins", desc := "(I)I" } : MethodName)) ∈ am_ws := am_t8 29 rfl rfl
theorem wd_1710 : (Cond.code ({ cls := "NumberedSparksModel", name := "twins", desc := "(I)I" } : MethodName) prog_11_method_103_code (8 : Nat) (Option.some FieldType.int)) ∈ am_ws := am_t8 30 rfl rfl
theorem wd_1711 : (Cond.methodLink "NumberedSparksLaw" (86 : Nat) ({ cls := "NumberedSparksModel", name := "births", desc := "(III)I" } : MethodName)) ∈ am_ws := am_t8 31 rfl rfl
theorem wd_1712 : (Cond.instanceMethod ({ cls := "NumberedSparksModel", name := "births", desc := "(III)I" } : MethodName)) ∈ am_ws := am_t8 32 rfl rfl
theorem wd_1713 : (Cond.selects "NumberedSparksModel" ({ cls := "NumberedSparksModel", name := "births", desc := "(III)I" } : MethodName) ({ cls := "NumberedSparksModel", name := "births", desc := "(III)I" } : MethodName)) ∈ am_ws := am_t8 33 rfl rfl
theorem wd_1714 : (Cond.code ({ cls := "NumberedSparksModel", name := "births", desc := "(III)I" } : MethodName) prog_11_method_106_code (6 : Nat) (Option.some FieldType.int)) ∈ am_ws := am_t8 34 rfl rfl
theorem wd_1715 : (Cond.methodLink "NumberedSparksModel" (434 : Nat) ({ cls := "NumberedSparksModel", name := "isSpan", desc := "(III)Z" } : MethodName)) ∈ am_ws := am_t8 35 rfl rfl
theorem wd_1717 : (Cond.instanceMethod ({ cls := "NumberedSparksModel", name := "isSpan", desc := "(III)Z" } : MethodName)) ∈ am_ws := am_t8 37 rfl rfl
theorem wd_1718 : (Cond.code ({ cls := "NumberedSparksModel", name := "isSpan", desc := "(III)Z" } : MethodName) prog_11_method_104_code (4 : Nat) (Option.some FieldType.boolean)) ∈ am_ws := am_t8 38 rfl rfl
theorem wd_1719 : (Cond.methodLink "NumberedSparksModel" (437 : Nat) ({ cls := "NumberedSparksModel", name := "bornOf", desc := "(I)I" } : MethodName)) ∈ am_ws := am_t8 39 rfl rfl
theorem wd_1721 : (Cond.instanceMethod ({ cls := "NumberedSparksModel", name := "bornOf", desc := "(I)I" } : MethodName)) ∈ am_ws := am_t8 41 rfl rfl
theorem wd_1722 : (Cond.code ({ cls := "NumberedSparksModel", name := "bornOf", desc := "(I)I" } : MethodName) prog_11_method_105_code (4 : Nat) (Option.some FieldType.int)) ∈ am_ws := am_t8 42 rfl rfl
theorem wd_1723 : (Cond.methodLink "NumberedSparksLaw" (90 : Nat) ({ cls := "NumberedSparksModel", name := "endings", desc := "(II)I" } : MethodName)) ∈ am_ws := am_t8 43 rfl rfl
theorem wd_1724 : (Cond.instanceMethod ({ cls := "NumberedSparksModel", name := "endings", desc := "(II)I" } : MethodName)) ∈ am_ws := am_t8 44 rfl rfl
theorem wd_1725 : (Cond.selects "NumberedSparksModel" ({ cls := "NumberedSparksModel", name := "endings", desc := "(II)I" } : MethodName) ({ cls := "NumberedSparksModel", name := "endings", desc := "(II)I" } : MethodName)) ∈ am_ws := am_t8 45 rfl rfl
theorem wd_1726 : (Cond.code ({ cls := "NumberedSparksModel", name := "endings", desc := "(II)I" } : MethodName) prog_11_method_107_code (8 : Nat) (Option.some FieldType.int)) ∈ am_ws := am_t8 46 rfl rfl
theorem wd_1727 : (Cond.methodLink "NumberedSparksModel" (440 : Nat) ({ cls := "NumberedSparksModel", name := "endingsOf", desc := "(III)I" } : MethodName)) ∈ am_ws := am_t8 47 rfl rfl
theorem wd_1729 : (Cond.instanceMethod ({ cls := "NumberedSparksModel", name := "endingsOf", desc := "(III)I" } : MethodName)) ∈ am_ws := am_t8 49 rfl rfl
theorem wd_1730 : (Cond.code ({ cls := "NumberedSparksModel", name := "endingsOf", desc := "(III)I" } : MethodName) prog_11_method_108_code (6 : Nat) (Option.some FieldType.int)) ∈ am_ws := am_t8 50 rfl rfl
theorem wd_1731 : (Cond.methodLink "NumberedSparksLaw" (164 : Nat) ({ cls := "NumberedSparksModel", name := "bornAs", desc := "(II)I" } : MethodName)) ∈ am_ws := am_t8 51 rfl rfl
theorem wd_1732 : (Cond.instanceMethod ({ cls := "NumberedSparksModel", name := "bornAs", desc := "(II)I" } : MethodName)) ∈ am_ws := am_t8 52 rfl rfl
theorem wd_1733 : (Cond.selects "NumberedSparksModel" ({ cls := "NumberedSparksModel", name := "bornAs", desc := "(II)I" } : MethodName) ({ cls := "NumberedSparksModel", name := "bornAs", desc := "(II)I" } : MethodName)) ∈ am_ws := am_t8 53 rfl rfl
theorem wd_1734 : (Cond.code ({ cls := "NumberedSparksModel", name := "bornAs", desc := "(II)I" } : MethodName) prog_11_method_111_code (6 : Nat) (Option.some FieldType.int)) ∈ am_ws := am_t8 54 rfl rfl
theorem wd_1735 : (Cond.methodLink "NumberedSparksModel" (446 : Nat) ({ cls := "NumberedSparksModel", name := "lastBirth", desc := "(I)I" } : MethodName)) ∈ am_ws := am_t8 55 rfl rfl
theorem wd_1737 : (Cond.instanceMethod ({ cls := "NumberedSparksModel", name := "lastBirth", desc := "(I)I" } : MethodName)) ∈ am_ws := am_t8 57 rfl rfl
theorem wd_1738 : (Cond.code ({ cls := "NumberedSparksModel", name := "lastBirth", desc := "(I)I" } : MethodName) prog_11_method_110_code (2 : Nat) (Option.some FieldType.int)) ∈ am_ws := am_t8 58 rfl rfl
theorem wd_1739 : (Cond.methodLink "NumberedSparksModel" (449 : Nat) ({ cls := "NumberedSparksModel", name := "bornIn", desc := "(IIIZ)I" } : MethodName)) ∈ am_ws := am_t8 59 rfl rfl
theorem wd_1741 : (Cond.instanceMethod ({ cls := "NumberedSparksModel", name := "bornIn", desc := "(IIIZ)I" } : MethodName)) ∈ am_ws := am_t8 61 rfl rfl
theorem wd_1742 : (Cond.code ({ cls := "NumberedSparksModel", name := "bornIn", desc := "(IIIZ)I" } : MethodName) prog_11_method_109_code (12 : Nat) (Option.some FieldType.int)) ∈ am_ws := am_t8 62 rfl rfl
theorem wd_1743 : (Cond.methodLink "NumberedSparksLaw" (168 : Nat) ({ cls := "NumberedSparksModel", name := "latest", desc := "(II)I" } : MethodName)) ∈ am_ws := am_t8 63 rfl rfl
theorem wd_1744 : (Cond.instanceMethod ({ cls := "NumberedSparksModel", name := "latest", desc := "(II)I" } : MethodName)) ∈ am_ws := am_t8 64 rfl rfl
theorem wd_1745 : (Cond.selects "NumberedSparksModel" ({ cls := "NumberedSparksModel", name := "latest", desc := "(II)I" } : MethodName) ({ cls := "NumberedSparksModel", name := "latest", desc := "(II)I" } : MethodName)) ∈ am_ws := am_t8 65 rfl rfl
theorem wd_1746 : (Cond.code ({ cls := "NumberedSparksModel", name := "latest", desc := "(II)I" } : MethodName) prog_11_method_112_code (5 : Nat) (Option.some FieldType.int)) ∈ am_ws := am_t8 66 rfl rfl
theorem wd_1747 : (Cond.methodLink "NumberedSparksLaw" (228 : Nat) ({ cls := "NumberedSparksModel", name := "next", desc := "(II)I" } : MethodName)) ∈ am_ws := am_t8 67 rfl rfl
theorem wd_1748 : (Cond.instanceMethod ({ cls := "NumberedSparksModel", name := "next", desc := "(II)I" } : MethodName)) ∈ am_ws := am_t8 68 rfl rfl
theorem wd_1749 : (Cond.selects "NumberedSparksModel" ({ cls := "NumberedSparksModel", name := "next", desc := "(II)I" } : MethodName) ({ cls := "NumberedSparksModel", name := "next", desc := "(II)I" } : MethodName)) ∈ am_ws := am_t8 69 rfl rfl
theorem wd_1750 : (Cond.code ({ cls := "NumberedSparksModel", name := "next", desc := "(II)I" } : MethodName) prog_11_method_113_code (4 : Nat) (Option.some FieldType.int)) ∈ am_ws := am_t8 70 rfl rfl
theorem wd_1751 : (Cond.methodLink "NumberedSparksLaw" (232 : Nat) ({ cls := "NumberedSparksModel", name := "lull", desc := "(IIII)I" } : MethodName)) ∈ am_ws := am_t8 71 rfl rfl
theorem wd_1752 : (Cond.instanceMethod ({ cls := "NumberedSparksModel", name := "lull", desc := "(IIII)I" } : MethodName)) ∈ am_ws := am_t8 72 rfl rfl
theorem wd_1753 : (Cond.selects "NumberedSparksModel" ({ cls := "NumberedSparksModel", name := "lull", desc := "(IIII)I" } : MethodName) ({ cls := "NumberedSparksModel", name := "lull", desc := "(IIII)I" } : MethodName)) ∈ am_ws := am_t8 73 rfl rfl
theorem wd_1754 : (Cond.code ({ cls := "NumberedSparksModel", name := "lull", desc := "(IIII)I" } : MethodName) prog_11_method_114_code (9 : Nat) (Option.some FieldType.int)) ∈ am_ws := am_t8 74 rfl rfl
theorem wd_1755 : (Cond.methodLink "NumberedSparksLaw" (148 : Nat) ({ cls := "NumberedSparksModel", name := "picture", desc := "(I)I" } : MethodName)) ∈ am_ws := am_t8 75 rfl rfl
theorem wd_1756 : (Cond.instanceMethod ({ cls := "NumberedSparksModel", name := "picture", desc := "(I)I" } : MethodName)) ∈ am_ws := am_t8 76 rfl rfl
theorem wd_1757 : (Cond.selects "NumberedSparksModel" ({ cls := "NumberedSparksModel", name := "picture", desc := "(I)I" } : MethodName) ({ cls := "NumberedSparksModel", name := "picture", desc := "(I)I" } : MethodName)) ∈ am_ws := am_t8 77 rfl rfl
theorem wd_1758 : (Cond.code ({ cls := "NumberedSparksModel", name := "picture", desc := "(I)I" } : MethodName) prog_11_method_117_code (5 : Nat) (Option.some FieldType.int)) ∈ am_ws := am_t8 78 rfl rfl
theorem wd_1759 : (Cond.methodLink "NumberedSparksModel" (453 : Nat) ({ cls := "NumberedSparksModel", name := "says", desc := "(I)V" } : MethodName)) ∈ am_ws := am_t8 79 rfl rfl
theorem wd_1761 : (Cond.instanceMethod ({ cls := "NumberedSparksModel", name := "says", desc := "(I)V" } : MethodName)) ∈ am_ws := am_t8 81 rfl rfl
theorem wd_1762 : (Cond.code ({ cls := "NumberedSparksModel", name := "says", desc := "(I)V" } : MethodName) prog_11_method_115_code (2 : Nat) (Option.none : Option FieldType)) ∈ am_ws := am_t8 82 rfl rfl
theorem wd_1763 : (Cond.methodLink "NumberedSparksLaw" (172 : Nat) ({ cls := "NumberedSparksModel", name := "layer", desc := "(II)I" } : MethodName)) ∈ am_ws := am_t8 83 rfl rfl
theorem wd_1764 : (Cond.instanceMethod ({ cls := "NumberedSparksModel", name := "layer", desc := "(II)I" } : MethodName)) ∈ am_ws := am_t8 84 rfl rfl
theorem wd_1765 : (Cond.selects "NumberedSparksModel" ({ cls := "NumberedSparksModel", name := "layer", desc := "(II)I" } : MethodName) ({ cls := "NumberedSparksModel", name := "layer", desc := "(II)I" } : MethodName)) ∈ am_ws := am_t8 85 rfl rfl
theorem wd_1766 : (Cond.code ({ cls := "NumberedSparksModel", name := "layer", desc := "(II)I" } : MethodName) prog_11_method_118_code (6 : Nat) (Option.some FieldType.int)) ∈ am_ws := am_t8 86 rfl rfl
theorem wd_1767 : (Cond.methodLink "NumberedSparksLaw" (212 : Nat) ({ cls := "NumberedSparksModel", name := "tell", desc := "(I)I" } : MethodName)) ∈ am_ws := am_t8 87 rfl rfl
theorem wd_1768 : (Cond.instanceMethod ({ cls := "NumberedSparksModel", name := "tell", desc := "(I)I" } : MethodName)) ∈ am_ws := am_t8 88 rfl rfl
theorem wd_1769 : (Cond.selects "NumberedSparksModel" ({ cls := "NumberedSparksModel", name := "tell", desc := "(I)I" } : MethodName) ({ cls := "NumberedSparksModel", name := "tell", desc := "(I)I" } : MethodName)) ∈ am_ws := am_t8 89 rfl rfl
theorem wd_1770 : (Cond.code ({ cls := "NumberedSparksModel", name := "tell", desc := "(I)I" } : MethodName) prog_11_method_119_code (3 : Nat) (Option.some FieldType.int)) ∈ am_ws := am_t8 90 rfl rfl
theorem wd_1771 : (Cond.methodLink "NumberedSparksModel" (456 : Nat) ({ cls := "NumberedSparksModel", name := "saysNumber", desc := "(I)V" } : MethodName)) ∈ am_ws := am_t8 91 rfl rfl
theorem wd_1773 : (Cond.instanceMethod ({ cls := "NumberedSparksModel", name := "saysNumber", desc := "(I)V" } : MethodName)) ∈ am_ws := am_t8 93 rfl rfl
theorem wd_1774 : (Cond.code ({ cls := "NumberedSparksModel", name := "saysNumber", desc := "(I)V" } : MethodName) prog_11_method_116_code (3 : Nat) (Option.none : Option FieldType)) ∈ am_ws := am_t8 94 rfl rfl
theorem wd_1775 : (Cond.methodLink "NumberedSparksLaw" (152 : Nat) ({ cls := "NumberedSparksModel", name := "octet", desc := "(I)I" } : MethodName)) ∈ am_ws := am_t8 95 rfl rfl
theorem wd_1776 : (Cond.instanceMethod ({ cls := "NumberedSparksModel", name := "octet", desc := "(I)I" } : MethodName)) ∈ am_ws := am_t8 96 rfl rfl
theorem wd_1777 : (Cond.selects "NumberedSparksModel" ({ cls := "NumberedSparksModel", name := "octet", desc := "(I)I" } : MethodName) ({ cls := "NumberedSparksModel", name := "octet", desc := "(I)I" } : MethodName)) ∈ am_ws := am_t8 97 rfl rfl
theorem wd_1778 : (Cond.code ({ cls := "NumberedSparksModel", name := "octet", desc := "(I)I" } : MethodName) prog_11_method_120_code (2 : Nat) (Option.some FieldType.int)) ∈ am_ws := am_t8 98 rfl rfl
theorem wd_1779 : (Cond.fieldLink "java/lang/String" (9 : Nat) "java/lang/String" "value" "[B") ∈ am_ws := am_t8 99 rfl rfl
theorem wd_1780 : (Cond.fieldLink "java/lang/String" (15 : Nat) "java/lang/String" "coder" "B") ∈ am_ws := am_t8 100 rfl rfl
theorem wp_0 : Cond.selects "NumberedSparks" ({ cls := "NumberedSparks", name := "putOnTape", desc := "(I)V" } : MethodName) ({ cls := "NumberedSparks", name := "putOnTape", desc := "(I)V" } : MethodName) ∈ am_ws := am_tp 0 rfl rfl
theorem wp_1 : Cond.selects "NumberedSparks$Reader" ({ cls := "NumberedSparks$Reader", name := "advance", desc := "()V" } : MethodName) ({ cls := "NumberedSparks$Reader", name := "advance", desc := "()V" } : MethodName) ∈ am_ws := am_tp 1 rfl rfl
theorem wp_2 : Cond.selects "NumberedSparks$Reader" ({ cls := "NumberedSparks$Reader", name := "byteAt", desc := "(I)I" } : MethodName) ({ cls := "NumberedSparks$Reader", name := "byteAt", desc := "(I)I" } : MethodName) ∈ am_ws := am_tp 2 rfl rfl
theorem wp_3 : Cond.selects "NumberedSparks$Reader" ({ cls := "NumberedSparks$Reader", name := "readWorld", desc := "()V" } : MethodName) ({ cls := "NumberedSparks$Reader", name := "readWorld", desc := "()V" } : MethodName) ∈ am_ws := am_tp 3 rfl rfl
theorem wp_4 : Cond.selects "NumberedSparks$Reader" ({ cls := "NumberedSparks$Reader", name := "needWord", desc := "(Ljava/lang/String;)V" } : MethodName) ({ cls := "NumberedSparks$Reader", name := "needWord", desc := "(Ljava/lang/String;)V" } : MethodName) ∈ am_ws := am_tp 4 rfl rfl
theorem wp_5 : Cond.selects "NumberedSparks$Reader" ({ cls := "NumberedSparks$Reader", name := "takeWord", desc := "(Ljava/lang/String;)Z" } : MethodName) ({ cls := "NumberedSparks$Reader", name := "takeWord", desc := "(Ljava/lang/String;)Z" } : MethodName) ∈ am_ws := am_tp 5 rfl rfl
theorem wp_6 : Cond.selects "NumberedSparks$Reader" ({ cls := "NumberedSparks$Reader", name := "isWord", desc := "(Ljava/lang/String;)Z" } : MethodName) ({ cls := "NumberedSparks$Reader", name := "isWord", desc := "(Ljava/lang/String;)Z" } : MethodName) ∈ am_ws := am_tp 6 rfl rfl
theorem wp_7 : Cond.selects "NumberedSparks$Reader" ({ cls := "NumberedSparks$Reader", name := "fail", desc := "(I)V" } : MethodName) ({ cls := "NumberedSparks$Reader", name := "fail", desc := "(I)V" } : MethodName) ∈ am_ws := am_tp 7 rfl rfl
theorem wp_8 : Cond.selects "NumberedSparks$Reader" ({ cls := "NumberedSparks$Reader", name := "needNumber", desc := "(II)I" } : MethodName) ({ cls := "NumberedSparks$Reader", name := "needNumber", desc := "(II)I" } : MethodName) ∈ am_ws := am_tp 8 rfl rfl
theorem wp_9 : Cond.selects "NumberedSparks$Reader" ({ cls := "NumberedSparks$Reader", name := "needSign", desc := "(C)V" } : MethodName) ({ cls := "NumberedSparks$Reader", name := "needSign", desc := "(C)V" } : MethodName) ∈ am_ws := am_tp 9 rfl rfl
theorem wp_10 : Cond.selects "NumberedSparks$Reader" ({ cls := "NumberedSparks$Reader", name := "readSeed", desc := "()V" } : MethodName) ({ cls := "NumberedSparks$Reader", name := "readSeed", desc := "()V" } : MethodName) ∈ am_ws := am_tp 10 rfl rfl
theorem wp_11 : Cond.selects "NumberedSparks$Reader" ({ cls := "NumberedSparks$Reader", name := "readKind", desc := "()V" } : MethodName) ({ cls := "NumberedSparks$Reader", name := "readKind", desc := "()V" } : MethodName) ∈ am_ws := am_tp 11 rfl rfl
theorem wp_12 : Cond.selects "NumberedSparks$Reader" ({ cls := "NumberedSparks$Reader", name := "numberBehind", desc := "(Ljava/lang/String;III)I" } : MethodName) ({ cls := "NumberedSparks$Reader", name := "numberBehind", desc := "(Ljava/lang/String;III)I" } : MethodName) ∈ am_ws := am_tp 12 rfl rfl
theorem wp_13 : Cond.selects "NumberedSparks$Reader" ({ cls := "NumberedSparks$Reader", name := "readFalls", desc := "()I" } : MethodName) ({ cls := "NumberedSparks$Reader", name := "readFalls", desc := "()I" } : MethodName) ∈ am_ws := am_tp 13 rfl rfl
theorem wp_14 : Cond.selects "NumberedSparks$Reader" ({ cls := "NumberedSparks$Reader", name := "readEdge", desc := "()I" } : MethodName) ({ cls := "NumberedSparks$Reader", name := "readEdge", desc := "()I" } : MethodName) ∈ am_ws := am_tp 14 rfl rfl
theorem wp_15 : Cond.selects "NumberedSparks$Reader" ({ cls := "NumberedSparks$Reader", name := "readSource", desc := "()V" } : MethodName) ({ cls := "NumberedSparks$Reader", name := "readSource", desc := "()V" } : MethodName) ∈ am_ws := am_tp 15 rfl rfl
theorem wp_16 : Cond.selects "NumberedSparks$Spark" ({ cls := "NumberedSparks$Spark", name := "ageBeyond", desc := "(II)I" } : MethodName) ({ cls := "NumberedSparks$Spark", name := "ageBeyond", desc := "(II)I" } : MethodName) ∈ am_ws := am_tp 16 rfl rfl
theorem wp_17 : Cond.selects "NumberedSparks$Spark" ({ cls := "NumberedSparks$Spark", name := "freePlace", desc := "(II)I" } : MethodName) ({ cls := "NumberedSparks$Spark", name := "freePlace", desc := "(II)I" } : MethodName) ∈ am_ws := am_tp 17 rfl rfl
theorem wp_18 : Cond.selects "NumberedSparks" ({ cls := "NumberedSparks", name := "isAmong", desc := "(II)Z" } : MethodName) ({ cls := "NumberedSparks", name := "isAmong", desc := "(II)Z" } : MethodName) ∈ am_ws := am_tp 18 rfl rfl
theorem wp_19 : Cond.selects "NumberedSparks$Walk" ({ cls := "NumberedSparks$Walk", name := "measureSpans", desc := "()V" } : MethodName) ({ cls := "NumberedSparks$Walk", name := "measureSpans", desc := "()V" } : MethodName) ∈ am_ws := am_tp 19 rfl rfl
theorem wp_20 : Cond.selects "NumberedSparks$Walk" ({ cls := "NumberedSparks$Walk", name := "spanBehind", desc := "(II)I" } : MethodName) ({ cls := "NumberedSparks$Walk", name := "spanBehind", desc := "(II)I" } : MethodName) ∈ am_ws := am_tp 20 rfl rfl
theorem wp_21 : Cond.selects "NumberedSparks$Walk" ({ cls := "NumberedSparks$Walk", name := "spanOf", desc := "(II)I" } : MethodName) ({ cls := "NumberedSparks$Walk", name := "spanOf", desc := "(II)I" } : MethodName) ∈ am_ws := am_tp 21 rfl rfl
theorem wp_22 : Cond.selects "NumberedSparks$Walk" ({ cls := "NumberedSparks$Walk", name := "sourceOfLeastRoot", desc := "()I" } : MethodName) ({ cls := "NumberedSparks$Walk", name := "sourceOfLeastRoot", desc := "()I" } : MethodName) ∈ am_ws := am_tp 22 rfl rfl
theorem wp_23 : Cond.selects "NumberedSparks$Walk" ({ cls := "NumberedSparks$Walk", name := "isOutside", desc := "(LNumberedSparks$Spark;)Z" } : MethodName) ({ cls := "NumberedSparks$Walk", name := "isOutside", desc := "(LNumberedSparks$Spark;)Z" } : MethodName) ∈ am_ws := am_tp 23 rfl rfl
theorem wp_24 : Cond.selects "NumberedSparks$Walk" ({ cls := "NumberedSparks$Walk", name := "show", desc := "(I)V" } : MethodName) ({ cls := "NumberedSparks$Walk", name := "show", desc := "(I)V" } : MethodName) ∈ am_ws := am_tp 24 rfl rfl
theorem wp_25 : Cond.selects "NumberedSparks$Walk" ({ cls := "NumberedSparks$Walk", name := "stepChild", desc := "(LNumberedSparks$Spark;II)V" } : MethodName) ({ cls := "NumberedSparks$Walk", name := "stepChild", desc := "(LNumberedSparks$Spark;II)V" } : MethodName) ∈ am_ws := am_tp 25 rfl rfl
theorem wp_26 : Cond.selects "NumberedSparks" ({ cls := "NumberedSparks", name := "isWindow", desc := "(II)Z" } : MethodName) ({ cls := "NumberedSparks", name := "isWindow", desc := "(II)Z" } : MethodName) ∈ am_ws := am_tp 26 rfl rfl
theorem wp_27 : Cond.selects "NumberedSparks" ({ cls := "NumberedSparks", name := "countComingAndGoing", desc := "(II)V" } : MethodName) ({ cls := "NumberedSparks", name := "countComingAndGoing", desc := "(II)V" } : MethodName) ∈ am_ws := am_tp 27 rfl rfl
theorem wp_28 : Cond.selects "NumberedSparks$Frame" ({ cls := "NumberedSparks$Frame", name := "append", desc := "(LNumberedSparks$Spark;I)V" } : MethodName) ({ cls := "NumberedSparks$Frame", name := "append", desc := "(LNumberedSparks$Spark;I)V" } : MethodName) ∈ am_ws := am_tp 28 rfl rfl
theorem wp_29 : Cond.selects "NumberedSparks$Frame" ({ cls := "NumberedSparks$Frame", name := "grow", desc := "()V" } : MethodName) ({ cls := "NumberedSparks$Frame", name := "grow", desc := "()V" } : MethodName) ∈ am_ws := am_tp 29 rfl rfl
theorem wp_30 : Cond.selects "NumberedSparks$Frame" ({ cls := "NumberedSparks$Frame", name := "putInOrder", desc := "()V" } : MethodName) ({ cls := "NumberedSparks$Frame", name := "putInOrder", desc := "()V" } : MethodName) ∈ am_ws := am_tp 30 rfl rfl
theorem wp_31 : Cond.selects "NumberedSparks$Frame" ({ cls := "NumberedSparks$Frame", name := "depthOf", desc := "(I)I" } : MethodName) ({ cls := "NumberedSparks$Frame", name := "depthOf", desc := "(I)I" } : MethodName) ∈ am_ws := am_tp 31 rfl rfl
theorem wp_32 : Cond.selects "NumberedSparks$Frame" ({ cls := "NumberedSparks$Frame", name := "forgetColumns", desc := "(II[I)V" } : MethodName) ({ cls := "NumberedSparks$Frame", name := "forgetColumns", desc := "(II[I)V" } : MethodName) ∈ am_ws := am_tp 32 rfl rfl
theorem wp_33 : Cond.selects "NumberedSparksModel" ({ cls := "NumberedSparksModel", name := "puts4", desc := "(I)V" } : MethodName) ({ cls := "NumberedSparksModel", name := "puts4", desc := "(I)V" } : MethodName) ∈ am_ws := am_tp 33 rfl rfl
theorem wp_34 : Cond.selects "NumberedSparksModel" ({ cls := "NumberedSparksModel", name := "advance", desc := "()V" } : MethodName) ({ cls := "NumberedSparksModel", name := "advance", desc := "()V" } : MethodName) ∈ am_ws := am_tp 34 rfl rfl
theorem wp_35 : Cond.selects "NumberedSparksModel" ({ cls := "NumberedSparksModel", name := "see", desc := "(I)I" } : MethodName) ({ cls := "NumberedSparksModel", name := "see", desc := "(I)I" } : MethodName) ∈ am_ws := am_tp 35 rfl rfl
theorem wp_36 : Cond.selects "NumberedSparksModel" ({ cls := "NumberedSparksModel", name := "errs", desc := "(II)V" } : MethodName) ({ cls := "NumberedSparksModel", name := "errs", desc := "(II)V" } : MethodName) ∈ am_ws := am_tp 36 rfl rfl
theorem wp_37 : Cond.selects "NumberedSparksModel" ({ cls := "NumberedSparksModel", name := "good", desc := "()Z" } : MethodName) ({ cls := "NumberedSparksModel", name := "good", desc := "()Z" } : MethodName) ∈ am_ws := am_tp 37 rfl rfl
theorem wp_38 : Cond.selects "NumberedSparksModel" ({ cls := "NumberedSparksModel", name := "readLine", desc := "(I)V" } : MethodName) ({ cls := "NumberedSparksModel", name := "readLine", desc := "(I)V" } : MethodName) ∈ am_ws := am_tp 38 rfl rfl
theorem wp_39 : Cond.selects "NumberedSparksModel" ({ cls := "NumberedSparksModel", name := "passes", desc := "(Ljava/lang/String;)V" } : MethodName) ({ cls := "NumberedSparksModel", name := "passes", desc := "(Ljava/lang/String;)V" } : MethodName) ∈ am_ws := am_tp 39 rfl rfl
theorem wp_40 : Cond.selects "NumberedSparksModel" ({ cls := "NumberedSparksModel", name := "takes", desc := "(Ljava/lang/String;)Z" } : MethodName) ({ cls := "NumberedSparksModel", name := "takes", desc := "(Ljava/lang/String;)Z" } : MethodName) ∈ am_ws := am_tp 40 rfl rfl
theorem wp_41 : Cond.selects "NumberedSparksModel" ({ cls := "NumberedSparksModel", name := "isWord", desc := "(Ljava/lang/String;)Z" } : MethodName) ({ cls := "NumberedSparksModel", name := "isWord", desc := "(Ljava/lang/String;)Z" } : MethodName) ∈ am_ws := am_tp 41 rfl rfl
theorem wp_42 : Cond.selects "NumberedSparksModel" ({ cls := "NumberedSparksModel", name := "number", desc := "(II)I" } : MethodName) ({ cls := "NumberedSparksModel", name := "number", desc := "(II)I" } : MethodName) ∈ am_ws := am_tp 42 rfl rfl
theorem wp_43 : Cond.selects "NumberedSparksModel" ({ cls := "NumberedSparksModel", name := "readSeed", desc := "()V" } : MethodName) ({ cls := "NumberedSparksModel", name := "readSeed", desc := "()V" } : MethodName) ∈ am_ws := am_tp 43 rfl rfl
theorem wp_44 : Cond.selects "NumberedSparksModel" ({ cls := "NumberedSparksModel", name := "readKind", desc := "()V" } : MethodName) ({ cls := "NumberedSparksModel", name := "readKind", desc := "()V" } : MethodName) ∈ am_ws := am_tp 44 rfl rfl
theorem wp_45 : Cond.selects "NumberedSparksModel" ({ cls := "NumberedSparksModel", name := "falls", desc := "()I" } : MethodName) ({ cls := "NumberedSparksModel", name := "falls", desc := "()I" } : MethodName) ∈ am_ws := am_tp 45 rfl rfl
theorem wp_46 : Cond.selects "NumberedSparksModel" ({ cls := "NumberedSparksModel", name := "readSource", desc := "()V" } : MethodName) ({ cls := "NumberedSparksModel", name := "readSource", desc := "()V" } : MethodName) ∈ am_ws := am_tp 46 rfl rfl
theorem wp_47 : Cond.selects "NumberedSparksModel" ({ cls := "NumberedSparksModel", name := "roots", desc := "(I)I" } : MethodName) ({ cls := "NumberedSparksModel", name := "roots", desc := "(I)I" } : MethodName) ∈ am_ws := am_tp 47 rfl rfl
theorem wp_48 : Cond.selects "NumberedSparksModel" ({ cls := "NumberedSparksModel", name := "groups", desc := "(I)I" } : MethodName) ({ cls := "NumberedSparksModel", name := "groups", desc := "(I)I" } : MethodName) ∈ am_ws := am_tp 48 rfl rfl
theorem wp_49 : Cond.selects "NumberedSparksModel" ({ cls := "NumberedSparksModel", name := "ofSource", desc := "(II)I" } : MethodName) ({ cls := "NumberedSparksModel", name := "ofSource", desc := "(II)I" } : MethodName) ∈ am_ws := am_tp 49 rfl rfl
theorem wp_50 : Cond.selects "NumberedSparksModel" ({ cls := "NumberedSparksModel", name := "keeps", desc := "(II)V" } : MethodName) ({ cls := "NumberedSparksModel", name := "keeps", desc := "(II)V" } : MethodName) ∈ am_ws := am_tp 50 rfl rfl
theorem wp_51 : Cond.selects "NumberedSparksModel" ({ cls := "NumberedSparksModel", name := "mixedOf", desc := "(II)J" } : MethodName) ({ cls := "NumberedSparksModel", name := "mixedOf", desc := "(II)J" } : MethodName) ∈ am_ws := am_tp 51 rfl rfl
theorem wp_52 : Cond.selects "NumberedSparksModel" ({ cls := "NumberedSparksModel", name := "isSpark", desc := "(I)Z" } : MethodName) ({ cls := "NumberedSparksModel", name := "isSpark", desc := "(I)Z" } : MethodName) ∈ am_ws := am_tp 52 rfl rfl
theorem wp_53 : Cond.selects "NumberedSparksModel" ({ cls := "NumberedSparksModel", name := "hasChild", desc := "(II)Z" } : MethodName) ({ cls := "NumberedSparksModel", name := "hasChild", desc := "(II)Z" } : MethodName) ∈ am_ws := am_tp 53 rfl rfl
theorem wp_54 : Cond.selects "NumberedSparksModel" ({ cls := "NumberedSparksModel", name := "childOf", desc := "(II)I" } : MethodName) ({ cls := "NumberedSparksModel", name := "childOf", desc := "(II)I" } : MethodName) ∈ am_ws := am_tp 54 rfl rfl
theorem wp_55 : Cond.selects "NumberedSparksModel" ({ cls := "NumberedSparksModel", name := "kindOf", desc := "(I)I" } : MethodName) ({ cls := "NumberedSparksModel", name := "kindOf", desc := "(I)I" } : MethodName) ∈ am_ws := am_tp 55 rfl rfl
theorem wp_56 : Cond.selects "NumberedSparksModel" ({ cls := "NumberedSparksModel", name := "lays", desc := "(I)V" } : MethodName) ({ cls := "NumberedSparksModel", name := "lays", desc := "(I)V" } : MethodName) ∈ am_ws := am_tp 56 rfl rfl
theorem wp_57 : Cond.selects "NumberedSparksModel" ({ cls := "NumberedSparksModel", name := "laysRoot", desc := "(I)V" } : MethodName) ({ cls := "NumberedSparksModel", name := "laysRoot", desc := "(I)V" } : MethodName) ∈ am_ws := am_tp 57 rfl rfl
theorem wp_58 : Cond.selects "NumberedSparksModel" ({ cls := "NumberedSparksModel", name := "draw", desc := "(III)I" } : MethodName) ({ cls := "NumberedSparksModel", name := "draw", desc := "(III)I" } : MethodName) ∈ am_ws := am_tp 58 rfl rfl
theorem wp_59 : Cond.selects "NumberedSparksModel" ({ cls := "NumberedSparksModel", name := "laysOne", desc := "(III)V" } : MethodName) ({ cls := "NumberedSparksModel", name := "laysOne", desc := "(III)V" } : MethodName) ∈ am_ws := am_tp 59 rfl rfl
theorem wp_60 : Cond.selects "NumberedSparksModel" ({ cls := "NumberedSparksModel", name := "edge", desc := "()I" } : MethodName) ({ cls := "NumberedSparksModel", name := "edge", desc := "()I" } : MethodName) ∈ am_ws := am_tp 60 rfl rfl
theorem wp_61 : Cond.selects "NumberedSparksModel" ({ cls := "NumberedSparksModel", name := "isBeyond", desc := "(I)Z" } : MethodName) ({ cls := "NumberedSparksModel", name := "isBeyond", desc := "(I)Z" } : MethodName) ∈ am_ws := am_tp 61 rfl rfl
theorem wp_62 : Cond.selects "NumberedSparksModel" ({ cls := "NumberedSparksModel", name := "raw", desc := "(II)I" } : MethodName) ({ cls := "NumberedSparksModel", name := "raw", desc := "(II)I" } : MethodName) ∈ am_ws := am_tp 62 rfl rfl
theorem wp_63 : Cond.selects "NumberedSparksModel" ({ cls := "NumberedSparksModel", name := "world", desc := "(I)I" } : MethodName) ({ cls := "NumberedSparksModel", name := "world", desc := "(I)I" } : MethodName) ∈ am_ws := am_tp 63 rfl rfl
theorem wp_64 : Cond.selects "NumberedSparksModel" ({ cls := "NumberedSparksModel", name := "laysChild", desc := "(I)V" } : MethodName) ({ cls := "NumberedSparksModel", name := "laysChild", desc := "(I)V" } : MethodName) ∈ am_ws := am_tp 64 rfl rfl
theorem wp_65 : Cond.selects "NumberedSparksModel" ({ cls := "NumberedSparksModel", name := "placeBy", desc := "(II)I" } : MethodName) ({ cls := "NumberedSparksModel", name := "placeBy", desc := "(II)I" } : MethodName) ∈ am_ws := am_tp 65 rfl rfl
theorem wp_66 : Cond.selects "NumberedSparksModel" ({ cls := "NumberedSparksModel", name := "isTick", desc := "(I)Z" } : MethodName) ({ cls := "NumberedSparksModel", name := "isTick", desc := "(I)Z" } : MethodName) ∈ am_ws := am_tp 66 rfl rfl
theorem wp_67 : Cond.selects "NumberedSparksModel" ({ cls := "NumberedSparksModel", name := "overAt", desc := "(I)I" } : MethodName) ({ cls := "NumberedSparksModel", name := "overAt", desc := "(I)I" } : MethodName) ∈ am_ws := am_tp 67 rfl rfl
theorem wp_68 : Cond.selects "NumberedSparksModel" ({ cls := "NumberedSparksModel", name := "cellBy", desc := "(I)I" } : MethodName) ({ cls := "NumberedSparksModel", name := "cellBy", desc := "(I)I" } : MethodName) ∈ am_ws := am_tp 68 rfl rfl
theorem wp_69 : Cond.selects "NumberedSparksModel" ({ cls := "NumberedSparksModel", name := "gathers", desc := "(I)V" } : MethodName) ({ cls := "NumberedSparksModel", name := "gathers", desc := "(I)V" } : MethodName) ∈ am_ws := am_tp 69 rfl rfl
theorem wp_70 : Cond.selects "NumberedSparksModel" ({ cls := "NumberedSparksModel", name := "firstGroup", desc := "(II)I" } : MethodName) ({ cls := "NumberedSparksModel", name := "firstGroup", desc := "(II)I" } : MethodName) ∈ am_ws := am_tp 70 rfl rfl
theorem wp_71 : Cond.selects "NumberedSparksModel" ({ cls := "NumberedSparksModel", name := "isGroup", desc := "(III)Z" } : MethodName) ({ cls := "NumberedSparksModel", name := "isGroup", desc := "(III)Z" } : MethodName) ∈ am_ws := am_tp 71 rfl rfl
theorem wp_72 : Cond.selects "NumberedSparksModel" ({ cls := "NumberedSparksModel", name := "comesLine", desc := "(II)V" } : MethodName) ({ cls := "NumberedSparksModel", name := "comesLine", desc := "(II)V" } : MethodName) ∈ am_ws := am_tp 72 rfl rfl
theorem wp_73 : Cond.selects "NumberedSparksModel" ({ cls := "NumberedSparksModel", name := "comes", desc := "(II)V" } : MethodName) ({ cls := "NumberedSparksModel", name := "comes", desc := "(II)V" } : MethodName) ∈ am_ws := am_tp 73 rfl rfl
theorem wp_74 : Cond.selects "NumberedSparksModel" ({ cls := "NumberedSparksModel", name := "codeAt", desc := "(I)I" } : MethodName) ({ cls := "NumberedSparksModel", name := "codeAt", desc := "(I)I" } : MethodName) ∈ am_ws := am_tp 74 rfl rfl
theorem wp_75 : Cond.selects "NumberedSparksModel" ({ cls := "NumberedSparksModel", name := "laysFrame", desc := "(I)V" } : MethodName) ({ cls := "NumberedSparksModel", name := "laysFrame", desc := "(I)V" } : MethodName) ∈ am_ws := am_tp 75 rfl rfl
theorem wp_76 : Cond.selects "NumberedSparksModel" ({ cls := "NumberedSparksModel", name := "sorts", desc := "()V" } : MethodName) ({ cls := "NumberedSparksModel", name := "sorts", desc := "()V" } : MethodName) ∈ am_ws := am_tp 76 rfl rfl
theorem wp_77 : Cond.selects "NumberedSparksModel" ({ cls := "NumberedSparksModel", name := "isColumn", desc := "(II)Z" } : MethodName) ({ cls := "NumberedSparksModel", name := "isColumn", desc := "(II)Z" } : MethodName) ∈ am_ws := am_tp 77 rfl rfl
theorem wp_78 : Cond.selects "NumberedSparksModel" ({ cls := "NumberedSparksModel", name := "laysColumns", desc := "(I)V" } : MethodName) ({ cls := "NumberedSparksModel", name := "laysColumns", desc := "(I)V" } : MethodName) ∈ am_ws := am_tp 78 rfl rfl
theorem wp_79 : Cond.selects "NumberedSparksModel" ({ cls := "NumberedSparksModel", name := "topOf", desc := "(II)I" } : MethodName) ({ cls := "NumberedSparksModel", name := "topOf", desc := "(II)I" } : MethodName) ∈ am_ws := am_tp 79 rfl rfl
theorem wp_80 : Cond.selects "NumberedSparksModel" ({ cls := "NumberedSparksModel", name := "isCell", desc := "(III)Z" } : MethodName) ({ cls := "NumberedSparksModel", name := "isCell", desc := "(III)Z" } : MethodName) ∈ am_ws := am_tp 80 rfl rfl
theorem wp_81 : Cond.selects "NumberedSparksModel" ({ cls := "NumberedSparksModel", name := "squares", desc := "(IIIII)J" } : MethodName) ({ cls := "NumberedSparksModel", name := "squares", desc := "(IIIII)J" } : MethodName) ∈ am_ws := am_tp 81 rfl rfl
theorem wp_82 : Cond.selects "NumberedSparksModel" ({ cls := "NumberedSparksModel", name := "laysHeaps", desc := "(I)V" } : MethodName) ({ cls := "NumberedSparksModel", name := "laysHeaps", desc := "(I)V" } : MethodName) ∈ am_ws := am_tp 82 rfl rfl
theorem wp_83 : Cond.selects "NumberedSparksModel" ({ cls := "NumberedSparksModel", name := "placeAt", desc := "(III)I" } : MethodName) ({ cls := "NumberedSparksModel", name := "placeAt", desc := "(III)I" } : MethodName) ∈ am_ws := am_tp 83 rfl rfl
theorem wp_84 : Cond.selects "NumberedSparksModel" ({ cls := "NumberedSparksModel", name := "isSpan", desc := "(III)Z" } : MethodName) ({ cls := "NumberedSparksModel", name := "isSpan", desc := "(III)Z" } : MethodName) ∈ am_ws := am_tp 84 rfl rfl
theorem wp_85 : Cond.selects "NumberedSparksModel" ({ cls := "NumberedSparksModel", name := "bornOf", desc := "(I)I" } : MethodName) ({ cls := "NumberedSparksModel", name := "bornOf", desc := "(I)I" } : MethodName) ∈ am_ws := am_tp 85 rfl rfl
theorem wp_86 : Cond.selects "NumberedSparksModel" ({ cls := "NumberedSparksModel", name := "endingsOf", desc := "(III)I" } : MethodName) ({ cls := "NumberedSparksModel", name := "endingsOf", desc := "(III)I" } : MethodName) ∈ am_ws := am_tp 86 rfl rfl
theorem wp_87 : Cond.selects "NumberedSparksModel" ({ cls := "NumberedSparksModel", name := "lastBirth", desc := "(I)I" } : MethodName) ({ cls := "NumberedSparksModel", name := "lastBirth", desc := "(I)I" } : MethodName) ∈ am_ws := am_tp 87 rfl rfl
theorem wp_88 : Cond.selects "NumberedSparksModel" ({ cls := "NumberedSparksModel", name := "bornIn", desc := "(IIIZ)I" } : MethodName) ({ cls := "NumberedSparksModel", name := "bornIn", desc := "(IIIZ)I" } : MethodName) ∈ am_ws := am_tp 88 rfl rfl
theorem wp_89 : Cond.selects "NumberedSparksModel" ({ cls := "NumberedSparksModel", name := "says", desc := "(I)V" } : MethodName) ({ cls := "NumberedSparksModel", name := "says", desc := "(I)V" } : MethodName) ∈ am_ws := am_tp 89 rfl rfl
theorem wp_90 : Cond.selects "NumberedSparksModel" ({ cls := "NumberedSparksModel", name := "saysNumber", desc := "(I)V" } : MethodName) ({ cls := "NumberedSparksModel", name := "saysNumber", desc := "(I)V" } : MethodName) ∈ am_ws := am_tp 90 rfl rfl
theorem am_u0 : ∀ w ∈ u_ws RX0 TX0 4, w ∈ am_ws := List.forall_mem_cons.mpr ⟨am_t2 59 rfl rfl, List.forall_mem_cons.mpr ⟨am_t2 61 rfl rfl, List.forall_mem_cons.mpr ⟨am_t2 63 rfl rfl, List.forall_mem_cons.mpr ⟨am_t2 65 rfl rfl, fun _ h => absurd h List.not_mem_nil⟩⟩⟩⟩
theorem am_c0 : am_Cl 0 RX0 TX0 4 tyX0 := ⟨rfl, tyX0_ok, nmX0, am_u0, rfl, by decide +kernel, by decide +kernel⟩
theorem am_u1 : ∀ w ∈ u_ws RX1 TX1 13, w ∈ am_ws := List.forall_mem_cons.mpr ⟨am_t2 20 rfl rfl, List.forall_mem_cons.mpr ⟨am_t2 22 rfl rfl, List.forall_mem_cons.mpr ⟨am_t2 24 rfl rfl, List.forall_mem_cons.mpr ⟨am_t2 26 rfl rfl, List.forall_mem_cons.mpr ⟨am_t2 28 rfl rfl, List.forall_mem_cons.mpr ⟨am_t2 30 rfl rfl, List.forall_mem_cons.mpr ⟨am_t2 32 rfl rfl, List.forall_mem_cons.mpr ⟨am_t2 34 rfl rfl, List.forall_mem_cons.mpr ⟨am_t2 36 rfl rfl, List.forall_mem_cons.mpr ⟨am_t2 38 rfl rfl, List.forall_mem_cons.mpr ⟨am_t2 40 rfl rfl, List.forall_mem_cons.mpr ⟨am_t2 42 rfl rfl, List.forall_mem_cons.mpr ⟨am_t2 44 rfl rfl, fun _ h => absurd h List.not_mem_nil⟩⟩⟩⟩⟩⟩⟩⟩⟩⟩⟩⟩⟩
theorem am_c1 : am_Cl 1 RX1 TX1 13 tyX1 := ⟨rfl, tyX1_ok, nmX1, am_u1, rfl, by decide +kernel, by decide +kernel⟩
theorem am_u2 : ∀ w ∈ u_ws RX2 TX2 4, w ∈ am_ws := List.forall_mem_cons.mpr ⟨am_t1 120 rfl rfl, List.forall_mem_cons.mpr ⟨am_t1 122 rfl rfl, List.forall_mem_cons.mpr ⟨am_t1 124 rfl rfl, List.forall_mem_cons.mpr ⟨am_t1 126 rfl rfl, fun _ h => absurd h List.not_mem_nil⟩⟩⟩⟩
theorem am_c2 : am_Cl 2 RX2 TX2 4 tyX2 := ⟨rfl, tyX2_ok, nmX2, am_u2, rfl, by decide +kernel, by decide +kernel⟩
theorem am_u3 : ∀ w ∈ u_ws RX3 TX3 2, w ∈ am_ws := List.forall_mem_cons.mpr ⟨am_t1 138 rfl rfl, List.forall_mem_cons.mpr ⟨am_t1 140 rfl rfl, fun _ h => absurd h List.not_mem_nil⟩⟩
theorem am_c3 : am_Cl 3 RX3 TX3 2 tyX3 := ⟨rfl, tyX3_ok, nmX3, am_u3, rfl, by decide +kernel, by decide +kernel⟩
theorem am_u4 : ∀ w ∈ u_ws RX4 TX4 9, w ∈ am_ws := List.forall_mem_cons.mpr ⟨am_t1 90 rfl rfl, List.forall_mem_cons.mpr ⟨am_t1 92 rfl rfl, List.forall_mem_cons.mpr ⟨am_t1 94 rfl rfl, List.forall_mem_cons.mpr ⟨am_t1 96 rfl rfl, List.forall_mem_cons.mpr ⟨am_t1 98 rfl rfl, List.forall_mem_cons.mpr ⟨am_t1 100 rfl rfl, List.forall_mem_cons.mpr ⟨am_t1 102 rfl rfl, List.forall_mem_cons.mpr ⟨am_t1 104 rfl rfl, List.forall_mem_cons.mpr ⟨am_t1 106 rfl rfl, fun _ h => absurd h List.not_mem_nil⟩⟩⟩⟩⟩⟩⟩⟩⟩
theorem am_c4 : am_Cl 4 RX4 TX4 9 tyX4 := ⟨rfl, tyX4_ok, nmX4, am_u4, rfl, by decide +kernel, by decide +kernel⟩
theorem am_u5 : ∀ w ∈ u_ws RX5 TX5 8, w ∈ am_ws := List.forall_mem_cons.mpr ⟨am_t1 52 rfl rfl, List.forall_mem_cons.mpr ⟨am_t1 54 rfl rfl, List.forall_mem_cons.mpr ⟨am_t1 56 rfl rfl, List.forall_mem_cons.mpr ⟨am_t1 58 rfl rfl, List.forall_mem_cons.mpr ⟨am_t1 60 rfl rfl, List.forall_mem_cons.mpr ⟨am_t1 62 rfl rfl, List.forall_mem_cons.mpr ⟨am_t1 64 rfl rfl, List.forall_mem_cons.mpr ⟨am_t1 66 rfl rfl, fun _ h => absurd h List.not_mem_nil⟩⟩⟩⟩⟩⟩⟩⟩
theorem am_c5 : am_Cl 5 RX5 TX5 8 tyX5 := ⟨rfl, tyX5_ok, nmX5, am_u5, rfl, by decide +kernel, by decide +kernel⟩
theorem am_u6 : ∀ w ∈ u_ws RX6 TX6 10, w ∈ am_ws := List.forall_mem_cons.mpr ⟨am_t1 181 rfl rfl, List.forall_mem_cons.mpr ⟨am_t1 183 rfl rfl, List.forall_mem_cons.mpr ⟨am_t1 185 rfl rfl, List.forall_mem_cons.mpr ⟨am_t1 187 rfl rfl, List.forall_mem_cons.mpr ⟨am_t1 189 rfl rfl, List.forall_mem_cons.mpr ⟨am_t1 191 rfl rfl, List.forall_mem_cons.mpr ⟨am_t1 193 rfl rfl, List.forall_mem_cons.mpr ⟨am_t1 195 rfl rfl, List.forall_mem_cons.mpr ⟨am_t1 197 rfl rfl, List.forall_mem_cons.mpr ⟨am_t1 199 rfl rfl, fun _ h => absurd h List.not_mem_nil⟩⟩⟩⟩⟩⟩⟩⟩⟩⟩
theorem am_c6 : am_Cl 6 RX6 TX6 10 tyX6 := ⟨rfl, tyX6_ok, nmX6, am_u6, rfl, by decide +kernel, by decide +kernel⟩
theorem am_u7 : ∀ w ∈ u_ws RX7 TX7 9, w ∈ am_ws := List.forall_mem_cons.mpr ⟨am_t1 213 rfl rfl, List.forall_mem_cons.mpr ⟨am_t1 215 rfl rfl, List.forall_mem_cons.mpr ⟨am_t1 217 rfl rfl, List.forall_mem_cons.mpr ⟨am_t1 219 rfl rfl, List.forall_mem_cons.mpr ⟨am_t1 221 rfl rfl, List.forall_mem_cons.mpr ⟨am_t1 223 rfl rfl, List.forall_mem_cons.mpr ⟨am_t1 225 rfl rfl, List.forall_mem_cons.mpr ⟨am_t1 227 rfl rfl, List.forall_mem_cons.mpr ⟨am_t1 229 rfl rfl, fun _ h => absurd h List.not_mem_nil⟩⟩⟩⟩⟩⟩⟩⟩⟩
theorem am_c7 : am_Cl 7 RX7 TX7 9 tyX7 := ⟨rfl, tyX7_ok, nmX7, am_u7, rfl, by decide +kernel, by decide +kernel⟩
theorem am_u8 : ∀ w ∈ u_ws RX8 TX8 11, w ∈ am_ws := List.forall_mem_cons.mpr ⟨am_t2 79 rfl rfl, List.forall_mem_cons.mpr ⟨am_t2 81 rfl rfl, List.forall_mem_cons.mpr ⟨am_t2 83 rfl rfl, List.forall_mem_cons.mpr ⟨am_t2 85 rfl rfl, List.forall_mem_cons.mpr ⟨am_t2 87 rfl rfl, List.forall_mem_cons.mpr ⟨am_t2 89 rfl rfl, List.forall_mem_cons.mpr ⟨am_t2 91 rfl rfl, List.forall_mem_cons.mpr ⟨am_t2 93 rfl rfl, List.forall_mem_cons.mpr ⟨am_t2 95 rfl rfl, List.forall_mem_cons.mpr ⟨am_t2 97 rfl rfl, List.forall_mem_cons.mpr ⟨am_t2 99 rfl rfl, fun _ h => absurd h List.not_mem_nil⟩⟩⟩⟩⟩⟩⟩⟩⟩⟩⟩
theorem am_c8 : am_Cl 8 RX8 TX8 11 tyX8 := ⟨rfl, tyX8_ok, nmX8, am_u8, rfl, by decide +kernel, by decide +kernel⟩
theorem am_u9 : ∀ w ∈ u_ws RX9 TX9 42, w ∈ am_ws := List.forall_mem_cons.mpr ⟨am_t5 213 rfl rfl, List.forall_mem_cons.mpr ⟨am_t5 215 rfl rfl, List.forall_mem_cons.mpr ⟨am_t5 217 rfl rfl, List.forall_mem_cons.mpr ⟨am_t5 219 rfl rfl, List.forall_mem_cons.mpr ⟨am_t5 221 rfl rfl, List.forall_mem_cons.mpr ⟨am_t5 223 rfl rfl, List.forall_mem_cons.mpr ⟨am_t5 225 rfl rfl, List.forall_mem_cons.mpr ⟨am_t5 227 rfl rfl, List.forall_mem_cons.mpr ⟨am_t5 229 rfl rfl, List.forall_mem_cons.mpr ⟨am_t5 231 rfl rfl, List.forall_mem_cons.mpr ⟨am_t5 233 rfl rfl, List.forall_mem_cons.mpr ⟨am_t5 235 rfl rfl, List.forall_mem_cons.mpr ⟨am_t5 237 rfl rfl, List.forall_mem_cons.mpr ⟨am_t5 239 rfl rfl, List.forall_mem_cons.mpr ⟨am_t6 1 rfl rfl, List.forall_mem_cons.mpr ⟨am_t6 3 rfl rfl, List.forall_mem_cons.mpr ⟨am_t6 5 rfl rfl, List.forall_mem_cons.mpr ⟨am_t6 7 rfl rfl, List.forall_mem_cons.mpr ⟨am_t6 9 rfl rfl, List.forall_mem_cons.mpr ⟨am_t6 11 rfl rfl, List.forall_mem_cons.mpr ⟨am_t6 13 rfl rfl, List.forall_mem_cons.mpr ⟨am_t6 15 rfl rfl, List.forall_mem_cons.mpr ⟨am_t6 17 rfl rfl, List.forall_mem_cons.mpr ⟨am_t6 19 rfl rfl, List.forall_mem_cons.mpr ⟨am_t6 21 rfl rfl, List.forall_mem_cons.mpr ⟨am_t6 23 rfl rfl, List.forall_mem_cons.mpr ⟨am_t6 25 rfl rfl, List.forall_mem_cons.mpr ⟨am_t6 27 rfl rfl, List.forall_mem_cons.mpr ⟨am_t6 29 rfl rfl, List.forall_mem_cons.mpr ⟨am_t6 31 rfl rfl, List.forall_mem_cons.mpr ⟨am_t6 33 rfl rfl, List.forall_mem_cons.mpr ⟨am_t6 35 rfl rfl, List.forall_mem_cons.mpr ⟨am_t6 37 rfl rfl, List.forall_mem_cons.mpr ⟨am_t6 39 rfl rfl, List.forall_mem_cons.mpr ⟨am_t6 41 rfl rfl, List.forall_mem_cons.mpr ⟨am_t6 43 rfl rfl, List.forall_mem_cons.mpr ⟨am_t6 45 rfl rfl, List.forall_mem_cons.mpr ⟨am_t6 47 rfl rfl, List.forall_mem_cons.mpr ⟨am_t6 49 rfl rfl, List.forall_mem_cons.mpr ⟨am_t6 51 rfl rfl, List.forall_mem_cons.mpr ⟨am_t6 53 rfl rfl, List.forall_mem_cons.mpr ⟨am_t6 55 rfl rfl, fun _ h => absurd h List.not_mem_nil⟩⟩⟩⟩⟩⟩⟩⟩⟩⟩⟩⟩⟩⟩⟩⟩⟩⟩⟩⟩⟩⟩⟩⟩⟩⟩⟩⟩⟩⟩⟩⟩⟩⟩⟩⟩⟩⟩⟩⟩⟩⟩
theorem am_c9 : am_Cl 9 RX9 TX9 42 tyX9 := ⟨rfl, tyX9_ok, nmX9, am_u9, rfl, by decide +kernel, by decide +kernel⟩
theorem fl_Scen_9 : am_fl "NumberedSparks$Scene" 9 5 0 (.array .int) true := ⟨RX5, TX5, 8, tyX5, am_c5, by decide, rfl, rfl, wd_32⟩
theorem fl_Read_86 : am_fl "NumberedSparks$Reader" 86 5 0 (.array .int) true := ⟨RX5, TX5, 8, tyX5, am_c5, by decide, rfl, rfl, wd_33⟩
theorem fl_Scen_15 : am_fl "NumberedSparks$Scene" 15 5 1 (.array .int) true := ⟨RX5, TX5, 8, tyX5, am_c5, by decide, rfl, rfl, wd_34⟩
theorem fl_Scen_18 : am_fl "NumberedSparks$Scene" 18 5 2 (.array .int) true := ⟨RX5, TX5, 8, tyX5, am_c5, by decide, rfl, rfl, wd_35⟩
theorem fl_Scen_27 : am_fl "NumberedSparks$Scene" 27 5 3 .int false := ⟨RX5, TX5, 8, tyX5, am_c5, by decide, rfl, rfl, wd_36⟩
theorem fl_Walk_67 : am_fl "NumberedSparks$Walk" 67 5 3 .int false := ⟨RX5, TX5, 8, tyX5, am_c5, by decide, rfl, rfl, wd_37⟩
theorem fl_Read_99 : am_fl "NumberedSparks$Reader" 99 5 3 .int false := ⟨RX5, TX5, 8, tyX5, am_c5, by decide, rfl, rfl, wd_38⟩
theorem fl_NS_104 : am_fl "NumberedSparks" 104 5 3 .int false := ⟨RX5, TX5, 8, tyX5, am_c5, by decide, rfl, rfl, wd_39⟩
theorem fl_Scen_31 : am_fl "NumberedSparks$Scene" 31 5 4 .int false := ⟨RX5, TX5, 8, tyX5, am_c5, by decide, rfl, rfl, wd_40⟩
theorem fl_NS_107 : am_fl "NumberedSparks" 107 5 4 .int false := ⟨RX5, TX5, 8, tyX5, am_c5, by decide, rfl, rfl, wd_41⟩
theorem fl_Read_146 : am_fl "NumberedSparks$Reader" 146 5 4 .int false := ⟨RX5, TX5, 8, tyX5, am_c5, by decide, rfl, rfl, wd_42⟩
theorem fl_Scen_34 : am_fl "NumberedSparks$Scene" 34 5 5 .int false := ⟨RX5, TX5, 8, tyX5, am_c5, by decide, rfl, rfl, wd_43⟩
theorem fl_Read_97 : am_fl "NumberedSparks$Reader" 97 5 5 .int false := ⟨RX5, TX5, 8, tyX5, am_c5, by decide, rfl, rfl, wd_44⟩
theorem fl_Hist_35 : am_fl "NumberedSparks$History" 35 5 5 .int false := ⟨RX5, TX5, 8, tyX5, am_c5, by decide, rfl, rfl, wd_45⟩
theorem fl_NS_110 : am_fl "NumberedSparks" 110 5 5 .int false := ⟨RX5, TX5, 8, tyX5, am_c5, by decide, rfl, rfl, wd_46⟩
theorem fl_Scen_37 : am_fl "NumberedSparks$Scene" 37 5 6 .boolean false := ⟨RX5, TX5, 8, tyX5, am_c5, by decide, rfl, rfl, wd_47⟩
theorem fl_Read_92 : am_fl "NumberedSparks$Reader" 92 5 6 .boolean false := ⟨RX5, TX5, 8, tyX5, am_c5, by decide, rfl, rfl, wd_48⟩
theorem fl_Fram_51 : am_fl "NumberedSparks$Frame" 51 5 7 .boolean false := ⟨RX5, TX5, 8, tyX5, am_c5, by decide, rfl, rfl, wd_49⟩
theorem fl_Scen_47 : am_fl "NumberedSparks$Scene" 47 5 7 .boolean false := ⟨RX5, TX5, 8, tyX5, am_c5, by decide, rfl, rfl, wd_50⟩
theorem fl_NS_130 : am_fl "NumberedSparks" 130 5 7 .boolean false := ⟨RX5, TX5, 8, tyX5, am_c5, by decide, rfl, rfl, wd_51⟩
theorem fl_Read_12 : am_fl "NumberedSparks$Reader" 12 4 0 (.object "NumberedSparks$Scene") true := ⟨RX4, TX4, 9, tyX4, am_c4, by decide, rfl, rfl, wd_78⟩
theorem fl_NS_84 : am_fl "NumberedSparks" 84 4 0 (.object "NumberedSparks$Scene") true := ⟨RX4, TX4, 9, tyX4, am_c4, by decide, rfl, rfl, wd_79⟩
theorem fl_Read_38 : am_fl "NumberedSparks$Reader" 38 4 1 .int false := ⟨RX4, TX4, 9, tyX4, am_c4, by decide, rfl, rfl, wd_80⟩
theorem fl_NS_94 : am_fl "NumberedSparks" 94 4 1 .int false := ⟨RX4, TX4, 9, tyX4, am_c4, by decide, rfl, rfl, wd_81⟩
theorem fl_Read_18 : am_fl "NumberedSparks$Reader" 18 4 2 .int false := ⟨RX4, TX4, 9, tyX4, am_c4, by decide, rfl, rfl, wd_82⟩
theorem fl_NS_97 : am_fl "NumberedSparks" 97 4 2 .int false := ⟨RX4, TX4, 9, tyX4, am_c4, by decide, rfl, rfl, wd_83⟩
theorem fl_Read_22 : am_fl "NumberedSparks$Reader" 22 4 3 (.array .int) false := ⟨RX4, TX4, 9, tyX4, am_c4, by decide, rfl, rfl, wd_84⟩
theorem fl_Read_32 : am_fl "NumberedSparks$Reader" 32 4 4 .int false := ⟨RX4, TX4, 9, tyX4, am_c4, by decide, rfl, rfl, wd_85⟩
theorem fl_Read_50 : am_fl "NumberedSparks$Reader" 50 4 5 .int false := ⟨RX4, TX4, 9, tyX4, am_c4, by decide, rfl, rfl, wd_86⟩
theorem fl_Read_170 : am_fl "NumberedSparks$Reader" 170 4 6 .int false := ⟨RX4, TX4, 9, tyX4, am_c4, by decide, rfl, rfl, wd_87⟩
theorem fl_Read_41 : am_fl "NumberedSparks$Reader" 41 4 7 .int false := ⟨RX4, TX4, 9, tyX4, am_c4, by decide, rfl, rfl, wd_88⟩
theorem fl_Read_137 : am_fl "NumberedSparks$Reader" 137 4 8 .int false := ⟨RX4, TX4, 9, tyX4, am_c4, by decide, rfl, rfl, wd_89⟩
theorem fl_Hist_11 : am_fl "NumberedSparks$History" 11 2 0 (.array .int) true := ⟨RX2, TX2, 4, tyX2, am_c2, by decide, rfl, rfl, wd_115⟩
theorem fl_Hist_15 : am_fl "NumberedSparks$History" 15 2 1 (.array .int) true := ⟨RX2, TX2, 4, tyX2, am_c2, by decide, rfl, rfl, wd_116⟩
theorem fl_Hist_18 : am_fl "NumberedSparks$History" 18 2 2 (.array .int) true := ⟨RX2, TX2, 4, tyX2, am_c2, by decide, rfl, rfl, wd_117⟩
theorem fl_Hist_21 : am_fl "NumberedSparks$History" 21 2 3 .int false := ⟨RX2, TX2, 4, tyX2, am_c2, by decide, rfl, rfl, wd_118⟩
theorem fl_NS_155 : am_fl "NumberedSparks" 155 2 3 .int false := ⟨RX2, TX2, 4, tyX2, am_c2, by decide, rfl, rfl, wd_119⟩
theorem fl_Outp_9 : am_fl "NumberedSparks$Output" 9 3 0 (.array .int) true := ⟨RX3, TX3, 2, tyX3, am_c3, by decide, rfl, rfl, wd_135⟩
theorem fl_Outp_15 : am_fl "NumberedSparks$Output" 15 3 1 .int false := ⟨RX3, TX3, 2, tyX3, am_c3, by decide, rfl, rfl, wd_136⟩
theorem fl_NS_113 : am_fl "NumberedSparks" 113 3 1 .int false := ⟨RX3, TX3, 2, tyX3, am_c3, by decide, rfl, rfl, wd_137⟩
theorem fl_Sprk_18 : am_fl "NumberedSparks$Spark" 18 6 0 (.object "NumberedSparks$Scene") true := ⟨RX6, TX6, 10, tyX6, am_c6, by decide, rfl, rfl, wd_156⟩
theorem fl_Sprk_9 : am_fl "NumberedSparks$Spark" 9 6 1 (.array .int) true := ⟨RX6, TX6, 10, tyX6, am_c6, by decide, rfl, rfl, wd_157⟩
theorem fl_NS_264 : am_fl "NumberedSparks" 264 6 1 (.array .int) true := ⟨RX6, TX6, 10, tyX6, am_c6, by decide, rfl, rfl, wd_158⟩
theorem fl_Sprk_15 : am_fl "NumberedSparks$Spark" 15 6 2 (.array .int) true := ⟨RX6, TX6, 10, tyX6, am_c6, by decide, rfl, rfl, wd_159⟩
theorem fl_NS_203 : am_fl "NumberedSparks" 203 6 2 (.array .int) true := ⟨RX6, TX6, 10, tyX6, am_c6, by decide, rfl, rfl, wd_160⟩
theorem fl_Sprk_26 : am_fl "NumberedSparks$Spark" 26 6 3 .int false := ⟨RX6, TX6, 10, tyX6, am_c6, by decide, rfl, rfl, wd_161⟩
theorem fl_Fram_97 : am_fl "NumberedSparks$Frame" 97 6 3 .int false := ⟨RX6, TX6, 10, tyX6, am_c6, by decide, rfl, rfl, wd_162⟩
theorem fl_NS_249 : am_fl "NumberedSparks" 249 6 3 .int false := ⟨RX6, TX6, 10, tyX6, am_c6, by decide, rfl, rfl, wd_163⟩
theorem fl_Sprk_35 : am_fl "NumberedSparks$Spark" 35 6 4 .int false := ⟨RX6, TX6, 10, tyX6, am_c6, by decide, rfl, rfl, wd_164⟩
theorem fl_Fram_100 : am_fl "NumberedSparks$Frame" 100 6 4 .int false := ⟨RX6, TX6, 10, tyX6, am_c6, by decide, rfl, rfl, wd_165⟩
theorem fl_Walk_101 : am_fl "NumberedSparks$Walk" 101 6 4 .int false := ⟨RX6, TX6, 10, tyX6, am_c6, by decide, rfl, rfl, wd_166⟩
theorem fl_NS_180 : am_fl "NumberedSparks" 180 6 4 .int false := ⟨RX6, TX6, 10, tyX6, am_c6, by decide, rfl, rfl, wd_167⟩
theorem fl_Sprk_38 : am_fl "NumberedSparks$Spark" 38 6 5 .int false := ⟨RX6, TX6, 10, tyX6, am_c6, by decide, rfl, rfl, wd_168⟩
theorem fl_Walk_118 : am_fl "NumberedSparks$Walk" 118 6 5 .int false := ⟨RX6, TX6, 10, tyX6, am_c6, by decide, rfl, rfl, wd_169⟩
theorem fl_NS_191 : am_fl "NumberedSparks" 191 6 5 .int false := ⟨RX6, TX6, 10, tyX6, am_c6, by decide, rfl, rfl, wd_170⟩
theorem fl_Sprk_41 : am_fl "NumberedSparks$Spark" 41 6 6 .int false := ⟨RX6, TX6, 10, tyX6, am_c6, by decide, rfl, rfl, wd_171⟩
theorem fl_Fram_92 : am_fl "NumberedSparks$Frame" 92 6 6 .int false := ⟨RX6, TX6, 10, tyX6, am_c6, by decide, rfl, rfl, wd_172⟩
theorem fl_Walk_112 : am_fl "NumberedSparks$Walk" 112 6 6 .int false := ⟨RX6, TX6, 10, tyX6, am_c6, by decide, rfl, rfl, wd_173⟩
theorem fl_NS_197 : am_fl "NumberedSparks" 197 6 6 .int false := ⟨RX6, TX6, 10, tyX6, am_c6, by decide, rfl, rfl, wd_174⟩
theorem fl_Sprk_51 : am_fl "NumberedSparks$Spark" 51 6 7 .int false := ⟨RX6, TX6, 10, tyX6, am_c6, by decide, rfl, rfl, wd_175⟩
theorem fl_Fram_103 : am_fl "NumberedSparks$Frame" 103 6 7 .int false := ⟨RX6, TX6, 10, tyX6, am_c6, by decide, rfl, rfl, wd_176⟩
theorem fl_Walk_115 : am_fl "NumberedSparks$Walk" 115 6 7 .int false := ⟨RX6, TX6, 10, tyX6, am_c6, by decide, rfl, rfl, wd_177⟩
theorem fl_NS_200 : am_fl "NumberedSparks" 200 6 7 .int false := ⟨RX6, TX6, 10, tyX6, am_c6, by decide, rfl, rfl, wd_178⟩
theorem fl_Sprk_60 : am_fl "NumberedSparks$Spark" 60 6 8 .int false := ⟨RX6, TX6, 10, tyX6, am_c6, by decide, rfl, rfl, wd_179⟩
theorem fl_Sprk_63 : am_fl "NumberedSparks$Spark" 63 6 9 .int false := ⟨RX6, TX6, 10, tyX6, am_c6, by decide, rfl, rfl, wd_180⟩
theorem fl_Walk_30 : am_fl "NumberedSparks$Walk" 30 7 0 (.object "NumberedSparks$Scene") true := ⟨RX7, TX7, 9, tyX7, am_c7, by decide, rfl, rfl, wd_202⟩
theorem fl_Walk_11 : am_fl "NumberedSparks$Walk" 11 7 1 (.array (.object "NumberedSparks$Spark")) true := ⟨RX7, TX7, 9, tyX7, am_c7, by decide, rfl, rfl, wd_203⟩
theorem fl_Walk_17 : am_fl "NumberedSparks$Walk" 17 7 2 (.array .int) true := ⟨RX7, TX7, 9, tyX7, am_c7, by decide, rfl, rfl, wd_204⟩
theorem fl_Walk_21 : am_fl "NumberedSparks$Walk" 21 7 3 (.array .int) true := ⟨RX7, TX7, 9, tyX7, am_c7, by decide, rfl, rfl, wd_205⟩
theorem fl_Walk_24 : am_fl "NumberedSparks$Walk" 24 7 4 (.array .int) true := ⟨RX7, TX7, 9, tyX7, am_c7, by decide, rfl, rfl, wd_206⟩
theorem fl_Walk_27 : am_fl "NumberedSparks$Walk" 27 7 5 (.array .int) true := ⟨RX7, TX7, 9, tyX7, am_c7, by decide, rfl, rfl, wd_207⟩
theorem fl_Walk_37 : am_fl "NumberedSparks$Walk" 37 7 6 .int false := ⟨RX7, TX7, 9, tyX7, am_c7, by decide, rfl, rfl, wd_208⟩
theorem fl_Walk_41 : am_fl "NumberedSparks$Walk" 41 7 7 .int false := ⟨RX7, TX7, 9, tyX7, am_c7, by decide, rfl, rfl, wd_209⟩
theorem fl_Fram_75 : am_fl "NumberedSparks$Frame" 75 7 8 .int false := ⟨RX7, TX7, 9, tyX7, am_c7, by decide, rfl, rfl, wd_210⟩
theorem fl_Walk_76 : am_fl "NumberedSparks$Walk" 76 7 8 .int false := ⟨RX7, TX7, 9, tyX7, am_c7, by decide, rfl, rfl, wd_211⟩
theorem fl_NS_243 : am_fl "NumberedSparks" 243 7 8 .int false := ⟨RX7, TX7, 9, tyX7, am_c7, by decide, rfl, rfl, wd_212⟩
theorem fl_Fram_43 : am_fl "NumberedSparks$Frame" 43 1 0 (.object "NumberedSparks$Scene") true := ⟨RX1, TX1, 13, tyX1, am_c1, by decide, rfl, rfl, wd_238⟩
theorem fl_Fram_47 : am_fl "NumberedSparks$Frame" 47 1 1 (.object "NumberedSparks$Walk") true := ⟨RX1, TX1, 13, tyX1, am_c1, by decide, rfl, rfl, wd_239⟩
theorem fl_Fram_61 : am_fl "NumberedSparks$Frame" 61 1 2 .int false := ⟨RX1, TX1, 13, tyX1, am_c1, by decide, rfl, rfl, wd_240⟩
theorem fl_NS_312 : am_fl "NumberedSparks" 312 1 2 .int false := ⟨RX1, TX1, 13, tyX1, am_c1, by decide, rfl, rfl, wd_241⟩
theorem fl_Fram_9 : am_fl "NumberedSparks$Frame" 9 1 3 (.array .int) false := ⟨RX1, TX1, 13, tyX1, am_c1, by decide, rfl, rfl, wd_242⟩
theorem fl_NS_316 : am_fl "NumberedSparks" 316 1 3 (.array .int) false := ⟨RX1, TX1, 13, tyX1, am_c1, by decide, rfl, rfl, wd_243⟩
theorem fl_Fram_15 : am_fl "NumberedSparks$Frame" 15 1 4 (.array .int) false := ⟨RX1, TX1, 13, tyX1, am_c1, by decide, rfl, rfl, wd_244⟩
theorem fl_NS_313 : am_fl "NumberedSparks" 313 1 4 (.array .int) false := ⟨RX1, TX1, 13, tyX1, am_c1, by decide, rfl, rfl, wd_245⟩
theorem fl_Fram_18 : am_fl "NumberedSparks$Frame" 18 1 5 (.array .int) false := ⟨RX1, TX1, 13, tyX1, am_c1, by decide, rfl, rfl, wd_246⟩
theorem fl_NS_361 : am_fl "NumberedSparks" 361 1 5 (.array .int) false := ⟨RX1, TX1, 13, tyX1, am_c1, by decide, rfl, rfl, wd_247⟩
theorem fl_Fram_21 : am_fl "NumberedSparks$Frame" 21 1 6 (.array .int) false := ⟨RX1, TX1, 13, tyX1, am_c1, by decide, rfl, rfl, wd_248⟩
theorem fl_NS_364 : am_fl "NumberedSparks" 364 1 6 (.array .int) false := ⟨RX1, TX1, 13, tyX1, am_c1, by decide, rfl, rfl, wd_249⟩
theorem fl_Fram_24 : am_fl "NumberedSparks$Frame" 24 1 7 (.array .int) false := ⟨RX1, TX1, 13, tyX1, am_c1, by decide, rfl, rfl, wd_250⟩
theorem fl_NS_326 : am_fl "NumberedSparks" 326 1 7 (.array .int) false := ⟨RX1, TX1, 13, tyX1, am_c1, by decide, rfl, rfl, wd_251⟩
theorem fl_Fram_27 : am_fl "NumberedSparks$Frame" 27 1 8 (.array .int) false := ⟨RX1, TX1, 13, tyX1, am_c1, by decide, rfl, rfl, wd_252⟩
theorem fl_NS_329 : am_fl "NumberedSparks" 329 1 8 (.array .int) false := ⟨RX1, TX1, 13, tyX1, am_c1, by decide, rfl, rfl, wd_253⟩
theorem fl_Fram_30 : am_fl "NumberedSparks$Frame" 30 1 9 (.array .int) false := ⟨RX1, TX1, 13, tyX1, am_c1, by decide, rfl, rfl, wd_254⟩
theorem fl_NS_332 : am_fl "NumberedSparks" 332 1 9 (.array .int) false := ⟨RX1, TX1, 13, tyX1, am_c1, by decide, rfl, rfl, wd_255⟩
theorem fl_Fram_33 : am_fl "NumberedSparks$Frame" 33 1 10 (.array .int) false := ⟨RX1, TX1, 13, tyX1, am_c1, by decide, rfl, rfl, wd_256⟩
theorem fl_NS_319 : am_fl "NumberedSparks" 319 1 10 (.array .int) false := ⟨RX1, TX1, 13, tyX1, am_c1, by decide, rfl, rfl, wd_257⟩
theorem fl_Fram_36 : am_fl "NumberedSparks$Frame" 36 1 11 (.array .int) true := ⟨RX1, TX1, 13, tyX1, am_c1, by decide, rfl, rfl, wd_258⟩
theorem fl_Fram_39 : am_fl "NumberedSparks$Frame" 39 1 12 .int false := ⟨RX1, TX1, 13, tyX1, am_c1, by decide, rfl, rfl, wd_259⟩
theorem fl_Find_7 : am_fl "NumberedSparks$Finder" 7 0 0 (.object "NumberedSparks$Scene") true := ⟨RX0, TX0, 4, tyX0, am_c0, by decide, rfl, rfl, wd_295⟩
theorem fl_Find_18 : am_fl "NumberedSparks$Finder" 18 0 1 (.object "NumberedSparks$Spark") true := ⟨RX0, TX0, 4, tyX0, am_c0, by decide, rfl, rfl, wd_296⟩
theorem fl_Find_22 : am_fl "NumberedSparks$Finder" 22 0 2 (.object "NumberedSparks$Spark") true := ⟨RX0, TX0, 4, tyX0, am_c0, by decide, rfl, rfl, wd_297⟩
theorem fl_Find_25 : am_fl "NumberedSparks$Finder" 25 0 3 (.object "NumberedSparks$Spark") true := ⟨RX0, TX0, 4, tyX0, am_c0, by decide, rfl, rfl, wd_298⟩
theorem fl_NS_9 : am_fl "NumberedSparks" 9 8 0 (.array .int) true := ⟨RX8, TX8, 11, tyX8, am_c8, by decide, rfl, rfl, wd_308⟩
theorem fl_NS_72 : am_fl "NumberedSparks" 72 8 1 .int false := ⟨RX8, TX8, 11, tyX8, am_c8, by decide, rfl, rfl, wd_309⟩
theorem fl_NS_16 : am_fl "NumberedSparks" 16 8 2 (.object "NumberedSparks$Scene") true := ⟨RX8, TX8, 11, tyX8, am_c8, by decide, rfl, rfl, wd_310⟩
theorem fl_NS_23 : am_fl "NumberedSparks" 23 8 3 (.object "NumberedSparks$Reader") true := ⟨RX8, TX8, 11, tyX8, am_c8, by decide, rfl, rfl, wd_311⟩
theorem fl_NS_30 : am_fl "NumberedSparks" 30 8 4 (.object "NumberedSparks$History") true := ⟨RX8, TX8, 11, tyX8, am_c8, by decide, rfl, rfl, wd_312⟩
theorem fl_NS_37 : am_fl "NumberedSparks" 37 8 5 (.object "NumberedSparks$Output") true := ⟨RX8, TX8, 11, tyX8, am_c8, by decide, rfl, rfl, wd_313⟩
theorem fl_NS_46 : am_fl "NumberedSparks" 46 8 6 (.object "NumberedSparks$Walk") true := ⟨RX8, TX8, 11, tyX8, am_c8, by decide, rfl, rfl, wd_314⟩
theorem fl_NS_55 : am_fl "NumberedSparks" 55 8 7 (.object "NumberedSparks$Frame") true := ⟨RX8, TX8, 11, tyX8, am_c8, by decide, rfl, rfl, wd_315⟩
theorem fl_NS_62 : am_fl "NumberedSparks" 62 8 8 (.object "NumberedSparks$Finder") true := ⟨RX8, TX8, 11, tyX8, am_c8, by decide, rfl, rfl, wd_316⟩
theorem fl_NS_66 : am_fl "NumberedSparks" 66 8 9 (.object "NumberedSparks$Finder") true := ⟨RX8, TX8, 11, tyX8, am_c8, by decide, rfl, rfl, wd_317⟩
theorem fl_NS_69 : am_fl "NumberedSparks" 69 8 10 (.array .int) true := ⟨RX8, TX8, 11, tyX8, am_c8, by decide, rfl, rfl, wd_318⟩
theorem fl_Md_219 : am_fl "NumberedSparksModel" 219 9 1 .boolean false := ⟨RX9, TX9, 42, tyX9, am_c9, by decide, rfl, rfl, wd_1132⟩
theorem fl_Md_7 : am_fl "NumberedSparksModel" 7 9 2 (.array .int) true := ⟨RX9, TX9, 42, tyX9, am_c9, by decide, rfl, rfl, wd_1133⟩
theorem fl_Md_222 : am_fl "NumberedSparksModel" 222 9 3 .int false := ⟨RX9, TX9, 42, tyX9, am_c9, by decide, rfl, rfl, wd_1134⟩
theorem fl_Md_224 : am_fl "NumberedSparksModel" 224 9 4 .int false := ⟨RX9, TX9, 42, tyX9, am_c9, by decide, rfl, rfl, wd_1135⟩
theorem fl_Md_13 : am_fl "NumberedSparksModel" 13 9 5 (.array .int) true := ⟨RX9, TX9, 42, tyX9, am_c9, by decide, rfl, rfl, wd_1136⟩
theorem fl_Md_227 : am_fl "NumberedSparksModel" 227 9 6 .int false := ⟨RX9, TX9, 42, tyX9, am_c9, by decide, rfl, rfl, wd_1137⟩
theorem fl_Md_16 : am_fl "NumberedSparksModel" 16 9 7 (.array .int) true := ⟨RX9, TX9, 42, tyX9, am_c9, by decide, rfl, rfl, wd_1138⟩
theorem fl_Md_19 : am_fl "NumberedSparksModel" 19 9 8 (.array .int) true := ⟨RX9, TX9, 42, tyX9, am_c9, by decide, rfl, rfl, wd_1139⟩
theorem fl_Md_198 : am_fl "NumberedSparksModel" 198 9 9 .int false := ⟨RX9, TX9, 42, tyX9, am_c9, by decide, rfl, rfl, wd_1140⟩
theorem fl_Md_153 : am_fl "NumberedSparksModel" 153 9 10 .int false := ⟨RX9, TX9, 42, tyX9, am_c9, by decide, rfl, rfl, wd_1141⟩
theorem fl_Md_22 : am_fl "NumberedSparksModel" 22 9 11 (.array .int) true := ⟨RX9, TX9, 42, tyX9, am_c9, by decide, rfl, rfl, wd_1142⟩
theorem fl_Md_180 : am_fl "NumberedSparksModel" 180 9 12 .int false := ⟨RX9, TX9, 42, tyX9, am_c9, by decide, rfl, rfl, wd_1143⟩
theorem fl_Md_25 : am_fl "NumberedSparksModel" 25 9 13 (.array .int) true := ⟨RX9, TX9, 42, tyX9, am_c9, by decide, rfl, rfl, wd_1144⟩
theorem fl_Md_28 : am_fl "NumberedSparksModel" 28 9 14 (.array .byte) true := ⟨RX9, TX9, 42, tyX9, am_c9, by decide, rfl, rfl, wd_1145⟩
theorem fl_Md_74 : am_fl "NumberedSparksModel" 74 9 15 .int false := ⟨RX9, TX9, 42, tyX9, am_c9, by decide, rfl, rfl, wd_1146⟩
theorem fl_Md_92 : am_fl "NumberedSparksModel" 92 9 16 .int false := ⟨RX9, TX9, 42, tyX9, am_c9, by decide, rfl, rfl, wd_1147⟩
theorem fl_Md_95 : am_fl "NumberedSparksModel" 95 9 17 .int false := ⟨RX9, TX9, 42, tyX9, am_c9, by decide, rfl, rfl, wd_1148⟩
theorem fl_Md_102 : am_fl "NumberedSparksModel" 102 9 18 .int false := ⟨RX9, TX9, 42, tyX9, am_c9, by decide, rfl, rfl, wd_1149⟩
theorem fl_Md_105 : am_fl "NumberedSparksModel" 105 9 19 .int false := ⟨RX9, TX9, 42, tyX9, am_c9, by decide, rfl, rfl, wd_1150⟩
theorem fl_Md_116 : am_fl "NumberedSparksModel" 116 9 20 .int false := ⟨RX9, TX9, 42, tyX9, am_c9, by decide, rfl, rfl, wd_1151⟩
theorem fl_Md_85 : am_fl "NumberedSparksModel" 85 9 21 .int false := ⟨RX9, TX9, 42, tyX9, am_c9, by decide, rfl, rfl, wd_1152⟩
theorem fl_Md_32 : am_fl "NumberedSparksModel" 32 9 22 .int false := ⟨RX9, TX9, 42, tyX9, am_c9, by decide, rfl, rfl, wd_1153⟩
theorem fl_Md_193 : am_fl "NumberedSparksModel" 193 9 23 .boolean false := ⟨RX9, TX9, 42, tyX9, am_c9, by decide, rfl, rfl, wd_1154⟩
theorem fl_Md_230 : am_fl "NumberedSparksModel" 230 9 24 .int false := ⟨RX9, TX9, 42, tyX9, am_c9, by decide, rfl, rfl, wd_1155⟩
theorem fl_Md_36 : am_fl "NumberedSparksModel" 36 9 25 (.array .int) true := ⟨RX9, TX9, 42, tyX9, am_c9, by decide, rfl, rfl, wd_1156⟩
theorem fl_Md_39 : am_fl "NumberedSparksModel" 39 9 26 (.array .int) true := ⟨RX9, TX9, 42, tyX9, am_c9, by decide, rfl, rfl, wd_1157⟩
theorem fl_Md_278 : am_fl "NumberedSparksModel" 278 9 27 .int false := ⟨RX9, TX9, 42, tyX9, am_c9, by decide, rfl, rfl, wd_1158⟩
theorem fl_Md_292 : am_fl "NumberedSparksModel" 292 9 28 .int false := ⟨RX9, TX9, 42, tyX9, am_c9, by decide, rfl, rfl, wd_1159⟩
theorem fl_Md_303 : am_fl "NumberedSparksModel" 303 9 29 .int false := ⟨RX9, TX9, 42, tyX9, am_c9, by decide, rfl, rfl, wd_1160⟩
theorem fl_Md_42 : am_fl "NumberedSparksModel" 42 9 30 (.array .int) true := ⟨RX9, TX9, 42, tyX9, am_c9, by decide, rfl, rfl, wd_1161⟩
theorem fl_Md_45 : am_fl "NumberedSparksModel" 45 9 31 (.array .int) true := ⟨RX9, TX9, 42, tyX9, am_c9, by decide, rfl, rfl, wd_1162⟩
theorem fl_Md_48 : am_fl "NumberedSparksModel" 48 9 32 (.array .int) true := ⟨RX9, TX9, 42, tyX9, am_c9, by decide, rfl, rfl, wd_1163⟩
theorem fl_Md_51 : am_fl "NumberedSparksModel" 51 9 33 (.array .int) true := ⟨RX9, TX9, 42, tyX9, am_c9, by decide, rfl, rfl, wd_1164⟩
theorem fl_Md_361 : am_fl "NumberedSparksModel" 361 9 34 .int false := ⟨RX9, TX9, 42, tyX9, am_c9, by decide, rfl, rfl, wd_1165⟩
theorem fl_Md_54 : am_fl "NumberedSparksModel" 54 9 35 (.array .long) true := ⟨RX9, TX9, 42, tyX9, am_c9, by decide, rfl, rfl, wd_1166⟩
theorem fl_Md_58 : am_fl "NumberedSparksModel" 58 9 36 (.array .int) true := ⟨RX9, TX9, 42, tyX9, am_c9, by decide, rfl, rfl, wd_1167⟩
theorem fl_Md_61 : am_fl "NumberedSparksModel" 61 9 37 (.array .int) true := ⟨RX9, TX9, 42, tyX9, am_c9, by decide, rfl, rfl, wd_1168⟩
theorem fl_Md_65 : am_fl "NumberedSparksModel" 65 9 38 (.array .int) true := ⟨RX9, TX9, 42, tyX9, am_c9, by decide, rfl, rfl, wd_1169⟩
theorem fl_Md_443 : am_fl "NumberedSparksModel" 443 9 39 .int false := ⟨RX9, TX9, 42, tyX9, am_c9, by decide, rfl, rfl, wd_1170⟩
theorem fl_Md_68 : am_fl "NumberedSparksModel" 68 9 40 (.array .byte) true := ⟨RX9, TX9, 42, tyX9, am_c9, by decide, rfl, rfl, wd_1171⟩
theorem fl_Md_233 : am_fl "NumberedSparksModel" 233 9 41 .int false := ⟨RX9, TX9, 42, tyX9, am_c9, by decide, rfl, rfl, wd_1172⟩
end
