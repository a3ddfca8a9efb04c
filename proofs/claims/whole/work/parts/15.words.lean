/-! ===== words of the tables by their places (printed by wip/whole/gen_tables.py) ===== -/
theorem am_inw {w : Cond} (h : w ∈ lw_tbl) (g : am_gw w = true) : w ∈ am_ws := List.mem_filter.mpr ⟨h, g⟩
theorem am_t1 {w : Cond} (i : Nat) (h : tables_1_1[i]? = some w) (g : am_gw w = true) : w ∈ am_ws := am_inw (List.mem_append_right _ (List.mem_append_left _ (List.mem_of_getElem? h))) g
theorem am_t2 {w : Cond} (i : Nat) (h : tables_1_2[i]? = some w) (g : am_gw w = true) : w ∈ am_ws := am_inw (List.mem_append_right _ (List.mem_append_right _ (List.mem_append_left _ (List.mem_of_getElem? h)))) g
theorem am_t3 {w : Cond} (i : Nat) (h : tables_1_3[i]? = some w) (g : am_gw w = true) : w ∈ am_ws := am_inw (List.mem_append_right _ (List.mem_append_right _ (List.mem_append_right _ (List.mem_append_left _ (List.mem_of_getElem? h))))) g
theorem am_t4 {w : Cond} (i : Nat) (h : tables_1_4[i]? = some w) (g : am_gw w = true) : w ∈ am_ws := am_inw (List.mem_append_right _ (List.mem_append_right _ (List.mem_append_right _ (List.mem_append_right _ (List.mem_append_left _ (List.mem_of_getElem? h)))))) g
theorem am_t5 {w : Cond} (i : Nat) (h : tables_1_5[i]? = some w) (g : am_gw w = true) : w ∈ am_ws := am_inw (List.mem_append_right _ (List.mem_append_right _ (List.mem_append_right _ (List.mem_append_right _ (List.mem_append_right _ (List.mem_append_left _ (List.mem_of_getElem? h))))))) g
theorem am_t6 {w : Cond} (i : Nat) (h : tables_1_6[i]? = some w) (g : am_gw w = true) : w ∈ am_ws := am_inw (List.mem_append_right _ (List.mem_append_right _ (List.mem_append_right _ (List.mem_append_right _ (List.mem_append_right _ (List.mem_append_right _ (List.mem_append_left _ (List.mem_of_getElem? h)))))))) g
theorem am_t7 {w : Cond} (i : Nat) (h : tables_1_7[i]? = some w) (g : am_gw w = true) : w ∈ am_ws := am_inw (List.mem_append_right _ (List.mem_append_right _ (List.mem_append_right _ (List.mem_append_right _ (List.mem_append_right _ (List.mem_append_right _ (List.mem_append_right _ (List.mem_append_left _ (List.mem_of_getElem? h))))))))) g
theorem am_t8 {w : Cond} (i : Nat) (h : tables_1_8[i]? = some w) (g : am_gw w = true) : w ∈ am_ws := am_inw (List.mem_append_right _ (List.mem_append_right _ (List.mem_append_right _ (List.mem_append_right _ (List.mem_append_right _ (List.mem_append_right _ (List.mem_append_right _ (List.mem_append_right _ (List.mem_of_getElem? h))))))))) g
theorem am_tp {w : Cond} (i : Nat) (h : (k2_sels lw_privs)[i]? = some w) (g : am_gw w = true) : w ∈ am_ws := am_inw (List.mem_append_left _ (List.mem_of_getElem? h)) g
theorem wd_0 : (Cond.initialized "NumberedSparksLaw") ∈ am_ws := am_t1 0 rfl rfl
theorem wd_1 : (Cond.initialized "NumberedSparks") ∈ am_ws := am_t1 1 rfl rfl
theorem wd_2 : (Cond.initialized "NumberedSparks$Scene") ∈ am_ws := am_t1 2 rfl rfl
theorem wd_3 : (Cond.initialized "NumberedSparks$Reader") ∈ am_ws := am_t1 3 rfl rfl
theorem wd_4 : (Cond.initialized "NumberedSparks$History") ∈ am_ws := am_t1 4 rfl rfl
theorem wd_5 : (Cond.initialized "NumberedSparks$Output") ∈ am_ws := am_t1 5 rfl rfl
theorem wd_6 : (Cond.initialized "NumberedSparks$Walk") ∈ am_ws := am_t1 6 rfl rfl
theorem wd_7 : (Cond.initialized "NumberedSparks$Spark") ∈ am_ws := am_t1 7 rfl rfl
theorem wd_8 : (Cond.initialized "NumberedSparks$Frame") ∈ am_ws := am_t1 8 rfl rfl
theorem wd_9 : (Cond.initialized "NumberedSparks$Finder") ∈ am_ws := am_t1 9 rfl rfl
theorem wd_10 : (Cond.initialized "NumberedSparksModel") ∈ am_ws := am_t1 10 rfl rfl
theorem wd_11 : (Cond.initialized "java/lang/Math") ∈ am_ws := am_t1 11 rfl rfl
theorem wd_12 : (Cond.initialized "java/util/Arrays") ∈ am_ws := am_t1 12 rfl rfl
theorem wd_13 : (Cond.initialized "java/lang/String") ∈ am_ws := am_t1 13 rfl rfl
theorem wd_14 : (Cond.initialized "java/lang/StringLatin1") ∈ am_ws := am_t1 14 rfl rfl
theorem wd_15 : (Cond.initialized "jdk/internal/util/Preconditions") ∈ am_ws := am_t1 15 rfl rfl
theorem wd_16 : (Cond.initialized "java/lang/StringUTF16") ∈ am_ws := am_t1 16 rfl rfl
theorem wd_17 : (Cond.initialized "java/lang/System") ∈ am_ws := am_t1 17 rfl rfl
theorem wd_18 : (Cond.classLink "NumberedSparksLaw" (7 : Nat) "NumberedSparks") ∈ am_ws := am_t1 18 rfl rfl
theorem wd_19 : (Cond.instantiable "NumberedSparks" (11 : Nat)) ∈ am_ws := am_t1 19 rfl rfl
theorem wd_20 : (Cond.methodLink "NumberedSparksLaw" (9 : Nat) ({ cls := "NumberedSparks", name := "<init>", desc := "()V" } : MethodName)) ∈ am_ws := am_t1 20 rfl rfl
theorem wd_21 : (Cond.instanceMethod ({ cls := "NumberedSparks", name := "<init>", desc := "()V" } : MethodName)) ∈ am_ws := am_t1 21 rfl rfl
theorem wd_22 : (Cond.code ({ cls := "NumberedSparks", name := "<init>", desc := "()V" } : MethodName) prog_1_method_1_code (1 : Nat) (Option.none : Option FieldType)) ∈ am_ws := am_t1 22 rfl rfl
theorem wd_23 : (Cond.methodLink "NumberedSparks" (1 : Nat) ({ cls := "java/lang/Object", name := "<init>", desc := "()V" } : MethodName)) ∈ am_ws := am_t1 23 rfl rfl
theorem wd_24 : (Cond.instanceMethod ({ cls := "java/lang/Object", name := "<init>", desc := "()V" } : MethodName)) ∈ am_ws := am_t1 24 rfl rfl
theorem wd_25 : (Cond.code ({ cls := "java/lang/Object", name := "<init>", desc := "()V" } : MethodName) object_method_1_code (1 : Nat) (Option.none : Option FieldType)) ∈ am_ws := am_t1 25 rfl rfl
theorem wd_26 : (Cond.classLink "NumberedSparks" (13 : Nat) "NumberedSparks$Scene") ∈ am_ws := am_t1 26 rfl rfl
theorem wd_27 : (Cond.instantiable "NumberedSparks$Scene" (8 : Nat)) ∈ am_ws := am_t1 27 rfl rfl
theorem wd_28 : (Cond.methodLinkNest "NumberedSparks" (15 : Nat) ({ cls := "NumberedSparks$Scene", name := "<init>", desc := "()V" } : MethodName) "NumberedSparks") ∈ am_ws := am_t1 28 rfl rfl
theorem wd_29 : (Cond.instanceMethod ({ cls := "NumberedSparks$Scene", name := "<init>", desc := "()V" } : MethodName)) ∈ am_ws := am_t1 29 rfl rfl
theorem wd_30 : (Cond.code ({ cls := "NumberedSparks$Scene", name := "<init>", desc := "()V" } : MethodName) prog_7_method_1_code (1 : Nat) (Option.none : Option FieldType)) ∈ am_ws := am_t1 30 rfl rfl
theorem wd_31 : (Cond.methodLink "NumberedSparks$Scene" (3 : Nat) ({ cls := "java/lang/Object", name := "<init>", desc := "()V" } : MethodName)) ∈ am_ws := am_t1 31 rfl rfl
theorem wd_32 : (Cond.fieldLink "NumberedSparks$Scene" (9 : Nat) "NumberedSparks$Scene" "cells" "[I") ∈ am_ws := am_t1 32 rfl rfl
theorem wd_33 : (Cond.fieldLink "NumberedSparks$Scene" (15 : Nat) "NumberedSparks$Scene" "kinds" "[I") ∈ am_ws := am_t1 33 rfl rfl
theorem wd_34 : (Cond.fieldLink "NumberedSparks$Scene" (18 : Nat) "NumberedSparks$Scene" "sources" "[I") ∈ am_ws := am_t1 34 rfl rfl
theorem wd_35 : (Cond.fieldLink "NumberedSparks$Scene" (27 : Nat) "NumberedSparks$Scene" "kindCount" "I") ∈ am_ws := am_t1 35 rfl rfl
theorem wd_36 : (Cond.fieldLink "NumberedSparks$Walk" (67 : Nat) "NumberedSparks$Scene" "kindCount" "I") ∈ am_ws := am_t1 36 rfl rfl
theorem wd_37 : (Cond.fieldLink "NumberedSparks$Reader" (100 : Nat) "NumberedSparks$Scene" "kindCount" "I") ∈ am_ws := am_t1 37 rfl rfl
theorem wd_38 : (Cond.fieldLink "NumberedSparks" (104 : Nat) "NumberedSparks$Scene" "kindCount" "I") ∈ am_ws := am_t1 38 rfl rfl
theorem wd_39 : (Cond.fieldLink "NumberedSparks$Scene" (31 : Nat) "NumberedSparks$Scene" "sourceCount" "I") ∈ am_ws := am_t1 39 rfl rfl
theorem wd_40 : (Cond.fieldLink "NumberedSparks" (107 : Nat) "NumberedSparks$Scene" "sourceCount" "I") ∈ am_ws := am_t1 40 rfl rfl
theorem wd_41 : (Cond.fieldLink "NumberedSparks$Reader" (147 : Nat) "NumberedSparks$Scene" "sourceCount" "I") ∈ am_ws := am_t1 41 rfl rfl
theorem wd_42 : (Cond.fieldLink "NumberedSparks$Scene" (34 : Nat) "NumberedSparks$Scene" "seed" "I") ∈ am_ws := am_t1 42 rfl rfl
theorem wd_43 : (Cond.fieldLink "NumberedSparks$Reader" (98 : Nat) "NumberedSparks$Scene" "seed" "I") ∈ am_ws := am_t1 43 rfl rfl
theorem wd_44 : (Cond.fieldLink "NumberedSparks$History" (35 : Nat) "NumberedSparks$Scene" "seed" "I") ∈ am_ws := am_t1 44 rfl rfl
theorem wd_45 : (Cond.fieldLink "NumberedSparks" (110 : Nat) "NumberedSparks$Scene" "seed" "I") ∈ am_ws := am_t1 45 rfl rfl
theorem wd_46 : (Cond.fieldLink "NumberedSparks$Scene" (37 : Nat) "NumberedSparks$Scene" "seedTold" "Z") ∈ am_ws := am_t1 46 rfl rfl
theorem wd_47 : (Cond.fieldLink "NumberedSparks$Reader" (93 : Nat) "NumberedSparks$Scene" "seedTold" "Z") ∈ am_ws := am_t1 47 rfl rfl
theorem wd_48 : (Cond.fieldLink "NumberedSparks$Frame" (33 : Nat) "NumberedSparks$Scene" "stands" "Z") ∈ am_ws := am_t1 48 rfl rfl
theorem wd_49 : (Cond.fieldLink "NumberedSparks$Scene" (47 : Nat) "NumberedSparks$Scene" "stands" "Z") ∈ am_ws := am_t1 49 rfl rfl
theorem wd_50 : (Cond.fieldLink "NumberedSparks" (130 : Nat) "NumberedSparks$Scene" "stands" "Z") ∈ am_ws := am_t1 50 rfl rfl
theorem wd_68 : (Cond.arrayClass FieldType.int) ∈ am_ws := am_t1 68 rfl rfl
theorem wd_69 : (Cond.classLink "NumberedSparks" (20 : Nat) "NumberedSparks$Reader") ∈ am_ws := am_t1 69 rfl rfl
theorem wd_70 : (Cond.instantiable "NumberedSparks$Reader" (9 : Nat)) ∈ am_ws := am_t1 70 rfl rfl
theorem wd_71 : (Cond.methodLinkNest "NumberedSparks" (22 : Nat) ({ cls := "NumberedSparks$Reader", name := "<init>", desc := "()V" } : MethodName) "NumberedSparks") ∈ am_ws := am_t1 71 rfl rfl
theorem wd_72 : (Cond.instanceMethod ({ cls := "NumberedSparks$Reader", name := "<init>", desc := "()V" } : MethodName)) ∈ am_ws := am_t1 72 rfl rfl
theorem wd_73 : (Cond.code ({ cls := "NumberedSparks$Reader", name := "<init>", desc := "()V" } : MethodName) prog_6_method_1_code (1 : Nat) (Option.none : Option FieldType)) ∈ am_ws := am_t1 73 rfl rfl
theorem wd_74 : (Cond.methodLink "NumberedSparks$Reader" (3 : Nat) ({ cls := "java/lang/Object", name := "<init>", desc := "()V" } : MethodName)) ∈ am_ws := am_t1 74 rfl rfl
theorem wd_75 : (Cond.classLink "NumberedSparks$Reader" (9 : Nat) "NumberedSparks$Scene") ∈ am_ws := am_t1 75 rfl rfl
theorem wd_76 : (Cond.methodLinkNest "NumberedSparks$Reader" (11 : Nat) ({ cls := "NumberedSparks$Scene", name := "<init>", desc := "()V" } : MethodName) "NumberedSparks") ∈ am_ws := am_t1 76 rfl rfl
theorem wd_77 : (Cond.fieldLink "NumberedSparks$Reader" (12 : Nat) "NumberedSparks$Reader" "draft" "LNumberedSparks$Scene;") ∈ am_ws := am_t1 77 rfl rfl
theorem wd_78 : (Cond.fieldLink "NumberedSparks" (84 : Nat) "NumberedSparks$Reader" "draft" "LNumberedSparks$Scene;") ∈ am_ws := am_t1 78 rfl rfl
theorem wd_79 : (Cond.fieldLink "NumberedSparks$Reader" (38 : Nat) "NumberedSparks$Reader" "fault" "I") ∈ am_ws := am_t1 79 rfl rfl
theorem wd_80 : (Cond.fieldLink "NumberedSparks" (94 : Nat) "NumberedSparks$Reader" "fault" "I") ∈ am_ws := am_t1 80 rfl rfl
theorem wd_81 : (Cond.fieldLink "NumberedSparks$Reader" (18 : Nat) "NumberedSparks$Reader" "faultPlace" "I") ∈ am_ws := am_t1 81 rfl rfl
theorem wd_82 : (Cond.fieldLink "NumberedSparks" (97 : Nat) "NumberedSparks$Reader" "faultPlace" "I") ∈ am_ws := am_t1 82 rfl rfl
theorem wd_83 : (Cond.fieldLink "NumberedSparks$Reader" (22 : Nat) "NumberedSparks$Reader" "text" "[I") ∈ am_ws := am_t1 83 rfl rfl
theorem wd_84 : (Cond.fieldLink "NumberedSparks$Reader" (32 : Nat) "NumberedSparks$Reader" "length" "I") ∈ am_ws := am_t1 84 rfl rfl
theorem wd_85 : (Cond.fieldLink "NumberedSparks$Reader" (50 : Nat) "NumberedSparks$Reader" "token" "I") ∈ am_ws := am_t1 85 rfl rfl
theorem wd_86 : (Cond.fieldLink "NumberedSparks$Reader" (175 : Nat) "NumberedSparks$Reader" "start" "I") ∈ am_ws := am_t1 86 rfl rfl
theorem wd_87 : (Cond.fieldLink "NumberedSparks$Reader" (41 : Nat) "NumberedSparks$Reader" "beyond" "I") ∈ am_ws := am_t1 87 rfl rfl
theorem wd_88 : (Cond.fieldLink "NumberedSparks$Reader" (138 : Nat) "NumberedSparks$Reader" "value" "I") ∈ am_ws := am_t1 88 rfl rfl
theorem wd_108 : (Cond.classLink "NumberedSparks" (27 : Nat) "NumberedSparks$History") ∈ am_ws := am_t1 108 rfl rfl
theorem wd_109 : (Cond.instantiable "NumberedSparks$History" (4 : Nat)) ∈ am_ws := am_t1 109 rfl rfl
theorem wd_110 : (Cond.methodLinkNest "NumberedSparks" (29 : Nat) ({ cls := "NumberedSparks$History", name := "<init>", desc := "()V" } : MethodName) "NumberedSparks") ∈ am_ws := am_t1 110 rfl rfl
theorem wd_111 : (Cond.instanceMethod ({ cls := "NumberedSparks$History", name := "<init>", desc := "()V" } : MethodName)) ∈ am_ws := am_t1 111 rfl rfl
theorem wd_112 : (Cond.code ({ cls := "NumberedSparks$History", name := "<init>", desc := "()V" } : MethodName) prog_4_method_1_code (1 : Nat) (Option.none : Option FieldType)) ∈ am_ws := am_t1 112 rfl rfl
theorem wd_113 : (Cond.methodLink "NumberedSparks$History" (3 : Nat) ({ cls := "java/lang/Object", name := "<init>", desc := "()V" } : MethodName)) ∈ am_ws := am_t1 113 rfl rfl
theorem wd_114 : (Cond.fieldLink "NumberedSparks$History" (11 : Nat) "NumberedSparks$History" "kinds" "[I") ∈ am_ws := am_t1 114 rfl rfl
theorem wd_115 : (Cond.fieldLink "NumberedSparks$History" (15 : Nat) "NumberedSparks$History" "whats" "[I") ∈ am_ws := am_t1 115 rfl rfl
theorem wd_116 : (Cond.fieldLink "NumberedSparks$History" (18 : Nat) "NumberedSparks$History" "values" "[I") ∈ am_ws := am_t1 116 rfl rfl
theorem wd_117 : (Cond.fieldLink "NumberedSparks$History" (21 : Nat) "NumberedSparks$History" "length" "I") ∈ am_ws := am_t1 117 rfl rfl
theorem wd_118 : (Cond.fieldLink "NumberedSparks" (155 : Nat) "NumberedSparks$History" "length" "I") ∈ am_ws := am_t1 118 rfl rfl
theorem wd_128 : (Cond.classLink "NumberedSparks" (34 : Nat) "NumberedSparks$Output") ∈ am_ws := am_t1 128 rfl rfl
theorem wd_129 : (Cond.instantiable "NumberedSparks$Output" (2 : Nat)) ∈ am_ws := am_t1 129 rfl rfl
theorem wd_130 : (Cond.methodLinkNest "NumberedSparks" (36 : Nat) ({ cls := "NumberedSparks$Output", name := "<init>", desc := "()V" } : MethodName) "NumberedSparks") ∈ am_ws := am_t1 130 rfl rfl
theorem wd_131 : (Cond.instanceMethod ({ cls := "NumberedSparks$Output", name := "<init>", desc := "()V" } : MethodName)) ∈ am_ws := am_t1 131 rfl rfl
theorem wd_132 : (Cond.code ({ cls := "NumberedSparks$Output", name := "<init>", desc := "()V" } : MethodName) prog_5_method_1_code (1 : Nat) (Option.none : Option FieldType)) ∈ am_ws := am_t1 132 rfl rfl
theorem wd_133 : (Cond.methodLink "NumberedSparks$Output" (3 : Nat) ({ cls := "java/lang/Object", name := "<init>", desc := "()V" } : MethodName)) ∈ am_ws := am_t1 133 rfl rfl
theorem wd_134 : (Cond.fieldLink "NumberedSparks$Output" (9 : Nat) "NumberedSparks$Output" "bytes" "[I") ∈ am_ws := am_t1 134 rfl rfl
theorem wd_135 : (Cond.fieldLink "NumberedSparks$Output" (15 : Nat) "NumberedSparks$Output" "length" "I") ∈ am_ws := am_t1 135 rfl rfl
theorem wd_136 : (Cond.fieldLink "NumberedSparks" (113 : Nat) "NumberedSparks$Output" "length" "I") ∈ am_ws := am_t1 136 rfl rfl
theorem wd_142 : (Cond.classLink "NumberedSparks" (41 : Nat) "NumberedSparks$Walk") ∈ am_ws := am_t1 142 rfl rfl
theorem wd_143 : (Cond.instantiable "NumberedSparks$Walk" (9 : Nat)) ∈ am_ws := am_t1 143 rfl rfl
theorem wd_144 : (Cond.methodLink "NumberedSparks" (43 : Nat) ({ cls := "NumberedSparks$Walk", name := "<init>", desc := "(LNumberedSparks$Scene;)V" } : MethodName)) ∈ am_ws := am_t1 144 rfl rfl
theorem wd_145 : (Cond.instanceMethod ({ cls := "NumberedSparks$Walk", name := "<init>", desc := "(LNumberedSparks$Scene;)V" } : MethodName)) ∈ am_ws := am_t1 145 rfl rfl
theorem wd_146 : (Cond.code ({ cls := "NumberedSparks$Walk", name := "<init>", desc := "(LNumberedSparks$Scene;)V" } : MethodName) prog_9_method_1_code (3 : Nat) (Option.none : Option FieldType)) ∈ am_ws := am_t1 146 rfl rfl
theorem wd_147 : (Cond.methodLink "NumberedSparks$Walk" (3 : Nat) ({ cls := "java/lang/Object", name := "<init>", desc := "()V" } : MethodName)) ∈ am_ws := am_t1 147 rfl rfl
theorem wd_148 : (Cond.classLink "NumberedSparks$Walk" (9 : Nat) "NumberedSparks$Spark") ∈ am_ws := am_t1 148 rfl rfl
theorem wd_150 : (Cond.instantiable "NumberedSparks$Spark" (10 : Nat)) ∈ am_ws := am_t1 150 rfl rfl
theorem wd_151 : (Cond.methodLink "NumberedSparks$Walk" (34 : Nat) ({ cls := "NumberedSparks$Spark", name := "<init>", desc := "(LNumberedSparks$Scene;)V" } : MethodName)) ∈ am_ws := am_t1 151 rfl rfl
theorem wd_152 : (Cond.instanceMethod ({ cls := "NumberedSparks$Spark", name := "<init>", desc := "(LNumberedSparks$Scene;)V" } : MethodName)) ∈ am_ws := am_t1 152 rfl rfl
theorem wd_153 : (Cond.code ({ cls := "NumberedSparks$Spark", name := "<init>", desc := "(LNumberedSparks$Scene;)V" } : MethodName) prog_8_method_1_code (2 : Nat) (Option.none : Option FieldType)) ∈ am_ws := am_t1 153 rfl rfl
theorem wd_154 : (Cond.methodLink "NumberedSparks$Spark" (3 : Nat) ({ cls := "java/lang/Object", name := "<init>", desc := "()V" } : MethodName)) ∈ am_ws := am_t1 154 rfl rfl
theorem wd_155 : (Cond.fieldLink "NumberedSparks$Spark" (18 : Nat) "NumberedSparks$Spark" "scene" "LNumberedSparks$Scene;") ∈ am_ws := am_t1 155 rfl rfl
theorem wd_156 : (Cond.fieldLink "NumberedSparks$Spark" (9 : Nat) "NumberedSparks$Spark" "start" "[I") ∈ am_ws := am_t1 156 rfl rfl
theorem wd_157 : (Cond.fieldLink "NumberedSparks$Spark" (15 : Nat) "NumberedSparks$Spark" "speed" "[I") ∈ am_ws := am_t1 157 rfl rfl
theorem wd_158 : (Cond.fieldLink "NumberedSparks$Spark" (26 : Nat) "NumberedSparks$Spark" "code" "I") ∈ am_ws := am_t1 158 rfl rfl
theorem wd_159 : (Cond.fieldLink "NumberedSparks$Frame" (74 : Nat) "NumberedSparks$Spark" "code" "I") ∈ am_ws := am_t1 159 rfl rfl
theorem wd_160 : (Cond.fieldLink "NumberedSparks" (249 : Nat) "NumberedSparks$Spark" "code" "I") ∈ am_ws := am_t1 160 rfl rfl
theorem wd_161 : (Cond.fieldLink "NumberedSparks$Spark" (35 : Nat) "NumberedSparks$Spark" "kind" "I") ∈ am_ws := am_t1 161 rfl rfl
theorem wd_162 : (Cond.fieldLink "NumberedSparks$Frame" (79 : Nat) "NumberedSparks$Spark" "kind" "I") ∈ am_ws := am_t1 162 rfl rfl
theorem wd_163 : (Cond.fieldLink "NumberedSparks$Walk" (101 : Nat) "NumberedSparks$Spark" "kind" "I") ∈ am_ws := am_t1 163 rfl rfl
theorem wd_164 : (Cond.fieldLink "NumberedSparks" (180 : Nat) "NumberedSparks$Spark" "kind" "I") ∈ am_ws := am_t1 164 rfl rfl
theorem wd_165 : (Cond.fieldLink "NumberedSparks$Spark" (38 : Nat) "NumberedSparks$Spark" "generation" "I") ∈ am_ws := am_t1 165 rfl rfl
theorem wd_166 : (Cond.fieldLink "NumberedSparks$Walk" (118 : Nat) "NumberedSparks$Spark" "generation" "I") ∈ am_ws := am_t1 166 rfl rfl
theorem wd_167 : (Cond.fieldLink "NumberedSparks" (191 : Nat) "NumberedSparks$Spark" "generation" "I") ∈ am_ws := am_t1 167 rfl rfl
theorem wd_168 : (Cond.fieldLink "NumberedSparks$Spark" (41 : Nat) "NumberedSparks$Spark" "born" "I") ∈ am_ws := am_t1 168 rfl rfl
theorem wd_169 : (Cond.fieldLink "NumberedSparks$Frame" (82 : Nat) "NumberedSparks$Spark" "born" "I") ∈ am_ws := am_t1 169 rfl rfl
theorem wd_170 : (Cond.fieldLink "NumberedSparks$Walk" (112 : Nat) "NumberedSparks$Spark" "born" "I") ∈ am_ws := am_t1 170 rfl rfl
theorem wd_171 : (Cond.fieldLink "NumberedSparks" (197 : Nat) "NumberedSparks$Spark" "born" "I") ∈ am_ws := am_t1 171 rfl rfl
theorem wd_172 : (Cond.fieldLink "NumberedSparks$Spark" (51 : Nat) "NumberedSparks$Spark" "ends" "I") ∈ am_ws := am_t1 172 rfl rfl
theorem wd_173 : (Cond.fieldLink "NumberedSparks$Frame" (85 : Nat) "NumberedSparks$Spark" "ends" "I") ∈ am_ws := am_t1 173 rfl rfl
theorem wd_174 : (Cond.fieldLink "NumberedSparks$Walk" (115 : Nat) "NumberedSparks$Spark" "ends" "I") ∈ am_ws := am_t1 174 rfl rfl
theorem wd_175 : (Cond.fieldLink "NumberedSparks" (200 : Nat) "NumberedSparks$Spark" "ends" "I") ∈ am_ws := am_t1 175 rfl rfl
theorem wd_176 : (Cond.fieldLink "NumberedSparks$Spark" (60 : Nat) "NumberedSparks$Spark" "falls" "I") ∈ am_ws := am_t1 176 rfl rfl
theorem wd_177 : (Cond.fieldLink "NumberedSparks$Spark" (63 : Nat) "NumberedSparks$Spark" "edge" "I") ∈ am_ws := am_t1 177 rfl rfl
theorem wd_199 : (Cond.fieldLink "NumberedSparks$Walk" (30 : Nat) "NumberedSparks$Walk" "scene" "LNumberedSparks$Scene;") ∈ am_ws := am_t1 199 rfl rfl
theorem wd_200 : (Cond.fieldLink "NumberedSparks$Walk" (11 : Nat) "NumberedSparks$Walk" "line" "[LNumberedSparks$Spark;") ∈ am_ws := am_t1 200 rfl rfl
theorem wd_201 : (Cond.fieldLink "NumberedSparks$Walk" (17 : Nat) "NumberedSparks$Walk" "shownRows" "[I") ∈ am_ws := am_t1 201 rfl rfl
theorem wd_202 : (Cond.fieldLink "NumberedSparks$Walk" (21 : Nat) "NumberedSparks$Walk" "nextRoot" "[I") ∈ am_ws := am_t1 202 rfl rfl
theorem wd_203 : (Cond.fieldLink "NumberedSparks$Walk" (24 : Nat) "NumberedSparks$Walk" "beyondRoots" "[I") ∈ am_ws := am_t1 203 rfl rfl
theorem wd_204 : (Cond.fieldLink "NumberedSparks$Walk" (27 : Nat) "NumberedSparks$Walk" "spans" "[I") ∈ am_ws := am_t1 204 rfl rfl
theorem wd_205 : (Cond.fieldLink "NumberedSparks$Walk" (37 : Nat) "NumberedSparks$Walk" "first" "I") ∈ am_ws := am_t1 205 rfl rfl
theorem wd_206 : (Cond.fieldLink "NumberedSparks$Walk" (41 : Nat) "NumberedSparks$Walk" "beyond" "I") ∈ am_ws := am_t1 206 rfl rfl
theorem wd_207 : (Cond.fieldLink "NumberedSparks$Frame" (57 : Nat) "NumberedSparks$Walk" "showing" "I") ∈ am_ws := am_t1 207 rfl rfl
theorem wd_208 : (Cond.fieldLink "NumberedSparks$Walk" (76 : Nat) "NumberedSparks$Walk" "showing" "I") ∈ am_ws := am_t1 208 rfl rfl
theorem wd_209 : (Cond.fieldLink "NumberedSparks" (243 : Nat) "NumberedSparks$Walk" "showing" "I") ∈ am_ws := am_t1 209 rfl rfl
theorem wd_229 : (Cond.classLink "NumberedSparks" (50 : Nat) "NumberedSparks$Frame") ∈ am_ws := am_t1 229 rfl rfl
theorem wd_230 : (Cond.instantiable "NumberedSparks$Frame" (7 : Nat)) ∈ am_ws := am_t1 230 rfl rfl
theorem wd_231 : (Cond.methodLink "NumberedSparks" (52 : Nat) ({ cls := "NumberedSparks$Frame", name := "<init>", desc := "(LNumberedSparks$Scene;LNumberedSparks$Walk;)V" } : MethodName)) ∈ am_ws := am_t1 231 rfl rfl
theorem wd_232 : (Cond.instanceMethod ({ cls := "NumberedSparks$Frame", name := "<init>", desc := "(LNumberedSparks$Scene;LNumberedSparks$Walk;)V" } : MethodName)) ∈ am_ws := am_t1 232 rfl rfl
theorem wd_233 : (Cond.code ({ cls := "NumberedSparks$Frame", name := "<init>", desc := "(LNumberedSparks$Scene;LNumberedSparks$Walk;)V" } : MethodName) prog_3_method_1_code (3 : Nat) (Option.none : Option FieldType)) ∈ am_ws := am_t1 233 rfl rfl
theorem wd_234 : (Cond.methodLink "NumberedSparks$Frame" (3 : Nat) ({ cls := "java/lang/Object", name := "<init>", desc := "()V" } : MethodName)) ∈ am_ws := am_t1 234 rfl rfl
theorem wd_235 : (Cond.fieldLink "NumberedSparks$Frame" (25 : Nat) "NumberedSparks$Frame" "scene" "LNumberedSparks$Scene;") ∈ am_ws := am_t1 235 rfl rfl
theorem wd_236 : (Cond.fieldLink "NumberedSparks$Frame" (29 : Nat) "NumberedSparks$Frame" "walk" "LNumberedSparks$Walk;") ∈ am_ws := am_t1 236 rfl rfl
theorem wd_237 : (Cond.fieldLink "NumberedSparks$Frame" (43 : Nat) "NumberedSparks$Frame" "length" "I") ∈ am_ws := am_t1 237 rfl rfl
theorem wd_238 : (Cond.fieldLink "NumberedSparks" (310 : Nat) "NumberedSparks$Frame" "length" "I") ∈ am_ws := am_t1 238 rfl rfl
theorem wd_239 : (Cond.fieldLink "NumberedSparks$Frame" (11 : Nat) "NumberedSparks$Frame" "rows" "[I") ∈ am_ws := am_t1 239 rfl rfl
theorem wd_240 : (Cond.fieldLink "NumberedSparks$Frame" (15 : Nat) "NumberedSparks$Frame" "order" "[I") ∈ am_ws := am_t2 0 rfl rfl
theorem wd_241 : (Cond.fieldLink "NumberedSparks$Frame" (18 : Nat) "NumberedSparks$Frame" "depths" "[I") ∈ am_ws := am_t2 1 rfl rfl
theorem wd_242 : (Cond.fieldLink "NumberedSparks$Frame" (21 : Nat) "NumberedSparks$Frame" "tick" "I") ∈ am_ws := am_t2 2 rfl rfl
theorem wd_258 : (Cond.classLink "NumberedSparks" (59 : Nat) "NumberedSparks$Finder") ∈ am_ws := am_t2 18 rfl rfl
theorem wd_259 : (Cond.instantiable "NumberedSparks$Finder" (4 : Nat)) ∈ am_ws := am_t2 19 rfl rfl
theorem wd_260 : (Cond.methodLink "NumberedSparks" (61 : Nat) ({ cls := "NumberedSparks$Finder", name := "<init>", desc := "(LNumberedSparks$Scene;)V" } : MethodName)) ∈ am_ws := am_t2 20 rfl rfl
theorem wd_261 : (Cond.instanceMethod ({ cls := "NumberedSparks$Finder", name := "<init>", desc := "(LNumberedSparks$Scene;)V" } : MethodName)) ∈ am_ws := am_t2 21 rfl rfl
theorem wd_262 : (Cond.code ({ cls := "NumberedSparks$Finder", name := "<init>", desc := "(LNumberedSparks$Scene;)V" } : MethodName) prog_2_method_1_code (2 : Nat) (Option.none : Option FieldType)) ∈ am_ws := am_t2 22 rfl rfl
theorem wd_263 : (Cond.methodLink "NumberedSparks$Finder" (1 : Nat) ({ cls := "java/lang/Object", name := "<init>", desc := "()V" } : MethodName)) ∈ am_ws := am_t2 23 rfl rfl
theorem wd_264 : (Cond.classLink "NumberedSparks$Finder" (13 : Nat) "NumberedSparks$Spark") ∈ am_ws := am_t2 24 rfl rfl
theorem wd_265 : (Cond.methodLink "NumberedSparks$Finder" (15 : Nat) ({ cls := "NumberedSparks$Spark", name := "<init>", desc := "(LNumberedSparks$Scene;)V" } : MethodName)) ∈ am_ws := am_t2 25 rfl rfl
theorem wd_266 : (Cond.fieldLink "NumberedSparks$Finder" (7 : Nat) "NumberedSparks$Finder" "scene" "LNumberedSparks$Scene;") ∈ am_ws := am_t2 26 rfl rfl
theorem wd_267 : (Cond.fieldLink "NumberedSparks$Finder" (18 : Nat) "NumberedSparks$Finder" "own" "LNumberedSparks$Spark;") ∈ am_ws := am_t2 27 rfl rfl
theorem wd_268 : (Cond.fieldLink "NumberedSparks$Finder" (22 : Nat) "NumberedSparks$Finder" "child" "LNumberedSparks$Spark;") ∈ am_ws := am_t2 28 rfl rfl
theorem wd_269 : (Cond.fieldLink "NumberedSparks$Finder" (25 : Nat) "NumberedSparks$Finder" "grandchild" "LNumberedSparks$Spark;") ∈ am_ws := am_t2 29 rfl rfl
theorem wd_279 : (Cond.fieldLink "NumberedSparks" (9 : Nat) "NumberedSparks" "tape" "[I") ∈ am_ws := am_t2 39 rfl rfl
theorem wd_280 : (Cond.fieldLink "NumberedSparks" (72 : Nat) "NumberedSparks" "tapeLength" "I") ∈ am_ws := am_t2 40 rfl rfl
theorem wd_281 : (Cond.fieldLink "NumberedSparks" (16 : Nat) "NumberedSparks" "scene" "LNumberedSparks$Scene;") ∈ am_ws := am_t2 41 rfl rfl
theorem wd_282 : (Cond.fieldLink "NumberedSparks" (23 : Nat) "NumberedSparks" "reader" "LNumberedSparks$Reader;") ∈ am_ws := am_t2 42 rfl rfl
theorem wd_283 : (Cond.fieldLink "NumberedSparks" (30 : Nat) "NumberedSparks" "history" "LNumberedSparks$History;") ∈ am_ws := am_t2 43 rfl rfl
theorem wd_284 : (Cond.fieldLink "NumberedSparks" (37 : Nat) "NumberedSparks" "out" "LNumberedSparks$Output;") ∈ am_ws := am_t2 44 rfl rfl
theorem wd_285 : (Cond.fieldLink "NumberedSparks" (46 : Nat) "NumberedSparks" "walk" "LNumberedSparks$Walk;") ∈ am_ws := am_t2 45 rfl rfl
theorem wd_286 : (Cond.fieldLink "NumberedSparks" (55 : Nat) "NumberedSparks" "frame" "LNumberedSparks$Frame;") ∈ am_ws := am_t2 46 rfl rfl
theorem wd_287 : (Cond.fieldLink "NumberedSparks" (62 : Nat) "NumberedSparks" "finder" "LNumberedSparks$Finder;") ∈ am_ws := am_t2 47 rfl rfl
theorem wd_288 : (Cond.fieldLink "NumberedSparks" (66 : Nat) "NumberedSparks" "otherFinder" "LNumberedSparks$Finder;") ∈ am_ws := am_t2 48 rfl rfl
theorem wd_289 : (Cond.fieldLink "NumberedSparks" (69 : Nat) "NumberedSparks" "counts" "[I") ∈ am_ws := am_t2 49 rfl rfl
theorem wd_313 : (Cond.methodLink "NumberedSparksLaw" (13 : Nat) ({ cls := "NumberedSparks", name := "feed", desc := "(IIIII)I" } : MethodName)) ∈ am_ws := am_t2 73 rfl rfl
theorem wd_314 : (Cond.instanceMethod ({ cls := "NumberedSparks", name := "feed", desc := "(IIIII)I" } : MethodName)) ∈ am_ws := am_t2 74 rfl rfl
theorem wd_315 : (Cond.selects "NumberedSparks" ({ cls := "NumberedSparks", name := "feed", desc := "(IIIII)I" } : MethodName) ({ cls := "NumberedSparks", name := "feed", desc := "(IIIII)I" } : MethodName)) ∈ am_ws := am_t2 75 rfl rfl
theorem wd_316 : (Cond.code ({ cls := "NumberedSparks", name := "feed", desc := "(IIIII)I" } : MethodName) prog_1_method_2_code (6 : Nat) (Option.some FieldType.int)) ∈ am_ws := am_t2 76 rfl rfl
theorem wd_317 : (Cond.methodLink "NumberedSparks" (76 : Nat) ({ cls := "NumberedSparks", name := "putOnTape", desc := "(I)V" } : MethodName)) ∈ am_ws := am_t2 77 rfl rfl
theorem wd_319 : (Cond.instanceMethod ({ cls := "NumberedSparks", name := "putOnTape", desc := "(I)V" } : MethodName)) ∈ am_ws := am_t2 79 rfl rfl
theorem wd_320 : (Cond.code ({ cls := "NumberedSparks", name := "putOnTape", desc := "(I)V" } : MethodName) prog_1_method_3_code (3 : Nat) (Option.none : Option FieldType)) ∈ am_ws := am_t2 80 rfl rfl
theorem wd_321 : (Cond.methodLink "NumberedSparksLaw" (18 : Nat) ({ cls := "NumberedSparks", name := "end", desc := "(I)I" } : MethodName)) ∈ am_ws := am_t2 81 rfl rfl
theorem wd_322 : (Cond.instanceMethod ({ cls := "NumberedSparks", name := "end", desc := "(I)I" } : MethodName)) ∈ am_ws := am_t2 82 rfl rfl
theorem wd_323 : (Cond.selects "NumberedSparks" ({ cls := "NumberedSparks", name := "end", desc := "(I)I" } : MethodName) ({ cls := "NumberedSparks", name := "end", desc := "(I)I" } : MethodName)) ∈ am_ws := am_t2 83 rfl rfl
theorem wd_324 : (Cond.code ({ cls := "NumberedSparks", name := "end", desc := "(I)I" } : MethodName) prog_1_method_4_code (2 : Nat) (Option.some FieldType.int)) ∈ am_ws := am_t2 84 rfl rfl
theorem wd_325 : (Cond.methodLink "NumberedSparksLaw" (23 : Nat) ({ cls := "NumberedSparks", name := "scene", desc := "()I" } : MethodName)) ∈ am_ws := am_t2 85 rfl rfl
theorem wd_326 : (Cond.instanceMethod ({ cls := "NumberedSparks", name := "scene", desc := "()I" } : MethodName)) ∈ am_ws := am_t2 86 rfl rfl
theorem wd_327 : (Cond.selects "NumberedSparks" ({ cls := "NumberedSparks", name := "scene", desc := "()I" } : MethodName) ({ cls := "NumberedSparks", name := "scene", desc := "()I" } : MethodName)) ∈ am_ws := am_t2 87 rfl rfl
theorem wd_328 : (Cond.code ({ cls := "NumberedSparks", name := "scene", desc := "()I" } : MethodName) prog_1_method_5_code (2 : Nat) (Option.some FieldType.int)) ∈ am_ws := am_t2 88 rfl rfl
theorem wd_329 : (Cond.methodLink "NumberedSparks" (80 : Nat) ({ cls := "NumberedSparks$Reader", name := "read", desc := "([II)I" } : MethodName)) ∈ am_ws := am_t2 89 rfl rfl
theorem wd_330 : (Cond.instanceMethod ({ cls := "NumberedSparks$Reader", name := "read", desc := "([II)I" } : MethodName)) ∈ am_ws := am_t2 90 rfl rfl
theorem wd_331 : (Cond.selects "NumberedSparks$Reader" ({ cls := "NumberedSparks$Reader", name := "read", desc := "([II)I" } : MethodName) ({ cls := "NumberedSparks$Reader", name := "read", desc := "([II)I" } : MethodName)) ∈ am_ws := am_t2 91 rfl rfl
theorem wd_332 : (Cond.code ({ cls := "NumberedSparks$Reader", name := "read", desc := "([II)I" } : MethodName) prog_6_method_2_code (5 : Nat) (Option.some FieldType.int)) ∈ am_ws := am_t2 92 rfl rfl
theorem wd_333 : (Cond.methodLink "NumberedSparks$Reader" (26 : Nat) ({ cls := "java/lang/Math", name := "min", desc := "(II)I" } : MethodName)) ∈ am_ws := am_t2 93 rfl rfl
theorem wd_334 : (Cond.static ({ cls := "java/lang/Math", name := "min", desc := "(II)I" } : MethodName)) ∈ am_ws := am_t2 94 rfl rfl
theorem wd_335 : (Cond.code ({ cls := "java/lang/Math", name := "min", desc := "(II)I" } : MethodName) prog_13_method_69_code (2 : Nat) (Option.some FieldType.int)) ∈ am_ws := am_t2 95 rfl rfl
theorem wd_336 : (Cond.methodLink "NumberedSparks$Reader" (35 : Nat) ({ cls := "NumberedSparks$Scene", name := "clear", desc := "()V" } : MethodName)) ∈ am_ws := am_t2 96 rfl rfl
theorem wd_337 : (Cond.instanceMethod ({ cls := "NumberedSparks$Scene", name := "clear", desc := "()V" } : MethodName)) ∈ am_ws := am_t2 97 rfl rfl
theorem wd_338 : (Cond.selects "NumberedSparks$Scene" ({ cls := "NumberedSparks$Scene", name := "clear", desc := "()V" } : MethodName) ({ cls := "NumberedSparks$Scene", name := "clear", desc := "()V" } : MethodName)) ∈ am_ws := am_t2 98 rfl rfl
theorem wd_339 : (Cond.code ({ cls := "NumberedSparks$Scene", name := "clear", desc := "()V" } : MethodName) prog_7_method_2_code (1 : Nat) (Option.none : Option FieldType)) ∈ am_ws := am_t2 99 rfl rfl
theorem wd_340 : (Cond.methodLink "NumberedSparks$Scene" (21 : Nat) ({ cls := "java/util/Arrays", name := "fill", desc := "([II)V" } : MethodName)) ∈ am_ws := am_t2 100 rfl rfl
theorem wd_341 : (Cond.static ({ cls := "java/util/Arrays", name := "fill", desc := "([II)V" } : MethodName)) ∈ am_ws := am_t2 101 rfl rfl
theorem wd_342 : (Cond.code ({ cls := "java/util/Arrays", name := "fill", desc := "([II)V" } : MethodName) prog_18_method_103_code (4 : Nat) (Option.none : Option FieldType)) ∈ am_ws := am_t2 102 rfl rfl
theorem wd_343 : (Cond.methodLink "NumberedSparks$Reader" (44 : Nat) ({ cls := "NumberedSparks$Reader", name := "advance", desc := "()V" } : MethodName)) ∈ am_ws := am_t2 103 rfl rfl
theorem wd_345 : (Cond.instanceMethod ({ cls := "NumberedSparks$Reader", name := "advance", desc := "()V" } : MethodName)) ∈ am_ws := am_t2 105 rfl rfl
theorem wd_346 : (Cond.code ({ cls := "NumberedSparks$Reader", name := "advance", desc := "()V" } : MethodName) prog_6_method_19_code (1 : Nat) (Option.none : Option FieldType)) ∈ am_ws := am_t2 106 rfl rfl
theorem wd_347 : (Cond.methodLink "NumberedSparks$Reader" (182 : Nat) ({ cls := "NumberedSparks$Reader", name := "byteAt", desc := "(I)I" } : MethodName)) ∈ am_ws := am_t2 107 rfl rfl
theorem wd_349 : (Cond.instanceMethod ({ cls := "NumberedSparks$Reader", name := "byteAt", desc := "(I)I" } : MethodName)) ∈ am_ws := am_t2 109 rfl rfl
theorem wd_350 : (Cond.code ({ cls := "NumberedSparks$Reader", name := "byteAt", desc := "(I)I" } : MethodName) prog_6_method_16_code (2 : Nat) (Option.some FieldType.int)) ∈ am_ws := am_t2 110 rfl rfl
theorem wd_351 : (Cond.methodLink "NumberedSparks$Reader" (189 : Nat) ({ cls := "NumberedSparks$Reader", name := "isLetter", desc := "(I)Z" } : MethodName)) ∈ am_ws := am_t2 111 rfl rfl
theorem wd_352 : (Cond.static ({ cls := "NumberedSparks$Reader", name := "isLetter", desc := "(I)Z" } : MethodName)) ∈ am_ws := am_t2 112 rfl rfl
theorem wd_353 : (Cond.code ({ cls := "NumberedSparks$Reader", name := "isLetter", desc := "(I)Z" } : MethodName) prog_6_method_17_code (1 : Nat) (Option.some FieldType.boolean)) ∈ am_ws := am_t2 113 rfl rfl
theorem wd_354 : (Cond.methodLink "NumberedSparks$Reader" (193 : Nat) ({ cls := "NumberedSparks$Reader", name := "isDigit", desc := "(I)Z" } : MethodName)) ∈ am_ws := am_t2 114 rfl rfl
theorem wd_355 : (Cond.static ({ cls := "NumberedSparks$Reader", name := "isDigit", desc := "(I)Z" } : MethodName)) ∈ am_ws := am_t2 115 rfl rfl
theorem wd_356 : (Cond.code ({ cls := "NumberedSparks$Reader", name := "isDigit", desc := "(I)Z" } : MethodName) prog_6_method_18_code (1 : Nat) (Option.some FieldType.boolean)) ∈ am_ws := am_t2 116 rfl rfl
theorem wd_357 : (Cond.constant "NumberedSparks$Reader" (196 : Nat) (100000000 : Int32)) ∈ am_ws := am_t2 117 rfl rfl
theorem wd_358 : (Cond.methodLink "NumberedSparks$Reader" (47 : Nat) ({ cls := "NumberedSparks$Reader", name := "readWorld", desc := "()V" } : MethodName)) ∈ am_ws := am_t2 118 rfl rfl
theorem wd_360 : (Cond.instanceMethod ({ cls := "NumberedSparks$Reader", name := "readWorld", desc := "()V" } : MethodName)) ∈ am_ws := am_t2 120 rfl rfl
theorem wd_361 : (Cond.code ({ cls := "NumberedSparks$Reader", name := "readWorld", desc := "()V" } : MethodName) prog_6_method_3_code (2 : Nat) (Option.none : Option FieldType)) ∈ am_ws := am_t2 121 rfl rfl
theorem wd_363 : (Cond.methodLink "NumberedSparks$Reader" (82 : Nat) ({ cls := "NumberedSparks$Reader", name := "needWord", desc := "(Ljava/lang/String;)V" } : MethodName)) ∈ am_ws := am_t2 123 rfl rfl
theorem wd_365 : (Cond.instanceMethod ({ cls := "NumberedSparks$Reader", name := "needWord", desc := "(Ljava/lang/String;)V" } : MethodName)) ∈ am_ws := am_t2 125 rfl rfl
theorem wd_366 : (Cond.code ({ cls := "NumberedSparks$Reader", name := "needWord", desc := "(Ljava/lang/String;)V" } : MethodName) prog_6_method_12_code (2 : Nat) (Option.none : Option FieldType)) ∈ am_ws := am_t2 126 rfl rfl
theorem wd_367 : (Cond.methodLink "NumberedSparks$Reader" (135 : Nat) ({ cls := "NumberedSparks$Reader", name := "takeWord", desc := "(Ljava/lang/String;)Z" } : MethodName)) ∈ am_ws := am_t2 127 rfl rfl
theorem wd_369 : (Cond.instanceMethod ({ cls := "NumberedSparks$Reader", name := "takeWord", desc := "(Ljava/lang/String;)Z" } : MethodName)) ∈ am_ws := am_t2 129 rfl rfl
theorem wd_370 : (Cond.code ({ cls := "NumberedSparks$Reader", name := "takeWord", desc := "(Ljava/lang/String;)Z" } : MethodName) prog_6_method_11_code (2 : Nat) (Option.some FieldType.boolean)) ∈ am_ws := am_t2 130 rfl rfl
theorem wd_371 : (Cond.methodLink "NumberedSparks$Reader" (55 : Nat) ({ cls := "NumberedSparks$Reader", name := "isWord", desc := "(Ljava/lang/String;)Z" } : MethodName)) ∈ am_ws := am_t2 131 rfl rfl
theorem wd_373 : (Cond.instanceMethod ({ cls := "NumberedSparks$Reader", name := "isWord", desc := "(Ljava/lang/String;)Z" } : MethodName)) ∈ am_ws := am_t2 133 rfl rfl
theorem wd_374 : (Cond.code ({ cls := "NumberedSparks$Reader", name := "isWord", desc := "(Ljava/lang/String;)Z" } : MethodName) prog_6_method_10_code (3 : Nat) (Option.some FieldType.boolean)) ∈ am_ws := am_t2 134 rfl rfl
theorem wd_375 : (Cond.methodLink "NumberedSparks$Reader" (178 : Nat) ({ cls := "java/lang/String", name := "length", desc := "()I" } : MethodName)) ∈ am_ws := am_t2 135 rfl rfl
theorem wd_376 : (Cond.instanceMethod ({ cls := "java/lang/String", name := "length", desc := "()I" } : MethodName)) ∈ am_ws := am_t2 136 rfl rfl
theorem wd_377 : (Cond.selects "java/lang/String" ({ cls := "java/lang/String", name := "length", desc := "()I" } : MethodName) ({ cls := "java/lang/String", name := "length", desc := "()I" } : MethodName)) ∈ am_ws := am_t2 137 rfl rfl
theorem wd_378 : (Cond.code ({ cls := "java/lang/String", name := "length", desc := "()I" } : MethodName) prog_14_method_54_code (1 : Nat) (Option.some FieldType.int)) ∈ am_ws := am_t2 138 rfl rfl
theorem wd_379 : (Cond.methodLink "java/lang/String" (335 : Nat) ({ cls := "java/lang/String", name := "coder", desc := "()B" } : MethodName)) ∈ am_ws := am_t2 139 rfl rfl
theorem wd_380 : (Cond.instanceMethod ({ cls := "java/lang/String", name := "coder", desc := "()B" } : MethodName)) ∈ am_ws := am_t2 140 rfl rfl
theorem wd_381 : (Cond.selects "java/lang/String" ({ cls := "java/lang/String", name := "coder", desc := "()B" } : MethodName) ({ cls := "java/lang/String", name := "coder", desc := "()B" } : MethodName)) ∈ am_ws := am_t2 141 rfl rfl
theorem wd_382 : (Cond.code ({ cls := "java/lang/String", name := "coder", desc := "()B" } : MethodName) prog_14_method_152_code (1 : Nat) (Option.some FieldType.byte)) ∈ am_ws := am_t2 142 rfl rfl
theorem wd_383 : (Cond.fieldLink "java/lang/String" (38 : Nat) "java/lang/String" "COMPACT_STRINGS" "Z") ∈ am_ws := am_t2 143 rfl rfl
theorem wd_385 : (Cond.methodLink "NumberedSparks$Reader" (185 : Nat) ({ cls := "java/lang/String", name := "charAt", desc := "(I)C" } : MethodName)) ∈ am_ws := am_t2 145 rfl rfl
theorem wd_386 : (Cond.instanceMethod ({ cls := "java/lang/String", name := "charAt", desc := "(I)C" } : MethodName)) ∈ am_ws := am_t2 146 rfl rfl
theorem wd_387 : (Cond.selects "java/lang/String" ({ cls := "java/lang/String", name := "charAt", desc := "(I)C" } : MethodName) ({ cls := "java/lang/String", name := "charAt", desc := "(I)C" } : MethodName)) ∈ am_ws := am_t2 147 rfl rfl
theorem wd_388 : (Cond.code ({ cls := "java/lang/String", name := "charAt", desc := "(I)C" } : MethodName) prog_14_method_56_code (2 : Nat) (Option.some FieldType.char)) ∈ am_ws := am_t2 148 rfl rfl
theorem wd_389 : (Cond.methodLink "java/lang/String" (492 : Nat) ({ cls := "java/lang/String", name := "isLatin1", desc := "()Z" } : MethodName)) ∈ am_ws := am_t2 149 rfl rfl
theorem wd_390 : (Cond.instanceMethod ({ cls := "java/lang/String", name := "isLatin1", desc := "()Z" } : MethodName)) ∈ am_ws := am_t2 150 rfl rfl
theorem wd_391 : (Cond.selects "java/lang/String" ({ cls := "java/lang/String", name := "isLatin1", desc := "()Z" } : MethodName) ({ cls := "java/lang/String", name := "isLatin1", desc := "()Z" } : MethodName)) ∈ am_ws := am_t2 151 rfl rfl
theorem wd_392 : (Cond.code ({ cls := "java/lang/String", name := "isLatin1", desc := "()Z" } : MethodName) prog_14_method_154_code (1 : Nat) (Option.some FieldType.boolean)) ∈ am_ws := am_t2 152 rfl rfl
theorem wd_393 : (Cond.methodLink "java/lang/String" (495 : Nat) ({ cls := "java/lang/StringLatin1", name := "charAt", desc := "([BI)C" } : MethodName)) ∈ am_ws := am_t2 153 rfl rfl
theorem wd_394 : (Cond.static ({ cls := "java/lang/StringLatin1", name := "charAt", desc := "([BI)C" } : MethodName)) ∈ am_ws := am_t2 154 rfl rfl
theorem wd_395 : (Cond.code ({ cls := "java/lang/StringLatin1", name := "charAt", desc := "([BI)C" } : MethodName) prog_15_method_2_code (2 : Nat) (Option.some FieldType.char)) ∈ am_ws := am_t2 155 rfl rfl
theorem wd_396 : (Cond.methodLink "java/lang/StringLatin1" (9 : Nat) ({ cls := "java/lang/String", name := "checkIndex", desc := "(II)V" } : MethodName)) ∈ am_ws := am_t2 156 rfl rfl
theorem wd_397 : (Cond.static ({ cls := "java/lang/String", name := "checkIndex", desc := "(II)V" } : MethodName)) ∈ am_ws := am_t2 157 rfl rfl
theorem wd_398 : (Cond.code ({ cls := "java/lang/String", name := "checkIndex", desc := "(II)V" } : MethodName) prog_14_method_155_code (2 : Nat) (Option.none : Option FieldType)) ∈ am_ws := am_t2 158 rfl rfl
theorem wd_399 : (Cond.fieldLink "java/lang/String" (1053 : Nat) "jdk/internal/util/Preconditions" "SIOOBE_FORMATTER" "Ljava/util/function/BiFunction;") ∈ am_ws := am_t2 159 rfl rfl
theorem wd_401 : (Cond.methodLink "java/lang/String" (1059 : Nat) ({ cls := "jdk/internal/util/Preconditions", name := "checkIndex", desc := "(IILjava/util/function/BiFunction;)I" } : MethodName)) ∈ am_ws := am_t2 161 rfl rfl
theorem wd_402 : (Cond.static ({ cls := "jdk/internal/util/Preconditions", name := "checkIndex", desc := "(IILjava/util/function/BiFunction;)I" } : MethodName)) ∈ am_ws := am_t2 162 rfl rfl
theorem wd_403 : (Cond.code ({ cls := "jdk/internal/util/Preconditions", name := "checkIndex", desc := "(IILjava/util/function/BiFunction;)I" } : MethodName) prog_19_method_11_code (3 : Nat) (Option.some FieldType.int)) ∈ am_ws := am_t2 163 rfl rfl
theorem wd_404 : (Cond.methodLink "java/lang/String" (498 : Nat) ({ cls := "java/lang/StringUTF16", name := "charAt", desc := "([BI)C" } : MethodName)) ∈ am_ws := am_t2 164 rfl rfl
theorem wd_405 : (Cond.static ({ cls := "java/lang/StringUTF16", name := "charAt", desc := "([BI)C" } : MethodName)) ∈ am_ws := am_t2 165 rfl rfl
theorem wd_406 : (Cond.code ({ cls := "java/lang/StringUTF16", name := "charAt", desc := "([BI)C" } : MethodName) prog_16_method_83_code (2 : Nat) (Option.some FieldType.char)) ∈ am_ws := am_t2 166 rfl rfl
theorem wd_407 : (Cond.methodLink "java/lang/StringUTF16" (67 : Nat) ({ cls := "java/lang/StringUTF16", name := "checkIndex", desc := "(I[B)V" } : MethodName)) ∈ am_ws := am_t2 167 rfl rfl
theorem wd_408 : (Cond.static ({ cls := "java/lang/StringUTF16", name := "checkIndex", desc := "(I[B)V" } : MethodName)) ∈ am_ws := am_t2 168 rfl rfl
theorem wd_409 : (Cond.code ({ cls := "java/lang/StringUTF16", name := "checkIndex", desc := "(I[B)V" } : MethodName) prog_16_method_91_code (2 : Nat) (Option.none : Option FieldType)) ∈ am_ws := am_t2 169 rfl rfl
theorem wd_410 : (Cond.methodLink "java/lang/StringUTF16" (48 : Nat) ({ cls := "java/lang/StringUTF16", name := "length", desc := "([B)I" } : MethodName)) ∈ am_ws := am_t2 170 rfl rfl
theorem wd_411 : (Cond.static ({ cls := "java/lang/StringUTF16", name := "length", desc := "([B)I" } : MethodName)) ∈ am_ws := am_t2 171 rfl rfl
theorem wd_412 : (Cond.code ({ cls := "java/lang/StringUTF16", name := "length", desc := "([B)I" } : MethodName) prog_16_method_6_code (1 : Nat) (Option.some FieldType.int)) ∈ am_ws := am_t2 172 rfl rfl
theorem wd_413 : (Cond.methodLink "java/lang/StringUTF16" (414 : Nat) ({ cls := "java/lang/String", name := "checkIndex", desc := "(II)V" } : MethodName)) ∈ am_ws := am_t2 173 rfl rfl
theorem wd_414 : (Cond.methodLink "java/lang/StringUTF16" (71 : Nat) ({ cls := "java/lang/StringUTF16", name := "getChar", desc := "([BI)C" } : MethodName)) ∈ am_ws := am_t2 174 rfl rfl
theorem wd_415 : (Cond.static ({ cls := "java/lang/StringUTF16", name := "getChar", desc := "([BI)C" } : MethodName)) ∈ am_ws := am_t2 175 rfl rfl
theorem wd_416 : (Cond.code ({ cls := "java/lang/StringUTF16", name := "getChar", desc := "([BI)C" } : MethodName) prog_16_method_5_code (2 : Nat) (Option.some FieldType.char)) ∈ am_ws := am_t2 176 rfl rfl
theorem wd_417 : (Cond.fieldLink "java/lang/StringUTF16" (44 : Nat) "java/lang/StringUTF16" "$assertionsDisabled" "Z") ∈ am_ws := am_t2 177 rfl rfl
theorem wd_419 : (Cond.fieldLink "java/lang/StringUTF16" (59 : Nat) "java/lang/StringUTF16" "HI_BYTE_SHIFT" "I") ∈ am_ws := am_t2 179 rfl rfl
theorem wd_421 : (Cond.fieldLink "java/lang/StringUTF16" (63 : Nat) "java/lang/StringUTF16" "LO_BYTE_SHIFT" "I") ∈ am_ws := am_t2 181 rfl rfl
theorem wd_423 : (Cond.methodLink "NumberedSparks$Reader" (72 : Nat) ({ cls := "NumberedSparks$Reader", name := "fail", desc := "(I)V" } : MethodName)) ∈ am_ws := am_t2 183 rfl rfl
theorem wd_425 : (Cond.instanceMethod ({ cls := "NumberedSparks$Reader", name := "fail", desc := "(I)V" } : MethodName)) ∈ am_ws := am_t2 185 rfl rfl
theorem wd_426 : (Cond.code ({ cls := "NumberedSparks$Reader", name := "fail", desc := "(I)V" } : MethodName) prog_6_method_15_code (2 : Nat) (Option.none : Option FieldType)) ∈ am_ws := am_t2 186 rfl rfl
theorem wd_427 : (Cond.methodLink "NumberedSparks$Reader" (86 : Nat) ({ cls := "NumberedSparks$Reader", name := "needNumber", desc := "(II)I" } : MethodName)) ∈ am_ws := am_t2 187 rfl rfl
theorem wd_429 : (Cond.instanceMethod ({ cls := "NumberedSparks$Reader", name := "needNumber", desc := "(II)I" } : MethodName)) ∈ am_ws := am_t2 189 rfl rfl
theorem wd_430 : (Cond.code ({ cls := "NumberedSparks$Reader", name := "needNumber", desc := "(II)I" } : MethodName) prog_6_method_14_code (4 : Nat) (Option.some FieldType.int)) ∈ am_ws := am_t2 190 rfl rfl
theorem wd_431 : (Cond.methodLink "NumberedSparks$Reader" (89 : Nat) ({ cls := "NumberedSparks$Scene", name := "setCells", desc := "(II)V" } : MethodName)) ∈ am_ws := am_t2 191 rfl rfl
theorem wd_432 : (Cond.instanceMethod ({ cls := "NumberedSparks$Scene", name := "setCells", desc := "(II)V" } : MethodName)) ∈ am_ws := am_t2 192 rfl rfl
theorem wd_433 : (Cond.selects "NumberedSparks$Scene" ({ cls := "NumberedSparks$Scene", name := "setCells", desc := "(II)V" } : MethodName) ({ cls := "NumberedSparks$Scene", name := "setCells", desc := "(II)V" } : MethodName)) ∈ am_ws := am_t2 193 rfl rfl
theorem wd_434 : (Cond.code ({ cls := "NumberedSparks$Scene", name := "setCells", desc := "(II)V" } : MethodName) prog_7_method_5_code (3 : Nat) (Option.none : Option FieldType)) ∈ am_ws := am_t2 194 rfl rfl
theorem wd_435 : (Cond.methodLink "NumberedSparks$Reader" (76 : Nat) ({ cls := "NumberedSparks$Reader", name := "needSign", desc := "(C)V" } : MethodName)) ∈ am_ws := am_t2 195 rfl rfl
theorem wd_437 : (Cond.instanceMethod ({ cls := "NumberedSparks$Reader", name := "needSign", desc := "(C)V" } : MethodName)) ∈ am_ws := am_t2 197 rfl rfl
theorem wd_438 : (Cond.code ({ cls := "NumberedSparks$Reader", name := "needSign", desc := "(C)V" } : MethodName) prog_6_method_13_code (2 : Nat) (Option.none : Option FieldType)) ∈ am_ws := am_t2 198 rfl rfl
theorem wd_440 : (Cond.methodLink "NumberedSparks$Reader" (59 : Nat) ({ cls := "NumberedSparks$Reader", name := "readSeed", desc := "()V" } : MethodName)) ∈ am_ws := am_t2 200 rfl rfl
theorem wd_442 : (Cond.instanceMethod ({ cls := "NumberedSparks$Reader", name := "readSeed", desc := "()V" } : MethodName)) ∈ am_ws := am_t2 202 rfl rfl
theorem wd_443 : (Cond.code ({ cls := "NumberedSparks$Reader", name := "readSeed", desc := "()V" } : MethodName) prog_6_method_4_code (1 : Nat) (Option.none : Option FieldType)) ∈ am_ws := am_t2 203 rfl rfl
theorem wd_444 : (Cond.constant "NumberedSparks$Reader" (97 : Nat) (999999 : Int32)) ∈ am_ws := am_t2 204 rfl rfl
theorem wd_446 : (Cond.methodLink "NumberedSparks$Reader" (64 : Nat) ({ cls := "NumberedSparks$Reader", name := "readKind", desc := "()V" } : MethodName)) ∈ am_ws := am_t2 206 rfl rfl
theorem wd_448 : (Cond.instanceMethod ({ cls := "NumberedSparks$Reader", name := "readKind", desc := "()V" } : MethodName)) ∈ am_ws := am_t2 208 rfl rfl
theorem wd_449 : (Cond.code ({ cls := "NumberedSparks$Reader", name := "readKind", desc := "()V" } : MethodName) prog_6_method_5_code (2 : Nat) (Option.none : Option FieldType)) ∈ am_ws := am_t2 209 rfl rfl
theorem wd_451 : (Cond.methodLink "NumberedSparks$Reader" (105 : Nat) ({ cls := "NumberedSparks$Scene", name := "setKind", desc := "(III)V" } : MethodName)) ∈ am_ws := am_t2 211 rfl rfl
theorem wd_452 : (Cond.instanceMethod ({ cls := "NumberedSparks$Scene", name := "setKind", desc := "(III)V" } : MethodName)) ∈ am_ws := am_t2 212 rfl rfl
theorem wd_453 : (Cond.selects "NumberedSparks$Scene" ({ cls := "NumberedSparks$Scene", name := "setKind", desc := "(III)V" } : MethodName) ({ cls := "NumberedSparks$Scene", name := "setKind", desc := "(III)V" } : MethodName)) ∈ am_ws := am_t2 213 rfl rfl
theorem wd_454 : (Cond.code ({ cls := "NumberedSparks$Scene", name := "setKind", desc := "(III)V" } : MethodName) prog_7_method_11_code (5 : Nat) (Option.none : Option FieldType)) ∈ am_ws := am_t2 214 rfl rfl
theorem wd_456 : (Cond.methodLink "NumberedSparks$Reader" (111 : Nat) ({ cls := "NumberedSparks$Reader", name := "numberBehind", desc := "(Ljava/lang/String;III)I" } : MethodName)) ∈ am_ws := am_t2 216 rfl rfl
theorem wd_458 : (Cond.instanceMethod ({ cls := "NumberedSparks$Reader", name := "numberBehind", desc := "(Ljava/lang/String;III)I" } : MethodName)) ∈ am_ws := am_t2 218 rfl rfl
theorem wd_459 : (Cond.code ({ cls := "NumberedSparks$Reader", name := "numberBehind", desc := "(Ljava/lang/String;III)I" } : MethodName) prog_6_method_9_code (5 : Nat) (Option.some FieldType.int)) ∈ am_ws := am_t2 219 rfl rfl
theorem wd_461 : (Cond.methodLink "NumberedSparks$Reader" (117 : Nat) ({ cls := "NumberedSparks$Reader", name := "readFalls", desc := "()I" } : MethodName)) ∈ am_ws := am_t2 221 rfl rfl
theorem wd_463 : (Cond.instanceMethod ({ cls := "NumberedSparks$Reader", name := "readFalls", desc := "()I" } : MethodName)) ∈ am_ws := am_t2 223 rfl rfl
theorem wd_464 : (Cond.code ({ cls := "NumberedSparks$Reader", name := "readFalls", desc := "()I" } : MethodName) prog_6_method_6_code (3 : Nat) (Option.some FieldType.int)) ∈ am_ws := am_t2 224 rfl rfl
theorem wd_467 : (Cond.methodLink "NumberedSparks$Reader" (123 : Nat) ({ cls := "NumberedSparks$Reader", name := "readEdge", desc := "()I" } : MethodName)) ∈ am_ws := am_t2 227 rfl rfl
theorem wd_469 : (Cond.instanceMethod ({ cls := "NumberedSparks$Reader", name := "readEdge", desc := "()I" } : MethodName)) ∈ am_ws := am_t2 229 rfl rfl
theorem wd_470 : (Cond.code ({ cls := "NumberedSparks$Reader", name := "readEdge", desc := "()I" } : MethodName) prog_6_method_7_code (1 : Nat) (Option.some FieldType.int)) ∈ am_ws := am_t2 230 rfl rfl
theorem wd_475 : (Cond.methodLink "NumberedSparks$Reader" (128 : Nat) ({ cls := "NumberedSparks$Scene", name := "ofKind", desc := "(II)I" } : MethodName)) ∈ am_ws := am_t2 235 rfl rfl
theorem wd_476 : (Cond.instanceMethod ({ cls := "NumberedSparks$Scene", name := "ofKind", desc := "(II)I" } : MethodName)) ∈ am_ws := am_t2 236 rfl rfl
theorem wd_477 : (Cond.selects "NumberedSparks$Scene" ({ cls := "NumberedSparks$Scene", name := "ofKind", desc := "(II)I" } : MethodName) ({ cls := "NumberedSparks$Scene", name := "ofKind", desc := "(II)I" } : MethodName)) ∈ am_ws := am_t2 237 rfl rfl
theorem wd_478 : (Cond.code ({ cls := "NumberedSparks$Scene", name := "ofKind", desc := "(II)I" } : MethodName) prog_7_method_10_code (4 : Nat) (Option.some FieldType.int)) ∈ am_ws := am_t2 238 rfl rfl
theorem wd_481 : (Cond.methodLink "NumberedSparks$Reader" (69 : Nat) ({ cls := "NumberedSparks$Reader", name := "readSource", desc := "()V" } : MethodName)) ∈ am_ws := am_t3 1 rfl rfl
theorem wd_483 : (Cond.instanceMethod ({ cls := "NumberedSparks$Reader", name := "readSource", desc := "()V" } : MethodName)) ∈ am_ws := am_t3 3 rfl rfl
theorem wd_484 : (Cond.code ({ cls := "NumberedSparks$Reader", name := "readSource", desc := "()V" } : MethodName) prog_6_method_8_code (3 : Nat) (Option.none : Option FieldType)) ∈ am_ws := am_t3 4 rfl rfl
theorem wd_485 : (Cond.methodLink "NumberedSparks$Reader" (150 : Nat) ({ cls := "NumberedSparks$Scene", name := "setSource", desc := "(III)V" } : MethodName)) ∈ am_ws := am_t3 5 rfl rfl
theorem wd_486 : (Cond.instanceMethod ({ cls := "NumberedSparks$Scene", name := "setSource", desc := "(III)V" } : MethodName)) ∈ am_ws := am_t3 6 rfl rfl
theorem wd_487 : (Cond.selects "NumberedSparks$Scene" ({ cls := "NumberedSparks$Scene", name := "setSource", desc := "(III)V" } : MethodName) ({ cls := "NumberedSparks$Scene", name := "setSource", desc := "(III)V" } : MethodName)) ∈ am_ws := am_t3 7 rfl rfl
theorem wd_488 : (Cond.code ({ cls := "NumberedSparks$Scene", name := "setSource", desc := "(III)V" } : MethodName) prog_7_method_13_code (5 : Nat) (Option.none : Option FieldType)) ∈ am_ws := am_t3 8 rfl rfl
theorem wd_490 : (Cond.methodLink "NumberedSparks$Reader" (155 : Nat) ({ cls := "NumberedSparks$Scene", name := "cellsAlong", desc := "(I)I" } : MethodName)) ∈ am_ws := am_t3 10 rfl rfl
theorem wd_491 : (Cond.instanceMethod ({ cls := "NumberedSparks$Scene", name := "cellsAlong", desc := "(I)I" } : MethodName)) ∈ am_ws := am_t3 11 rfl rfl
theorem wd_492 : (Cond.selects "NumberedSparks$Scene" ({ cls := "NumberedSparks$Scene", name := "cellsAlong", desc := "(I)I" } : MethodName) ({ cls := "NumberedSparks$Scene", name := "cellsAlong", desc := "(I)I" } : MethodName)) ∈ am_ws := am_t3 12 rfl rfl
theorem wd_493 : (Cond.code ({ cls := "NumberedSparks$Scene", name := "cellsAlong", desc := "(I)I" } : MethodName) prog_7_method_4_code (2 : Nat) (Option.some FieldType.int)) ∈ am_ws := am_t3 13 rfl rfl
theorem wd_499 : (Cond.methodLink "NumberedSparks$Reader" (169 : Nat) ({ cls := "NumberedSparks$Scene", name := "ofSource", desc := "(II)I" } : MethodName)) ∈ am_ws := am_t3 19 rfl rfl
theorem wd_500 : (Cond.instanceMethod ({ cls := "NumberedSparks$Scene", name := "ofSource", desc := "(II)I" } : MethodName)) ∈ am_ws := am_t3 20 rfl rfl
theorem wd_501 : (Cond.selects "NumberedSparks$Scene" ({ cls := "NumberedSparks$Scene", name := "ofSource", desc := "(II)I" } : MethodName) ({ cls := "NumberedSparks$Scene", name := "ofSource", desc := "(II)I" } : MethodName)) ∈ am_ws := am_t3 21 rfl rfl
theorem wd_502 : (Cond.code ({ cls := "NumberedSparks$Scene", name := "ofSource", desc := "(II)I" } : MethodName) prog_7_method_12_code (4 : Nat) (Option.some FieldType.int)) ∈ am_ws := am_t3 22 rfl rfl
theorem wd_503 : (Cond.methodLink "NumberedSparks$Reader" (172 : Nat) ({ cls := "NumberedSparks$Scene", name := "burstsUpTo", desc := "(II)I" } : MethodName)) ∈ am_ws := am_t3 23 rfl rfl
theorem wd_504 : (Cond.instanceMethod ({ cls := "NumberedSparks$Scene", name := "burstsUpTo", desc := "(II)I" } : MethodName)) ∈ am_ws := am_t3 24 rfl rfl
theorem wd_505 : (Cond.selects "NumberedSparks$Scene" ({ cls := "NumberedSparks$Scene", name := "burstsUpTo", desc := "(II)I" } : MethodName) ({ cls := "NumberedSparks$Scene", name := "burstsUpTo", desc := "(II)I" } : MethodName)) ∈ am_ws := am_t3 25 rfl rfl
theorem wd_506 : (Cond.code ({ cls := "NumberedSparks$Scene", name := "burstsUpTo", desc := "(II)I" } : MethodName) prog_7_method_19_code (6 : Nat) (Option.some FieldType.int)) ∈ am_ws := am_t3 26 rfl rfl
theorem wd_507 : (Cond.methodLink "NumberedSparks$Scene" (84 : Nat) ({ cls := "NumberedSparks$Scene", name := "ofSource", desc := "(II)I" } : MethodName)) ∈ am_ws := am_t3 27 rfl rfl
theorem wd_508 : (Cond.methodLink "NumberedSparks$Scene" (94 : Nat) ({ cls := "java/lang/Math", name := "min", desc := "(II)I" } : MethodName)) ∈ am_ws := am_t3 28 rfl rfl
theorem wd_509 : (Cond.methodLink "NumberedSparks" (87 : Nat) ({ cls := "NumberedSparks$Scene", name := "become", desc := "(LNumberedSparks$Scene;)V" } : MethodName)) ∈ am_ws := am_t3 29 rfl rfl
theorem wd_510 : (Cond.instanceMethod ({ cls := "NumberedSparks$Scene", name := "become", desc := "(LNumberedSparks$Scene;)V" } : MethodName)) ∈ am_ws := am_t3 30 rfl rfl
theorem wd_511 : (Cond.selects "NumberedSparks$Scene" ({ cls := "NumberedSparks$Scene", name := "become", desc := "(LNumberedSparks$Scene;)V" } : MethodName) ({ cls := "NumberedSparks$Scene", name := "become", desc := "(LNumberedSparks$Scene;)V" } : MethodName)) ∈ am_ws := am_t3 31 rfl rfl
theorem wd_512 : (Cond.code ({ cls := "NumberedSparks$Scene", name := "become", desc := "(LNumberedSparks$Scene;)V" } : MethodName) prog_7_method_3_code (2 : Nat) (Option.none : Option FieldType)) ∈ am_ws := am_t3 32 rfl rfl
theorem wd_513 : (Cond.methodLink "NumberedSparks$Scene" (41 : Nat) ({ cls := "java/lang/System", name := "arraycopy", desc := "(Ljava/lang/Object;ILjava/lang/Object;II)V" } : MethodName)) ∈ am_ws := am_t3 33 rfl rfl
theorem wd_514 : (Cond.static ({ cls := "java/lang/System", name := "arraycopy", desc := "(Ljava/lang/Object;ILjava/lang/Object;II)V" } : MethodName)) ∈ am_ws := am_t3 34 rfl rfl
theorem wd_515 : (Cond.native ({ cls := "java/lang/System", name := "arraycopy", desc := "(Ljava/lang/Object;ILjava/lang/Object;II)V" } : MethodName)) ∈ am_ws := am_t3 35 rfl rfl
theorem wd_516 : (Cond.methodLink "NumberedSparks" (90 : Nat) ({ cls := "NumberedSparks$History", name := "forget", desc := "()V" } : MethodName)) ∈ am_ws := am_t3 36 rfl rfl
theorem wd_517 : (Cond.instanceMethod ({ cls := "NumberedSparks$History", name := "forget", desc := "()V" } : MethodName)) ∈ am_ws := am_t3 37 rfl rfl
theorem wd_518 : (Cond.selects "NumberedSparks$History" ({ cls := "NumberedSparks$History", name := "forget", desc := "()V" } : MethodName) ({ cls := "NumberedSparks$History", name := "forget", desc := "()V" } : MethodName)) ∈ am_ws := am_t3 38 rfl rfl
theorem wd_519 : (Cond.code ({ cls := "NumberedSparks$History", name := "forget", desc := "()V" } : MethodName) prog_4_method_2_code (1 : Nat) (Option.none : Option FieldType)) ∈ am_ws := am_t3 39 rfl rfl
theorem wd_520 : (Cond.methodLink "NumberedSparks" (93 : Nat) ({ cls := "NumberedSparks$Frame", name := "forget", desc := "()V" } : MethodName)) ∈ am_ws := am_t3 40 rfl rfl
theorem wd_521 : (Cond.instanceMethod ({ cls := "NumberedSparks$Frame", name := "forget", desc := "()V" } : MethodName)) ∈ am_ws := am_t3 41 rfl rfl
theorem wd_522 : (Cond.selects "NumberedSparks$Frame" ({ cls := "NumberedSparks$Frame", name := "forget", desc := "()V" } : MethodName) ({ cls := "NumberedSparks$Frame", name := "forget", desc := "()V" } : MethodName)) ∈ am_ws := am_t3 42 rfl rfl
theorem wd_523 : (Cond.code ({ cls := "NumberedSparks$Frame", name := "forget", desc := "()V" } : MethodName) prog_3_method_2_code (1 : Nat) (Option.none : Option FieldType)) ∈ am_ws := am_t3 43 rfl rfl
theorem wd_524 : (Cond.arrayClass FieldType.byte) ∈ am_ws := am_t3 44 rfl rfl
theorem wd_525 : (Cond.methodLink "NumberedSparksLaw" (28 : Nat) ({ cls := "NumberedSparks", name := "fault", desc := "(I)I" } : MethodName)) ∈ am_ws := am_t3 45 rfl rfl
theorem wd_526 : (Cond.instanceMethod ({ cls := "NumberedSparks", name := "fault", desc := "(I)I" } : MethodName)) ∈ am_ws := am_t3 46 rfl rfl
theorem wd_527 : (Cond.selects "NumberedSparks" ({ cls := "NumberedSparks", name := "fault", desc := "(I)I" } : MethodName) ({ cls := "NumberedSparks", name := "fault", desc := "(I)I" } : MethodName)) ∈ am_ws := am_t3 47 rfl rfl
theorem wd_528 : (Cond.code ({ cls := "NumberedSparks", name := "fault", desc := "(I)I" } : MethodName) prog_1_method_6_code (2 : Nat) (Option.some FieldType.int)) ∈ am_ws := am_t3 48 rfl rfl
theorem wd_529 : (Cond.methodLink "NumberedSparksLaw" (32 : Nat) ({ cls := "NumberedSparks", name := "count", desc := "(I)I" } : MethodName)) ∈ am_ws := am_t3 49 rfl rfl
theorem wd_530 : (Cond.instanceMethod ({ cls := "NumberedSparks", name := "count", desc := "(I)I" } : MethodName)) ∈ am_ws := am_t3 50 rfl rfl
theorem wd_531 : (Cond.selects "NumberedSparks" ({ cls := "NumberedSparks", name := "count", desc := "(I)I" } : MethodName) ({ cls := "NumberedSparks", name := "count", desc := "(I)I" } : MethodName)) ∈ am_ws := am_t3 51 rfl rfl
theorem wd_532 : (Cond.code ({ cls := "NumberedSparks", name := "count", desc := "(I)I" } : MethodName) prog_1_method_7_code (2 : Nat) (Option.some FieldType.int)) ∈ am_ws := am_t3 52 rfl rfl
theorem wd_533 : (Cond.methodLink "NumberedSparks" (100 : Nat) ({ cls := "NumberedSparks$Scene", name := "cellsAlong", desc := "(I)I" } : MethodName)) ∈ am_ws := am_t3 53 rfl rfl
theorem wd_534 : (Cond.methodLink "NumberedSparksLaw" (36 : Nat) ({ cls := "NumberedSparks", name := "kind", desc := "(II)I" } : MethodName)) ∈ am_ws := am_t3 54 rfl rfl
theorem wd_535 : (Cond.instanceMethod ({ cls := "NumberedSparks", name := "kind", desc := "(II)I" } : MethodName)) ∈ am_ws := am_t3 55 rfl rfl
theorem wd_536 : (Cond.selects "NumberedSparks" ({ cls := "NumberedSparks", name := "kind", desc := "(II)I" } : MethodName) ({ cls := "NumberedSparks", name := "kind", desc := "(II)I" } : MethodName)) ∈ am_ws := am_t3 56 rfl rfl
theorem wd_537 : (Cond.code ({ cls := "NumberedSparks", name := "kind", desc := "(II)I" } : MethodName) prog_1_method_8_code (3 : Nat) (Option.some FieldType.int)) ∈ am_ws := am_t3 57 rfl rfl
theorem wd_538 : (Cond.methodLink "NumberedSparks" (116 : Nat) ({ cls := "NumberedSparks$Scene", name := "isKind", desc := "(I)Z" } : MethodName)) ∈ am_ws := am_t3 58 rfl rfl
theorem wd_539 : (Cond.instanceMethod ({ cls := "NumberedSparks$Scene", name := "isKind", desc := "(I)Z" } : MethodName)) ∈ am_ws := am_t3 59 rfl rfl
theorem wd_540 : (Cond.selects "NumberedSparks$Scene" ({ cls := "NumberedSparks$Scene", name := "isKind", desc := "(I)Z" } : MethodName) ({ cls := "NumberedSparks$Scene", name := "isKind", desc := "(I)Z" } : MethodName)) ∈ am_ws := am_t3 60 rfl rfl
theorem wd_541 : (Cond.code ({ cls := "NumberedSparks$Scene", name := "isKind", desc := "(I)Z" } : MethodName) prog_7_method_8_code (2 : Nat) (Option.some FieldType.boolean)) ∈ am_ws := am_t3 61 rfl rfl
theorem wd_542 : (Cond.methodLink "NumberedSparks" (120 : Nat) ({ cls := "NumberedSparks$Scene", name := "ofKind", desc := "(II)I" } : MethodName)) ∈ am_ws := am_t3 62 rfl rfl
theorem wd_543 : (Cond.methodLink "NumberedSparksLaw" (41 : Nat) ({ cls := "NumberedSparks", name := "source", desc := "(II)I" } : MethodName)) ∈ am_ws := am_t3 63 rfl rfl
theorem wd_544 : (Cond.instanceMethod ({ cls := "NumberedSparks", name := "source", desc := "(II)I" } : MethodName)) ∈ am_ws := am_t3 64 rfl rfl
theorem wd_545 : (Cond.selects "NumberedSparks" ({ cls := "NumberedSparks", name := "source", desc := "(II)I" } : MethodName) ({ cls := "NumberedSparks", name := "source", desc := "(II)I" } : MethodName)) ∈ am_ws := am_t3 65 rfl rfl
theorem wd_546 : (Cond.code ({ cls := "NumberedSparks", name := "source", desc := "(II)I" } : MethodName) prog_1_method_9_code (3 : Nat) (Option.some FieldType.int)) ∈ am_ws := am_t3 66 rfl rfl
theorem wd_547 : (Cond.methodLink "NumberedSparks" (124 : Nat) ({ cls := "NumberedSparks$Scene", name := "isSource", desc := "(I)Z" } : MethodName)) ∈ am_ws := am_t3 67 rfl rfl
theorem wd_548 : (Cond.instanceMethod ({ cls := "NumberedSparks$Scene", name := "isSource", desc := "(I)Z" } : MethodName)) ∈ am_ws := am_t3 68 rfl rfl
theorem wd_549 : (Cond.selects "NumberedSparks$Scene" ({ cls := "NumberedSparks$Scene", name := "isSource", desc := "(I)Z" } : MethodName) ({ cls := "NumberedSparks$Scene", name := "isSource", desc := "(I)Z" } : MethodName)) ∈ am_ws := am_t3 69 rfl rfl
theorem wd_550 : (Cond.code ({ cls := "NumberedSparks$Scene", name := "isSource", desc := "(I)Z" } : MethodName) prog_7_method_9_code (2 : Nat) (Option.some FieldType.boolean)) ∈ am_ws := am_t3 70 rfl rfl
theorem wd_551 : (Cond.methodLink "NumberedSparks" (127 : Nat) ({ cls := "NumberedSparks$Scene", name := "ofSource", desc := "(II)I" } : MethodName)) ∈ am_ws := am_t3 71 rfl rfl
theorem wd_552 : (Cond.methodLink "NumberedSparksLaw" (45 : Nat) ({ cls := "NumberedSparks", name := "seed", desc := "(I)I" } : MethodName)) ∈ am_ws := am_t3 72 rfl rfl
theorem wd_553 : (Cond.instanceMethod ({ cls := "NumberedSparks", name := "seed", desc := "(I)I" } : MethodName)) ∈ am_ws := am_t3 73 rfl rfl
theorem wd_554 : (Cond.selects "NumberedSparks" ({ cls := "NumberedSparks", name := "seed", desc := "(I)I" } : MethodName) ({ cls := "NumberedSparks", name := "seed", desc := "(I)I" } : MethodName)) ∈ am_ws := am_t3 74 rfl rfl
theorem wd_555 : (Cond.code ({ cls := "NumberedSparks", name := "seed", desc := "(I)I" } : MethodName) prog_1_method_10_code (3 : Nat) (Option.some FieldType.int)) ∈ am_ws := am_t3 75 rfl rfl
theorem wd_556 : (Cond.constant "NumberedSparks" (134 : Nat) (999999 : Int32)) ∈ am_ws := am_t3 76 rfl rfl
theorem wd_557 : (Cond.methodLink "NumberedSparks" (135 : Nat) ({ cls := "NumberedSparks$History", name := "remember", desc := "(III)V" } : MethodName)) ∈ am_ws := am_t3 77 rfl rfl
theorem wd_558 : (Cond.instanceMethod ({ cls := "NumberedSparks$History", name := "remember", desc := "(III)V" } : MethodName)) ∈ am_ws := am_t3 78 rfl rfl
theorem wd_559 : (Cond.selects "NumberedSparks$History" ({ cls := "NumberedSparks$History", name := "remember", desc := "(III)V" } : MethodName) ({ cls := "NumberedSparks$History", name := "remember", desc := "(III)V" } : MethodName)) ∈ am_ws := am_t3 79 rfl rfl
theorem wd_560 : (Cond.code ({ cls := "NumberedSparks$History", name := "remember", desc := "(III)V" } : MethodName) prog_4_method_4_code (4 : Nat) (Option.none : Option FieldType)) ∈ am_ws := am_t3 80 rfl rfl
theorem wd_561 : (Cond.methodLink "NumberedSparks$History" (25 : Nat) ({ cls := "java/lang/System", name := "arraycopy", desc := "(Ljava/lang/Object;ILjava/lang/Object;II)V" } : MethodName)) ∈ am_ws := am_t3 81 rfl rfl
theorem wd_562 : (Cond.methodLink "NumberedSparksLaw" (201 : Nat) ({ cls := "NumberedSparks", name := "sets", desc := "(III)I" } : MethodName)) ∈ am_ws := am_t3 82 rfl rfl
theorem wd_563 : (Cond.instanceMethod ({ cls := "NumberedSparks", name := "sets", desc := "(III)I" } : MethodName)) ∈ am_ws := am_t3 83 rfl rfl
theorem wd_564 : (Cond.selects "NumberedSparks" ({ cls := "NumberedSparks", name := "sets", desc := "(III)I" } : MethodName) ({ cls := "NumberedSparks", name := "sets", desc := "(III)I" } : MethodName)) ∈ am_ws := am_t3 84 rfl rfl
theorem wd_565 : (Cond.code ({ cls := "NumberedSparks", name := "sets", desc := "(III)I" } : MethodName) prog_1_method_11_code (5 : Nat) (Option.some FieldType.int)) ∈ am_ws := am_t3 85 rfl rfl
theorem wd_566 : (Cond.fieldLink "NumberedSparks" (139 : Nat) "NumberedSparks" "KIND_LEAST" "[I") ∈ am_ws := am_t3 86 rfl rfl
theorem wd_568 : (Cond.fieldLink "NumberedSparks" (142 : Nat) "NumberedSparks" "KIND_MOST" "[I") ∈ am_ws := am_t3 88 rfl rfl
theorem wd_570 : (Cond.methodLink "NumberedSparks" (145 : Nat) ({ cls := "NumberedSparks$Scene", name := "setKind", desc := "(III)V" } : MethodName)) ∈ am_ws := am_t3 90 rfl rfl
theorem wd_571 : (Cond.methodLink "NumberedSparksLaw" (205 : Nat) ({ cls := "NumberedSparks", name := "undo", desc := "()I" } : MethodName)) ∈ am_ws := am_t3 91 rfl rfl
theorem wd_572 : (Cond.instanceMethod ({ cls := "NumberedSparks", name := "undo", desc := "()I" } : MethodName)) ∈ am_ws := am_t3 92 rfl rfl
theorem wd_573 : (Cond.selects "NumberedSparks" ({ cls := "NumberedSparks", name := "undo", desc := "()I" } : MethodName) ({ cls := "NumberedSparks", name := "undo", desc := "()I" } : MethodName)) ∈ am_ws := am_t3 93 rfl rfl
theorem wd_574 : (Cond.code ({ cls := "NumberedSparks", name := "undo", desc := "()I" } : MethodName) prog_1_method_12_code (1 : Nat) (Option.some FieldType.int)) ∈ am_ws := am_t3 94 rfl rfl
theorem wd_575 : (Cond.methodLink "NumberedSparks" (148 : Nat) ({ cls := "NumberedSparks$History", name := "isEmpty", desc := "()Z" } : MethodName)) ∈ am_ws := am_t3 95 rfl rfl
theorem wd_576 : (Cond.instanceMethod ({ cls := "NumberedSparks$History", name := "isEmpty", desc := "()Z" } : MethodName)) ∈ am_ws := am_t3 96 rfl rfl
theorem wd_577 : (Cond.selects "NumberedSparks$History" ({ cls := "NumberedSparks$History", name := "isEmpty", desc := "()Z" } : MethodName) ({ cls := "NumberedSparks$History", name := "isEmpty", desc := "()Z" } : MethodName)) ∈ am_ws := am_t3 97 rfl rfl
theorem wd_578 : (Cond.code ({ cls := "NumberedSparks$History", name := "isEmpty", desc := "()Z" } : MethodName) prog_4_method_3_code (1 : Nat) (Option.some FieldType.boolean)) ∈ am_ws := am_t3 98 rfl rfl
theorem wd_579 : (Cond.methodLink "NumberedSparks" (152 : Nat) ({ cls := "NumberedSparks$History", name := "takeBack", desc := "(LNumberedSparks$Scene;)V" } : MethodName)) ∈ am_ws := am_t3 99 rfl rfl
theorem wd_580 : (Cond.instanceMethod ({ cls := "NumberedSparks$History", name := "takeBack", desc := "(LNumberedSparks$Scene;)V" } : MethodName)) ∈ am_ws := am_t3 100 rfl rfl
theorem wd_581 : (Cond.selects "NumberedSparks$History" ({ cls := "NumberedSparks$History", name := "takeBack", desc := "(LNumberedSparks$Scene;)V" } : MethodName) ({ cls := "NumberedSparks$History", name := "takeBack", desc := "(LNumberedSparks$Scene;)V" } : MethodName)) ∈ am_ws := am_t3 101 rfl rfl
theorem wd_582 : (Cond.code ({ cls := "NumberedSparks$History", name := "takeBack", desc := "(LNumberedSparks$Scene;)V" } : MethodName) prog_4_method_5_code (2 : Nat) (Option.none : Option FieldType)) ∈ am_ws := am_t3 102 rfl rfl
theorem wd_583 : (Cond.methodLink "NumberedSparks$History" (31 : Nat) ({ cls := "NumberedSparks$History", name := "isEmpty", desc := "()Z" } : MethodName)) ∈ am_ws := am_t3 103 rfl rfl
theorem wd_584 : (Cond.methodLink "NumberedSparks$History" (40 : Nat) ({ cls := "NumberedSparks$Scene", name := "setKind", desc := "(III)V" } : MethodName)) ∈ am_ws := am_t3 104 rfl rfl
theorem wd_585 : (Cond.methodLink "NumberedSparksLaw" (49 : Nat) ({ cls := "NumberedSparks", name := "mixed", desc := "(II)J" } : MethodName)) ∈ am_ws := am_t3 105 rfl rfl
theorem wd_586 : (Cond.instanceMethod ({ cls := "NumberedSparks", name := "mixed", desc := "(II)J" } : MethodName)) ∈ am_ws := am_t3 106 rfl rfl
theorem wd_587 : (Cond.selects "NumberedSparks" ({ cls := "NumberedSparks", name := "mixed", desc := "(II)J" } : MethodName) ({ cls := "NumberedSparks", name := "mixed", desc := "(II)J" } : MethodName)) ∈ am_ws := am_t3 107 rfl rfl
theorem wd_588 : (Cond.code ({ cls := "NumberedSparks", name := "mixed", desc := "(II)J" } : MethodName) prog_1_method_13_code (3 : Nat) (Option.some FieldType.long)) ∈ am_ws := am_t3 108 rfl rfl
theorem wd_589 : (Cond.methodLink "NumberedSparks" (156 : Nat) ({ cls := "NumberedSparks$Scene", name := "mix", desc := "(II)J" } : MethodName)) ∈ am_ws := am_t3 109 rfl rfl
theorem wd_590 : (Cond.instanceMethod ({ cls := "NumberedSparks$Scene", name := "mix", desc := "(II)J" } : MethodName)) ∈ am_ws := am_t3 110 rfl rfl
theorem wd_591 : (Cond.selects "NumberedSparks$Scene" ({ cls := "NumberedSparks$Scene", name := "mix", desc := "(II)J" } : MethodName) ({ cls := "NumberedSparks$Scene", name := "mix", desc := "(II)J" } : MethodName)) ∈ am_ws := am_t3 111 rfl rfl
theorem wd_592 : (Cond.code ({ cls := "NumberedSparks$Scene", name := "mix", desc := "(II)J" } : MethodName) prog_7_method_14_code (5 : Nat) (Option.some FieldType.long)) ∈ am_ws := am_t3 112 rfl rfl
theorem wd_593 : (Cond.constantLong "NumberedSparks$Scene" (58 : Nat) (-7046029254386353131 : Int64)) ∈ am_ws := am_t3 113 rfl rfl
theorem wd_594 : (Cond.constantLong "NumberedSparks$Scene" (60 : Nat) (-3335678366873096957 : Int64)) ∈ am_ws := am_t3 114 rfl rfl
theorem wd_595 : (Cond.constantLong "NumberedSparks$Scene" (62 : Nat) (-4658895280553007687 : Int64)) ∈ am_ws := am_t3 115 rfl rfl
theorem wd_596 : (Cond.constantLong "NumberedSparks$Scene" (64 : Nat) (-7723592293110705685 : Int64)) ∈ am_ws := am_t3 116 rfl rfl
theorem wd_597 : (Cond.methodLink "NumberedSparksLaw" (54 : Nat) ({ cls := "NumberedSparks", name := "is", desc := "(I)I" } : MethodName)) ∈ am_ws := am_t3 117 rfl rfl
theorem wd_598 : (Cond.instanceMethod ({ cls := "NumberedSparks", name := "is", desc := "(I)I" } : MethodName)) ∈ am_ws := am_t3 118 rfl rfl
theorem wd_599 : (Cond.selects "NumberedSparks" ({ cls := "NumberedSparks", name := "is", desc := "(I)I" } : MethodName) ({ cls := "NumberedSparks", name := "is", desc := "(I)I" } : MethodName)) ∈ am_ws := am_t3 119 rfl rfl
theorem wd_600 : (Cond.code ({ cls := "NumberedSparks", name := "is", desc := "(I)I" } : MethodName) prog_1_method_14_code (2 : Nat) (Option.some FieldType.int)) ∈ am_ws := am_t3 120 rfl rfl
theorem wd_601 : (Cond.methodLink "NumberedSparks" (160 : Nat) ({ cls := "NumberedSparks$Scene", name := "hasSpark", desc := "(I)Z" } : MethodName)) ∈ am_ws := am_t3 121 rfl rfl
theorem wd_602 : (Cond.instanceMethod ({ cls := "NumberedSparks$Scene", name := "hasSpark", desc := "(I)Z" } : MethodName)) ∈ am_ws := am_t3 122 rfl rfl
theorem wd_603 : (Cond.selects "NumberedSparks$Scene" ({ cls := "NumberedSparks$Scene", name := "hasSpark", desc := "(I)Z" } : MethodName) ({ cls := "NumberedSparks$Scene", name := "hasSpark", desc := "(I)Z" } : MethodName)) ∈ am_ws := am_t3 123 rfl rfl
theorem wd_604 : (Cond.code ({ cls := "NumberedSparks$Scene", name := "hasSpark", desc := "(I)Z" } : MethodName) prog_7_method_17_code (6 : Nat) (Option.some FieldType.boolean)) ∈ am_ws := am_t3 124 rfl rfl
theorem wd_605 : (Cond.methodLinkNest "NumberedSparks$Scene" (74 : Nat) ({ cls := "NumberedSparks", name := "sourceOf", desc := "(I)I" } : MethodName) "NumberedSparks") ∈ am_ws := am_t3 125 rfl rfl
theorem wd_606 : (Cond.static ({ cls := "NumberedSparks", name := "sourceOf", desc := "(I)I" } : MethodName)) ∈ am_ws := am_t3 126 rfl rfl
theorem wd_607 : (Cond.code ({ cls := "NumberedSparks", name := "sourceOf", desc := "(I)I" } : MethodName) prog_1_method_64_code (1 : Nat) (Option.some FieldType.int)) ∈ am_ws := am_t3 127 rfl rfl
theorem wd_608 : (Cond.methodLink "NumberedSparks$Scene" (77 : Nat) ({ cls := "NumberedSparks$Scene", name := "isSource", desc := "(I)Z" } : MethodName)) ∈ am_ws := am_t3 128 rfl rfl
theorem wd_609 : (Cond.methodLinkNest "NumberedSparks$Scene" (81 : Nat) ({ cls := "NumberedSparks", name := "numberOf", desc := "(I)I" } : MethodName) "NumberedSparks") ∈ am_ws := am_t3 129 rfl rfl
theorem wd_610 : (Cond.static ({ cls := "NumberedSparks", name := "numberOf", desc := "(I)I" } : MethodName)) ∈ am_ws := am_t3 130 rfl rfl
theorem wd_611 : (Cond.code ({ cls := "NumberedSparks", name := "numberOf", desc := "(I)I" } : MethodName) prog_1_method_65_code (1 : Nat) (Option.some FieldType.int)) ∈ am_ws := am_t3 131 rfl rfl
theorem wd_612 : (Cond.methodLink "NumberedSparks$Scene" (88 : Nat) ({ cls := "NumberedSparks$Scene", name := "ofKind", desc := "(II)I" } : MethodName)) ∈ am_ws := am_t3 132 rfl rfl
theorem wd_613 : (Cond.methodLink "NumberedSparksLaw" (58 : Nat) ({ cls := "NumberedSparks", name := "child", desc := "(II)I" } : MethodName)) ∈ am_ws := am_t3 133 rfl rfl
theorem wd_614 : (Cond.instanceMethod ({ cls := "NumberedSparks", name := "child", desc := "(II)I" } : MethodName)) ∈ am_ws := am_t3 134 rfl rfl
theorem wd_615 : (Cond.selects "NumberedSparks" ({ cls := "NumberedSparks", name := "child", desc := "(II)I" } : MethodName) ({ cls := "NumberedSparks", name := "child", desc := "(II)I" } : MethodName)) ∈ am_ws := am_t3 135 rfl rfl
theorem wd_616 : (Cond.code ({ cls := "NumberedSparks", name := "child", desc := "(II)I" } : MethodName) prog_1_method_15_code (4 : Nat) (Option.some FieldType.int)) ∈ am_ws := am_t3 136 rfl rfl
theorem wd_617 : (Cond.methodLink "NumberedSparks" (163 : Nat) ({ cls := "NumberedSparks", name := "generationOf", desc := "(I)I" } : MethodName)) ∈ am_ws := am_t3 137 rfl rfl
theorem wd_618 : (Cond.static ({ cls := "NumberedSparks", name := "generationOf", desc := "(I)I" } : MethodName)) ∈ am_ws := am_t3 138 rfl rfl
theorem wd_619 : (Cond.code ({ cls := "NumberedSparks", name := "generationOf", desc := "(I)I" } : MethodName) prog_1_method_67_code (1 : Nat) (Option.some FieldType.int)) ∈ am_ws := am_t3 139 rfl rfl
theorem wd_620 : (Cond.methodLink "NumberedSparks" (166 : Nat) ({ cls := "NumberedSparks$Scene", name := "kindOfSpark", desc := "(I)I" } : MethodName)) ∈ am_ws := am_t3 140 rfl rfl
theorem wd_621 : (Cond.instanceMethod ({ cls := "NumberedSparks$Scene", name := "kindOfSpark", desc := "(I)I" } : MethodName)) ∈ am_ws := am_t3 141 rfl rfl
theorem wd_622 : (Cond.selects "NumberedSparks$Scene" ({ cls := "NumberedSparks$Scene", name := "kindOfSpark", desc := "(I)I" } : MethodName) ({ cls := "NumberedSparks$Scene", name := "kindOfSpark", desc := "(I)I" } : MethodName)) ∈ am_ws := am_t3 142 rfl rfl
theorem wd_623 : (Cond.code ({ cls := "NumberedSparks$Scene", name := "kindOfSpark", desc := "(I)I" } : MethodName) prog_7_method_18_code (4 : Nat) (Option.some FieldType.int)) ∈ am_ws := am_t3 143 rfl rfl
theorem wd_624 : (Cond.methodLinkNest "NumberedSparks$Scene" (91 : Nat) ({ cls := "NumberedSparks", name := "generationOf", desc := "(I)I" } : MethodName) "NumberedSparks") ∈ am_ws := am_t3 144 rfl rfl
theorem wd_625 : (Cond.methodLink "NumberedSparks" (169 : Nat) ({ cls := "NumberedSparks", name := "codeOfChild", desc := "(III)I" } : MethodName)) ∈ am_ws := am_t3 145 rfl rfl
theorem wd_626 : (Cond.static ({ cls := "NumberedSparks", name := "codeOfChild", desc := "(III)I" } : MethodName)) ∈ am_ws := am_t3 146 rfl rfl
theorem wd_627 : (Cond.code ({ cls := "NumberedSparks", name := "codeOfChild", desc := "(III)I" } : MethodName) prog_1_method_68_code (3 : Nat) (Option.some FieldType.int)) ∈ am_ws := am_t3 147 rfl rfl
theorem wd_628 : (Cond.methodLink "NumberedSparksLaw" (62 : Nat) ({ cls := "NumberedSparks", name := "parent", desc := "(I)I" } : MethodName)) ∈ am_ws := am_t3 148 rfl rfl
theorem wd_629 : (Cond.instanceMethod ({ cls := "NumberedSparks", name := "parent", desc := "(I)I" } : MethodName)) ∈ am_ws := am_t3 149 rfl rfl
theorem wd_630 : (Cond.selects "NumberedSparks" ({ cls := "NumberedSparks", name := "parent", desc := "(I)I" } : MethodName) ({ cls := "NumberedSparks", name := "parent", desc := "(I)I" } : MethodName)) ∈ am_ws := am_t3 150 rfl rfl
theorem wd_631 : (Cond.code ({ cls := "NumberedSparks", name := "parent", desc := "(I)I" } : MethodName) prog_1_method_16_code (2 : Nat) (Option.some FieldType.int)) ∈ am_ws := am_t3 151 rfl rfl
theorem wd_632 : (Cond.methodLink "NumberedSparks" (173 : Nat) ({ cls := "NumberedSparks", name := "codeOfParent", desc := "(I)I" } : MethodName)) ∈ am_ws := am_t3 152 rfl rfl
theorem wd_633 : (Cond.static ({ cls := "NumberedSparks", name := "codeOfParent", desc := "(I)I" } : MethodName)) ∈ am_ws := am_t3 153 rfl rfl
theorem wd_634 : (Cond.code ({ cls := "NumberedSparks", name := "codeOfParent", desc := "(I)I" } : MethodName) prog_1_method_69_code (1 : Nat) (Option.some FieldType.int)) ∈ am_ws := am_t3 154 rfl rfl
theorem wd_635 : (Cond.methodLink "NumberedSparksLaw" (66 : Nat) ({ cls := "NumberedSparks", name := "spark", desc := "(II)I" } : MethodName)) ∈ am_ws := am_t3 155 rfl rfl
theorem wd_636 : (Cond.instanceMethod ({ cls := "NumberedSparks", name := "spark", desc := "(II)I" } : MethodName)) ∈ am_ws := am_t3 156 rfl rfl
theorem wd_637 : (Cond.selects "NumberedSparks" ({ cls := "NumberedSparks", name := "spark", desc := "(II)I" } : MethodName) ({ cls := "NumberedSparks", name := "spark", desc := "(II)I" } : MethodName)) ∈ am_ws := am_t3 157 rfl rfl
theorem wd_638 : (Cond.code ({ cls := "NumberedSparks", name := "spark", desc := "(II)I" } : MethodName) prog_1_method_17_code (4 : Nat) (Option.some FieldType.int)) ∈ am_ws := am_t3 158 rfl rfl
theorem wd_639 : (Cond.methodLink "NumberedSparks" (176 : Nat) ({ cls := "NumberedSparks$Finder", name := "find", desc := "(I)LNumberedSparks$Spark;" } : MethodName)) ∈ am_ws := am_t3 159 rfl rfl
theorem wd_640 : (Cond.instanceMethod ({ cls := "NumberedSparks$Finder", name := "find", desc := "(I)LNumberedSparks$Spark;" } : MethodName)) ∈ am_ws := am_t3 160 rfl rfl
theorem wd_641 : (Cond.selects "NumberedSparks$Finder" ({ cls := "NumberedSparks$Finder", name := "find", desc := "(I)LNumberedSparks$Spark;" } : MethodName) ({ cls := "NumberedSparks$Finder", name := "find", desc := "(I)LNumberedSparks$Spark;" } : MethodName)) ∈ am_ws := am_t3 161 rfl rfl
theorem wd_642 : (Cond.code ({ cls := "NumberedSparks$Finder", name := "find", desc := "(I)LNumberedSparks$Spark;" } : MethodName) prog_2_method_2_code (5 : Nat) (Option.some (FieldType.object "NumberedSparks$Spark"))) ∈ am_ws := am_t3 162 rfl rfl
theorem wd_643 : (Cond.methodLink "NumberedSparks$Finder" (28 : Nat) ({ cls := "NumberedSparks$Scene", name := "hasSpark", desc := "(I)Z" } : MethodName)) ∈ am_ws := am_t3 163 rfl rfl
theorem wd_644 : (Cond.methodLinkNest "NumberedSparks$Finder" (34 : Nat) ({ cls := "NumberedSparks", name := "sourceOf", desc := "(I)I" } : MethodName) "NumberedSparks") ∈ am_ws := am_t3 164 rfl rfl
theorem wd_645 : (Cond.methodLinkNest "NumberedSparks$Finder" (40 : Nat) ({ cls := "NumberedSparks", name := "numberOf", desc := "(I)I" } : MethodName) "NumberedSparks") ∈ am_ws := am_t3 165 rfl rfl
theorem wd_646 : (Cond.methodLink "NumberedSparks$Finder" (43 : Nat) ({ cls := "NumberedSparks$Scene", name := "birthTick", desc := "(II)I" } : MethodName)) ∈ am_ws := am_t3 166 rfl rfl
theorem wd_647 : (Cond.instanceMethod ({ cls := "NumberedSparks$Scene", name := "birthTick", desc := "(II)I" } : MethodName)) ∈ am_ws := am_t3 167 rfl rfl
theorem wd_648 : (Cond.selects "NumberedSparks$Scene" ({ cls := "NumberedSparks$Scene", name := "birthTick", desc := "(II)I" } : MethodName) ({ cls := "NumberedSparks$Scene", name := "birthTick", desc := "(II)I" } : MethodName)) ∈ am_ws := am_t3 168 rfl rfl
theorem wd_649 : (Cond.code ({ cls := "NumberedSparks$Scene", name := "birthTick", desc := "(II)I" } : MethodName) prog_7_method_21_code (3 : Nat) (Option.some FieldType.int)) ∈ am_ws := am_t3 169 rfl rfl
theorem wd_650 : (Cond.methodLink "NumberedSparks$Scene" (102 : Nat) ({ cls := "NumberedSparks$Scene", name := "plannedTick", desc := "(II)I" } : MethodName)) ∈ am_ws := am_t3 170 rfl rfl
theorem wd_651 : (Cond.instanceMethod ({ cls := "NumberedSparks$Scene", name := "plannedTick", desc := "(II)I" } : MethodName)) ∈ am_ws := am_t3 171 rfl rfl
theorem wd_652 : (Cond.selects "NumberedSparks$Scene" ({ cls := "NumberedSparks$Scene", name := "plannedTick", desc := "(II)I" } : MethodName) ({ cls := "NumberedSparks$Scene", name := "plannedTick", desc := "(II)I" } : MethodName)) ∈ am_ws := am_t3 172 rfl rfl
theorem wd_653 : (Cond.code ({ cls := "NumberedSparks$Scene", name := "plannedTick", desc := "(II)I" } : MethodName) prog_7_method_20_code (4 : Nat) (Option.some FieldType.int)) ∈ am_ws := am_t3 173 rfl rfl
theorem wd_654 : (Cond.methodLink "NumberedSparks$Scene" (99 : Nat) ({ cls := "java/lang/Math", name := "max", desc := "(II)I" } : MethodName)) ∈ am_ws := am_t3 174 rfl rfl
theorem wd_655 : (Cond.static ({ cls := "java/lang/Math", name := "max", desc := "(II)I" } : MethodName)) ∈ am_ws := am_t3 175 rfl rfl
theorem wd_656 : (Cond.code ({ cls := "java/lang/Math", name := "max", desc := "(II)I" } : MethodName) prog_13_method_65_code (2 : Nat) (Option.some FieldType.int)) ∈ am_ws := am_t3 176 rfl rfl
theorem wd_657 : (Cond.methodLinkNest "NumberedSparks$Scene" (105 : Nat) ({ cls := "NumberedSparks", name := "codeOfRoot", desc := "(II)I" } : MethodName) "NumberedSparks") ∈ am_ws := am_t3 177 rfl rfl
theorem wd_658 : (Cond.static ({ cls := "NumberedSparks", name := "codeOfRoot", desc := "(II)I" } : MethodName)) ∈ am_ws := am_t3 178 rfl rfl
theorem wd_659 : (Cond.code ({ cls := "NumberedSparks", name := "codeOfRoot", desc := "(II)I" } : MethodName) prog_1_method_66_code (2 : Nat) (Option.some FieldType.int)) ∈ am_ws := am_t3 179 rfl rfl
theorem wd_660 : (Cond.methodLink "NumberedSparks$Scene" (70 : Nat) ({ cls := "NumberedSparks$Scene", name := "draw", desc := "(III)I" } : MethodName)) ∈ am_ws := am_t3 180 rfl rfl
theorem wd_661 : (Cond.instanceMethod ({ cls := "NumberedSparks$Scene", name := "draw", desc := "(III)I" } : MethodName)) ∈ am_ws := am_t3 181 rfl rfl
theorem wd_662 : (Cond.selects "NumberedSparks$Scene" ({ cls := "NumberedSparks$Scene", name := "draw", desc := "(III)I" } : MethodName) ({ cls := "NumberedSparks$Scene", name := "draw", desc := "(III)I" } : MethodName)) ∈ am_ws := am_t3 182 rfl rfl
theorem wd_663 : (Cond.code ({ cls := "NumberedSparks$Scene", name := "draw", desc := "(III)I" } : MethodName) prog_7_method_15_code (4 : Nat) (Option.some FieldType.int)) ∈ am_ws := am_t3 183 rfl rfl
theorem wd_664 : (Cond.methodLink "NumberedSparks$Scene" (66 : Nat) ({ cls := "NumberedSparks$Scene", name := "mix", desc := "(II)J" } : MethodName)) ∈ am_ws := am_t3 184 rfl rfl
theorem wd_665 : (Cond.methodLink "NumberedSparks$Finder" (47 : Nat) ({ cls := "NumberedSparks$Spark", name := "beginAtSource", desc := "(III)V" } : MethodName)) ∈ am_ws := am_t3 185 rfl rfl
theorem wd_666 : (Cond.instanceMethod ({ cls := "NumberedSparks$Spark", name := "beginAtSource", desc := "(III)V" } : MethodName)) ∈ am_ws := am_t3 186 rfl rfl
theorem wd_667 : (Cond.selects "NumberedSparks$Spark" ({ cls := "NumberedSparks$Spark", name := "beginAtSource", desc := "(III)V" } : MethodName) ({ cls := "NumberedSparks$Spark", name := "beginAtSource", desc := "(III)V" } : MethodName)) ∈ am_ws := am_t3 187 rfl rfl
theorem wd_668 : (Cond.code ({ cls := "NumberedSparks$Spark", name := "beginAtSource", desc := "(III)V" } : MethodName) prog_8_method_2_code (5 : Nat) (Option.none : Option FieldType)) ∈ am_ws := am_t3 188 rfl rfl
theorem wd_669 : (Cond.methodLinkNest "NumberedSparks$Spark" (22 : Nat) ({ cls := "NumberedSparks", name := "codeOfRoot", desc := "(II)I" } : MethodName) "NumberedSparks") ∈ am_ws := am_t3 189 rfl rfl
theorem wd_670 : (Cond.methodLink "NumberedSparks$Spark" (30 : Nat) ({ cls := "NumberedSparks$Scene", name := "ofSource", desc := "(II)I" } : MethodName)) ∈ am_ws := am_t3 190 rfl rfl
theorem wd_671 : (Cond.methodLink "NumberedSparks$Spark" (44 : Nat) ({ cls := "NumberedSparks$Scene", name := "ofKind", desc := "(II)I" } : MethodName)) ∈ am_ws := am_t3 191 rfl rfl
theorem wd_672 : (Cond.methodLink "NumberedSparks$Spark" (47 : Nat) ({ cls := "NumberedSparks$Scene", name := "draw", desc := "(III)I" } : MethodName)) ∈ am_ws := am_t3 192 rfl rfl
theorem wd_673 : (Cond.methodLink "NumberedSparks$Finder" (51 : Nat) ({ cls := "NumberedSparks$Spark", name := "fly", desc := "()V" } : MethodName)) ∈ am_ws := am_t3 193 rfl rfl
theorem wd_674 : (Cond.instanceMethod ({ cls := "NumberedSparks$Spark", name := "fly", desc := "()V" } : MethodName)) ∈ am_ws := am_t3 194 rfl rfl
theorem wd_675 : (Cond.selects "NumberedSparks$Spark" ({ cls := "NumberedSparks$Spark", name := "fly", desc := "()V" } : MethodName) ({ cls := "NumberedSparks$Spark", name := "fly", desc := "()V" } : MethodName)) ∈ am_ws := am_t3 195 rfl rfl
theorem wd_676 : (Cond.code ({ cls := "NumberedSparks$Spark", name := "fly", desc := "()V" } : MethodName) prog_8_method_4_code (3 : Nat) (Option.none : Option FieldType)) ∈ am_ws := am_t3 196 rfl rfl
theorem wd_677 : (Cond.methodLink "NumberedSparks$Spark" (66 : Nat) ({ cls := "NumberedSparks$Spark", name := "ageBeyond", desc := "(II)I" } : MethodName)) ∈ am_ws := am_t3 197 rfl rfl
theorem wd_679 : (Cond.instanceMethod ({ cls := "NumberedSparks$Spark", name := "ageBeyond", desc := "(II)I" } : MethodName)) ∈ am_ws := am_t3 199 rfl rfl
theorem wd_680 : (Cond.code ({ cls := "NumberedSparks$Spark", name := "ageBeyond", desc := "(II)I" } : MethodName) prog_8_method_5_code (8 : Nat) (Option.some FieldType.int)) ∈ am_ws := am_t3 200 rfl rfl
theorem wd_681 : (Cond.methodLink "NumberedSparks$Spark" (74 : Nat) ({ cls := "NumberedSparks$Scene", name := "cellsAlong", desc := "(I)I" } : MethodName)) ∈ am_ws := am_t3 201 rfl rfl
theorem wd_682 : (Cond.methodLink "NumberedSparks$Spark" (69 : Nat) ({ cls := "java/lang/Math", name := "min", desc := "(II)I" } : MethodName)) ∈ am_ws := am_t3 202 rfl rfl
theorem wd_683 : (Cond.methodLinkNest "NumberedSparks$Finder" (54 : Nat) ({ cls := "NumberedSparks", name := "generationOf", desc := "(I)I" } : MethodName) "NumberedSparks") ∈ am_ws := am_t3 203 rfl rfl
theorem wd_684 : (Cond.methodLink "NumberedSparks$Finder" (57 : Nat) ({ cls := "NumberedSparks$Spark", name := "beginAsChild", desc := "(LNumberedSparks$Spark;I)V" } : MethodName)) ∈ am_ws := am_t3 204 rfl rfl
theorem wd_685 : (Cond.instanceMethod ({ cls := "NumberedSparks$Spark", name := "beginAsChild", desc := "(LNumberedSparks$Spark;I)V" } : MethodName)) ∈ am_ws := am_t3 205 rfl rfl
theorem wd_686 : (Cond.selects "NumberedSparks$Spark" ({ cls := "NumberedSparks$Spark", name := "beginAsChild", desc := "(LNumberedSparks$Spark;I)V" } : MethodName) ({ cls := "NumberedSparks$Spark", name := "beginAsChild", desc := "(LNumberedSparks$Spark;I)V" } : MethodName)) ∈ am_ws := am_t3 206 rfl rfl
theorem wd_687 : (Cond.code ({ cls := "NumberedSparks$Spark", name := "beginAsChild", desc := "(LNumberedSparks$Spark;I)V" } : MethodName) prog_8_method_3_code (4 : Nat) (Option.none : Option FieldType)) ∈ am_ws := am_t3 207 rfl rfl
theorem wd_688 : (Cond.methodLinkNest "NumberedSparks$Spark" (54 : Nat) ({ cls := "NumberedSparks", name := "codeOfChild", desc := "(III)I" } : MethodName) "NumberedSparks") ∈ am_ws := am_t3 208 rfl rfl
theorem wd_689 : (Cond.methodLink "NumberedSparks$Spark" (57 : Nat) ({ cls := "NumberedSparks$Spark", name := "placeAt", desc := "(II)I" } : MethodName)) ∈ am_ws := am_t3 209 rfl rfl
theorem wd_690 : (Cond.instanceMethod ({ cls := "NumberedSparks$Spark", name := "placeAt", desc := "(II)I" } : MethodName)) ∈ am_ws := am_t3 210 rfl rfl
theorem wd_691 : (Cond.selects "NumberedSparks$Spark" ({ cls := "NumberedSparks$Spark", name := "placeAt", desc := "(II)I" } : MethodName) ({ cls := "NumberedSparks$Spark", name := "placeAt", desc := "(II)I" } : MethodName)) ∈ am_ws := am_t3 211 rfl rfl
theorem wd_692 : (Cond.code ({ cls := "NumberedSparks$Spark", name := "placeAt", desc := "(II)I" } : MethodName) prog_8_method_9_code (6 : Nat) (Option.some FieldType.int)) ∈ am_ws := am_t3 212 rfl rfl
theorem wd_693 : (Cond.methodLink "NumberedSparks$Spark" (78 : Nat) ({ cls := "NumberedSparks$Spark", name := "freePlace", desc := "(II)I" } : MethodName)) ∈ am_ws := am_t3 213 rfl rfl
theorem wd_695 : (Cond.instanceMethod ({ cls := "NumberedSparks$Spark", name := "freePlace", desc := "(II)I" } : MethodName)) ∈ am_ws := am_t3 215 rfl rfl
theorem wd_696 : (Cond.code ({ cls := "NumberedSparks$Spark", name := "freePlace", desc := "(II)I" } : MethodName) prog_8_method_8_code (4 : Nat) (Option.some FieldType.int)) ∈ am_ws := am_t3 216 rfl rfl
theorem wd_697 : (Cond.methodLink "NumberedSparks$Spark" (81 : Nat) ({ cls := "java/lang/Math", name := "floorMod", desc := "(II)I" } : MethodName)) ∈ am_ws := am_t3 217 rfl rfl
theorem wd_698 : (Cond.static ({ cls := "java/lang/Math", name := "floorMod", desc := "(II)I" } : MethodName)) ∈ am_ws := am_t3 218 rfl rfl
theorem wd_699 : (Cond.code ({ cls := "java/lang/Math", name := "floorMod", desc := "(II)I" } : MethodName) prog_13_method_50_code (3 : Nat) (Option.some FieldType.int)) ∈ am_ws := am_t3 219 rfl rfl
theorem wd_700 : (Cond.methodLink "NumberedSparks" (185 : Nat) ({ cls := "NumberedSparks", name := "sourceOf", desc := "(I)I" } : MethodName)) ∈ am_ws := am_t3 220 rfl rfl
theorem wd_701 : (Cond.methodLink "NumberedSparks" (188 : Nat) ({ cls := "NumberedSparks", name := "numberOf", desc := "(I)I" } : MethodName)) ∈ am_ws := am_t3 221 rfl rfl
theorem wd_702 : (Cond.methodLink "NumberedSparks" (194 : Nat) ({ cls := "NumberedSparks$Scene", name := "colourOf", desc := "(I)I" } : MethodName)) ∈ am_ws := am_t3 222 rfl rfl
theorem wd_703 : (Cond.instanceMethod ({ cls := "NumberedSparks$Scene", name := "colourOf", desc := "(I)I" } : MethodName)) ∈ am_ws := am_t3 223 rfl rfl
theorem wd_704 : (Cond.selects "NumberedSparks$Scene" ({ cls := "NumberedSparks$Scene", name := "colourOf", desc := "(I)I" } : MethodName) ({ cls := "NumberedSparks$Scene", name := "colourOf", desc := "(I)I" } : MethodName)) ∈ am_ws := am_t3 224 rfl rfl
theorem wd_705 : (Cond.code ({ cls := "NumberedSparks$Scene", name := "colourOf", desc := "(I)I" } : MethodName) prog_7_method_16_code (2 : Nat) (Option.some FieldType.int)) ∈ am_ws := am_t3 225 rfl rfl
theorem wd_706 : (Cond.methodLink "NumberedSparks" (203 : Nat) ({ cls := "NumberedSparks$Spark", name := "speedAlong", desc := "(I)I" } : MethodName)) ∈ am_ws := am_t3 226 rfl rfl
theorem wd_707 : (Cond.instanceMethod ({ cls := "NumberedSparks$Spark", name := "speedAlong", desc := "(I)I" } : MethodName)) ∈ am_ws := am_t3 227 rfl rfl
theorem wd_708 : (Cond.selects "NumberedSparks$Spark" ({ cls := "NumberedSparks$Spark", name := "speedAlong", desc := "(I)I" } : MethodName) ({ cls := "NumberedSparks$Spark", name := "speedAlong", desc := "(I)I" } : MethodName)) ∈ am_ws := am_t3 228 rfl rfl
theorem wd_709 : (Cond.code ({ cls := "NumberedSparks$Spark", name := "speedAlong", desc := "(I)I" } : MethodName) prog_8_method_6_code (2 : Nat) (Option.some FieldType.int)) ∈ am_ws := am_t3 229 rfl rfl
theorem wd_710 : (Cond.methodLink "NumberedSparksLaw" (70 : Nat) ({ cls := "NumberedSparks", name := "place", desc := "(III)I" } : MethodName)) ∈ am_ws := am_t3 230 rfl rfl
theorem wd_711 : (Cond.instanceMethod ({ cls := "NumberedSparks", name := "place", desc := "(III)I" } : MethodName)) ∈ am_ws := am_t3 231 rfl rfl
theorem wd_712 : (Cond.selects "NumberedSparks" ({ cls := "NumberedSparks", name := "place", desc := "(III)I" } : MethodName) ({ cls := "NumberedSparks", name := "place", desc := "(III)I" } : MethodName)) ∈ am_ws := am_t3 232 rfl rfl
theorem wd_713 : (Cond.code ({ cls := "NumberedSparks", name := "place", desc := "(III)I" } : MethodName) prog_1_method_18_code (5 : Nat) (Option.some FieldType.int)) ∈ am_ws := am_t3 233 rfl rfl
theorem wd_714 : (Cond.methodLink "NumberedSparks" (206 : Nat) ({ cls := "NumberedSparks", name := "isTick", desc := "(I)Z" } : MethodName)) ∈ am_ws := am_t3 234 rfl rfl
theorem wd_715 : (Cond.static ({ cls := "NumberedSparks", name := "isTick", desc := "(I)Z" } : MethodName)) ∈ am_ws := am_t3 235 rfl rfl
theorem wd_716 : (Cond.code ({ cls := "NumberedSparks", name := "isTick", desc := "(I)Z" } : MethodName) prog_1_method_60_code (1 : Nat) (Option.some FieldType.boolean)) ∈ am_ws := am_t3 236 rfl rfl
theorem wd_717 : (Cond.methodLink "NumberedSparks" (209 : Nat) ({ cls := "NumberedSparks", name := "isAxis", desc := "(I)Z" } : MethodName)) ∈ am_ws := am_t3 237 rfl rfl
theorem wd_718 : (Cond.static ({ cls := "NumberedSparks", name := "isAxis", desc := "(I)Z" } : MethodName)) ∈ am_ws := am_t3 238 rfl rfl
theorem wd_719 : (Cond.code ({ cls := "NumberedSparks", name := "isAxis", desc := "(I)Z" } : MethodName) prog_1_method_61_code (1 : Nat) (Option.some FieldType.boolean)) ∈ am_ws := am_t3 239 rfl rfl
theorem wd_720 : (Cond.methodLink "NumberedSparks" (212 : Nat) ({ cls := "NumberedSparks$Spark", name := "isThere", desc := "(I)Z" } : MethodName)) ∈ am_ws := am_t4 0 rfl rfl
theorem wd_721 : (Cond.instanceMethod ({ cls := "NumberedSparks$Spark", name := "isThere", desc := "(I)Z" } : MethodName)) ∈ am_ws := am_t4 1 rfl rfl
theorem wd_722 : (Cond.selects "NumberedSparks$Spark" ({ cls := "NumberedSparks$Spark", name := "isThere", desc := "(I)Z" } : MethodName) ({ cls := "NumberedSparks$Spark", name := "isThere", desc := "(I)Z" } : MethodName)) ∈ am_ws := am_t4 2 rfl rfl
theorem wd_723 : (Cond.code ({ cls := "NumberedSparks$Spark", name := "isThere", desc := "(I)Z" } : MethodName) prog_8_method_7_code (2 : Nat) (Option.some FieldType.boolean)) ∈ am_ws := am_t4 3 rfl rfl
theorem wd_724 : (Cond.methodLink "NumberedSparks" (215 : Nat) ({ cls := "NumberedSparks$Spark", name := "placeAt", desc := "(II)I" } : MethodName)) ∈ am_ws := am_t4 4 rfl rfl
theorem wd_725 : (Cond.methodLink "NumberedSparksLaw" (75 : Nat) ({ cls := "NumberedSparks", name := "size", desc := "(II)I" } : MethodName)) ∈ am_ws := am_t4 5 rfl rfl
theorem wd_726 : (Cond.instanceMethod ({ cls := "NumberedSparks", name := "size", desc := "(II)I" } : MethodName)) ∈ am_ws := am_t4 6 rfl rfl
theorem wd_727 : (Cond.selects "NumberedSparks" ({ cls := "NumberedSparks", name := "size", desc := "(II)I" } : MethodName) ({ cls := "NumberedSparks", name := "size", desc := "(II)I" } : MethodName)) ∈ am_ws := am_t4 7 rfl rfl
theorem wd_728 : (Cond.code ({ cls := "NumberedSparks", name := "size", desc := "(II)I" } : MethodName) prog_1_method_19_code (6 : Nat) (Option.some FieldType.int)) ∈ am_ws := am_t4 8 rfl rfl
theorem wd_729 : (Cond.methodLink "NumberedSparks" (218 : Nat) ({ cls := "java/lang/Math", name := "max", desc := "(II)I" } : MethodName)) ∈ am_ws := am_t4 9 rfl rfl
theorem wd_730 : (Cond.methodLink "NumberedSparksLaw" (79 : Nat) ({ cls := "NumberedSparks", name := "edges", desc := "(I)I" } : MethodName)) ∈ am_ws := am_t4 10 rfl rfl
theorem wd_731 : (Cond.instanceMethod ({ cls := "NumberedSparks", name := "edges", desc := "(I)I" } : MethodName)) ∈ am_ws := am_t4 11 rfl rfl
theorem wd_732 : (Cond.selects "NumberedSparks" ({ cls := "NumberedSparks", name := "edges", desc := "(I)I" } : MethodName) ({ cls := "NumberedSparks", name := "edges", desc := "(I)I" } : MethodName)) ∈ am_ws := am_t4 12 rfl rfl
theorem wd_733 : (Cond.code ({ cls := "NumberedSparks", name := "edges", desc := "(I)I" } : MethodName) prog_1_method_20_code (5 : Nat) (Option.some FieldType.int)) ∈ am_ws := am_t4 13 rfl rfl
theorem wd_734 : (Cond.methodLink "NumberedSparks" (223 : Nat) ({ cls := "NumberedSparks$Spark", name := "edgesAt", desc := "(I)I" } : MethodName)) ∈ am_ws := am_t4 14 rfl rfl
theorem wd_735 : (Cond.instanceMethod ({ cls := "NumberedSparks$Spark", name := "edgesAt", desc := "(I)I" } : MethodName)) ∈ am_ws := am_t4 15 rfl rfl
theorem wd_736 : (Cond.selects "NumberedSparks$Spark" ({ cls := "NumberedSparks$Spark", name := "edgesAt", desc := "(I)I" } : MethodName) ({ cls := "NumberedSparks$Spark", name := "edgesAt", desc := "(I)I" } : MethodName)) ∈ am_ws := am_t4 16 rfl rfl
theorem wd_737 : (Cond.code ({ cls := "NumberedSparks$Spark", name := "edgesAt", desc := "(I)I" } : MethodName) prog_8_method_11_code (7 : Nat) (Option.some FieldType.int)) ∈ am_ws := am_t4 17 rfl rfl
theorem wd_738 : (Cond.methodLink "NumberedSparks$Spark" (84 : Nat) ({ cls := "java/lang/Math", name := "max", desc := "(II)I" } : MethodName)) ∈ am_ws := am_t4 18 rfl rfl
theorem wd_739 : (Cond.methodLink "NumberedSparks$Spark" (87 : Nat) ({ cls := "java/lang/Math", name := "floorDiv", desc := "(II)I" } : MethodName)) ∈ am_ws := am_t4 19 rfl rfl
theorem wd_740 : (Cond.static ({ cls := "java/lang/Math", name := "floorDiv", desc := "(II)I" } : MethodName)) ∈ am_ws := am_t4 20 rfl rfl
theorem wd_741 : (Cond.code ({ cls := "java/lang/Math", name := "floorDiv", desc := "(II)I" } : MethodName) prog_13_method_47_code (3 : Nat) (Option.some FieldType.int)) ∈ am_ws := am_t4 21 rfl rfl
theorem wd_742 : (Cond.methodLink "NumberedSparks$Spark" (90 : Nat) ({ cls := "java/lang/Math", name := "abs", desc := "(I)I" } : MethodName)) ∈ am_ws := am_t4 22 rfl rfl
theorem wd_743 : (Cond.static ({ cls := "java/lang/Math", name := "abs", desc := "(I)I" } : MethodName)) ∈ am_ws := am_t4 23 rfl rfl
theorem wd_744 : (Cond.code ({ cls := "java/lang/Math", name := "abs", desc := "(I)I" } : MethodName) prog_13_method_59_code (1 : Nat) (Option.some FieldType.int)) ∈ am_ws := am_t4 24 rfl rfl
theorem wd_745 : (Cond.methodLink "NumberedSparksLaw" (193 : Nat) ({ cls := "NumberedSparks", name := "over", desc := "(I)I" } : MethodName)) ∈ am_ws := am_t4 25 rfl rfl
theorem wd_746 : (Cond.instanceMethod ({ cls := "NumberedSparks", name := "over", desc := "(I)I" } : MethodName)) ∈ am_ws := am_t4 26 rfl rfl
theorem wd_747 : (Cond.selects "NumberedSparks" ({ cls := "NumberedSparks", name := "over", desc := "(I)I" } : MethodName) ({ cls := "NumberedSparks", name := "over", desc := "(I)I" } : MethodName)) ∈ am_ws := am_t4 27 rfl rfl
theorem wd_748 : (Cond.code ({ cls := "NumberedSparks", name := "over", desc := "(I)I" } : MethodName) prog_1_method_21_code (4 : Nat) (Option.some FieldType.int)) ∈ am_ws := am_t4 28 rfl rfl
theorem wd_749 : (Cond.methodLink "NumberedSparksLaw" (189 : Nat) ({ cls := "NumberedSparks", name := "reach", desc := "(III)I" } : MethodName)) ∈ am_ws := am_t4 29 rfl rfl
theorem wd_750 : (Cond.instanceMethod ({ cls := "NumberedSparks", name := "reach", desc := "(III)I" } : MethodName)) ∈ am_ws := am_t4 30 rfl rfl
theorem wd_751 : (Cond.selects "NumberedSparks" ({ cls := "NumberedSparks", name := "reach", desc := "(III)I" } : MethodName) ({ cls := "NumberedSparks", name := "reach", desc := "(III)I" } : MethodName)) ∈ am_ws := am_t4 31 rfl rfl
theorem wd_752 : (Cond.code ({ cls := "NumberedSparks", name := "reach", desc := "(III)I" } : MethodName) prog_1_method_22_code (8 : Nat) (Option.some FieldType.int)) ∈ am_ws := am_t4 32 rfl rfl
theorem wd_753 : (Cond.methodLink "NumberedSparks" (226 : Nat) ({ cls := "java/lang/Math", name := "min", desc := "(II)I" } : MethodName)) ∈ am_ws := am_t4 33 rfl rfl
theorem wd_754 : (Cond.methodLink "NumberedSparksLaw" (153 : Nat) ({ cls := "NumberedSparks", name := "cellsOf", desc := "(I)I" } : MethodName)) ∈ am_ws := am_t4 34 rfl rfl
theorem wd_755 : (Cond.instanceMethod ({ cls := "NumberedSparks", name := "cellsOf", desc := "(I)I" } : MethodName)) ∈ am_ws := am_t4 35 rfl rfl
theorem wd_756 : (Cond.selects "NumberedSparks" ({ cls := "NumberedSparks", name := "cellsOf", desc := "(I)I" } : MethodName) ({ cls := "NumberedSparks", name := "cellsOf", desc := "(I)I" } : MethodName)) ∈ am_ws := am_t4 36 rfl rfl
theorem wd_757 : (Cond.code ({ cls := "NumberedSparks", name := "cellsOf", desc := "(I)I" } : MethodName) prog_1_method_23_code (6 : Nat) (Option.some FieldType.int)) ∈ am_ws := am_t4 37 rfl rfl
theorem wd_758 : (Cond.methodLink "NumberedSparks" (229 : Nat) ({ cls := "NumberedSparks$Spark", name := "cellAt", desc := "(I)I" } : MethodName)) ∈ am_ws := am_t4 38 rfl rfl
theorem wd_759 : (Cond.instanceMethod ({ cls := "NumberedSparks$Spark", name := "cellAt", desc := "(I)I" } : MethodName)) ∈ am_ws := am_t4 39 rfl rfl
theorem wd_760 : (Cond.selects "NumberedSparks$Spark" ({ cls := "NumberedSparks$Spark", name := "cellAt", desc := "(I)I" } : MethodName) ({ cls := "NumberedSparks$Spark", name := "cellAt", desc := "(I)I" } : MethodName)) ∈ am_ws := am_t4 40 rfl rfl
theorem wd_761 : (Cond.code ({ cls := "NumberedSparks$Spark", name := "cellAt", desc := "(I)I" } : MethodName) prog_8_method_10_code (5 : Nat) (Option.some FieldType.int)) ∈ am_ws := am_t4 41 rfl rfl
theorem wd_762 : (Cond.methodLink "NumberedSparks" (232 : Nat) ({ cls := "NumberedSparks", name := "isAmong", desc := "(II)Z" } : MethodName)) ∈ am_ws := am_t4 42 rfl rfl
theorem wd_764 : (Cond.instanceMethod ({ cls := "NumberedSparks", name := "isAmong", desc := "(II)Z" } : MethodName)) ∈ am_ws := am_t4 44 rfl rfl
theorem wd_765 : (Cond.code ({ cls := "NumberedSparks", name := "isAmong", desc := "(II)Z" } : MethodName) prog_1_method_24_code (4 : Nat) (Option.some FieldType.boolean)) ∈ am_ws := am_t4 45 rfl rfl
theorem wd_766 : (Cond.methodLink "NumberedSparksLaw" (157 : Nat) ({ cls := "NumberedSparks", name := "meets", desc := "(II)I" } : MethodName)) ∈ am_ws := am_t4 46 rfl rfl
theorem wd_767 : (Cond.instanceMethod ({ cls := "NumberedSparks", name := "meets", desc := "(II)I" } : MethodName)) ∈ am_ws := am_t4 47 rfl rfl
theorem wd_768 : (Cond.selects "NumberedSparks" ({ cls := "NumberedSparks", name := "meets", desc := "(II)I" } : MethodName) ({ cls := "NumberedSparks", name := "meets", desc := "(II)I" } : MethodName)) ∈ am_ws := am_t4 48 rfl rfl
theorem wd_769 : (Cond.code ({ cls := "NumberedSparks", name := "meets", desc := "(II)I" } : MethodName) prog_1_method_25_code (7 : Nat) (Option.some FieldType.int)) ∈ am_ws := am_t4 49 rfl rfl
theorem wd_770 : (Cond.methodLink "NumberedSparksLaw" (185 : Nat) ({ cls := "NumberedSparks", name := "kin", desc := "(II)I" } : MethodName)) ∈ am_ws := am_t4 50 rfl rfl
theorem wd_771 : (Cond.instanceMethod ({ cls := "NumberedSparks", name := "kin", desc := "(II)I" } : MethodName)) ∈ am_ws := am_t4 51 rfl rfl
theorem wd_772 : (Cond.selects "NumberedSparks" ({ cls := "NumberedSparks", name := "kin", desc := "(II)I" } : MethodName) ({ cls := "NumberedSparks", name := "kin", desc := "(II)I" } : MethodName)) ∈ am_ws := am_t4 52 rfl rfl
theorem wd_773 : (Cond.code ({ cls := "NumberedSparks", name := "kin", desc := "(II)I" } : MethodName) prog_1_method_26_code (3 : Nat) (Option.some FieldType.int)) ∈ am_ws := am_t4 53 rfl rfl
theorem wd_774 : (Cond.methodLink "NumberedSparksLaw" (133 : Nat) ({ cls := "NumberedSparks", name := "line", desc := "(II)I" } : MethodName)) ∈ am_ws := am_t4 54 rfl rfl
theorem wd_775 : (Cond.instanceMethod ({ cls := "NumberedSparks", name := "line", desc := "(II)I" } : MethodName)) ∈ am_ws := am_t4 55 rfl rfl
theorem wd_776 : (Cond.selects "NumberedSparks" ({ cls := "NumberedSparks", name := "line", desc := "(II)I" } : MethodName) ({ cls := "NumberedSparks", name := "line", desc := "(II)I" } : MethodName)) ∈ am_ws := am_t4 56 rfl rfl
theorem wd_777 : (Cond.code ({ cls := "NumberedSparks", name := "line", desc := "(II)I" } : MethodName) prog_1_method_27_code (7 : Nat) (Option.some FieldType.int)) ∈ am_ws := am_t4 57 rfl rfl
theorem wd_778 : (Cond.methodLink "NumberedSparks" (236 : Nat) ({ cls := "NumberedSparks$Walk", name := "startWithRoot", desc := "(II)V" } : MethodName)) ∈ am_ws := am_t4 58 rfl rfl
theorem wd_779 : (Cond.instanceMethod ({ cls := "NumberedSparks$Walk", name := "startWithRoot", desc := "(II)V" } : MethodName)) ∈ am_ws := am_t4 59 rfl rfl
theorem wd_780 : (Cond.selects "NumberedSparks$Walk" ({ cls := "NumberedSparks$Walk", name := "startWithRoot", desc := "(II)V" } : MethodName) ({ cls := "NumberedSparks$Walk", name := "startWithRoot", desc := "(II)V" } : MethodName)) ∈ am_ws := am_t4 60 rfl rfl
theorem wd_781 : (Cond.code ({ cls := "NumberedSparks$Walk", name := "startWithRoot", desc := "(II)V" } : MethodName) prog_9_method_3_code (4 : Nat) (Option.none : Option FieldType)) ∈ am_ws := am_t4 61 rfl rfl
theorem wd_782 : (Cond.methodLink "NumberedSparks$Walk" (63 : Nat) ({ cls := "NumberedSparks$Walk", name := "start", desc := "(II)V" } : MethodName)) ∈ am_ws := am_t4 62 rfl rfl
theorem wd_783 : (Cond.instanceMethod ({ cls := "NumberedSparks$Walk", name := "start", desc := "(II)V" } : MethodName)) ∈ am_ws := am_t4 63 rfl rfl
theorem wd_784 : (Cond.selects "NumberedSparks$Walk" ({ cls := "NumberedSparks$Walk", name := "start", desc := "(II)V" } : MethodName) ({ cls := "NumberedSparks$Walk", name := "start", desc := "(II)V" } : MethodName)) ∈ am_ws := am_t4 64 rfl rfl
theorem wd_785 : (Cond.code ({ cls := "NumberedSparks$Walk", name := "start", desc := "(II)V" } : MethodName) prog_9_method_2_code (6 : Nat) (Option.none : Option FieldType)) ∈ am_ws := am_t4 65 rfl rfl
theorem wd_786 : (Cond.methodLink "NumberedSparks$Walk" (44 : Nat) ({ cls := "NumberedSparks$Walk", name := "measureSpans", desc := "()V" } : MethodName)) ∈ am_ws := am_t4 66 rfl rfl
theorem wd_788 : (Cond.instanceMethod ({ cls := "NumberedSparks$Walk", name := "measureSpans", desc := "()V" } : MethodName)) ∈ am_ws := am_t4 68 rfl rfl
theorem wd_789 : (Cond.code ({ cls := "NumberedSparks$Walk", name := "measureSpans", desc := "()V" } : MethodName) prog_9_method_4_code (4 : Nat) (Option.none : Option FieldType)) ∈ am_ws := am_t4 69 rfl rfl
theorem wd_790 : (Cond.methodLink "NumberedSparks$Walk" (70 : Nat) ({ cls := "NumberedSparks$Scene", name := "ofKind", desc := "(II)I" } : MethodName)) ∈ am_ws := am_t4 70 rfl rfl
theorem wd_791 : (Cond.methodLink "NumberedSparks$Walk" (73 : Nat) ({ cls := "NumberedSparks$Walk", name := "spanBehind", desc := "(II)I" } : MethodName)) ∈ am_ws := am_t4 71 rfl rfl
theorem wd_793 : (Cond.instanceMethod ({ cls := "NumberedSparks$Walk", name := "spanBehind", desc := "(II)I" } : MethodName)) ∈ am_ws := am_t4 73 rfl rfl
theorem wd_794 : (Cond.code ({ cls := "NumberedSparks$Walk", name := "spanBehind", desc := "(II)I" } : MethodName) prog_9_method_6_code (3 : Nat) (Option.some FieldType.int)) ∈ am_ws := am_t4 74 rfl rfl
theorem wd_795 : (Cond.methodLink "NumberedSparks$Walk" (57 : Nat) ({ cls := "NumberedSparks$Walk", name := "spanOf", desc := "(II)I" } : MethodName)) ∈ am_ws := am_t4 75 rfl rfl
theorem wd_797 : (Cond.instanceMethod ({ cls := "NumberedSparks$Walk", name := "spanOf", desc := "(II)I" } : MethodName)) ∈ am_ws := am_t4 77 rfl rfl
theorem wd_798 : (Cond.code ({ cls := "NumberedSparks$Walk", name := "spanOf", desc := "(II)I" } : MethodName) prog_9_method_5_code (4 : Nat) (Option.some FieldType.int)) ∈ am_ws := am_t4 78 rfl rfl
theorem wd_799 : (Cond.methodLink "NumberedSparks$Walk" (47 : Nat) ({ cls := "NumberedSparks$Scene", name := "isSource", desc := "(I)Z" } : MethodName)) ∈ am_ws := am_t4 79 rfl rfl
theorem wd_800 : (Cond.methodLink "NumberedSparks$Walk" (53 : Nat) ({ cls := "NumberedSparks$Scene", name := "ofSource", desc := "(II)I" } : MethodName)) ∈ am_ws := am_t4 80 rfl rfl
theorem wd_801 : (Cond.methodLink "NumberedSparks$Walk" (60 : Nat) ({ cls := "NumberedSparks$Scene", name := "burstsUpTo", desc := "(II)I" } : MethodName)) ∈ am_ws := am_t4 81 rfl rfl
theorem wd_802 : (Cond.methodLink "NumberedSparks" (240 : Nat) ({ cls := "NumberedSparks$Walk", name := "stepRoot", desc := "()Z" } : MethodName)) ∈ am_ws := am_t4 82 rfl rfl
theorem wd_803 : (Cond.instanceMethod ({ cls := "NumberedSparks$Walk", name := "stepRoot", desc := "()Z" } : MethodName)) ∈ am_ws := am_t4 83 rfl rfl
theorem wd_804 : (Cond.selects "NumberedSparks$Walk" ({ cls := "NumberedSparks$Walk", name := "stepRoot", desc := "()Z" } : MethodName) ({ cls := "NumberedSparks$Walk", name := "stepRoot", desc := "()Z" } : MethodName)) ∈ am_ws := am_t4 84 rfl rfl
theorem wd_805 : (Cond.code ({ cls := "NumberedSparks$Walk", name := "stepRoot", desc := "()Z" } : MethodName) prog_9_method_7_code (7 : Nat) (Option.some FieldType.boolean)) ∈ am_ws := am_t4 85 rfl rfl
theorem wd_806 : (Cond.methodLink "NumberedSparks$Walk" (79 : Nat) ({ cls := "NumberedSparks$Walk", name := "sourceOfLeastRoot", desc := "()I" } : MethodName)) ∈ am_ws := am_t4 86 rfl rfl
theorem wd_808 : (Cond.instanceMethod ({ cls := "NumberedSparks$Walk", name := "sourceOfLeastRoot", desc := "()I" } : MethodName)) ∈ am_ws := am_t4 88 rfl rfl
theorem wd_809 : (Cond.code ({ cls := "NumberedSparks$Walk", name := "sourceOfLeastRoot", desc := "()I" } : MethodName) prog_9_method_11_code (3 : Nat) (Option.some FieldType.int)) ∈ am_ws := am_t4 89 rfl rfl
theorem wd_810 : (Cond.methodLink "NumberedSparks$Walk" (83 : Nat) ({ cls := "NumberedSparks$Scene", name := "birthTick", desc := "(II)I" } : MethodName)) ∈ am_ws := am_t4 90 rfl rfl
theorem wd_811 : (Cond.methodLink "NumberedSparks$Walk" (86 : Nat) ({ cls := "NumberedSparks$Spark", name := "beginAtSource", desc := "(III)V" } : MethodName)) ∈ am_ws := am_t4 91 rfl rfl
theorem wd_812 : (Cond.methodLink "NumberedSparks$Walk" (90 : Nat) ({ cls := "NumberedSparks$Walk", name := "isOutside", desc := "(LNumberedSparks$Spark;)Z" } : MethodName)) ∈ am_ws := am_t4 92 rfl rfl
theorem wd_814 : (Cond.instanceMethod ({ cls := "NumberedSparks$Walk", name := "isOutside", desc := "(LNumberedSparks$Spark;)Z" } : MethodName)) ∈ am_ws := am_t4 94 rfl rfl
theorem wd_815 : (Cond.code ({ cls := "NumberedSparks$Walk", name := "isOutside", desc := "(LNumberedSparks$Spark;)Z" } : MethodName) prog_9_method_9_code (2 : Nat) (Option.some FieldType.boolean)) ∈ am_ws := am_t4 95 rfl rfl
theorem wd_816 : (Cond.methodLink "NumberedSparks$Walk" (94 : Nat) ({ cls := "NumberedSparks$Spark", name := "fly", desc := "()V" } : MethodName)) ∈ am_ws := am_t4 96 rfl rfl
theorem wd_817 : (Cond.methodLink "NumberedSparks$Walk" (97 : Nat) ({ cls := "NumberedSparks$Walk", name := "show", desc := "(I)V" } : MethodName)) ∈ am_ws := am_t4 97 rfl rfl
theorem wd_819 : (Cond.instanceMethod ({ cls := "NumberedSparks$Walk", name := "show", desc := "(I)V" } : MethodName)) ∈ am_ws := am_t4 99 rfl rfl
theorem wd_820 : (Cond.code ({ cls := "NumberedSparks$Walk", name := "show", desc := "(I)V" } : MethodName) prog_9_method_10_code (2 : Nat) (Option.none : Option FieldType)) ∈ am_ws := am_t4 100 rfl rfl
theorem wd_821 : (Cond.methodLink "NumberedSparks$Walk" (104 : Nat) ({ cls := "NumberedSparks$Walk", name := "stepChild", desc := "(LNumberedSparks$Spark;II)V" } : MethodName)) ∈ am_ws := am_t4 101 rfl rfl
theorem wd_823 : (Cond.instanceMethod ({ cls := "NumberedSparks$Walk", name := "stepChild", desc := "(LNumberedSparks$Spark;II)V" } : MethodName)) ∈ am_ws := am_t4 103 rfl rfl
theorem wd_824 : (Cond.code ({ cls := "NumberedSparks$Walk", name := "stepChild", desc := "(LNumberedSparks$Spark;II)V" } : MethodName) prog_9_method_8_code (8 : Nat) (Option.none : Option FieldType)) ∈ am_ws := am_t4 104 rfl rfl
theorem wd_825 : (Cond.methodLink "NumberedSparks$Walk" (108 : Nat) ({ cls := "NumberedSparks$Spark", name := "beginAsChild", desc := "(LNumberedSparks$Spark;I)V" } : MethodName)) ∈ am_ws := am_t4 105 rfl rfl
theorem wd_826 : (Cond.methodLink "NumberedSparks" (246 : Nat) ({ cls := "NumberedSparks$Walk", name := "shown", desc := "(I)LNumberedSparks$Spark;" } : MethodName)) ∈ am_ws := am_t4 106 rfl rfl
theorem wd_827 : (Cond.instanceMethod ({ cls := "NumberedSparks$Walk", name := "shown", desc := "(I)LNumberedSparks$Spark;" } : MethodName)) ∈ am_ws := am_t4 107 rfl rfl
theorem wd_828 : (Cond.selects "NumberedSparks$Walk" ({ cls := "NumberedSparks$Walk", name := "shown", desc := "(I)LNumberedSparks$Spark;" } : MethodName) ({ cls := "NumberedSparks$Walk", name := "shown", desc := "(I)LNumberedSparks$Spark;" } : MethodName)) ∈ am_ws := am_t4 108 rfl rfl
theorem wd_829 : (Cond.code ({ cls := "NumberedSparks$Walk", name := "shown", desc := "(I)LNumberedSparks$Spark;" } : MethodName) prog_9_method_12_code (3 : Nat) (Option.some (FieldType.object "NumberedSparks$Spark"))) ∈ am_ws := am_t4 109 rfl rfl
theorem wd_830 : (Cond.methodLink "NumberedSparks" (252 : Nat) ({ cls := "NumberedSparks", name := "comesOf", desc := "(II)Z" } : MethodName)) ∈ am_ws := am_t4 110 rfl rfl
theorem wd_831 : (Cond.static ({ cls := "NumberedSparks", name := "comesOf", desc := "(II)Z" } : MethodName)) ∈ am_ws := am_t4 111 rfl rfl
theorem wd_832 : (Cond.code ({ cls := "NumberedSparks", name := "comesOf", desc := "(II)Z" } : MethodName) prog_1_method_70_code (4 : Nat) (Option.some FieldType.boolean)) ∈ am_ws := am_t4 112 rfl rfl
theorem wd_833 : (Cond.methodLink "NumberedSparksLaw" (209 : Nat) ({ cls := "NumberedSparks", name := "tell", desc := "(I)I" } : MethodName)) ∈ am_ws := am_t4 113 rfl rfl
theorem wd_834 : (Cond.instanceMethod ({ cls := "NumberedSparks", name := "tell", desc := "(I)I" } : MethodName)) ∈ am_ws := am_t4 114 rfl rfl
theorem wd_835 : (Cond.selects "NumberedSparks" ({ cls := "NumberedSparks", name := "tell", desc := "(I)I" } : MethodName) ({ cls := "NumberedSparks", name := "tell", desc := "(I)I" } : MethodName)) ∈ am_ws := am_t4 115 rfl rfl
theorem wd_836 : (Cond.code ({ cls := "NumberedSparks", name := "tell", desc := "(I)I" } : MethodName) prog_1_method_28_code (4 : Nat) (Option.some FieldType.int)) ∈ am_ws := am_t4 116 rfl rfl
theorem wd_837 : (Cond.methodLink "NumberedSparks" (255 : Nat) ({ cls := "NumberedSparks$Output", name := "clear", desc := "()V" } : MethodName)) ∈ am_ws := am_t4 117 rfl rfl
theorem wd_838 : (Cond.instanceMethod ({ cls := "NumberedSparks$Output", name := "clear", desc := "()V" } : MethodName)) ∈ am_ws := am_t4 118 rfl rfl
theorem wd_839 : (Cond.selects "NumberedSparks$Output" ({ cls := "NumberedSparks$Output", name := "clear", desc := "()V" } : MethodName) ({ cls := "NumberedSparks$Output", name := "clear", desc := "()V" } : MethodName)) ∈ am_ws := am_t4 119 rfl rfl
theorem wd_840 : (Cond.code ({ cls := "NumberedSparks$Output", name := "clear", desc := "()V" } : MethodName) prog_5_method_2_code (1 : Nat) (Option.none : Option FieldType)) ∈ am_ws := am_t4 120 rfl rfl
theorem wd_841 : (Cond.methodLink "NumberedSparks" (258 : Nat) ({ cls := "NumberedSparks$Output", name := "put", desc := "(I)V" } : MethodName)) ∈ am_ws := am_t4 121 rfl rfl
theorem wd_842 : (Cond.instanceMethod ({ cls := "NumberedSparks$Output", name := "put", desc := "(I)V" } : MethodName)) ∈ am_ws := am_t4 122 rfl rfl
theorem wd_843 : (Cond.selects "NumberedSparks$Output" ({ cls := "NumberedSparks$Output", name := "put", desc := "(I)V" } : MethodName) ({ cls := "NumberedSparks$Output", name := "put", desc := "(I)V" } : MethodName)) ∈ am_ws := am_t4 123 rfl rfl
theorem wd_844 : (Cond.code ({ cls := "NumberedSparks$Output", name := "put", desc := "(I)V" } : MethodName) prog_5_method_3_code (2 : Nat) (Option.none : Option FieldType)) ∈ am_ws := am_t4 124 rfl rfl
theorem wd_845 : (Cond.methodLink "NumberedSparks" (261 : Nat) ({ cls := "NumberedSparks$Output", name := "putNumber", desc := "(I)V" } : MethodName)) ∈ am_ws := am_t4 125 rfl rfl
theorem wd_846 : (Cond.instanceMethod ({ cls := "NumberedSparks$Output", name := "putNumber", desc := "(I)V" } : MethodName)) ∈ am_ws := am_t4 126 rfl rfl
theorem wd_847 : (Cond.selects "NumberedSparks$Output" ({ cls := "NumberedSparks$Output", name := "putNumber", desc := "(I)V" } : MethodName) ({ cls := "NumberedSparks$Output", name := "putNumber", desc := "(I)V" } : MethodName)) ∈ am_ws := am_t4 127 rfl rfl
theorem wd_848 : (Cond.code ({ cls := "NumberedSparks$Output", name := "putNumber", desc := "(I)V" } : MethodName) prog_5_method_4_code (4 : Nat) (Option.none : Option FieldType)) ∈ am_ws := am_t4 128 rfl rfl
theorem wd_849 : (Cond.methodLink "NumberedSparks$Output" (19 : Nat) ({ cls := "NumberedSparks$Output", name := "put", desc := "(I)V" } : MethodName)) ∈ am_ws := am_t4 129 rfl rfl
theorem wd_850 : (Cond.methodLink "NumberedSparksLaw" (149 : Nat) ({ cls := "NumberedSparks", name := "octet", desc := "(I)I" } : MethodName)) ∈ am_ws := am_t4 130 rfl rfl
theorem wd_851 : (Cond.instanceMethod ({ cls := "NumberedSparks", name := "octet", desc := "(I)I" } : MethodName)) ∈ am_ws := am_t4 131 rfl rfl
theorem wd_852 : (Cond.selects "NumberedSparks" ({ cls := "NumberedSparks", name := "octet", desc := "(I)I" } : MethodName) ({ cls := "NumberedSparks", name := "octet", desc := "(I)I" } : MethodName)) ∈ am_ws := am_t4 132 rfl rfl
theorem wd_853 : (Cond.code ({ cls := "NumberedSparks", name := "octet", desc := "(I)I" } : MethodName) prog_1_method_29_code (2 : Nat) (Option.some FieldType.int)) ∈ am_ws := am_t4 133 rfl rfl
theorem wd_854 : (Cond.methodLink "NumberedSparks" (264 : Nat) ({ cls := "NumberedSparks$Output", name := "byteAt", desc := "(I)I" } : MethodName)) ∈ am_ws := am_t4 134 rfl rfl
theorem wd_855 : (Cond.instanceMethod ({ cls := "NumberedSparks$Output", name := "byteAt", desc := "(I)I" } : MethodName)) ∈ am_ws := am_t4 135 rfl rfl
theorem wd_856 : (Cond.selects "NumberedSparks$Output" ({ cls := "NumberedSparks$Output", name := "byteAt", desc := "(I)I" } : MethodName) ({ cls := "NumberedSparks$Output", name := "byteAt", desc := "(I)I" } : MethodName)) ∈ am_ws := am_t4 136 rfl rfl
theorem wd_857 : (Cond.code ({ cls := "NumberedSparks$Output", name := "byteAt", desc := "(I)I" } : MethodName) prog_5_method_5_code (2 : Nat) (Option.some FieldType.int)) ∈ am_ws := am_t4 137 rfl rfl
theorem wd_858 : (Cond.methodLink "NumberedSparksLaw" (83 : Nat) ({ cls := "NumberedSparks", name := "births", desc := "(III)I" } : MethodName)) ∈ am_ws := am_t4 138 rfl rfl
theorem wd_859 : (Cond.instanceMethod ({ cls := "NumberedSparks", name := "births", desc := "(III)I" } : MethodName)) ∈ am_ws := am_t4 139 rfl rfl
theorem wd_860 : (Cond.selects "NumberedSparks" ({ cls := "NumberedSparks", name := "births", desc := "(III)I" } : MethodName) ({ cls := "NumberedSparks", name := "births", desc := "(III)I" } : MethodName)) ∈ am_ws := am_t4 140 rfl rfl
theorem wd_861 : (Cond.code ({ cls := "NumberedSparks", name := "births", desc := "(III)I" } : MethodName) prog_1_method_30_code (4 : Nat) (Option.some FieldType.int)) ∈ am_ws := am_t4 141 rfl rfl
theorem wd_862 : (Cond.methodLink "NumberedSparks" (267 : Nat) ({ cls := "NumberedSparks", name := "isWindow", desc := "(II)Z" } : MethodName)) ∈ am_ws := am_t4 142 rfl rfl
theorem wd_864 : (Cond.instanceMethod ({ cls := "NumberedSparks", name := "isWindow", desc := "(II)Z" } : MethodName)) ∈ am_ws := am_t4 144 rfl rfl
theorem wd_865 : (Cond.code ({ cls := "NumberedSparks", name := "isWindow", desc := "(II)Z" } : MethodName) prog_1_method_63_code (3 : Nat) (Option.some FieldType.boolean)) ∈ am_ws := am_t4 145 rfl rfl
theorem wd_866 : (Cond.methodLink "NumberedSparks" (270 : Nat) ({ cls := "NumberedSparks$Scene", name := "bornBefore", desc := "(II)I" } : MethodName)) ∈ am_ws := am_t4 146 rfl rfl
theorem wd_867 : (Cond.instanceMethod ({ cls := "NumberedSparks$Scene", name := "bornBefore", desc := "(II)I" } : MethodName)) ∈ am_ws := am_t4 147 rfl rfl
theorem wd_868 : (Cond.selects "NumberedSparks$Scene" ({ cls := "NumberedSparks$Scene", name := "bornBefore", desc := "(II)I" } : MethodName) ({ cls := "NumberedSparks$Scene", name := "bornBefore", desc := "(II)I" } : MethodName)) ∈ am_ws := am_t4 148 rfl rfl
theorem wd_869 : (Cond.code ({ cls := "NumberedSparks$Scene", name := "bornBefore", desc := "(II)I" } : MethodName) prog_7_method_22_code (8 : Nat) (Option.some FieldType.int)) ∈ am_ws := am_t4 149 rfl rfl
theorem wd_870 : (Cond.methodLink "NumberedSparks$Scene" (108 : Nat) ({ cls := "NumberedSparks$Scene", name := "burstsUpTo", desc := "(II)I" } : MethodName)) ∈ am_ws := am_t4 150 rfl rfl
theorem wd_871 : (Cond.methodLink "NumberedSparks$Scene" (111 : Nat) ({ cls := "NumberedSparks$Scene", name := "birthTick", desc := "(II)I" } : MethodName)) ∈ am_ws := am_t4 151 rfl rfl
theorem wd_872 : (Cond.methodLink "NumberedSparksLaw" (161 : Nat) ({ cls := "NumberedSparks", name := "bornAs", desc := "(II)I" } : MethodName)) ∈ am_ws := am_t4 152 rfl rfl
theorem wd_873 : (Cond.instanceMethod ({ cls := "NumberedSparks", name := "bornAs", desc := "(II)I" } : MethodName)) ∈ am_ws := am_t4 153 rfl rfl
theorem wd_874 : (Cond.selects "NumberedSparks" ({ cls := "NumberedSparks", name := "bornAs", desc := "(II)I" } : MethodName) ({ cls := "NumberedSparks", name := "bornAs", desc := "(II)I" } : MethodName)) ∈ am_ws := am_t4 154 rfl rfl
theorem wd_875 : (Cond.code ({ cls := "NumberedSparks", name := "bornAs", desc := "(II)I" } : MethodName) prog_1_method_31_code (3 : Nat) (Option.some FieldType.int)) ∈ am_ws := am_t4 155 rfl rfl
theorem wd_876 : (Cond.methodLink "NumberedSparks" (273 : Nat) ({ cls := "NumberedSparks$Scene", name := "codeOfBirth", desc := "(II)I" } : MethodName)) ∈ am_ws := am_t4 156 rfl rfl
theorem wd_877 : (Cond.instanceMethod ({ cls := "NumberedSparks$Scene", name := "codeOfBirth", desc := "(II)I" } : MethodName)) ∈ am_ws := am_t4 157 rfl rfl
theorem wd_878 : (Cond.selects "NumberedSparks$Scene" ({ cls := "NumberedSparks$Scene", name := "codeOfBirth", desc := "(II)I" } : MethodName) ({ cls := "NumberedSparks$Scene", name := "codeOfBirth", desc := "(II)I" } : MethodName)) ∈ am_ws := am_t4 158 rfl rfl
theorem wd_879 : (Cond.code ({ cls := "NumberedSparks$Scene", name := "codeOfBirth", desc := "(II)I" } : MethodName) prog_7_method_24_code (8 : Nat) (Option.some FieldType.int)) ∈ am_ws := am_t4 159 rfl rfl
theorem wd_880 : (Cond.methodLink "NumberedSparks$Scene" (117 : Nat) ({ cls := "NumberedSparks$Scene", name := "tickOfBirth", desc := "(II)I" } : MethodName)) ∈ am_ws := am_t4 160 rfl rfl
theorem wd_881 : (Cond.instanceMethod ({ cls := "NumberedSparks$Scene", name := "tickOfBirth", desc := "(II)I" } : MethodName)) ∈ am_ws := am_t4 161 rfl rfl
theorem wd_882 : (Cond.selects "NumberedSparks$Scene" ({ cls := "NumberedSparks$Scene", name := "tickOfBirth", desc := "(II)I" } : MethodName) ({ cls := "NumberedSparks$Scene", name := "tickOfBirth", desc := "(II)I" } : MethodName)) ∈ am_ws := am_t4 162 rfl rfl
theorem wd_883 : (Cond.code ({ cls := "NumberedSparks$Scene", name := "tickOfBirth", desc := "(II)I" } : MethodName) prog_7_method_23_code (7 : Nat) (Option.some FieldType.int)) ∈ am_ws := am_t4 163 rfl rfl
theorem wd_884 : (Cond.methodLink "NumberedSparks$Scene" (114 : Nat) ({ cls := "NumberedSparks$Scene", name := "bornBefore", desc := "(II)I" } : MethodName)) ∈ am_ws := am_t4 164 rfl rfl
theorem wd_885 : (Cond.methodLink "NumberedSparksLaw" (165 : Nat) ({ cls := "NumberedSparks", name := "latest", desc := "(II)I" } : MethodName)) ∈ am_ws := am_t4 165 rfl rfl
theorem wd_886 : (Cond.instanceMethod ({ cls := "NumberedSparks", name := "latest", desc := "(II)I" } : MethodName)) ∈ am_ws := am_t4 166 rfl rfl
theorem wd_887 : (Cond.selects "NumberedSparks" ({ cls := "NumberedSparks", name := "latest", desc := "(II)I" } : MethodName) ({ cls := "NumberedSparks", name := "latest", desc := "(II)I" } : MethodName)) ∈ am_ws := am_t4 167 rfl rfl
theorem wd_888 : (Cond.code ({ cls := "NumberedSparks", name := "latest", desc := "(II)I" } : MethodName) prog_1_method_32_code (4 : Nat) (Option.some FieldType.int)) ∈ am_ws := am_t4 168 rfl rfl
theorem wd_889 : (Cond.methodLink "NumberedSparksLaw" (225 : Nat) ({ cls := "NumberedSparks", name := "next", desc := "(II)I" } : MethodName)) ∈ am_ws := am_t4 169 rfl rfl
theorem wd_890 : (Cond.instanceMethod ({ cls := "NumberedSparks", name := "next", desc := "(II)I" } : MethodName)) ∈ am_ws := am_t4 170 rfl rfl
theorem wd_891 : (Cond.selects "NumberedSparks" ({ cls := "NumberedSparks", name := "next", desc := "(II)I" } : MethodName) ({ cls := "NumberedSparks", name := "next", desc := "(II)I" } : MethodName)) ∈ am_ws := am_t4 171 rfl rfl
theorem wd_892 : (Cond.code ({ cls := "NumberedSparks", name := "next", desc := "(II)I" } : MethodName) prog_1_method_33_code (4 : Nat) (Option.some FieldType.int)) ∈ am_ws := am_t4 172 rfl rfl
theorem wd_893 : (Cond.methodLink "NumberedSparks" (276 : Nat) ({ cls := "NumberedSparks$Scene", name := "tickOfBirth", desc := "(II)I" } : MethodName)) ∈ am_ws := am_t4 173 rfl rfl
theorem wd_894 : (Cond.methodLink "NumberedSparksLaw" (229 : Nat) ({ cls := "NumberedSparks", name := "lull", desc := "(IIII)I" } : MethodName)) ∈ am_ws := am_t4 174 rfl rfl
theorem wd_895 : (Cond.instanceMethod ({ cls := "NumberedSparks", name := "lull", desc := "(IIII)I" } : MethodName)) ∈ am_ws := am_t4 175 rfl rfl
theorem wd_896 : (Cond.selects "NumberedSparks" ({ cls := "NumberedSparks", name := "lull", desc := "(IIII)I" } : MethodName) ({ cls := "NumberedSparks", name := "lull", desc := "(IIII)I" } : MethodName)) ∈ am_ws := am_t4 176 rfl rfl
theorem wd_897 : (Cond.code ({ cls := "NumberedSparks", name := "lull", desc := "(IIII)I" } : MethodName) prog_1_method_34_code (9 : Nat) (Option.some FieldType.int)) ∈ am_ws := am_t4 177 rfl rfl
theorem wd_898 : (Cond.methodLink "NumberedSparks" (279 : Nat) ({ cls := "NumberedSparks$Scene", name := "countBirths", desc := "(III[I)V" } : MethodName)) ∈ am_ws := am_t4 178 rfl rfl
theorem wd_899 : (Cond.instanceMethod ({ cls := "NumberedSparks$Scene", name := "countBirths", desc := "(III[I)V" } : MethodName)) ∈ am_ws := am_t4 179 rfl rfl
theorem wd_900 : (Cond.selects "NumberedSparks$Scene" ({ cls := "NumberedSparks$Scene", name := "countBirths", desc := "(III[I)V" } : MethodName) ({ cls := "NumberedSparks$Scene", name := "countBirths", desc := "(III[I)V" } : MethodName)) ∈ am_ws := am_t4 180 rfl rfl
theorem wd_901 : (Cond.code ({ cls := "NumberedSparks$Scene", name := "countBirths", desc := "(III[I)V" } : MethodName) prog_7_method_25_code (9 : Nat) (Option.none : Option FieldType)) ∈ am_ws := am_t4 181 rfl rfl
theorem wd_902 : (Cond.methodLink "NumberedSparksLaw" (87 : Nat) ({ cls := "NumberedSparks", name := "endings", desc := "(II)I" } : MethodName)) ∈ am_ws := am_t4 182 rfl rfl
theorem wd_903 : (Cond.instanceMethod ({ cls := "NumberedSparks", name := "endings", desc := "(II)I" } : MethodName)) ∈ am_ws := am_t4 183 rfl rfl
theorem wd_904 : (Cond.selects "NumberedSparks" ({ cls := "NumberedSparks", name := "endings", desc := "(II)I" } : MethodName) ({ cls := "NumberedSparks", name := "endings", desc := "(II)I" } : MethodName)) ∈ am_ws := am_t4 184 rfl rfl
theorem wd_905 : (Cond.code ({ cls := "NumberedSparks", name := "endings", desc := "(II)I" } : MethodName) prog_1_method_35_code (7 : Nat) (Option.some FieldType.int)) ∈ am_ws := am_t4 185 rfl rfl
theorem wd_906 : (Cond.methodLink "NumberedSparks" (283 : Nat) ({ cls := "NumberedSparks$Walk", name := "start", desc := "(II)V" } : MethodName)) ∈ am_ws := am_t4 186 rfl rfl
theorem wd_907 : (Cond.constant "NumberedSparks" (286 : Nat) (1000000 : Int32)) ∈ am_ws := am_t4 187 rfl rfl
theorem wd_908 : (Cond.methodLink "NumberedSparksLaw" (129 : Nat) ({ cls := "NumberedSparks", name := "peak", desc := "(III)I" } : MethodName)) ∈ am_ws := am_t4 188 rfl rfl
theorem wd_909 : (Cond.instanceMethod ({ cls := "NumberedSparks", name := "peak", desc := "(III)I" } : MethodName)) ∈ am_ws := am_t4 189 rfl rfl
theorem wd_910 : (Cond.selects "NumberedSparks" ({ cls := "NumberedSparks", name := "peak", desc := "(III)I" } : MethodName) ({ cls := "NumberedSparks", name := "peak", desc := "(III)I" } : MethodName)) ∈ am_ws := am_t4 190 rfl rfl
theorem wd_911 : (Cond.code ({ cls := "NumberedSparks", name := "peak", desc := "(III)I" } : MethodName) prog_1_method_36_code (8 : Nat) (Option.some FieldType.int)) ∈ am_ws := am_t4 191 rfl rfl
theorem wd_912 : (Cond.methodLink "NumberedSparks" (287 : Nat) ({ cls := "NumberedSparks", name := "countComingAndGoing", desc := "(II)V" } : MethodName)) ∈ am_ws := am_t4 192 rfl rfl
theorem wd_914 : (Cond.instanceMethod ({ cls := "NumberedSparks", name := "countComingAndGoing", desc := "(II)V" } : MethodName)) ∈ am_ws := am_t4 194 rfl rfl
theorem wd_915 : (Cond.code ({ cls := "NumberedSparks", name := "countComingAndGoing", desc := "(II)V" } : MethodName) prog_1_method_37_code (8 : Nat) (Option.none : Option FieldType)) ∈ am_ws := am_t4 195 rfl rfl
theorem wd_916 : (Cond.methodLink "NumberedSparks" (290 : Nat) ({ cls := "java/util/Arrays", name := "fill", desc := "([II)V" } : MethodName)) ∈ am_ws := am_t4 196 rfl rfl
theorem wd_917 : (Cond.methodLink "NumberedSparksLaw" (125 : Nat) ({ cls := "NumberedSparks", name := "firstIn", desc := "(III)I" } : MethodName)) ∈ am_ws := am_t4 197 rfl rfl
theorem wd_918 : (Cond.instanceMethod ({ cls := "NumberedSparks", name := "firstIn", desc := "(III)I" } : MethodName)) ∈ am_ws := am_t4 198 rfl rfl
theorem wd_919 : (Cond.selects "NumberedSparks" ({ cls := "NumberedSparks", name := "firstIn", desc := "(III)I" } : MethodName) ({ cls := "NumberedSparks", name := "firstIn", desc := "(III)I" } : MethodName)) ∈ am_ws := am_t4 199 rfl rfl
theorem wd_920 : (Cond.code ({ cls := "NumberedSparks", name := "firstIn", desc := "(III)I" } : MethodName) prog_1_method_38_code (8 : Nat) (Option.some FieldType.int)) ∈ am_ws := am_t4 200 rfl rfl
theorem wd_921 : (Cond.methodLink "NumberedSparks" (296 : Nat) ({ cls := "NumberedSparks$Scene", name := "isCell", desc := "(II)Z" } : MethodName)) ∈ am_ws := am_t4 201 rfl rfl
theorem wd_922 : (Cond.instanceMethod ({ cls := "NumberedSparks$Scene", name := "isCell", desc := "(II)Z" } : MethodName)) ∈ am_ws := am_t4 202 rfl rfl
theorem wd_923 : (Cond.selects "NumberedSparks$Scene" ({ cls := "NumberedSparks$Scene", name := "isCell", desc := "(II)Z" } : MethodName) ({ cls := "NumberedSparks$Scene", name := "isCell", desc := "(II)Z" } : MethodName)) ∈ am_ws := am_t4 203 rfl rfl
theorem wd_924 : (Cond.code ({ cls := "NumberedSparks$Scene", name := "isCell", desc := "(II)Z" } : MethodName) prog_7_method_6_code (3 : Nat) (Option.some FieldType.boolean)) ∈ am_ws := am_t4 204 rfl rfl
theorem wd_925 : (Cond.methodLink "NumberedSparks$Scene" (50 : Nat) ({ cls := "NumberedSparks$Scene", name := "cellsAlong", desc := "(I)I" } : MethodName)) ∈ am_ws := am_t4 205 rfl rfl
theorem wd_926 : (Cond.methodLink "NumberedSparks" (299 : Nat) ({ cls := "NumberedSparks$Spark", name := "firstInColumn", desc := "(IIII)I" } : MethodName)) ∈ am_ws := am_t4 206 rfl rfl
theorem wd_927 : (Cond.instanceMethod ({ cls := "NumberedSparks$Spark", name := "firstInColumn", desc := "(IIII)I" } : MethodName)) ∈ am_ws := am_t4 207 rfl rfl
theorem wd_928 : (Cond.selects "NumberedSparks$Spark" ({ cls := "NumberedSparks$Spark", name := "firstInColumn", desc := "(IIII)I" } : MethodName) ({ cls := "NumberedSparks$Spark", name := "firstInColumn", desc := "(IIII)I" } : MethodName)) ∈ am_ws := am_t4 208 rfl rfl
theorem wd_929 : (Cond.code ({ cls := "NumberedSparks$Spark", name := "firstInColumn", desc := "(IIII)I" } : MethodName) prog_8_method_12_code (8 : Nat) (Option.some FieldType.int)) ∈ am_ws := am_t4 209 rfl rfl
theorem wd_930 : (Cond.methodLink "NumberedSparksLaw" (197 : Nat) ({ cls := "NumberedSparks", name := "flux", desc := "(IIII)I" } : MethodName)) ∈ am_ws := am_t4 210 rfl rfl
theorem wd_931 : (Cond.instanceMethod ({ cls := "NumberedSparks", name := "flux", desc := "(IIII)I" } : MethodName)) ∈ am_ws := am_t4 211 rfl rfl
theorem wd_932 : (Cond.selects "NumberedSparks" ({ cls := "NumberedSparks", name := "flux", desc := "(IIII)I" } : MethodName) ({ cls := "NumberedSparks", name := "flux", desc := "(IIII)I" } : MethodName)) ∈ am_ws := am_t4 212 rfl rfl
theorem wd_933 : (Cond.code ({ cls := "NumberedSparks", name := "flux", desc := "(IIII)I" } : MethodName) prog_1_method_39_code (8 : Nat) (Option.some FieldType.int)) ∈ am_ws := am_t4 213 rfl rfl
theorem wd_934 : (Cond.methodLink "NumberedSparks" (303 : Nat) ({ cls := "NumberedSparks$Spark", name := "crossings", desc := "(IIIZ)I" } : MethodName)) ∈ am_ws := am_t4 214 rfl rfl
theorem wd_935 : (Cond.instanceMethod ({ cls := "NumberedSparks$Spark", name := "crossings", desc := "(IIIZ)I" } : MethodName)) ∈ am_ws := am_t4 215 rfl rfl
theorem wd_936 : (Cond.selects "NumberedSparks$Spark" ({ cls := "NumberedSparks$Spark", name := "crossings", desc := "(IIIZ)I" } : MethodName) ({ cls := "NumberedSparks$Spark", name := "crossings", desc := "(IIIZ)I" } : MethodName)) ∈ am_ws := am_t4 216 rfl rfl
theorem wd_937 : (Cond.code ({ cls := "NumberedSparks$Spark", name := "crossings", desc := "(IIIZ)I" } : MethodName) prog_8_method_13_code (11 : Nat) (Option.some FieldType.int)) ∈ am_ws := am_t4 217 rfl rfl
theorem wd_938 : (Cond.methodLink "NumberedSparksLaw" (91 : Nat) ({ cls := "NumberedSparks", name := "many", desc := "(II)I" } : MethodName)) ∈ am_ws := am_t4 218 rfl rfl
theorem wd_939 : (Cond.instanceMethod ({ cls := "NumberedSparks", name := "many", desc := "(II)I" } : MethodName)) ∈ am_ws := am_t4 219 rfl rfl
theorem wd_940 : (Cond.selects "NumberedSparks" ({ cls := "NumberedSparks", name := "many", desc := "(II)I" } : MethodName) ({ cls := "NumberedSparks", name := "many", desc := "(II)I" } : MethodName)) ∈ am_ws := am_t4 220 rfl rfl
theorem wd_941 : (Cond.code ({ cls := "NumberedSparks", name := "many", desc := "(II)I" } : MethodName) prog_1_method_40_code (5 : Nat) (Option.some FieldType.int)) ∈ am_ws := am_t4 221 rfl rfl
theorem wd_942 : (Cond.methodLink "NumberedSparks" (307 : Nat) ({ cls := "NumberedSparks$Frame", name := "shows", desc := "(I)Z" } : MethodName)) ∈ am_ws := am_t4 222 rfl rfl
theorem wd_943 : (Cond.instanceMethod ({ cls := "NumberedSparks$Frame", name := "shows", desc := "(I)Z" } : MethodName)) ∈ am_ws := am_t4 223 rfl rfl
theorem wd_944 : (Cond.selects "NumberedSparks$Frame" ({ cls := "NumberedSparks$Frame", name := "shows", desc := "(I)Z" } : MethodName) ({ cls := "NumberedSparks$Frame", name := "shows", desc := "(I)Z" } : MethodName)) ∈ am_ws := am_t4 224 rfl rfl
theorem wd_945 : (Cond.code ({ cls := "NumberedSparks$Frame", name := "shows", desc := "(I)Z" } : MethodName) prog_3_method_3_code (4 : Nat) (Option.some FieldType.boolean)) ∈ am_ws := am_t4 225 rfl rfl
theorem wd_946 : (Cond.methodLinkNest "NumberedSparks$Frame" (39 : Nat) ({ cls := "NumberedSparks", name := "isTick", desc := "(I)Z" } : MethodName) "NumberedSparks") ∈ am_ws := am_t4 226 rfl rfl
theorem wd_947 : (Cond.methodLink "NumberedSparks$Frame" (46 : Nat) ({ cls := "NumberedSparks$Walk", name := "start", desc := "(II)V" } : MethodName)) ∈ am_ws := am_t4 227 rfl rfl
theorem wd_948 : (Cond.constant "NumberedSparks$Frame" (52 : Nat) (1000000 : Int32)) ∈ am_ws := am_t4 228 rfl rfl
theorem wd_949 : (Cond.methodLink "NumberedSparks$Frame" (53 : Nat) ({ cls := "NumberedSparks$Walk", name := "stepRoot", desc := "()Z" } : MethodName)) ∈ am_ws := am_t4 229 rfl rfl
theorem wd_950 : (Cond.methodLink "NumberedSparks$Frame" (60 : Nat) ({ cls := "NumberedSparks$Walk", name := "shown", desc := "(I)LNumberedSparks$Spark;" } : MethodName)) ∈ am_ws := am_t4 230 rfl rfl
theorem wd_951 : (Cond.methodLink "NumberedSparks$Frame" (64 : Nat) ({ cls := "NumberedSparks$Frame", name := "append", desc := "(LNumberedSparks$Spark;I)V" } : MethodName)) ∈ am_ws := am_t4 231 rfl rfl
theorem wd_953 : (Cond.instanceMethod ({ cls := "NumberedSparks$Frame", name := "append", desc := "(LNumberedSparks$Spark;I)V" } : MethodName)) ∈ am_ws := am_t4 233 rfl rfl
theorem wd_954 : (Cond.code ({ cls := "NumberedSparks$Frame", name := "append", desc := "(LNumberedSparks$Spark;I)V" } : MethodName) prog_3_method_4_code (5 : Nat) (Option.none : Option FieldType)) ∈ am_ws := am_t4 234 rfl rfl
theorem wd_955 : (Cond.methodLink "NumberedSparks$Frame" (71 : Nat) ({ cls := "NumberedSparks$Frame", name := "grow", desc := "()V" } : MethodName)) ∈ am_ws := am_t4 235 rfl rfl
theorem wd_957 : (Cond.instanceMethod ({ cls := "NumberedSparks$Frame", name := "grow", desc := "()V" } : MethodName)) ∈ am_ws := am_t4 237 rfl rfl
theorem wd_958 : (Cond.code ({ cls := "NumberedSparks$Frame", name := "grow", desc := "()V" } : MethodName) prog_3_method_5_code (2 : Nat) (Option.none : Option FieldType)) ∈ am_ws := am_t4 238 rfl rfl
theorem wd_959 : (Cond.methodLink "NumberedSparks$Frame" (92 : Nat) ({ cls := "java/util/Arrays", name := "copyOf", desc := "([II)[I" } : MethodName)) ∈ am_ws := am_t4 239 rfl rfl
theorem wd_960 : (Cond.static ({ cls := "java/util/Arrays", name := "copyOf", desc := "([II)[I" } : MethodName)) ∈ am_ws := am_t5 0 rfl rfl
theorem wd_961 : (Cond.code ({ cls := "java/util/Arrays", name := "copyOf", desc := "([II)[I" } : MethodName) prog_18_method_123_code (3 : Nat) (Option.some (FieldType.array FieldType.int))) ∈ am_ws := am_t5 1 rfl rfl
theorem wd_962 : (Cond.methodLink "java/util/Arrays" (316 : Nat) ({ cls := "[I", name := "clone", desc := "()Ljava/lang/Object;" } : MethodName)) ∈ am_ws := am_t5 2 rfl rfl
theorem wd_964 : (Cond.native ({ cls := "java/lang/Object", name := "clone", desc := "()Ljava/lang/Object;" } : MethodName)) ∈ am_ws := am_t5 4 rfl rfl
theorem wd_965 : (Cond.instanceMethod ({ cls := "java/lang/Object", name := "clone", desc := "()Ljava/lang/Object;" } : MethodName)) ∈ am_ws := am_t5 5 rfl rfl
theorem wd_966 : (Cond.selects "[I" ({ cls := "[I", name := "clone", desc := "()Ljava/lang/Object;" } : MethodName) ({ cls := "java/lang/Object", name := "clone", desc := "()Ljava/lang/Object;" } : MethodName)) ∈ am_ws := am_t5 6 rfl rfl
theorem wd_968 : (Cond.classLink "java/util/Arrays" (317 : Nat) "[I") ∈ am_ws := am_t5 8 rfl rfl
theorem wd_969 : (Cond.methodLink "java/util/Arrays" (304 : Nat) ({ cls := "java/lang/Math", name := "min", desc := "(II)I" } : MethodName)) ∈ am_ws := am_t5 9 rfl rfl
theorem wd_970 : (Cond.methodLink "java/util/Arrays" (150 : Nat) ({ cls := "java/lang/System", name := "arraycopy", desc := "(Ljava/lang/Object;ILjava/lang/Object;II)V" } : MethodName)) ∈ am_ws := am_t5 10 rfl rfl
theorem wd_971 : (Cond.methodLink "NumberedSparks$Frame" (88 : Nat) ({ cls := "NumberedSparks$Spark", name := "placeAt", desc := "(II)I" } : MethodName)) ∈ am_ws := am_t5 11 rfl rfl
theorem wd_972 : (Cond.methodLink "NumberedSparks$Frame" (68 : Nat) ({ cls := "NumberedSparks$Frame", name := "putInOrder", desc := "()V" } : MethodName)) ∈ am_ws := am_t5 12 rfl rfl
theorem wd_974 : (Cond.instanceMethod ({ cls := "NumberedSparks$Frame", name := "putInOrder", desc := "()V" } : MethodName)) ∈ am_ws := am_t5 14 rfl rfl
theorem wd_975 : (Cond.code ({ cls := "NumberedSparks$Frame", name := "putInOrder", desc := "()V" } : MethodName) prog_3_method_6_code (5 : Nat) (Option.none : Option FieldType)) ∈ am_ws := am_t5 15 rfl rfl
theorem wd_976 : (Cond.methodLink "NumberedSparks$Frame" (98 : Nat) ({ cls := "java/util/Arrays", name := "fill", desc := "([II)V" } : MethodName)) ∈ am_ws := am_t5 16 rfl rfl
theorem wd_977 : (Cond.methodLink "NumberedSparks$Frame" (102 : Nat) ({ cls := "NumberedSparks$Frame", name := "depthOf", desc := "(I)I" } : MethodName)) ∈ am_ws := am_t5 17 rfl rfl
theorem wd_979 : (Cond.instanceMethod ({ cls := "NumberedSparks$Frame", name := "depthOf", desc := "(I)I" } : MethodName)) ∈ am_ws := am_t5 19 rfl rfl
theorem wd_980 : (Cond.code ({ cls := "NumberedSparks$Frame", name := "depthOf", desc := "(I)I" } : MethodName) prog_3_method_7_code (2 : Nat) (Option.some FieldType.int)) ∈ am_ws := am_t5 20 rfl rfl
theorem wd_981 : (Cond.methodLink "NumberedSparks$Frame" (106 : Nat) ({ cls := "NumberedSparks$Frame", name := "placeOf", desc := "(II)I" } : MethodName)) ∈ am_ws := am_t5 21 rfl rfl
theorem wd_982 : (Cond.instanceMethod ({ cls := "NumberedSparks$Frame", name := "placeOf", desc := "(II)I" } : MethodName)) ∈ am_ws := am_t5 22 rfl rfl
theorem wd_983 : (Cond.selects "NumberedSparks$Frame" ({ cls := "NumberedSparks$Frame", name := "placeOf", desc := "(II)I" } : MethodName) ({ cls := "NumberedSparks$Frame", name := "placeOf", desc := "(II)I" } : MethodName)) ∈ am_ws := am_t5 23 rfl rfl
theorem wd_984 : (Cond.code ({ cls := "NumberedSparks$Frame", name := "placeOf", desc := "(II)I" } : MethodName) prog_3_method_13_code (3 : Nat) (Option.some FieldType.int)) ∈ am_ws := am_t5 24 rfl rfl
theorem wd_985 : (Cond.methodLink "NumberedSparks$Frame" (117 : Nat) ({ cls := "NumberedSparks$Frame", name := "ofRow", desc := "(II)I" } : MethodName)) ∈ am_ws := am_t5 25 rfl rfl
theorem wd_987 : (Cond.instanceMethod ({ cls := "NumberedSparks$Frame", name := "ofRow", desc := "(II)I" } : MethodName)) ∈ am_ws := am_t5 27 rfl rfl
theorem wd_988 : (Cond.code ({ cls := "NumberedSparks$Frame", name := "ofRow", desc := "(II)I" } : MethodName) prog_3_method_8_code (4 : Nat) (Option.some FieldType.int)) ∈ am_ws := am_t5 28 rfl rfl
theorem wd_989 : (Cond.methodLink "NumberedSparks$Frame" (109 : Nat) ({ cls := "java/lang/Math", name := "min", desc := "(II)I" } : MethodName)) ∈ am_ws := am_t5 29 rfl rfl
theorem wd_990 : (Cond.methodLink "NumberedSparks$Frame" (114 : Nat) ({ cls := "java/lang/Math", name := "max", desc := "(II)I" } : MethodName)) ∈ am_ws := am_t5 30 rfl rfl
theorem wd_991 : (Cond.methodLink "NumberedSparks" (311 : Nat) ({ cls := "NumberedSparks$Frame", name := "kindOf", desc := "(I)I" } : MethodName)) ∈ am_ws := am_t5 31 rfl rfl
theorem wd_992 : (Cond.instanceMethod ({ cls := "NumberedSparks$Frame", name := "kindOf", desc := "(I)I" } : MethodName)) ∈ am_ws := am_t5 32 rfl rfl
theorem wd_993 : (Cond.selects "NumberedSparks$Frame" ({ cls := "NumberedSparks$Frame", name := "kindOf", desc := "(I)I" } : MethodName) ({ cls := "NumberedSparks$Frame", name := "kindOf", desc := "(I)I" } : MethodName)) ∈ am_ws := am_t5 33 rfl rfl
theorem wd_994 : (Cond.code ({ cls := "NumberedSparks$Frame", name := "kindOf", desc := "(I)I" } : MethodName) prog_3_method_10_code (2 : Nat) (Option.some FieldType.int)) ∈ am_ws := am_t5 34 rfl rfl
theorem wd_995 : (Cond.methodLink "NumberedSparksLaw" (95 : Nat) ({ cls := "NumberedSparks", name := "drawn", desc := "(II)I" } : MethodName)) ∈ am_ws := am_t5 35 rfl rfl
theorem wd_996 : (Cond.instanceMethod ({ cls := "NumberedSparks", name := "drawn", desc := "(II)I" } : MethodName)) ∈ am_ws := am_t5 36 rfl rfl
theorem wd_997 : (Cond.selects "NumberedSparks" ({ cls := "NumberedSparks", name := "drawn", desc := "(II)I" } : MethodName) ({ cls := "NumberedSparks", name := "drawn", desc := "(II)I" } : MethodName)) ∈ am_ws := am_t5 37 rfl rfl
theorem wd_998 : (Cond.code ({ cls := "NumberedSparks", name := "drawn", desc := "(II)I" } : MethodName) prog_1_method_41_code (3 : Nat) (Option.some FieldType.int)) ∈ am_ws := am_t5 38 rfl rfl
theorem wd_999 : (Cond.methodLink "NumberedSparks" (314 : Nat) ({ cls := "NumberedSparks$Frame", name := "rowAt", desc := "(I)I" } : MethodName)) ∈ am_ws := am_t5 39 rfl rfl
theorem wd_1000 : (Cond.instanceMethod ({ cls := "NumberedSparks$Frame", name := "rowAt", desc := "(I)I" } : MethodName)) ∈ am_ws := am_t5 40 rfl rfl
theorem wd_1001 : (Cond.selects "NumberedSparks$Frame" ({ cls := "NumberedSparks$Frame", name := "rowAt", desc := "(I)I" } : MethodName) ({ cls := "NumberedSparks$Frame", name := "rowAt", desc := "(I)I" } : MethodName)) ∈ am_ws := am_t5 41 rfl rfl
theorem wd_1002 : (Cond.code ({ cls := "NumberedSparks$Frame", name := "rowAt", desc := "(I)I" } : MethodName) prog_3_method_14_code (2 : Nat) (Option.some FieldType.int)) ∈ am_ws := am_t5 42 rfl rfl
theorem wd_1003 : (Cond.methodLink "NumberedSparks" (317 : Nat) ({ cls := "NumberedSparks$Frame", name := "codeOf", desc := "(I)I" } : MethodName)) ∈ am_ws := am_t5 43 rfl rfl
theorem wd_1004 : (Cond.instanceMethod ({ cls := "NumberedSparks$Frame", name := "codeOf", desc := "(I)I" } : MethodName)) ∈ am_ws := am_t5 44 rfl rfl
theorem wd_1005 : (Cond.selects "NumberedSparks$Frame" ({ cls := "NumberedSparks$Frame", name := "codeOf", desc := "(I)I" } : MethodName) ({ cls := "NumberedSparks$Frame", name := "codeOf", desc := "(I)I" } : MethodName)) ∈ am_ws := am_t5 45 rfl rfl
theorem wd_1006 : (Cond.code ({ cls := "NumberedSparks$Frame", name := "codeOf", desc := "(I)I" } : MethodName) prog_3_method_9_code (2 : Nat) (Option.some FieldType.int)) ∈ am_ws := am_t5 46 rfl rfl
theorem wd_1007 : (Cond.methodLink "NumberedSparksLaw" (99 : Nat) ({ cls := "NumberedSparks", name := "digest", desc := "(I)J" } : MethodName)) ∈ am_ws := am_t5 47 rfl rfl
theorem wd_1008 : (Cond.instanceMethod ({ cls := "NumberedSparks", name := "digest", desc := "(I)J" } : MethodName)) ∈ am_ws := am_t5 48 rfl rfl
theorem wd_1009 : (Cond.selects "NumberedSparks" ({ cls := "NumberedSparks", name := "digest", desc := "(I)J" } : MethodName) ({ cls := "NumberedSparks", name := "digest", desc := "(I)J" } : MethodName)) ∈ am_ws := am_t5 49 rfl rfl
theorem wd_1010 : (Cond.code ({ cls := "NumberedSparks", name := "digest", desc := "(I)J" } : MethodName) prog_1_method_42_code (7 : Nat) (Option.some FieldType.long)) ∈ am_ws := am_t5 50 rfl rfl
theorem wd_1011 : (Cond.constantLong "NumberedSparks" (320 : Nat) (17 : Int64)) ∈ am_ws := am_t5 51 rfl rfl
theorem wd_1012 : (Cond.constantLong "NumberedSparks" (322 : Nat) (31 : Int64)) ∈ am_ws := am_t5 52 rfl rfl
theorem wd_1013 : (Cond.methodLink "NumberedSparks" (324 : Nat) ({ cls := "NumberedSparks$Frame", name := "placeOf", desc := "(II)I" } : MethodName)) ∈ am_ws := am_t5 53 rfl rfl
theorem wd_1014 : (Cond.methodLink "NumberedSparksLaw" (104 : Nat) ({ cls := "NumberedSparks", name := "inColumn", desc := "(III)I" } : MethodName)) ∈ am_ws := am_t5 54 rfl rfl
theorem wd_1015 : (Cond.instanceMethod ({ cls := "NumberedSparks", name := "inColumn", desc := "(III)I" } : MethodName)) ∈ am_ws := am_t5 55 rfl rfl
theorem wd_1016 : (Cond.selects "NumberedSparks" ({ cls := "NumberedSparks", name := "inColumn", desc := "(III)I" } : MethodName) ({ cls := "NumberedSparks", name := "inColumn", desc := "(III)I" } : MethodName)) ∈ am_ws := am_t5 56 rfl rfl
theorem wd_1017 : (Cond.code ({ cls := "NumberedSparks", name := "inColumn", desc := "(III)I" } : MethodName) prog_1_method_43_code (6 : Nat) (Option.some FieldType.int)) ∈ am_ws := am_t5 57 rfl rfl
theorem wd_1018 : (Cond.methodLink "NumberedSparks" (327 : Nat) ({ cls := "NumberedSparks$Frame", name := "isInColumn", desc := "(III)Z" } : MethodName)) ∈ am_ws := am_t5 58 rfl rfl
theorem wd_1019 : (Cond.instanceMethod ({ cls := "NumberedSparks$Frame", name := "isInColumn", desc := "(III)Z" } : MethodName)) ∈ am_ws := am_t5 59 rfl rfl
theorem wd_1020 : (Cond.selects "NumberedSparks$Frame" ({ cls := "NumberedSparks$Frame", name := "isInColumn", desc := "(III)Z" } : MethodName) ({ cls := "NumberedSparks$Frame", name := "isInColumn", desc := "(III)Z" } : MethodName)) ∈ am_ws := am_t5 60 rfl rfl
theorem wd_1021 : (Cond.code ({ cls := "NumberedSparks$Frame", name := "isInColumn", desc := "(III)Z" } : MethodName) prog_3_method_15_code (4 : Nat) (Option.some FieldType.boolean)) ∈ am_ws := am_t5 61 rfl rfl
theorem wd_1022 : (Cond.methodLink "NumberedSparksLaw" (108 : Nat) ({ cls := "NumberedSparks", name := "top", desc := "(III)I" } : MethodName)) ∈ am_ws := am_t5 62 rfl rfl
theorem wd_1023 : (Cond.instanceMethod ({ cls := "NumberedSparks", name := "top", desc := "(III)I" } : MethodName)) ∈ am_ws := am_t5 63 rfl rfl
theorem wd_1024 : (Cond.selects "NumberedSparks" ({ cls := "NumberedSparks", name := "top", desc := "(III)I" } : MethodName) ({ cls := "NumberedSparks", name := "top", desc := "(III)I" } : MethodName)) ∈ am_ws := am_t5 64 rfl rfl
theorem wd_1025 : (Cond.code ({ cls := "NumberedSparks", name := "top", desc := "(III)I" } : MethodName) prog_1_method_44_code (4 : Nat) (Option.some FieldType.int)) ∈ am_ws := am_t5 65 rfl rfl
theorem wd_1026 : (Cond.methodLink "NumberedSparks" (331 : Nat) ({ cls := "NumberedSparks$Frame", name := "fromTop", desc := "(III)I" } : MethodName)) ∈ am_ws := am_t5 66 rfl rfl
theorem wd_1027 : (Cond.instanceMethod ({ cls := "NumberedSparks$Frame", name := "fromTop", desc := "(III)I" } : MethodName)) ∈ am_ws := am_t5 67 rfl rfl
theorem wd_1028 : (Cond.selects "NumberedSparks$Frame" ({ cls := "NumberedSparks$Frame", name := "fromTop", desc := "(III)I" } : MethodName) ({ cls := "NumberedSparks$Frame", name := "fromTop", desc := "(III)I" } : MethodName)) ∈ am_ws := am_t5 68 rfl rfl
theorem wd_1029 : (Cond.code ({ cls := "NumberedSparks$Frame", name := "fromTop", desc := "(III)I" } : MethodName) prog_3_method_19_code (6 : Nat) (Option.some FieldType.int)) ∈ am_ws := am_t5 69 rfl rfl
theorem wd_1030 : (Cond.methodLink "NumberedSparks$Frame" (123 : Nat) ({ cls := "NumberedSparks$Frame", name := "rowAt", desc := "(I)I" } : MethodName)) ∈ am_ws := am_t5 70 rfl rfl
theorem wd_1031 : (Cond.methodLink "NumberedSparks$Frame" (126 : Nat) ({ cls := "NumberedSparks$Frame", name := "isInColumn", desc := "(III)Z" } : MethodName)) ∈ am_ws := am_t5 71 rfl rfl
theorem wd_1032 : (Cond.methodLink "NumberedSparks$Frame" (130 : Nat) ({ cls := "NumberedSparks$Frame", name := "codeOf", desc := "(I)I" } : MethodName)) ∈ am_ws := am_t5 72 rfl rfl
theorem wd_1033 : (Cond.methodLink "NumberedSparksLaw" (221 : Nat) ({ cls := "NumberedSparks", name := "below", desc := "(IIII)I" } : MethodName)) ∈ am_ws := am_t5 73 rfl rfl
theorem wd_1034 : (Cond.instanceMethod ({ cls := "NumberedSparks", name := "below", desc := "(IIII)I" } : MethodName)) ∈ am_ws := am_t5 74 rfl rfl
theorem wd_1035 : (Cond.selects "NumberedSparks" ({ cls := "NumberedSparks", name := "below", desc := "(IIII)I" } : MethodName) ({ cls := "NumberedSparks", name := "below", desc := "(IIII)I" } : MethodName)) ∈ am_ws := am_t5 75 rfl rfl
theorem wd_1036 : (Cond.code ({ cls := "NumberedSparks", name := "below", desc := "(IIII)I" } : MethodName) prog_1_method_45_code (5 : Nat) (Option.some FieldType.int)) ∈ am_ws := am_t5 76 rfl rfl
theorem wd_1037 : (Cond.methodLink "NumberedSparksLaw" (112 : Nat) ({ cls := "NumberedSparks", name := "fullest", desc := "(II)I" } : MethodName)) ∈ am_ws := am_t5 77 rfl rfl
theorem wd_1038 : (Cond.instanceMethod ({ cls := "NumberedSparks", name := "fullest", desc := "(II)I" } : MethodName)) ∈ am_ws := am_t5 78 rfl rfl
theorem wd_1039 : (Cond.selects "NumberedSparks" ({ cls := "NumberedSparks", name := "fullest", desc := "(II)I" } : MethodName) ({ cls := "NumberedSparks", name := "fullest", desc := "(II)I" } : MethodName)) ∈ am_ws := am_t5 79 rfl rfl
theorem wd_1040 : (Cond.code ({ cls := "NumberedSparks", name := "fullest", desc := "(II)I" } : MethodName) prog_1_method_46_code (5 : Nat) (Option.some FieldType.int)) ∈ am_ws := am_t5 80 rfl rfl
theorem wd_1041 : (Cond.methodLink "NumberedSparks" (334 : Nat) ({ cls := "NumberedSparks$Frame", name := "countColumns", desc := "([I)V" } : MethodName)) ∈ am_ws := am_t5 81 rfl rfl
theorem wd_1042 : (Cond.instanceMethod ({ cls := "NumberedSparks$Frame", name := "countColumns", desc := "([I)V" } : MethodName)) ∈ am_ws := am_t5 82 rfl rfl
theorem wd_1043 : (Cond.selects "NumberedSparks$Frame" ({ cls := "NumberedSparks$Frame", name := "countColumns", desc := "([I)V" } : MethodName) ({ cls := "NumberedSparks$Frame", name := "countColumns", desc := "([I)V" } : MethodName)) ∈ am_ws := am_t5 83 rfl rfl
theorem wd_1044 : (Cond.code ({ cls := "NumberedSparks$Frame", name := "countColumns", desc := "([I)V" } : MethodName) prog_3_method_20_code (4 : Nat) (Option.none : Option FieldType)) ∈ am_ws := am_t5 84 rfl rfl
theorem wd_1045 : (Cond.methodLink "NumberedSparks$Frame" (133 : Nat) ({ cls := "NumberedSparks$Frame", name := "columnOf", desc := "(I)I" } : MethodName)) ∈ am_ws := am_t5 85 rfl rfl
theorem wd_1047 : (Cond.instanceMethod ({ cls := "NumberedSparks$Frame", name := "columnOf", desc := "(I)I" } : MethodName)) ∈ am_ws := am_t5 87 rfl rfl
theorem wd_1048 : (Cond.code ({ cls := "NumberedSparks$Frame", name := "columnOf", desc := "(I)I" } : MethodName) prog_3_method_16_code (2 : Nat) (Option.some FieldType.int)) ∈ am_ws := am_t5 88 rfl rfl
theorem wd_1049 : (Cond.methodLinkNest "NumberedSparks$Frame" (120 : Nat) ({ cls := "NumberedSparks", name := "columnAt", desc := "(II)I" } : MethodName) "NumberedSparks") ∈ am_ws := am_t5 89 rfl rfl
theorem wd_1050 : (Cond.static ({ cls := "NumberedSparks", name := "columnAt", desc := "(II)I" } : MethodName)) ∈ am_ws := am_t5 90 rfl rfl
theorem wd_1051 : (Cond.code ({ cls := "NumberedSparks", name := "columnAt", desc := "(II)I" } : MethodName) prog_1_method_62_code (2 : Nat) (Option.some FieldType.int)) ∈ am_ws := am_t5 91 rfl rfl
theorem wd_1052 : (Cond.methodLink "NumberedSparksLaw" (217 : Nat) ({ cls := "NumberedSparks", name := "columns", desc := "(I)I" } : MethodName)) ∈ am_ws := am_t5 92 rfl rfl
theorem wd_1053 : (Cond.instanceMethod ({ cls := "NumberedSparks", name := "columns", desc := "(I)I" } : MethodName)) ∈ am_ws := am_t5 93 rfl rfl
theorem wd_1054 : (Cond.selects "NumberedSparks" ({ cls := "NumberedSparks", name := "columns", desc := "(I)I" } : MethodName) ({ cls := "NumberedSparks", name := "columns", desc := "(I)I" } : MethodName)) ∈ am_ws := am_t5 94 rfl rfl
theorem wd_1055 : (Cond.code ({ cls := "NumberedSparks", name := "columns", desc := "(I)I" } : MethodName) prog_1_method_47_code (4 : Nat) (Option.some FieldType.int)) ∈ am_ws := am_t5 95 rfl rfl
theorem wd_1056 : (Cond.methodLink "NumberedSparksLaw" (116 : Nat) ({ cls := "NumberedSparks", name := "nearest", desc := "(IIII)I" } : MethodName)) ∈ am_ws := am_t5 96 rfl rfl
theorem wd_1057 : (Cond.instanceMethod ({ cls := "NumberedSparks", name := "nearest", desc := "(IIII)I" } : MethodName)) ∈ am_ws := am_t5 97 rfl rfl
theorem wd_1058 : (Cond.selects "NumberedSparks" ({ cls := "NumberedSparks", name := "nearest", desc := "(IIII)I" } : MethodName) ({ cls := "NumberedSparks", name := "nearest", desc := "(IIII)I" } : MethodName)) ∈ am_ws := am_t5 98 rfl rfl
theorem wd_1059 : (Cond.code ({ cls := "NumberedSparks", name := "nearest", desc := "(IIII)I" } : MethodName) prog_1_method_48_code (9 : Nat) (Option.some FieldType.int)) ∈ am_ws := am_t5 99 rfl rfl
theorem wd_1060 : (Cond.methodLink "NumberedSparks" (338 : Nat) ({ cls := "NumberedSparks$Scene", name := "isCellOfWorld", desc := "(III)Z" } : MethodName)) ∈ am_ws := am_t5 100 rfl rfl
theorem wd_1061 : (Cond.instanceMethod ({ cls := "NumberedSparks$Scene", name := "isCellOfWorld", desc := "(III)Z" } : MethodName)) ∈ am_ws := am_t5 101 rfl rfl
theorem wd_1062 : (Cond.selects "NumberedSparks$Scene" ({ cls := "NumberedSparks$Scene", name := "isCellOfWorld", desc := "(III)Z" } : MethodName) ({ cls := "NumberedSparks$Scene", name := "isCellOfWorld", desc := "(III)Z" } : MethodName)) ∈ am_ws := am_t5 102 rfl rfl
theorem wd_1063 : (Cond.code ({ cls := "NumberedSparks$Scene", name := "isCellOfWorld", desc := "(III)Z" } : MethodName) prog_7_method_7_code (4 : Nat) (Option.some FieldType.boolean)) ∈ am_ws := am_t5 103 rfl rfl
theorem wd_1064 : (Cond.methodLink "NumberedSparks$Scene" (54 : Nat) ({ cls := "NumberedSparks$Scene", name := "isCell", desc := "(II)Z" } : MethodName)) ∈ am_ws := am_t5 104 rfl rfl
theorem wd_1065 : (Cond.methodLink "NumberedSparks" (341 : Nat) ({ cls := "NumberedSparks$Frame", name := "farSquared", desc := "(IIII)I" } : MethodName)) ∈ am_ws := am_t5 105 rfl rfl
theorem wd_1066 : (Cond.instanceMethod ({ cls := "NumberedSparks$Frame", name := "farSquared", desc := "(IIII)I" } : MethodName)) ∈ am_ws := am_t5 106 rfl rfl
theorem wd_1067 : (Cond.selects "NumberedSparks$Frame" ({ cls := "NumberedSparks$Frame", name := "farSquared", desc := "(IIII)I" } : MethodName) ({ cls := "NumberedSparks$Frame", name := "farSquared", desc := "(IIII)I" } : MethodName)) ∈ am_ws := am_t5 107 rfl rfl
theorem wd_1068 : (Cond.code ({ cls := "NumberedSparks$Frame", name := "farSquared", desc := "(IIII)I" } : MethodName) prog_3_method_18_code (8 : Nat) (Option.some FieldType.int)) ∈ am_ws := am_t5 108 rfl rfl
theorem wd_1069 : (Cond.methodLink "NumberedSparksLaw" (177 : Nat) ({ cls := "NumberedSparks", name := "within", desc := "(IIIII)I" } : MethodName)) ∈ am_ws := am_t5 109 rfl rfl
theorem wd_1070 : (Cond.instanceMethod ({ cls := "NumberedSparks", name := "within", desc := "(IIIII)I" } : MethodName)) ∈ am_ws := am_t5 110 rfl rfl
theorem wd_1071 : (Cond.selects "NumberedSparks" ({ cls := "NumberedSparks", name := "within", desc := "(IIIII)I" } : MethodName) ({ cls := "NumberedSparks", name := "within", desc := "(IIIII)I" } : MethodName)) ∈ am_ws := am_t5 111 rfl rfl
theorem wd_1072 : (Cond.code ({ cls := "NumberedSparks", name := "within", desc := "(IIIII)I" } : MethodName) prog_1_method_49_code (8 : Nat) (Option.some FieldType.int)) ∈ am_ws := am_t5 112 rfl rfl
theorem wd_1073 : (Cond.methodLink "NumberedSparksLaw" (121 : Nat) ({ cls := "NumberedSparks", name := "twos", desc := "(I)J" } : MethodName)) ∈ am_ws := am_t5 113 rfl rfl
theorem wd_1074 : (Cond.instanceMethod ({ cls := "NumberedSparks", name := "twos", desc := "(I)J" } : MethodName)) ∈ am_ws := am_t5 114 rfl rfl
theorem wd_1075 : (Cond.selects "NumberedSparks" ({ cls := "NumberedSparks", name := "twos", desc := "(I)J" } : MethodName) ({ cls := "NumberedSparks", name := "twos", desc := "(I)J" } : MethodName)) ∈ am_ws := am_t5 115 rfl rfl
theorem wd_1076 : (Cond.code ({ cls := "NumberedSparks", name := "twos", desc := "(I)J" } : MethodName) prog_1_method_50_code (2 : Nat) (Option.some FieldType.long)) ∈ am_ws := am_t5 116 rfl rfl
theorem wd_1077 : (Cond.constantLong "NumberedSparks" (344 : Nat) (-2 : Int64)) ∈ am_ws := am_t5 117 rfl rfl
theorem wd_1078 : (Cond.methodLink "NumberedSparks" (346 : Nat) ({ cls := "NumberedSparks$Frame", name := "countTwos", desc := "([I)J" } : MethodName)) ∈ am_ws := am_t5 118 rfl rfl
theorem wd_1079 : (Cond.instanceMethod ({ cls := "NumberedSparks$Frame", name := "countTwos", desc := "([I)J" } : MethodName)) ∈ am_ws := am_t5 119 rfl rfl
theorem wd_1080 : (Cond.selects "NumberedSparks$Frame" ({ cls := "NumberedSparks$Frame", name := "countTwos", desc := "([I)J" } : MethodName) ({ cls := "NumberedSparks$Frame", name := "countTwos", desc := "([I)J" } : MethodName)) ∈ am_ws := am_t5 120 rfl rfl
theorem wd_1081 : (Cond.code ({ cls := "NumberedSparks$Frame", name := "countTwos", desc := "([I)J" } : MethodName) prog_3_method_22_code (7 : Nat) (Option.some FieldType.long)) ∈ am_ws := am_t5 121 rfl rfl
theorem wd_1082 : (Cond.methodLink "NumberedSparks$Frame" (136 : Nat) ({ cls := "NumberedSparks$Frame", name := "layerOf", desc := "(I)I" } : MethodName)) ∈ am_ws := am_t5 122 rfl rfl
theorem wd_1084 : (Cond.instanceMethod ({ cls := "NumberedSparks$Frame", name := "layerOf", desc := "(I)I" } : MethodName)) ∈ am_ws := am_t5 124 rfl rfl
theorem wd_1085 : (Cond.code ({ cls := "NumberedSparks$Frame", name := "layerOf", desc := "(I)I" } : MethodName) prog_3_method_17_code (2 : Nat) (Option.some FieldType.int)) ∈ am_ws := am_t5 125 rfl rfl
theorem wd_1086 : (Cond.methodLink "NumberedSparks$Frame" (139 : Nat) ({ cls := "NumberedSparks$Frame", name := "forgetColumns", desc := "(II[I)V" } : MethodName)) ∈ am_ws := am_t5 126 rfl rfl
theorem wd_1088 : (Cond.instanceMethod ({ cls := "NumberedSparks$Frame", name := "forgetColumns", desc := "(II[I)V" } : MethodName)) ∈ am_ws := am_t5 128 rfl rfl
theorem wd_1089 : (Cond.code ({ cls := "NumberedSparks$Frame", name := "forgetColumns", desc := "(II[I)V" } : MethodName) prog_3_method_23_code (6 : Nat) (Option.none : Option FieldType)) ∈ am_ws := am_t5 129 rfl rfl
theorem wd_1090 : (Cond.methodLink "NumberedSparksLaw" (137 : Nat) ({ cls := "NumberedSparks", name := "box", desc := "(II)I" } : MethodName)) ∈ am_ws := am_t5 130 rfl rfl
theorem wd_1091 : (Cond.instanceMethod ({ cls := "NumberedSparks", name := "box", desc := "(II)I" } : MethodName)) ∈ am_ws := am_t5 131 rfl rfl
theorem wd_1092 : (Cond.selects "NumberedSparks" ({ cls := "NumberedSparks", name := "box", desc := "(II)I" } : MethodName) ({ cls := "NumberedSparks", name := "box", desc := "(II)I" } : MethodName)) ∈ am_ws := am_t5 132 rfl rfl
theorem wd_1093 : (Cond.code ({ cls := "NumberedSparks", name := "box", desc := "(II)I" } : MethodName) prog_1_method_51_code (6 : Nat) (Option.some FieldType.int)) ∈ am_ws := am_t5 133 rfl rfl
theorem wd_1094 : (Cond.methodLink "NumberedSparksLaw" (141 : Nat) ({ cls := "NumberedSparks", name := "middle", desc := "(II)I" } : MethodName)) ∈ am_ws := am_t5 134 rfl rfl
theorem wd_1095 : (Cond.instanceMethod ({ cls := "NumberedSparks", name := "middle", desc := "(II)I" } : MethodName)) ∈ am_ws := am_t5 135 rfl rfl
theorem wd_1096 : (Cond.selects "NumberedSparks" ({ cls := "NumberedSparks", name := "middle", desc := "(II)I" } : MethodName) ({ cls := "NumberedSparks", name := "middle", desc := "(II)I" } : MethodName)) ∈ am_ws := am_t5 136 rfl rfl
theorem wd_1097 : (Cond.code ({ cls := "NumberedSparks", name := "middle", desc := "(II)I" } : MethodName) prog_1_method_52_code (5 : Nat) (Option.some FieldType.int)) ∈ am_ws := am_t5 137 rfl rfl
theorem wd_1098 : (Cond.methodLink "NumberedSparksLaw" (173 : Nat) ({ cls := "NumberedSparks", name := "both", desc := "(II)I" } : MethodName)) ∈ am_ws := am_t5 138 rfl rfl
theorem wd_1099 : (Cond.instanceMethod ({ cls := "NumberedSparks", name := "both", desc := "(II)I" } : MethodName)) ∈ am_ws := am_t5 139 rfl rfl
theorem wd_1100 : (Cond.selects "NumberedSparks" ({ cls := "NumberedSparks", name := "both", desc := "(II)I" } : MethodName) ({ cls := "NumberedSparks", name := "both", desc := "(II)I" } : MethodName)) ∈ am_ws := am_t5 140 rfl rfl
theorem wd_1101 : (Cond.code ({ cls := "NumberedSparks", name := "both", desc := "(II)I" } : MethodName) prog_1_method_53_code (5 : Nat) (Option.some FieldType.int)) ∈ am_ws := am_t5 141 rfl rfl
theorem wd_1102 : (Cond.methodLink "NumberedSparks" (350 : Nat) ({ cls := "NumberedSparks$Frame", name := "bornOf", desc := "(I)I" } : MethodName)) ∈ am_ws := am_t5 142 rfl rfl
theorem wd_1103 : (Cond.instanceMethod ({ cls := "NumberedSparks$Frame", name := "bornOf", desc := "(I)I" } : MethodName)) ∈ am_ws := am_t5 143 rfl rfl
theorem wd_1104 : (Cond.selects "NumberedSparks$Frame" ({ cls := "NumberedSparks$Frame", name := "bornOf", desc := "(I)I" } : MethodName) ({ cls := "NumberedSparks$Frame", name := "bornOf", desc := "(I)I" } : MethodName)) ∈ am_ws := am_t5 144 rfl rfl
theorem wd_1105 : (Cond.code ({ cls := "NumberedSparks$Frame", name := "bornOf", desc := "(I)I" } : MethodName) prog_3_method_11_code (2 : Nat) (Option.some FieldType.int)) ∈ am_ws := am_t5 145 rfl rfl
theorem wd_1106 : (Cond.methodLink "NumberedSparks" (353 : Nat) ({ cls := "NumberedSparks$Frame", name := "endOf", desc := "(I)I" } : MethodName)) ∈ am_ws := am_t5 146 rfl rfl
theorem wd_1107 : (Cond.instanceMethod ({ cls := "NumberedSparks$Frame", name := "endOf", desc := "(I)I" } : MethodName)) ∈ am_ws := am_t5 147 rfl rfl
theorem wd_1108 : (Cond.selects "NumberedSparks$Frame" ({ cls := "NumberedSparks$Frame", name := "endOf", desc := "(I)I" } : MethodName) ({ cls := "NumberedSparks$Frame", name := "endOf", desc := "(I)I" } : MethodName)) ∈ am_ws := am_t5 148 rfl rfl
theorem wd_1109 : (Cond.code ({ cls := "NumberedSparks$Frame", name := "endOf", desc := "(I)I" } : MethodName) prog_3_method_12_code (2 : Nat) (Option.some FieldType.int)) ∈ am_ws := am_t5 149 rfl rfl
theorem wd_1110 : (Cond.methodLink "NumberedSparksLaw" (181 : Nat) ({ cls := "NumberedSparks", name := "ofAge", desc := "(III)I" } : MethodName)) ∈ am_ws := am_t5 150 rfl rfl
theorem wd_1111 : (Cond.instanceMethod ({ cls := "NumberedSparks", name := "ofAge", desc := "(III)I" } : MethodName)) ∈ am_ws := am_t5 151 rfl rfl
theorem wd_1112 : (Cond.selects "NumberedSparks" ({ cls := "NumberedSparks", name := "ofAge", desc := "(III)I" } : MethodName) ({ cls := "NumberedSparks", name := "ofAge", desc := "(III)I" } : MethodName)) ∈ am_ws := am_t5 152 rfl rfl
theorem wd_1113 : (Cond.code ({ cls := "NumberedSparks", name := "ofAge", desc := "(III)I" } : MethodName) prog_1_method_54_code (10 : Nat) (Option.some FieldType.int)) ∈ am_ws := am_t5 153 rfl rfl
theorem wd_1114 : (Cond.methodLink "NumberedSparksLaw" (213 : Nat) ({ cls := "NumberedSparks", name := "colours", desc := "(II)I" } : MethodName)) ∈ am_ws := am_t5 154 rfl rfl
theorem wd_1115 : (Cond.instanceMethod ({ cls := "NumberedSparks", name := "colours", desc := "(II)I" } : MethodName)) ∈ am_ws := am_t5 155 rfl rfl
theorem wd_1116 : (Cond.selects "NumberedSparks" ({ cls := "NumberedSparks", name := "colours", desc := "(II)I" } : MethodName) ({ cls := "NumberedSparks", name := "colours", desc := "(II)I" } : MethodName)) ∈ am_ws := am_t5 156 rfl rfl
theorem wd_1117 : (Cond.code ({ cls := "NumberedSparks", name := "colours", desc := "(II)I" } : MethodName) prog_1_method_55_code (5 : Nat) (Option.some FieldType.int)) ∈ am_ws := am_t5 157 rfl rfl
theorem wd_1118 : (Cond.methodLink "NumberedSparksLaw" (233 : Nat) ({ cls := "NumberedSparks", name := "twins", desc := "(I)I" } : MethodName)) ∈ am_ws := am_t5 158 rfl rfl
theorem wd_1119 : (Cond.instanceMethod ({ cls := "NumberedSparks", name := "twins", desc := "(I)I" } : MethodName)) ∈ am_ws := am_t5 159 rfl rfl
theorem wd_1120 : (Cond.selects "NumberedSparks" ({ cls := "NumberedSparks", name := "twins", desc := "(I)I" } : MethodName) ({ cls := "NumberedSparks", name := "twins", desc := "(I)I" } : MethodName)) ∈ am_ws := am_t5 160 rfl rfl
theorem wd_1121 : (Cond.code ({ cls := "NumberedSparks", name := "twins", desc := "(I)I" } : MethodName) prog_1_method_56_code (6 : Nat) (Option.some FieldType.int)) ∈ am_ws := am_t5 161 rfl rfl
theorem wd_1122 : (Cond.methodLink "NumberedSparksLaw" (145 : Nat) ({ cls := "NumberedSparks", name := "picture", desc := "(I)I" } : MethodName)) ∈ am_ws := am_t5 162 rfl rfl
theorem wd_1123 : (Cond.instanceMethod ({ cls := "NumberedSparks", name := "picture", desc := "(I)I" } : MethodName)) ∈ am_ws := am_t5 163 rfl rfl
theorem wd_1124 : (Cond.selects "NumberedSparks" ({ cls := "NumberedSparks", name := "picture", desc := "(I)I" } : MethodName) ({ cls := "NumberedSparks", name := "picture", desc := "(I)I" } : MethodName)) ∈ am_ws := am_t5 164 rfl rfl
theorem wd_1125 : (Cond.code ({ cls := "NumberedSparks", name := "picture", desc := "(I)I" } : MethodName) prog_1_method_57_code (5 : Nat) (Option.some FieldType.int)) ∈ am_ws := am_t5 165 rfl rfl
theorem wd_1126 : (Cond.methodLink "NumberedSparks" (356 : Nat) ({ cls := "NumberedSparks$Frame", name := "markTops", desc := "([I)V" } : MethodName)) ∈ am_ws := am_t5 166 rfl rfl
theorem wd_1127 : (Cond.instanceMethod ({ cls := "NumberedSparks$Frame", name := "markTops", desc := "([I)V" } : MethodName)) ∈ am_ws := am_t5 167 rfl rfl
theorem wd_1128 : (Cond.selects "NumberedSparks$Frame" ({ cls := "NumberedSparks$Frame", name := "markTops", desc := "([I)V" } : MethodName) ({ cls := "NumberedSparks$Frame", name := "markTops", desc := "([I)V" } : MethodName)) ∈ am_ws := am_t5 168 rfl rfl
theorem wd_1129 : (Cond.code ({ cls := "NumberedSparks$Frame", name := "markTops", desc := "([I)V" } : MethodName) prog_3_method_24_code (4 : Nat) (Option.none : Option FieldType)) ∈ am_ws := am_t5 169 rfl rfl
theorem wd_1130 : (Cond.methodLink "NumberedSparks" (359 : Nat) ({ cls := "NumberedSparks", name := "countOfColumn", desc := "(II)I" } : MethodName)) ∈ am_ws := am_t5 170 rfl rfl
theorem wd_1132 : (Cond.instanceMethod ({ cls := "NumberedSparks", name := "countOfColumn", desc := "(II)I" } : MethodName)) ∈ am_ws := am_t5 172 rfl rfl
theorem wd_1133 : (Cond.code ({ cls := "NumberedSparks", name := "countOfColumn", desc := "(II)I" } : MethodName) prog_1_method_59_code (4 : Nat) (Option.some FieldType.int)) ∈ am_ws := am_t5 173 rfl rfl
theorem wd_1134 : (Cond.methodLink "NumberedSparks" (366 : Nat) ({ cls := "NumberedSparks", name := "columnAt", desc := "(II)I" } : MethodName)) ∈ am_ws := am_t5 174 rfl rfl
theorem wd_1135 : (Cond.methodLink "NumberedSparksLaw" (169 : Nat) ({ cls := "NumberedSparks", name := "layer", desc := "(II)I" } : MethodName)) ∈ am_ws := am_t5 175 rfl rfl
theorem wd_1136 : (Cond.instanceMethod ({ cls := "NumberedSparks", name := "layer", desc := "(II)I" } : MethodName)) ∈ am_ws := am_t5 176 rfl rfl
theorem wd_1137 : (Cond.selects "NumberedSparks" ({ cls := "NumberedSparks", name := "layer", desc := "(II)I" } : MethodName) ({ cls := "NumberedSparks", name := "layer", desc := "(II)I" } : MethodName)) ∈ am_ws := am_t5 177 rfl rfl
theorem wd_1138 : (Cond.code ({ cls := "NumberedSparks", name := "layer", desc := "(II)I" } : MethodName) prog_1_method_58_code (6 : Nat) (Option.some FieldType.int)) ∈ am_ws := am_t5 178 rfl rfl
theorem wd_1139 : (Cond.methodLink "NumberedSparks" (362 : Nat) ({ cls := "NumberedSparks$Frame", name := "countLayer", desc := "(I[I)V" } : MethodName)) ∈ am_ws := am_t5 179 rfl rfl
theorem wd_1140 : (Cond.instanceMethod ({ cls := "NumberedSparks$Frame", name := "countLayer", desc := "(I[I)V" } : MethodName)) ∈ am_ws := am_t5 180 rfl rfl
theorem wd_1141 : (Cond.selects "NumberedSparks$Frame" ({ cls := "NumberedSparks$Frame", name := "countLayer", desc := "(I[I)V" } : MethodName) ({ cls := "NumberedSparks$Frame", name := "countLayer", desc := "(I[I)V" } : MethodName)) ∈ am_ws := am_t5 181 rfl rfl
theorem wd_1142 : (Cond.code ({ cls := "NumberedSparks$Frame", name := "countLayer", desc := "(I[I)V" } : MethodName) prog_3_method_21_code (5 : Nat) (Option.none : Option FieldType)) ∈ am_ws := am_t5 182 rfl rfl
theorem wd_1143 : (Cond.classLink "NumberedSparksLaw" (10 : Nat) "NumberedSparksModel") ∈ am_ws := am_t5 183 rfl rfl
theorem wd_1144 : (Cond.instantiable "NumberedSparksModel" (42 : Nat)) ∈ am_ws := am_t5 184 rfl rfl
theorem wd_1145 : (Cond.methodLink "NumberedSparksLaw" (12 : Nat) ({ cls := "NumberedSparksModel", name := "<init>", desc := "()V" } : MethodName)) ∈ am_ws := am_t5 185 rfl rfl
theorem wd_1146 : (Cond.instanceMethod ({ cls := "NumberedSparksModel", name := "<init>", desc := "()V" } : MethodName)) ∈ am_ws := am_t5 186 rfl rfl
theorem wd_1147 : (Cond.code ({ cls := "NumberedSparksModel", name := "<init>", desc := "()V" } : MethodName) prog_11_method_1_code (1 : Nat) (Option.none : Option FieldType)) ∈ am_ws := am_t5 187 rfl rfl
theorem wd_1148 : (Cond.methodLink "NumberedSparksModel" (1 : Nat) ({ cls := "java/lang/Object", name := "<init>", desc := "()V" } : MethodName)) ∈ am_ws := am_t5 188 rfl rfl
theorem wd_1149 : (Cond.constant "NumberedSparksModel" (64 : Nat) (64000 : Int32)) ∈ am_ws := am_t5 189 rfl rfl
theorem wd_1150 : (Cond.fieldLink "NumberedSparksModel" (219 : Nat) "NumberedSparksModel" "isThere" "Z") ∈ am_ws := am_t5 190 rfl rfl
theorem wd_1151 : (Cond.fieldLink "NumberedSparksModel" (7 : Nat) "NumberedSparksModel" "wide" "[I") ∈ am_ws := am_t5 191 rfl rfl
theorem wd_1152 : (Cond.fieldLink "NumberedSparksModel" (222 : Nat) "NumberedSparksModel" "seed" "I") ∈ am_ws := am_t5 192 rfl rfl
theorem wd_1153 : (Cond.fieldLink "NumberedSparksModel" (224 : Nat) "NumberedSparksModel" "kinds" "I") ∈ am_ws := am_t5 193 rfl rfl
theorem wd_1154 : (Cond.fieldLink "NumberedSparksModel" (13 : Nat) "NumberedSparksModel" "kind" "[I") ∈ am_ws := am_t5 194 rfl rfl
theorem wd_1155 : (Cond.fieldLink "NumberedSparksModel" (227 : Nat) "NumberedSparksModel" "sources" "I") ∈ am_ws := am_t5 195 rfl rfl
theorem wd_1156 : (Cond.fieldLink "NumberedSparksModel" (16 : Nat) "NumberedSparksModel" "source" "[I") ∈ am_ws := am_t5 196 rfl rfl
theorem wd_1157 : (Cond.fieldLink "NumberedSparksModel" (19 : Nat) "NumberedSparksModel" "freshWide" "[I") ∈ am_ws := am_t5 197 rfl rfl
theorem wd_1158 : (Cond.fieldLink "NumberedSparksModel" (198 : Nat) "NumberedSparksModel" "freshSeed" "I") ∈ am_ws := am_t5 198 rfl rfl
theorem wd_1159 : (Cond.fieldLink "NumberedSparksModel" (153 : Nat) "NumberedSparksModel" "freshKinds" "I") ∈ am_ws := am_t5 199 rfl rfl
theorem wd_1160 : (Cond.fieldLink "NumberedSparksModel" (22 : Nat) "NumberedSparksModel" "freshKind" "[I") ∈ am_ws := am_t5 200 rfl rfl
theorem wd_1161 : (Cond.fieldLink "NumberedSparksModel" (180 : Nat) "NumberedSparksModel" "freshSources" "I") ∈ am_ws := am_t5 201 rfl rfl
theorem wd_1162 : (Cond.fieldLink "NumberedSparksModel" (25 : Nat) "NumberedSparksModel" "freshSource" "[I") ∈ am_ws := am_t5 202 rfl rfl
theorem wd_1163 : (Cond.fieldLink "NumberedSparksModel" (28 : Nat) "NumberedSparksModel" "tape" "[B") ∈ am_ws := am_t5 203 rfl rfl
theorem wd_1164 : (Cond.fieldLink "NumberedSparksModel" (74 : Nat) "NumberedSparksModel" "taped" "I") ∈ am_ws := am_t5 204 rfl rfl
theorem wd_1165 : (Cond.fieldLink "NumberedSparksModel" (92 : Nat) "NumberedSparksModel" "size" "I") ∈ am_ws := am_t5 205 rfl rfl
theorem wd_1166 : (Cond.fieldLink "NumberedSparksModel" (95 : Nat) "NumberedSparksModel" "at" "I") ∈ am_ws := am_t5 206 rfl rfl
theorem wd_1167 : (Cond.fieldLink "NumberedSparksModel" (102 : Nat) "NumberedSparksModel" "from" "I") ∈ am_ws := am_t5 207 rfl rfl
theorem wd_1168 : (Cond.fieldLink "NumberedSparksModel" (105 : Nat) "NumberedSparksModel" "token" "I") ∈ am_ws := am_t5 208 rfl rfl
theorem wd_1169 : (Cond.fieldLink "NumberedSparksModel" (116 : Nat) "NumberedSparksModel" "value" "I") ∈ am_ws := am_t5 209 rfl rfl
theorem wd_1170 : (Cond.fieldLink "NumberedSparksModel" (85 : Nat) "NumberedSparksModel" "faultKind" "I") ∈ am_ws := am_t5 210 rfl rfl
theorem wd_1171 : (Cond.fieldLink "NumberedSparksModel" (32 : Nat) "NumberedSparksModel" "faultPlace" "I") ∈ am_ws := am_t5 211 rfl rfl
theorem wd_1172 : (Cond.fieldLink "NumberedSparksModel" (193 : Nat) "NumberedSparksModel" "isSeeded" "Z") ∈ am_ws := am_t5 212 rfl rfl
theorem wd_1173 : (Cond.fieldLink "NumberedSparksModel" (230 : Nat) "NumberedSparksModel" "acts" "I") ∈ am_ws := am_t5 213 rfl rfl
theorem wd_1174 : (Cond.fieldLink "NumberedSparksModel" (36 : Nat) "NumberedSparksModel" "actAt" "[I") ∈ am_ws := am_t5 214 rfl rfl
theorem wd_1175 : (Cond.fieldLink "NumberedSparksModel" (39 : Nat) "NumberedSparksModel" "actWas" "[I") ∈ am_ws := am_t5 215 rfl rfl
theorem wd_1176 : (Cond.fieldLink "NumberedSparksModel" (278 : Nat) "NumberedSparksModel" "itsKind" "I") ∈ am_ws := am_t5 216 rfl rfl
theorem wd_1177 : (Cond.fieldLink "NumberedSparksModel" (292 : Nat) "NumberedSparksModel" "born" "I") ∈ am_ws := am_t5 217 rfl rfl
theorem wd_1178 : (Cond.fieldLink "NumberedSparksModel" (303 : Nat) "NumberedSparksModel" "ends" "I") ∈ am_ws := am_t5 218 rfl rfl
theorem wd_1179 : (Cond.fieldLink "NumberedSparksModel" (42 : Nat) "NumberedSparksModel" "begin" "[I") ∈ am_ws := am_t5 219 rfl rfl
theorem wd_1180 : (Cond.fieldLink "NumberedSparksModel" (45 : Nat) "NumberedSparksModel" "speed" "[I") ∈ am_ws := am_t5 220 rfl rfl
theorem wd_1181 : (Cond.fieldLink "NumberedSparksModel" (48 : Nat) "NumberedSparksModel" "lastPlace" "[I") ∈ am_ws := am_t5 221 rfl rfl
theorem wd_1182 : (Cond.fieldLink "NumberedSparksModel" (51 : Nat) "NumberedSparksModel" "cellsOfOne" "[I") ∈ am_ws := am_t5 222 rfl rfl
theorem wd_1183 : (Cond.fieldLink "NumberedSparksModel" (361 : Nat) "NumberedSparksModel" "many" "I") ∈ am_ws := am_t5 223 rfl rfl
theorem wd_1184 : (Cond.fieldLink "NumberedSparksModel" (54 : Nat) "NumberedSparksModel" "keys" "[J") ∈ am_ws := am_t5 224 rfl rfl
theorem wd_1185 : (Cond.fieldLink "NumberedSparksModel" (58 : Nat) "NumberedSparksModel" "place0" "[I") ∈ am_ws := am_t5 225 rfl rfl
theorem wd_1186 : (Cond.fieldLink "NumberedSparksModel" (61 : Nat) "NumberedSparksModel" "place1" "[I") ∈ am_ws := am_t5 226 rfl rfl
theorem wd_1187 : (Cond.fieldLink "NumberedSparksModel" (65 : Nat) "NumberedSparksModel" "heaps" "[I") ∈ am_ws := am_t5 227 rfl rfl
theorem wd_1188 : (Cond.fieldLink "NumberedSparksModel" (443 : Nat) "NumberedSparksModel" "leftOver" "I") ∈ am_ws := am_t5 228 rfl rfl
theorem wd_1189 : (Cond.fieldLink "NumberedSparksModel" (68 : Nat) "NumberedSparksModel" "told" "[B") ∈ am_ws := am_t5 229 rfl rfl
theorem wd_1190 : (Cond.fieldLink "NumberedSparksModel" (233 : Nat) "NumberedSparksModel" "toldMany" "I") ∈ am_ws := am_t5 230 rfl rfl
theorem wd_1276 : (Cond.arrayClass FieldType.long) ∈ am_ws := am_t6 76 rfl rfl
theorem wd_1277 : (Cond.methodLink "NumberedSparksLaw" (17 : Nat) ({ cls := "NumberedSparksModel", name := "feed", desc := "(IIIII)I" } : MethodName)) ∈ am_ws := am_t6 77 rfl rfl
theorem wd_1278 : (Cond.instanceMethod ({ cls := "NumberedSparksModel", name := "feed", desc := "(IIIII)I" } : MethodName)) ∈ am_ws := am_t6 78 rfl rfl
theorem wd_1279 : (Cond.selects "NumberedSparksModel" ({ cls := "NumberedSparksModel", name := "feed", desc := "(IIIII)I" } : MethodName) ({ cls := "NumberedSparksModel", name := "feed", desc := "(IIIII)I" } : MethodName)) ∈ am_ws := am_t6 79 rfl rfl
theorem wd_1280 : (Cond.code ({ cls := "NumberedSparksModel", name := "feed", desc := "(IIIII)I" } : MethodName) prog_11_method_5_code (6 : Nat) (Option.some FieldType.int)) ∈ am_ws := am_t6 80 rfl rfl
theorem wd_1281 : (Cond.methodLink "NumberedSparksModel" (77 : Nat) ({ cls := "NumberedSparksModel", name := "puts4", desc := "(I)V" } : MethodName)) ∈ am_ws := am_t6 81 rfl rfl
theorem wd_1283 : (Cond.instanceMethod ({ cls := "NumberedSparksModel", name := "puts4", desc := "(I)V" } : MethodName)) ∈ am_ws := am_t6 83 rfl rfl
theorem wd_1284 : (Cond.code ({ cls := "NumberedSparksModel", name := "puts4", desc := "(I)V" } : MethodName) prog_11_method_4_code (3 : Nat) (Option.none : Option FieldType)) ∈ am_ws := am_t6 84 rfl rfl
theorem wd_1285 : (Cond.methodLink "NumberedSparksLaw" (22 : Nat) ({ cls := "NumberedSparksModel", name := "end", desc := "(I)I" } : MethodName)) ∈ am_ws := am_t6 85 rfl rfl
theorem wd_1286 : (Cond.instanceMethod ({ cls := "NumberedSparksModel", name := "end", desc := "(I)I" } : MethodName)) ∈ am_ws := am_t6 86 rfl rfl
theorem wd_1287 : (Cond.selects "NumberedSparksModel" ({ cls := "NumberedSparksModel", name := "end", desc := "(I)I" } : MethodName) ({ cls := "NumberedSparksModel", name := "end", desc := "(I)I" } : MethodName)) ∈ am_ws := am_t6 87 rfl rfl
theorem wd_1288 : (Cond.code ({ cls := "NumberedSparksModel", name := "end", desc := "(I)I" } : MethodName) prog_11_method_6_code (2 : Nat) (Option.some FieldType.int)) ∈ am_ws := am_t6 88 rfl rfl
theorem wd_1289 : (Cond.methodLink "NumberedSparksModel" (81 : Nat) ({ cls := "NumberedSparksModel", name := "in", desc := "(JJJ)Z" } : MethodName)) ∈ am_ws := am_t6 89 rfl rfl
theorem wd_1290 : (Cond.static ({ cls := "NumberedSparksModel", name := "in", desc := "(JJJ)Z" } : MethodName)) ∈ am_ws := am_t6 90 rfl rfl
theorem wd_1291 : (Cond.code ({ cls := "NumberedSparksModel", name := "in", desc := "(JJJ)Z" } : MethodName) prog_11_method_3_code (6 : Nat) (Option.some FieldType.boolean)) ∈ am_ws := am_t6 91 rfl rfl
theorem wd_1292 : (Cond.methodLink "NumberedSparksLaw" (27 : Nat) ({ cls := "NumberedSparksModel", name := "scene", desc := "()I" } : MethodName)) ∈ am_ws := am_t6 92 rfl rfl
theorem wd_1293 : (Cond.instanceMethod ({ cls := "NumberedSparksModel", name := "scene", desc := "()I" } : MethodName)) ∈ am_ws := am_t6 93 rfl rfl
theorem wd_1294 : (Cond.selects "NumberedSparksModel" ({ cls := "NumberedSparksModel", name := "scene", desc := "()I" } : MethodName) ({ cls := "NumberedSparksModel", name := "scene", desc := "()I" } : MethodName)) ∈ am_ws := am_t6 94 rfl rfl
theorem wd_1295 : (Cond.code ({ cls := "NumberedSparksModel", name := "scene", desc := "()I" } : MethodName) prog_11_method_20_code (3 : Nat) (Option.some FieldType.int)) ∈ am_ws := am_t6 95 rfl rfl
theorem wd_1296 : (Cond.methodLink "NumberedSparksModel" (140 : Nat) ({ cls := "NumberedSparksModel", name := "advance", desc := "()V" } : MethodName)) ∈ am_ws := am_t6 96 rfl rfl
theorem wd_1298 : (Cond.instanceMethod ({ cls := "NumberedSparksModel", name := "advance", desc := "()V" } : MethodName)) ∈ am_ws := am_t6 98 rfl rfl
theorem wd_1299 : (Cond.code ({ cls := "NumberedSparksModel", name := "advance", desc := "()V" } : MethodName) prog_11_method_10_code (2 : Nat) (Option.none : Option FieldType)) ∈ am_ws := am_t6 99 rfl rfl
theorem wd_1300 : (Cond.methodLink "NumberedSparksModel" (98 : Nat) ({ cls := "NumberedSparksModel", name := "see", desc := "(I)I" } : MethodName)) ∈ am_ws := am_t6 100 rfl rfl
theorem wd_1302 : (Cond.instanceMethod ({ cls := "NumberedSparksModel", name := "see", desc := "(I)I" } : MethodName)) ∈ am_ws := am_t6 102 rfl rfl
theorem wd_1303 : (Cond.code ({ cls := "NumberedSparksModel", name := "see", desc := "(I)I" } : MethodName) prog_11_method_9_code (2 : Nat) (Option.some FieldType.int)) ∈ am_ws := am_t6 103 rfl rfl
theorem wd_1304 : (Cond.constantLong "NumberedSparksModel" (108 : Nat) (97 : Int64)) ∈ am_ws := am_t6 104 rfl rfl
theorem wd_1305 : (Cond.constantLong "NumberedSparksModel" (110 : Nat) (122 : Int64)) ∈ am_ws := am_t6 105 rfl rfl
theorem wd_1306 : (Cond.constantLong "NumberedSparksModel" (112 : Nat) (48 : Int64)) ∈ am_ws := am_t6 106 rfl rfl
theorem wd_1307 : (Cond.constantLong "NumberedSparksModel" (114 : Nat) (57 : Int64)) ∈ am_ws := am_t6 107 rfl rfl
theorem wd_1308 : (Cond.constant "NumberedSparksModel" (119 : Nat) (9999999 : Int32)) ∈ am_ws := am_t6 108 rfl rfl
theorem wd_1309 : (Cond.methodLink "NumberedSparksModel" (120 : Nat) ({ cls := "java/lang/Math", name := "min", desc := "(II)I" } : MethodName)) ∈ am_ws := am_t6 109 rfl rfl
theorem wd_1310 : (Cond.methodLink "NumberedSparksModel" (146 : Nat) ({ cls := "NumberedSparksModel", name := "errs", desc := "(II)V" } : MethodName)) ∈ am_ws := am_t6 110 rfl rfl
theorem wd_1312 : (Cond.instanceMethod ({ cls := "NumberedSparksModel", name := "errs", desc := "(II)V" } : MethodName)) ∈ am_ws := am_t6 112 rfl rfl
theorem wd_1313 : (Cond.code ({ cls := "NumberedSparksModel", name := "errs", desc := "(II)V" } : MethodName) prog_11_method_8_code (3 : Nat) (Option.none : Option FieldType)) ∈ am_ws := am_t6 113 rfl rfl
theorem wd_1314 : (Cond.methodLink "NumberedSparksModel" (88 : Nat) ({ cls := "NumberedSparksModel", name := "good", desc := "()Z" } : MethodName)) ∈ am_ws := am_t6 114 rfl rfl
theorem wd_1316 : (Cond.instanceMethod ({ cls := "NumberedSparksModel", name := "good", desc := "()Z" } : MethodName)) ∈ am_ws := am_t6 116 rfl rfl
theorem wd_1317 : (Cond.code ({ cls := "NumberedSparksModel", name := "good", desc := "()Z" } : MethodName) prog_11_method_7_code (1 : Nat) (Option.some FieldType.boolean)) ∈ am_ws := am_t6 117 rfl rfl
theorem wd_1318 : (Cond.methodLink "NumberedSparksModel" (216 : Nat) ({ cls := "NumberedSparksModel", name := "readLine", desc := "(I)V" } : MethodName)) ∈ am_ws := am_t6 118 rfl rfl
theorem wd_1320 : (Cond.instanceMethod ({ cls := "NumberedSparksModel", name := "readLine", desc := "(I)V" } : MethodName)) ∈ am_ws := am_t6 120 rfl rfl
theorem wd_1321 : (Cond.code ({ cls := "NumberedSparksModel", name := "readLine", desc := "(I)V" } : MethodName) prog_11_method_19_code (3 : Nat) (Option.none : Option FieldType)) ∈ am_ws := am_t6 121 rfl rfl
theorem wd_1323 : (Cond.methodLink "NumberedSparksModel" (158 : Nat) ({ cls := "NumberedSparksModel", name := "passes", desc := "(Ljava/lang/String;)V" } : MethodName)) ∈ am_ws := am_t6 123 rfl rfl
theorem wd_1325 : (Cond.instanceMethod ({ cls := "NumberedSparksModel", name := "passes", desc := "(Ljava/lang/String;)V" } : MethodName)) ∈ am_ws := am_t6 125 rfl rfl
theorem wd_1326 : (Cond.code ({ cls := "NumberedSparksModel", name := "passes", desc := "(Ljava/lang/String;)V" } : MethodName) prog_11_method_13_code (2 : Nat) (Option.none : Option FieldType)) ∈ am_ws := am_t6 126 rfl rfl
theorem wd_1327 : (Cond.methodLink "NumberedSparksModel" (143 : Nat) ({ cls := "NumberedSparksModel", name := "takes", desc := "(Ljava/lang/String;)Z" } : MethodName)) ∈ am_ws := am_t6 127 rfl rfl
theorem wd_1329 : (Cond.instanceMethod ({ cls := "NumberedSparksModel", name := "takes", desc := "(Ljava/lang/String;)Z" } : MethodName)) ∈ am_ws := am_t6 129 rfl rfl
theorem wd_1330 : (Cond.code ({ cls := "NumberedSparksModel", name := "takes", desc := "(Ljava/lang/String;)Z" } : MethodName) prog_11_method_12_code (2 : Nat) (Option.some FieldType.boolean)) ∈ am_ws := am_t6 130 rfl rfl
theorem wd_1331 : (Cond.methodLink "NumberedSparksModel" (136 : Nat) ({ cls := "NumberedSparksModel", name := "isWord", desc := "(Ljava/lang/String;)Z" } : MethodName)) ∈ am_ws := am_t6 131 rfl rfl
theorem wd_1333 : (Cond.instanceMethod ({ cls := "NumberedSparksModel", name := "isWord", desc := "(Ljava/lang/String;)Z" } : MethodName)) ∈ am_ws := am_t6 133 rfl rfl
theorem wd_1334 : (Cond.code ({ cls := "NumberedSparksModel", name := "isWord", desc := "(Ljava/lang/String;)Z" } : MethodName) prog_11_method_11_code (4 : Nat) (Option.some FieldType.boolean)) ∈ am_ws := am_t6 134 rfl rfl
theorem wd_1335 : (Cond.methodLink "NumberedSparksModel" (126 : Nat) ({ cls := "java/lang/String", name := "length", desc := "()I" } : MethodName)) ∈ am_ws := am_t6 135 rfl rfl
theorem wd_1336 : (Cond.methodLink "NumberedSparksModel" (132 : Nat) ({ cls := "java/lang/String", name := "charAt", desc := "(I)C" } : MethodName)) ∈ am_ws := am_t6 136 rfl rfl
theorem wd_1337 : (Cond.methodLink "NumberedSparksModel" (150 : Nat) ({ cls := "NumberedSparksModel", name := "number", desc := "(II)I" } : MethodName)) ∈ am_ws := am_t6 137 rfl rfl
theorem wd_1339 : (Cond.instanceMethod ({ cls := "NumberedSparksModel", name := "number", desc := "(II)I" } : MethodName)) ∈ am_ws := am_t6 139 rfl rfl
theorem wd_1340 : (Cond.code ({ cls := "NumberedSparksModel", name := "number", desc := "(II)I" } : MethodName) prog_11_method_14_code (4 : Nat) (Option.some FieldType.int)) ∈ am_ws := am_t6 140 rfl rfl
theorem wd_1342 : (Cond.methodLink "NumberedSparksModel" (205 : Nat) ({ cls := "NumberedSparksModel", name := "readSeed", desc := "()V" } : MethodName)) ∈ am_ws := am_t6 142 rfl rfl
theorem wd_1344 : (Cond.instanceMethod ({ cls := "NumberedSparksModel", name := "readSeed", desc := "()V" } : MethodName)) ∈ am_ws := am_t6 144 rfl rfl
theorem wd_1345 : (Cond.code ({ cls := "NumberedSparksModel", name := "readSeed", desc := "()V" } : MethodName) prog_11_method_18_code (1 : Nat) (Option.none : Option FieldType)) ∈ am_ws := am_t6 145 rfl rfl
theorem wd_1346 : (Cond.constant "NumberedSparksModel" (197 : Nat) (999999 : Int32)) ∈ am_ws := am_t6 146 rfl rfl
theorem wd_1348 : (Cond.methodLink "NumberedSparksModel" (209 : Nat) ({ cls := "NumberedSparksModel", name := "readKind", desc := "()V" } : MethodName)) ∈ am_ws := am_t6 148 rfl rfl
theorem wd_1350 : (Cond.instanceMethod ({ cls := "NumberedSparksModel", name := "readKind", desc := "()V" } : MethodName)) ∈ am_ws := am_t6 150 rfl rfl
theorem wd_1351 : (Cond.code ({ cls := "NumberedSparksModel", name := "readKind", desc := "()V" } : MethodName) prog_11_method_16_code (2 : Nat) (Option.none : Option FieldType)) ∈ am_ws := am_t6 151 rfl rfl
theorem wd_1356 : (Cond.methodLink "NumberedSparksModel" (167 : Nat) ({ cls := "NumberedSparksModel", name := "falls", desc := "()I" } : MethodName)) ∈ am_ws := am_t6 156 rfl rfl
theorem wd_1358 : (Cond.instanceMethod ({ cls := "NumberedSparksModel", name := "falls", desc := "()I" } : MethodName)) ∈ am_ws := am_t6 158 rfl rfl
theorem wd_1359 : (Cond.code ({ cls := "NumberedSparksModel", name := "falls", desc := "()I" } : MethodName) prog_11_method_15_code (3 : Nat) (Option.some FieldType.int)) ∈ am_ws := am_t6 159 rfl rfl
theorem wd_1367 : (Cond.methodLink "NumberedSparksModel" (213 : Nat) ({ cls := "NumberedSparksModel", name := "readSource", desc := "()V" } : MethodName)) ∈ am_ws := am_t6 167 rfl rfl
theorem wd_1369 : (Cond.instanceMethod ({ cls := "NumberedSparksModel", name := "readSource", desc := "()V" } : MethodName)) ∈ am_ws := am_t6 169 rfl rfl
theorem wd_1370 : (Cond.code ({ cls := "NumberedSparksModel", name := "readSource", desc := "()V" } : MethodName) prog_11_method_17_code (3 : Nat) (Option.none : Option FieldType)) ∈ am_ws := am_t6 170 rfl rfl
theorem wd_1377 : (Cond.methodLink "NumberedSparksLaw" (31 : Nat) ({ cls := "NumberedSparksModel", name := "fault", desc := "(I)I" } : MethodName)) ∈ am_ws := am_t6 177 rfl rfl
theorem wd_1378 : (Cond.instanceMethod ({ cls := "NumberedSparksModel", name := "fault", desc := "(I)I" } : MethodName)) ∈ am_ws := am_t6 178 rfl rfl
theorem wd_1379 : (Cond.selects "NumberedSparksModel" ({ cls := "NumberedSparksModel", name := "fault", desc := "(I)I" } : MethodName) ({ cls := "NumberedSparksModel", name := "fault", desc := "(I)I" } : MethodName)) ∈ am_ws := am_t6 179 rfl rfl
theorem wd_1380 : (Cond.code ({ cls := "NumberedSparksModel", name := "fault", desc := "(I)I" } : MethodName) prog_11_method_21_code (2 : Nat) (Option.some FieldType.int)) ∈ am_ws := am_t6 180 rfl rfl
theorem wd_1381 : (Cond.methodLink "NumberedSparksLaw" (35 : Nat) ({ cls := "NumberedSparksModel", name := "count", desc := "(I)I" } : MethodName)) ∈ am_ws := am_t6 181 rfl rfl
theorem wd_1382 : (Cond.instanceMethod ({ cls := "NumberedSparksModel", name := "count", desc := "(I)I" } : MethodName)) ∈ am_ws := am_t6 182 rfl rfl
theorem wd_1383 : (Cond.selects "NumberedSparksModel" ({ cls := "NumberedSparksModel", name := "count", desc := "(I)I" } : MethodName) ({ cls := "NumberedSparksModel", name := "count", desc := "(I)I" } : MethodName)) ∈ am_ws := am_t6 183 rfl rfl
theorem wd_1384 : (Cond.code ({ cls := "NumberedSparksModel", name := "count", desc := "(I)I" } : MethodName) prog_11_method_22_code (2 : Nat) (Option.some FieldType.int)) ∈ am_ws := am_t6 184 rfl rfl
theorem wd_1385 : (Cond.methodLink "NumberedSparksLaw" (40 : Nat) ({ cls := "NumberedSparksModel", name := "kind", desc := "(II)I" } : MethodName)) ∈ am_ws := am_t6 185 rfl rfl
theorem wd_1386 : (Cond.instanceMethod ({ cls := "NumberedSparksModel", name := "kind", desc := "(II)I" } : MethodName)) ∈ am_ws := am_t6 186 rfl rfl
theorem wd_1387 : (Cond.selects "NumberedSparksModel" ({ cls := "NumberedSparksModel", name := "kind", desc := "(II)I" } : MethodName) ({ cls := "NumberedSparksModel", name := "kind", desc := "(II)I" } : MethodName)) ∈ am_ws := am_t6 187 rfl rfl
theorem wd_1388 : (Cond.code ({ cls := "NumberedSparksModel", name := "kind", desc := "(II)I" } : MethodName) prog_11_method_23_code (3 : Nat) (Option.some FieldType.int)) ∈ am_ws := am_t6 188 rfl rfl
theorem wd_1389 : (Cond.constantLong "NumberedSparksModel" (236 : Nat) (7 : Int64)) ∈ am_ws := am_t6 189 rfl rfl
theorem wd_1390 : (Cond.methodLink "NumberedSparksLaw" (44 : Nat) ({ cls := "NumberedSparksModel", name := "source", desc := "(II)I" } : MethodName)) ∈ am_ws := am_t6 190 rfl rfl
theorem wd_1391 : (Cond.instanceMethod ({ cls := "NumberedSparksModel", name := "source", desc := "(II)I" } : MethodName)) ∈ am_ws := am_t6 191 rfl rfl
theorem wd_1392 : (Cond.selects "NumberedSparksModel" ({ cls := "NumberedSparksModel", name := "source", desc := "(II)I" } : MethodName) ({ cls := "NumberedSparksModel", name := "source", desc := "(II)I" } : MethodName)) ∈ am_ws := am_t6 192 rfl rfl
theorem wd_1393 : (Cond.code ({ cls := "NumberedSparksModel", name := "source", desc := "(II)I" } : MethodName) prog_11_method_27_code (3 : Nat) (Option.some FieldType.int)) ∈ am_ws := am_t6 193 rfl rfl
theorem wd_1394 : (Cond.constantLong "NumberedSparksModel" (244 : Nat) (9 : Int64)) ∈ am_ws := am_t6 194 rfl rfl
theorem wd_1395 : (Cond.methodLink "NumberedSparksModel" (246 : Nat) ({ cls := "NumberedSparksModel", name := "roots", desc := "(I)I" } : MethodName)) ∈ am_ws := am_t6 195 rfl rfl
theorem wd_1397 : (Cond.instanceMethod ({ cls := "NumberedSparksModel", name := "roots", desc := "(I)I" } : MethodName)) ∈ am_ws := am_t6 197 rfl rfl
theorem wd_1398 : (Cond.code ({ cls := "NumberedSparksModel", name := "roots", desc := "(I)I" } : MethodName) prog_11_method_26_code (2 : Nat) (Option.some FieldType.int)) ∈ am_ws := am_t6 198 rfl rfl
theorem wd_1399 : (Cond.methodLink "NumberedSparksModel" (241 : Nat) ({ cls := "NumberedSparksModel", name := "groups", desc := "(I)I" } : MethodName)) ∈ am_ws := am_t6 199 rfl rfl
theorem wd_1401 : (Cond.instanceMethod ({ cls := "NumberedSparksModel", name := "groups", desc := "(I)I" } : MethodName)) ∈ am_ws := am_t6 201 rfl rfl
theorem wd_1402 : (Cond.code ({ cls := "NumberedSparksModel", name := "groups", desc := "(I)I" } : MethodName) prog_11_method_25_code (3 : Nat) (Option.some FieldType.int)) ∈ am_ws := am_t6 202 rfl rfl
theorem wd_1403 : (Cond.methodLink "NumberedSparksModel" (238 : Nat) ({ cls := "NumberedSparksModel", name := "ofSource", desc := "(II)I" } : MethodName)) ∈ am_ws := am_t6 203 rfl rfl
theorem wd_1405 : (Cond.instanceMethod ({ cls := "NumberedSparksModel", name := "ofSource", desc := "(II)I" } : MethodName)) ∈ am_ws := am_t6 205 rfl rfl
theorem wd_1406 : (Cond.code ({ cls := "NumberedSparksModel", name := "ofSource", desc := "(II)I" } : MethodName) prog_11_method_24_code (3 : Nat) (Option.some FieldType.int)) ∈ am_ws := am_t6 206 rfl rfl
theorem wd_1407 : (Cond.methodLink "NumberedSparksLaw" (48 : Nat) ({ cls := "NumberedSparksModel", name := "seed", desc := "(I)I" } : MethodName)) ∈ am_ws := am_t6 207 rfl rfl
theorem wd_1408 : (Cond.instanceMethod ({ cls := "NumberedSparksModel", name := "seed", desc := "(I)I" } : MethodName)) ∈ am_ws := am_t6 208 rfl rfl
theorem wd_1409 : (Cond.selects "NumberedSparksModel" ({ cls := "NumberedSparksModel", name := "seed", desc := "(I)I" } : MethodName) ({ cls := "NumberedSparksModel", name := "seed", desc := "(I)I" } : MethodName)) ∈ am_ws := am_t6 209 rfl rfl
theorem wd_1410 : (Cond.code ({ cls := "NumberedSparksModel", name := "seed", desc := "(I)I" } : MethodName) prog_11_method_29_code (3 : Nat) (Option.some FieldType.int)) ∈ am_ws := am_t6 210 rfl rfl
theorem wd_1411 : (Cond.constantLong "NumberedSparksModel" (249 : Nat) (999999 : Int64)) ∈ am_ws := am_t6 211 rfl rfl
theorem wd_1412 : (Cond.methodLink "NumberedSparksModel" (251 : Nat) ({ cls := "NumberedSparksModel", name := "keeps", desc := "(II)V" } : MethodName)) ∈ am_ws := am_t6 212 rfl rfl
theorem wd_1414 : (Cond.instanceMethod ({ cls := "NumberedSparksModel", name := "keeps", desc := "(II)V" } : MethodName)) ∈ am_ws := am_t6 214 rfl rfl
theorem wd_1415 : (Cond.code ({ cls := "NumberedSparksModel", name := "keeps", desc := "(II)V" } : MethodName) prog_11_method_28_code (4 : Nat) (Option.none : Option FieldType)) ∈ am_ws := am_t6 215 rfl rfl
theorem wd_1416 : (Cond.methodLink "NumberedSparksLaw" (204 : Nat) ({ cls := "NumberedSparksModel", name := "sets", desc := "(III)I" } : MethodName)) ∈ am_ws := am_t6 216 rfl rfl
theorem wd_1417 : (Cond.instanceMethod ({ cls := "NumberedSparksModel", name := "sets", desc := "(III)I" } : MethodName)) ∈ am_ws := am_t6 217 rfl rfl
theorem wd_1418 : (Cond.selects "NumberedSparksModel" ({ cls := "NumberedSparksModel", name := "sets", desc := "(III)I" } : MethodName) ({ cls := "NumberedSparksModel", name := "sets", desc := "(III)I" } : MethodName)) ∈ am_ws := am_t6 218 rfl rfl
theorem wd_1419 : (Cond.code ({ cls := "NumberedSparksModel", name := "sets", desc := "(III)I" } : MethodName) prog_11_method_30_code (8 : Nat) (Option.some FieldType.int)) ∈ am_ws := am_t6 219 rfl rfl
theorem wd_1420 : (Cond.constantLong "NumberedSparksModel" (254 : Nat) (4 : Int64)) ∈ am_ws := am_t6 220 rfl rfl
theorem wd_1421 : (Cond.methodLink "NumberedSparksLaw" (208 : Nat) ({ cls := "NumberedSparksModel", name := "undo", desc := "()I" } : MethodName)) ∈ am_ws := am_t6 221 rfl rfl
theorem wd_1422 : (Cond.instanceMethod ({ cls := "NumberedSparksModel", name := "undo", desc := "()I" } : MethodName)) ∈ am_ws := am_t6 222 rfl rfl
theorem wd_1423 : (Cond.selects "NumberedSparksModel" ({ cls := "NumberedSparksModel", name := "undo", desc := "()I" } : MethodName) ({ cls := "NumberedSparksModel", name := "undo", desc := "()I" } : MethodName)) ∈ am_ws := am_t6 223 rfl rfl
theorem wd_1424 : (Cond.code ({ cls := "NumberedSparksModel", name := "undo", desc := "()I" } : MethodName) prog_11_method_31_code (1 : Nat) (Option.some FieldType.int)) ∈ am_ws := am_t6 224 rfl rfl
theorem wd_1425 : (Cond.methodLink "NumberedSparksLaw" (53 : Nat) ({ cls := "NumberedSparksModel", name := "mixed", desc := "(II)J" } : MethodName)) ∈ am_ws := am_t6 225 rfl rfl
theorem wd_1426 : (Cond.instanceMethod ({ cls := "NumberedSparksModel", name := "mixed", desc := "(II)J" } : MethodName)) ∈ am_ws := am_t6 226 rfl rfl
theorem wd_1427 : (Cond.selects "NumberedSparksModel" ({ cls := "NumberedSparksModel", name := "mixed", desc := "(II)J" } : MethodName) ({ cls := "NumberedSparksModel", name := "mixed", desc := "(II)J" } : MethodName)) ∈ am_ws := am_t6 227 rfl rfl
theorem wd_1428 : (Cond.code ({ cls := "NumberedSparksModel", name := "mixed", desc := "(II)J" } : MethodName) prog_11_method_33_code (3 : Nat) (Option.some FieldType.long)) ∈ am_ws := am_t6 228 rfl rfl
theorem wd_1429 : (Cond.methodLink "NumberedSparksModel" (264 : Nat) ({ cls := "NumberedSparksModel", name := "mixedOf", desc := "(II)J" } : MethodName)) ∈ am_ws := am_t6 229 rfl rfl
theorem wd_1431 : (Cond.instanceMethod ({ cls := "NumberedSparksModel", name := "mixedOf", desc := "(II)J" } : MethodName)) ∈ am_ws := am_t6 231 rfl rfl
theorem wd_1432 : (Cond.code ({ cls := "NumberedSparksModel", name := "mixedOf", desc := "(II)J" } : MethodName) prog_11_method_32_code (5 : Nat) (Option.some FieldType.long)) ∈ am_ws := am_t6 232 rfl rfl
theorem wd_1433 : (Cond.constantLong "NumberedSparksModel" (256 : Nat) (-7046029254386353131 : Int64)) ∈ am_ws := am_t6 233 rfl rfl
theorem wd_1434 : (Cond.constantLong "NumberedSparksModel" (258 : Nat) (-3335678366873096957 : Int64)) ∈ am_ws := am_t6 234 rfl rfl
theorem wd_1435 : (Cond.constantLong "NumberedSparksModel" (260 : Nat) (-4658895280553007687 : Int64)) ∈ am_ws := am_t6 235 rfl rfl
theorem wd_1436 : (Cond.constantLong "NumberedSparksModel" (262 : Nat) (-7723592293110705685 : Int64)) ∈ am_ws := am_t6 236 rfl rfl
theorem wd_1437 : (Cond.methodLink "NumberedSparksLaw" (57 : Nat) ({ cls := "NumberedSparksModel", name := "is", desc := "(I)I" } : MethodName)) ∈ am_ws := am_t6 237 rfl rfl
theorem wd_1438 : (Cond.instanceMethod ({ cls := "NumberedSparksModel", name := "is", desc := "(I)I" } : MethodName)) ∈ am_ws := am_t6 238 rfl rfl
theorem wd_1439 : (Cond.selects "NumberedSparksModel" ({ cls := "NumberedSparksModel", name := "is", desc := "(I)I" } : MethodName) ({ cls := "NumberedSparksModel", name := "is", desc := "(I)I" } : MethodName)) ∈ am_ws := am_t6 239 rfl rfl
theorem wd_1440 : (Cond.code ({ cls := "NumberedSparksModel", name := "is", desc := "(I)I" } : MethodName) prog_11_method_49_code (2 : Nat) (Option.some FieldType.int)) ∈ am_ws := am_t7 0 rfl rfl
theorem wd_1441 : (Cond.methodLink "NumberedSparksModel" (318 : Nat) ({ cls := "NumberedSparksModel", name := "isSpark", desc := "(I)Z" } : MethodName)) ∈ am_ws := am_t7 1 rfl rfl
theorem wd_1443 : (Cond.instanceMethod ({ cls := "NumberedSparksModel", name := "isSpark", desc := "(I)Z" } : MethodName)) ∈ am_ws := am_t7 3 rfl rfl
theorem wd_1444 : (Cond.code ({ cls := "NumberedSparksModel", name := "isSpark", desc := "(I)Z" } : MethodName) prog_11_method_38_code (5 : Nat) (Option.some FieldType.boolean)) ∈ am_ws := am_t7 4 rfl rfl
theorem wd_1445 : (Cond.methodLink "NumberedSparksModel" (268 : Nat) ({ cls := "NumberedSparksModel", name := "first", desc := "(I)I" } : MethodName)) ∈ am_ws := am_t7 5 rfl rfl
theorem wd_1446 : (Cond.static ({ cls := "NumberedSparksModel", name := "first", desc := "(I)I" } : MethodName)) ∈ am_ws := am_t7 6 rfl rfl
theorem wd_1447 : (Cond.code ({ cls := "NumberedSparksModel", name := "first", desc := "(I)I" } : MethodName) prog_11_method_35_code (1 : Nat) (Option.some FieldType.int)) ∈ am_ws := am_t7 7 rfl rfl
theorem wd_1448 : (Cond.methodLink "NumberedSparksModel" (271 : Nat) ({ cls := "NumberedSparksModel", name := "hasChild", desc := "(II)Z" } : MethodName)) ∈ am_ws := am_t7 8 rfl rfl
theorem wd_1450 : (Cond.instanceMethod ({ cls := "NumberedSparksModel", name := "hasChild", desc := "(II)Z" } : MethodName)) ∈ am_ws := am_t7 10 rfl rfl
theorem wd_1451 : (Cond.code ({ cls := "NumberedSparksModel", name := "hasChild", desc := "(II)Z" } : MethodName) prog_11_method_37_code (3 : Nat) (Option.some FieldType.boolean)) ∈ am_ws := am_t7 11 rfl rfl
theorem wd_1452 : (Cond.methodLink "NumberedSparksModel" (275 : Nat) ({ cls := "NumberedSparksModel", name := "second", desc := "(I)I" } : MethodName)) ∈ am_ws := am_t7 12 rfl rfl
theorem wd_1453 : (Cond.static ({ cls := "NumberedSparksModel", name := "second", desc := "(I)I" } : MethodName)) ∈ am_ws := am_t7 13 rfl rfl
theorem wd_1454 : (Cond.code ({ cls := "NumberedSparksModel", name := "second", desc := "(I)I" } : MethodName) prog_11_method_36_code (1 : Nat) (Option.some FieldType.int)) ∈ am_ws := am_t7 14 rfl rfl
theorem wd_1455 : (Cond.methodLink "NumberedSparksLaw" (61 : Nat) ({ cls := "NumberedSparksModel", name := "child", desc := "(II)I" } : MethodName)) ∈ am_ws := am_t7 15 rfl rfl
theorem wd_1456 : (Cond.instanceMethod ({ cls := "NumberedSparksModel", name := "child", desc := "(II)I" } : MethodName)) ∈ am_ws := am_t7 16 rfl rfl
theorem wd_1457 : (Cond.selects "NumberedSparksModel" ({ cls := "NumberedSparksModel", name := "child", desc := "(II)I" } : MethodName) ({ cls := "NumberedSparksModel", name := "child", desc := "(II)I" } : MethodName)) ∈ am_ws := am_t7 17 rfl rfl
theorem wd_1458 : (Cond.code ({ cls := "NumberedSparksModel", name := "child", desc := "(II)I" } : MethodName) prog_11_method_52_code (3 : Nat) (Option.some FieldType.int)) ∈ am_ws := am_t7 18 rfl rfl
theorem wd_1459 : (Cond.methodLink "NumberedSparksModel" (327 : Nat) ({ cls := "NumberedSparksModel", name := "childOf", desc := "(II)I" } : MethodName)) ∈ am_ws := am_t7 19 rfl rfl
theorem wd_1461 : (Cond.instanceMethod ({ cls := "NumberedSparksModel", name := "childOf", desc := "(II)I" } : MethodName)) ∈ am_ws := am_t7 21 rfl rfl
theorem wd_1462 : (Cond.code ({ cls := "NumberedSparksModel", name := "childOf", desc := "(II)I" } : MethodName) prog_11_method_51_code (4 : Nat) (Option.some FieldType.int)) ∈ am_ws := am_t7 22 rfl rfl
theorem wd_1463 : (Cond.methodLink "NumberedSparksModel" (321 : Nat) ({ cls := "NumberedSparksModel", name := "generation", desc := "(I)I" } : MethodName)) ∈ am_ws := am_t7 23 rfl rfl
theorem wd_1464 : (Cond.static ({ cls := "NumberedSparksModel", name := "generation", desc := "(I)I" } : MethodName)) ∈ am_ws := am_t7 24 rfl rfl
theorem wd_1465 : (Cond.code ({ cls := "NumberedSparksModel", name := "generation", desc := "(I)I" } : MethodName) prog_11_method_48_code (1 : Nat) (Option.some FieldType.int)) ∈ am_ws := am_t7 25 rfl rfl
theorem wd_1466 : (Cond.methodLink "NumberedSparksModel" (324 : Nat) ({ cls := "NumberedSparksModel", name := "kindOf", desc := "(I)I" } : MethodName)) ∈ am_ws := am_t7 26 rfl rfl
theorem wd_1468 : (Cond.instanceMethod ({ cls := "NumberedSparksModel", name := "kindOf", desc := "(I)I" } : MethodName)) ∈ am_ws := am_t7 28 rfl rfl
theorem wd_1469 : (Cond.code ({ cls := "NumberedSparksModel", name := "kindOf", desc := "(I)I" } : MethodName) prog_11_method_50_code (5 : Nat) (Option.some FieldType.int)) ∈ am_ws := am_t7 29 rfl rfl
theorem wd_1470 : (Cond.methodLink "NumberedSparksLaw" (65 : Nat) ({ cls := "NumberedSparksModel", name := "parent", desc := "(I)I" } : MethodName)) ∈ am_ws := am_t7 30 rfl rfl
theorem wd_1471 : (Cond.instanceMethod ({ cls := "NumberedSparksModel", name := "parent", desc := "(I)I" } : MethodName)) ∈ am_ws := am_t7 31 rfl rfl
theorem wd_1472 : (Cond.selects "NumberedSparksModel" ({ cls := "NumberedSparksModel", name := "parent", desc := "(I)I" } : MethodName) ({ cls := "NumberedSparksModel", name := "parent", desc := "(I)I" } : MethodName)) ∈ am_ws := am_t7 32 rfl rfl
theorem wd_1473 : (Cond.code ({ cls := "NumberedSparksModel", name := "parent", desc := "(I)I" } : MethodName) prog_11_method_54_code (2 : Nat) (Option.some FieldType.int)) ∈ am_ws := am_t7 33 rfl rfl
theorem wd_1474 : (Cond.methodLink "NumberedSparksModel" (330 : Nat) ({ cls := "NumberedSparksModel", name := "parentOf", desc := "(I)I" } : MethodName)) ∈ am_ws := am_t7 34 rfl rfl
theorem wd_1475 : (Cond.static ({ cls := "NumberedSparksModel", name := "parentOf", desc := "(I)I" } : MethodName)) ∈ am_ws := am_t7 35 rfl rfl
theorem wd_1476 : (Cond.code ({ cls := "NumberedSparksModel", name := "parentOf", desc := "(I)I" } : MethodName) prog_11_method_53_code (1 : Nat) (Option.some FieldType.int)) ∈ am_ws := am_t7 36 rfl rfl
theorem wd_1477 : (Cond.methodLink "NumberedSparksLaw" (69 : Nat) ({ cls := "NumberedSparksModel", name := "spark", desc := "(II)I" } : MethodName)) ∈ am_ws := am_t7 37 rfl rfl
theorem wd_1478 : (Cond.instanceMethod ({ cls := "NumberedSparksModel", name := "spark", desc := "(II)I" } : MethodName)) ∈ am_ws := am_t7 38 rfl rfl
theorem wd_1479 : (Cond.selects "NumberedSparksModel" ({ cls := "NumberedSparksModel", name := "spark", desc := "(II)I" } : MethodName) ({ cls := "NumberedSparksModel", name := "spark", desc := "(II)I" } : MethodName)) ∈ am_ws := am_t7 39 rfl rfl
theorem wd_1480 : (Cond.code ({ cls := "NumberedSparksModel", name := "spark", desc := "(II)I" } : MethodName) prog_11_method_55_code (3 : Nat) (Option.some FieldType.int)) ∈ am_ws := am_t7 40 rfl rfl
theorem wd_1481 : (Cond.methodLink "NumberedSparksModel" (333 : Nat) ({ cls := "NumberedSparksModel", name := "lays", desc := "(I)V" } : MethodName)) ∈ am_ws := am_t7 41 rfl rfl
theorem wd_1483 : (Cond.instanceMethod ({ cls := "NumberedSparksModel", name := "lays", desc := "(I)V" } : MethodName)) ∈ am_ws := am_t7 43 rfl rfl
theorem wd_1484 : (Cond.code ({ cls := "NumberedSparksModel", name := "lays", desc := "(I)V" } : MethodName) prog_11_method_47_code (3 : Nat) (Option.none : Option FieldType)) ∈ am_ws := am_t7 44 rfl rfl
theorem wd_1485 : (Cond.methodLink "NumberedSparksModel" (312 : Nat) ({ cls := "NumberedSparksModel", name := "laysRoot", desc := "(I)V" } : MethodName)) ∈ am_ws := am_t7 45 rfl rfl
theorem wd_1487 : (Cond.instanceMethod ({ cls := "NumberedSparksModel", name := "laysRoot", desc := "(I)V" } : MethodName)) ∈ am_ws := am_t7 47 rfl rfl
theorem wd_1488 : (Cond.code ({ cls := "NumberedSparksModel", name := "laysRoot", desc := "(I)V" } : MethodName) prog_11_method_45_code (6 : Nat) (Option.none : Option FieldType)) ∈ am_ws := am_t7 48 rfl rfl
theorem wd_1489 : (Cond.methodLink "NumberedSparksModel" (295 : Nat) ({ cls := "NumberedSparksModel", name := "draw", desc := "(III)I" } : MethodName)) ∈ am_ws := am_t7 49 rfl rfl
theorem wd_1491 : (Cond.instanceMethod ({ cls := "NumberedSparksModel", name := "draw", desc := "(III)I" } : MethodName)) ∈ am_ws := am_t7 51 rfl rfl
theorem wd_1492 : (Cond.code ({ cls := "NumberedSparksModel", name := "draw", desc := "(III)I" } : MethodName) prog_11_method_34_code (4 : Nat) (Option.some FieldType.int)) ∈ am_ws := am_t7 52 rfl rfl
theorem wd_1493 : (Cond.methodLink "NumberedSparksModel" (305 : Nat) ({ cls := "NumberedSparksModel", name := "laysOne", desc := "(III)V" } : MethodName)) ∈ am_ws := am_t7 53 rfl rfl
theorem wd_1495 : (Cond.instanceMethod ({ cls := "NumberedSparksModel", name := "laysOne", desc := "(III)V" } : MethodName)) ∈ am_ws := am_t7 55 rfl rfl
theorem wd_1496 : (Cond.code ({ cls := "NumberedSparksModel", name := "laysOne", desc := "(III)V" } : MethodName) prog_11_method_44_code (7 : Nat) (Option.none : Option FieldType)) ∈ am_ws := am_t7 56 rfl rfl
theorem wd_1497 : (Cond.methodLink "NumberedSparksModel" (286 : Nat) ({ cls := "NumberedSparksModel", name := "edge", desc := "()I" } : MethodName)) ∈ am_ws := am_t7 57 rfl rfl
theorem wd_1499 : (Cond.instanceMethod ({ cls := "NumberedSparksModel", name := "edge", desc := "()I" } : MethodName)) ∈ am_ws := am_t7 59 rfl rfl
theorem wd_1500 : (Cond.code ({ cls := "NumberedSparksModel", name := "edge", desc := "()I" } : MethodName) prog_11_method_40_code (1 : Nat) (Option.some FieldType.int)) ∈ am_ws := am_t7 60 rfl rfl
theorem wd_1501 : (Cond.methodLink "NumberedSparksModel" (299 : Nat) ({ cls := "NumberedSparksModel", name := "isBeyond", desc := "(I)Z" } : MethodName)) ∈ am_ws := am_t7 61 rfl rfl
theorem wd_1503 : (Cond.instanceMethod ({ cls := "NumberedSparksModel", name := "isBeyond", desc := "(I)Z" } : MethodName)) ∈ am_ws := am_t7 63 rfl rfl
theorem wd_1504 : (Cond.code ({ cls := "NumberedSparksModel", name := "isBeyond", desc := "(I)Z" } : MethodName) prog_11_method_43_code (4 : Nat) (Option.some FieldType.boolean)) ∈ am_ws := am_t7 64 rfl rfl
theorem wd_1505 : (Cond.methodLink "NumberedSparksModel" (281 : Nat) ({ cls := "NumberedSparksModel", name := "raw", desc := "(II)I" } : MethodName)) ∈ am_ws := am_t7 65 rfl rfl
theorem wd_1507 : (Cond.instanceMethod ({ cls := "NumberedSparksModel", name := "raw", desc := "(II)I" } : MethodName)) ∈ am_ws := am_t7 67 rfl rfl
theorem wd_1508 : (Cond.code ({ cls := "NumberedSparksModel", name := "raw", desc := "(II)I" } : MethodName) prog_11_method_39_code (4 : Nat) (Option.some FieldType.int)) ∈ am_ws := am_t7 68 rfl rfl
theorem wd_1509 : (Cond.methodLink "NumberedSparksModel" (284 : Nat) ({ cls := "NumberedSparksModel", name := "world", desc := "(I)I" } : MethodName)) ∈ am_ws := am_t7 69 rfl rfl
theorem wd_1511 : (Cond.instanceMethod ({ cls := "NumberedSparksModel", name := "world", desc := "(I)I" } : MethodName)) ∈ am_ws := am_t7 71 rfl rfl
theorem wd_1512 : (Cond.code ({ cls := "NumberedSparksModel", name := "world", desc := "(I)I" } : MethodName) prog_11_method_41_code (2 : Nat) (Option.some FieldType.int)) ∈ am_ws := am_t7 72 rfl rfl
theorem wd_1513 : (Cond.methodLink "NumberedSparksModel" (315 : Nat) ({ cls := "NumberedSparksModel", name := "laysChild", desc := "(I)V" } : MethodName)) ∈ am_ws := am_t7 73 rfl rfl
theorem wd_1515 : (Cond.instanceMethod ({ cls := "NumberedSparksModel", name := "laysChild", desc := "(I)V" } : MethodName)) ∈ am_ws := am_t7 75 rfl rfl
theorem wd_1516 : (Cond.code ({ cls := "NumberedSparksModel", name := "laysChild", desc := "(I)V" } : MethodName) prog_11_method_46_code (3 : Nat) (Option.none : Option FieldType)) ∈ am_ws := am_t7 76 rfl rfl
theorem wd_1517 : (Cond.methodLink "NumberedSparksModel" (309 : Nat) ({ cls := "NumberedSparksModel", name := "placeBy", desc := "(II)I" } : MethodName)) ∈ am_ws := am_t7 77 rfl rfl
theorem wd_1519 : (Cond.instanceMethod ({ cls := "NumberedSparksModel", name := "placeBy", desc := "(II)I" } : MethodName)) ∈ am_ws := am_t7 79 rfl rfl
theorem wd_1520 : (Cond.code ({ cls := "NumberedSparksModel", name := "placeBy", desc := "(II)I" } : MethodName) prog_11_method_42_code (6 : Nat) (Option.some FieldType.int)) ∈ am_ws := am_t7 80 rfl rfl
theorem wd_1521 : (Cond.methodLink "NumberedSparksModel" (289 : Nat) ({ cls := "java/lang/Math", name := "floorMod", desc := "(II)I" } : MethodName)) ∈ am_ws := am_t7 81 rfl rfl
theorem wd_1522 : (Cond.methodLink "NumberedSparksLaw" (74 : Nat) ({ cls := "NumberedSparksModel", name := "place", desc := "(III)I" } : MethodName)) ∈ am_ws := am_t7 82 rfl rfl
theorem wd_1523 : (Cond.instanceMethod ({ cls := "NumberedSparksModel", name := "place", desc := "(III)I" } : MethodName)) ∈ am_ws := am_t7 83 rfl rfl
theorem wd_1524 : (Cond.selects "NumberedSparksModel" ({ cls := "NumberedSparksModel", name := "place", desc := "(III)I" } : MethodName) ({ cls := "NumberedSparksModel", name := "place", desc := "(III)I" } : MethodName)) ∈ am_ws := am_t7 84 rfl rfl
theorem wd_1525 : (Cond.code ({ cls := "NumberedSparksModel", name := "place", desc := "(III)I" } : MethodName) prog_11_method_57_code (4 : Nat) (Option.some FieldType.int)) ∈ am_ws := am_t7 85 rfl rfl
theorem wd_1526 : (Cond.methodLink "NumberedSparksModel" (338 : Nat) ({ cls := "NumberedSparksModel", name := "isTick", desc := "(I)Z" } : MethodName)) ∈ am_ws := am_t7 86 rfl rfl
theorem wd_1528 : (Cond.instanceMethod ({ cls := "NumberedSparksModel", name := "isTick", desc := "(I)Z" } : MethodName)) ∈ am_ws := am_t7 88 rfl rfl
theorem wd_1529 : (Cond.code ({ cls := "NumberedSparksModel", name := "isTick", desc := "(I)Z" } : MethodName) prog_11_method_56_code (2 : Nat) (Option.some FieldType.boolean)) ∈ am_ws := am_t7 89 rfl rfl
theorem wd_1530 : (Cond.constantLong "NumberedSparksModel" (336 : Nat) (30000 : Int64)) ∈ am_ws := am_t7 90 rfl rfl
theorem wd_1531 : (Cond.constantLong "NumberedSparksModel" (341 : Nat) (2 : Int64)) ∈ am_ws := am_t7 91 rfl rfl
theorem wd_1532 : (Cond.methodLink "NumberedSparksLaw" (78 : Nat) ({ cls := "NumberedSparksModel", name := "size", desc := "(II)I" } : MethodName)) ∈ am_ws := am_t7 92 rfl rfl
theorem wd_1533 : (Cond.instanceMethod ({ cls := "NumberedSparksModel", name := "size", desc := "(II)I" } : MethodName)) ∈ am_ws := am_t7 93 rfl rfl
theorem wd_1534 : (Cond.selects "NumberedSparksModel" ({ cls := "NumberedSparksModel", name := "size", desc := "(II)I" } : MethodName) ({ cls := "NumberedSparksModel", name := "size", desc := "(II)I" } : MethodName)) ∈ am_ws := am_t7 94 rfl rfl
theorem wd_1535 : (Cond.code ({ cls := "NumberedSparksModel", name := "size", desc := "(II)I" } : MethodName) prog_11_method_58_code (3 : Nat) (Option.some FieldType.int)) ∈ am_ws := am_t7 95 rfl rfl
theorem wd_1536 : (Cond.methodLink "NumberedSparksModel" (343 : Nat) ({ cls := "java/lang/Math", name := "max", desc := "(II)I" } : MethodName)) ∈ am_ws := am_t7 96 rfl rfl
theorem wd_1537 : (Cond.methodLink "NumberedSparksLaw" (82 : Nat) ({ cls := "NumberedSparksModel", name := "edges", desc := "(I)I" } : MethodName)) ∈ am_ws := am_t7 97 rfl rfl
theorem wd_1538 : (Cond.instanceMethod ({ cls := "NumberedSparksModel", name := "edges", desc := "(I)I" } : MethodName)) ∈ am_ws := am_t7 98 rfl rfl
theorem wd_1539 : (Cond.selects "NumberedSparksModel" ({ cls := "NumberedSparksModel", name := "edges", desc := "(I)I" } : MethodName) ({ cls := "NumberedSparksModel", name := "edges", desc := "(I)I" } : MethodName)) ∈ am_ws := am_t7 99 rfl rfl
theorem wd_1540 : (Cond.code ({ cls := "NumberedSparksModel", name := "edges", desc := "(I)I" } : MethodName) prog_11_method_60_code (4 : Nat) (Option.some FieldType.int)) ∈ am_ws := am_t7 100 rfl rfl
theorem wd_1541 : (Cond.methodLink "NumberedSparksModel" (352 : Nat) ({ cls := "NumberedSparksModel", name := "overAt", desc := "(I)I" } : MethodName)) ∈ am_ws := am_t7 101 rfl rfl
theorem wd_1543 : (Cond.instanceMethod ({ cls := "NumberedSparksModel", name := "overAt", desc := "(I)I" } : MethodName)) ∈ am_ws := am_t7 103 rfl rfl
theorem wd_1544 : (Cond.code ({ cls := "NumberedSparksModel", name := "overAt", desc := "(I)I" } : MethodName) prog_11_method_59_code (4 : Nat) (Option.some FieldType.int)) ∈ am_ws := am_t7 104 rfl rfl
theorem wd_1545 : (Cond.methodLink "NumberedSparksModel" (346 : Nat) ({ cls := "java/lang/Math", name := "floorDiv", desc := "(II)I" } : MethodName)) ∈ am_ws := am_t7 105 rfl rfl
theorem wd_1546 : (Cond.methodLink "NumberedSparksModel" (349 : Nat) ({ cls := "java/lang/Math", name := "abs", desc := "(I)I" } : MethodName)) ∈ am_ws := am_t7 106 rfl rfl
theorem wd_1547 : (Cond.methodLink "NumberedSparksLaw" (196 : Nat) ({ cls := "NumberedSparksModel", name := "over", desc := "(I)I" } : MethodName)) ∈ am_ws := am_t7 107 rfl rfl
theorem wd_1548 : (Cond.instanceMethod ({ cls := "NumberedSparksModel", name := "over", desc := "(I)I" } : MethodName)) ∈ am_ws := am_t7 108 rfl rfl
theorem wd_1549 : (Cond.selects "NumberedSparksModel" ({ cls := "NumberedSparksModel", name := "over", desc := "(I)I" } : MethodName) ({ cls := "NumberedSparksModel", name := "over", desc := "(I)I" } : MethodName)) ∈ am_ws := am_t7 109 rfl rfl
theorem wd_1550 : (Cond.code ({ cls := "NumberedSparksModel", name := "over", desc := "(I)I" } : MethodName) prog_11_method_61_code (3 : Nat) (Option.some FieldType.int)) ∈ am_ws := am_t7 110 rfl rfl
theorem wd_1551 : (Cond.methodLink "NumberedSparksLaw" (156 : Nat) ({ cls := "NumberedSparksModel", name := "cellsOf", desc := "(I)I" } : MethodName)) ∈ am_ws := am_t7 111 rfl rfl
theorem wd_1552 : (Cond.instanceMethod ({ cls := "NumberedSparksModel", name := "cellsOf", desc := "(I)I" } : MethodName)) ∈ am_ws := am_t7 112 rfl rfl
theorem wd_1553 : (Cond.selects "NumberedSparksModel" ({ cls := "NumberedSparksModel", name := "cellsOf", desc := "(I)I" } : MethodName) ({ cls := "NumberedSparksModel", name := "cellsOf", desc := "(I)I" } : MethodName)) ∈ am_ws := am_t7 113 rfl rfl
theorem wd_1554 : (Cond.code ({ cls := "NumberedSparksModel", name := "cellsOf", desc := "(I)I" } : MethodName) prog_11_method_63_code (6 : Nat) (Option.some FieldType.int)) ∈ am_ws := am_t7 114 rfl rfl
theorem wd_1555 : (Cond.methodLink "NumberedSparksModel" (355 : Nat) ({ cls := "NumberedSparksModel", name := "cellBy", desc := "(I)I" } : MethodName)) ∈ am_ws := am_t7 115 rfl rfl
theorem wd_1557 : (Cond.instanceMethod ({ cls := "NumberedSparksModel", name := "cellBy", desc := "(I)I" } : MethodName)) ∈ am_ws := am_t7 117 rfl rfl
theorem wd_1558 : (Cond.code ({ cls := "NumberedSparksModel", name := "cellBy", desc := "(I)I" } : MethodName) prog_11_method_62_code (2 : Nat) (Option.some FieldType.int)) ∈ am_ws := am_t7 118 rfl rfl
theorem wd_1559 : (Cond.methodLink "NumberedSparksLaw" (160 : Nat) ({ cls := "NumberedSparksModel", name := "meets", desc := "(II)I" } : MethodName)) ∈ am_ws := am_t7 119 rfl rfl
theorem wd_1560 : (Cond.instanceMethod ({ cls := "NumberedSparksModel", name := "meets", desc := "(II)I" } : MethodName)) ∈ am_ws := am_t7 120 rfl rfl
theorem wd_1561 : (Cond.selects "NumberedSparksModel" ({ cls := "NumberedSparksModel", name := "meets", desc := "(II)I" } : MethodName) ({ cls := "NumberedSparksModel", name := "meets", desc := "(II)I" } : MethodName)) ∈ am_ws := am_t7 121 rfl rfl
theorem wd_1562 : (Cond.code ({ cls := "NumberedSparksModel", name := "meets", desc := "(II)I" } : MethodName) prog_11_method_64_code (6 : Nat) (Option.some FieldType.int)) ∈ am_ws := am_t7 122 rfl rfl
theorem wd_1563 : (Cond.methodLink "NumberedSparksLaw" (192 : Nat) ({ cls := "NumberedSparksModel", name := "reach", desc := "(III)I" } : MethodName)) ∈ am_ws := am_t7 123 rfl rfl
theorem wd_1564 : (Cond.instanceMethod ({ cls := "NumberedSparksModel", name := "reach", desc := "(III)I" } : MethodName)) ∈ am_ws := am_t7 124 rfl rfl
theorem wd_1565 : (Cond.selects "NumberedSparksModel" ({ cls := "NumberedSparksModel", name := "reach", desc := "(III)I" } : MethodName) ({ cls := "NumberedSparksModel", name := "reach", desc := "(III)I" } : MethodName)) ∈ am_ws := am_t7 125 rfl rfl
theorem wd_1566 : (Cond.code ({ cls := "NumberedSparksModel", name := "reach", desc := "(III)I" } : MethodName) prog_11_method_65_code (6 : Nat) (Option.some FieldType.int)) ∈ am_ws := am_t7 126 rfl rfl
theorem wd_1567 : (Cond.methodLink "NumberedSparksLaw" (188 : Nat) ({ cls := "NumberedSparksModel", name := "kin", desc := "(II)I" } : MethodName)) ∈ am_ws := am_t7 127 rfl rfl
theorem wd_1568 : (Cond.instanceMethod ({ cls := "NumberedSparksModel", name := "kin", desc := "(II)I" } : MethodName)) ∈ am_ws := am_t7 128 rfl rfl
theorem wd_1569 : (Cond.selects "NumberedSparksModel" ({ cls := "NumberedSparksModel", name := "kin", desc := "(II)I" } : MethodName) ({ cls := "NumberedSparksModel", name := "kin", desc := "(II)I" } : MethodName)) ∈ am_ws := am_t7 129 rfl rfl
theorem wd_1570 : (Cond.code ({ cls := "NumberedSparksModel", name := "kin", desc := "(II)I" } : MethodName) prog_11_method_66_code (3 : Nat) (Option.some FieldType.int)) ∈ am_ws := am_t7 130 rfl rfl
theorem wd_1571 : (Cond.methodLink "NumberedSparksLaw" (136 : Nat) ({ cls := "NumberedSparksModel", name := "line", desc := "(II)I" } : MethodName)) ∈ am_ws := am_t7 131 rfl rfl
theorem wd_1572 : (Cond.instanceMethod ({ cls := "NumberedSparksModel", name := "line", desc := "(II)I" } : MethodName)) ∈ am_ws := am_t7 132 rfl rfl
theorem wd_1573 : (Cond.selects "NumberedSparksModel" ({ cls := "NumberedSparksModel", name := "line", desc := "(II)I" } : MethodName) ({ cls := "NumberedSparksModel", name := "line", desc := "(II)I" } : MethodName)) ∈ am_ws := am_t7 133 rfl rfl
theorem wd_1574 : (Cond.code ({ cls := "NumberedSparksModel", name := "line", desc := "(II)I" } : MethodName) prog_11_method_67_code (8 : Nat) (Option.some FieldType.int)) ∈ am_ws := am_t7 134 rfl rfl
theorem wd_1575 : (Cond.methodLink "NumberedSparksModel" (358 : Nat) ({ cls := "NumberedSparksModel", name := "isFrom", desc := "(II)Z" } : MethodName)) ∈ am_ws := am_t7 135 rfl rfl
theorem wd_1576 : (Cond.static ({ cls := "NumberedSparksModel", name := "isFrom", desc := "(II)Z" } : MethodName)) ∈ am_ws := am_t7 136 rfl rfl
theorem wd_1577 : (Cond.code ({ cls := "NumberedSparksModel", name := "isFrom", desc := "(II)Z" } : MethodName) prog_11_method_68_code (3 : Nat) (Option.some FieldType.boolean)) ∈ am_ws := am_t7 137 rfl rfl
theorem wd_1578 : (Cond.methodLink "NumberedSparksLaw" (94 : Nat) ({ cls := "NumberedSparksModel", name := "many", desc := "(II)I" } : MethodName)) ∈ am_ws := am_t7 138 rfl rfl
theorem wd_1579 : (Cond.instanceMethod ({ cls := "NumberedSparksModel", name := "many", desc := "(II)I" } : MethodName)) ∈ am_ws := am_t7 139 rfl rfl
theorem wd_1580 : (Cond.selects "NumberedSparksModel" ({ cls := "NumberedSparksModel", name := "many", desc := "(II)I" } : MethodName) ({ cls := "NumberedSparksModel", name := "many", desc := "(II)I" } : MethodName)) ∈ am_ws := am_t7 140 rfl rfl
theorem wd_1581 : (Cond.code ({ cls := "NumberedSparksModel", name := "many", desc := "(II)I" } : MethodName) prog_11_method_77_code (5 : Nat) (Option.some FieldType.int)) ∈ am_ws := am_t7 141 rfl rfl
theorem wd_1582 : (Cond.constantLong "NumberedSparksModel" (385 : Nat) (-1 : Int64)) ∈ am_ws := am_t7 142 rfl rfl
theorem wd_1583 : (Cond.methodLink "NumberedSparksModel" (377 : Nat) ({ cls := "NumberedSparksModel", name := "gathers", desc := "(I)V" } : MethodName)) ∈ am_ws := am_t7 143 rfl rfl
theorem wd_1585 : (Cond.instanceMethod ({ cls := "NumberedSparksModel", name := "gathers", desc := "(I)V" } : MethodName)) ∈ am_ws := am_t7 145 rfl rfl
theorem wd_1586 : (Cond.code ({ cls := "NumberedSparksModel", name := "gathers", desc := "(I)V" } : MethodName) prog_11_method_74_code (6 : Nat) (Option.none : Option FieldType)) ∈ am_ws := am_t7 146 rfl rfl
theorem wd_1587 : (Cond.methodLink "NumberedSparksModel" (367 : Nat) ({ cls := "NumberedSparksModel", name := "firstGroup", desc := "(II)I" } : MethodName)) ∈ am_ws := am_t7 147 rfl rfl
theorem wd_1589 : (Cond.instanceMethod ({ cls := "NumberedSparksModel", name := "firstGroup", desc := "(II)I" } : MethodName)) ∈ am_ws := am_t7 149 rfl rfl
theorem wd_1590 : (Cond.code ({ cls := "NumberedSparksModel", name := "firstGroup", desc := "(II)I" } : MethodName) prog_11_method_69_code (4 : Nat) (Option.some FieldType.int)) ∈ am_ws := am_t7 150 rfl rfl
theorem wd_1591 : (Cond.methodLink "NumberedSparksModel" (370 : Nat) ({ cls := "NumberedSparksModel", name := "isGroup", desc := "(III)Z" } : MethodName)) ∈ am_ws := am_t7 151 rfl rfl
theorem wd_1593 : (Cond.instanceMethod ({ cls := "NumberedSparksModel", name := "isGroup", desc := "(III)Z" } : MethodName)) ∈ am_ws := am_t7 153 rfl rfl
theorem wd_1594 : (Cond.code ({ cls := "NumberedSparksModel", name := "isGroup", desc := "(III)Z" } : MethodName) prog_11_method_70_code (4 : Nat) (Option.some FieldType.boolean)) ∈ am_ws := am_t7 154 rfl rfl
theorem wd_1595 : (Cond.methodLink "NumberedSparksModel" (374 : Nat) ({ cls := "NumberedSparksModel", name := "comesLine", desc := "(II)V" } : MethodName)) ∈ am_ws := am_t7 155 rfl rfl
theorem wd_1597 : (Cond.instanceMethod ({ cls := "NumberedSparksModel", name := "comesLine", desc := "(II)V" } : MethodName)) ∈ am_ws := am_t7 157 rfl rfl
theorem wd_1598 : (Cond.code ({ cls := "NumberedSparksModel", name := "comesLine", desc := "(II)V" } : MethodName) prog_11_method_72_code (4 : Nat) (Option.none : Option FieldType)) ∈ am_ws := am_t7 158 rfl rfl
theorem wd_1599 : (Cond.methodLink "NumberedSparksModel" (364 : Nat) ({ cls := "NumberedSparksModel", name := "comes", desc := "(II)V" } : MethodName)) ∈ am_ws := am_t7 159 rfl rfl
theorem wd_1601 : (Cond.instanceMethod ({ cls := "NumberedSparksModel", name := "comes", desc := "(II)V" } : MethodName)) ∈ am_ws := am_t7 161 rfl rfl
theorem wd_1602 : (Cond.code ({ cls := "NumberedSparksModel", name := "comes", desc := "(II)V" } : MethodName) prog_11_method_71_code (3 : Nat) (Option.none : Option FieldType)) ∈ am_ws := am_t7 162 rfl rfl
theorem wd_1603 : (Cond.methodLink "NumberedSparksModel" (387 : Nat) ({ cls := "NumberedSparksModel", name := "codeAt", desc := "(I)I" } : MethodName)) ∈ am_ws := am_t7 163 rfl rfl
theorem wd_1605 : (Cond.instanceMethod ({ cls := "NumberedSparksModel", name := "codeAt", desc := "(I)I" } : MethodName)) ∈ am_ws := am_t7 165 rfl rfl
theorem wd_1606 : (Cond.code ({ cls := "NumberedSparksModel", name := "codeAt", desc := "(I)I" } : MethodName) prog_11_method_76_code (2 : Nat) (Option.some FieldType.int)) ∈ am_ws := am_t7 166 rfl rfl
theorem wd_1607 : (Cond.constantLong "NumberedSparksModel" (383 : Nat) (2147483647 : Int64)) ∈ am_ws := am_t7 167 rfl rfl
theorem wd_1608 : (Cond.methodLink "NumberedSparksLaw" (98 : Nat) ({ cls := "NumberedSparksModel", name := "drawn", desc := "(II)I" } : MethodName)) ∈ am_ws := am_t7 168 rfl rfl
theorem wd_1609 : (Cond.instanceMethod ({ cls := "NumberedSparksModel", name := "drawn", desc := "(II)I" } : MethodName)) ∈ am_ws := am_t7 169 rfl rfl
theorem wd_1610 : (Cond.selects "NumberedSparksModel" ({ cls := "NumberedSparksModel", name := "drawn", desc := "(II)I" } : MethodName) ({ cls := "NumberedSparksModel", name := "drawn", desc := "(II)I" } : MethodName)) ∈ am_ws := am_t7 170 rfl rfl
theorem wd_1611 : (Cond.code ({ cls := "NumberedSparksModel", name := "drawn", desc := "(II)I" } : MethodName) prog_11_method_78_code (3 : Nat) (Option.some FieldType.int)) ∈ am_ws := am_t7 171 rfl rfl
theorem wd_1612 : (Cond.methodLink "NumberedSparksModel" (390 : Nat) ({ cls := "NumberedSparksModel", name := "laysFrame", desc := "(I)V" } : MethodName)) ∈ am_ws := am_t7 172 rfl rfl
theorem wd_1614 : (Cond.instanceMethod ({ cls := "NumberedSparksModel", name := "laysFrame", desc := "(I)V" } : MethodName)) ∈ am_ws := am_t7 174 rfl rfl
theorem wd_1615 : (Cond.code ({ cls := "NumberedSparksModel", name := "laysFrame", desc := "(I)V" } : MethodName) prog_11_method_75_code (2 : Nat) (Option.none : Option FieldType)) ∈ am_ws := am_t7 175 rfl rfl
theorem wd_1616 : (Cond.methodLink "NumberedSparksModel" (380 : Nat) ({ cls := "NumberedSparksModel", name := "sorts", desc := "()V" } : MethodName)) ∈ am_ws := am_t7 176 rfl rfl
theorem wd_1618 : (Cond.instanceMethod ({ cls := "NumberedSparksModel", name := "sorts", desc := "()V" } : MethodName)) ∈ am_ws := am_t7 178 rfl rfl
theorem wd_1619 : (Cond.code ({ cls := "NumberedSparksModel", name := "sorts", desc := "()V" } : MethodName) prog_11_method_73_code (6 : Nat) (Option.none : Option FieldType)) ∈ am_ws := am_t7 179 rfl rfl
theorem wd_1620 : (Cond.methodLink "NumberedSparksLaw" (103 : Nat) ({ cls := "NumberedSparksModel", name := "digest", desc := "(I)J" } : MethodName)) ∈ am_ws := am_t7 180 rfl rfl
theorem wd_1621 : (Cond.instanceMethod ({ cls := "NumberedSparksModel", name := "digest", desc := "(I)J" } : MethodName)) ∈ am_ws := am_t7 181 rfl rfl
theorem wd_1622 : (Cond.selects "NumberedSparksModel" ({ cls := "NumberedSparksModel", name := "digest", desc := "(I)J" } : MethodName) ({ cls := "NumberedSparksModel", name := "digest", desc := "(I)J" } : MethodName)) ∈ am_ws := am_t7 182 rfl rfl
theorem wd_1623 : (Cond.code ({ cls := "NumberedSparksModel", name := "digest", desc := "(I)J" } : MethodName) prog_11_method_80_code (6 : Nat) (Option.some FieldType.long)) ∈ am_ws := am_t7 183 rfl rfl
theorem wd_1624 : (Cond.constantLong "NumberedSparksModel" (393 : Nat) (17 : Int64)) ∈ am_ws := am_t7 184 rfl rfl
theorem wd_1625 : (Cond.constantLong "NumberedSparksModel" (395 : Nat) (31 : Int64)) ∈ am_ws := am_t7 185 rfl rfl
theorem wd_1626 : (Cond.methodLink "NumberedSparksLaw" (107 : Nat) ({ cls := "NumberedSparksModel", name := "inColumn", desc := "(III)I" } : MethodName)) ∈ am_ws := am_t7 186 rfl rfl
theorem wd_1627 : (Cond.instanceMethod ({ cls := "NumberedSparksModel", name := "inColumn", desc := "(III)I" } : MethodName)) ∈ am_ws := am_t7 187 rfl rfl
theorem wd_1628 : (Cond.selects "NumberedSparksModel" ({ cls := "NumberedSparksModel", name := "inColumn", desc := "(III)I" } : MethodName) ({ cls := "NumberedSparksModel", name := "inColumn", desc := "(III)I" } : MethodName)) ∈ am_ws := am_t7 188 rfl rfl
theorem wd_1629 : (Cond.code ({ cls := "NumberedSparksModel", name := "inColumn", desc := "(III)I" } : MethodName) prog_11_method_83_code (6 : Nat) (Option.some FieldType.int)) ∈ am_ws := am_t7 189 rfl rfl
theorem wd_1630 : (Cond.methodLink "NumberedSparksModel" (397 : Nat) ({ cls := "NumberedSparksModel", name := "isColumn", desc := "(II)Z" } : MethodName)) ∈ am_ws := am_t7 190 rfl rfl
theorem wd_1632 : (Cond.instanceMethod ({ cls := "NumberedSparksModel", name := "isColumn", desc := "(II)Z" } : MethodName)) ∈ am_ws := am_t7 192 rfl rfl
theorem wd_1633 : (Cond.code ({ cls := "NumberedSparksModel", name := "isColumn", desc := "(II)Z" } : MethodName) prog_11_method_81_code (3 : Nat) (Option.some FieldType.boolean)) ∈ am_ws := am_t7 193 rfl rfl
theorem wd_1634 : (Cond.methodLink "NumberedSparksModel" (400 : Nat) ({ cls := "NumberedSparksModel", name := "laysColumns", desc := "(I)V" } : MethodName)) ∈ am_ws := am_t7 194 rfl rfl
theorem wd_1636 : (Cond.instanceMethod ({ cls := "NumberedSparksModel", name := "laysColumns", desc := "(I)V" } : MethodName)) ∈ am_ws := am_t7 196 rfl rfl
theorem wd_1637 : (Cond.code ({ cls := "NumberedSparksModel", name := "laysColumns", desc := "(I)V" } : MethodName) prog_11_method_82_code (3 : Nat) (Option.none : Option FieldType)) ∈ am_ws := am_t7 197 rfl rfl
theorem wd_1638 : (Cond.methodLink "NumberedSparksLaw" (111 : Nat) ({ cls := "NumberedSparksModel", name := "top", desc := "(III)I" } : MethodName)) ∈ am_ws := am_t7 198 rfl rfl
theorem wd_1639 : (Cond.instanceMethod ({ cls := "NumberedSparksModel", name := "top", desc := "(III)I" } : MethodName)) ∈ am_ws := am_t7 199 rfl rfl
theorem wd_1640 : (Cond.selects "NumberedSparksModel" ({ cls := "NumberedSparksModel", name := "top", desc := "(III)I" } : MethodName) ({ cls := "NumberedSparksModel", name := "top", desc := "(III)I" } : MethodName)) ∈ am_ws := am_t7 200 rfl rfl
theorem wd_1641 : (Cond.code ({ cls := "NumberedSparksModel", name := "top", desc := "(III)I" } : MethodName) prog_11_method_85_code (5 : Nat) (Option.some FieldType.int)) ∈ am_ws := am_t7 201 rfl rfl
theorem wd_1642 : (Cond.methodLink "NumberedSparksModel" (403 : Nat) ({ cls := "NumberedSparksModel", name := "topOf", desc := "(II)I" } : MethodName)) ∈ am_ws := am_t7 202 rfl rfl
theorem wd_1644 : (Cond.instanceMethod ({ cls := "NumberedSparksModel", name := "topOf", desc := "(II)I" } : MethodName)) ∈ am_ws := am_t7 204 rfl rfl
theorem wd_1645 : (Cond.code ({ cls := "NumberedSparksModel", name := "topOf", desc := "(II)I" } : MethodName) prog_11_method_84_code (5 : Nat) (Option.some FieldType.int)) ∈ am_ws := am_t7 205 rfl rfl
theorem wd_1646 : (Cond.methodLink "NumberedSparksLaw" (115 : Nat) ({ cls := "NumberedSparksModel", name := "fullest", desc := "(II)I" } : MethodName)) ∈ am_ws := am_t7 206 rfl rfl
theorem wd_1647 : (Cond.instanceMethod ({ cls := "NumberedSparksModel", name := "fullest", desc := "(II)I" } : MethodName)) ∈ am_ws := am_t7 207 rfl rfl
theorem wd_1648 : (Cond.selects "NumberedSparksModel" ({ cls := "NumberedSparksModel", name := "fullest", desc := "(II)I" } : MethodName) ({ cls := "NumberedSparksModel", name := "fullest", desc := "(II)I" } : MethodName)) ∈ am_ws := am_t7 208 rfl rfl
theorem wd_1649 : (Cond.code ({ cls := "NumberedSparksModel", name := "fullest", desc := "(II)I" } : MethodName) prog_11_method_86_code (5 : Nat) (Option.some FieldType.int)) ∈ am_ws := am_t7 209 rfl rfl
theorem wd_1650 : (Cond.methodLink "NumberedSparksLaw" (120 : Nat) ({ cls := "NumberedSparksModel", name := "nearest", desc := "(IIII)I" } : MethodName)) ∈ am_ws := am_t7 210 rfl rfl
theorem wd_1651 : (Cond.instanceMethod ({ cls := "NumberedSparksModel", name := "nearest", desc := "(IIII)I" } : MethodName)) ∈ am_ws := am_t7 211 rfl rfl
theorem wd_1652 : (Cond.selects "NumberedSparksModel" ({ cls := "NumberedSparksModel", name := "nearest", desc := "(IIII)I" } : MethodName) ({ cls := "NumberedSparksModel", name := "nearest", desc := "(IIII)I" } : MethodName)) ∈ am_ws := am_t7 212 rfl rfl
theorem wd_1653 : (Cond.code ({ cls := "NumberedSparksModel", name := "nearest", desc := "(IIII)I" } : MethodName) prog_11_method_89_code (12 : Nat) (Option.some FieldType.int)) ∈ am_ws := am_t7 213 rfl rfl
theorem wd_1654 : (Cond.methodLink "NumberedSparksModel" (408 : Nat) ({ cls := "NumberedSparksModel", name := "isCell", desc := "(III)Z" } : MethodName)) ∈ am_ws := am_t7 214 rfl rfl
theorem wd_1656 : (Cond.instanceMethod ({ cls := "NumberedSparksModel", name := "isCell", desc := "(III)Z" } : MethodName)) ∈ am_ws := am_t7 216 rfl rfl
theorem wd_1657 : (Cond.code ({ cls := "NumberedSparksModel", name := "isCell", desc := "(III)Z" } : MethodName) prog_11_method_87_code (4 : Nat) (Option.some FieldType.boolean)) ∈ am_ws := am_t7 217 rfl rfl
theorem wd_1658 : (Cond.methodLink "NumberedSparksModel" (411 : Nat) ({ cls := "NumberedSparksModel", name := "squares", desc := "(IIIII)J" } : MethodName)) ∈ am_ws := am_t7 218 rfl rfl
theorem wd_1660 : (Cond.instanceMethod ({ cls := "NumberedSparksModel", name := "squares", desc := "(IIIII)J" } : MethodName)) ∈ am_ws := am_t7 220 rfl rfl
theorem wd_1661 : (Cond.code ({ cls := "NumberedSparksModel", name := "squares", desc := "(IIIII)J" } : MethodName) prog_11_method_88_code (12 : Nat) (Option.some FieldType.long)) ∈ am_ws := am_t7 221 rfl rfl
theorem wd_1662 : (Cond.constantLong "NumberedSparksModel" (406 : Nat) (8 : Int64)) ∈ am_ws := am_t7 222 rfl rfl
theorem wd_1663 : (Cond.methodLink "NumberedSparksLaw" (180 : Nat) ({ cls := "NumberedSparksModel", name := "within", desc := "(IIIII)I" } : MethodName)) ∈ am_ws := am_t7 223 rfl rfl
theorem wd_1664 : (Cond.instanceMethod ({ cls := "NumberedSparksModel", name := "within", desc := "(IIIII)I" } : MethodName)) ∈ am_ws := am_t7 224 rfl rfl
theorem wd_1665 : (Cond.selects "NumberedSparksModel" ({ cls := "NumberedSparksModel", name := "within", desc := "(IIIII)I" } : MethodName) ({ cls := "NumberedSparksModel", name := "within", desc := "(IIIII)I" } : MethodName)) ∈ am_ws := am_t7 225 rfl rfl
theorem wd_1666 : (Cond.code ({ cls := "NumberedSparksModel", name := "within", desc := "(IIIII)I" } : MethodName) prog_11_method_90_code (8 : Nat) (Option.some FieldType.int)) ∈ am_ws := am_t7 226 rfl rfl
theorem wd_1667 : (Cond.constantLong "NumberedSparksModel" (415 : Nat) (600 : Int64)) ∈ am_ws := am_t7 227 rfl rfl
theorem wd_1668 : (Cond.methodLink "NumberedSparksLaw" (124 : Nat) ({ cls := "NumberedSparksModel", name := "twos", desc := "(I)J" } : MethodName)) ∈ am_ws := am_t7 228 rfl rfl
theorem wd_1669 : (Cond.instanceMethod ({ cls := "NumberedSparksModel", name := "twos", desc := "(I)J" } : MethodName)) ∈ am_ws := am_t7 229 rfl rfl
theorem wd_1670 : (Cond.selects "NumberedSparksModel" ({ cls := "NumberedSparksModel", name := "twos", desc := "(I)J" } : MethodName) ({ cls := "NumberedSparksModel", name := "twos", desc := "(I)J" } : MethodName)) ∈ am_ws := am_t7 230 rfl rfl
theorem wd_1671 : (Cond.code ({ cls := "NumberedSparksModel", name := "twos", desc := "(I)J" } : MethodName) prog_11_method_92_code (5 : Nat) (Option.some FieldType.long)) ∈ am_ws := am_t7 231 rfl rfl
theorem wd_1672 : (Cond.constantLong "NumberedSparksModel" (420 : Nat) (-2 : Int64)) ∈ am_ws := am_t7 232 rfl rfl
theorem wd_1673 : (Cond.methodLink "NumberedSparksModel" (422 : Nat) ({ cls := "NumberedSparksModel", name := "laysHeaps", desc := "(I)V" } : MethodName)) ∈ am_ws := am_t7 233 rfl rfl
theorem wd_1675 : (Cond.instanceMethod ({ cls := "NumberedSparksModel", name := "laysHeaps", desc := "(I)V" } : MethodName)) ∈ am_ws := am_t7 235 rfl rfl
theorem wd_1676 : (Cond.code ({ cls := "NumberedSparksModel", name := "laysHeaps", desc := "(I)V" } : MethodName) prog_11_method_91_code (3 : Nat) (Option.none : Option FieldType)) ∈ am_ws := am_t7 236 rfl rfl
theorem wd_1677 : (Cond.methodLink "NumberedSparksModel" (417 : Nat) ({ cls := "NumberedSparksModel", name := "placeAt", desc := "(III)I" } : MethodName)) ∈ am_ws := am_t7 237 rfl rfl
theorem wd_1679 : (Cond.instanceMethod ({ cls := "NumberedSparksModel", name := "placeAt", desc := "(III)I" } : MethodName)) ∈ am_ws := am_t7 239 rfl rfl
theorem wd_1680 : (Cond.code ({ cls := "NumberedSparksModel", name := "placeAt", desc := "(III)I" } : MethodName) prog_11_method_79_code (4 : Nat) (Option.some FieldType.int)) ∈ am_ws := am_t8 0 rfl rfl
theorem wd_1681 : (Cond.methodLink "NumberedSparksLaw" (128 : Nat) ({ cls := "NumberedSparksModel", name := "firstIn", desc := "(III)I" } : MethodName)) ∈ am_ws := am_t8 1 rfl rfl
theorem wd_1682 : (Cond.instanceMethod ({ cls := "NumberedSparksModel", name := "firstIn", desc := "(III)I" } : MethodName)) ∈ am_ws := am_t8 2 rfl rfl
theorem wd_1683 : (Cond.selects "NumberedSparksModel" ({ cls := "NumberedSparksModel", name := "firstIn", desc := "(III)I" } : MethodName) ({ cls := "NumberedSparksModel", name := "firstIn", desc := "(III)I" } : MethodName)) ∈ am_ws := am_t8 3 rfl rfl
theorem wd_1684 : (Cond.code ({ cls := "NumberedSparksModel", name := "firstIn", desc := "(III)I" } : MethodName) prog_11_method_93_code (5 : Nat) (Option.some FieldType.int)) ∈ am_ws := am_t8 4 rfl rfl
theorem wd_1685 : (Cond.methodLink "NumberedSparksModel" (425 : Nat) ({ cls := "NumberedSparksModel", name := "inColumn", desc := "(III)I" } : MethodName)) ∈ am_ws := am_t8 5 rfl rfl
theorem wd_1686 : (Cond.methodLink "NumberedSparksLaw" (132 : Nat) ({ cls := "NumberedSparksModel", name := "peak", desc := "(III)I" } : MethodName)) ∈ am_ws := am_t8 6 rfl rfl
theorem wd_1687 : (Cond.instanceMethod ({ cls := "NumberedSparksModel", name := "peak", desc := "(III)I" } : MethodName)) ∈ am_ws := am_t8 7 rfl rfl
theorem wd_1688 : (Cond.selects "NumberedSparksModel" ({ cls := "NumberedSparksModel", name := "peak", desc := "(III)I" } : MethodName) ({ cls := "NumberedSparksModel", name := "peak", desc := "(III)I" } : MethodName)) ∈ am_ws := am_t8 8 rfl rfl
theorem wd_1689 : (Cond.code ({ cls := "NumberedSparksModel", name := "peak", desc := "(III)I" } : MethodName) prog_11_method_94_code (7 : Nat) (Option.some FieldType.int)) ∈ am_ws := am_t8 9 rfl rfl
theorem wd_1690 : (Cond.constantLong "NumberedSparksModel" (428 : Nat) (30001 : Int64)) ∈ am_ws := am_t8 10 rfl rfl
theorem wd_1691 : (Cond.constantLong "NumberedSparksModel" (430 : Nat) (60 : Int64)) ∈ am_ws := am_t8 11 rfl rfl
theorem wd_1692 : (Cond.methodLink "NumberedSparksLaw" (140 : Nat) ({ cls := "NumberedSparksModel", name := "box", desc := "(II)I" } : MethodName)) ∈ am_ws := am_t8 12 rfl rfl
theorem wd_1693 : (Cond.instanceMethod ({ cls := "NumberedSparksModel", name := "box", desc := "(II)I" } : MethodName)) ∈ am_ws := am_t8 13 rfl rfl
theorem wd_1694 : (Cond.selects "NumberedSparksModel" ({ cls := "NumberedSparksModel", name := "box", desc := "(II)I" } : MethodName) ({ cls := "NumberedSparksModel", name := "box", desc := "(II)I" } : MethodName)) ∈ am_ws := am_t8 14 rfl rfl
theorem wd_1695 : (Cond.code ({ cls := "NumberedSparksModel", name := "box", desc := "(II)I" } : MethodName) prog_11_method_95_code (6 : Nat) (Option.some FieldType.int)) ∈ am_ws := am_t8 15 rfl rfl
theorem wd_1696 : (Cond.constantLong "NumberedSparksModel" (432 : Nat) (5 : Int64)) ∈ am_ws := am_t8 16 rfl rfl
theorem wd_1697 : (Cond.methodLink "NumberedSparksLaw" (144 : Nat) ({ cls := "NumberedSparksModel", name := "middle", desc := "(II)I" } : MethodName)) ∈ am_ws := am_t8 17 rfl rfl
theorem wd_1698 : (Cond.instanceMethod ({ cls := "NumberedSparksModel", name := "middle", desc := "(II)I" } : MethodName)) ∈ am_ws := am_t8 18 rfl rfl
theorem wd_1699 : (Cond.selects "NumberedSparksModel" ({ cls := "NumberedSparksModel", name := "middle", desc := "(II)I" } : MethodName) ({ cls := "NumberedSparksModel", name := "middle", desc := "(II)I" } : MethodName)) ∈ am_ws := am_t8 19 rfl rfl
theorem wd_1700 : (Cond.code ({ cls := "NumberedSparksModel", name := "middle", desc := "(II)I" } : MethodName) prog_11_method_96_code (6 : Nat) (Option.some FieldType.int)) ∈ am_ws := am_t8 20 rfl rfl
theorem wd_1701 : (Cond.methodLink "NumberedSparksLaw" (176 : Nat) ({ cls := "NumberedSparksModel", name := "both", desc := "(II)I" } : MethodName)) ∈ am_ws := am_t8 21 rfl rfl
theorem wd_1702 : (Cond.instanceMethod ({ cls := "NumberedSparksModel", name := "both", desc := "(II)I" } : MethodName)) ∈ am_ws := am_t8 22 rfl rfl
theorem wd_1703 : (Cond.selects "NumberedSparksModel" ({ cls := "NumberedSparksModel", name := "both", desc := "(II)I" } : MethodName) ({ cls := "NumberedSparksModel", name := "both", desc := "(II)I" } : MethodName)) ∈ am_ws := am_t8 23 rfl rfl
theorem wd_1704 : (Cond.code ({ cls := "NumberedSparksModel", name := "both", desc := "(II)I" } : MethodName) prog_11_method_97_code (5 : Nat) (Option.some FieldType.int)) ∈ am_ws := am_t8 24 rfl rfl
theorem wd_1705 : (Cond.methodLink "NumberedSparksLaw" (184 : Nat) ({ cls := "NumberedSparksModel", name := "ofAge", desc := "(III)I" } : MethodName)) ∈ am_ws := am_t8 25 rfl rfl
theorem wd_1706 : (Cond.instanceMethod ({ cls := "NumberedSparksModel", name := "ofAge", desc := "(III)I" } : MethodName)) ∈ am_ws := am_t8 26 rfl rfl
theorem wd_1707 : (Cond.selects "NumberedSparksModel" ({ cls := "NumberedSparksModel", name := "ofAge", desc := "(III)I" } : MethodName) ({ cls := "NumberedSparksModel", name := "ofAge", desc := "(III)I" } : MethodName)) ∈ am_ws := am_t8 27 rfl rfl
theorem wd_1708 : (Cond.code ({ cls := "NumberedSparksModel", name := "ofAge", desc := "(III)I" } : MethodName) prog_11_method_98_code (10 : Nat) (Option.some FieldType.int)) ∈ am_ws := am_t8 28 rfl rfl
theorem wd_1709 : (Cond.methodLink "NumberedSparksLaw" (200 : Nat) ({ cls := "NumberedSparksModel", name := "flux", desc := "(IIII)I" } : MethodName)) ∈ am_ws := am_t8 29 rfl rfl
theorem wd_1710 : (Cond.instanceMethod ({ cls := "NumberedSparksModel", name := "flux", desc := "(IIII)I" } : MethodName)) ∈ am_ws := am_t8 30 rfl rfl
theorem wd_1711 : (Cond.selects "NumberedSparksModel" ({ cls := "NumberedSparksModel", name := "flux", desc := "(IIII)I" } : MethodName) ({ cls := "NumberedSparksModel", name := "flux", desc := "(IIII)I" } : MethodName)) ∈ am_ws := am_t8 31 rfl rfl
theorem wd_1712 : (Cond.code ({ cls := "NumberedSparksModel", name := "flux", desc := "(IIII)I" } : MethodName) prog_11_method_99_code (10 : Nat) (Option.some FieldType.int)) ∈ am_ws := am_t8 32 rfl rfl
theorem wd_1713 : (Cond.methodLink "NumberedSparksLaw" (216 : Nat) ({ cls := "NumberedSparksModel", name := "colours", desc := "(II)I" } : MethodName)) ∈ am_ws := am_t8 33 rfl rfl
theorem wd_1714 : (Cond.instanceMethod ({ cls := "NumberedSparksModel", name := "colours", desc := "(II)I" } : MethodName)) ∈ am_ws := am_t8 34 rfl rfl
theorem wd_1715 : (Cond.selects "NumberedSparksModel" ({ cls := "NumberedSparksModel", name := "colours", desc := "(II)I" } : MethodName) ({ cls := "NumberedSparksModel", name := "colours", desc := "(II)I" } : MethodName)) ∈ am_ws := am_t8 35 rfl rfl
theorem wd_1716 : (Cond.code ({ cls := "NumberedSparksModel", name := "colours", desc := "(II)I" } : MethodName) prog_11_method_100_code (5 : Nat) (Option.some FieldType.int)) ∈ am_ws := am_t8 36 rfl rfl
theorem wd_1717 : (Cond.methodLink "NumberedSparksLaw" (220 : Nat) ({ cls := "NumberedSparksModel", name := "columns", desc := "(I)I" } : MethodName)) ∈ am_ws := am_t8 37 rfl rfl
theorem wd_1718 : (Cond.instanceMethod ({ cls := "NumberedSparksModel", name := "columns", desc := "(I)I" } : MethodName)) ∈ am_ws := am_t8 38 rfl rfl
theorem wd_1719 : (Cond.selects "NumberedSparksModel" ({ cls := "NumberedSparksModel", name := "columns", desc := "(I)I" } : MethodName) ({ cls := "NumberedSparksModel", name := "columns", desc := "(I)I" } : MethodName)) ∈ am_ws := am_t8 39 rfl rfl
theorem wd_1720 : (Cond.code ({ cls := "NumberedSparksModel", name := "columns", desc := "(I)I" } : MethodName) prog_11_method_101_code (4 : Nat) (Option.some FieldType.int)) ∈ am_ws := am_t8 40 rfl rfl
theorem wd_1721 : (Cond.methodLink "NumberedSparksLaw" (224 : Nat) ({ cls := "NumberedSparksModel", name := "below", desc := "(IIII)I" } : MethodName)) ∈ am_ws := am_t8 41 rfl rfl
theorem wd_1722 : (Cond.instanceMethod ({ cls := "NumberedSparksModel", name := "below", desc := "(IIII)I" } : MethodName)) ∈ am_ws := am_t8 42 rfl rfl
theorem wd_1723 : (Cond.selects "NumberedSparksModel" ({ cls := "NumberedSparksModel", name := "below", desc := "(IIII)I" } : MethodName) ({ cls := "NumberedSparksModel", name := "below", desc := "(IIII)I" } : MethodName)) ∈ am_ws := am_t8 43 rfl rfl
theorem wd_1724 : (Cond.code ({ cls := "NumberedSparksModel", name := "below", desc := "(IIII)I" } : MethodName) prog_11_method_102_code (7 : Nat) (Option.some FieldType.int)) ∈ am_ws := am_t8 44 rfl rfl
theorem wd_1725 : (Cond.methodLink "NumberedSparksLaw" (236 : Nat) ({ cls := "NumberedSparksModel", name := "twins", desc := "(I)I" } : MethodName)) ∈ am_ws := am_t8 45 rfl rfl
theorem wd_1726 : (Cond.instanceMethod ({ cls := "NumberedSparksModel", name := "twins", desc := "(I)I" } : MethodName)) ∈ am_ws := am_t8 46 rfl rfl
theorem wd_1727 : (Cond.selects "NumberedSparksModel" ({ cls := "NumberedSparksModel", name := "twins", desc := "(I)I" } : MethodName) ({ cls := "NumberedSparksModel", name := "twins", desc := "(I)I" } : MethodName)) ∈ am_ws := am_t8 47 rfl rfl
theorem wd_1728 : (Cond.code ({ cls := "NumberedSparksModel", name := "twins", desc := "(I)I" } : MethodName) prog_11_method_103_code (8 : Nat) (Option.some FieldType.int)) ∈ am_ws := am_t8 48 rfl rfl
theorem wd_1729 : (Cond.methodLink "NumberedSparksLaw" (86 : Nat) ({ cls := "NumberedSparksModel", name := "births", desc := "(III)I" } : MethodName)) ∈ am_ws := am_t8 49 rfl rfl
theorem wd_1730 : (Cond.instanceMethod ({ cls := "NumberedSparksModel", name := "births", desc := "(III)I" } : MethodName)) ∈ am_ws := am_t8 50 rfl rfl
theorem wd_1731 : (Cond.selects "NumberedSparksModel" ({ cls := "NumberedSparksModel", name := "births", desc := "(III)I" } : MethodName) ({ cls := "NumberedSparksModel", name := "births", desc := "(III)I" } : MethodName)) ∈ am_ws := am_t8 51 rfl rfl
theorem wd_1732 : (Cond.code ({ cls := "NumberedSparksModel", name := "births", desc := "(III)I" } : MethodName) prog_11_method_106_code (6 : Nat) (Option.some FieldType.int)) ∈ am_ws := am_t8 52 rfl rfl
theorem wd_1733 : (Cond.methodLink "NumberedSparksModel" (434 : Nat) ({ cls := "NumberedSparksModel", name := "isSpan", desc := "(III)Z" } : MethodName)) ∈ am_ws := am_t8 53 rfl rfl
theorem wd_1735 : (Cond.instanceMethod ({ cls := "NumberedSparksModel", name := "isSpan", desc := "(III)Z" } : MethodName)) ∈ am_ws := am_t8 55 rfl rfl
theorem wd_1736 : (Cond.code ({ cls := "NumberedSparksModel", name := "isSpan", desc := "(III)Z" } : MethodName) prog_11_method_104_code (4 : Nat) (Option.some FieldType.boolean)) ∈ am_ws := am_t8 56 rfl rfl
theorem wd_1737 : (Cond.methodLink "NumberedSparksModel" (437 : Nat) ({ cls := "NumberedSparksModel", name := "bornOf", desc := "(I)I" } : MethodName)) ∈ am_ws := am_t8 57 rfl rfl
theorem wd_1739 : (Cond.instanceMethod ({ cls := "NumberedSparksModel", name := "bornOf", desc := "(I)I" } : MethodName)) ∈ am_ws := am_t8 59 rfl rfl
theorem wd_1740 : (Cond.code ({ cls := "NumberedSparksModel", name := "bornOf", desc := "(I)I" } : MethodName) prog_11_method_105_code (4 : Nat) (Option.some FieldType.int)) ∈ am_ws := am_t8 60 rfl rfl
theorem wd_1741 : (Cond.methodLink "NumberedSparksLaw" (90 : Nat) ({ cls := "NumberedSparksModel", name := "endings", desc := "(II)I" } : MethodName)) ∈ am_ws := am_t8 61 rfl rfl
theorem wd_1742 : (Cond.instanceMethod ({ cls := "NumberedSparksModel", name := "endings", desc := "(II)I" } : MethodName)) ∈ am_ws := am_t8 62 rfl rfl
theorem wd_1743 : (Cond.selects "NumberedSparksModel" ({ cls := "NumberedSparksModel", name := "endings", desc := "(II)I" } : MethodName) ({ cls := "NumberedSparksModel", name := "endings", desc := "(II)I" } : MethodName)) ∈ am_ws := am_t8 63 rfl rfl
theorem wd_1744 : (Cond.code ({ cls := "NumberedSparksModel", name := "endings", desc := "(II)I" } : MethodName) prog_11_method_107_code (8 : Nat) (Option.some FieldType.int)) ∈ am_ws := am_t8 64 rfl rfl
theorem wd_1745 : (Cond.methodLink "NumberedSparksModel" (440 : Nat) ({ cls := "NumberedSparksModel", name := "endingsOf", desc := "(III)I" } : MethodName)) ∈ am_ws := am_t8 65 rfl rfl
theorem wd_1747 : (Cond.instanceMethod ({ cls := "NumberedSparksModel", name := "endingsOf", desc := "(III)I" } : MethodName)) ∈ am_ws := am_t8 67 rfl rfl
theorem wd_1748 : (Cond.code ({ cls := "NumberedSparksModel", name := "endingsOf", desc := "(III)I" } : MethodName) prog_11_method_108_code (6 : Nat) (Option.some FieldType.int)) ∈ am_ws := am_t8 68 rfl rfl
theorem wd_1749 : (Cond.methodLink "NumberedSparksLaw" (164 : Nat) ({ cls := "NumberedSparksModel", name := "bornAs", desc := "(II)I" } : MethodName)) ∈ am_ws := am_t8 69 rfl rfl
theorem wd_1750 : (Cond.instanceMethod ({ cls := "NumberedSparksModel", name := "bornAs", desc := "(II)I" } : MethodName)) ∈ am_ws := am_t8 70 rfl rfl
theorem wd_1751 : (Cond.selects "NumberedSparksModel" ({ cls := "NumberedSparksModel", name := "bornAs", desc := "(II)I" } : MethodName) ({ cls := "NumberedSparksModel", name := "bornAs", desc := "(II)I" } : MethodName)) ∈ am_ws := am_t8 71 rfl rfl
theorem wd_1752 : (Cond.code ({ cls := "NumberedSparksModel", name := "bornAs", desc := "(II)I" } : MethodName) prog_11_method_111_code (6 : Nat) (Option.some FieldType.int)) ∈ am_ws := am_t8 72 rfl rfl
theorem wd_1753 : (Cond.methodLink "NumberedSparksModel" (446 : Nat) ({ cls := "NumberedSparksModel", name := "lastBirth", desc := "(I)I" } : MethodName)) ∈ am_ws := am_t8 73 rfl rfl
theorem wd_1755 : (Cond.instanceMethod ({ cls := "NumberedSparksModel", name := "lastBirth", desc := "(I)I" } : MethodName)) ∈ am_ws := am_t8 75 rfl rfl
theorem wd_1756 : (Cond.code ({ cls := "NumberedSparksModel", name := "lastBirth", desc := "(I)I" } : MethodName) prog_11_method_110_code (2 : Nat) (Option.some FieldType.int)) ∈ am_ws := am_t8 76 rfl rfl
theorem wd_1757 : (Cond.methodLink "NumberedSparksModel" (449 : Nat) ({ cls := "NumberedSparksModel", name := "bornIn", desc := "(IIIZ)I" } : MethodName)) ∈ am_ws := am_t8 77 rfl rfl
theorem wd_1759 : (Cond.instanceMethod ({ cls := "NumberedSparksModel", name := "bornIn", desc := "(IIIZ)I" } : MethodName)) ∈ am_ws := am_t8 79 rfl rfl
theorem wd_1760 : (Cond.code ({ cls := "NumberedSparksModel", name := "bornIn", desc := "(IIIZ)I" } : MethodName) prog_11_method_109_code (12 : Nat) (Option.some FieldType.int)) ∈ am_ws := am_t8 80 rfl rfl
theorem wd_1761 : (Cond.methodLink "NumberedSparksLaw" (168 : Nat) ({ cls := "NumberedSparksModel", name := "latest", desc := "(II)I" } : MethodName)) ∈ am_ws := am_t8 81 rfl rfl
theorem wd_1762 : (Cond.instanceMethod ({ cls := "NumberedSparksModel", name := "latest", desc := "(II)I" } : MethodName)) ∈ am_ws := am_t8 82 rfl rfl
theorem wd_1763 : (Cond.selects "NumberedSparksModel" ({ cls := "NumberedSparksModel", name := "latest", desc := "(II)I" } : MethodName) ({ cls := "NumberedSparksModel", name := "latest", desc := "(II)I" } : MethodName)) ∈ am_ws := am_t8 83 rfl rfl
theorem wd_1764 : (Cond.code ({ cls := "NumberedSparksModel", name := "latest", desc := "(II)I" } : MethodName) prog_11_method_112_code (5 : Nat) (Option.some FieldType.int)) ∈ am_ws := am_t8 84 rfl rfl
theorem wd_1765 : (Cond.methodLink "NumberedSparksLaw" (228 : Nat) ({ cls := "NumberedSparksModel", name := "next", desc := "(II)I" } : MethodName)) ∈ am_ws := am_t8 85 rfl rfl
theorem wd_1766 : (Cond.instanceMethod ({ cls := "NumberedSparksModel", name := "next", desc := "(II)I" } : MethodName)) ∈ am_ws := am_t8 86 rfl rfl
theorem wd_1767 : (Cond.selects "NumberedSparksModel" ({ cls := "NumberedSparksModel", name := "next", desc := "(II)I" } : MethodName) ({ cls := "NumberedSparksModel", name := "next", desc := "(II)I" } : MethodName)) ∈ am_ws := am_t8 87 rfl rfl
theorem wd_1768 : (Cond.code ({ cls := "NumberedSparksModel", name := "next", desc := "(II)I" } : MethodName) prog_11_method_113_code (4 : Nat) (Option.some FieldType.int)) ∈ am_ws := am_t8 88 rfl rfl
theorem wd_1769 : (Cond.methodLink "NumberedSparksLaw" (232 : Nat) ({ cls := "NumberedSparksModel", name := "lull", desc := "(IIII)I" } : MethodName)) ∈ am_ws := am_t8 89 rfl rfl
theorem wd_1770 : (Cond.instanceMethod ({ cls := "NumberedSparksModel", name := "lull", desc := "(IIII)I" } : MethodName)) ∈ am_ws := am_t8 90 rfl rfl
theorem wd_1771 : (Cond.selects "NumberedSparksModel" ({ cls := "NumberedSparksModel", name := "lull", desc := "(IIII)I" } : MethodName) ({ cls := "NumberedSparksModel", name := "lull", desc := "(IIII)I" } : MethodName)) ∈ am_ws := am_t8 91 rfl rfl
theorem wd_1772 : (Cond.code ({ cls := "NumberedSparksModel", name := "lull", desc := "(IIII)I" } : MethodName) prog_11_method_114_code (9 : Nat) (Option.some FieldType.int)) ∈ am_ws := am_t8 92 rfl rfl
theorem wd_1773 : (Cond.methodLink "NumberedSparksLaw" (148 : Nat) ({ cls := "NumberedSparksModel", name := "picture", desc := "(I)I" } : MethodName)) ∈ am_ws := am_t8 93 rfl rfl
theorem wd_1774 : (Cond.instanceMethod ({ cls := "NumberedSparksModel", name := "picture", desc := "(I)I" } : MethodName)) ∈ am_ws := am_t8 94 rfl rfl
theorem wd_1775 : (Cond.selects "NumberedSparksModel" ({ cls := "NumberedSparksModel", name := "picture", desc := "(I)I" } : MethodName) ({ cls := "NumberedSparksModel", name := "picture", desc := "(I)I" } : MethodName)) ∈ am_ws := am_t8 95 rfl rfl
theorem wd_1776 : (Cond.code ({ cls := "NumberedSparksModel", name := "picture", desc := "(I)I" } : MethodName) prog_11_method_117_code (5 : Nat) (Option.some FieldType.int)) ∈ am_ws := am_t8 96 rfl rfl
theorem wd_1777 : (Cond.methodLink "NumberedSparksModel" (453 : Nat) ({ cls := "NumberedSparksModel", name := "says", desc := "(I)V" } : MethodName)) ∈ am_ws := am_t8 97 rfl rfl
theorem wd_1779 : (Cond.instanceMethod ({ cls := "NumberedSparksModel", name := "says", desc := "(I)V" } : MethodName)) ∈ am_ws := am_t8 99 rfl rfl
theorem wd_1780 : (Cond.code ({ cls := "NumberedSparksModel", name := "says", desc := "(I)V" } : MethodName) prog_11_method_115_code (2 : Nat) (Option.none : Option FieldType)) ∈ am_ws := am_t8 100 rfl rfl
theorem wd_1781 : (Cond.methodLink "NumberedSparksLaw" (172 : Nat) ({ cls := "NumberedSparksModel", name := "layer", desc := "(II)I" } : MethodName)) ∈ am_ws := am_t8 101 rfl rfl
theorem wd_1782 : (Cond.instanceMethod ({ cls := "NumberedSparksModel", name := "layer", desc := "(II)I" } : MethodName)) ∈ am_ws := am_t8 102 rfl rfl
theorem wd_1783 : (Cond.selects "NumberedSparksModel" ({ cls := "NumberedSparksModel", name := "layer", desc := "(II)I" } : MethodName) ({ cls := "NumberedSparksModel", name := "layer", desc := "(II)I" } : MethodName)) ∈ am_ws := am_t8 103 rfl rfl
theorem wd_1784 : (Cond.code ({ cls := "NumberedSparksModel", name := "layer", desc := "(II)I" } : MethodName) prog_11_method_118_code (6 : Nat) (Option.some FieldType.int)) ∈ am_ws := am_t8 104 rfl rfl
theorem wd_1785 : (Cond.methodLink "NumberedSparksLaw" (212 : Nat) ({ cls := "NumberedSparksModel", name := "tell", desc := "(I)I" } : MethodName)) ∈ am_ws := am_t8 105 rfl rfl
theorem wd_1786 : (Cond.instanceMethod ({ cls := "NumberedSparksModel", name := "tell", desc := "(I)I" } : MethodName)) ∈ am_ws := am_t8 106 rfl rfl
theorem wd_1787 : (Cond.selects "NumberedSparksModel" ({ cls := "NumberedSparksModel", name := "tell", desc := "(I)I" } : MethodName) ({ cls := "NumberedSparksModel", name := "tell", desc := "(I)I" } : MethodName)) ∈ am_ws := am_t8 107 rfl rfl
theorem wd_1788 : (Cond.code ({ cls := "NumberedSparksModel", name := "tell", desc := "(I)I" } : MethodName) prog_11_method_119_code (3 : Nat) (Option.some FieldType.int)) ∈ am_ws := am_t8 108 rfl rfl
theorem wd_1789 : (Cond.methodLink "NumberedSparksModel" (456 : Nat) ({ cls := "NumberedSparksModel", name := "saysNumber", desc := "(I)V" } : MethodName)) ∈ am_ws := am_t8 109 rfl rfl
theorem wd_1791 : (Cond.instanceMethod ({ cls := "NumberedSparksModel", name := "saysNumber", desc := "(I)V" } : MethodName)) ∈ am_ws := am_t8 111 rfl rfl
theorem wd_1792 : (Cond.code ({ cls := "NumberedSparksModel", name := "saysNumber", desc := "(I)V" } : MethodName) prog_11_method_116_code (3 : Nat) (Option.none : Option FieldType)) ∈ am_ws := am_t8 112 rfl rfl
theorem wd_1793 : (Cond.methodLink "NumberedSparksLaw" (152 : Nat) ({ cls := "NumberedSparksModel", name := "octet", desc := "(I)I" } : MethodName)) ∈ am_ws := am_t8 113 rfl rfl
theorem wd_1794 : (Cond.instanceMethod ({ cls := "NumberedSparksModel", name := "octet", desc := "(I)I" } : MethodName)) ∈ am_ws := am_t8 114 rfl rfl
theorem wd_1795 : (Cond.selects "NumberedSparksModel" ({ cls := "NumberedSparksModel", name := "octet", desc := "(I)I" } : MethodName) ({ cls := "NumberedSparksModel", name := "octet", desc := "(I)I" } : MethodName)) ∈ am_ws := am_t8 115 rfl rfl
theorem wd_1796 : (Cond.code ({ cls := "NumberedSparksModel", name := "octet", desc := "(I)I" } : MethodName) prog_11_method_120_code (2 : Nat) (Option.some FieldType.int)) ∈ am_ws := am_t8 116 rfl rfl
theorem wd_1797 : (Cond.fieldLink "java/lang/String" (9 : Nat) "java/lang/String" "value" "[B") ∈ am_ws := am_t8 117 rfl rfl
theorem wd_1798 : (Cond.fieldLink "java/lang/String" (15 : Nat) "java/lang/String" "coder" "B") ∈ am_ws := am_t8 118 rfl rfl
theorem wp_0 : Cond.selects "NumberedSparks" ({ cls := "NumberedSparks", name := "putOnTape", desc := "(I)V" } : MethodName) ({ cls := "NumberedSparks", name := "putOnTape", desc := "(I)V" } : MethodName) ∈ am_ws := am_tp 0 rfl rfl
theorem wp_1 : Cond.selects "NumberedSparks$Reader" ({ cls := "NumberedSparks$Reader", name := "advance", desc := "()V" } : MethodName) ({ cls := "NumberedSparks$Reader", name := "advance", desc := "()V" } : MethodName) ∈ am_ws := am_tp 1 rfl rfl
theorem wp_2 : Cond.selects "NumberedSparks$Reader" ({ cls := "NumberedSparks$Reader", name := "byteAt", desc := "(I)I" } : MethodName) ({ cls := "NumberedSparks$Reader", name := "byteAt", desc := "(I)I" } : MethodName) ∈ am_ws := am_tp 2 rfl rfl
theorem wp_3 : Cond.selects "NumberedSparks$Reader" ({ cls := "NumberedSparks$Reader", name := "readWorld", desc := "()V" } : MethodName) ({ cls := "NumberedSparks$Reader", name := "readWorld", desc := "()V" } : MethodName) ∈ am_ws := am_tp 3 rfl rfl
theorem wp_4 : Cond.selects "NumberedSparks$Reader" ({ cls := "NumberedSparks$Reader", name := "needWord", desc := "(Ljava/lang/String;)V" } : MethodName) ({ cls := "NumberedSparks$Reader", name := "needWord", desc := "(Ljava/lang/String;)V" } : MethodName) ∈ am_ws := am_tp 4 rfl rfl
theorem wp_5 : Cond.selects "NumberedSparks$Reader" ({ cls := "NumberedSparks$Reader", name := "takeWord", desc := "(Ljava/lang/String;)Z" } : MethodName) ({ cls := "NumberedSparks$Reader", name := "takeWord", desc := "(Ljava/lang/String;)Z" } : MethodName) ∈ am_ws := am_tp 5 rfl rfl
theorem wp_6 : Cond.selects "NumberedSparks$Reader" ({ cls := "NumberedSparks$Reader", name := "isWord", desc := "(Ljava/lang/String;)Z" } : MethodName) ({ cls := "NumberedSparks$Reader", name := "isWord", desc := "(Ljava/lang/String;)Z" } : MethodName) ∈ am_ws := am_tp 6 rfl rfl
theorem wp_7 : Cond.selects "NumberedSparks$Reader" ({ cls := "NumberedSparks$Reader", name := "fail", desc := "(I)V" } : MethodName) ({ cls := "NumberedSparks$Reader", name := "fail", desc := "(I)V" } : MethodName) ∈ am_ws := am_tp 7 rfl rfl
theorem wp_8 : Cond.selects "NumberedSparks$Reader" ({ cls := "NumberedSparks$Reader", name := "needNumber", desc := "(II)I" } : MethodName) ({ cls := "NumberedSparks$Reader", name := "needNumber", desc := "(II)I" } : MethodName) ∈ am_ws := am_tp 8 rfl rfl
theorem wp_9 : Cond.selects "NumberedSparks$Reader" ({ cls := "NumberedSparks$Reader", name := "needSign", desc := "(C)V" } : MethodName) ({ cls := "NumberedSparks$Reader", name := "needSign", desc := "(C)V" } : MethodName) ∈ am_ws := am_tp 9 rfl rfl
theorem wp_10 : Cond.selects "NumberedSparks$Reader" ({ cls := "NumberedSparks$Reader", name := "readSeed", desc := "()V" } : MethodName) ({ cls := "NumberedSparks$Reader", name := "readSeed", desc := "()V" } : MethodName) ∈ am_ws := am_tp 10 rfl rfl
theorem wp_11 : Cond.selects "NumberedSparks$Reader" ({ cls := "NumberedSparks$Reader", name := "readKind", desc := "()V" } : MethodName) ({ cls := "NumberedSparks$Reader", name := "readKind", desc := "()V" } : MethodName) ∈ am_ws := am_tp 11 rfl rfl
theorem wp_12 : Cond.selects "NumberedSparks$Reader" ({ cls := "NumberedSparks$Reader", name := "numberBehind", desc := "(Ljava/lang/String;III)I" } : MethodName) ({ cls := "NumberedSparks$Reader", name := "numberBehind", desc := "(Ljava/lang/String;III)I" } : MethodName) ∈ am_ws := am_tp 12 rfl rfl
theorem wp_13 : Cond.selects "NumberedSparks$Reader" ({ cls := "NumberedSparks$Reader", name := "readFalls", desc := "()I" } : MethodName) ({ cls := "NumberedSparks$Reader", name := "readFalls", desc := "()I" } : MethodName) ∈ am_ws := am_tp 13 rfl rfl
theorem wp_14 : Cond.selects "NumberedSparks$Reader" ({ cls := "NumberedSparks$Reader", name := "readEdge", desc := "()I" } : MethodName) ({ cls := "NumberedSparks$Reader", name := "readEdge", desc := "()I" } : MethodName) ∈ am_ws := am_tp 14 rfl rfl
theorem wp_15 : Cond.selects "NumberedSparks$Reader" ({ cls := "NumberedSparks$Reader", name := "readSource", desc := "()V" } : MethodName) ({ cls := "NumberedSparks$Reader", name := "readSource", desc := "()V" } : MethodName) ∈ am_ws := am_tp 15 rfl rfl
theorem wp_16 : Cond.selects "NumberedSparks$Spark" ({ cls := "NumberedSparks$Spark", name := "ageBeyond", desc := "(II)I" } : MethodName) ({ cls := "NumberedSparks$Spark", name := "ageBeyond", desc := "(II)I" } : MethodName) ∈ am_ws := am_tp 16 rfl rfl
theorem wp_17 : Cond.selects "NumberedSparks$Spark" ({ cls := "NumberedSparks$Spark", name := "freePlace", desc := "(II)I" } : MethodName) ({ cls := "NumberedSparks$Spark", name := "freePlace", desc := "(II)I" } : MethodName) ∈ am_ws := am_tp 17 rfl rfl
theorem wp_18 : Cond.selects "NumberedSparks" ({ cls := "NumberedSparks", name := "isAmong", desc := "(II)Z" } : MethodName) ({ cls := "NumberedSparks", name := "isAmong", desc := "(II)Z" } : MethodName) ∈ am_ws := am_tp 18 rfl rfl
theorem wp_19 : Cond.selects "NumberedSparks$Walk" ({ cls := "NumberedSparks$Walk", name := "measureSpans", desc := "()V" } : MethodName) ({ cls := "NumberedSparks$Walk", name := "measureSpans", desc := "()V" } : MethodName) ∈ am_ws := am_tp 19 rfl rfl
theorem wp_20 : Cond.selects "NumberedSparks$Walk" ({ cls := "NumberedSparks$Walk", name := "spanBehind", desc := "(II)I" } : MethodName) ({ cls := "NumberedSparks$Walk", name := "spanBehind", desc := "(II)I" } : MethodName) ∈ am_ws := am_tp 20 rfl rfl
theorem wp_21 : Cond.selects "NumberedSparks$Walk" ({ cls := "NumberedSparks$Walk", name := "spanOf", desc := "(II)I" } : MethodName) ({ cls := "NumberedSparks$Walk", name := "spanOf", desc := "(II)I" } : MethodName) ∈ am_ws := am_tp 21 rfl rfl
theorem wp_22 : Cond.selects "NumberedSparks$Walk" ({ cls := "NumberedSparks$Walk", name := "sourceOfLeastRoot", desc := "()I" } : MethodName) ({ cls := "NumberedSparks$Walk", name := "sourceOfLeastRoot", desc := "()I" } : MethodName) ∈ am_ws := am_tp 22 rfl rfl
theorem wp_23 : Cond.selects "NumberedSparks$Walk" ({ cls := "NumberedSparks$Walk", name := "isOutside", desc := "(LNumberedSparks$Spark;)Z" } : MethodName) ({ cls := "NumberedSparks$Walk", name := "isOutside", desc := "(LNumberedSparks$Spark;)Z" } : MethodName) ∈ am_ws := am_tp 23 rfl rfl
theorem wp_24 : Cond.selects "NumberedSparks$Walk" ({ cls := "NumberedSparks$Walk", name := "show", desc := "(I)V" } : MethodName) ({ cls := "NumberedSparks$Walk", name := "show", desc := "(I)V" } : MethodName) ∈ am_ws := am_tp 24 rfl rfl
theorem wp_25 : Cond.selects "NumberedSparks$Walk" ({ cls := "NumberedSparks$Walk", name := "stepChild", desc := "(LNumberedSparks$Spark;II)V" } : MethodName) ({ cls := "NumberedSparks$Walk", name := "stepChild", desc := "(LNumberedSparks$Spark;II)V" } : MethodName) ∈ am_ws := am_tp 25 rfl rfl
theorem wp_26 : Cond.selects "NumberedSparks" ({ cls := "NumberedSparks", name := "isWindow", desc := "(II)Z" } : MethodName) ({ cls := "NumberedSparks", name := "isWindow", desc := "(II)Z" } : MethodName) ∈ am_ws := am_tp 26 rfl rfl
theorem wp_27 : Cond.selects "NumberedSparks" ({ cls := "NumberedSparks", name := "countComingAndGoing", desc := "(II)V" } : MethodName) ({ cls := "NumberedSparks", name := "countComingAndGoing", desc := "(II)V" } : MethodName) ∈ am_ws := am_tp 27 rfl rfl
theorem wp_28 : Cond.selects "NumberedSparks$Frame" ({ cls := "NumberedSparks$Frame", name := "append", desc := "(LNumberedSparks$Spark;I)V" } : MethodName) ({ cls := "NumberedSparks$Frame", name := "append", desc := "(LNumberedSparks$Spark;I)V" } : MethodName) ∈ am_ws := am_tp 28 rfl rfl
theorem wp_29 : Cond.selects "NumberedSparks$Frame" ({ cls := "NumberedSparks$Frame", name := "grow", desc := "()V" } : MethodName) ({ cls := "NumberedSparks$Frame", name := "grow", desc := "()V" } : MethodName) ∈ am_ws := am_tp 29 rfl rfl
theorem wp_30 : Cond.selects "NumberedSparks$Frame" ({ cls := "NumberedSparks$Frame", name := "putInOrder", desc := "()V" } : MethodName) ({ cls := "NumberedSparks$Frame", name := "putInOrder", desc := "()V" } : MethodName) ∈ am_ws := am_tp 30 rfl rfl
theorem wp_31 : Cond.selects "NumberedSparks$Frame" ({ cls := "NumberedSparks$Frame", name := "depthOf", desc := "(I)I" } : MethodName) ({ cls := "NumberedSparks$Frame", name := "depthOf", desc := "(I)I" } : MethodName) ∈ am_ws := am_tp 31 rfl rfl
theorem wp_32 : Cond.selects "NumberedSparks$Frame" ({ cls := "NumberedSparks$Frame", name := "ofRow", desc := "(II)I" } : MethodName) ({ cls := "NumberedSparks$Frame", name := "ofRow", desc := "(II)I" } : MethodName) ∈ am_ws := am_tp 32 rfl rfl
theorem wp_33 : Cond.selects "NumberedSparks$Frame" ({ cls := "NumberedSparks$Frame", name := "columnOf", desc := "(I)I" } : MethodName) ({ cls := "NumberedSparks$Frame", name := "columnOf", desc := "(I)I" } : MethodName) ∈ am_ws := am_tp 33 rfl rfl
theorem wp_34 : Cond.selects "NumberedSparks$Frame" ({ cls := "NumberedSparks$Frame", name := "layerOf", desc := "(I)I" } : MethodName) ({ cls := "NumberedSparks$Frame", name := "layerOf", desc := "(I)I" } : MethodName) ∈ am_ws := am_tp 34 rfl rfl
theorem wp_35 : Cond.selects "NumberedSparks$Frame" ({ cls := "NumberedSparks$Frame", name := "forgetColumns", desc := "(II[I)V" } : MethodName) ({ cls := "NumberedSparks$Frame", name := "forgetColumns", desc := "(II[I)V" } : MethodName) ∈ am_ws := am_tp 35 rfl rfl
theorem wp_36 : Cond.selects "NumberedSparks" ({ cls := "NumberedSparks", name := "countOfColumn", desc := "(II)I" } : MethodName) ({ cls := "NumberedSparks", name := "countOfColumn", desc := "(II)I" } : MethodName) ∈ am_ws := am_tp 36 rfl rfl
theorem wp_37 : Cond.selects "NumberedSparksModel" ({ cls := "NumberedSparksModel", name := "puts4", desc := "(I)V" } : MethodName) ({ cls := "NumberedSparksModel", name := "puts4", desc := "(I)V" } : MethodName) ∈ am_ws := am_tp 37 rfl rfl
theorem wp_38 : Cond.selects "NumberedSparksModel" ({ cls := "NumberedSparksModel", name := "advance", desc := "()V" } : MethodName) ({ cls := "NumberedSparksModel", name := "advance", desc := "()V" } : MethodName) ∈ am_ws := am_tp 38 rfl rfl
theorem wp_39 : Cond.selects "NumberedSparksModel" ({ cls := "NumberedSparksModel", name := "see", desc := "(I)I" } : MethodName) ({ cls := "NumberedSparksModel", name := "see", desc := "(I)I" } : MethodName) ∈ am_ws := am_tp 39 rfl rfl
theorem wp_40 : Cond.selects "NumberedSparksModel" ({ cls := "NumberedSparksModel", name := "errs", desc := "(II)V" } : MethodName) ({ cls := "NumberedSparksModel", name := "errs", desc := "(II)V" } : MethodName) ∈ am_ws := am_tp 40 rfl rfl
theorem wp_41 : Cond.selects "NumberedSparksModel" ({ cls := "NumberedSparksModel", name := "good", desc := "()Z" } : MethodName) ({ cls := "NumberedSparksModel", name := "good", desc := "()Z" } : MethodName) ∈ am_ws := am_tp 41 rfl rfl
theorem wp_42 : Cond.selects "NumberedSparksModel" ({ cls := "NumberedSparksModel", name := "readLine", desc := "(I)V" } : MethodName) ({ cls := "NumberedSparksModel", name := "readLine", desc := "(I)V" } : MethodName) ∈ am_ws := am_tp 42 rfl rfl
theorem wp_43 : Cond.selects "NumberedSparksModel" ({ cls := "NumberedSparksModel", name := "passes", desc := "(Ljava/lang/String;)V" } : MethodName) ({ cls := "NumberedSparksModel", name := "passes", desc := "(Ljava/lang/String;)V" } : MethodName) ∈ am_ws := am_tp 43 rfl rfl
theorem wp_44 : Cond.selects "NumberedSparksModel" ({ cls := "NumberedSparksModel", name := "takes", desc := "(Ljava/lang/String;)Z" } : MethodName) ({ cls := "NumberedSparksModel", name := "takes", desc := "(Ljava/lang/String;)Z" } : MethodName) ∈ am_ws := am_tp 44 rfl rfl
theorem wp_45 : Cond.selects "NumberedSparksModel" ({ cls := "NumberedSparksModel", name := "isWord", desc := "(Ljava/lang/String;)Z" } : MethodName) ({ cls := "NumberedSparksModel", name := "isWord", desc := "(Ljava/lang/String;)Z" } : MethodName) ∈ am_ws := am_tp 45 rfl rfl
theorem wp_46 : Cond.selects "NumberedSparksModel" ({ cls := "NumberedSparksModel", name := "number", desc := "(II)I" } : MethodName) ({ cls := "NumberedSparksModel", name := "number", desc := "(II)I" } : MethodName) ∈ am_ws := am_tp 46 rfl rfl
theorem wp_47 : Cond.selects "NumberedSparksModel" ({ cls := "NumberedSparksModel", name := "readSeed", desc := "()V" } : MethodName) ({ cls := "NumberedSparksModel", name := "readSeed", desc := "()V" } : MethodName) ∈ am_ws := am_tp 47 rfl rfl
theorem wp_48 : Cond.selects "NumberedSparksModel" ({ cls := "NumberedSparksModel", name := "readKind", desc := "()V" } : MethodName) ({ cls := "NumberedSparksModel", name := "readKind", desc := "()V" } : MethodName) ∈ am_ws := am_tp 48 rfl rfl
theorem wp_49 : Cond.selects "NumberedSparksModel" ({ cls := "NumberedSparksModel", name := "falls", desc := "()I" } : MethodName) ({ cls := "NumberedSparksModel", name := "falls", desc := "()I" } : MethodName) ∈ am_ws := am_tp 49 rfl rfl
theorem wp_50 : Cond.selects "NumberedSparksModel" ({ cls := "NumberedSparksModel", name := "readSource", desc := "()V" } : MethodName) ({ cls := "NumberedSparksModel", name := "readSource", desc := "()V" } : MethodName) ∈ am_ws := am_tp 50 rfl rfl
theorem wp_51 : Cond.selects "NumberedSparksModel" ({ cls := "NumberedSparksModel", name := "roots", desc := "(I)I" } : MethodName) ({ cls := "NumberedSparksModel", name := "roots", desc := "(I)I" } : MethodName) ∈ am_ws := am_tp 51 rfl rfl
theorem wp_52 : Cond.selects "NumberedSparksModel" ({ cls := "NumberedSparksModel", name := "groups", desc := "(I)I" } : MethodName) ({ cls := "NumberedSparksModel", name := "groups", desc := "(I)I" } : MethodName) ∈ am_ws := am_tp 52 rfl rfl
theorem wp_53 : Cond.selects "NumberedSparksModel" ({ cls := "NumberedSparksModel", name := "ofSource", desc := "(II)I" } : MethodName) ({ cls := "NumberedSparksModel", name := "ofSource", desc := "(II)I" } : MethodName) ∈ am_ws := am_tp 53 rfl rfl
theorem wp_54 : Cond.selects "NumberedSparksModel" ({ cls := "NumberedSparksModel", name := "keeps", desc := "(II)V" } : MethodName) ({ cls := "NumberedSparksModel", name := "keeps", desc := "(II)V" } : MethodName) ∈ am_ws := am_tp 54 rfl rfl
theorem wp_55 : Cond.selects "NumberedSparksModel" ({ cls := "NumberedSparksModel", name := "mixedOf", desc := "(II)J" } : MethodName) ({ cls := "NumberedSparksModel", name := "mixedOf", desc := "(II)J" } : MethodName) ∈ am_ws := am_tp 55 rfl rfl
theorem wp_56 : Cond.selects "NumberedSparksModel" ({ cls := "NumberedSparksModel", name := "isSpark", desc := "(I)Z" } : MethodName) ({ cls := "NumberedSparksModel", name := "isSpark", desc := "(I)Z" } : MethodName) ∈ am_ws := am_tp 56 rfl rfl
theorem wp_57 : Cond.selects "NumberedSparksModel" ({ cls := "NumberedSparksModel", name := "hasChild", desc := "(II)Z" } : MethodName) ({ cls := "NumberedSparksModel", name := "hasChild", desc := "(II)Z" } : MethodName) ∈ am_ws := am_tp 57 rfl rfl
theorem wp_58 : Cond.selects "NumberedSparksModel" ({ cls := "NumberedSparksModel", name := "childOf", desc := "(II)I" } : MethodName) ({ cls := "NumberedSparksModel", name := "childOf", desc := "(II)I" } : MethodName) ∈ am_ws := am_tp 58 rfl rfl
theorem wp_59 : Cond.selects "NumberedSparksModel" ({ cls := "NumberedSparksModel", name := "kindOf", desc := "(I)I" } : MethodName) ({ cls := "NumberedSparksModel", name := "kindOf", desc := "(I)I" } : MethodName) ∈ am_ws := am_tp 59 rfl rfl
theorem wp_60 : Cond.selects "NumberedSparksModel" ({ cls := "NumberedSparksModel", name := "lays", desc := "(I)V" } : MethodName) ({ cls := "NumberedSparksModel", name := "lays", desc := "(I)V" } : MethodName) ∈ am_ws := am_tp 60 rfl rfl
theorem wp_61 : Cond.selects "NumberedSparksModel" ({ cls := "NumberedSparksModel", name := "laysRoot", desc := "(I)V" } : MethodName) ({ cls := "NumberedSparksModel", name := "laysRoot", desc := "(I)V" } : MethodName) ∈ am_ws := am_tp 61 rfl rfl
theorem wp_62 : Cond.selects "NumberedSparksModel" ({ cls := "NumberedSparksModel", name := "draw", desc := "(III)I" } : MethodName) ({ cls := "NumberedSparksModel", name := "draw", desc := "(III)I" } : MethodName) ∈ am_ws := am_tp 62 rfl rfl
theorem wp_63 : Cond.selects "NumberedSparksModel" ({ cls := "NumberedSparksModel", name := "laysOne", desc := "(III)V" } : MethodName) ({ cls := "NumberedSparksModel", name := "laysOne", desc := "(III)V" } : MethodName) ∈ am_ws := am_tp 63 rfl rfl
theorem wp_64 : Cond.selects "NumberedSparksModel" ({ cls := "NumberedSparksModel", name := "edge", desc := "()I" } : MethodName) ({ cls := "NumberedSparksModel", name := "edge", desc := "()I" } : MethodName) ∈ am_ws := am_tp 64 rfl rfl
theorem wp_65 : Cond.selects "NumberedSparksModel" ({ cls := "NumberedSparksModel", name := "isBeyond", desc := "(I)Z" } : MethodName) ({ cls := "NumberedSparksModel", name := "isBeyond", desc := "(I)Z" } : MethodName) ∈ am_ws := am_tp 65 rfl rfl
theorem wp_66 : Cond.selects "NumberedSparksModel" ({ cls := "NumberedSparksModel", name := "raw", desc := "(II)I" } : MethodName) ({ cls := "NumberedSparksModel", name := "raw", desc := "(II)I" } : MethodName) ∈ am_ws := am_tp 66 rfl rfl
theorem wp_67 : Cond.selects "NumberedSparksModel" ({ cls := "NumberedSparksModel", name := "world", desc := "(I)I" } : MethodName) ({ cls := "NumberedSparksModel", name := "world", desc := "(I)I" } : MethodName) ∈ am_ws := am_tp 67 rfl rfl
theorem wp_68 : Cond.selects "NumberedSparksModel" ({ cls := "NumberedSparksModel", name := "laysChild", desc := "(I)V" } : MethodName) ({ cls := "NumberedSparksModel", name := "laysChild", desc := "(I)V" } : MethodName) ∈ am_ws := am_tp 68 rfl rfl
theorem wp_69 : Cond.selects "NumberedSparksModel" ({ cls := "NumberedSparksModel", name := "placeBy", desc := "(II)I" } : MethodName) ({ cls := "NumberedSparksModel", name := "placeBy", desc := "(II)I" } : MethodName) ∈ am_ws := am_tp 69 rfl rfl
theorem wp_70 : Cond.selects "NumberedSparksModel" ({ cls := "NumberedSparksModel", name := "isTick", desc := "(I)Z" } : MethodName) ({ cls := "NumberedSparksModel", name := "isTick", desc := "(I)Z" } : MethodName) ∈ am_ws := am_tp 70 rfl rfl
theorem wp_71 : Cond.selects "NumberedSparksModel" ({ cls := "NumberedSparksModel", name := "overAt", desc := "(I)I" } : MethodName) ({ cls := "NumberedSparksModel", name := "overAt", desc := "(I)I" } : MethodName) ∈ am_ws := am_tp 71 rfl rfl
theorem wp_72 : Cond.selects "NumberedSparksModel" ({ cls := "NumberedSparksModel", name := "cellBy", desc := "(I)I" } : MethodName) ({ cls := "NumberedSparksModel", name := "cellBy", desc := "(I)I" } : MethodName) ∈ am_ws := am_tp 72 rfl rfl
theorem wp_73 : Cond.selects "NumberedSparksModel" ({ cls := "NumberedSparksModel", name := "gathers", desc := "(I)V" } : MethodName) ({ cls := "NumberedSparksModel", name := "gathers", desc := "(I)V" } : MethodName) ∈ am_ws := am_tp 73 rfl rfl
theorem wp_74 : Cond.selects "NumberedSparksModel" ({ cls := "NumberedSparksModel", name := "firstGroup", desc := "(II)I" } : MethodName) ({ cls := "NumberedSparksModel", name := "firstGroup", desc := "(II)I" } : MethodName) ∈ am_ws := am_tp 74 rfl rfl
theorem wp_75 : Cond.selects "NumberedSparksModel" ({ cls := "NumberedSparksModel", name := "isGroup", desc := "(III)Z" } : MethodName) ({ cls := "NumberedSparksModel", name := "isGroup", desc := "(III)Z" } : MethodName) ∈ am_ws := am_tp 75 rfl rfl
theorem wp_76 : Cond.selects "NumberedSparksModel" ({ cls := "NumberedSparksModel", name := "comesLine", desc := "(II)V" } : MethodName) ({ cls := "NumberedSparksModel", name := "comesLine", desc := "(II)V" } : MethodName) ∈ am_ws := am_tp 76 rfl rfl
theorem wp_77 : Cond.selects "NumberedSparksModel" ({ cls := "NumberedSparksModel", name := "comes", desc := "(II)V" } : MethodName) ({ cls := "NumberedSparksModel", name := "comes", desc := "(II)V" } : MethodName) ∈ am_ws := am_tp 77 rfl rfl
theorem wp_78 : Cond.selects "NumberedSparksModel" ({ cls := "NumberedSparksModel", name := "codeAt", desc := "(I)I" } : MethodName) ({ cls := "NumberedSparksModel", name := "codeAt", desc := "(I)I" } : MethodName) ∈ am_ws := am_tp 78 rfl rfl
theorem wp_79 : Cond.selects "NumberedSparksModel" ({ cls := "NumberedSparksModel", name := "laysFrame", desc := "(I)V" } : MethodName) ({ cls := "NumberedSparksModel", name := "laysFrame", desc := "(I)V" } : MethodName) ∈ am_ws := am_tp 79 rfl rfl
theorem wp_80 : Cond.selects "NumberedSparksModel" ({ cls := "NumberedSparksModel", name := "sorts", desc := "()V" } : MethodName) ({ cls := "NumberedSparksModel", name := "sorts", desc := "()V" } : MethodName) ∈ am_ws := am_tp 80 rfl rfl
theorem wp_81 : Cond.selects "NumberedSparksModel" ({ cls := "NumberedSparksModel", name := "isColumn", desc := "(II)Z" } : MethodName) ({ cls := "NumberedSparksModel", name := "isColumn", desc := "(II)Z" } : MethodName) ∈ am_ws := am_tp 81 rfl rfl
theorem wp_82 : Cond.selects "NumberedSparksModel" ({ cls := "NumberedSparksModel", name := "laysColumns", desc := "(I)V" } : MethodName) ({ cls := "NumberedSparksModel", name := "laysColumns", desc := "(I)V" } : MethodName) ∈ am_ws := am_tp 82 rfl rfl
theorem wp_83 : Cond.selects "NumberedSparksModel" ({ cls := "NumberedSparksModel", name := "topOf", desc := "(II)I" } : MethodName) ({ cls := "NumberedSparksModel", name := "topOf", desc := "(II)I" } : MethodName) ∈ am_ws := am_tp 83 rfl rfl
theorem wp_84 : Cond.selects "NumberedSparksModel" ({ cls := "NumberedSparksModel", name := "isCell", desc := "(III)Z" } : MethodName) ({ cls := "NumberedSparksModel", name := "isCell", desc := "(III)Z" } : MethodName) ∈ am_ws := am_tp 84 rfl rfl
theorem wp_85 : Cond.selects "NumberedSparksModel" ({ cls := "NumberedSparksModel", name := "squares", desc := "(IIIII)J" } : MethodName) ({ cls := "NumberedSparksModel", name := "squares", desc := "(IIIII)J" } : MethodName) ∈ am_ws := am_tp 85 rfl rfl
theorem wp_86 : Cond.selects "NumberedSparksModel" ({ cls := "NumberedSparksModel", name := "laysHeaps", desc := "(I)V" } : MethodName) ({ cls := "NumberedSparksModel", name := "laysHeaps", desc := "(I)V" } : MethodName) ∈ am_ws := am_tp 86 rfl rfl
theorem wp_87 : Cond.selects "NumberedSparksModel" ({ cls := "NumberedSparksModel", name := "placeAt", desc := "(III)I" } : MethodName) ({ cls := "NumberedSparksModel", name := "placeAt", desc := "(III)I" } : MethodName) ∈ am_ws := am_tp 87 rfl rfl
theorem wp_88 : Cond.selects "NumberedSparksModel" ({ cls := "NumberedSparksModel", name := "isSpan", desc := "(III)Z" } : MethodName) ({ cls := "NumberedSparksModel", name := "isSpan", desc := "(III)Z" } : MethodName) ∈ am_ws := am_tp 88 rfl rfl
theorem wp_89 : Cond.selects "NumberedSparksModel" ({ cls := "NumberedSparksModel", name := "bornOf", desc := "(I)I" } : MethodName) ({ cls := "NumberedSparksModel", name := "bornOf", desc := "(I)I" } : MethodName) ∈ am_ws := am_tp 89 rfl rfl
theorem wp_90 : Cond.selects "NumberedSparksModel" ({ cls := "NumberedSparksModel", name := "endingsOf", desc := "(III)I" } : MethodName) ({ cls := "NumberedSparksModel", name := "endingsOf", desc := "(III)I" } : MethodName) ∈ am_ws := am_tp 90 rfl rfl
theorem wp_91 : Cond.selects "NumberedSparksModel" ({ cls := "NumberedSparksModel", name := "lastBirth", desc := "(I)I" } : MethodName) ({ cls := "NumberedSparksModel", name := "lastBirth", desc := "(I)I" } : MethodName) ∈ am_ws := am_tp 91 rfl rfl
theorem wp_92 : Cond.selects "NumberedSparksModel" ({ cls := "NumberedSparksModel", name := "bornIn", desc := "(IIIZ)I" } : MethodName) ({ cls := "NumberedSparksModel", name := "bornIn", desc := "(IIIZ)I" } : MethodName) ∈ am_ws := am_tp 92 rfl rfl
theorem wp_93 : Cond.selects "NumberedSparksModel" ({ cls := "NumberedSparksModel", name := "says", desc := "(I)V" } : MethodName) ({ cls := "NumberedSparksModel", name := "says", desc := "(I)V" } : MethodName) ∈ am_ws := am_tp 93 rfl rfl
theorem wp_94 : Cond.selects "NumberedSparksModel" ({ cls := "NumberedSparksModel", name := "saysNumber", desc := "(I)V" } : MethodName) ({ cls := "NumberedSparksModel", name := "saysNumber", desc := "(I)V" } : MethodName) ∈ am_ws := am_tp 94 rfl rfl
theorem am_u0 : ∀ w ∈ u_ws RX0 TX0 4, w ∈ am_ws := List.forall_mem_cons.mpr ⟨am_t2 30 rfl rfl, List.forall_mem_cons.mpr ⟨am_t2 32 rfl rfl, List.forall_mem_cons.mpr ⟨am_t2 34 rfl rfl, List.forall_mem_cons.mpr ⟨am_t2 36 rfl rfl, fun _ h => absurd h List.not_mem_nil⟩⟩⟩⟩
theorem am_c0 : am_Cl 0 RX0 TX0 4 tyX0 := ⟨rfl, tyX0_ok, nmX0, am_u0, rfl, by decide +kernel, by decide +kernel⟩
theorem am_u1 : ∀ w ∈ u_ws RX1 TX1 7, w ∈ am_ws := List.forall_mem_cons.mpr ⟨am_t2 3 rfl rfl, List.forall_mem_cons.mpr ⟨am_t2 5 rfl rfl, List.forall_mem_cons.mpr ⟨am_t2 7 rfl rfl, List.forall_mem_cons.mpr ⟨am_t2 9 rfl rfl, List.forall_mem_cons.mpr ⟨am_t2 11 rfl rfl, List.forall_mem_cons.mpr ⟨am_t2 13 rfl rfl, List.forall_mem_cons.mpr ⟨am_t2 15 rfl rfl, fun _ h => absurd h List.not_mem_nil⟩⟩⟩⟩⟩⟩⟩
theorem am_c1 : am_Cl 1 RX1 TX1 7 tyX1 := ⟨rfl, tyX1_ok, nmX1, am_u1, rfl, by decide +kernel, by decide +kernel⟩
theorem am_u2 : ∀ w ∈ u_ws RX2 TX2 4, w ∈ am_ws := List.forall_mem_cons.mpr ⟨am_t1 119 rfl rfl, List.forall_mem_cons.mpr ⟨am_t1 121 rfl rfl, List.forall_mem_cons.mpr ⟨am_t1 123 rfl rfl, List.forall_mem_cons.mpr ⟨am_t1 125 rfl rfl, fun _ h => absurd h List.not_mem_nil⟩⟩⟩⟩
theorem am_c2 : am_Cl 2 RX2 TX2 4 tyX2 := ⟨rfl, tyX2_ok, nmX2, am_u2, rfl, by decide +kernel, by decide +kernel⟩
theorem am_u3 : ∀ w ∈ u_ws RX3 TX3 2, w ∈ am_ws := List.forall_mem_cons.mpr ⟨am_t1 137 rfl rfl, List.forall_mem_cons.mpr ⟨am_t1 139 rfl rfl, fun _ h => absurd h List.not_mem_nil⟩⟩
theorem am_c3 : am_Cl 3 RX3 TX3 2 tyX3 := ⟨rfl, tyX3_ok, nmX3, am_u3, rfl, by decide +kernel, by decide +kernel⟩
theorem am_u4 : ∀ w ∈ u_ws RX4 TX4 9, w ∈ am_ws := List.forall_mem_cons.mpr ⟨am_t1 89 rfl rfl, List.forall_mem_cons.mpr ⟨am_t1 91 rfl rfl, List.forall_mem_cons.mpr ⟨am_t1 93 rfl rfl, List.forall_mem_cons.mpr ⟨am_t1 95 rfl rfl, List.forall_mem_cons.mpr ⟨am_t1 97 rfl rfl, List.forall_mem_cons.mpr ⟨am_t1 99 rfl rfl, List.forall_mem_cons.mpr ⟨am_t1 101 rfl rfl, List.forall_mem_cons.mpr ⟨am_t1 103 rfl rfl, List.forall_mem_cons.mpr ⟨am_t1 105 rfl rfl, fun _ h => absurd h List.not_mem_nil⟩⟩⟩⟩⟩⟩⟩⟩⟩
theorem am_c4 : am_Cl 4 RX4 TX4 9 tyX4 := ⟨rfl, tyX4_ok, nmX4, am_u4, rfl, by decide +kernel, by decide +kernel⟩
theorem am_u5 : ∀ w ∈ u_ws RX5 TX5 8, w ∈ am_ws := List.forall_mem_cons.mpr ⟨am_t1 51 rfl rfl, List.forall_mem_cons.mpr ⟨am_t1 53 rfl rfl, List.forall_mem_cons.mpr ⟨am_t1 55 rfl rfl, List.forall_mem_cons.mpr ⟨am_t1 57 rfl rfl, List.forall_mem_cons.mpr ⟨am_t1 59 rfl rfl, List.forall_mem_cons.mpr ⟨am_t1 61 rfl rfl, List.forall_mem_cons.mpr ⟨am_t1 63 rfl rfl, List.forall_mem_cons.mpr ⟨am_t1 65 rfl rfl, fun _ h => absurd h List.not_mem_nil⟩⟩⟩⟩⟩⟩⟩⟩
theorem am_c5 : am_Cl 5 RX5 TX5 8 tyX5 := ⟨rfl, tyX5_ok, nmX5, am_u5, rfl, by decide +kernel, by decide +kernel⟩
theorem am_u6 : ∀ w ∈ u_ws RX6 TX6 10, w ∈ am_ws := List.forall_mem_cons.mpr ⟨am_t1 178 rfl rfl, List.forall_mem_cons.mpr ⟨am_t1 180 rfl rfl, List.forall_mem_cons.mpr ⟨am_t1 182 rfl rfl, List.forall_mem_cons.mpr ⟨am_t1 184 rfl rfl, List.forall_mem_cons.mpr ⟨am_t1 186 rfl rfl, List.forall_mem_cons.mpr ⟨am_t1 188 rfl rfl, List.forall_mem_cons.mpr ⟨am_t1 190 rfl rfl, List.forall_mem_cons.mpr ⟨am_t1 192 rfl rfl, List.forall_mem_cons.mpr ⟨am_t1 194 rfl rfl, List.forall_mem_cons.mpr ⟨am_t1 196 rfl rfl, fun _ h => absurd h List.not_mem_nil⟩⟩⟩⟩⟩⟩⟩⟩⟩⟩
theorem am_c6 : am_Cl 6 RX6 TX6 10 tyX6 := ⟨rfl, tyX6_ok, nmX6, am_u6, rfl, by decide +kernel, by decide +kernel⟩
theorem am_u7 : ∀ w ∈ u_ws RX7 TX7 9, w ∈ am_ws := List.forall_mem_cons.mpr ⟨am_t1 210 rfl rfl, List.forall_mem_cons.mpr ⟨am_t1 212 rfl rfl, List.forall_mem_cons.mpr ⟨am_t1 214 rfl rfl, List.forall_mem_cons.mpr ⟨am_t1 216 rfl rfl, List.forall_mem_cons.mpr ⟨am_t1 218 rfl rfl, List.forall_mem_cons.mpr ⟨am_t1 220 rfl rfl, List.forall_mem_cons.mpr ⟨am_t1 222 rfl rfl, List.forall_mem_cons.mpr ⟨am_t1 224 rfl rfl, List.forall_mem_cons.mpr ⟨am_t1 226 rfl rfl, fun _ h => absurd h List.not_mem_nil⟩⟩⟩⟩⟩⟩⟩⟩⟩
theorem am_c7 : am_Cl 7 RX7 TX7 9 tyX7 := ⟨rfl, tyX7_ok, nmX7, am_u7, rfl, by decide +kernel, by decide +kernel⟩
theorem am_u8 : ∀ w ∈ u_ws RX8 TX8 11, w ∈ am_ws := List.forall_mem_cons.mpr ⟨am_t2 50 rfl rfl, List.forall_mem_cons.mpr ⟨am_t2 52 rfl rfl, List.forall_mem_cons.mpr ⟨am_t2 54 rfl rfl, List.forall_mem_cons.mpr ⟨am_t2 56 rfl rfl, List.forall_mem_cons.mpr ⟨am_t2 58 rfl rfl, List.forall_mem_cons.mpr ⟨am_t2 60 rfl rfl, List.forall_mem_cons.mpr ⟨am_t2 62 rfl rfl, List.forall_mem_cons.mpr ⟨am_t2 64 rfl rfl, List.forall_mem_cons.mpr ⟨am_t2 66 rfl rfl, List.forall_mem_cons.mpr ⟨am_t2 68 rfl rfl, List.forall_mem_cons.mpr ⟨am_t2 70 rfl rfl, fun _ h => absurd h List.not_mem_nil⟩⟩⟩⟩⟩⟩⟩⟩⟩⟩⟩
theorem am_c8 : am_Cl 8 RX8 TX8 11 tyX8 := ⟨rfl, tyX8_ok, nmX8, am_u8, rfl, by decide +kernel, by decide +kernel⟩
theorem am_u9 : ∀ w ∈ u_ws RX9 TX9 42, w ∈ am_ws := List.forall_mem_cons.mpr ⟨am_t5 231 rfl rfl, List.forall_mem_cons.mpr ⟨am_t5 233 rfl rfl, List.forall_mem_cons.mpr ⟨am_t5 235 rfl rfl, List.forall_mem_cons.mpr ⟨am_t5 237 rfl rfl, List.forall_mem_cons.mpr ⟨am_t5 239 rfl rfl, List.forall_mem_cons.mpr ⟨am_t6 1 rfl rfl, List.forall_mem_cons.mpr ⟨am_t6 3 rfl rfl, List.forall_mem_cons.mpr ⟨am_t6 5 rfl rfl, List.forall_mem_cons.mpr ⟨am_t6 7 rfl rfl, List.forall_mem_cons.mpr ⟨am_t6 9 rfl rfl, List.forall_mem_cons.mpr ⟨am_t6 11 rfl rfl, List.forall_mem_cons.mpr ⟨am_t6 13 rfl rfl, List.forall_mem_cons.mpr ⟨am_t6 15 rfl rfl, List.forall_mem_cons.mpr ⟨am_t6 17 rfl rfl, List.forall_mem_cons.mpr ⟨am_t6 19 rfl rfl, List.forall_mem_cons.mpr ⟨am_t6 21 rfl rfl, List.forall_mem_cons.mpr ⟨am_t6 23 rfl rfl, List.forall_mem_cons.mpr ⟨am_t6 25 rfl rfl, List.forall_mem_cons.mpr ⟨am_t6 27 rfl rfl, List.forall_mem_cons.mpr ⟨am_t6 29 rfl rfl, List.forall_mem_cons.mpr ⟨am_t6 31 rfl rfl, List.forall_mem_cons.mpr ⟨am_t6 33 rfl rfl, List.forall_mem_cons.mpr ⟨am_t6 35 rfl rfl, List.forall_mem_cons.mpr ⟨am_t6 37 rfl rfl, List.forall_mem_cons.mpr ⟨am_t6 39 rfl rfl, List.forall_mem_cons.mpr ⟨am_t6 41 rfl rfl, List.forall_mem_cons.mpr ⟨am_t6 43 rfl rfl, List.forall_mem_cons.mpr ⟨am_t6 45 rfl rfl, List.forall_mem_cons.mpr ⟨am_t6 47 rfl rfl, List.forall_mem_cons.mpr ⟨am_t6 49 rfl rfl, List.forall_mem_cons.mpr ⟨am_t6 51 rfl rfl, List.forall_mem_cons.mpr ⟨am_t6 53 rfl rfl, List.forall_mem_cons.mpr ⟨am_t6 55 rfl rfl, List.forall_mem_cons.mpr ⟨am_t6 57 rfl rfl, List.forall_mem_cons.mpr ⟨am_t6 59 rfl rfl, List.forall_mem_cons.mpr ⟨am_t6 61 rfl rfl, List.forall_mem_cons.mpr ⟨am_t6 63 rfl rfl, List.forall_mem_cons.mpr ⟨am_t6 65 rfl rfl, List.forall_mem_cons.mpr ⟨am_t6 67 rfl rfl, List.forall_mem_cons.mpr ⟨am_t6 69 rfl rfl, List.forall_mem_cons.mpr ⟨am_t6 71 rfl rfl, List.forall_mem_cons.mpr ⟨am_t6 73 rfl rfl, fun _ h => absurd h List.not_mem_nil⟩⟩⟩⟩⟩⟩⟩⟩⟩⟩⟩⟩⟩⟩⟩⟩⟩⟩⟩⟩⟩⟩⟩⟩⟩⟩⟩⟩⟩⟩⟩⟩⟩⟩⟩⟩⟩⟩⟩⟩⟩⟩
theorem am_c9 : am_Cl 9 RX9 TX9 42 tyX9 := ⟨rfl, tyX9_ok, nmX9, am_u9, rfl, by decide +kernel, by decide +kernel⟩
theorem fl_Scen_9 : am_fl "NumberedSparks$Scene" 9 5 0 (.array .int) true := ⟨RX5, TX5, 8, tyX5, am_c5, by decide, rfl, rfl, wd_32⟩
theorem fl_Scen_15 : am_fl "NumberedSparks$Scene" 15 5 1 (.array .int) true := ⟨RX5, TX5, 8, tyX5, am_c5, by decide, rfl, rfl, wd_33⟩
theorem fl_Scen_18 : am_fl "NumberedSparks$Scene" 18 5 2 (.array .int) true := ⟨RX5, TX5, 8, tyX5, am_c5, by decide, rfl, rfl, wd_34⟩
theorem fl_Scen_27 : am_fl "NumberedSparks$Scene" 27 5 3 .int false := ⟨RX5, TX5, 8, tyX5, am_c5, by decide, rfl, rfl, wd_35⟩
theorem fl_Walk_67 : am_fl "NumberedSparks$Walk" 67 5 3 .int false := ⟨RX5, TX5, 8, tyX5, am_c5, by decide, rfl, rfl, wd_36⟩
theorem fl_Read_100 : am_fl "NumberedSparks$Reader" 100 5 3 .int false := ⟨RX5, TX5, 8, tyX5, am_c5, by decide, rfl, rfl, wd_37⟩
theorem fl_NS_104 : am_fl "NumberedSparks" 104 5 3 .int false := ⟨RX5, TX5, 8, tyX5, am_c5, by decide, rfl, rfl, wd_38⟩
theorem fl_Scen_31 : am_fl "NumberedSparks$Scene" 31 5 4 .int false := ⟨RX5, TX5, 8, tyX5, am_c5, by decide, rfl, rfl, wd_39⟩
theorem fl_NS_107 : am_fl "NumberedSparks" 107 5 4 .int false := ⟨RX5, TX5, 8, tyX5, am_c5, by decide, rfl, rfl, wd_40⟩
theorem fl_Read_147 : am_fl "NumberedSparks$Reader" 147 5 4 .int false := ⟨RX5, TX5, 8, tyX5, am_c5, by decide, rfl, rfl, wd_41⟩
theorem fl_Scen_34 : am_fl "NumberedSparks$Scene" 34 5 5 .int false := ⟨RX5, TX5, 8, tyX5, am_c5, by decide, rfl, rfl, wd_42⟩
theorem fl_Read_98 : am_fl "NumberedSparks$Reader" 98 5 5 .int false := ⟨RX5, TX5, 8, tyX5, am_c5, by decide, rfl, rfl, wd_43⟩
theorem fl_Hist_35 : am_fl "NumberedSparks$History" 35 5 5 .int false := ⟨RX5, TX5, 8, tyX5, am_c5, by decide, rfl, rfl, wd_44⟩
theorem fl_NS_110 : am_fl "NumberedSparks" 110 5 5 .int false := ⟨RX5, TX5, 8, tyX5, am_c5, by decide, rfl, rfl, wd_45⟩
theorem fl_Scen_37 : am_fl "NumberedSparks$Scene" 37 5 6 .boolean false := ⟨RX5, TX5, 8, tyX5, am_c5, by decide, rfl, rfl, wd_46⟩
theorem fl_Read_93 : am_fl "NumberedSparks$Reader" 93 5 6 .boolean false := ⟨RX5, TX5, 8, tyX5, am_c5, by decide, rfl, rfl, wd_47⟩
theorem fl_Fram_33 : am_fl "NumberedSparks$Frame" 33 5 7 .boolean false := ⟨RX5, TX5, 8, tyX5, am_c5, by decide, rfl, rfl, wd_48⟩
theorem fl_Scen_47 : am_fl "NumberedSparks$Scene" 47 5 7 .boolean false := ⟨RX5, TX5, 8, tyX5, am_c5, by decide, rfl, rfl, wd_49⟩
theorem fl_NS_130 : am_fl "NumberedSparks" 130 5 7 .boolean false := ⟨RX5, TX5, 8, tyX5, am_c5, by decide, rfl, rfl, wd_50⟩
theorem fl_Read_12 : am_fl "NumberedSparks$Reader" 12 4 0 (.object "NumberedSparks$Scene") true := ⟨RX4, TX4, 9, tyX4, am_c4, by decide, rfl, rfl, wd_77⟩
theorem fl_NS_84 : am_fl "NumberedSparks" 84 4 0 (.object "NumberedSparks$Scene") true := ⟨RX4, TX4, 9, tyX4, am_c4, by decide, rfl, rfl, wd_78⟩
theorem fl_Read_38 : am_fl "NumberedSparks$Reader" 38 4 1 .int false := ⟨RX4, TX4, 9, tyX4, am_c4, by decide, rfl, rfl, wd_79⟩
theorem fl_NS_94 : am_fl "NumberedSparks" 94 4 1 .int false := ⟨RX4, TX4, 9, tyX4, am_c4, by decide, rfl, rfl, wd_80⟩
theorem fl_Read_18 : am_fl "NumberedSparks$Reader" 18 4 2 .int false := ⟨RX4, TX4, 9, tyX4, am_c4, by decide, rfl, rfl, wd_81⟩
theorem fl_NS_97 : am_fl "NumberedSparks" 97 4 2 .int false := ⟨RX4, TX4, 9, tyX4, am_c4, by decide, rfl, rfl, wd_82⟩
theorem fl_Read_22 : am_fl "NumberedSparks$Reader" 22 4 3 (.array .int) false := ⟨RX4, TX4, 9, tyX4, am_c4, by decide, rfl, rfl, wd_83⟩
theorem fl_Read_32 : am_fl "NumberedSparks$Reader" 32 4 4 .int false := ⟨RX4, TX4, 9, tyX4, am_c4, by decide, rfl, rfl, wd_84⟩
theorem fl_Read_50 : am_fl "NumberedSparks$Reader" 50 4 5 .int false := ⟨RX4, TX4, 9, tyX4, am_c4, by decide, rfl, rfl, wd_85⟩
theorem fl_Read_175 : am_fl "NumberedSparks$Reader" 175 4 6 .int false := ⟨RX4, TX4, 9, tyX4, am_c4, by decide, rfl, rfl, wd_86⟩
theorem fl_Read_41 : am_fl "NumberedSparks$Reader" 41 4 7 .int false := ⟨RX4, TX4, 9, tyX4, am_c4, by decide, rfl, rfl, wd_87⟩
theorem fl_Read_138 : am_fl "NumberedSparks$Reader" 138 4 8 .int false := ⟨RX4, TX4, 9, tyX4, am_c4, by decide, rfl, rfl, wd_88⟩
theorem fl_Hist_11 : am_fl "NumberedSparks$History" 11 2 0 (.array .int) true := ⟨RX2, TX2, 4, tyX2, am_c2, by decide, rfl, rfl, wd_114⟩
theorem fl_Hist_15 : am_fl "NumberedSparks$History" 15 2 1 (.array .int) true := ⟨RX2, TX2, 4, tyX2, am_c2, by decide, rfl, rfl, wd_115⟩
theorem fl_Hist_18 : am_fl "NumberedSparks$History" 18 2 2 (.array .int) true := ⟨RX2, TX2, 4, tyX2, am_c2, by decide, rfl, rfl, wd_116⟩
theorem fl_Hist_21 : am_fl "NumberedSparks$History" 21 2 3 .int false := ⟨RX2, TX2, 4, tyX2, am_c2, by decide, rfl, rfl, wd_117⟩
theorem fl_NS_155 : am_fl "NumberedSparks" 155 2 3 .int false := ⟨RX2, TX2, 4, tyX2, am_c2, by decide, rfl, rfl, wd_118⟩
theorem fl_Outp_9 : am_fl "NumberedSparks$Output" 9 3 0 (.array .int) true := ⟨RX3, TX3, 2, tyX3, am_c3, by decide, rfl, rfl, wd_134⟩
theorem fl_Outp_15 : am_fl "NumberedSparks$Output" 15 3 1 .int false := ⟨RX3, TX3, 2, tyX3, am_c3, by decide, rfl, rfl, wd_135⟩
theorem fl_NS_113 : am_fl "NumberedSparks" 113 3 1 .int false := ⟨RX3, TX3, 2, tyX3, am_c3, by decide, rfl, rfl, wd_136⟩
theorem fl_Sprk_18 : am_fl "NumberedSparks$Spark" 18 6 0 (.object "NumberedSparks$Scene") true := ⟨RX6, TX6, 10, tyX6, am_c6, by decide, rfl, rfl, wd_155⟩
theorem fl_Sprk_9 : am_fl "NumberedSparks$Spark" 9 6 1 (.array .int) true := ⟨RX6, TX6, 10, tyX6, am_c6, by decide, rfl, rfl, wd_156⟩
theorem fl_Sprk_15 : am_fl "NumberedSparks$Spark" 15 6 2 (.array .int) true := ⟨RX6, TX6, 10, tyX6, am_c6, by decide, rfl, rfl, wd_157⟩
theorem fl_Sprk_26 : am_fl "NumberedSparks$Spark" 26 6 3 .int false := ⟨RX6, TX6, 10, tyX6, am_c6, by decide, rfl, rfl, wd_158⟩
theorem fl_Fram_74 : am_fl "NumberedSparks$Frame" 74 6 3 .int false := ⟨RX6, TX6, 10, tyX6, am_c6, by decide, rfl, rfl, wd_159⟩
theorem fl_NS_249 : am_fl "NumberedSparks" 249 6 3 .int false := ⟨RX6, TX6, 10, tyX6, am_c6, by decide, rfl, rfl, wd_160⟩
theorem fl_Sprk_35 : am_fl "NumberedSparks$Spark" 35 6 4 .int false := ⟨RX6, TX6, 10, tyX6, am_c6, by decide, rfl, rfl, wd_161⟩
theorem fl_Fram_79 : am_fl "NumberedSparks$Frame" 79 6 4 .int false := ⟨RX6, TX6, 10, tyX6, am_c6, by decide, rfl, rfl, wd_162⟩
theorem fl_Walk_101 : am_fl "NumberedSparks$Walk" 101 6 4 .int false := ⟨RX6, TX6, 10, tyX6, am_c6, by decide, rfl, rfl, wd_163⟩
theorem fl_NS_180 : am_fl "NumberedSparks" 180 6 4 .int false := ⟨RX6, TX6, 10, tyX6, am_c6, by decide, rfl, rfl, wd_164⟩
theorem fl_Sprk_38 : am_fl "NumberedSparks$Spark" 38 6 5 .int false := ⟨RX6, TX6, 10, tyX6, am_c6, by decide, rfl, rfl, wd_165⟩
theorem fl_Walk_118 : am_fl "NumberedSparks$Walk" 118 6 5 .int false := ⟨RX6, TX6, 10, tyX6, am_c6, by decide, rfl, rfl, wd_166⟩
theorem fl_NS_191 : am_fl "NumberedSparks" 191 6 5 .int false := ⟨RX6, TX6, 10, tyX6, am_c6, by decide, rfl, rfl, wd_167⟩
theorem fl_Sprk_41 : am_fl "NumberedSparks$Spark" 41 6 6 .int false := ⟨RX6, TX6, 10, tyX6, am_c6, by decide, rfl, rfl, wd_168⟩
theorem fl_Fram_82 : am_fl "NumberedSparks$Frame" 82 6 6 .int false := ⟨RX6, TX6, 10, tyX6, am_c6, by decide, rfl, rfl, wd_169⟩
theorem fl_Walk_112 : am_fl "NumberedSparks$Walk" 112 6 6 .int false := ⟨RX6, TX6, 10, tyX6, am_c6, by decide, rfl, rfl, wd_170⟩
theorem fl_NS_197 : am_fl "NumberedSparks" 197 6 6 .int false := ⟨RX6, TX6, 10, tyX6, am_c6, by decide, rfl, rfl, wd_171⟩
theorem fl_Sprk_51 : am_fl "NumberedSparks$Spark" 51 6 7 .int false := ⟨RX6, TX6, 10, tyX6, am_c6, by decide, rfl, rfl, wd_172⟩
theorem fl_Fram_85 : am_fl "NumberedSparks$Frame" 85 6 7 .int false := ⟨RX6, TX6, 10, tyX6, am_c6, by decide, rfl, rfl, wd_173⟩
theorem fl_Walk_115 : am_fl "NumberedSparks$Walk" 115 6 7 .int false := ⟨RX6, TX6, 10, tyX6, am_c6, by decide, rfl, rfl, wd_174⟩
theorem fl_NS_200 : am_fl "NumberedSparks" 200 6 7 .int false := ⟨RX6, TX6, 10, tyX6, am_c6, by decide, rfl, rfl, wd_175⟩
theorem fl_Sprk_60 : am_fl "NumberedSparks$Spark" 60 6 8 .int false := ⟨RX6, TX6, 10, tyX6, am_c6, by decide, rfl, rfl, wd_176⟩
theorem fl_Sprk_63 : am_fl "NumberedSparks$Spark" 63 6 9 .int false := ⟨RX6, TX6, 10, tyX6, am_c6, by decide, rfl, rfl, wd_177⟩
theorem fl_Walk_30 : am_fl "NumberedSparks$Walk" 30 7 0 (.object "NumberedSparks$Scene") true := ⟨RX7, TX7, 9, tyX7, am_c7, by decide, rfl, rfl, wd_199⟩
theorem fl_Walk_11 : am_fl "NumberedSparks$Walk" 11 7 1 (.array (.object "NumberedSparks$Spark")) true := ⟨RX7, TX7, 9, tyX7, am_c7, by decide, rfl, rfl, wd_200⟩
theorem fl_Walk_17 : am_fl "NumberedSparks$Walk" 17 7 2 (.array .int) true := ⟨RX7, TX7, 9, tyX7, am_c7, by decide, rfl, rfl, wd_201⟩
theorem fl_Walk_21 : am_fl "NumberedSparks$Walk" 21 7 3 (.array .int) true := ⟨RX7, TX7, 9, tyX7, am_c7, by decide, rfl, rfl, wd_202⟩
theorem fl_Walk_24 : am_fl "NumberedSparks$Walk" 24 7 4 (.array .int) true := ⟨RX7, TX7, 9, tyX7, am_c7, by decide, rfl, rfl, wd_203⟩
theorem fl_Walk_27 : am_fl "NumberedSparks$Walk" 27 7 5 (.array .int) true := ⟨RX7, TX7, 9, tyX7, am_c7, by decide, rfl, rfl, wd_204⟩
theorem fl_Walk_37 : am_fl "NumberedSparks$Walk" 37 7 6 .int false := ⟨RX7, TX7, 9, tyX7, am_c7, by decide, rfl, rfl, wd_205⟩
theorem fl_Walk_41 : am_fl "NumberedSparks$Walk" 41 7 7 .int false := ⟨RX7, TX7, 9, tyX7, am_c7, by decide, rfl, rfl, wd_206⟩
theorem fl_Fram_57 : am_fl "NumberedSparks$Frame" 57 7 8 .int false := ⟨RX7, TX7, 9, tyX7, am_c7, by decide, rfl, rfl, wd_207⟩
theorem fl_Walk_76 : am_fl "NumberedSparks$Walk" 76 7 8 .int false := ⟨RX7, TX7, 9, tyX7, am_c7, by decide, rfl, rfl, wd_208⟩
theorem fl_NS_243 : am_fl "NumberedSparks" 243 7 8 .int false := ⟨RX7, TX7, 9, tyX7, am_c7, by decide, rfl, rfl, wd_209⟩
theorem fl_Fram_25 : am_fl "NumberedSparks$Frame" 25 1 0 (.object "NumberedSparks$Scene") true := ⟨RX1, TX1, 7, tyX1, am_c1, by decide, rfl, rfl, wd_235⟩
theorem fl_Fram_29 : am_fl "NumberedSparks$Frame" 29 1 1 (.object "NumberedSparks$Walk") true := ⟨RX1, TX1, 7, tyX1, am_c1, by decide, rfl, rfl, wd_236⟩
theorem fl_Fram_43 : am_fl "NumberedSparks$Frame" 43 1 2 .int false := ⟨RX1, TX1, 7, tyX1, am_c1, by decide, rfl, rfl, wd_237⟩
theorem fl_NS_310 : am_fl "NumberedSparks" 310 1 2 .int false := ⟨RX1, TX1, 7, tyX1, am_c1, by decide, rfl, rfl, wd_238⟩
theorem fl_Fram_11 : am_fl "NumberedSparks$Frame" 11 1 3 (.array .int) false := ⟨RX1, TX1, 7, tyX1, am_c1, by decide, rfl, rfl, wd_239⟩
theorem fl_Fram_15 : am_fl "NumberedSparks$Frame" 15 1 4 (.array .int) false := ⟨RX1, TX1, 7, tyX1, am_c1, by decide, rfl, rfl, wd_240⟩
theorem fl_Fram_18 : am_fl "NumberedSparks$Frame" 18 1 5 (.array .int) true := ⟨RX1, TX1, 7, tyX1, am_c1, by decide, rfl, rfl, wd_241⟩
theorem fl_Fram_21 : am_fl "NumberedSparks$Frame" 21 1 6 .int false := ⟨RX1, TX1, 7, tyX1, am_c1, by decide, rfl, rfl, wd_242⟩
theorem fl_Find_7 : am_fl "NumberedSparks$Finder" 7 0 0 (.object "NumberedSparks$Scene") true := ⟨RX0, TX0, 4, tyX0, am_c0, by decide, rfl, rfl, wd_266⟩
theorem fl_Find_18 : am_fl "NumberedSparks$Finder" 18 0 1 (.object "NumberedSparks$Spark") true := ⟨RX0, TX0, 4, tyX0, am_c0, by decide, rfl, rfl, wd_267⟩
theorem fl_Find_22 : am_fl "NumberedSparks$Finder" 22 0 2 (.object "NumberedSparks$Spark") true := ⟨RX0, TX0, 4, tyX0, am_c0, by decide, rfl, rfl, wd_268⟩
theorem fl_Find_25 : am_fl "NumberedSparks$Finder" 25 0 3 (.object "NumberedSparks$Spark") true := ⟨RX0, TX0, 4, tyX0, am_c0, by decide, rfl, rfl, wd_269⟩
theorem fl_NS_9 : am_fl "NumberedSparks" 9 8 0 (.array .int) true := ⟨RX8, TX8, 11, tyX8, am_c8, by decide, rfl, rfl, wd_279⟩
theorem fl_NS_72 : am_fl "NumberedSparks" 72 8 1 .int false := ⟨RX8, TX8, 11, tyX8, am_c8, by decide, rfl, rfl, wd_280⟩
theorem fl_NS_16 : am_fl "NumberedSparks" 16 8 2 (.object "NumberedSparks$Scene") true := ⟨RX8, TX8, 11, tyX8, am_c8, by decide, rfl, rfl, wd_281⟩
theorem fl_NS_23 : am_fl "NumberedSparks" 23 8 3 (.object "NumberedSparks$Reader") true := ⟨RX8, TX8, 11, tyX8, am_c8, by decide, rfl, rfl, wd_282⟩
theorem fl_NS_30 : am_fl "NumberedSparks" 30 8 4 (.object "NumberedSparks$History") true := ⟨RX8, TX8, 11, tyX8, am_c8, by decide, rfl, rfl, wd_283⟩
theorem fl_NS_37 : am_fl "NumberedSparks" 37 8 5 (.object "NumberedSparks$Output") true := ⟨RX8, TX8, 11, tyX8, am_c8, by decide, rfl, rfl, wd_284⟩
theorem fl_NS_46 : am_fl "NumberedSparks" 46 8 6 (.object "NumberedSparks$Walk") true := ⟨RX8, TX8, 11, tyX8, am_c8, by decide, rfl, rfl, wd_285⟩
theorem fl_NS_55 : am_fl "NumberedSparks" 55 8 7 (.object "NumberedSparks$Frame") true := ⟨RX8, TX8, 11, tyX8, am_c8, by decide, rfl, rfl, wd_286⟩
theorem fl_NS_62 : am_fl "NumberedSparks" 62 8 8 (.object "NumberedSparks$Finder") true := ⟨RX8, TX8, 11, tyX8, am_c8, by decide, rfl, rfl, wd_287⟩
theorem fl_NS_66 : am_fl "NumberedSparks" 66 8 9 (.object "NumberedSparks$Finder") true := ⟨RX8, TX8, 11, tyX8, am_c8, by decide, rfl, rfl, wd_288⟩
theorem fl_NS_69 : am_fl "NumberedSparks" 69 8 10 (.array .int) true := ⟨RX8, TX8, 11, tyX8, am_c8, by decide, rfl, rfl, wd_289⟩
theorem fl_Md_219 : am_fl "NumberedSparksModel" 219 9 1 .boolean false := ⟨RX9, TX9, 42, tyX9, am_c9, by decide, rfl, rfl, wd_1150⟩
theorem fl_Md_7 : am_fl "NumberedSparksModel" 7 9 2 (.array .int) true := ⟨RX9, TX9, 42, tyX9, am_c9, by decide, rfl, rfl, wd_1151⟩
theorem fl_Md_222 : am_fl "NumberedSparksModel" 222 9 3 .int false := ⟨RX9, TX9, 42, tyX9, am_c9, by decide, rfl, rfl, wd_1152⟩
theorem fl_Md_224 : am_fl "NumberedSparksModel" 224 9 4 .int false := ⟨RX9, TX9, 42, tyX9, am_c9, by decide, rfl, rfl, wd_1153⟩
theorem fl_Md_13 : am_fl "NumberedSparksModel" 13 9 5 (.array .int) true := ⟨RX9, TX9, 42, tyX9, am_c9, by decide, rfl, rfl, wd_1154⟩
theorem fl_Md_227 : am_fl "NumberedSparksModel" 227 9 6 .int false := ⟨RX9, TX9, 42, tyX9, am_c9, by decide, rfl, rfl, wd_1155⟩
theorem fl_Md_16 : am_fl "NumberedSparksModel" 16 9 7 (.array .int) true := ⟨RX9, TX9, 42, tyX9, am_c9, by decide, rfl, rfl, wd_1156⟩
theorem fl_Md_19 : am_fl "NumberedSparksModel" 19 9 8 (.array .int) true := ⟨RX9, TX9, 42, tyX9, am_c9, by decide, rfl, rfl, wd_1157⟩
theorem fl_Md_198 : am_fl "NumberedSparksModel" 198 9 9 .int false := ⟨RX9, TX9, 42, tyX9, am_c9, by decide, rfl, rfl, wd_1158⟩
theorem fl_Md_153 : am_fl "NumberedSparksModel" 153 9 10 .int false := ⟨RX9, TX9, 42, tyX9, am_c9, by decide, rfl, rfl, wd_1159⟩
theorem fl_Md_22 : am_fl "NumberedSparksModel" 22 9 11 (.array .int) true := ⟨RX9, TX9, 42, tyX9, am_c9, by decide, rfl, rfl, wd_1160⟩
theorem fl_Md_180 : am_fl "NumberedSparksModel" 180 9 12 .int false := ⟨RX9, TX9, 42, tyX9, am_c9, by decide, rfl, rfl, wd_1161⟩
theorem fl_Md_25 : am_fl "NumberedSparksModel" 25 9 13 (.array .int) true := ⟨RX9, TX9, 42, tyX9, am_c9, by decide, rfl, rfl, wd_1162⟩
theorem fl_Md_28 : am_fl "NumberedSparksModel" 28 9 14 (.array .byte) true := ⟨RX9, TX9, 42, tyX9, am_c9, by decide, rfl, rfl, wd_1163⟩
theorem fl_Md_74 : am_fl "NumberedSparksModel" 74 9 15 .int false := ⟨RX9, TX9, 42, tyX9, am_c9, by decide, rfl, rfl, wd_1164⟩
theorem fl_Md_92 : am_fl "NumberedSparksModel" 92 9 16 .int false := ⟨RX9, TX9, 42, tyX9, am_c9, by decide, rfl, rfl, wd_1165⟩
theorem fl_Md_95 : am_fl "NumberedSparksModel" 95 9 17 .int false := ⟨RX9, TX9, 42, tyX9, am_c9, by decide, rfl, rfl, wd_1166⟩
theorem fl_Md_102 : am_fl "NumberedSparksModel" 102 9 18 .int false := ⟨RX9, TX9, 42, tyX9, am_c9, by decide, rfl, rfl, wd_1167⟩
theorem fl_Md_105 : am_fl "NumberedSparksModel" 105 9 19 .int false := ⟨RX9, TX9, 42, tyX9, am_c9, by decide, rfl, rfl, wd_1168⟩
theorem fl_Md_116 : am_fl "NumberedSparksModel" 116 9 20 .int false := ⟨RX9, TX9, 42, tyX9, am_c9, by decide, rfl, rfl, wd_1169⟩
theorem fl_Md_85 : am_fl "NumberedSparksModel" 85 9 21 .int false := ⟨RX9, TX9, 42, tyX9, am_c9, by decide, rfl, rfl, wd_1170⟩
theorem fl_Md_32 : am_fl "NumberedSparksModel" 32 9 22 .int false := ⟨RX9, TX9, 42, tyX9, am_c9, by decide, rfl, rfl, wd_1171⟩
theorem fl_Md_193 : am_fl "NumberedSparksModel" 193 9 23 .boolean false := ⟨RX9, TX9, 42, tyX9, am_c9, by decide, rfl, rfl, wd_1172⟩
theorem fl_Md_230 : am_fl "NumberedSparksModel" 230 9 24 .int false := ⟨RX9, TX9, 42, tyX9, am_c9, by decide, rfl, rfl, wd_1173⟩
theorem fl_Md_36 : am_fl "NumberedSparksModel" 36 9 25 (.array .int) true := ⟨RX9, TX9, 42, tyX9, am_c9, by decide, rfl, rfl, wd_1174⟩
theorem fl_Md_39 : am_fl "NumberedSparksModel" 39 9 26 (.array .int) true := ⟨RX9, TX9, 42, tyX9, am_c9, by decide, rfl, rfl, wd_1175⟩
theorem fl_Md_278 : am_fl "NumberedSparksModel" 278 9 27 .int false := ⟨RX9, TX9, 42, tyX9, am_c9, by decide, rfl, rfl, wd_1176⟩
theorem fl_Md_292 : am_fl "NumberedSparksModel" 292 9 28 .int false := ⟨RX9, TX9, 42, tyX9, am_c9, by decide, rfl, rfl, wd_1177⟩
theorem fl_Md_303 : am_fl "NumberedSparksModel" 303 9 29 .int false := ⟨RX9, TX9, 42, tyX9, am_c9, by decide, rfl, rfl, wd_1178⟩
theorem fl_Md_42 : am_fl "NumberedSparksModel" 42 9 30 (.array .int) true := ⟨RX9, TX9, 42, tyX9, am_c9, by decide, rfl, rfl, wd_1179⟩
theorem fl_Md_45 : am_fl "NumberedSparksModel" 45 9 31 (.array .int) true := ⟨RX9, TX9, 42, tyX9, am_c9, by decide, rfl, rfl, wd_1180⟩
theorem fl_Md_48 : am_fl "NumberedSparksModel" 48 9 32 (.array .int) true := ⟨RX9, TX9, 42, tyX9, am_c9, by decide, rfl, rfl, wd_1181⟩
theorem fl_Md_51 : am_fl "NumberedSparksModel" 51 9 33 (.array .int) true := ⟨RX9, TX9, 42, tyX9, am_c9, by decide, rfl, rfl, wd_1182⟩
theorem fl_Md_361 : am_fl "NumberedSparksModel" 361 9 34 .int false := ⟨RX9, TX9, 42, tyX9, am_c9, by decide, rfl, rfl, wd_1183⟩
theorem fl_Md_54 : am_fl "NumberedSparksModel" 54 9 35 (.array .long) true := ⟨RX9, TX9, 42, tyX9, am_c9, by decide, rfl, rfl, wd_1184⟩
theorem fl_Md_58 : am_fl "NumberedSparksModel" 58 9 36 (.array .int) true := ⟨RX9, TX9, 42, tyX9, am_c9, by decide, rfl, rfl, wd_1185⟩
theorem fl_Md_61 : am_fl "NumberedSparksModel" 61 9 37 (.array .int) true := ⟨RX9, TX9, 42, tyX9, am_c9, by decide, rfl, rfl, wd_1186⟩
theorem fl_Md_65 : am_fl "NumberedSparksModel" 65 9 38 (.array .int) true := ⟨RX9, TX9, 42, tyX9, am_c9, by decide, rfl, rfl, wd_1187⟩
theorem fl_Md_443 : am_fl "NumberedSparksModel" 443 9 39 .int false := ⟨RX9, TX9, 42, tyX9, am_c9, by decide, rfl, rfl, wd_1188⟩
theorem fl_Md_68 : am_fl "NumberedSparksModel" 68 9 40 (.array .byte) true := ⟨RX9, TX9, 42, tyX9, am_c9, by decide, rfl, rfl, wd_1189⟩
theorem fl_Md_233 : am_fl "NumberedSparksModel" 233 9 41 .int false := ⟨RX9, TX9, 42, tyX9, am_c9, by decide, rfl, rfl, wd_1190⟩
