theorem xw_2 : (Jvm.Cond.initialized "FrameRound$Reader") ∈ jm_T := jm_inT' (List.mem_append_right _ (List.mem_of_getElem? (i := 2) (by decide +kernel))) (by decide +kernel)
theorem xw_3 : (Jvm.Cond.initialized "FrameRound$Plan") ∈ jm_T := jm_inT' (List.mem_append_right _ (List.mem_of_getElem? (i := 3) (by decide +kernel))) (by decide +kernel)
theorem xw_4 : (Jvm.Cond.initialized "FrameRound$Mode") ∈ jm_T := jm_inT' (List.mem_append_right _ (List.mem_of_getElem? (i := 4) (by decide +kernel))) (by decide +kernel)
theorem xw_5 : (Jvm.Cond.initialized "FrameRound$Table") ∈ jm_T := jm_inT' (List.mem_append_right _ (List.mem_of_getElem? (i := 5) (by decide +kernel))) (by decide +kernel)
theorem xw_6 : (Jvm.Cond.initialized "FrameRound$Flow") ∈ jm_T := jm_inT' (List.mem_append_right _ (List.mem_of_getElem? (i := 6) (by decide +kernel))) (by decide +kernel)
theorem xw_7 : (Jvm.Cond.initialized "FrameRound$Supply") ∈ jm_T := jm_inT' (List.mem_append_right _ (List.mem_of_getElem? (i := 7) (by decide +kernel))) (by decide +kernel)
theorem xw_8 : (Jvm.Cond.initialized "FrameRound$Clock") ∈ jm_T := jm_inT' (List.mem_append_right _ (List.mem_of_getElem? (i := 8) (by decide +kernel))) (by decide +kernel)
theorem xw_30 : (Jvm.Cond.methodLink "FrameRound" (1 : Nat) ({ cls := "java/lang/Object", name := "<init>", desc := "()V" } : Jvm.MethodName)) ∈ jm_T := jm_inT' (List.mem_append_right _ (List.mem_of_getElem? (i := 30) (by decide +kernel))) (by decide +kernel)
theorem xw_31 : (Jvm.Cond.instanceMethod ({ cls := "java/lang/Object", name := "<init>", desc := "()V" } : Jvm.MethodName)) ∈ jm_T := jm_inT' (List.mem_append_right _ (List.mem_of_getElem? (i := 31) (by decide +kernel))) (by decide +kernel)
theorem xw_33 : (Jvm.Cond.classLink "FrameRound" (7 : Nat) "FrameRound$Reader") ∈ jm_T := jm_inT' (List.mem_append_right _ (List.mem_of_getElem? (i := 33) (by decide +kernel))) (by decide +kernel)
theorem xw_34 : (Jvm.Cond.instantiable "FrameRound$Reader" (10 : Nat)) ∈ jm_T := jm_inT' (List.mem_append_right _ (List.mem_of_getElem? (i := 34) (by decide +kernel))) (by decide +kernel)
theorem xw_35 : (Jvm.Cond.methodLink "FrameRound" (9 : Nat) ({ cls := "FrameRound$Reader", name := "<init>", desc := "()V" } : Jvm.MethodName)) ∈ jm_T := jm_inT' (List.mem_append_right _ (List.mem_of_getElem? (i := 35) (by decide +kernel))) (by decide +kernel)
theorem xw_36 : (Jvm.Cond.instanceMethod ({ cls := "FrameRound$Reader", name := "<init>", desc := "()V" } : Jvm.MethodName)) ∈ jm_T := jm_inT' (List.mem_append_right _ (List.mem_of_getElem? (i := 36) (by decide +kernel))) (by decide +kernel)
theorem xw_37 : (Jvm.Cond.code ({ cls := "FrameRound$Reader", name := "<init>", desc := "()V" } : Jvm.MethodName) prog_6_method_1_code (1 : Nat) (Option.none : Option Jvm.ClassFile.FieldType)) ∈ jm_T := jm_inT' (List.mem_append_right _ (List.mem_of_getElem? (i := 37) (by decide +kernel))) (by decide +kernel)
theorem xw_38 : (Jvm.Cond.methodLink "FrameRound$Reader" (3 : Nat) ({ cls := "java/lang/Object", name := "<init>", desc := "()V" } : Jvm.MethodName)) ∈ jm_T := jm_inT' (List.mem_append_right _ (List.mem_of_getElem? (i := 38) (by decide +kernel))) (by decide +kernel)
theorem xw_39 : (Jvm.Cond.classLink "FrameRound$Reader" (15 : Nat) "FrameRound$Plan") ∈ jm_T := jm_inT' (List.mem_append_right _ (List.mem_of_getElem? (i := 39) (by decide +kernel))) (by decide +kernel)
theorem xw_40 : (Jvm.Cond.instantiable "FrameRound$Plan" (2 : Nat)) ∈ jm_T := jm_inT' (List.mem_append_right _ (List.mem_of_getElem? (i := 40) (by decide +kernel))) (by decide +kernel)
theorem xw_41 : (Jvm.Cond.methodLink "FrameRound$Reader" (17 : Nat) ({ cls := "FrameRound$Plan", name := "<init>", desc := "()V" } : Jvm.MethodName)) ∈ jm_T := jm_inT' (List.mem_append_right _ (List.mem_of_getElem? (i := 41) (by decide +kernel))) (by decide +kernel)
theorem xw_42 : (Jvm.Cond.instanceMethod ({ cls := "FrameRound$Plan", name := "<init>", desc := "()V" } : Jvm.MethodName)) ∈ jm_T := jm_inT' (List.mem_append_right _ (List.mem_of_getElem? (i := 42) (by decide +kernel))) (by decide +kernel)
theorem xw_43 : (Jvm.Cond.code ({ cls := "FrameRound$Plan", name := "<init>", desc := "()V" } : Jvm.MethodName) prog_5_method_1_code (2 : Nat) (Option.none : Option Jvm.ClassFile.FieldType)) ∈ jm_T := jm_inT' (List.mem_append_right _ (List.mem_of_getElem? (i := 43) (by decide +kernel))) (by decide +kernel)
theorem xw_44 : (Jvm.Cond.methodLink "FrameRound$Plan" (3 : Nat) ({ cls := "java/lang/Object", name := "<init>", desc := "()V" } : Jvm.MethodName)) ∈ jm_T := jm_inT' (List.mem_append_right _ (List.mem_of_getElem? (i := 44) (by decide +kernel))) (by decide +kernel)
theorem xw_45 : (Jvm.Cond.classLink "FrameRound$Plan" (9 : Nat) "FrameRound$Mode") ∈ jm_T := jm_inT' (List.mem_append_right _ (List.mem_of_getElem? (i := 45) (by decide +kernel))) (by decide +kernel)
theorem xw_47 : (Jvm.Cond.instantiable "FrameRound$Mode" (11 : Nat)) ∈ jm_T := jm_inT' (List.mem_append_right _ (List.mem_of_getElem? (i := 47) (by decide +kernel))) (by decide +kernel)
theorem xw_48 : (Jvm.Cond.methodLink "FrameRound$Plan" (17 : Nat) ({ cls := "FrameRound$Mode", name := "<init>", desc := "()V" } : Jvm.MethodName)) ∈ jm_T := jm_inT' (List.mem_append_right _ (List.mem_of_getElem? (i := 48) (by decide +kernel))) (by decide +kernel)
theorem xw_49 : (Jvm.Cond.instanceMethod ({ cls := "FrameRound$Mode", name := "<init>", desc := "()V" } : Jvm.MethodName)) ∈ jm_T := jm_inT' (List.mem_append_right _ (List.mem_of_getElem? (i := 49) (by decide +kernel))) (by decide +kernel)
theorem xw_50 : (Jvm.Cond.code ({ cls := "FrameRound$Mode", name := "<init>", desc := "()V" } : Jvm.MethodName) prog_4_method_1_code (1 : Nat) (Option.none : Option Jvm.ClassFile.FieldType)) ∈ jm_T := jm_inT' (List.mem_append_right _ (List.mem_of_getElem? (i := 50) (by decide +kernel))) (by decide +kernel)
theorem xw_51 : (Jvm.Cond.methodLink "FrameRound$Mode" (3 : Nat) ({ cls := "java/lang/Object", name := "<init>", desc := "()V" } : Jvm.MethodName)) ∈ jm_T := jm_inT' (List.mem_append_right _ (List.mem_of_getElem? (i := 51) (by decide +kernel))) (by decide +kernel)
theorem xw_66 : (Jvm.Cond.fieldLink "FrameRound$Mode" (9 : Nat) "FrameRound$Mode" "phase" "[I") ∈ jm_T := jm_inT' (List.mem_append_right _ (List.mem_of_getElem? (i := 66) (by decide +kernel))) (by decide +kernel)
theorem xw_68 : (Jvm.Cond.fieldLink "FrameRound$Mode" (15 : Nat) "FrameRound$Mode" "period" "[I") ∈ jm_T := jm_inT' (List.mem_append_right _ (List.mem_of_getElem? (i := 68) (by decide +kernel))) (by decide +kernel)
theorem xw_70 : (Jvm.Cond.fieldLink "FrameRound$Mode" (18 : Nat) "FrameRound$Mode" "cost" "[I") ∈ jm_T := jm_inT' (List.mem_append_right _ (List.mem_of_getElem? (i := 70) (by decide +kernel))) (by decide +kernel)
theorem xw_74 : (Jvm.Cond.fieldLink "FrameRound$Mode" (21 : Nat) "FrameRound$Mode" "span" "[I") ∈ jm_T := jm_inT' (List.mem_append_right _ (List.mem_of_getElem? (i := 74) (by decide +kernel))) (by decide +kernel)
theorem xw_78 : (Jvm.Cond.fieldLink "FrameRound$Mode" (24 : Nat) "FrameRound$Mode" "jobTask" "[I") ∈ jm_T := jm_inT' (List.mem_append_right _ (List.mem_of_getElem? (i := 78) (by decide +kernel))) (by decide +kernel)
theorem xw_80 : (Jvm.Cond.fieldLink "FrameRound$Mode" (27 : Nat) "FrameRound$Mode" "jobRelease" "[I") ∈ jm_T := jm_inT' (List.mem_append_right _ (List.mem_of_getElem? (i := 80) (by decide +kernel))) (by decide +kernel)
theorem xw_105 : (Jvm.Cond.arrayClass Jvm.ClassFile.FieldType.byte) ∈ jm_T := jm_inT' (List.mem_append_right _ (List.mem_of_getElem? (i := 105) (by decide +kernel))) (by decide +kernel)
theorem xw_106 : (Jvm.Cond.arrayClass Jvm.ClassFile.FieldType.int) ∈ jm_T := jm_inT' (List.mem_append_right _ (List.mem_of_getElem? (i := 106) (by decide +kernel))) (by decide +kernel)
theorem xw_110 : (Jvm.Cond.fieldLink "FrameRound$Plan" (11 : Nat) "FrameRound$Plan" "mode" "[LFrameRound$Mode;") ∈ jm_T := jm_inT' (List.mem_append_right _ (List.mem_of_getElem? (i := 110) (by decide +kernel))) (by decide +kernel)
theorem xw_118 : (Jvm.Cond.fieldLink "FrameRound$Reader" (9 : Nat) "FrameRound$Reader" "tape" "[B") ∈ jm_T := jm_inT' (List.mem_append_right _ (List.mem_of_getElem? (i := 118) (by decide +kernel))) (by decide +kernel)
theorem xw_129 : (Jvm.Cond.fieldLink "FrameRound$Reader" (18 : Nat) "FrameRound$Reader" "draft" "LFrameRound$Plan;") ∈ jm_T := jm_inT' (List.mem_append_right _ (List.mem_of_getElem? (i := 129) (by decide +kernel))) (by decide +kernel)
theorem xw_152 : (Jvm.Cond.classLink "FrameRound" (16 : Nat) "FrameRound$Plan") ∈ jm_T := jm_inT' (List.mem_append_right _ (List.mem_of_getElem? (i := 152) (by decide +kernel))) (by decide +kernel)
theorem xw_153 : (Jvm.Cond.methodLink "FrameRound" (18 : Nat) ({ cls := "FrameRound$Plan", name := "<init>", desc := "()V" } : Jvm.MethodName)) ∈ jm_T := jm_inT' (List.mem_append_right _ (List.mem_of_getElem? (i := 153) (by decide +kernel))) (by decide +kernel)
theorem xw_154 : (Jvm.Cond.classLink "FrameRound" (23 : Nat) "FrameRound$Table") ∈ jm_T := jm_inT' (List.mem_append_right _ (List.mem_of_getElem? (i := 154) (by decide +kernel))) (by decide +kernel)
theorem xw_156 : (Jvm.Cond.instantiable "FrameRound$Table" (4 : Nat)) ∈ jm_T := jm_inT' (List.mem_append_right _ (List.mem_of_getElem? (i := 156) (by decide +kernel))) (by decide +kernel)
theorem xw_157 : (Jvm.Cond.methodLink "FrameRound" (29 : Nat) ({ cls := "FrameRound$Table", name := "<init>", desc := "()V" } : Jvm.MethodName)) ∈ jm_T := jm_inT' (List.mem_append_right _ (List.mem_of_getElem? (i := 157) (by decide +kernel))) (by decide +kernel)
theorem xw_158 : (Jvm.Cond.instanceMethod ({ cls := "FrameRound$Table", name := "<init>", desc := "()V" } : Jvm.MethodName)) ∈ jm_T := jm_inT' (List.mem_append_right _ (List.mem_of_getElem? (i := 158) (by decide +kernel))) (by decide +kernel)
theorem xw_159 : (Jvm.Cond.code ({ cls := "FrameRound$Table", name := "<init>", desc := "()V" } : Jvm.MethodName) prog_8_method_1_code (1 : Nat) (Option.none : Option Jvm.ClassFile.FieldType)) ∈ jm_T := jm_inT' (List.mem_append_right _ (List.mem_of_getElem? (i := 159) (by decide +kernel))) (by decide +kernel)
theorem xw_160 : (Jvm.Cond.methodLink "FrameRound$Table" (3 : Nat) ({ cls := "java/lang/Object", name := "<init>", desc := "()V" } : Jvm.MethodName)) ∈ jm_T := jm_inT' (List.mem_append_right _ (List.mem_of_getElem? (i := 160) (by decide +kernel))) (by decide +kernel)
theorem xw_161 : (Jvm.Cond.classLink "FrameRound$Table" (9 : Nat) "FrameRound$Flow") ∈ jm_T := jm_inT' (List.mem_append_right _ (List.mem_of_getElem? (i := 161) (by decide +kernel))) (by decide +kernel)
theorem xw_162 : (Jvm.Cond.instantiable "FrameRound$Flow" (13 : Nat)) ∈ jm_T := jm_inT' (List.mem_append_right _ (List.mem_of_getElem? (i := 162) (by decide +kernel))) (by decide +kernel)
theorem xw_163 : (Jvm.Cond.methodLink "FrameRound$Table" (11 : Nat) ({ cls := "FrameRound$Flow", name := "<init>", desc := "()V" } : Jvm.MethodName)) ∈ jm_T := jm_inT' (List.mem_append_right _ (List.mem_of_getElem? (i := 163) (by decide +kernel))) (by decide +kernel)
theorem xw_164 : (Jvm.Cond.instanceMethod ({ cls := "FrameRound$Flow", name := "<init>", desc := "()V" } : Jvm.MethodName)) ∈ jm_T := jm_inT' (List.mem_append_right _ (List.mem_of_getElem? (i := 164) (by decide +kernel))) (by decide +kernel)
theorem xw_165 : (Jvm.Cond.code ({ cls := "FrameRound$Flow", name := "<init>", desc := "()V" } : Jvm.MethodName) prog_3_method_1_code (1 : Nat) (Option.none : Option Jvm.ClassFile.FieldType)) ∈ jm_T := jm_inT' (List.mem_append_right _ (List.mem_of_getElem? (i := 165) (by decide +kernel))) (by decide +kernel)
theorem xw_166 : (Jvm.Cond.methodLink "FrameRound$Flow" (3 : Nat) ({ cls := "java/lang/Object", name := "<init>", desc := "()V" } : Jvm.MethodName)) ∈ jm_T := jm_inT' (List.mem_append_right _ (List.mem_of_getElem? (i := 166) (by decide +kernel))) (by decide +kernel)
theorem xw_167 : (Jvm.Cond.classLink "FrameRound$Flow" (36 : Nat) "[[I") ∈ jm_T := jm_inT' (List.mem_append_right _ (List.mem_of_getElem? (i := 167) (by decide +kernel))) (by decide +kernel)
theorem xw_182 : (Jvm.Cond.fieldLink "FrameRound$Flow" (9 : Nat) "FrameRound$Flow" "task" "[I") ∈ jm_T := jm_inT' (List.mem_append_right _ (List.mem_of_getElem? (i := 182) (by decide +kernel))) (by decide +kernel)
theorem xw_184 : (Jvm.Cond.fieldLink "FrameRound$Flow" (15 : Nat) "FrameRound$Flow" "release" "[I") ∈ jm_T := jm_inT' (List.mem_append_right _ (List.mem_of_getElem? (i := 184) (by decide +kernel))) (by decide +kernel)
theorem xw_187 : (Jvm.Cond.fieldLink "FrameRound$Flow" (18 : Nat) "FrameRound$Flow" "due" "[I") ∈ jm_T := jm_inT' (List.mem_append_right _ (List.mem_of_getElem? (i := 187) (by decide +kernel))) (by decide +kernel)
theorem xw_190 : (Jvm.Cond.fieldLink "FrameRound$Flow" (21 : Nat) "FrameRound$Flow" "cost" "[I") ∈ jm_T := jm_inT' (List.mem_append_right _ (List.mem_of_getElem? (i := 190) (by decide +kernel))) (by decide +kernel)
theorem xw_193 : (Jvm.Cond.fieldLink "FrameRound$Flow" (24 : Nat) "FrameRound$Flow" "first" "[I") ∈ jm_T := jm_inT' (List.mem_append_right _ (List.mem_of_getElem? (i := 193) (by decide +kernel))) (by decide +kernel)
theorem xw_196 : (Jvm.Cond.fieldLink "FrameRound$Flow" (27 : Nat) "FrameRound$Flow" "last" "[I") ∈ jm_T := jm_inT' (List.mem_append_right _ (List.mem_of_getElem? (i := 196) (by decide +kernel))) (by decide +kernel)
theorem xw_199 : (Jvm.Cond.fieldLink "FrameRound$Flow" (30 : Nat) "FrameRound$Flow" "left" "[I") ∈ jm_T := jm_inT' (List.mem_append_right _ (List.mem_of_getElem? (i := 199) (by decide +kernel))) (by decide +kernel)
theorem xw_201 : (Jvm.Cond.fieldLink "FrameRound$Flow" (33 : Nat) "FrameRound$Flow" "slack" "[I") ∈ jm_T := jm_inT' (List.mem_append_right _ (List.mem_of_getElem? (i := 201) (by decide +kernel))) (by decide +kernel)
theorem xw_205 : (Jvm.Cond.fieldLink "FrameRound$Flow" (38 : Nat) "FrameRound$Flow" "units" "[[I") ∈ jm_T := jm_inT' (List.mem_append_right _ (List.mem_of_getElem? (i := 205) (by decide +kernel))) (by decide +kernel)
theorem xw_235 : (Jvm.Cond.fieldLink "FrameRound$Table" (12 : Nat) "FrameRound$Table" "flow" "LFrameRound$Flow;") ∈ jm_T := jm_inT' (List.mem_append_right _ (List.mem_of_getElem? (i := 235) (by decide +kernel))) (by decide +kernel)
theorem xw_252 : (Jvm.Cond.classLink "FrameRound" (34 : Nat) "FrameRound$Supply") ∈ jm_T := jm_inT' (List.mem_append_right _ (List.mem_of_getElem? (i := 252) (by decide +kernel))) (by decide +kernel)
theorem xw_253 : (Jvm.Cond.instantiable "FrameRound$Supply" (3 : Nat)) ∈ jm_T := jm_inT' (List.mem_append_right _ (List.mem_of_getElem? (i := 253) (by decide +kernel))) (by decide +kernel)
theorem xw_254 : (Jvm.Cond.methodLink "FrameRound" (36 : Nat) ({ cls := "FrameRound$Supply", name := "<init>", desc := "()V" } : Jvm.MethodName)) ∈ jm_T := jm_inT' (List.mem_append_right _ (List.mem_of_getElem? (i := 254) (by decide +kernel))) (by decide +kernel)
theorem xw_255 : (Jvm.Cond.instanceMethod ({ cls := "FrameRound$Supply", name := "<init>", desc := "()V" } : Jvm.MethodName)) ∈ jm_T := jm_inT' (List.mem_append_right _ (List.mem_of_getElem? (i := 255) (by decide +kernel))) (by decide +kernel)
theorem xw_256 : (Jvm.Cond.code ({ cls := "FrameRound$Supply", name := "<init>", desc := "()V" } : Jvm.MethodName) prog_7_method_1_code (1 : Nat) (Option.none : Option Jvm.ClassFile.FieldType)) ∈ jm_T := jm_inT' (List.mem_append_right _ (List.mem_of_getElem? (i := 256) (by decide +kernel))) (by decide +kernel)
theorem xw_257 : (Jvm.Cond.methodLink "FrameRound$Supply" (3 : Nat) ({ cls := "java/lang/Object", name := "<init>", desc := "()V" } : Jvm.MethodName)) ∈ jm_T := jm_inT' (List.mem_append_right _ (List.mem_of_getElem? (i := 257) (by decide +kernel))) (by decide +kernel)
theorem xw_258 : (Jvm.Cond.fieldLink "FrameRound$Supply" (9 : Nat) "FrameRound$Supply" "own" "[I") ∈ jm_T := jm_inT' (List.mem_append_right _ (List.mem_of_getElem? (i := 258) (by decide +kernel))) (by decide +kernel)
theorem xw_260 : (Jvm.Cond.fieldLink "FrameRound$Supply" (15 : Nat) "FrameRound$Supply" "other" "[I") ∈ jm_T := jm_inT' (List.mem_append_right _ (List.mem_of_getElem? (i := 260) (by decide +kernel))) (by decide +kernel)
theorem xw_271 : (Jvm.Cond.classLink "FrameRound" (41 : Nat) "FrameRound$Clock") ∈ jm_T := jm_inT' (List.mem_append_right _ (List.mem_of_getElem? (i := 271) (by decide +kernel))) (by decide +kernel)
theorem xw_272 : (Jvm.Cond.instantiable "FrameRound$Clock" (12 : Nat)) ∈ jm_T := jm_inT' (List.mem_append_right _ (List.mem_of_getElem? (i := 272) (by decide +kernel))) (by decide +kernel)
theorem xw_273 : (Jvm.Cond.methodLink "FrameRound" (43 : Nat) ({ cls := "FrameRound$Clock", name := "<init>", desc := "()V" } : Jvm.MethodName)) ∈ jm_T := jm_inT' (List.mem_append_right _ (List.mem_of_getElem? (i := 273) (by decide +kernel))) (by decide +kernel)
theorem xw_274 : (Jvm.Cond.instanceMethod ({ cls := "FrameRound$Clock", name := "<init>", desc := "()V" } : Jvm.MethodName)) ∈ jm_T := jm_inT' (List.mem_append_right _ (List.mem_of_getElem? (i := 274) (by decide +kernel))) (by decide +kernel)
theorem xw_275 : (Jvm.Cond.code ({ cls := "FrameRound$Clock", name := "<init>", desc := "()V" } : Jvm.MethodName) prog_2_method_1_code (1 : Nat) (Option.none : Option Jvm.ClassFile.FieldType)) ∈ jm_T := jm_inT' (List.mem_append_right _ (List.mem_of_getElem? (i := 275) (by decide +kernel))) (by decide +kernel)
theorem xw_276 : (Jvm.Cond.methodLink "FrameRound$Clock" (3 : Nat) ({ cls := "java/lang/Object", name := "<init>", desc := "()V" } : Jvm.MethodName)) ∈ jm_T := jm_inT' (List.mem_append_right _ (List.mem_of_getElem? (i := 276) (by decide +kernel))) (by decide +kernel)
theorem xw_293 : (Jvm.Cond.fieldLink "FrameRound$Clock" (18 : Nat) "FrameRound$Clock" "nextMode" "I") ∈ jm_T := jm_inT' (List.mem_append_right _ (List.mem_of_getElem? (i := 293) (by decide +kernel))) (by decide +kernel)
theorem xw_295 : (Jvm.Cond.fieldLink "FrameRound$Clock" (22 : Nat) "FrameRound$Clock" "nextTime" "I") ∈ jm_T := jm_inT' (List.mem_append_right _ (List.mem_of_getElem? (i := 295) (by decide +kernel))) (by decide +kernel)
theorem xw_297 : (Jvm.Cond.fieldLink "FrameRound$Clock" (25 : Nat) "FrameRound$Clock" "leastLeft" "I") ∈ jm_T := jm_inT' (List.mem_append_right _ (List.mem_of_getElem? (i := 297) (by decide +kernel))) (by decide +kernel)
theorem xw_298 : (Jvm.Cond.fieldLink "FrameRound$Clock" (9 : Nat) "FrameRound$Clock" "need" "[I") ∈ jm_T := jm_inT' (List.mem_append_right _ (List.mem_of_getElem? (i := 298) (by decide +kernel))) (by decide +kernel)
theorem xw_301 : (Jvm.Cond.fieldLink "FrameRound$Clock" (15 : Nat) "FrameRound$Clock" "due" "[I") ∈ jm_T := jm_inT' (List.mem_append_right _ (List.mem_of_getElem? (i := 301) (by decide +kernel))) (by decide +kernel)
theorem xw_329 : (Jvm.Cond.fieldLink "FrameRound" (10 : Nat) "FrameRound" "reader" "LFrameRound$Reader;") ∈ jm_T := jm_inT' (List.mem_append_right _ (List.mem_of_getElem? (i := 329) (by decide +kernel))) (by decide +kernel)
theorem xw_330 : (Jvm.Cond.fieldLink "FrameRound" (19 : Nat) "FrameRound" "plan" "LFrameRound$Plan;") ∈ jm_T := jm_inT' (List.mem_append_right _ (List.mem_of_getElem? (i := 330) (by decide +kernel))) (by decide +kernel)
theorem xw_331 : (Jvm.Cond.fieldLink "FrameRound" (25 : Nat) "FrameRound" "tables" "[LFrameRound$Table;") ∈ jm_T := jm_inT' (List.mem_append_right _ (List.mem_of_getElem? (i := 331) (by decide +kernel))) (by decide +kernel)
theorem xw_332 : (Jvm.Cond.fieldLink "FrameRound" (30 : Nat) "FrameRound" "trial" "LFrameRound$Table;") ∈ jm_T := jm_inT' (List.mem_append_right _ (List.mem_of_getElem? (i := 332) (by decide +kernel))) (by decide +kernel)
theorem xw_333 : (Jvm.Cond.fieldLink "FrameRound" (37 : Nat) "FrameRound" "supply" "LFrameRound$Supply;") ∈ jm_T := jm_inT' (List.mem_append_right _ (List.mem_of_getElem? (i := 333) (by decide +kernel))) (by decide +kernel)
theorem xw_334 : (Jvm.Cond.fieldLink "FrameRound" (44 : Nat) "FrameRound" "clock" "LFrameRound$Clock;") ∈ jm_T := jm_inT' (List.mem_append_right _ (List.mem_of_getElem? (i := 334) (by decide +kernel))) (by decide +kernel)
theorem xw_335 : (Jvm.Cond.fieldLink "FrameRound" (48 : Nat) "FrameRound" "kept" "LFrameRound$Clock;") ∈ jm_T := jm_inT' (List.mem_append_right _ (List.mem_of_getElem? (i := 335) (by decide +kernel))) (by decide +kernel)
theorem xw_339 : (Jvm.Cond.fieldLink "FrameRound" (51 : Nat) "FrameRound" "place" "I") ∈ jm_T := jm_inT' (List.mem_append_right _ (List.mem_of_getElem? (i := 339) (by decide +kernel))) (by decide +kernel)
theorem xw_1142 : (Jvm.Cond.methodLink "FrameRoundModel" (13 : Nat) ({ cls := "java/lang/Object", name := "<init>", desc := "()V" } : Jvm.MethodName)) ∈ jm_T := jm_inT' (List.mem_append_right _ (List.mem_of_getElem? (i := 1142) (by decide +kernel))) (by decide +kernel)
theorem xw_1146 : (Jvm.Cond.fieldLink "FrameRoundModel" (10 : Nat) "FrameRoundModel" "where" "I") ∈ jm_T := jm_inT' (List.mem_append_right _ (List.mem_of_getElem? (i := 1146) (by decide +kernel))) (by decide +kernel)
theorem xw_1147 : (Jvm.Cond.fieldLink "FrameRoundModel" (19 : Nat) "FrameRoundModel" "tape" "[I") ∈ jm_T := jm_inT' (List.mem_append_right _ (List.mem_of_getElem? (i := 1147) (by decide +kernel))) (by decide +kernel)
theorem xw_1151 : (Jvm.Cond.fieldLink "FrameRoundModel" (23 : Nat) "FrameRoundModel" "frame" "[I") ∈ jm_T := jm_inT' (List.mem_append_right _ (List.mem_of_getElem? (i := 1151) (by decide +kernel))) (by decide +kernel)
theorem xw_1152 : (Jvm.Cond.fieldLink "FrameRoundModel" (26 : Nat) "FrameRoundModel" "reserve" "[I") ∈ jm_T := jm_inT' (List.mem_append_right _ (List.mem_of_getElem? (i := 1152) (by decide +kernel))) (by decide +kernel)
theorem xw_1153 : (Jvm.Cond.fieldLink "FrameRoundModel" (29 : Nat) "FrameRoundModel" "taskMany" "[I") ∈ jm_T := jm_inT' (List.mem_append_right _ (List.mem_of_getElem? (i := 1153) (by decide +kernel))) (by decide +kernel)
theorem xw_1154 : (Jvm.Cond.fieldLink "FrameRoundModel" (32 : Nat) "FrameRoundModel" "round" "[I") ∈ jm_T := jm_inT' (List.mem_append_right _ (List.mem_of_getElem? (i := 1154) (by decide +kernel))) (by decide +kernel)
theorem xw_1155 : (Jvm.Cond.fieldLink "FrameRoundModel" (35 : Nat) "FrameRoundModel" "phase" "[I") ∈ jm_T := jm_inT' (List.mem_append_right _ (List.mem_of_getElem? (i := 1155) (by decide +kernel))) (by decide +kernel)
theorem xw_1156 : (Jvm.Cond.fieldLink "FrameRoundModel" (38 : Nat) "FrameRoundModel" "period" "[I") ∈ jm_T := jm_inT' (List.mem_append_right _ (List.mem_of_getElem? (i := 1156) (by decide +kernel))) (by decide +kernel)
theorem xw_1157 : (Jvm.Cond.fieldLink "FrameRoundModel" (41 : Nat) "FrameRoundModel" "cost" "[I") ∈ jm_T := jm_inT' (List.mem_append_right _ (List.mem_of_getElem? (i := 1157) (by decide +kernel))) (by decide +kernel)
theorem xw_1158 : (Jvm.Cond.fieldLink "FrameRoundModel" (44 : Nat) "FrameRoundModel" "span" "[I") ∈ jm_T := jm_inT' (List.mem_append_right _ (List.mem_of_getElem? (i := 1158) (by decide +kernel))) (by decide +kernel)
theorem xw_1166 : (Jvm.Cond.fieldLink "FrameRoundModel" (47 : Nat) "FrameRoundModel" "jobMany" "[I") ∈ jm_T := jm_inT' (List.mem_append_right _ (List.mem_of_getElem? (i := 1166) (by decide +kernel))) (by decide +kernel)
theorem xw_1167 : (Jvm.Cond.fieldLink "FrameRoundModel" (50 : Nat) "FrameRoundModel" "jobTask" "[I") ∈ jm_T := jm_inT' (List.mem_append_right _ (List.mem_of_getElem? (i := 1167) (by decide +kernel))) (by decide +kernel)
theorem xw_1168 : (Jvm.Cond.fieldLink "FrameRoundModel" (53 : Nat) "FrameRoundModel" "jobAt" "[I") ∈ jm_T := jm_inT' (List.mem_append_right _ (List.mem_of_getElem? (i := 1168) (by decide +kernel))) (by decide +kernel)
theorem xw_1172 : (Jvm.Cond.fieldLink "FrameRoundModel" (56 : Nat) "FrameRoundModel" "first" "[I") ∈ jm_T := jm_inT' (List.mem_append_right _ (List.mem_of_getElem? (i := 1172) (by decide +kernel))) (by decide +kernel)
theorem xw_1173 : (Jvm.Cond.fieldLink "FrameRoundModel" (59 : Nat) "FrameRoundModel" "last" "[I") ∈ jm_T := jm_inT' (List.mem_append_right _ (List.mem_of_getElem? (i := 1173) (by decide +kernel))) (by decide +kernel)
theorem xw_1174 : (Jvm.Cond.fieldLink "FrameRoundModel" (62 : Nat) "FrameRoundModel" "asks" "[I") ∈ jm_T := jm_inT' (List.mem_append_right _ (List.mem_of_getElem? (i := 1174) (by decide +kernel))) (by decide +kernel)
theorem xw_1175 : (Jvm.Cond.fieldLink "FrameRoundModel" (65 : Nat) "FrameRoundModel" "overUpTo" "[I") ∈ jm_T := jm_inT' (List.mem_append_right _ (List.mem_of_getElem? (i := 1175) (by decide +kernel))) (by decide +kernel)
theorem xw_1176 : (Jvm.Cond.fieldLink "FrameRoundModel" (68 : Nat) "FrameRoundModel" "units" "[I") ∈ jm_T := jm_inT' (List.mem_append_right _ (List.mem_of_getElem? (i := 1176) (by decide +kernel))) (by decide +kernel)
theorem xw_1177 : (Jvm.Cond.fieldLink "FrameRoundModel" (71 : Nat) "FrameRoundModel" "left" "[I") ∈ jm_T := jm_inT' (List.mem_append_right _ (List.mem_of_getElem? (i := 1177) (by decide +kernel))) (by decide +kernel)
theorem xw_1179 : (Jvm.Cond.fieldLink "FrameRoundModel" (74 : Nat) "FrameRoundModel" "wants" "[I") ∈ jm_T := jm_inT' (List.mem_append_right _ (List.mem_of_getElem? (i := 1179) (by decide +kernel))) (by decide +kernel)
theorem xw_1180 : (Jvm.Cond.fieldLink "FrameRoundModel" (77 : Nat) "FrameRoundModel" "known" "[I") ∈ jm_T := jm_inT' (List.mem_append_right _ (List.mem_of_getElem? (i := 1180) (by decide +kernel))) (by decide +kernel)
theorem xw_1181 : (Jvm.Cond.fieldLink "FrameRoundModel" (80 : Nat) "FrameRoundModel" "table" "[I") ∈ jm_T := jm_inT' (List.mem_append_right _ (List.mem_of_getElem? (i := 1181) (by decide +kernel))) (by decide +kernel)
theorem xw_1182 : (Jvm.Cond.fieldLink "FrameRoundModel" (83 : Nat) "FrameRoundModel" "tidiedOf" "[I") ∈ jm_T := jm_inT' (List.mem_append_right _ (List.mem_of_getElem? (i := 1182) (by decide +kernel))) (by decide +kernel)
theorem xw_1183 : (Jvm.Cond.fieldLink "FrameRoundModel" (86 : Nat) "FrameRoundModel" "slacks" "[I") ∈ jm_T := jm_inT' (List.mem_append_right _ (List.mem_of_getElem? (i := 1183) (by decide +kernel))) (by decide +kernel)
theorem xw_1184 : (Jvm.Cond.fieldLink "FrameRoundModel" (89 : Nat) "FrameRoundModel" "clock" "[I") ∈ jm_T := jm_inT' (List.mem_append_right _ (List.mem_of_getElem? (i := 1184) (by decide +kernel))) (by decide +kernel)
theorem xw_1185 : (Jvm.Cond.fieldLink "FrameRoundModel" (92 : Nat) "FrameRoundModel" "kept" "[I") ∈ jm_T := jm_inT' (List.mem_append_right _ (List.mem_of_getElem? (i := 1185) (by decide +kernel))) (by decide +kernel)
theorem xw_obj : Cond.code Lib.objectInit ⟨#[0xb1]⟩ 1 none ∈ jm_T := jm_inT' (List.mem_append_right _ (List.mem_of_getElem? (i := 32) (by decide +kernel))) (by decide +kernel)
theorem kd_Mode_0 : decode prog_4_method_1_code 0 = .ok (.aload_n 0, 1) := by decide +kernel
theorem kd_Mode_1 : decode prog_4_method_1_code 1 = .ok (.invokespecial 3, 3) := by decide +kernel
theorem kd_Mode_4 : decode prog_4_method_1_code 4 = .ok (.aload_n 0, 1) := by decide +kernel
theorem kd_Mode_5 : decode prog_4_method_1_code 5 = .ok (.bipush 6, 2) := by decide +kernel
theorem kd_Mode_7 : decode prog_4_method_1_code 7 = .ok (.newarray .int, 2) := by decide +kernel
theorem kd_Mode_9 : decode prog_4_method_1_code 9 = .ok (.putfield 9, 3) := by decide +kernel
theorem kd_Mode_12 : decode prog_4_method_1_code 12 = .ok (.aload_n 0, 1) := by decide +kernel
theorem kd_Mode_13 : decode prog_4_method_1_code 13 = .ok (.bipush 6, 2) := by decide +kernel
theorem kd_Mode_15 : decode prog_4_method_1_code 15 = .ok (.newarray .int, 2) := by decide +kernel
theorem kd_Mode_17 : decode prog_4_method_1_code 17 = .ok (.putfield 15, 3) := by decide +kernel
theorem kd_Mode_20 : decode prog_4_method_1_code 20 = .ok (.aload_n 0, 1) := by decide +kernel
theorem kd_Mode_21 : decode prog_4_method_1_code 21 = .ok (.bipush 6, 2) := by decide +kernel
theorem kd_Mode_23 : decode prog_4_method_1_code 23 = .ok (.newarray .int, 2) := by decide +kernel
theorem kd_Mode_25 : decode prog_4_method_1_code 25 = .ok (.putfield 18, 3) := by decide +kernel
theorem kd_Mode_28 : decode prog_4_method_1_code 28 = .ok (.aload_n 0, 1) := by decide +kernel
theorem kd_Mode_29 : decode prog_4_method_1_code 29 = .ok (.bipush 6, 2) := by decide +kernel
theorem kd_Mode_31 : decode prog_4_method_1_code 31 = .ok (.newarray .int, 2) := by decide +kernel
theorem kd_Mode_33 : decode prog_4_method_1_code 33 = .ok (.putfield 21, 3) := by decide +kernel
theorem kd_Mode_36 : decode prog_4_method_1_code 36 = .ok (.aload_n 0, 1) := by decide +kernel
theorem kd_Mode_37 : decode prog_4_method_1_code 37 = .ok (.bipush 24, 2) := by decide +kernel
theorem kd_Mode_39 : decode prog_4_method_1_code 39 = .ok (.newarray .int, 2) := by decide +kernel
theorem kd_Mode_41 : decode prog_4_method_1_code 41 = .ok (.putfield 24, 3) := by decide +kernel
theorem kd_Mode_44 : decode prog_4_method_1_code 44 = .ok (.aload_n 0, 1) := by decide +kernel
theorem kd_Mode_45 : decode prog_4_method_1_code 45 = .ok (.bipush 24, 2) := by decide +kernel
theorem kd_Mode_47 : decode prog_4_method_1_code 47 = .ok (.newarray .int, 2) := by decide +kernel
theorem kd_Mode_49 : decode prog_4_method_1_code 49 = .ok (.putfield 27, 3) := by decide +kernel
theorem kd_Mode_52 : decode prog_4_method_1_code 52 = .ok (.return_, 1) := by decide +kernel
theorem kd_Flow_0 : decode prog_3_method_1_code 0 = .ok (.aload_n 0, 1) := by decide +kernel
theorem kd_Flow_1 : decode prog_3_method_1_code 1 = .ok (.invokespecial 3, 3) := by decide +kernel
theorem kd_Flow_4 : decode prog_3_method_1_code 4 = .ok (.aload_n 0, 1) := by decide +kernel
theorem kd_Flow_5 : decode prog_3_method_1_code 5 = .ok (.bipush 24, 2) := by decide +kernel
theorem kd_Flow_7 : decode prog_3_method_1_code 7 = .ok (.newarray .int, 2) := by decide +kernel
theorem kd_Flow_9 : decode prog_3_method_1_code 9 = .ok (.putfield 9, 3) := by decide +kernel
theorem kd_Flow_12 : decode prog_3_method_1_code 12 = .ok (.aload_n 0, 1) := by decide +kernel
theorem kd_Flow_13 : decode prog_3_method_1_code 13 = .ok (.bipush 24, 2) := by decide +kernel
theorem kd_Flow_15 : decode prog_3_method_1_code 15 = .ok (.newarray .int, 2) := by decide +kernel
theorem kd_Flow_17 : decode prog_3_method_1_code 17 = .ok (.putfield 15, 3) := by decide +kernel
theorem kd_Flow_20 : decode prog_3_method_1_code 20 = .ok (.aload_n 0, 1) := by decide +kernel
theorem kd_Flow_21 : decode prog_3_method_1_code 21 = .ok (.bipush 24, 2) := by decide +kernel
theorem kd_Flow_23 : decode prog_3_method_1_code 23 = .ok (.newarray .int, 2) := by decide +kernel
theorem kd_Flow_25 : decode prog_3_method_1_code 25 = .ok (.putfield 18, 3) := by decide +kernel
theorem kd_Flow_28 : decode prog_3_method_1_code 28 = .ok (.aload_n 0, 1) := by decide +kernel
theorem kd_Flow_29 : decode prog_3_method_1_code 29 = .ok (.bipush 24, 2) := by decide +kernel
theorem kd_Flow_31 : decode prog_3_method_1_code 31 = .ok (.newarray .int, 2) := by decide +kernel
theorem kd_Flow_33 : decode prog_3_method_1_code 33 = .ok (.putfield 21, 3) := by decide +kernel
theorem kd_Flow_36 : decode prog_3_method_1_code 36 = .ok (.aload_n 0, 1) := by decide +kernel
theorem kd_Flow_37 : decode prog_3_method_1_code 37 = .ok (.bipush 24, 2) := by decide +kernel
theorem kd_Flow_39 : decode prog_3_method_1_code 39 = .ok (.newarray .int, 2) := by decide +kernel
theorem kd_Flow_41 : decode prog_3_method_1_code 41 = .ok (.putfield 24, 3) := by decide +kernel
theorem kd_Flow_44 : decode prog_3_method_1_code 44 = .ok (.aload_n 0, 1) := by decide +kernel
theorem kd_Flow_45 : decode prog_3_method_1_code 45 = .ok (.bipush 24, 2) := by decide +kernel
theorem kd_Flow_47 : decode prog_3_method_1_code 47 = .ok (.newarray .int, 2) := by decide +kernel
theorem kd_Flow_49 : decode prog_3_method_1_code 49 = .ok (.putfield 27, 3) := by decide +kernel
theorem kd_Flow_52 : decode prog_3_method_1_code 52 = .ok (.aload_n 0, 1) := by decide +kernel
theorem kd_Flow_53 : decode prog_3_method_1_code 53 = .ok (.bipush 24, 2) := by decide +kernel
theorem kd_Flow_55 : decode prog_3_method_1_code 55 = .ok (.newarray .int, 2) := by decide +kernel
theorem kd_Flow_57 : decode prog_3_method_1_code 57 = .ok (.putfield 30, 3) := by decide +kernel
theorem kd_Flow_60 : decode prog_3_method_1_code 60 = .ok (.aload_n 0, 1) := by decide +kernel
theorem kd_Flow_61 : decode prog_3_method_1_code 61 = .ok (.bipush 24, 2) := by decide +kernel
theorem kd_Flow_63 : decode prog_3_method_1_code 63 = .ok (.newarray .int, 2) := by decide +kernel
theorem kd_Flow_65 : decode prog_3_method_1_code 65 = .ok (.putfield 33, 3) := by decide +kernel
theorem kd_Flow_68 : decode prog_3_method_1_code 68 = .ok (.aload_n 0, 1) := by decide +kernel
theorem kd_Flow_69 : decode prog_3_method_1_code 69 = .ok (.bipush 24, 2) := by decide +kernel
theorem kd_Flow_71 : decode prog_3_method_1_code 71 = .ok (.bipush 24, 2) := by decide +kernel
theorem kd_Flow_73 : decode prog_3_method_1_code 73 = .ok (.multianewarray 36 2, 4) := by decide +kernel
theorem kd_Flow_77 : decode prog_3_method_1_code 77 = .ok (.putfield 38, 3) := by decide +kernel
theorem kd_Flow_80 : decode prog_3_method_1_code 80 = .ok (.return_, 1) := by decide +kernel
theorem kd_Clock_0 : decode prog_2_method_1_code 0 = .ok (.aload_n 0, 1) := by decide +kernel
theorem kd_Clock_1 : decode prog_2_method_1_code 1 = .ok (.invokespecial 3, 3) := by decide +kernel
theorem kd_Clock_4 : decode prog_2_method_1_code 4 = .ok (.aload_n 0, 1) := by decide +kernel
theorem kd_Clock_5 : decode prog_2_method_1_code 5 = .ok (.bipush 8, 2) := by decide +kernel
theorem kd_Clock_7 : decode prog_2_method_1_code 7 = .ok (.newarray .int, 2) := by decide +kernel
theorem kd_Clock_9 : decode prog_2_method_1_code 9 = .ok (.putfield 9, 3) := by decide +kernel
theorem kd_Clock_12 : decode prog_2_method_1_code 12 = .ok (.aload_n 0, 1) := by decide +kernel
theorem kd_Clock_13 : decode prog_2_method_1_code 13 = .ok (.bipush 8, 2) := by decide +kernel
theorem kd_Clock_15 : decode prog_2_method_1_code 15 = .ok (.newarray .int, 2) := by decide +kernel
theorem kd_Clock_17 : decode prog_2_method_1_code 17 = .ok (.putfield 15, 3) := by decide +kernel
theorem kd_Clock_20 : decode prog_2_method_1_code 20 = .ok (.aload_n 0, 1) := by decide +kernel
theorem kd_Clock_21 : decode prog_2_method_1_code 21 = .ok (.bipush (-2), 2) := by decide +kernel
theorem kd_Clock_23 : decode prog_2_method_1_code 23 = .ok (.putfield 18, 3) := by decide +kernel
theorem kd_Clock_26 : decode prog_2_method_1_code 26 = .ok (.aload_n 0, 1) := by decide +kernel
theorem kd_Clock_27 : decode prog_2_method_1_code 27 = .ok (.bipush (-2), 2) := by decide +kernel
theorem kd_Clock_29 : decode prog_2_method_1_code 29 = .ok (.putfield 22, 3) := by decide +kernel
theorem kd_Clock_32 : decode prog_2_method_1_code 32 = .ok (.aload_n 0, 1) := by decide +kernel
theorem kd_Clock_33 : decode prog_2_method_1_code 33 = .ok (.bipush (-2), 2) := by decide +kernel
theorem kd_Clock_35 : decode prog_2_method_1_code 35 = .ok (.putfield 25, 3) := by decide +kernel
theorem kd_Clock_38 : decode prog_2_method_1_code 38 = .ok (.return_, 1) := by decide +kernel
theorem kd_Supply_0 : decode prog_7_method_1_code 0 = .ok (.aload_n 0, 1) := by decide +kernel
theorem kd_Supply_1 : decode prog_7_method_1_code 1 = .ok (.invokespecial 3, 3) := by decide +kernel
theorem kd_Supply_4 : decode prog_7_method_1_code 4 = .ok (.aload_n 0, 1) := by decide +kernel
theorem kd_Supply_5 : decode prog_7_method_1_code 5 = .ok (.sipush 401, 3) := by decide +kernel
theorem kd_Supply_8 : decode prog_7_method_1_code 8 = .ok (.newarray .int, 2) := by decide +kernel
theorem kd_Supply_10 : decode prog_7_method_1_code 10 = .ok (.putfield 9, 3) := by decide +kernel
theorem kd_Supply_13 : decode prog_7_method_1_code 13 = .ok (.aload_n 0, 1) := by decide +kernel
theorem kd_Supply_14 : decode prog_7_method_1_code 14 = .ok (.sipush 401, 3) := by decide +kernel
theorem kd_Supply_17 : decode prog_7_method_1_code 17 = .ok (.newarray .int, 2) := by decide +kernel
theorem kd_Supply_19 : decode prog_7_method_1_code 19 = .ok (.putfield 15, 3) := by decide +kernel
theorem kd_Supply_22 : decode prog_7_method_1_code 22 = .ok (.return_, 1) := by decide +kernel
theorem kd_Plan_0 : decode prog_5_method_1_code 0 = .ok (.aload_n 0, 1) := by decide +kernel
theorem kd_Plan_1 : decode prog_5_method_1_code 1 = .ok (.invokespecial 3, 3) := by decide +kernel
theorem kd_Plan_4 : decode prog_5_method_1_code 4 = .ok (.aload_n 0, 1) := by decide +kernel
theorem kd_Plan_5 : decode prog_5_method_1_code 5 = .ok (.iconst 3, 1) := by decide +kernel
theorem kd_Plan_6 : decode prog_5_method_1_code 6 = .ok (.anewarray 9, 3) := by decide +kernel
theorem kd_Plan_9 : decode prog_5_method_1_code 9 = .ok (.putfield 11, 3) := by decide +kernel
theorem kd_Plan_12 : decode prog_5_method_1_code 12 = .ok (.iconst 0, 1) := by decide +kernel
theorem kd_Plan_13 : decode prog_5_method_1_code 13 = .ok (.istore_n 1, 1) := by decide +kernel
theorem kd_Plan_14 : decode prog_5_method_1_code 14 = .ok (.iload_n 1, 1) := by decide +kernel
theorem kd_Plan_15 : decode prog_5_method_1_code 15 = .ok (.iconst 3, 1) := by decide +kernel
theorem kd_Plan_16 : decode prog_5_method_1_code 16 = .ok (.if_icmp .ge 22, 3) := by decide +kernel
theorem kd_Plan_19 : decode prog_5_method_1_code 19 = .ok (.aload_n 0, 1) := by decide +kernel
theorem kd_Plan_20 : decode prog_5_method_1_code 20 = .ok (.getfield 11, 3) := by decide +kernel
theorem kd_Plan_23 : decode prog_5_method_1_code 23 = .ok (.iload_n 1, 1) := by decide +kernel
theorem kd_Plan_24 : decode prog_5_method_1_code 24 = .ok (.new 9, 3) := by decide +kernel
theorem kd_Plan_27 : decode prog_5_method_1_code 27 = .ok (.dup, 1) := by decide +kernel
theorem kd_Plan_28 : decode prog_5_method_1_code 28 = .ok (.invokespecial 17, 3) := by decide +kernel
theorem kd_Plan_31 : decode prog_5_method_1_code 31 = .ok (.aastore, 1) := by decide +kernel
theorem kd_Plan_32 : decode prog_5_method_1_code 32 = .ok (.iinc 1 1, 3) := by decide +kernel
theorem kd_Plan_35 : decode prog_5_method_1_code 35 = .ok (.goto (-21), 3) := by decide +kernel
theorem kd_Plan_38 : decode prog_5_method_1_code 38 = .ok (.return_, 1) := by decide +kernel
theorem kd_Table_0 : decode prog_8_method_1_code 0 = .ok (.aload_n 0, 1) := by decide +kernel
theorem kd_Table_1 : decode prog_8_method_1_code 1 = .ok (.invokespecial 3, 3) := by decide +kernel
theorem kd_Table_4 : decode prog_8_method_1_code 4 = .ok (.aload_n 0, 1) := by decide +kernel
theorem kd_Table_5 : decode prog_8_method_1_code 5 = .ok (.new 9, 3) := by decide +kernel
theorem kd_Table_8 : decode prog_8_method_1_code 8 = .ok (.dup, 1) := by decide +kernel
theorem kd_Table_9 : decode prog_8_method_1_code 9 = .ok (.invokespecial 11, 3) := by decide +kernel
theorem kd_Table_12 : decode prog_8_method_1_code 12 = .ok (.putfield 12, 3) := by decide +kernel
theorem kd_Table_15 : decode prog_8_method_1_code 15 = .ok (.return_, 1) := by decide +kernel
theorem kd_Reader_0 : decode prog_6_method_1_code 0 = .ok (.aload_n 0, 1) := by decide +kernel
theorem kd_Reader_1 : decode prog_6_method_1_code 1 = .ok (.invokespecial 3, 3) := by decide +kernel
theorem kd_Reader_4 : decode prog_6_method_1_code 4 = .ok (.aload_n 0, 1) := by decide +kernel
theorem kd_Reader_5 : decode prog_6_method_1_code 5 = .ok (.sipush 700, 3) := by decide +kernel
theorem kd_Reader_8 : decode prog_6_method_1_code 8 = .ok (.newarray .byte, 2) := by decide +kernel
theorem kd_Reader_10 : decode prog_6_method_1_code 10 = .ok (.putfield 9, 3) := by decide +kernel
theorem kd_Reader_13 : decode prog_6_method_1_code 13 = .ok (.aload_n 0, 1) := by decide +kernel
theorem kd_Reader_14 : decode prog_6_method_1_code 14 = .ok (.new 15, 3) := by decide +kernel
theorem kd_Reader_17 : decode prog_6_method_1_code 17 = .ok (.dup, 1) := by decide +kernel
theorem kd_Reader_18 : decode prog_6_method_1_code 18 = .ok (.invokespecial 17, 3) := by decide +kernel
theorem kd_Reader_21 : decode prog_6_method_1_code 21 = .ok (.putfield 18, 3) := by decide +kernel
theorem kd_Reader_24 : decode prog_6_method_1_code 24 = .ok (.return_, 1) := by decide +kernel
theorem kd_FR_0 : decode prog_1_method_1_code 0 = .ok (.aload_n 0, 1) := by decide +kernel
theorem kd_FR_1 : decode prog_1_method_1_code 1 = .ok (.invokespecial 1, 3) := by decide +kernel
theorem kd_FR_4 : decode prog_1_method_1_code 4 = .ok (.aload_n 0, 1) := by decide +kernel
theorem kd_FR_5 : decode prog_1_method_1_code 5 = .ok (.new 7, 3) := by decide +kernel
theorem kd_FR_8 : decode prog_1_method_1_code 8 = .ok (.dup, 1) := by decide +kernel
theorem kd_FR_9 : decode prog_1_method_1_code 9 = .ok (.invokespecial 9, 3) := by decide +kernel
theorem kd_FR_12 : decode prog_1_method_1_code 12 = .ok (.putfield 10, 3) := by decide +kernel
theorem kd_FR_15 : decode prog_1_method_1_code 15 = .ok (.aload_n 0, 1) := by decide +kernel
theorem kd_FR_16 : decode prog_1_method_1_code 16 = .ok (.new 16, 3) := by decide +kernel
theorem kd_FR_19 : decode prog_1_method_1_code 19 = .ok (.dup, 1) := by decide +kernel
theorem kd_FR_20 : decode prog_1_method_1_code 20 = .ok (.invokespecial 18, 3) := by decide +kernel
theorem kd_FR_23 : decode prog_1_method_1_code 23 = .ok (.putfield 19, 3) := by decide +kernel
theorem kd_FR_26 : decode prog_1_method_1_code 26 = .ok (.aload_n 0, 1) := by decide +kernel
theorem kd_FR_27 : decode prog_1_method_1_code 27 = .ok (.iconst 3, 1) := by decide +kernel
theorem kd_FR_28 : decode prog_1_method_1_code 28 = .ok (.anewarray 23, 3) := by decide +kernel
theorem kd_FR_31 : decode prog_1_method_1_code 31 = .ok (.putfield 25, 3) := by decide +kernel
theorem kd_FR_34 : decode prog_1_method_1_code 34 = .ok (.iconst 0, 1) := by decide +kernel
theorem kd_FR_35 : decode prog_1_method_1_code 35 = .ok (.istore_n 1, 1) := by decide +kernel
theorem kd_FR_36 : decode prog_1_method_1_code 36 = .ok (.iload_n 1, 1) := by decide +kernel
theorem kd_FR_37 : decode prog_1_method_1_code 37 = .ok (.iconst 3, 1) := by decide +kernel
theorem kd_FR_38 : decode prog_1_method_1_code 38 = .ok (.if_icmp .ge 22, 3) := by decide +kernel
theorem kd_FR_41 : decode prog_1_method_1_code 41 = .ok (.aload_n 0, 1) := by decide +kernel
theorem kd_FR_42 : decode prog_1_method_1_code 42 = .ok (.getfield 25, 3) := by decide +kernel
theorem kd_FR_45 : decode prog_1_method_1_code 45 = .ok (.iload_n 1, 1) := by decide +kernel
theorem kd_FR_46 : decode prog_1_method_1_code 46 = .ok (.new 23, 3) := by decide +kernel
theorem kd_FR_49 : decode prog_1_method_1_code 49 = .ok (.dup, 1) := by decide +kernel
theorem kd_FR_50 : decode prog_1_method_1_code 50 = .ok (.invokespecial 29, 3) := by decide +kernel
theorem kd_FR_53 : decode prog_1_method_1_code 53 = .ok (.aastore, 1) := by decide +kernel
theorem kd_FR_54 : decode prog_1_method_1_code 54 = .ok (.iinc 1 1, 3) := by decide +kernel
theorem kd_FR_57 : decode prog_1_method_1_code 57 = .ok (.goto (-21), 3) := by decide +kernel
theorem kd_FR_60 : decode prog_1_method_1_code 60 = .ok (.aload_n 0, 1) := by decide +kernel
theorem kd_FR_61 : decode prog_1_method_1_code 61 = .ok (.new 23, 3) := by decide +kernel
theorem kd_FR_64 : decode prog_1_method_1_code 64 = .ok (.dup, 1) := by decide +kernel
theorem kd_FR_65 : decode prog_1_method_1_code 65 = .ok (.invokespecial 29, 3) := by decide +kernel
theorem kd_FR_68 : decode prog_1_method_1_code 68 = .ok (.putfield 30, 3) := by decide +kernel
theorem kd_FR_71 : decode prog_1_method_1_code 71 = .ok (.aload_n 0, 1) := by decide +kernel
theorem kd_FR_72 : decode prog_1_method_1_code 72 = .ok (.new 34, 3) := by decide +kernel
theorem kd_FR_75 : decode prog_1_method_1_code 75 = .ok (.dup, 1) := by decide +kernel
theorem kd_FR_76 : decode prog_1_method_1_code 76 = .ok (.invokespecial 36, 3) := by decide +kernel
theorem kd_FR_79 : decode prog_1_method_1_code 79 = .ok (.putfield 37, 3) := by decide +kernel
theorem kd_FR_82 : decode prog_1_method_1_code 82 = .ok (.aload_n 0, 1) := by decide +kernel
theorem kd_FR_83 : decode prog_1_method_1_code 83 = .ok (.new 41, 3) := by decide +kernel
theorem kd_FR_86 : decode prog_1_method_1_code 86 = .ok (.dup, 1) := by decide +kernel
theorem kd_FR_87 : decode prog_1_method_1_code 87 = .ok (.invokespecial 43, 3) := by decide +kernel
theorem kd_FR_90 : decode prog_1_method_1_code 90 = .ok (.putfield 44, 3) := by decide +kernel
theorem kd_FR_93 : decode prog_1_method_1_code 93 = .ok (.aload_n 0, 1) := by decide +kernel
theorem kd_FR_94 : decode prog_1_method_1_code 94 = .ok (.new 41, 3) := by decide +kernel
theorem kd_FR_97 : decode prog_1_method_1_code 97 = .ok (.dup, 1) := by decide +kernel
theorem kd_FR_98 : decode prog_1_method_1_code 98 = .ok (.invokespecial 43, 3) := by decide +kernel
theorem kd_FR_101 : decode prog_1_method_1_code 101 = .ok (.putfield 48, 3) := by decide +kernel
theorem kd_FR_104 : decode prog_1_method_1_code 104 = .ok (.aload_n 0, 1) := by decide +kernel
theorem kd_FR_105 : decode prog_1_method_1_code 105 = .ok (.iconst (-1), 1) := by decide +kernel
theorem kd_FR_106 : decode prog_1_method_1_code 106 = .ok (.putfield 51, 3) := by decide +kernel
theorem kd_FR_109 : decode prog_1_method_1_code 109 = .ok (.return_, 1) := by decide +kernel
theorem kd_M_0 : decode prog_11_method_5_code 0 = .ok (.aload_n 0, 1) := by decide +kernel
theorem kd_M_1 : decode prog_11_method_5_code 1 = .ok (.invokespecial 13, 3) := by decide +kernel
theorem kd_M_4 : decode prog_11_method_5_code 4 = .ok (.aload_n 0, 1) := by decide +kernel
theorem kd_M_5 : decode prog_11_method_5_code 5 = .ok (.iconst (-1), 1) := by decide +kernel
theorem kd_M_6 : decode prog_11_method_5_code 6 = .ok (.putfield 10, 3) := by decide +kernel
theorem kd_M_9 : decode prog_11_method_5_code 9 = .ok (.aload_n 0, 1) := by decide +kernel
theorem kd_M_10 : decode prog_11_method_5_code 10 = .ok (.sipush 700, 3) := by decide +kernel
theorem kd_M_13 : decode prog_11_method_5_code 13 = .ok (.newarray .int, 2) := by decide +kernel
theorem kd_M_15 : decode prog_11_method_5_code 15 = .ok (.putfield 19, 3) := by decide +kernel
theorem kd_M_18 : decode prog_11_method_5_code 18 = .ok (.aload_n 0, 1) := by decide +kernel
theorem kd_M_19 : decode prog_11_method_5_code 19 = .ok (.bipush 6, 2) := by decide +kernel
theorem kd_M_21 : decode prog_11_method_5_code 21 = .ok (.newarray .int, 2) := by decide +kernel
theorem kd_M_23 : decode prog_11_method_5_code 23 = .ok (.putfield 23, 3) := by decide +kernel
theorem kd_M_26 : decode prog_11_method_5_code 26 = .ok (.aload_n 0, 1) := by decide +kernel
theorem kd_M_27 : decode prog_11_method_5_code 27 = .ok (.bipush 6, 2) := by decide +kernel
theorem kd_M_29 : decode prog_11_method_5_code 29 = .ok (.newarray .int, 2) := by decide +kernel
theorem kd_M_31 : decode prog_11_method_5_code 31 = .ok (.putfield 26, 3) := by decide +kernel
theorem kd_M_34 : decode prog_11_method_5_code 34 = .ok (.aload_n 0, 1) := by decide +kernel
theorem kd_M_35 : decode prog_11_method_5_code 35 = .ok (.bipush 6, 2) := by decide +kernel
theorem kd_M_37 : decode prog_11_method_5_code 37 = .ok (.newarray .int, 2) := by decide +kernel
theorem kd_M_39 : decode prog_11_method_5_code 39 = .ok (.putfield 29, 3) := by decide +kernel
theorem kd_M_42 : decode prog_11_method_5_code 42 = .ok (.aload_n 0, 1) := by decide +kernel
theorem kd_M_43 : decode prog_11_method_5_code 43 = .ok (.bipush 6, 2) := by decide +kernel
theorem kd_M_45 : decode prog_11_method_5_code 45 = .ok (.newarray .int, 2) := by decide +kernel
theorem kd_M_47 : decode prog_11_method_5_code 47 = .ok (.putfield 32, 3) := by decide +kernel
theorem kd_M_50 : decode prog_11_method_5_code 50 = .ok (.aload_n 0, 1) := by decide +kernel
theorem kd_M_51 : decode prog_11_method_5_code 51 = .ok (.bipush 36, 2) := by decide +kernel
theorem kd_M_53 : decode prog_11_method_5_code 53 = .ok (.newarray .int, 2) := by decide +kernel
theorem kd_M_55 : decode prog_11_method_5_code 55 = .ok (.putfield 35, 3) := by decide +kernel
theorem kd_M_58 : decode prog_11_method_5_code 58 = .ok (.aload_n 0, 1) := by decide +kernel
theorem kd_M_59 : decode prog_11_method_5_code 59 = .ok (.bipush 36, 2) := by decide +kernel
theorem kd_M_61 : decode prog_11_method_5_code 61 = .ok (.newarray .int, 2) := by decide +kernel
theorem kd_M_63 : decode prog_11_method_5_code 63 = .ok (.putfield 38, 3) := by decide +kernel
theorem kd_M_66 : decode prog_11_method_5_code 66 = .ok (.aload_n 0, 1) := by decide +kernel
theorem kd_M_67 : decode prog_11_method_5_code 67 = .ok (.bipush 36, 2) := by decide +kernel
theorem kd_M_69 : decode prog_11_method_5_code 69 = .ok (.newarray .int, 2) := by decide +kernel
theorem kd_M_71 : decode prog_11_method_5_code 71 = .ok (.putfield 41, 3) := by decide +kernel
theorem kd_M_74 : decode prog_11_method_5_code 74 = .ok (.aload_n 0, 1) := by decide +kernel
theorem kd_M_75 : decode prog_11_method_5_code 75 = .ok (.bipush 36, 2) := by decide +kernel
theorem kd_M_77 : decode prog_11_method_5_code 77 = .ok (.newarray .int, 2) := by decide +kernel
theorem kd_M_79 : decode prog_11_method_5_code 79 = .ok (.putfield 44, 3) := by decide +kernel
theorem kd_M_82 : decode prog_11_method_5_code 82 = .ok (.aload_n 0, 1) := by decide +kernel
theorem kd_M_83 : decode prog_11_method_5_code 83 = .ok (.iconst 3, 1) := by decide +kernel
theorem kd_M_84 : decode prog_11_method_5_code 84 = .ok (.newarray .int, 2) := by decide +kernel
theorem kd_M_86 : decode prog_11_method_5_code 86 = .ok (.putfield 47, 3) := by decide +kernel
theorem kd_M_89 : decode prog_11_method_5_code 89 = .ok (.aload_n 0, 1) := by decide +kernel
theorem kd_M_90 : decode prog_11_method_5_code 90 = .ok (.bipush 72, 2) := by decide +kernel
theorem kd_M_92 : decode prog_11_method_5_code 92 = .ok (.newarray .int, 2) := by decide +kernel
theorem kd_M_94 : decode prog_11_method_5_code 94 = .ok (.putfield 50, 3) := by decide +kernel
theorem kd_M_97 : decode prog_11_method_5_code 97 = .ok (.aload_n 0, 1) := by decide +kernel
theorem kd_M_98 : decode prog_11_method_5_code 98 = .ok (.bipush 72, 2) := by decide +kernel
theorem kd_M_100 : decode prog_11_method_5_code 100 = .ok (.newarray .int, 2) := by decide +kernel
theorem kd_M_102 : decode prog_11_method_5_code 102 = .ok (.putfield 53, 3) := by decide +kernel
theorem kd_M_105 : decode prog_11_method_5_code 105 = .ok (.aload_n 0, 1) := by decide +kernel
theorem kd_M_106 : decode prog_11_method_5_code 106 = .ok (.bipush 24, 2) := by decide +kernel
theorem kd_M_108 : decode prog_11_method_5_code 108 = .ok (.newarray .int, 2) := by decide +kernel
theorem kd_M_110 : decode prog_11_method_5_code 110 = .ok (.putfield 56, 3) := by decide +kernel
theorem kd_M_113 : decode prog_11_method_5_code 113 = .ok (.aload_n 0, 1) := by decide +kernel
theorem kd_M_114 : decode prog_11_method_5_code 114 = .ok (.bipush 24, 2) := by decide +kernel
theorem kd_M_116 : decode prog_11_method_5_code 116 = .ok (.newarray .int, 2) := by decide +kernel
theorem kd_M_118 : decode prog_11_method_5_code 118 = .ok (.putfield 59, 3) := by decide +kernel
theorem kd_M_121 : decode prog_11_method_5_code 121 = .ok (.aload_n 0, 1) := by decide +kernel
theorem kd_M_122 : decode prog_11_method_5_code 122 = .ok (.bipush 24, 2) := by decide +kernel
theorem kd_M_124 : decode prog_11_method_5_code 124 = .ok (.newarray .int, 2) := by decide +kernel
theorem kd_M_126 : decode prog_11_method_5_code 126 = .ok (.putfield 62, 3) := by decide +kernel
theorem kd_M_129 : decode prog_11_method_5_code 129 = .ok (.aload_n 0, 1) := by decide +kernel
theorem kd_M_130 : decode prog_11_method_5_code 130 = .ok (.bipush 25, 2) := by decide +kernel
theorem kd_M_132 : decode prog_11_method_5_code 132 = .ok (.newarray .int, 2) := by decide +kernel
theorem kd_M_134 : decode prog_11_method_5_code 134 = .ok (.putfield 65, 3) := by decide +kernel
theorem kd_M_137 : decode prog_11_method_5_code 137 = .ok (.aload_n 0, 1) := by decide +kernel
theorem kd_M_138 : decode prog_11_method_5_code 138 = .ok (.sipush 576, 3) := by decide +kernel
theorem kd_M_141 : decode prog_11_method_5_code 141 = .ok (.newarray .int, 2) := by decide +kernel
theorem kd_M_143 : decode prog_11_method_5_code 143 = .ok (.putfield 68, 3) := by decide +kernel
theorem kd_M_146 : decode prog_11_method_5_code 146 = .ok (.aload_n 0, 1) := by decide +kernel
theorem kd_M_147 : decode prog_11_method_5_code 147 = .ok (.bipush 24, 2) := by decide +kernel
theorem kd_M_149 : decode prog_11_method_5_code 149 = .ok (.newarray .int, 2) := by decide +kernel
theorem kd_M_151 : decode prog_11_method_5_code 151 = .ok (.putfield 71, 3) := by decide +kernel
theorem kd_M_154 : decode prog_11_method_5_code 154 = .ok (.aload_n 0, 1) := by decide +kernel
theorem kd_M_155 : decode prog_11_method_5_code 155 = .ok (.sipush 576, 3) := by decide +kernel
theorem kd_M_158 : decode prog_11_method_5_code 158 = .ok (.newarray .int, 2) := by decide +kernel
theorem kd_M_160 : decode prog_11_method_5_code 160 = .ok (.putfield 74, 3) := by decide +kernel
theorem kd_M_163 : decode prog_11_method_5_code 163 = .ok (.aload_n 0, 1) := by decide +kernel
theorem kd_M_164 : decode prog_11_method_5_code 164 = .ok (.iconst 3, 1) := by decide +kernel
theorem kd_M_165 : decode prog_11_method_5_code 165 = .ok (.newarray .int, 2) := by decide +kernel
theorem kd_M_167 : decode prog_11_method_5_code 167 = .ok (.putfield 77, 3) := by decide +kernel
theorem kd_M_170 : decode prog_11_method_5_code 170 = .ok (.aload_n 0, 1) := by decide +kernel
theorem kd_M_171 : decode prog_11_method_5_code 171 = .ok (.sipush 1728, 3) := by decide +kernel
theorem kd_M_174 : decode prog_11_method_5_code 174 = .ok (.newarray .int, 2) := by decide +kernel
theorem kd_M_176 : decode prog_11_method_5_code 176 = .ok (.putfield 80, 3) := by decide +kernel
theorem kd_M_179 : decode prog_11_method_5_code 179 = .ok (.aload_n 0, 1) := by decide +kernel
theorem kd_M_180 : decode prog_11_method_5_code 180 = .ok (.iconst 3, 1) := by decide +kernel
theorem kd_M_181 : decode prog_11_method_5_code 181 = .ok (.newarray .int, 2) := by decide +kernel
theorem kd_M_183 : decode prog_11_method_5_code 183 = .ok (.putfield 83, 3) := by decide +kernel
theorem kd_M_186 : decode prog_11_method_5_code 186 = .ok (.aload_n 0, 1) := by decide +kernel
theorem kd_M_187 : decode prog_11_method_5_code 187 = .ok (.bipush 72, 2) := by decide +kernel
theorem kd_M_189 : decode prog_11_method_5_code 189 = .ok (.newarray .int, 2) := by decide +kernel
theorem kd_M_191 : decode prog_11_method_5_code 191 = .ok (.putfield 86, 3) := by decide +kernel
theorem kd_M_194 : decode prog_11_method_5_code 194 = .ok (.aload_n 0, 1) := by decide +kernel
theorem kd_M_195 : decode prog_11_method_5_code 195 = .ok (.bipush 28, 2) := by decide +kernel
theorem kd_M_197 : decode prog_11_method_5_code 197 = .ok (.newarray .int, 2) := by decide +kernel
theorem kd_M_199 : decode prog_11_method_5_code 199 = .ok (.putfield 89, 3) := by decide +kernel
theorem kd_M_202 : decode prog_11_method_5_code 202 = .ok (.aload_n 0, 1) := by decide +kernel
theorem kd_M_203 : decode prog_11_method_5_code 203 = .ok (.bipush 28, 2) := by decide +kernel
theorem kd_M_205 : decode prog_11_method_5_code 205 = .ok (.newarray .int, 2) := by decide +kernel
theorem kd_M_207 : decode prog_11_method_5_code 207 = .ok (.putfield 92, 3) := by decide +kernel
theorem kd_M_210 : decode prog_11_method_5_code 210 = .ok (.return_, 1) := by decide +kernel
def blk_Mode (aT : Nat → ClassId) (o : Nat) : List va_E := [.inr (2, [.int 0, .int 0, .int 0, .int 0, .int 0, .ref (o + 1), .ref (o + 2), .ref (o + 3), .ref (o + 4), .ref (o + 5), .ref (o + 6)]), .inl (aT 0, 6, .inl (fun _ => 0)), .inl (aT 0, 6, .inl (fun _ => 0)), .inl (aT 0, 6, .inl (fun _ => 0)), .inl (aT 0, 6, .inl (fun _ => 0)), .inl (aT 0, 24, .inl (fun _ => 0)), .inl (aT 0, 24, .inl (fun _ => 0))]
set_option maxHeartbeats 8000000 in
set_option maxRecDepth 100000 in
theorem jk_Mode (l : Launch) (D : va_G) (aT : Nat → ClassId) (o : Nat) : Met l ⟨"FrameRound$Mode", "<init>", "()V"⟩ (Cond.code ⟨"FrameRound$Mode", "<init>", "()V"⟩ prog_4_method_1_code 1 none :: jm_T) { frames := 1, cells := 6, slots := 72, locals := 12 } (jn_Pc D aT o (.inr (2, [.int 0, .int 0, .int 0, .int 0, .int 0, .null, .null, .null, .null, .null, .null]))) (jn_Qc D o (blk_Mode aT o)) 6 72 (fun q => o ≤ q) := by
  refine Met.ofW (cc := prog_4_method_1_code) (maxL := 1) (ret := none) (by decide) rfl ?_
  intro p e s m args below meth c s₁ B hml hv
  obtain ⟨rfl, hB, hE⟩ := hv
  have hx := B.exec
  have hb := B.bytes
  have hr := B.returns
  have hts := fun w (hw : w ∈ jm_T) => atoms_spec (ws := Cond.code ⟨"FrameRound$Mode", "<init>", "()V"⟩ prog_4_method_1_code 1 none :: jm_T) B.pre w (List.mem_cons_of_mem _ hw)
  have hown : s.vm.findClass "FrameRound$Mode" = some m.cls := findClass_of_methodNamed B.named
  have hlocks := B.notSynchronized
  have hin2 : meth.name = "<init>" := (name_of_methodNamed B.named B.method).1
  have hB0 := hB
  have hS : va_S (fun q => o ≤ q) s.heap s.heap [] := va_S.rf
  have hl := lv_entry ([.ref o]) (n := 1) (Nat.le_of_ble_eq_true rfl)
  show W p l e _ s m _ below meth c s.heap [] 0 0 _ (entryFrame m ([Value.ref o] : List Value).toArray 1)
  rw [lg_entry_eq]
  generalize (lg_sl ([.ref o]) ++ List.replicate (1 - (lg_sl ([.ref o])).length) Slot.unset).toArray = ls at hl ⊢
  refine lv_aload_n (i := 0) hx hb (k := 0) kd_Mode_0 rfl (lv_at hl 0 rfl) ?_
  refine W.objInit hx hb hown (hts _ xw_51) (hts _ xw_31) (hts _ xw_obj) rfl (hl.1.trans hml.symm) rfl kd_Mode_1 (Nat.le_of_ble_eq_true rfl) (Nat.le_of_ble_eq_true rfl) ?_
  refine lv_aload_n (i := 0) hx hb (k := 0) kd_Mode_4 rfl (lv_at hl 0 rfl) ?_
  refine lv_bipush (n := 6) (v := 6) hx hb kd_Mode_5 (by decide) ?_
  refine jn_newa hx hb hts (t := 0) (atype := .int) (ty := .int) rfl xw_106 hE.2.1 hB hS (N' := 6) (a0 := (6, .inl (fun _ => 0))) (fun _ => rfl) (by decide) (by decide) (by decide) (Nat.le_of_ble_eq_true rfl) (Nat.le_of_ble_eq_true rfl) kd_Mode_7 (fun H hB hS => ?_)
  have hB : jn_B D o [.inr (2, [.int 0, .int 0, .int 0, .int 0, .int 0, .null, .null, .null, .null, .null, .null]), .inl (aT 0, 6, .inl (fun _ => 0))] H := hB
  refine jn_put hx hb hown hts hE hB hS hin2 (k := 0) (j := 5) (q := (RX2, TX2, 11)) rfl rfl (Nat.le_of_ble_eq_true rfl) xw_66 rfl rfl (ty := .array .int) (by decide +kernel) rfl rfl (Nat.le_of_ble_eq_true rfl) kd_Mode_9 (fun H locs hB hS => ?_)
  have hB : jn_B D o [.inr (2, [.int 0, .int 0, .int 0, .int 0, .int 0, .ref (o + 1), .null, .null, .null, .null, .null]), .inl (aT 0, 6, .inl (fun _ => 0))] H := hB
  refine lv_aload_n (i := 0) hx hb (k := 0) kd_Mode_12 rfl (lv_at hl 0 rfl) ?_
  refine lv_bipush (n := 6) (v := 6) hx hb kd_Mode_13 (by decide) ?_
  refine jn_newa hx hb hts (t := 0) (atype := .int) (ty := .int) rfl xw_106 hE.2.1 hB hS (N' := 6) (a0 := (6, .inl (fun _ => 0))) (fun _ => rfl) (by decide) (by decide) (by decide) (Nat.le_of_ble_eq_true rfl) (Nat.le_of_ble_eq_true rfl) kd_Mode_15 (fun H hB hS => ?_)
  have hB : jn_B D o [.inr (2, [.int 0, .int 0, .int 0, .int 0, .int 0, .ref (o + 1), .null, .null, .null, .null, .null]), .inl (aT 0, 6, .inl (fun _ => 0)), .inl (aT 0, 6, .inl (fun _ => 0))] H := hB
  refine jn_put hx hb hown hts hE hB hS hin2 (k := 0) (j := 6) (q := (RX2, TX2, 11)) rfl rfl (Nat.le_of_ble_eq_true rfl) xw_68 rfl rfl (ty := .array .int) (by decide +kernel) rfl rfl (Nat.le_of_ble_eq_true rfl) kd_Mode_17 (fun H locs hB hS => ?_)
  have hB : jn_B D o [.inr (2, [.int 0, .int 0, .int 0, .int 0, .int 0, .ref (o + 1), .ref (o + 2), .null, .null, .null, .null]), .inl (aT 0, 6, .inl (fun _ => 0)), .inl (aT 0, 6, .inl (fun _ => 0))] H := hB
  refine lv_aload_n (i := 0) hx hb (k := 0) kd_Mode_20 rfl (lv_at hl 0 rfl) ?_
  refine lv_bipush (n := 6) (v := 6) hx hb kd_Mode_21 (by decide) ?_
  refine jn_newa hx hb hts (t := 0) (atype := .int) (ty := .int) rfl xw_106 hE.2.1 hB hS (N' := 6) (a0 := (6, .inl (fun _ => 0))) (fun _ => rfl) (by decide) (by decide) (by decide) (Nat.le_of_ble_eq_true rfl) (Nat.le_of_ble_eq_true rfl) kd_Mode_23 (fun H hB hS => ?_)
  have hB : jn_B D o [.inr (2, [.int 0, .int 0, .int 0, .int 0, .int 0, .ref (o + 1), .ref (o + 2), .null, .null, .null, .null]), .inl (aT 0, 6, .inl (fun _ => 0)), .inl (aT 0, 6, .inl (fun _ => 0)), .inl (aT 0, 6, .inl (fun _ => 0))] H := hB
  refine jn_put hx hb hown hts hE hB hS hin2 (k := 0) (j := 7) (q := (RX2, TX2, 11)) rfl rfl (Nat.le_of_ble_eq_true rfl) xw_70 rfl rfl (ty := .array .int) (by decide +kernel) rfl rfl (Nat.le_of_ble_eq_true rfl) kd_Mode_25 (fun H locs hB hS => ?_)
  have hB : jn_B D o [.inr (2, [.int 0, .int 0, .int 0, .int 0, .int 0, .ref (o + 1), .ref (o + 2), .ref (o + 3), .null, .null, .null]), .inl (aT 0, 6, .inl (fun _ => 0)), .inl (aT 0, 6, .inl (fun _ => 0)), .inl (aT 0, 6, .inl (fun _ => 0))] H := hB
  refine lv_aload_n (i := 0) hx hb (k := 0) kd_Mode_28 rfl (lv_at hl 0 rfl) ?_
  refine lv_bipush (n := 6) (v := 6) hx hb kd_Mode_29 (by decide) ?_
  refine jn_newa hx hb hts (t := 0) (atype := .int) (ty := .int) rfl xw_106 hE.2.1 hB hS (N' := 6) (a0 := (6, .inl (fun _ => 0))) (fun _ => rfl) (by decide) (by decide) (by decide) (Nat.le_of_ble_eq_true rfl) (Nat.le_of_ble_eq_true rfl) kd_Mode_31 (fun H hB hS => ?_)
  have hB : jn_B D o [.inr (2, [.int 0, .int 0, .int 0, .int 0, .int 0, .ref (o + 1), .ref (o + 2), .ref (o + 3), .null, .null, .null]), .inl (aT 0, 6, .inl (fun _ => 0)), .inl (aT 0, 6, .inl (fun _ => 0)), .inl (aT 0, 6, .inl (fun _ => 0)), .inl (aT 0, 6, .inl (fun _ => 0))] H := hB
  refine jn_put hx hb hown hts hE hB hS hin2 (k := 0) (j := 8) (q := (RX2, TX2, 11)) rfl rfl (Nat.le_of_ble_eq_true rfl) xw_74 rfl rfl (ty := .array .int) (by decide +kernel) rfl rfl (Nat.le_of_ble_eq_true rfl) kd_Mode_33 (fun H locs hB hS => ?_)
  have hB : jn_B D o [.inr (2, [.int 0, .int 0, .int 0, .int 0, .int 0, .ref (o + 1), .ref (o + 2), .ref (o + 3), .ref (o + 4), .null, .null]), .inl (aT 0, 6, .inl (fun _ => 0)), .inl (aT 0, 6, .inl (fun _ => 0)), .inl (aT 0, 6, .inl (fun _ => 0)), .inl (aT 0, 6, .inl (fun _ => 0))] H := hB
  refine lv_aload_n (i := 0) hx hb (k := 0) kd_Mode_36 rfl (lv_at hl 0 rfl) ?_
  refine lv_bipush (n := 24) (v := 24) hx hb kd_Mode_37 (by decide) ?_
  refine jn_newa hx hb hts (t := 0) (atype := .int) (ty := .int) rfl xw_106 hE.2.1 hB hS (N' := 24) (a0 := (24, .inl (fun _ => 0))) (fun _ => rfl) (by decide) (by decide) (by decide) (Nat.le_of_ble_eq_true rfl) (Nat.le_of_ble_eq_true rfl) kd_Mode_39 (fun H hB hS => ?_)
  have hB : jn_B D o [.inr (2, [.int 0, .int 0, .int 0, .int 0, .int 0, .ref (o + 1), .ref (o + 2), .ref (o + 3), .ref (o + 4), .null, .null]), .inl (aT 0, 6, .inl (fun _ => 0)), .inl (aT 0, 6, .inl (fun _ => 0)), .inl (aT 0, 6, .inl (fun _ => 0)), .inl (aT 0, 6, .inl (fun _ => 0)), .inl (aT 0, 24, .inl (fun _ => 0))] H := hB
  refine jn_put hx hb hown hts hE hB hS hin2 (k := 0) (j := 9) (q := (RX2, TX2, 11)) rfl rfl (Nat.le_of_ble_eq_true rfl) xw_78 rfl rfl (ty := .array .int) (by decide +kernel) rfl rfl (Nat.le_of_ble_eq_true rfl) kd_Mode_41 (fun H locs hB hS => ?_)
  have hB : jn_B D o [.inr (2, [.int 0, .int 0, .int 0, .int 0, .int 0, .ref (o + 1), .ref (o + 2), .ref (o + 3), .ref (o + 4), .ref (o + 5), .null]), .inl (aT 0, 6, .inl (fun _ => 0)), .inl (aT 0, 6, .inl (fun _ => 0)), .inl (aT 0, 6, .inl (fun _ => 0)), .inl (aT 0, 6, .inl (fun _ => 0)), .inl (aT 0, 24, .inl (fun _ => 0))] H := hB
  refine lv_aload_n (i := 0) hx hb (k := 0) kd_Mode_44 rfl (lv_at hl 0 rfl) ?_
  refine lv_bipush (n := 24) (v := 24) hx hb kd_Mode_45 (by decide) ?_
  refine jn_newa hx hb hts (t := 0) (atype := .int) (ty := .int) rfl xw_106 hE.2.1 hB hS (N' := 24) (a0 := (24, .inl (fun _ => 0))) (fun _ => rfl) (by decide) (by decide) (by decide) (Nat.le_of_ble_eq_true rfl) (Nat.le_of_ble_eq_true rfl) kd_Mode_47 (fun H hB hS => ?_)
  have hB : jn_B D o [.inr (2, [.int 0, .int 0, .int 0, .int 0, .int 0, .ref (o + 1), .ref (o + 2), .ref (o + 3), .ref (o + 4), .ref (o + 5), .null]), .inl (aT 0, 6, .inl (fun _ => 0)), .inl (aT 0, 6, .inl (fun _ => 0)), .inl (aT 0, 6, .inl (fun _ => 0)), .inl (aT 0, 6, .inl (fun _ => 0)), .inl (aT 0, 24, .inl (fun _ => 0)), .inl (aT 0, 24, .inl (fun _ => 0))] H := hB
  refine jn_put hx hb hown hts hE hB hS hin2 (k := 0) (j := 10) (q := (RX2, TX2, 11)) rfl rfl (Nat.le_of_ble_eq_true rfl) xw_80 rfl rfl (ty := .array .int) (by decide +kernel) rfl rfl (Nat.le_of_ble_eq_true rfl) kd_Mode_49 (fun H locs hB hS => ?_)
  have hB : jn_B D o [.inr (2, [.int 0, .int 0, .int 0, .int 0, .int 0, .ref (o + 1), .ref (o + 2), .ref (o + 3), .ref (o + 4), .ref (o + 5), .ref (o + 6)]), .inl (aT 0, 6, .inl (fun _ => 0)), .inl (aT 0, 6, .inl (fun _ => 0)), .inl (aT 0, 6, .inl (fun _ => 0)), .inl (aT 0, 6, .inl (fun _ => 0)), .inl (aT 0, 24, .inl (fun _ => 0)), .inl (aT 0, 24, .inl (fun _ => 0))] H := hB
  exact W.vret hx hb hr (fun t ht _ => ⟨rfl, by rw [ht]; exact hB, fun q hq => by rw [ht]; exact hS.2.1 q (by rw [hB0.1]; exact Nat.lt_add_right _ hq) (by omega)⟩) hS.2.2 kd_Mode_52 hlocks
def blk_Flow (aT : Nat → ClassId) (o : Nat) : List va_E := ([.inr (1, [.int 0, .int 0, .int 0, .int 0, .ref (o + 1), .ref (o + 2), .ref (o + 3), .ref (o + 4), .ref (o + 5), .ref (o + 6), .ref (o + 7), .ref (o + 8), .ref (o + 9)]), .inl (aT 0, 24, .inl (fun _ => 0)), .inl (aT 0, 24, .inl (fun _ => 0)), .inl (aT 0, 24, .inl (fun _ => 0)), .inl (aT 0, 24, .inl (fun _ => 0)), .inl (aT 0, 24, .inl (fun _ => 0)), .inl (aT 0, 24, .inl (fun _ => 0)), .inl (aT 0, 24, .inl (fun _ => 0)), .inl (aT 0, 24, .inl (fun _ => 0))] ++ (.inl (aT 5, 24, .inr (.inr (.inr (.inr (fun j => if j < 24 then some (o + 9 + 1 + j) else none))))) :: List.replicate 24 (.inl (aT 0, 24, .inl (fun _ => 0)))))
set_option maxHeartbeats 8000000 in
set_option maxRecDepth 100000 in
theorem jk_Flow (l : Launch) (D : va_G) (aT : Nat → ClassId) (o : Nat) : Met l ⟨"FrameRound$Flow", "<init>", "()V"⟩ (Cond.code ⟨"FrameRound$Flow", "<init>", "()V"⟩ prog_3_method_1_code 1 none :: jm_T) { frames := 1, cells := 33, slots := 792, locals := 12 } (jn_Pc D aT o (.inr (1, [.int 0, .int 0, .int 0, .int 0, .null, .null, .null, .null, .null, .null, .null, .null, .null]))) (jn_Qc D o (blk_Flow aT o)) 33 792 (fun q => o ≤ q) := by
  refine Met.ofW (cc := prog_3_method_1_code) (maxL := 1) (ret := none) (by decide) rfl ?_
  intro p e s m args below meth c s₁ B hml hv
  obtain ⟨rfl, hB, hE⟩ := hv
  have hx := B.exec
  have hb := B.bytes
  have hr := B.returns
  have hts := fun w (hw : w ∈ jm_T) => atoms_spec (ws := Cond.code ⟨"FrameRound$Flow", "<init>", "()V"⟩ prog_3_method_1_code 1 none :: jm_T) B.pre w (List.mem_cons_of_mem _ hw)
  have hown : s.vm.findClass "FrameRound$Flow" = some m.cls := findClass_of_methodNamed B.named
  have hlocks := B.notSynchronized
  have hin2 : meth.name = "<init>" := (name_of_methodNamed B.named B.method).1
  have hB0 := hB
  have hS : va_S (fun q => o ≤ q) s.heap s.heap [] := va_S.rf
  have hl := lv_entry ([.ref o]) (n := 1) (Nat.le_of_ble_eq_true rfl)
  show W p l e _ s m _ below meth c s.heap [] 0 0 _ (entryFrame m ([Value.ref o] : List Value).toArray 1)
  rw [lg_entry_eq]
  generalize (lg_sl ([.ref o]) ++ List.replicate (1 - (lg_sl ([.ref o])).length) Slot.unset).toArray = ls at hl ⊢
  refine lv_aload_n (i := 0) hx hb (k := 0) kd_Flow_0 rfl (lv_at hl 0 rfl) ?_
  refine W.objInit hx hb hown (hts _ xw_166) (hts _ xw_31) (hts _ xw_obj) rfl (hl.1.trans hml.symm) rfl kd_Flow_1 (Nat.le_of_ble_eq_true rfl) (Nat.le_of_ble_eq_true rfl) ?_
  refine lv_aload_n (i := 0) hx hb (k := 0) kd_Flow_4 rfl (lv_at hl 0 rfl) ?_
  refine lv_bipush (n := 24) (v := 24) hx hb kd_Flow_5 (by decide) ?_
  refine jn_newa hx hb hts (t := 0) (atype := .int) (ty := .int) rfl xw_106 hE.2.1 hB hS (N' := 24) (a0 := (24, .inl (fun _ => 0))) (fun _ => rfl) (by decide) (by decide) (by decide) (Nat.le_of_ble_eq_true rfl) (Nat.le_of_ble_eq_true rfl) kd_Flow_7 (fun H hB hS => ?_)
  have hB : jn_B D o [.inr (1, [.int 0, .int 0, .int 0, .int 0, .null, .null, .null, .null, .null, .null, .null, .null, .null]), .inl (aT 0, 24, .inl (fun _ => 0))] H := hB
  refine jn_put hx hb hown hts hE hB hS hin2 (k := 0) (j := 4) (q := (RX1, TX1, 13)) rfl rfl (Nat.le_of_ble_eq_true rfl) xw_182 rfl rfl (ty := .array .int) (by decide +kernel) rfl rfl (Nat.le_of_ble_eq_true rfl) kd_Flow_9 (fun H locs hB hS => ?_)
  have hB : jn_B D o [.inr (1, [.int 0, .int 0, .int 0, .int 0, .ref (o + 1), .null, .null, .null, .null, .null, .null, .null, .null]), .inl (aT 0, 24, .inl (fun _ => 0))] H := hB
  refine lv_aload_n (i := 0) hx hb (k := 0) kd_Flow_12 rfl (lv_at hl 0 rfl) ?_
  refine lv_bipush (n := 24) (v := 24) hx hb kd_Flow_13 (by decide) ?_
  refine jn_newa hx hb hts (t := 0) (atype := .int) (ty := .int) rfl xw_106 hE.2.1 hB hS (N' := 24) (a0 := (24, .inl (fun _ => 0))) (fun _ => rfl) (by decide) (by decide) (by decide) (Nat.le_of_ble_eq_true rfl) (Nat.le_of_ble_eq_true rfl) kd_Flow_15 (fun H hB hS => ?_)
  have hB : jn_B D o [.inr (1, [.int 0, .int 0, .int 0, .int 0, .ref (o + 1), .null, .null, .null, .null, .null, .null, .null, .null]), .inl (aT 0, 24, .inl (fun _ => 0)), .inl (aT 0, 24, .inl (fun _ => 0))] H := hB
  refine jn_put hx hb hown hts hE hB hS hin2 (k := 0) (j := 5) (q := (RX1, TX1, 13)) rfl rfl (Nat.le_of_ble_eq_true rfl) xw_184 rfl rfl (ty := .array .int) (by decide +kernel) rfl rfl (Nat.le_of_ble_eq_true rfl) kd_Flow_17 (fun H locs hB hS => ?_)
  have hB : jn_B D o [.inr (1, [.int 0, .int 0, .int 0, .int 0, .ref (o + 1), .ref (o + 2), .null, .null, .null, .null, .null, .null, .null]), .inl (aT 0, 24, .inl (fun _ => 0)), .inl (aT 0, 24, .inl (fun _ => 0))] H := hB
  refine lv_aload_n (i := 0) hx hb (k := 0) kd_Flow_20 rfl (lv_at hl 0 rfl) ?_
  refine lv_bipush (n := 24) (v := 24) hx hb kd_Flow_21 (by decide) ?_
  refine jn_newa hx hb hts (t := 0) (atype := .int) (ty := .int) rfl xw_106 hE.2.1 hB hS (N' := 24) (a0 := (24, .inl (fun _ => 0))) (fun _ => rfl) (by decide) (by decide) (by decide) (Nat.le_of_ble_eq_true rfl) (Nat.le_of_ble_eq_true rfl) kd_Flow_23 (fun H hB hS => ?_)
  have hB : jn_B D o [.inr (1, [.int 0, .int 0, .int 0, .int 0, .ref (o + 1), .ref (o + 2), .null, .null, .null, .null, .null, .null, .null]), .inl (aT 0, 24, .inl (fun _ => 0)), .inl (aT 0, 24, .inl (fun _ => 0)), .inl (aT 0, 24, .inl (fun _ => 0))] H := hB
  refine jn_put hx hb hown hts hE hB hS hin2 (k := 0) (j := 6) (q := (RX1, TX1, 13)) rfl rfl (Nat.le_of_ble_eq_true rfl) xw_187 rfl rfl (ty := .array .int) (by decide +kernel) rfl rfl (Nat.le_of_ble_eq_true rfl) kd_Flow_25 (fun H locs hB hS => ?_)
  have hB : jn_B D o [.inr (1, [.int 0, .int 0, .int 0, .int 0, .ref (o + 1), .ref (o + 2), .ref (o + 3), .null, .null, .null, .null, .null, .null]), .inl (aT 0, 24, .inl (fun _ => 0)), .inl (aT 0, 24, .inl (fun _ => 0)), .inl (aT 0, 24, .inl (fun _ => 0))] H := hB
  refine lv_aload_n (i := 0) hx hb (k := 0) kd_Flow_28 rfl (lv_at hl 0 rfl) ?_
  refine lv_bipush (n := 24) (v := 24) hx hb kd_Flow_29 (by decide) ?_
  refine jn_newa hx hb hts (t := 0) (atype := .int) (ty := .int) rfl xw_106 hE.2.1 hB hS (N' := 24) (a0 := (24, .inl (fun _ => 0))) (fun _ => rfl) (by decide) (by decide) (by decide) (Nat.le_of_ble_eq_true rfl) (Nat.le_of_ble_eq_true rfl) kd_Flow_31 (fun H hB hS => ?_)
  have hB : jn_B D o [.inr (1, [.int 0, .int 0, .int 0, .int 0, .ref (o + 1), .ref (o + 2), .ref (o + 3), .null, .null, .null, .null, .null, .null]), .inl (aT 0, 24, .inl (fun _ => 0)), .inl (aT 0, 24, .inl (fun _ => 0)), .inl (aT 0, 24, .inl (fun _ => 0)), .inl (aT 0, 24, .inl (fun _ => 0))] H := hB
  refine jn_put hx hb hown hts hE hB hS hin2 (k := 0) (j := 7) (q := (RX1, TX1, 13)) rfl rfl (Nat.le_of_ble_eq_true rfl) xw_190 rfl rfl (ty := .array .int) (by decide +kernel) rfl rfl (Nat.le_of_ble_eq_true rfl) kd_Flow_33 (fun H locs hB hS => ?_)
  have hB : jn_B D o [.inr (1, [.int 0, .int 0, .int 0, .int 0, .ref (o + 1), .ref (o + 2), .ref (o + 3), .ref (o + 4), .null, .null, .null, .null, .null]), .inl (aT 0, 24, .inl (fun _ => 0)), .inl (aT 0, 24, .inl (fun _ => 0)), .inl (aT 0, 24, .inl (fun _ => 0)), .inl (aT 0, 24, .inl (fun _ => 0))] H := hB
  refine lv_aload_n (i := 0) hx hb (k := 0) kd_Flow_36 rfl (lv_at hl 0 rfl) ?_
  refine lv_bipush (n := 24) (v := 24) hx hb kd_Flow_37 (by decide) ?_
  refine jn_newa hx hb hts (t := 0) (atype := .int) (ty := .int) rfl xw_106 hE.2.1 hB hS (N' := 24) (a0 := (24, .inl (fun _ => 0))) (fun _ => rfl) (by decide) (by decide) (by decide) (Nat.le_of_ble_eq_true rfl) (Nat.le_of_ble_eq_true rfl) kd_Flow_39 (fun H hB hS => ?_)
  have hB : jn_B D o [.inr (1, [.int 0, .int 0, .int 0, .int 0, .ref (o + 1), .ref (o + 2), .ref (o + 3), .ref (o + 4), .null, .null, .null, .null, .null]), .inl (aT 0, 24, .inl (fun _ => 0)), .inl (aT 0, 24, .inl (fun _ => 0)), .inl (aT 0, 24, .inl (fun _ => 0)), .inl (aT 0, 24, .inl (fun _ => 0)), .inl (aT 0, 24, .inl (fun _ => 0))] H := hB
  refine jn_put hx hb hown hts hE hB hS hin2 (k := 0) (j := 8) (q := (RX1, TX1, 13)) rfl rfl (Nat.le_of_ble_eq_true rfl) xw_193 rfl rfl (ty := .array .int) (by decide +kernel) rfl rfl (Nat.le_of_ble_eq_true rfl) kd_Flow_41 (fun H locs hB hS => ?_)
  have hB : jn_B D o [.inr (1, [.int 0, .int 0, .int 0, .int 0, .ref (o + 1), .ref (o + 2), .ref (o + 3), .ref (o + 4), .ref (o + 5), .null, .null, .null, .null]), .inl (aT 0, 24, .inl (fun _ => 0)), .inl (aT 0, 24, .inl (fun _ => 0)), .inl (aT 0, 24, .inl (fun _ => 0)), .inl (aT 0, 24, .inl (fun _ => 0)), .inl (aT 0, 24, .inl (fun _ => 0))] H := hB
  refine lv_aload_n (i := 0) hx hb (k := 0) kd_Flow_44 rfl (lv_at hl 0 rfl) ?_
  refine lv_bipush (n := 24) (v := 24) hx hb kd_Flow_45 (by decide) ?_
  refine jn_newa hx hb hts (t := 0) (atype := .int) (ty := .int) rfl xw_106 hE.2.1 hB hS (N' := 24) (a0 := (24, .inl (fun _ => 0))) (fun _ => rfl) (by decide) (by decide) (by decide) (Nat.le_of_ble_eq_true rfl) (Nat.le_of_ble_eq_true rfl) kd_Flow_47 (fun H hB hS => ?_)
  have hB : jn_B D o [.inr (1, [.int 0, .int 0, .int 0, .int 0, .ref (o + 1), .ref (o + 2), .ref (o + 3), .ref (o + 4), .ref (o + 5), .null, .null, .null, .null]), .inl (aT 0, 24, .inl (fun _ => 0)), .inl (aT 0, 24, .inl (fun _ => 0)), .inl (aT 0, 24, .inl (fun _ => 0)), .inl (aT 0, 24, .inl (fun _ => 0)), .inl (aT 0, 24, .inl (fun _ => 0)), .inl (aT 0, 24, .inl (fun _ => 0))] H := hB
  refine jn_put hx hb hown hts hE hB hS hin2 (k := 0) (j := 9) (q := (RX1, TX1, 13)) rfl rfl (Nat.le_of_ble_eq_true rfl) xw_196 rfl rfl (ty := .array .int) (by decide +kernel) rfl rfl (Nat.le_of_ble_eq_true rfl) kd_Flow_49 (fun H locs hB hS => ?_)
  have hB : jn_B D o [.inr (1, [.int 0, .int 0, .int 0, .int 0, .ref (o + 1), .ref (o + 2), .ref (o + 3), .ref (o + 4), .ref (o + 5), .ref (o + 6), .null, .null, .null]), .inl (aT 0, 24, .inl (fun _ => 0)), .inl (aT 0, 24, .inl (fun _ => 0)), .inl (aT 0, 24, .inl (fun _ => 0)), .inl (aT 0, 24, .inl (fun _ => 0)), .inl (aT 0, 24, .inl (fun _ => 0)), .inl (aT 0, 24, .inl (fun _ => 0))] H := hB
  refine lv_aload_n (i := 0) hx hb (k := 0) kd_Flow_52 rfl (lv_at hl 0 rfl) ?_
  refine lv_bipush (n := 24) (v := 24) hx hb kd_Flow_53 (by decide) ?_
  refine jn_newa hx hb hts (t := 0) (atype := .int) (ty := .int) rfl xw_106 hE.2.1 hB hS (N' := 24) (a0 := (24, .inl (fun _ => 0))) (fun _ => rfl) (by decide) (by decide) (by decide) (Nat.le_of_ble_eq_true rfl) (Nat.le_of_ble_eq_true rfl) kd_Flow_55 (fun H hB hS => ?_)
  have hB : jn_B D o [.inr (1, [.int 0, .int 0, .int 0, .int 0, .ref (o + 1), .ref (o + 2), .ref (o + 3), .ref (o + 4), .ref (o + 5), .ref (o + 6), .null, .null, .null]), .inl (aT 0, 24, .inl (fun _ => 0)), .inl (aT 0, 24, .inl (fun _ => 0)), .inl (aT 0, 24, .inl (fun _ => 0)), .inl (aT 0, 24, .inl (fun _ => 0)), .inl (aT 0, 24, .inl (fun _ => 0)), .inl (aT 0, 24, .inl (fun _ => 0)), .inl (aT 0, 24, .inl (fun _ => 0))] H := hB
  refine jn_put hx hb hown hts hE hB hS hin2 (k := 0) (j := 10) (q := (RX1, TX1, 13)) rfl rfl (Nat.le_of_ble_eq_true rfl) xw_199 rfl rfl (ty := .array .int) (by decide +kernel) rfl rfl (Nat.le_of_ble_eq_true rfl) kd_Flow_57 (fun H locs hB hS => ?_)
  have hB : jn_B D o [.inr (1, [.int 0, .int 0, .int 0, .int 0, .ref (o + 1), .ref (o + 2), .ref (o + 3), .ref (o + 4), .ref (o + 5), .ref (o + 6), .ref (o + 7), .null, .null]), .inl (aT 0, 24, .inl (fun _ => 0)), .inl (aT 0, 24, .inl (fun _ => 0)), .inl (aT 0, 24, .inl (fun _ => 0)), .inl (aT 0, 24, .inl (fun _ => 0)), .inl (aT 0, 24, .inl (fun _ => 0)), .inl (aT 0, 24, .inl (fun _ => 0)), .inl (aT 0, 24, .inl (fun _ => 0))] H := hB
  refine lv_aload_n (i := 0) hx hb (k := 0) kd_Flow_60 rfl (lv_at hl 0 rfl) ?_
  refine lv_bipush (n := 24) (v := 24) hx hb kd_Flow_61 (by decide) ?_
  refine jn_newa hx hb hts (t := 0) (atype := .int) (ty := .int) rfl xw_106 hE.2.1 hB hS (N' := 24) (a0 := (24, .inl (fun _ => 0))) (fun _ => rfl) (by decide) (by decide) (by decide) (Nat.le_of_ble_eq_true rfl) (Nat.le_of_ble_eq_true rfl) kd_Flow_63 (fun H hB hS => ?_)
  have hB : jn_B D o [.inr (1, [.int 0, .int 0, .int 0, .int 0, .ref (o + 1), .ref (o + 2), .ref (o + 3), .ref (o + 4), .ref (o + 5), .ref (o + 6), .ref (o + 7), .null, .null]), .inl (aT 0, 24, .inl (fun _ => 0)), .inl (aT 0, 24, .inl (fun _ => 0)), .inl (aT 0, 24, .inl (fun _ => 0)), .inl (aT 0, 24, .inl (fun _ => 0)), .inl (aT 0, 24, .inl (fun _ => 0)), .inl (aT 0, 24, .inl (fun _ => 0)), .inl (aT 0, 24, .inl (fun _ => 0)), .inl (aT 0, 24, .inl (fun _ => 0))] H := hB
  refine jn_put hx hb hown hts hE hB hS hin2 (k := 0) (j := 11) (q := (RX1, TX1, 13)) rfl rfl (Nat.le_of_ble_eq_true rfl) xw_201 rfl rfl (ty := .array .int) (by decide +kernel) rfl rfl (Nat.le_of_ble_eq_true rfl) kd_Flow_65 (fun H locs hB hS => ?_)
  have hB : jn_B D o [.inr (1, [.int 0, .int 0, .int 0, .int 0, .ref (o + 1), .ref (o + 2), .ref (o + 3), .ref (o + 4), .ref (o + 5), .ref (o + 6), .ref (o + 7), .ref (o + 8), .null]), .inl (aT 0, 24, .inl (fun _ => 0)), .inl (aT 0, 24, .inl (fun _ => 0)), .inl (aT 0, 24, .inl (fun _ => 0)), .inl (aT 0, 24, .inl (fun _ => 0)), .inl (aT 0, 24, .inl (fun _ => 0)), .inl (aT 0, 24, .inl (fun _ => 0)), .inl (aT 0, 24, .inl (fun _ => 0)), .inl (aT 0, 24, .inl (fun _ => 0))] H := hB
  refine lv_aload_n (i := 0) hx hb (k := 0) kd_Flow_68 rfl (lv_at hl 0 rfl) ?_
  refine lv_bipush (n := 24) (v := 24) hx hb kd_Flow_69 (by decide) ?_
  refine lv_bipush (n := 24) (v := 24) hx hb kd_Flow_71 (by decide) ?_
  refine jn_mna hx hb hown hts hE hB hS xw_167 xw_106 (Nat.le_of_ble_eq_true rfl) (Nat.le_of_ble_eq_true rfl) kd_Flow_73 (fun H hB hS => ?_)
  have hB : jn_B D o ([.inr (1, [.int 0, .int 0, .int 0, .int 0, .ref (o + 1), .ref (o + 2), .ref (o + 3), .ref (o + 4), .ref (o + 5), .ref (o + 6), .ref (o + 7), .ref (o + 8), .null]), .inl (aT 0, 24, .inl (fun _ => 0)), .inl (aT 0, 24, .inl (fun _ => 0)), .inl (aT 0, 24, .inl (fun _ => 0)), .inl (aT 0, 24, .inl (fun _ => 0)), .inl (aT 0, 24, .inl (fun _ => 0)), .inl (aT 0, 24, .inl (fun _ => 0)), .inl (aT 0, 24, .inl (fun _ => 0)), .inl (aT 0, 24, .inl (fun _ => 0))] ++ (.inl (aT 5, 24, .inr (.inr (.inr (.inr (fun j => if j < 24 then some (o + 9 + 1 + j) else none))))) :: List.replicate 24 (.inl (aT 0, 24, .inl (fun _ => 0))))) H := hB
  refine jn_put hx hb hown hts hE hB hS hin2 (k := 0) (j := 12) (q := (RX1, TX1, 13)) rfl rfl (Nat.le_of_ble_eq_true rfl) xw_205 rfl rfl (ty := .array (.array .int)) (by decide +kernel) rfl rfl (Nat.le_of_ble_eq_true rfl) kd_Flow_77 (fun H locs hB hS => ?_)
  have hB : jn_B D o ([.inr (1, [.int 0, .int 0, .int 0, .int 0, .ref (o + 1), .ref (o + 2), .ref (o + 3), .ref (o + 4), .ref (o + 5), .ref (o + 6), .ref (o + 7), .ref (o + 8), .ref (o + 9)]), .inl (aT 0, 24, .inl (fun _ => 0)), .inl (aT 0, 24, .inl (fun _ => 0)), .inl (aT 0, 24, .inl (fun _ => 0)), .inl (aT 0, 24, .inl (fun _ => 0)), .inl (aT 0, 24, .inl (fun _ => 0)), .inl (aT 0, 24, .inl (fun _ => 0)), .inl (aT 0, 24, .inl (fun _ => 0)), .inl (aT 0, 24, .inl (fun _ => 0))] ++ (.inl (aT 5, 24, .inr (.inr (.inr (.inr (fun j => if j < 24 then some (o + 9 + 1 + j) else none))))) :: List.replicate 24 (.inl (aT 0, 24, .inl (fun _ => 0))))) H := hB
  exact W.vret hx hb hr (fun t ht _ => ⟨rfl, by rw [ht]; exact hB, fun q hq => by rw [ht]; exact hS.2.1 q (by rw [hB0.1]; exact Nat.lt_add_right _ hq) (by omega)⟩) hS.2.2 kd_Flow_80 hlocks
def blk_Clock (aT : Nat → ClassId) (o : Nat) : List va_E := [.inr (0, [.int 0, .int 0, .int 0, .int 0, .int 0, .int 0, .int 0, .int (-2), .int (-2), .int (-2), .ref (o + 1), .ref (o + 2)]), .inl (aT 0, 8, .inl (fun _ => 0)), .inl (aT 0, 8, .inl (fun _ => 0))]
set_option maxHeartbeats 8000000 in
set_option maxRecDepth 100000 in
theorem jk_Clock (l : Launch) (D : va_G) (aT : Nat → ClassId) (o : Nat) : Met l ⟨"FrameRound$Clock", "<init>", "()V"⟩ (Cond.code ⟨"FrameRound$Clock", "<init>", "()V"⟩ prog_2_method_1_code 1 none :: jm_T) { frames := 1, cells := 2, slots := 16, locals := 12 } (jn_Pc D aT o (.inr (0, [.int 0, .int 0, .int 0, .int 0, .int 0, .int 0, .int 0, .int 0, .int 0, .int 0, .null, .null]))) (jn_Qc D o (blk_Clock aT o)) 2 16 (fun q => o ≤ q) := by
  refine Met.ofW (cc := prog_2_method_1_code) (maxL := 1) (ret := none) (by decide) rfl ?_
  intro p e s m args below meth c s₁ B hml hv
  obtain ⟨rfl, hB, hE⟩ := hv
  have hx := B.exec
  have hb := B.bytes
  have hr := B.returns
  have hts := fun w (hw : w ∈ jm_T) => atoms_spec (ws := Cond.code ⟨"FrameRound$Clock", "<init>", "()V"⟩ prog_2_method_1_code 1 none :: jm_T) B.pre w (List.mem_cons_of_mem _ hw)
  have hown : s.vm.findClass "FrameRound$Clock" = some m.cls := findClass_of_methodNamed B.named
  have hlocks := B.notSynchronized
  have hin2 : meth.name = "<init>" := (name_of_methodNamed B.named B.method).1
  have hB0 := hB
  have hS : va_S (fun q => o ≤ q) s.heap s.heap [] := va_S.rf
  have hl := lv_entry ([.ref o]) (n := 1) (Nat.le_of_ble_eq_true rfl)
  show W p l e _ s m _ below meth c s.heap [] 0 0 _ (entryFrame m ([Value.ref o] : List Value).toArray 1)
  rw [lg_entry_eq]
  generalize (lg_sl ([.ref o]) ++ List.replicate (1 - (lg_sl ([.ref o])).length) Slot.unset).toArray = ls at hl ⊢
  refine lv_aload_n (i := 0) hx hb (k := 0) kd_Clock_0 rfl (lv_at hl 0 rfl) ?_
  refine W.objInit hx hb hown (hts _ xw_276) (hts _ xw_31) (hts _ xw_obj) rfl (hl.1.trans hml.symm) rfl kd_Clock_1 (Nat.le_of_ble_eq_true rfl) (Nat.le_of_ble_eq_true rfl) ?_
  refine lv_aload_n (i := 0) hx hb (k := 0) kd_Clock_4 rfl (lv_at hl 0 rfl) ?_
  refine lv_bipush (n := 8) (v := 8) hx hb kd_Clock_5 (by decide) ?_
  refine jn_newa hx hb hts (t := 0) (atype := .int) (ty := .int) rfl xw_106 hE.2.1 hB hS (N' := 8) (a0 := (8, .inl (fun _ => 0))) (fun _ => rfl) (by decide) (by decide) (by decide) (Nat.le_of_ble_eq_true rfl) (Nat.le_of_ble_eq_true rfl) kd_Clock_7 (fun H hB hS => ?_)
  have hB : jn_B D o [.inr (0, [.int 0, .int 0, .int 0, .int 0, .int 0, .int 0, .int 0, .int 0, .int 0, .int 0, .null, .null]), .inl (aT 0, 8, .inl (fun _ => 0))] H := hB
  refine jn_put hx hb hown hts hE hB hS hin2 (k := 0) (j := 10) (q := (RX0, TX0, 12)) rfl rfl (Nat.le_of_ble_eq_true rfl) xw_298 rfl rfl (ty := .array .int) (by decide +kernel) rfl rfl (Nat.le_of_ble_eq_true rfl) kd_Clock_9 (fun H locs hB hS => ?_)
  have hB : jn_B D o [.inr (0, [.int 0, .int 0, .int 0, .int 0, .int 0, .int 0, .int 0, .int 0, .int 0, .int 0, .ref (o + 1), .null]), .inl (aT 0, 8, .inl (fun _ => 0))] H := hB
  refine lv_aload_n (i := 0) hx hb (k := 0) kd_Clock_12 rfl (lv_at hl 0 rfl) ?_
  refine lv_bipush (n := 8) (v := 8) hx hb kd_Clock_13 (by decide) ?_
  refine jn_newa hx hb hts (t := 0) (atype := .int) (ty := .int) rfl xw_106 hE.2.1 hB hS (N' := 8) (a0 := (8, .inl (fun _ => 0))) (fun _ => rfl) (by decide) (by decide) (by decide) (Nat.le_of_ble_eq_true rfl) (Nat.le_of_ble_eq_true rfl) kd_Clock_15 (fun H hB hS => ?_)
  have hB : jn_B D o [.inr (0, [.int 0, .int 0, .int 0, .int 0, .int 0, .int 0, .int 0, .int 0, .int 0, .int 0, .ref (o + 1), .null]), .inl (aT 0, 8, .inl (fun _ => 0)), .inl (aT 0, 8, .inl (fun _ => 0))] H := hB
  refine jn_put hx hb hown hts hE hB hS hin2 (k := 0) (j := 11) (q := (RX0, TX0, 12)) rfl rfl (Nat.le_of_ble_eq_true rfl) xw_301 rfl rfl (ty := .array .int) (by decide +kernel) rfl rfl (Nat.le_of_ble_eq_true rfl) kd_Clock_17 (fun H locs hB hS => ?_)
  have hB : jn_B D o [.inr (0, [.int 0, .int 0, .int 0, .int 0, .int 0, .int 0, .int 0, .int 0, .int 0, .int 0, .ref (o + 1), .ref (o + 2)]), .inl (aT 0, 8, .inl (fun _ => 0)), .inl (aT 0, 8, .inl (fun _ => 0))] H := hB
  refine lv_aload_n (i := 0) hx hb (k := 0) kd_Clock_20 rfl (lv_at hl 0 rfl) ?_
  refine lv_bipush (n := (-2)) (v := (-2)) hx hb kd_Clock_21 (by decide) ?_
  refine jn_put hx hb hown hts hE hB hS hin2 (k := 0) (j := 7) (q := (RX0, TX0, 12)) rfl rfl (Nat.le_of_ble_eq_true rfl) xw_293 rfl rfl (ty := .int) (by decide +kernel) rfl rfl (Nat.le_of_ble_eq_true rfl) kd_Clock_23 (fun H locs hB hS => ?_)
  have hB : jn_B D o [.inr (0, [.int 0, .int 0, .int 0, .int 0, .int 0, .int 0, .int 0, .int (-2), .int 0, .int 0, .ref (o + 1), .ref (o + 2)]), .inl (aT 0, 8, .inl (fun _ => 0)), .inl (aT 0, 8, .inl (fun _ => 0))] H := hB
  refine lv_aload_n (i := 0) hx hb (k := 0) kd_Clock_26 rfl (lv_at hl 0 rfl) ?_
  refine lv_bipush (n := (-2)) (v := (-2)) hx hb kd_Clock_27 (by decide) ?_
  refine jn_put hx hb hown hts hE hB hS hin2 (k := 0) (j := 8) (q := (RX0, TX0, 12)) rfl rfl (Nat.le_of_ble_eq_true rfl) xw_295 rfl rfl (ty := .int) (by decide +kernel) rfl rfl (Nat.le_of_ble_eq_true rfl) kd_Clock_29 (fun H locs hB hS => ?_)
  have hB : jn_B D o [.inr (0, [.int 0, .int 0, .int 0, .int 0, .int 0, .int 0, .int 0, .int (-2), .int (-2), .int 0, .ref (o + 1), .ref (o + 2)]), .inl (aT 0, 8, .inl (fun _ => 0)), .inl (aT 0, 8, .inl (fun _ => 0))] H := hB
  refine lv_aload_n (i := 0) hx hb (k := 0) kd_Clock_32 rfl (lv_at hl 0 rfl) ?_
  refine lv_bipush (n := (-2)) (v := (-2)) hx hb kd_Clock_33 (by decide) ?_
  refine jn_put hx hb hown hts hE hB hS hin2 (k := 0) (j := 9) (q := (RX0, TX0, 12)) rfl rfl (Nat.le_of_ble_eq_true rfl) xw_297 rfl rfl (ty := .int) (by decide +kernel) rfl rfl (Nat.le_of_ble_eq_true rfl) kd_Clock_35 (fun H locs hB hS => ?_)
  have hB : jn_B D o [.inr (0, [.int 0, .int 0, .int 0, .int 0, .int 0, .int 0, .int 0, .int (-2), .int (-2), .int (-2), .ref (o + 1), .ref (o + 2)]), .inl (aT 0, 8, .inl (fun _ => 0)), .inl (aT 0, 8, .inl (fun _ => 0))] H := hB
  exact W.vret hx hb hr (fun t ht _ => ⟨rfl, by rw [ht]; exact hB, fun q hq => by rw [ht]; exact hS.2.1 q (by rw [hB0.1]; exact Nat.lt_add_right _ hq) (by omega)⟩) hS.2.2 kd_Clock_38 hlocks
def blk_Supply (aT : Nat → ClassId) (o : Nat) : List va_E := [.inr (5, [.ref (o + 1), .ref (o + 2), .int 0]), .inl (aT 0, 401, .inl (fun _ => 0)), .inl (aT 0, 401, .inl (fun _ => 0))]
set_option maxHeartbeats 8000000 in
set_option maxRecDepth 100000 in
theorem jk_Supply (l : Launch) (D : va_G) (aT : Nat → ClassId) (o : Nat) : Met l ⟨"FrameRound$Supply", "<init>", "()V"⟩ (Cond.code ⟨"FrameRound$Supply", "<init>", "()V"⟩ prog_7_method_1_code 1 none :: jm_T) { frames := 1, cells := 2, slots := 802, locals := 12 } (jn_Pc D aT o (.inr (5, [.null, .null, .int 0]))) (jn_Qc D o (blk_Supply aT o)) 2 802 (fun q => o ≤ q) := by
  refine Met.ofW (cc := prog_7_method_1_code) (maxL := 1) (ret := none) (by decide) rfl ?_
  intro p e s m args below meth c s₁ B hml hv
  obtain ⟨rfl, hB, hE⟩ := hv
  have hx := B.exec
  have hb := B.bytes
  have hr := B.returns
  have hts := fun w (hw : w ∈ jm_T) => atoms_spec (ws := Cond.code ⟨"FrameRound$Supply", "<init>", "()V"⟩ prog_7_method_1_code 1 none :: jm_T) B.pre w (List.mem_cons_of_mem _ hw)
  have hown : s.vm.findClass "FrameRound$Supply" = some m.cls := findClass_of_methodNamed B.named
  have hlocks := B.notSynchronized
  have hin2 : meth.name = "<init>" := (name_of_methodNamed B.named B.method).1
  have hB0 := hB
  have hS : va_S (fun q => o ≤ q) s.heap s.heap [] := va_S.rf
  have hl := lv_entry ([.ref o]) (n := 1) (Nat.le_of_ble_eq_true rfl)
  show W p l e _ s m _ below meth c s.heap [] 0 0 _ (entryFrame m ([Value.ref o] : List Value).toArray 1)
  rw [lg_entry_eq]
  generalize (lg_sl ([.ref o]) ++ List.replicate (1 - (lg_sl ([.ref o])).length) Slot.unset).toArray = ls at hl ⊢
  refine lv_aload_n (i := 0) hx hb (k := 0) kd_Supply_0 rfl (lv_at hl 0 rfl) ?_
  refine W.objInit hx hb hown (hts _ xw_257) (hts _ xw_31) (hts _ xw_obj) rfl (hl.1.trans hml.symm) rfl kd_Supply_1 (Nat.le_of_ble_eq_true rfl) (Nat.le_of_ble_eq_true rfl) ?_
  refine lv_aload_n (i := 0) hx hb (k := 0) kd_Supply_4 rfl (lv_at hl 0 rfl) ?_
  refine lv_sipush (n := 401) (v := 401) hx hb kd_Supply_5 (by decide) ?_
  refine jn_newa hx hb hts (t := 0) (atype := .int) (ty := .int) rfl xw_106 hE.2.1 hB hS (N' := 401) (a0 := (401, .inl (fun _ => 0))) (fun _ => rfl) (by decide) (by decide) (by decide) (Nat.le_of_ble_eq_true rfl) (Nat.le_of_ble_eq_true rfl) kd_Supply_8 (fun H hB hS => ?_)
  have hB : jn_B D o [.inr (5, [.null, .null, .int 0]), .inl (aT 0, 401, .inl (fun _ => 0))] H := hB
  refine jn_put hx hb hown hts hE hB hS hin2 (k := 0) (j := 0) (q := (RX5, TX5, 3)) rfl rfl (Nat.le_of_ble_eq_true rfl) xw_258 rfl rfl (ty := .array .int) (by decide +kernel) rfl rfl (Nat.le_of_ble_eq_true rfl) kd_Supply_10 (fun H locs hB hS => ?_)
  have hB : jn_B D o [.inr (5, [.ref (o + 1), .null, .int 0]), .inl (aT 0, 401, .inl (fun _ => 0))] H := hB
  refine lv_aload_n (i := 0) hx hb (k := 0) kd_Supply_13 rfl (lv_at hl 0 rfl) ?_
  refine lv_sipush (n := 401) (v := 401) hx hb kd_Supply_14 (by decide) ?_
  refine jn_newa hx hb hts (t := 0) (atype := .int) (ty := .int) rfl xw_106 hE.2.1 hB hS (N' := 401) (a0 := (401, .inl (fun _ => 0))) (fun _ => rfl) (by decide) (by decide) (by decide) (Nat.le_of_ble_eq_true rfl) (Nat.le_of_ble_eq_true rfl) kd_Supply_17 (fun H hB hS => ?_)
  have hB : jn_B D o [.inr (5, [.ref (o + 1), .null, .int 0]), .inl (aT 0, 401, .inl (fun _ => 0)), .inl (aT 0, 401, .inl (fun _ => 0))] H := hB
  refine jn_put hx hb hown hts hE hB hS hin2 (k := 0) (j := 1) (q := (RX5, TX5, 3)) rfl rfl (Nat.le_of_ble_eq_true rfl) xw_260 rfl rfl (ty := .array .int) (by decide +kernel) rfl rfl (Nat.le_of_ble_eq_true rfl) kd_Supply_19 (fun H locs hB hS => ?_)
  have hB : jn_B D o [.inr (5, [.ref (o + 1), .ref (o + 2), .int 0]), .inl (aT 0, 401, .inl (fun _ => 0)), .inl (aT 0, 401, .inl (fun _ => 0))] H := hB
  exact W.vret hx hb hr (fun t ht _ => ⟨rfl, by rw [ht]; exact hB, fun q hq => by rw [ht]; exact hS.2.1 q (by rw [hB0.1]; exact Nat.lt_add_right _ hq) (by omega)⟩) hS.2.2 kd_Supply_22 hlocks
def blk_Plan (aT : Nat → ClassId) (o : Nat) : List va_E := ((([.inr (3, [.int 0, .ref (o + 1)]), .inl (aT 3, 3, .inr (.inr (.inr (.inr (va_up (va_up (va_up (fun _ => none) 0 (some (o + 2))) 1 (some (o + 9))) 2 (some (o + 16)))))))] ++ blk_Mode aT (o + 2)) ++ blk_Mode aT (o + 9)) ++ blk_Mode aT (o + 16))
set_option maxHeartbeats 8000000 in
set_option maxRecDepth 100000 in
theorem jk_Plan (l : Launch) (D : va_G) (aT : Nat → ClassId) (o : Nat) : Met l ⟨"FrameRound$Plan", "<init>", "()V"⟩ (Cond.code ⟨"FrameRound$Plan", "<init>", "()V"⟩ prog_5_method_1_code 2 none :: jm_T) { frames := 2, cells := 22, slots := 252, locals := 32 } (jn_Pc D aT o (.inr (3, [.int 0, .null]))) (jn_Qc D o (blk_Plan aT o)) 22 252 (fun q => o ≤ q) := by
  refine Met.ofW (cc := prog_5_method_1_code) (maxL := 2) (ret := none) (by decide) rfl ?_
  intro p e s m args below meth c s₁ B hml hv
  obtain ⟨rfl, hB, hE⟩ := hv
  have hx := B.exec
  have hb := B.bytes
  have hr := B.returns
  have hts := fun w (hw : w ∈ jm_T) => atoms_spec (ws := Cond.code ⟨"FrameRound$Plan", "<init>", "()V"⟩ prog_5_method_1_code 2 none :: jm_T) B.pre w (List.mem_cons_of_mem _ hw)
  have hown : s.vm.findClass "FrameRound$Plan" = some m.cls := findClass_of_methodNamed B.named
  have hlocks := B.notSynchronized
  have hin2 : meth.name = "<init>" := (name_of_methodNamed B.named B.method).1
  have hB0 := hB
  have hS : va_S (fun q => o ≤ q) s.heap s.heap [] := va_S.rf
  have hl := lv_entry ([.ref o]) (n := 2) (Nat.le_of_ble_eq_true rfl)
  show W p l e _ s m _ below meth c s.heap [] 0 0 _ (entryFrame m ([Value.ref o] : List Value).toArray 2)
  rw [lg_entry_eq]
  generalize (lg_sl ([.ref o]) ++ List.replicate (2 - (lg_sl ([.ref o])).length) Slot.unset).toArray = ls at hl ⊢
  refine lv_aload_n (i := 0) hx hb (k := 0) kd_Plan_0 rfl (lv_at hl 0 rfl) ?_
  refine W.objInit hx hb hown (hts _ xw_44) (hts _ xw_31) (hts _ xw_obj) rfl (hl.1.trans hml.symm) rfl kd_Plan_1 (Nat.le_of_ble_eq_true rfl) (Nat.le_of_ble_eq_true rfl) ?_
  refine lv_aload_n (i := 0) hx hb (k := 0) kd_Plan_4 rfl (lv_at hl 0 rfl) ?_
  refine lv_iconst (n := 3) (v := 3) hx hb kd_Plan_5 (by decide) ?_
  refine jn_newq hx hb hown hts (t := 3) xw_45 hE.2.2.2.2.2.2.2.1 hE.2.2.2.2.1 hB hS (N' := 3) (by decide) (by decide) (by decide) (Nat.le_of_ble_eq_true rfl) (Nat.le_of_ble_eq_true rfl) kd_Plan_6 (fun H hB hS => ?_)
  have hB : jn_B D o [.inr (3, [.int 0, .null]), .inl (aT 3, 3, .inr (.inr (.inr (.inr (fun _ => none)))))] H := hB
  refine jn_put hx hb hown hts hE hB hS hin2 (k := 0) (j := 1) (q := (RX3, TX3, 2)) rfl rfl (Nat.le_of_ble_eq_true rfl) xw_110 rfl rfl (ty := .array (.object "FrameRound$Mode")) (by decide +kernel) rfl rfl (Nat.le_of_ble_eq_true rfl) kd_Plan_9 (fun H locs hB hS => ?_)
  have hB : jn_B D o [.inr (3, [.int 0, .ref (o + 1)]), .inl (aT 3, 3, .inr (.inr (.inr (.inr (fun _ => none)))))] H := hB
  refine lv_iconst (n := 0) (v := 0) hx hb kd_Plan_12 (by decide) ?_
  refine lv_istore_n (i := 1) (lv' := [(1, .int 0), (0, .ref o)]) hx hb (k := 1) kd_Plan_13 rfl hl (by decide) rfl (fun ls hl => ?_)
  refine lv_iload_n (i := 1) hx hb (k := 1) kd_Plan_14 rfl (lv_at hl 0 rfl) ?_
  refine lv_iconst (n := 3) (v := 3) hx hb kd_Plan_15 (by decide) ?_
  refine lv_icmp_ge (tgt := 38) hx hb kd_Plan_16 rfl (fun hc => absurd hc (by decide)) (fun _ => ?_)
  refine lv_aload_n (i := 0) hx hb (k := 0) kd_Plan_19 rfl (lv_at hl 1 rfl) ?_
  refine jn_get hx hb hown hts hE hB (k := 0) (j := 1) (q := (RX3, TX3, 2)) rfl rfl (Nat.le_of_ble_eq_true rfl) xw_110 kd_Plan_20 (v := .ref (o + 1)) rfl ?_
  refine lv_iload_n (i := 1) hx hb (k := 1) kd_Plan_23 rfl (lv_at hl 0 rfl) ?_
  refine jn_new hx hb hown hts hE hB hS (ci := 2) (fs := [.int 0, .int 0, .int 0, .int 0, .int 0, .null, .null, .null, .null, .null, .null]) (C := RX2) (T := TX2) (N := 11) rfl tyX2 (by decide +kernel) xw_45 xw_47 xw_4 (by decide +kernel) (Nat.le_of_ble_eq_true rfl) (Nat.le_of_ble_eq_true rfl) kd_Plan_24 (fun H hB hS => ?_)
  have hB : jn_B D o ([.inr (3, [.int 0, .ref (o + 1)]), .inl (aT 3, 3, .inr (.inr (.inr (.inr (fun _ => none)))))] ++ [.inr (2, [.int 0, .int 0, .int 0, .int 0, .int 0, .null, .null, .null, .null, .null, .null])]) H := hB
  refine lv_dup hx hb kd_Plan_27 rfl ?_
  refine jn_call hx hb (hml.trans hl.1.symm) hown hts hE (Nat.le_of_ble_eq_true rfl) hB hS (jk_Mode l D aT _) xw_50 xw_4 xw_48 xw_49 rfl ⟨by decide +kernel, by decide +kernel, by decide +kernel⟩ ⟨Nat.le_of_ble_eq_true rfl, Nat.le_of_ble_eq_true rfl⟩ (Nat.le_of_ble_eq_true rfl) ⟨Nat.le_of_ble_eq_true rfl, Nat.le_of_ble_eq_true rfl⟩ kd_Plan_28 (fun H locs hB hS => ?_)
  have hB : jn_B D o ([.inr (3, [.int 0, .ref (o + 1)]), .inl (aT 3, 3, .inr (.inr (.inr (.inr (fun _ => none)))))] ++ blk_Mode aT (o + 2)) H := hB
  refine jn_ast hx hb hE hB hS (t := 3) (ka := 1) (kv := 2) (ci := 2) (n := 3) (r := (RX2, TX2, 11)) hE.2.2.2.2.2.2.2.1 hE.2.2.2.2.1 rfl rfl rfl (i := 0) (jm_in_vp (by decide)) kd_Plan_31 (fun H locs hB hS => ?_)
  have hB : jn_B D o ([.inr (3, [.int 0, .ref (o + 1)]), .inl (aT 3, 3, .inr (.inr (.inr (.inr (va_up (fun _ => none) 0 (some (o + 2)))))))] ++ blk_Mode aT (o + 2)) H := hB
  refine lv_iinc (v := 1) (lv' := [(1, .int 1), (0, .ref o)]) hx hb kd_Plan_32 hl (k := 0) rfl (by decide) (by decide) rfl (fun ls hl => ?_)
  refine lv_goto (tgt := 14) hx hb kd_Plan_35 rfl ?_
  refine lv_iload_n (i := 1) hx hb (k := 1) kd_Plan_14 rfl (lv_at hl 0 rfl) ?_
  refine lv_iconst (n := 3) (v := 3) hx hb kd_Plan_15 (by decide) ?_
  refine lv_icmp_ge (tgt := 38) hx hb kd_Plan_16 rfl (fun hc => absurd hc (by decide)) (fun _ => ?_)
  refine lv_aload_n (i := 0) hx hb (k := 0) kd_Plan_19 rfl (lv_at hl 1 rfl) ?_
  refine jn_get hx hb hown hts hE hB (k := 0) (j := 1) (q := (RX3, TX3, 2)) rfl rfl (Nat.le_of_ble_eq_true rfl) xw_110 kd_Plan_20 (v := .ref (o + 1)) rfl ?_
  refine lv_iload_n (i := 1) hx hb (k := 1) kd_Plan_23 rfl (lv_at hl 0 rfl) ?_
  refine jn_new hx hb hown hts hE hB hS (ci := 2) (fs := [.int 0, .int 0, .int 0, .int 0, .int 0, .null, .null, .null, .null, .null, .null]) (C := RX2) (T := TX2) (N := 11) rfl tyX2 (by decide +kernel) xw_45 xw_47 xw_4 (by decide +kernel) (Nat.le_of_ble_eq_true rfl) (Nat.le_of_ble_eq_true rfl) kd_Plan_24 (fun H hB hS => ?_)
  have hB : jn_B D o (([.inr (3, [.int 0, .ref (o + 1)]), .inl (aT 3, 3, .inr (.inr (.inr (.inr (va_up (fun _ => none) 0 (some (o + 2)))))))] ++ blk_Mode aT (o + 2)) ++ [.inr (2, [.int 0, .int 0, .int 0, .int 0, .int 0, .null, .null, .null, .null, .null, .null])]) H := hB
  refine lv_dup hx hb kd_Plan_27 rfl ?_
  refine jn_call hx hb (hml.trans hl.1.symm) hown hts hE (Nat.le_of_ble_eq_true rfl) hB hS (jk_Mode l D aT _) xw_50 xw_4 xw_48 xw_49 rfl ⟨by decide +kernel, by decide +kernel, by decide +kernel⟩ ⟨Nat.le_of_ble_eq_true rfl, Nat.le_of_ble_eq_true rfl⟩ (Nat.le_of_ble_eq_true rfl) ⟨Nat.le_of_ble_eq_true rfl, Nat.le_of_ble_eq_true rfl⟩ kd_Plan_28 (fun H locs hB hS => ?_)
  have hB : jn_B D o (([.inr (3, [.int 0, .ref (o + 1)]), .inl (aT 3, 3, .inr (.inr (.inr (.inr (va_up (fun _ => none) 0 (some (o + 2)))))))] ++ blk_Mode aT (o + 2)) ++ blk_Mode aT (o + 9)) H := hB
  refine jn_ast hx hb hE hB hS (t := 3) (ka := 1) (kv := 9) (ci := 2) (n := 3) (r := (RX2, TX2, 11)) hE.2.2.2.2.2.2.2.1 hE.2.2.2.2.1 rfl rfl rfl (i := 1) (jm_in_vp (by decide)) kd_Plan_31 (fun H locs hB hS => ?_)
  have hB : jn_B D o (([.inr (3, [.int 0, .ref (o + 1)]), .inl (aT 3, 3, .inr (.inr (.inr (.inr (va_up (va_up (fun _ => none) 0 (some (o + 2))) 1 (some (o + 9)))))))] ++ blk_Mode aT (o + 2)) ++ blk_Mode aT (o + 9)) H := hB
  refine lv_iinc (v := 2) (lv' := [(1, .int 2), (0, .ref o)]) hx hb kd_Plan_32 hl (k := 0) rfl (by decide) (by decide) rfl (fun ls hl => ?_)
  refine lv_goto (tgt := 14) hx hb kd_Plan_35 rfl ?_
  refine lv_iload_n (i := 1) hx hb (k := 1) kd_Plan_14 rfl (lv_at hl 0 rfl) ?_
  refine lv_iconst (n := 3) (v := 3) hx hb kd_Plan_15 (by decide) ?_
  refine lv_icmp_ge (tgt := 38) hx hb kd_Plan_16 rfl (fun hc => absurd hc (by decide)) (fun _ => ?_)
  refine lv_aload_n (i := 0) hx hb (k := 0) kd_Plan_19 rfl (lv_at hl 1 rfl) ?_
  refine jn_get hx hb hown hts hE hB (k := 0) (j := 1) (q := (RX3, TX3, 2)) rfl rfl (Nat.le_of_ble_eq_true rfl) xw_110 kd_Plan_20 (v := .ref (o + 1)) rfl ?_
  refine lv_iload_n (i := 1) hx hb (k := 1) kd_Plan_23 rfl (lv_at hl 0 rfl) ?_
  refine jn_new hx hb hown hts hE hB hS (ci := 2) (fs := [.int 0, .int 0, .int 0, .int 0, .int 0, .null, .null, .null, .null, .null, .null]) (C := RX2) (T := TX2) (N := 11) rfl tyX2 (by decide +kernel) xw_45 xw_47 xw_4 (by decide +kernel) (Nat.le_of_ble_eq_true rfl) (Nat.le_of_ble_eq_true rfl) kd_Plan_24 (fun H hB hS => ?_)
  have hB : jn_B D o ((([.inr (3, [.int 0, .ref (o + 1)]), .inl (aT 3, 3, .inr (.inr (.inr (.inr (va_up (va_up (fun _ => none) 0 (some (o + 2))) 1 (some (o + 9)))))))] ++ blk_Mode aT (o + 2)) ++ blk_Mode aT (o + 9)) ++ [.inr (2, [.int 0, .int 0, .int 0, .int 0, .int 0, .null, .null, .null, .null, .null, .null])]) H := hB
  refine lv_dup hx hb kd_Plan_27 rfl ?_
  refine jn_call hx hb (hml.trans hl.1.symm) hown hts hE (Nat.le_of_ble_eq_true rfl) hB hS (jk_Mode l D aT _) xw_50 xw_4 xw_48 xw_49 rfl ⟨by decide +kernel, by decide +kernel, by decide +kernel⟩ ⟨Nat.le_of_ble_eq_true rfl, Nat.le_of_ble_eq_true rfl⟩ (Nat.le_of_ble_eq_true rfl) ⟨Nat.le_of_ble_eq_true rfl, Nat.le_of_ble_eq_true rfl⟩ kd_Plan_28 (fun H locs hB hS => ?_)
  have hB : jn_B D o ((([.inr (3, [.int 0, .ref (o + 1)]), .inl (aT 3, 3, .inr (.inr (.inr (.inr (va_up (va_up (fun _ => none) 0 (some (o + 2))) 1 (some (o + 9)))))))] ++ blk_Mode aT (o + 2)) ++ blk_Mode aT (o + 9)) ++ blk_Mode aT (o + 16)) H := hB
  refine jn_ast hx hb hE hB hS (t := 3) (ka := 1) (kv := 16) (ci := 2) (n := 3) (r := (RX2, TX2, 11)) hE.2.2.2.2.2.2.2.1 hE.2.2.2.2.1 rfl rfl rfl (i := 2) (jm_in_vp (by decide)) kd_Plan_31 (fun H locs hB hS => ?_)
  have hB : jn_B D o ((([.inr (3, [.int 0, .ref (o + 1)]), .inl (aT 3, 3, .inr (.inr (.inr (.inr (va_up (va_up (va_up (fun _ => none) 0 (some (o + 2))) 1 (some (o + 9))) 2 (some (o + 16)))))))] ++ blk_Mode aT (o + 2)) ++ blk_Mode aT (o + 9)) ++ blk_Mode aT (o + 16)) H := hB
  refine lv_iinc (v := 3) (lv' := [(1, .int 3), (0, .ref o)]) hx hb kd_Plan_32 hl (k := 0) rfl (by decide) (by decide) rfl (fun ls hl => ?_)
  refine lv_goto (tgt := 14) hx hb kd_Plan_35 rfl ?_
  refine lv_iload_n (i := 1) hx hb (k := 1) kd_Plan_14 rfl (lv_at hl 0 rfl) ?_
  refine lv_iconst (n := 3) (v := 3) hx hb kd_Plan_15 (by decide) ?_
  refine lv_icmp_ge (tgt := 38) hx hb kd_Plan_16 rfl (fun _ => ?_) (fun hc => absurd (by decide) hc)
  exact W.vret hx hb hr (fun t ht _ => ⟨rfl, by rw [ht]; exact hB, fun q hq => by rw [ht]; exact hS.2.1 q (by rw [hB0.1]; exact Nat.lt_add_right _ hq) (by omega)⟩) hS.2.2 kd_Plan_38 hlocks
def blk_Table (aT : Nat → ClassId) (o : Nat) : List va_E := ([.inr (6, [.ref (o + 1), .int 0, .int 0, .int 0])] ++ blk_Flow aT (o + 1))
set_option maxHeartbeats 8000000 in
set_option maxRecDepth 100000 in
theorem jk_Table (l : Launch) (D : va_G) (aT : Nat → ClassId) (o : Nat) : Met l ⟨"FrameRound$Table", "<init>", "()V"⟩ (Cond.code ⟨"FrameRound$Table", "<init>", "()V"⟩ prog_8_method_1_code 1 none :: jm_T) { frames := 2, cells := 34, slots := 805, locals := 32 } (jn_Pc D aT o (.inr (6, [.null, .int 0, .int 0, .int 0]))) (jn_Qc D o (blk_Table aT o)) 34 805 (fun q => o ≤ q) := by
  refine Met.ofW (cc := prog_8_method_1_code) (maxL := 1) (ret := none) (by decide) rfl ?_
  intro p e s m args below meth c s₁ B hml hv
  obtain ⟨rfl, hB, hE⟩ := hv
  have hx := B.exec
  have hb := B.bytes
  have hr := B.returns
  have hts := fun w (hw : w ∈ jm_T) => atoms_spec (ws := Cond.code ⟨"FrameRound$Table", "<init>", "()V"⟩ prog_8_method_1_code 1 none :: jm_T) B.pre w (List.mem_cons_of_mem _ hw)
  have hown : s.vm.findClass "FrameRound$Table" = some m.cls := findClass_of_methodNamed B.named
  have hlocks := B.notSynchronized
  have hin2 : meth.name = "<init>" := (name_of_methodNamed B.named B.method).1
  have hB0 := hB
  have hS : va_S (fun q => o ≤ q) s.heap s.heap [] := va_S.rf
  have hl := lv_entry ([.ref o]) (n := 1) (Nat.le_of_ble_eq_true rfl)
  show W p l e _ s m _ below meth c s.heap [] 0 0 _ (entryFrame m ([Value.ref o] : List Value).toArray 1)
  rw [lg_entry_eq]
  generalize (lg_sl ([.ref o]) ++ List.replicate (1 - (lg_sl ([.ref o])).length) Slot.unset).toArray = ls at hl ⊢
  refine lv_aload_n (i := 0) hx hb (k := 0) kd_Table_0 rfl (lv_at hl 0 rfl) ?_
  refine W.objInit hx hb hown (hts _ xw_160) (hts _ xw_31) (hts _ xw_obj) rfl (hl.1.trans hml.symm) rfl kd_Table_1 (Nat.le_of_ble_eq_true rfl) (Nat.le_of_ble_eq_true rfl) ?_
  refine lv_aload_n (i := 0) hx hb (k := 0) kd_Table_4 rfl (lv_at hl 0 rfl) ?_
  refine jn_new hx hb hown hts hE hB hS (ci := 1) (fs := [.int 0, .int 0, .int 0, .int 0, .null, .null, .null, .null, .null, .null, .null, .null, .null]) (C := RX1) (T := TX1) (N := 13) rfl tyX1 (by decide +kernel) xw_161 xw_162 xw_6 (by decide +kernel) (Nat.le_of_ble_eq_true rfl) (Nat.le_of_ble_eq_true rfl) kd_Table_5 (fun H hB hS => ?_)
  have hB : jn_B D o ([.inr (6, [.null, .int 0, .int 0, .int 0])] ++ [.inr (1, [.int 0, .int 0, .int 0, .int 0, .null, .null, .null, .null, .null, .null, .null, .null, .null])]) H := hB
  refine lv_dup hx hb kd_Table_8 rfl ?_
  refine jn_call hx hb (hml.trans hl.1.symm) hown hts hE (Nat.le_of_ble_eq_true rfl) hB hS (jk_Flow l D aT _) xw_165 xw_6 xw_163 xw_164 rfl ⟨by decide +kernel, by decide +kernel, by decide +kernel⟩ ⟨Nat.le_of_ble_eq_true rfl, Nat.le_of_ble_eq_true rfl⟩ (Nat.le_of_ble_eq_true rfl) ⟨Nat.le_of_ble_eq_true rfl, Nat.le_of_ble_eq_true rfl⟩ kd_Table_9 (fun H locs hB hS => ?_)
  have hB : jn_B D o ([.inr (6, [.null, .int 0, .int 0, .int 0])] ++ blk_Flow aT (o + 1)) H := hB
  refine jn_put hx hb hown hts hE hB hS hin2 (k := 0) (j := 0) (q := (RX6, TX6, 4)) rfl rfl (Nat.le_of_ble_eq_true rfl) xw_235 rfl rfl (ty := .object "FrameRound$Flow") (by decide +kernel) rfl rfl (Nat.le_of_ble_eq_true rfl) kd_Table_12 (fun H locs hB hS => ?_)
  have hB : jn_B D o ([.inr (6, [.ref (o + 1), .int 0, .int 0, .int 0])] ++ blk_Flow aT (o + 1)) H := hB
  exact W.vret hx hb hr (fun t ht _ => ⟨rfl, by rw [ht]; exact hB, fun q hq => by rw [ht]; exact hS.2.1 q (by rw [hB0.1]; exact Nat.lt_add_right _ hq) (by omega)⟩) hS.2.2 kd_Table_15 hlocks
def blk_Reader (aT : Nat → ClassId) (o : Nat) : List va_E := ([.inr (4, [.ref (o + 1), .int 0, .int 0, .int 0, .int 0, .int 0, .int 0, .int 0, .int 0, .ref (o + 2)]), .inl (aT 1, 700, .inl (fun _ => 0))] ++ blk_Plan aT (o + 2))
set_option maxHeartbeats 8000000 in
set_option maxRecDepth 100000 in
theorem jk_Reader (l : Launch) (D : va_G) (aT : Nat → ClassId) (o : Nat) : Met l ⟨"FrameRound$Reader", "<init>", "()V"⟩ (Cond.code ⟨"FrameRound$Reader", "<init>", "()V"⟩ prog_6_method_1_code 1 none :: jm_T) { frames := 3, cells := 24, slots := 954, locals := 53 } (jn_Pc D aT o (.inr (4, [.null, .int 0, .int 0, .int 0, .int 0, .int 0, .int 0, .int 0, .int 0, .null]))) (jn_Qc D o (blk_Reader aT o)) 24 954 (fun q => o ≤ q) := by
  refine Met.ofW (cc := prog_6_method_1_code) (maxL := 1) (ret := none) (by decide) rfl ?_
  intro p e s m args below meth c s₁ B hml hv
  obtain ⟨rfl, hB, hE⟩ := hv
  have hx := B.exec
  have hb := B.bytes
  have hr := B.returns
  have hts := fun w (hw : w ∈ jm_T) => atoms_spec (ws := Cond.code ⟨"FrameRound$Reader", "<init>", "()V"⟩ prog_6_method_1_code 1 none :: jm_T) B.pre w (List.mem_cons_of_mem _ hw)
  have hown : s.vm.findClass "FrameRound$Reader" = some m.cls := findClass_of_methodNamed B.named
  have hlocks := B.notSynchronized
  have hin2 : meth.name = "<init>" := (name_of_methodNamed B.named B.method).1
  have hB0 := hB
  have hS : va_S (fun q => o ≤ q) s.heap s.heap [] := va_S.rf
  have hl := lv_entry ([.ref o]) (n := 1) (Nat.le_of_ble_eq_true rfl)
  show W p l e _ s m _ below meth c s.heap [] 0 0 _ (entryFrame m ([Value.ref o] : List Value).toArray 1)
  rw [lg_entry_eq]
  generalize (lg_sl ([.ref o]) ++ List.replicate (1 - (lg_sl ([.ref o])).length) Slot.unset).toArray = ls at hl ⊢
  refine lv_aload_n (i := 0) hx hb (k := 0) kd_Reader_0 rfl (lv_at hl 0 rfl) ?_
  refine W.objInit hx hb hown (hts _ xw_38) (hts _ xw_31) (hts _ xw_obj) rfl (hl.1.trans hml.symm) rfl kd_Reader_1 (Nat.le_of_ble_eq_true rfl) (Nat.le_of_ble_eq_true rfl) ?_
  refine lv_aload_n (i := 0) hx hb (k := 0) kd_Reader_4 rfl (lv_at hl 0 rfl) ?_
  refine lv_sipush (n := 700) (v := 700) hx hb kd_Reader_5 (by decide) ?_
  refine jn_newa hx hb hts (t := 1) (atype := .byte) (ty := .byte) rfl xw_105 hE.2.2.1 hB hS (N' := 700) (a0 := (700, .inl (fun _ => 0))) (fun _ => rfl) (by decide) (by decide) (by decide) (Nat.le_of_ble_eq_true rfl) (Nat.le_of_ble_eq_true rfl) kd_Reader_8 (fun H hB hS => ?_)
  have hB : jn_B D o [.inr (4, [.null, .int 0, .int 0, .int 0, .int 0, .int 0, .int 0, .int 0, .int 0, .null]), .inl (aT 1, 700, .inl (fun _ => 0))] H := hB
  refine jn_put hx hb hown hts hE hB hS hin2 (k := 0) (j := 0) (q := (RX4, TX4, 10)) rfl rfl (Nat.le_of_ble_eq_true rfl) xw_118 rfl rfl (ty := .array .byte) (by decide +kernel) rfl rfl (Nat.le_of_ble_eq_true rfl) kd_Reader_10 (fun H locs hB hS => ?_)
  have hB : jn_B D o [.inr (4, [.ref (o + 1), .int 0, .int 0, .int 0, .int 0, .int 0, .int 0, .int 0, .int 0, .null]), .inl (aT 1, 700, .inl (fun _ => 0))] H := hB
  refine lv_aload_n (i := 0) hx hb (k := 0) kd_Reader_13 rfl (lv_at hl 0 rfl) ?_
  refine jn_new hx hb hown hts hE hB hS (ci := 3) (fs := [.int 0, .null]) (C := RX3) (T := TX3) (N := 2) rfl tyX3 (by decide +kernel) xw_39 xw_40 xw_3 (by decide +kernel) (Nat.le_of_ble_eq_true rfl) (Nat.le_of_ble_eq_true rfl) kd_Reader_14 (fun H hB hS => ?_)
  have hB : jn_B D o ([.inr (4, [.ref (o + 1), .int 0, .int 0, .int 0, .int 0, .int 0, .int 0, .int 0, .int 0, .null]), .inl (aT 1, 700, .inl (fun _ => 0))] ++ [.inr (3, [.int 0, .null])]) H := hB
  refine lv_dup hx hb kd_Reader_17 rfl ?_
  refine jn_call hx hb (hml.trans hl.1.symm) hown hts hE (Nat.le_of_ble_eq_true rfl) hB hS (jk_Plan l D aT _) xw_43 xw_3 xw_41 xw_42 rfl ⟨by decide +kernel, by decide +kernel, by decide +kernel⟩ ⟨Nat.le_of_ble_eq_true rfl, Nat.le_of_ble_eq_true rfl⟩ (Nat.le_of_ble_eq_true rfl) ⟨Nat.le_of_ble_eq_true rfl, Nat.le_of_ble_eq_true rfl⟩ kd_Reader_18 (fun H locs hB hS => ?_)
  have hB : jn_B D o ([.inr (4, [.ref (o + 1), .int 0, .int 0, .int 0, .int 0, .int 0, .int 0, .int 0, .int 0, .null]), .inl (aT 1, 700, .inl (fun _ => 0))] ++ blk_Plan aT (o + 2)) H := hB
  refine jn_put hx hb hown hts hE hB hS hin2 (k := 0) (j := 9) (q := (RX4, TX4, 10)) rfl rfl (Nat.le_of_ble_eq_true rfl) xw_129 rfl rfl (ty := .object "FrameRound$Plan") (by decide +kernel) rfl rfl (Nat.le_of_ble_eq_true rfl) kd_Reader_21 (fun H locs hB hS => ?_)
  have hB : jn_B D o ([.inr (4, [.ref (o + 1), .int 0, .int 0, .int 0, .int 0, .int 0, .int 0, .int 0, .int 0, .ref (o + 2)]), .inl (aT 1, 700, .inl (fun _ => 0))] ++ blk_Plan aT (o + 2)) H := hB
  exact W.vret hx hb hr (fun t ht _ => ⟨rfl, by rw [ht]; exact hB, fun q hq => by rw [ht]; exact hS.2.1 q (by rw [hB0.1]; exact Nat.lt_add_right _ hq) (by omega)⟩) hS.2.2 kd_Reader_24 hlocks
def blk_M (aT : Nat → ClassId) (o : Nat) : List va_E := [.inr (8, [.int 0, .int 0, .int 0, .int (-1), .ref (o + 1), .int 0, .int 0, .int 0, .ref (o + 2), .ref (o + 3), .ref (o + 4), .ref (o + 5), .ref (o + 6), .ref (o + 7), .ref (o + 8), .ref (o + 9), .int 0, .int 0, .int 0, .int 0, .int 0, .int 0, .int 0, .ref (o + 10), .ref (o + 11), .ref (o + 12), .int 0, .int 0, .int 0, .ref (o + 13), .ref (o + 14), .ref (o + 15), .ref (o + 16), .ref (o + 17), .ref (o + 18), .int 0, .ref (o + 19), .ref (o + 20), .ref (o + 21), .ref (o + 22), .ref (o + 23), .ref (o + 24), .ref (o + 25), .int 0, .int 0, .int 0, .int 0, .int 0, .int 0]), .inl (aT 0, 700, .inl (fun _ => 0)), .inl (aT 0, 6, .inl (fun _ => 0)), .inl (aT 0, 6, .inl (fun _ => 0)), .inl (aT 0, 6, .inl (fun _ => 0)), .inl (aT 0, 6, .inl (fun _ => 0)), .inl (aT 0, 36, .inl (fun _ => 0)), .inl (aT 0, 36, .inl (fun _ => 0)), .inl (aT 0, 36, .inl (fun _ => 0)), .inl (aT 0, 36, .inl (fun _ => 0)), .inl (aT 0, 3, .inl (fun _ => 0)), .inl (aT 0, 72, .inl (fun _ => 0)), .inl (aT 0, 72, .inl (fun _ => 0)), .inl (aT 0, 24, .inl (fun _ => 0)), .inl (aT 0, 24, .inl (fun _ => 0)), .inl (aT 0, 24, .inl (fun _ => 0)), .inl (aT 0, 25, .inl (fun _ => 0)), .inl (aT 0, 576, .inl (fun _ => 0)), .inl (aT 0, 24, .inl (fun _ => 0)), .inl (aT 0, 576, .inl (fun _ => 0)), .inl (aT 0, 3, .inl (fun _ => 0)), .inl (aT 0, 1728, .inl (fun _ => 0)), .inl (aT 0, 3, .inl (fun _ => 0)), .inl (aT 0, 72, .inl (fun _ => 0)), .inl (aT 0, 28, .inl (fun _ => 0)), .inl (aT 0, 28, .inl (fun _ => 0))]
set_option maxHeartbeats 8000000 in
set_option maxRecDepth 100000 in
theorem jk_M (l : Launch) (D : va_G) (aT : Nat → ClassId) (o : Nat) : Met l ⟨"FrameRoundModel", "<init>", "()V"⟩ (Cond.code ⟨"FrameRoundModel", "<init>", "()V"⟩ prog_11_method_5_code 1 none :: jm_T) { frames := 1, cells := 25, slots := 4150, locals := 12 } (jn_Pc D aT o (.inr (8, [.int 0, .int 0, .int 0, .int 0, .null, .int 0, .int 0, .int 0, .null, .null, .null, .null, .null, .null, .null, .null, .int 0, .int 0, .int 0, .int 0, .int 0, .int 0, .int 0, .null, .null, .null, .int 0, .int 0, .int 0, .null, .null, .null, .null, .null, .null, .int 0, .null, .null, .null, .null, .null, .null, .null, .int 0, .int 0, .int 0, .int 0, .int 0, .int 0]))) (jn_Qc D o (blk_M aT o)) 25 4150 (fun q => o ≤ q) := by
  refine Met.ofW (cc := prog_11_method_5_code) (maxL := 1) (ret := none) (by decide) rfl ?_
  intro p e s m args below meth c s₁ B hml hv
  obtain ⟨rfl, hB, hE⟩ := hv
  have hx := B.exec
  have hb := B.bytes
  have hr := B.returns
  have hts := fun w (hw : w ∈ jm_T) => atoms_spec (ws := Cond.code ⟨"FrameRoundModel", "<init>", "()V"⟩ prog_11_method_5_code 1 none :: jm_T) B.pre w (List.mem_cons_of_mem _ hw)
  have hown : s.vm.findClass "FrameRoundModel" = some m.cls := findClass_of_methodNamed B.named
  have hlocks := B.notSynchronized
  have hin2 : meth.name = "<init>" := (name_of_methodNamed B.named B.method).1
  have hB0 := hB
  have hS : va_S (fun q => o ≤ q) s.heap s.heap [] := va_S.rf
  have hl := lv_entry ([.ref o]) (n := 1) (Nat.le_of_ble_eq_true rfl)
  show W p l e _ s m _ below meth c s.heap [] 0 0 _ (entryFrame m ([Value.ref o] : List Value).toArray 1)
  rw [lg_entry_eq]
  generalize (lg_sl ([.ref o]) ++ List.replicate (1 - (lg_sl ([.ref o])).length) Slot.unset).toArray = ls at hl ⊢
  refine lv_aload_n (i := 0) hx hb (k := 0) kd_M_0 rfl (lv_at hl 0 rfl) ?_
  refine W.objInit hx hb hown (hts _ xw_1142) (hts _ xw_31) (hts _ xw_obj) rfl (hl.1.trans hml.symm) rfl kd_M_1 (Nat.le_of_ble_eq_true rfl) (Nat.le_of_ble_eq_true rfl) ?_
  refine lv_aload_n (i := 0) hx hb (k := 0) kd_M_4 rfl (lv_at hl 0 rfl) ?_
  refine lv_iconst (n := (-1)) (v := (-1)) hx hb kd_M_5 (by decide) ?_
  refine jn_put hx hb hown hts hE hB hS hin2 (k := 0) (j := 3) (q := (RX9, TX9, 49)) rfl rfl (Nat.le_of_ble_eq_true rfl) xw_1146 rfl rfl (ty := .int) (by decide +kernel) rfl rfl (Nat.le_of_ble_eq_true rfl) kd_M_6 (fun H locs hB hS => ?_)
  have hB : jn_B D o [.inr (8, [.int 0, .int 0, .int 0, .int (-1), .null, .int 0, .int 0, .int 0, .null, .null, .null, .null, .null, .null, .null, .null, .int 0, .int 0, .int 0, .int 0, .int 0, .int 0, .int 0, .null, .null, .null, .int 0, .int 0, .int 0, .null, .null, .null, .null, .null, .null, .int 0, .null, .null, .null, .null, .null, .null, .null, .int 0, .int 0, .int 0, .int 0, .int 0, .int 0])] H := hB
  refine lv_aload_n (i := 0) hx hb (k := 0) kd_M_9 rfl (lv_at hl 0 rfl) ?_
  refine lv_sipush (n := 700) (v := 700) hx hb kd_M_10 (by decide) ?_
  refine jn_newa hx hb hts (t := 0) (atype := .int) (ty := .int) rfl xw_106 hE.2.1 hB hS (N' := 700) (a0 := (700, .inl (fun _ => 0))) (fun _ => rfl) (by decide) (by decide) (by decide) (Nat.le_of_ble_eq_true rfl) (Nat.le_of_ble_eq_true rfl) kd_M_13 (fun H hB hS => ?_)
  have hB : jn_B D o [.inr (8, [.int 0, .int 0, .int 0, .int (-1), .null, .int 0, .int 0, .int 0, .null, .null, .null, .null, .null, .null, .null, .null, .int 0, .int 0, .int 0, .int 0, .int 0, .int 0, .int 0, .null, .null, .null, .int 0, .int 0, .int 0, .null, .null, .null, .null, .null, .null, .int 0, .null, .null, .null, .null, .null, .null, .null, .int 0, .int 0, .int 0, .int 0, .int 0, .int 0]), .inl (aT 0, 700, .inl (fun _ => 0))] H := hB
  refine jn_put hx hb hown hts hE hB hS hin2 (k := 0) (j := 4) (q := (RX9, TX9, 49)) rfl rfl (Nat.le_of_ble_eq_true rfl) xw_1147 rfl rfl (ty := .array .int) (by decide +kernel) rfl rfl (Nat.le_of_ble_eq_true rfl) kd_M_15 (fun H locs hB hS => ?_)
  have hB : jn_B D o [.inr (8, [.int 0, .int 0, .int 0, .int (-1), .ref (o + 1), .int 0, .int 0, .int 0, .null, .null, .null, .null, .null, .null, .null, .null, .int 0, .int 0, .int 0, .int 0, .int 0, .int 0, .int 0, .null, .null, .null, .int 0, .int 0, .int 0, .null, .null, .null, .null, .null, .null, .int 0, .null, .null, .null, .null, .null, .null, .null, .int 0, .int 0, .int 0, .int 0, .int 0, .int 0]), .inl (aT 0, 700, .inl (fun _ => 0))] H := hB
  refine lv_aload_n (i := 0) hx hb (k := 0) kd_M_18 rfl (lv_at hl 0 rfl) ?_
  refine lv_bipush (n := 6) (v := 6) hx hb kd_M_19 (by decide) ?_
  refine jn_newa hx hb hts (t := 0) (atype := .int) (ty := .int) rfl xw_106 hE.2.1 hB hS (N' := 6) (a0 := (6, .inl (fun _ => 0))) (fun _ => rfl) (by decide) (by decide) (by decide) (Nat.le_of_ble_eq_true rfl) (Nat.le_of_ble_eq_true rfl) kd_M_21 (fun H hB hS => ?_)
  have hB : jn_B D o [.inr (8, [.int 0, .int 0, .int 0, .int (-1), .ref (o + 1), .int 0, .int 0, .int 0, .null, .null, .null, .null, .null, .null, .null, .null, .int 0, .int 0, .int 0, .int 0, .int 0, .int 0, .int 0, .null, .null, .null, .int 0, .int 0, .int 0, .null, .null, .null, .null, .null, .null, .int 0, .null, .null, .null, .null, .null, .null, .null, .int 0, .int 0, .int 0, .int 0, .int 0, .int 0]), .inl (aT 0, 700, .inl (fun _ => 0)), .inl (aT 0, 6, .inl (fun _ => 0))] H := hB
  refine jn_put hx hb hown hts hE hB hS hin2 (k := 0) (j := 8) (q := (RX9, TX9, 49)) rfl rfl (Nat.le_of_ble_eq_true rfl) xw_1151 rfl rfl (ty := .array .int) (by decide +kernel) rfl rfl (Nat.le_of_ble_eq_true rfl) kd_M_23 (fun H locs hB hS => ?_)
  have hB : jn_B D o [.inr (8, [.int 0, .int 0, .int 0, .int (-1), .ref (o + 1), .int 0, .int 0, .int 0, .ref (o + 2), .null, .null, .null, .null, .null, .null, .null, .int 0, .int 0, .int 0, .int 0, .int 0, .int 0, .int 0, .null, .null, .null, .int 0, .int 0, .int 0, .null, .null, .null, .null, .null, .null, .int 0, .null, .null, .null, .null, .null, .null, .null, .int 0, .int 0, .int 0, .int 0, .int 0, .int 0]), .inl (aT 0, 700, .inl (fun _ => 0)), .inl (aT 0, 6, .inl (fun _ => 0))] H := hB
  refine lv_aload_n (i := 0) hx hb (k := 0) kd_M_26 rfl (lv_at hl 0 rfl) ?_
  refine lv_bipush (n := 6) (v := 6) hx hb kd_M_27 (by decide) ?_
  refine jn_newa hx hb hts (t := 0) (atype := .int) (ty := .int) rfl xw_106 hE.2.1 hB hS (N' := 6) (a0 := (6, .inl (fun _ => 0))) (fun _ => rfl) (by decide) (by decide) (by decide) (Nat.le_of_ble_eq_true rfl) (Nat.le_of_ble_eq_true rfl) kd_M_29 (fun H hB hS => ?_)
  have hB : jn_B D o [.inr (8, [.int 0, .int 0, .int 0, .int (-1), .ref (o + 1), .int 0, .int 0, .int 0, .ref (o + 2), .null, .null, .null, .null, .null, .null, .null, .int 0, .int 0, .int 0, .int 0, .int 0, .int 0, .int 0, .null, .null, .null, .int 0, .int 0, .int 0, .null, .null, .null, .null, .null, .null, .int 0, .null, .null, .null, .null, .null, .null, .null, .int 0, .int 0, .int 0, .int 0, .int 0, .int 0]), .inl (aT 0, 700, .inl (fun _ => 0)), .inl (aT 0, 6, .inl (fun _ => 0)), .inl (aT 0, 6, .inl (fun _ => 0))] H := hB
  refine jn_put hx hb hown hts hE hB hS hin2 (k := 0) (j := 9) (q := (RX9, TX9, 49)) rfl rfl (Nat.le_of_ble_eq_true rfl) xw_1152 rfl rfl (ty := .array .int) (by decide +kernel) rfl rfl (Nat.le_of_ble_eq_true rfl) kd_M_31 (fun H locs hB hS => ?_)
  have hB : jn_B D o [.inr (8, [.int 0, .int 0, .int 0, .int (-1), .ref (o + 1), .int 0, .int 0, .int 0, .ref (o + 2), .ref (o + 3), .null, .null, .null, .null, .null, .null, .int 0, .int 0, .int 0, .int 0, .int 0, .int 0, .int 0, .null, .null, .null, .int 0, .int 0, .int 0, .null, .null, .null, .null, .null, .null, .int 0, .null, .null, .null, .null, .null, .null, .null, .int 0, .int 0, .int 0, .int 0, .int 0, .int 0]), .inl (aT 0, 700, .inl (fun _ => 0)), .inl (aT 0, 6, .inl (fun _ => 0)), .inl (aT 0, 6, .inl (fun _ => 0))] H := hB
  refine lv_aload_n (i := 0) hx hb (k := 0) kd_M_34 rfl (lv_at hl 0 rfl) ?_
  refine lv_bipush (n := 6) (v := 6) hx hb kd_M_35 (by decide) ?_
  refine jn_newa hx hb hts (t := 0) (atype := .int) (ty := .int) rfl xw_106 hE.2.1 hB hS (N' := 6) (a0 := (6, .inl (fun _ => 0))) (fun _ => rfl) (by decide) (by decide) (by decide) (Nat.le_of_ble_eq_true rfl) (Nat.le_of_ble_eq_true rfl) kd_M_37 (fun H hB hS => ?_)
  have hB : jn_B D o [.inr (8, [.int 0, .int 0, .int 0, .int (-1), .ref (o + 1), .int 0, .int 0, .int 0, .ref (o + 2), .ref (o + 3), .null, .null, .null, .null, .null, .null, .int 0, .int 0, .int 0, .int 0, .int 0, .int 0, .int 0, .null, .null, .null, .int 0, .int 0, .int 0, .null, .null, .null, .null, .null, .null, .int 0, .null, .null, .null, .null, .null, .null, .null, .int 0, .int 0, .int 0, .int 0, .int 0, .int 0]), .inl (aT 0, 700, .inl (fun _ => 0)), .inl (aT 0, 6, .inl (fun _ => 0)), .inl (aT 0, 6, .inl (fun _ => 0)), .inl (aT 0, 6, .inl (fun _ => 0))] H := hB
  refine jn_put hx hb hown hts hE hB hS hin2 (k := 0) (j := 10) (q := (RX9, TX9, 49)) rfl rfl (Nat.le_of_ble_eq_true rfl) xw_1153 rfl rfl (ty := .array .int) (by decide +kernel) rfl rfl (Nat.le_of_ble_eq_true rfl) kd_M_39 (fun H locs hB hS => ?_)
  have hB : jn_B D o [.inr (8, [.int 0, .int 0, .int 0, .int (-1), .ref (o + 1), .int 0, .int 0, .int 0, .ref (o + 2), .ref (o + 3), .ref (o + 4), .null, .null, .null, .null, .null, .int 0, .int 0, .int 0, .int 0, .int 0, .int 0, .int 0, .null, .null, .null, .int 0, .int 0, .int 0, .null, .null, .null, .null, .null, .null, .int 0, .null, .null, .null, .null, .null, .null, .null, .int 0, .int 0, .int 0, .int 0, .int 0, .int 0]), .inl (aT 0, 700, .inl (fun _ => 0)), .inl (aT 0, 6, .inl (fun _ => 0)), .inl (aT 0, 6, .inl (fun _ => 0)), .inl (aT 0, 6, .inl (fun _ => 0))] H := hB
  refine lv_aload_n (i := 0) hx hb (k := 0) kd_M_42 rfl (lv_at hl 0 rfl) ?_
  refine lv_bipush (n := 6) (v := 6) hx hb kd_M_43 (by decide) ?_
  refine jn_newa hx hb hts (t := 0) (atype := .int) (ty := .int) rfl xw_106 hE.2.1 hB hS (N' := 6) (a0 := (6, .inl (fun _ => 0))) (fun _ => rfl) (by decide) (by decide) (by decide) (Nat.le_of_ble_eq_true rfl) (Nat.le_of_ble_eq_true rfl) kd_M_45 (fun H hB hS => ?_)
  have hB : jn_B D o [.inr (8, [.int 0, .int 0, .int 0, .int (-1), .ref (o + 1), .int 0, .int 0, .int 0, .ref (o + 2), .ref (o + 3), .ref (o + 4), .null, .null, .null, .null, .null, .int 0, .int 0, .int 0, .int 0, .int 0, .int 0, .int 0, .null, .null, .null, .int 0, .int 0, .int 0, .null, .null, .null, .null, .null, .null, .int 0, .null, .null, .null, .null, .null, .null, .null, .int 0, .int 0, .int 0, .int 0, .int 0, .int 0]), .inl (aT 0, 700, .inl (fun _ => 0)), .inl (aT 0, 6, .inl (fun _ => 0)), .inl (aT 0, 6, .inl (fun _ => 0)), .inl (aT 0, 6, .inl (fun _ => 0)), .inl (aT 0, 6, .inl (fun _ => 0))] H := hB
  refine jn_put hx hb hown hts hE hB hS hin2 (k := 0) (j := 11) (q := (RX9, TX9, 49)) rfl rfl (Nat.le_of_ble_eq_true rfl) xw_1154 rfl rfl (ty := .array .int) (by decide +kernel) rfl rfl (Nat.le_of_ble_eq_true rfl) kd_M_47 (fun H locs hB hS => ?_)
  have hB : jn_B D o [.inr (8, [.int 0, .int 0, .int 0, .int (-1), .ref (o + 1), .int 0, .int 0, .int 0, .ref (o + 2), .ref (o + 3), .ref (o + 4), .ref (o + 5), .null, .null, .null, .null, .int 0, .int 0, .int 0, .int 0, .int 0, .int 0, .int 0, .null, .null, .null, .int 0, .int 0, .int 0, .null, .null, .null, .null, .null, .null, .int 0, .null, .null, .null, .null, .null, .null, .null, .int 0, .int 0, .int 0, .int 0, .int 0, .int 0]), .inl (aT 0, 700, .inl (fun _ => 0)), .inl (aT 0, 6, .inl (fun _ => 0)), .inl (aT 0, 6, .inl (fun _ => 0)), .inl (aT 0, 6, .inl (fun _ => 0)), .inl (aT 0, 6, .inl (fun _ => 0))] H := hB
  refine lv_aload_n (i := 0) hx hb (k := 0) kd_M_50 rfl (lv_at hl 0 rfl) ?_
  refine lv_bipush (n := 36) (v := 36) hx hb kd_M_51 (by decide) ?_
  refine jn_newa hx hb hts (t := 0) (atype := .int) (ty := .int) rfl xw_106 hE.2.1 hB hS (N' := 36) (a0 := (36, .inl (fun _ => 0))) (fun _ => rfl) (by decide) (by decide) (by decide) (Nat.le_of_ble_eq_true rfl) (Nat.le_of_ble_eq_true rfl) kd_M_53 (fun H hB hS => ?_)
  have hB : jn_B D o [.inr (8, [.int 0, .int 0, .int 0, .int (-1), .ref (o + 1), .int 0, .int 0, .int 0, .ref (o + 2), .ref (o + 3), .ref (o + 4), .ref (o + 5), .null, .null, .null, .null, .int 0, .int 0, .int 0, .int 0, .int 0, .int 0, .int 0, .null, .null, .null, .int 0, .int 0, .int 0, .null, .null, .null, .null, .null, .null, .int 0, .null, .null, .null, .null, .null, .null, .null, .int 0, .int 0, .int 0, .int 0, .int 0, .int 0]), .inl (aT 0, 700, .inl (fun _ => 0)), .inl (aT 0, 6, .inl (fun _ => 0)), .inl (aT 0, 6, .inl (fun _ => 0)), .inl (aT 0, 6, .inl (fun _ => 0)), .inl (aT 0, 6, .inl (fun _ => 0)), .inl (aT 0, 36, .inl (fun _ => 0))] H := hB
  refine jn_put hx hb hown hts hE hB hS hin2 (k := 0) (j := 12) (q := (RX9, TX9, 49)) rfl rfl (Nat.le_of_ble_eq_true rfl) xw_1155 rfl rfl (ty := .array .int) (by decide +kernel) rfl rfl (Nat.le_of_ble_eq_true rfl) kd_M_55 (fun H locs hB hS => ?_)
  have hB : jn_B D o [.inr (8, [.int 0, .int 0, .int 0, .int (-1), .ref (o + 1), .int 0, .int 0, .int 0, .ref (o + 2), .ref (o + 3), .ref (o + 4), .ref (o + 5), .ref (o + 6), .null, .null, .null, .int 0, .int 0, .int 0, .int 0, .int 0, .int 0, .int 0, .null, .null, .null, .int 0, .int 0, .int 0, .null, .null, .null, .null, .null, .null, .int 0, .null, .null, .null, .null, .null, .null, .null, .int 0, .int 0, .int 0, .int 0, .int 0, .int 0]), .inl (aT 0, 700, .inl (fun _ => 0)), .inl (aT 0, 6, .inl (fun _ => 0)), .inl (aT 0, 6, .inl (fun _ => 0)), .inl (aT 0, 6, .inl (fun _ => 0)), .inl (aT 0, 6, .inl (fun _ => 0)), .inl (aT 0, 36, .inl (fun _ => 0))] H := hB
  refine lv_aload_n (i := 0) hx hb (k := 0) kd_M_58 rfl (lv_at hl 0 rfl) ?_
  refine lv_bipush (n := 36) (v := 36) hx hb kd_M_59 (by decide) ?_
  refine jn_newa hx hb hts (t := 0) (atype := .int) (ty := .int) rfl xw_106 hE.2.1 hB hS (N' := 36) (a0 := (36, .inl (fun _ => 0))) (fun _ => rfl) (by decide) (by decide) (by decide) (Nat.le_of_ble_eq_true rfl) (Nat.le_of_ble_eq_true rfl) kd_M_61 (fun H hB hS => ?_)
  have hB : jn_B D o [.inr (8, [.int 0, .int 0, .int 0, .int (-1), .ref (o + 1), .int 0, .int 0, .int 0, .ref (o + 2), .ref (o + 3), .ref (o + 4), .ref (o + 5), .ref (o + 6), .null, .null, .null, .int 0, .int 0, .int 0, .int 0, .int 0, .int 0, .int 0, .null, .null, .null, .int 0, .int 0, .int 0, .null, .null, .null, .null, .null, .null, .int 0, .null, .null, .null, .null, .null, .null, .null, .int 0, .int 0, .int 0, .int 0, .int 0, .int 0]), .inl (aT 0, 700, .inl (fun _ => 0)), .inl (aT 0, 6, .inl (fun _ => 0)), .inl (aT 0, 6, .inl (fun _ => 0)), .inl (aT 0, 6, .inl (fun _ => 0)), .inl (aT 0, 6, .inl (fun _ => 0)), .inl (aT 0, 36, .inl (fun _ => 0)), .inl (aT 0, 36, .inl (fun _ => 0))] H := hB
  refine jn_put hx hb hown hts hE hB hS hin2 (k := 0) (j := 13) (q := (RX9, TX9, 49)) rfl rfl (Nat.le_of_ble_eq_true rfl) xw_1156 rfl rfl (ty := .array .int) (by decide +kernel) rfl rfl (Nat.le_of_ble_eq_true rfl) kd_M_63 (fun H locs hB hS => ?_)
  have hB : jn_B D o [.inr (8, [.int 0, .int 0, .int 0, .int (-1), .ref (o + 1), .int 0, .int 0, .int 0, .ref (o + 2), .ref (o + 3), .ref (o + 4), .ref (o + 5), .ref (o + 6), .ref (o + 7), .null, .null, .int 0, .int 0, .int 0, .int 0, .int 0, .int 0, .int 0, .null, .null, .null, .int 0, .int 0, .int 0, .null, .null, .null, .null, .null, .null, .int 0, .null, .null, .null, .null, .null, .null, .null, .int 0, .int 0, .int 0, .int 0, .int 0, .int 0]), .inl (aT 0, 700, .inl (fun _ => 0)), .inl (aT 0, 6, .inl (fun _ => 0)), .inl (aT 0, 6, .inl (fun _ => 0)), .inl (aT 0, 6, .inl (fun _ => 0)), .inl (aT 0, 6, .inl (fun _ => 0)), .inl (aT 0, 36, .inl (fun _ => 0)), .inl (aT 0, 36, .inl (fun _ => 0))] H := hB
  refine lv_aload_n (i := 0) hx hb (k := 0) kd_M_66 rfl (lv_at hl 0 rfl) ?_
  refine lv_bipush (n := 36) (v := 36) hx hb kd_M_67 (by decide) ?_
  refine jn_newa hx hb hts (t := 0) (atype := .int) (ty := .int) rfl xw_106 hE.2.1 hB hS (N' := 36) (a0 := (36, .inl (fun _ => 0))) (fun _ => rfl) (by decide) (by decide) (by decide) (Nat.le_of_ble_eq_true rfl) (Nat.le_of_ble_eq_true rfl) kd_M_69 (fun H hB hS => ?_)
  have hB : jn_B D o [.inr (8, [.int 0, .int 0, .int 0, .int (-1), .ref (o + 1), .int 0, .int 0, .int 0, .ref (o + 2), .ref (o + 3), .ref (o + 4), .ref (o + 5), .ref (o + 6), .ref (o + 7), .null, .null, .int 0, .int 0, .int 0, .int 0, .int 0, .int 0, .int 0, .null, .null, .null, .int 0, .int 0, .int 0, .null, .null, .null, .null, .null, .null, .int 0, .null, .null, .null, .null, .null, .null, .null, .int 0, .int 0, .int 0, .int 0, .int 0, .int 0]), .inl (aT 0, 700, .inl (fun _ => 0)), .inl (aT 0, 6, .inl (fun _ => 0)), .inl (aT 0, 6, .inl (fun _ => 0)), .inl (aT 0, 6, .inl (fun _ => 0)), .inl (aT 0, 6, .inl (fun _ => 0)), .inl (aT 0, 36, .inl (fun _ => 0)), .inl (aT 0, 36, .inl (fun _ => 0)), .inl (aT 0, 36, .inl (fun _ => 0))] H := hB
  refine jn_put hx hb hown hts hE hB hS hin2 (k := 0) (j := 14) (q := (RX9, TX9, 49)) rfl rfl (Nat.le_of_ble_eq_true rfl) xw_1157 rfl rfl (ty := .array .int) (by decide +kernel) rfl rfl (Nat.le_of_ble_eq_true rfl) kd_M_71 (fun H locs hB hS => ?_)
  have hB : jn_B D o [.inr (8, [.int 0, .int 0, .int 0, .int (-1), .ref (o + 1), .int 0, .int 0, .int 0, .ref (o + 2), .ref (o + 3), .ref (o + 4), .ref (o + 5), .ref (o + 6), .ref (o + 7), .ref (o + 8), .null, .int 0, .int 0, .int 0, .int 0, .int 0, .int 0, .int 0, .null, .null, .null, .int 0, .int 0, .int 0, .null, .null, .null, .null, .null, .null, .int 0, .null, .null, .null, .null, .null, .null, .null, .int 0, .int 0, .int 0, .int 0, .int 0, .int 0]), .inl (aT 0, 700, .inl (fun _ => 0)), .inl (aT 0, 6, .inl (fun _ => 0)), .inl (aT 0, 6, .inl (fun _ => 0)), .inl (aT 0, 6, .inl (fun _ => 0)), .inl (aT 0, 6, .inl (fun _ => 0)), .inl (aT 0, 36, .inl (fun _ => 0)), .inl (aT 0, 36, .inl (fun _ => 0)), .inl (aT 0, 36, .inl (fun _ => 0))] H := hB
  refine lv_aload_n (i := 0) hx hb (k := 0) kd_M_74 rfl (lv_at hl 0 rfl) ?_
  refine lv_bipush (n := 36) (v := 36) hx hb kd_M_75 (by decide) ?_
  refine jn_newa hx hb hts (t := 0) (atype := .int) (ty := .int) rfl xw_106 hE.2.1 hB hS (N' := 36) (a0 := (36, .inl (fun _ => 0))) (fun _ => rfl) (by decide) (by decide) (by decide) (Nat.le_of_ble_eq_true rfl) (Nat.le_of_ble_eq_true rfl) kd_M_77 (fun H hB hS => ?_)
  have hB : jn_B D o [.inr (8, [.int 0, .int 0, .int 0, .int (-1), .ref (o + 1), .int 0, .int 0, .int 0, .ref (o + 2), .ref (o + 3), .ref (o + 4), .ref (o + 5), .ref (o + 6), .ref (o + 7), .ref (o + 8), .null, .int 0, .int 0, .int 0, .int 0, .int 0, .int 0, .int 0, .null, .null, .null, .int 0, .int 0, .int 0, .null, .null, .null, .null, .null, .null, .int 0, .null, .null, .null, .null, .null, .null, .null, .int 0, .int 0, .int 0, .int 0, .int 0, .int 0]), .inl (aT 0, 700, .inl (fun _ => 0)), .inl (aT 0, 6, .inl (fun _ => 0)), .inl (aT 0, 6, .inl (fun _ => 0)), .inl (aT 0, 6, .inl (fun _ => 0)), .inl (aT 0, 6, .inl (fun _ => 0)), .inl (aT 0, 36, .inl (fun _ => 0)), .inl (aT 0, 36, .inl (fun _ => 0)), .inl (aT 0, 36, .inl (fun _ => 0)), .inl (aT 0, 36, .inl (fun _ => 0))] H := hB
  refine jn_put hx hb hown hts hE hB hS hin2 (k := 0) (j := 15) (q := (RX9, TX9, 49)) rfl rfl (Nat.le_of_ble_eq_true rfl) xw_1158 rfl rfl (ty := .array .int) (by decide +kernel) rfl rfl (Nat.le_of_ble_eq_true rfl) kd_M_79 (fun H locs hB hS => ?_)
  have hB : jn_B D o [.inr (8, [.int 0, .int 0, .int 0, .int (-1), .ref (o + 1), .int 0, .int 0, .int 0, .ref (o + 2), .ref (o + 3), .ref (o + 4), .ref (o + 5), .ref (o + 6), .ref (o + 7), .ref (o + 8), .ref (o + 9), .int 0, .int 0, .int 0, .int 0, .int 0, .int 0, .int 0, .null, .null, .null, .int 0, .int 0, .int 0, .null, .null, .null, .null, .null, .null, .int 0, .null, .null, .null, .null, .null, .null, .null, .int 0, .int 0, .int 0, .int 0, .int 0, .int 0]), .inl (aT 0, 700, .inl (fun _ => 0)), .inl (aT 0, 6, .inl (fun _ => 0)), .inl (aT 0, 6, .inl (fun _ => 0)), .inl (aT 0, 6, .inl (fun _ => 0)), .inl (aT 0, 6, .inl (fun _ => 0)), .inl (aT 0, 36, .inl (fun _ => 0)), .inl (aT 0, 36, .inl (fun _ => 0)), .inl (aT 0, 36, .inl (fun _ => 0)), .inl (aT 0, 36, .inl (fun _ => 0))] H := hB
  refine lv_aload_n (i := 0) hx hb (k := 0) kd_M_82 rfl (lv_at hl 0 rfl) ?_
  refine lv_iconst (n := 3) (v := 3) hx hb kd_M_83 (by decide) ?_
  refine jn_newa hx hb hts (t := 0) (atype := .int) (ty := .int) rfl xw_106 hE.2.1 hB hS (N' := 3) (a0 := (3, .inl (fun _ => 0))) (fun _ => rfl) (by decide) (by decide) (by decide) (Nat.le_of_ble_eq_true rfl) (Nat.le_of_ble_eq_true rfl) kd_M_84 (fun H hB hS => ?_)
  have hB : jn_B D o [.inr (8, [.int 0, .int 0, .int 0, .int (-1), .ref (o + 1), .int 0, .int 0, .int 0, .ref (o + 2), .ref (o + 3), .ref (o + 4), .ref (o + 5), .ref (o + 6), .ref (o + 7), .ref (o + 8), .ref (o + 9), .int 0, .int 0, .int 0, .int 0, .int 0, .int 0, .int 0, .null, .null, .null, .int 0, .int 0, .int 0, .null, .null, .null, .null, .null, .null, .int 0, .null, .null, .null, .null, .null, .null, .null, .int 0, .int 0, .int 0, .int 0, .int 0, .int 0]), .inl (aT 0, 700, .inl (fun _ => 0)), .inl (aT 0, 6, .inl (fun _ => 0)), .inl (aT 0, 6, .inl (fun _ => 0)), .inl (aT 0, 6, .inl (fun _ => 0)), .inl (aT 0, 6, .inl (fun _ => 0)), .inl (aT 0, 36, .inl (fun _ => 0)), .inl (aT 0, 36, .inl (fun _ => 0)), .inl (aT 0, 36, .inl (fun _ => 0)), .inl (aT 0, 36, .inl (fun _ => 0)), .inl (aT 0, 3, .inl (fun _ => 0))] H := hB
  refine jn_put hx hb hown hts hE hB hS hin2 (k := 0) (j := 23) (q := (RX9, TX9, 49)) rfl rfl (Nat.le_of_ble_eq_true rfl) xw_1166 rfl rfl (ty := .array .int) (by decide +kernel) rfl rfl (Nat.le_of_ble_eq_true rfl) kd_M_86 (fun H locs hB hS => ?_)
  have hB : jn_B D o [.inr (8, [.int 0, .int 0, .int 0, .int (-1), .ref (o + 1), .int 0, .int 0, .int 0, .ref (o + 2), .ref (o + 3), .ref (o + 4), .ref (o + 5), .ref (o + 6), .ref (o + 7), .ref (o + 8), .ref (o + 9), .int 0, .int 0, .int 0, .int 0, .int 0, .int 0, .int 0, .ref (o + 10), .null, .null, .int 0, .int 0, .int 0, .null, .null, .null, .null, .null, .null, .int 0, .null, .null, .null, .null, .null, .null, .null, .int 0, .int 0, .int 0, .int 0, .int 0, .int 0]), .inl (aT 0, 700, .inl (fun _ => 0)), .inl (aT 0, 6, .inl (fun _ => 0)), .inl (aT 0, 6, .inl (fun _ => 0)), .inl (aT 0, 6, .inl (fun _ => 0)), .inl (aT 0, 6, .inl (fun _ => 0)), .inl (aT 0, 36, .inl (fun _ => 0)), .inl (aT 0, 36, .inl (fun _ => 0)), .inl (aT 0, 36, .inl (fun _ => 0)), .inl (aT 0, 36, .inl (fun _ => 0)), .inl (aT 0, 3, .inl (fun _ => 0))] H := hB
  refine lv_aload_n (i := 0) hx hb (k := 0) kd_M_89 rfl (lv_at hl 0 rfl) ?_
  refine lv_bipush (n := 72) (v := 72) hx hb kd_M_90 (by decide) ?_
  refine jn_newa hx hb hts (t := 0) (atype := .int) (ty := .int) rfl xw_106 hE.2.1 hB hS (N' := 72) (a0 := (72, .inl (fun _ => 0))) (fun _ => rfl) (by decide) (by decide) (by decide) (Nat.le_of_ble_eq_true rfl) (Nat.le_of_ble_eq_true rfl) kd_M_92 (fun H hB hS => ?_)
  have hB : jn_B D o [.inr (8, [.int 0, .int 0, .int 0, .int (-1), .ref (o + 1), .int 0, .int 0, .int 0, .ref (o + 2), .ref (o + 3), .ref (o + 4), .ref (o + 5), .ref (o + 6), .ref (o + 7), .ref (o + 8), .ref (o + 9), .int 0, .int 0, .int 0, .int 0, .int 0, .int 0, .int 0, .ref (o + 10), .null, .null, .int 0, .int 0, .int 0, .null, .null, .null, .null, .null, .null, .int 0, .null, .null, .null, .null, .null, .null, .null, .int 0, .int 0, .int 0, .int 0, .int 0, .int 0]), .inl (aT 0, 700, .inl (fun _ => 0)), .inl (aT 0, 6, .inl (fun _ => 0)), .inl (aT 0, 6, .inl (fun _ => 0)), .inl (aT 0, 6, .inl (fun _ => 0)), .inl (aT 0, 6, .inl (fun _ => 0)), .inl (aT 0, 36, .inl (fun _ => 0)), .inl (aT 0, 36, .inl (fun _ => 0)), .inl (aT 0, 36, .inl (fun _ => 0)), .inl (aT 0, 36, .inl (fun _ => 0)), .inl (aT 0, 3, .inl (fun _ => 0)), .inl (aT 0, 72, .inl (fun _ => 0))] H := hB
  refine jn_put hx hb hown hts hE hB hS hin2 (k := 0) (j := 24) (q := (RX9, TX9, 49)) rfl rfl (Nat.le_of_ble_eq_true rfl) xw_1167 rfl rfl (ty := .array .int) (by decide +kernel) rfl rfl (Nat.le_of_ble_eq_true rfl) kd_M_94 (fun H locs hB hS => ?_)
  have hB : jn_B D o [.inr (8, [.int 0, .int 0, .int 0, .int (-1), .ref (o + 1), .int 0, .int 0, .int 0, .ref (o + 2), .ref (o + 3), .ref (o + 4), .ref (o + 5), .ref (o + 6), .ref (o + 7), .ref (o + 8), .ref (o + 9), .int 0, .int 0, .int 0, .int 0, .int 0, .int 0, .int 0, .ref (o + 10), .ref (o + 11), .null, .int 0, .int 0, .int 0, .null, .null, .null, .null, .null, .null, .int 0, .null, .null, .null, .null, .null, .null, .null, .int 0, .int 0, .int 0, .int 0, .int 0, .int 0]), .inl (aT 0, 700, .inl (fun _ => 0)), .inl (aT 0, 6, .inl (fun _ => 0)), .inl (aT 0, 6, .inl (fun _ => 0)), .inl (aT 0, 6, .inl (fun _ => 0)), .inl (aT 0, 6, .inl (fun _ => 0)), .inl (aT 0, 36, .inl (fun _ => 0)), .inl (aT 0, 36, .inl (fun _ => 0)), .inl (aT 0, 36, .inl (fun _ => 0)), .inl (aT 0, 36, .inl (fun _ => 0)), .inl (aT 0, 3, .inl (fun _ => 0)), .inl (aT 0, 72, .inl (fun _ => 0))] H := hB
  refine lv_aload_n (i := 0) hx hb (k := 0) kd_M_97 rfl (lv_at hl 0 rfl) ?_
  refine lv_bipush (n := 72) (v := 72) hx hb kd_M_98 (by decide) ?_
  refine jn_newa hx hb hts (t := 0) (atype := .int) (ty := .int) rfl xw_106 hE.2.1 hB hS (N' := 72) (a0 := (72, .inl (fun _ => 0))) (fun _ => rfl) (by decide) (by decide) (by decide) (Nat.le_of_ble_eq_true rfl) (Nat.le_of_ble_eq_true rfl) kd_M_100 (fun H hB hS => ?_)
  have hB : jn_B D o [.inr (8, [.int 0, .int 0, .int 0, .int (-1), .ref (o + 1), .int 0, .int 0, .int 0, .ref (o + 2), .ref (o + 3), .ref (o + 4), .ref (o + 5), .ref (o + 6), .ref (o + 7), .ref (o + 8), .ref (o + 9), .int 0, .int 0, .int 0, .int 0, .int 0, .int 0, .int 0, .ref (o + 10), .ref (o + 11), .null, .int 0, .int 0, .int 0, .null, .null, .null, .null, .null, .null, .int 0, .null, .null, .null, .null, .null, .null, .null, .int 0, .int 0, .int 0, .int 0, .int 0, .int 0]), .inl (aT 0, 700, .inl (fun _ => 0)), .inl (aT 0, 6, .inl (fun _ => 0)), .inl (aT 0, 6, .inl (fun _ => 0)), .inl (aT 0, 6, .inl (fun _ => 0)), .inl (aT 0, 6, .inl (fun _ => 0)), .inl (aT 0, 36, .inl (fun _ => 0)), .inl (aT 0, 36, .inl (fun _ => 0)), .inl (aT 0, 36, .inl (fun _ => 0)), .inl (aT 0, 36, .inl (fun _ => 0)), .inl (aT 0, 3, .inl (fun _ => 0)), .inl (aT 0, 72, .inl (fun _ => 0)), .inl (aT 0, 72, .inl (fun _ => 0))] H := hB
  refine jn_put hx hb hown hts hE hB hS hin2 (k := 0) (j := 25) (q := (RX9, TX9, 49)) rfl rfl (Nat.le_of_ble_eq_true rfl) xw_1168 rfl rfl (ty := .array .int) (by decide +kernel) rfl rfl (Nat.le_of_ble_eq_true rfl) kd_M_102 (fun H locs hB hS => ?_)
  have hB : jn_B D o [.inr (8, [.int 0, .int 0, .int 0, .int (-1), .ref (o + 1), .int 0, .int 0, .int 0, .ref (o + 2), .ref (o + 3), .ref (o + 4), .ref (o + 5), .ref (o + 6), .ref (o + 7), .ref (o + 8), .ref (o + 9), .int 0, .int 0, .int 0, .int 0, .int 0, .int 0, .int 0, .ref (o + 10), .ref (o + 11), .ref (o + 12), .int 0, .int 0, .int 0, .null, .null, .null, .null, .null, .null, .int 0, .null, .null, .null, .null, .null, .null, .null, .int 0, .int 0, .int 0, .int 0, .int 0, .int 0]), .inl (aT 0, 700, .inl (fun _ => 0)), .inl (aT 0, 6, .inl (fun _ => 0)), .inl (aT 0, 6, .inl (fun _ => 0)), .inl (aT 0, 6, .inl (fun _ => 0)), .inl (aT 0, 6, .inl (fun _ => 0)), .inl (aT 0, 36, .inl (fun _ => 0)), .inl (aT 0, 36, .inl (fun _ => 0)), .inl (aT 0, 36, .inl (fun _ => 0)), .inl (aT 0, 36, .inl (fun _ => 0)), .inl (aT 0, 3, .inl (fun _ => 0)), .inl (aT 0, 72, .inl (fun _ => 0)), .inl (aT 0, 72, .inl (fun _ => 0))] H := hB
  refine lv_aload_n (i := 0) hx hb (k := 0) kd_M_105 rfl (lv_at hl 0 rfl) ?_
  refine lv_bipush (n := 24) (v := 24) hx hb kd_M_106 (by decide) ?_
  refine jn_newa hx hb hts (t := 0) (atype := .int) (ty := .int) rfl xw_106 hE.2.1 hB hS (N' := 24) (a0 := (24, .inl (fun _ => 0))) (fun _ => rfl) (by decide) (by decide) (by decide) (Nat.le_of_ble_eq_true rfl) (Nat.le_of_ble_eq_true rfl) kd_M_108 (fun H hB hS => ?_)
  have hB : jn_B D o [.inr (8, [.int 0, .int 0, .int 0, .int (-1), .ref (o + 1), .int 0, .int 0, .int 0, .ref (o + 2), .ref (o + 3), .ref (o + 4), .ref (o + 5), .ref (o + 6), .ref (o + 7), .ref (o + 8), .ref (o + 9), .int 0, .int 0, .int 0, .int 0, .int 0, .int 0, .int 0, .ref (o + 10), .ref (o + 11), .ref (o + 12), .int 0, .int 0, .int 0, .null, .null, .null, .null, .null, .null, .int 0, .null, .null, .null, .null, .null, .null, .null, .int 0, .int 0, .int 0, .int 0, .int 0, .int 0]), .inl (aT 0, 700, .inl (fun _ => 0)), .inl (aT 0, 6, .inl (fun _ => 0)), .inl (aT 0, 6, .inl (fun _ => 0)), .inl (aT 0, 6, .inl (fun _ => 0)), .inl (aT 0, 6, .inl (fun _ => 0)), .inl (aT 0, 36, .inl (fun _ => 0)), .inl (aT 0, 36, .inl (fun _ => 0)), .inl (aT 0, 36, .inl (fun _ => 0)), .inl (aT 0, 36, .inl (fun _ => 0)), .inl (aT 0, 3, .inl (fun _ => 0)), .inl (aT 0, 72, .inl (fun _ => 0)), .inl (aT 0, 72, .inl (fun _ => 0)), .inl (aT 0, 24, .inl (fun _ => 0))] H := hB
  refine jn_put hx hb hown hts hE hB hS hin2 (k := 0) (j := 29) (q := (RX9, TX9, 49)) rfl rfl (Nat.le_of_ble_eq_true rfl) xw_1172 rfl rfl (ty := .array .int) (by decide +kernel) rfl rfl (Nat.le_of_ble_eq_true rfl) kd_M_110 (fun H locs hB hS => ?_)
  have hB : jn_B D o [.inr (8, [.int 0, .int 0, .int 0, .int (-1), .ref (o + 1), .int 0, .int 0, .int 0, .ref (o + 2), .ref (o + 3), .ref (o + 4), .ref (o + 5), .ref (o + 6), .ref (o + 7), .ref (o + 8), .ref (o + 9), .int 0, .int 0, .int 0, .int 0, .int 0, .int 0, .int 0, .ref (o + 10), .ref (o + 11), .ref (o + 12), .int 0, .int 0, .int 0, .ref (o + 13), .null, .null, .null, .null, .null, .int 0, .null, .null, .null, .null, .null, .null, .null, .int 0, .int 0, .int 0, .int 0, .int 0, .int 0]), .inl (aT 0, 700, .inl (fun _ => 0)), .inl (aT 0, 6, .inl (fun _ => 0)), .inl (aT 0, 6, .inl (fun _ => 0)), .inl (aT 0, 6, .inl (fun _ => 0)), .inl (aT 0, 6, .inl (fun _ => 0)), .inl (aT 0, 36, .inl (fun _ => 0)), .inl (aT 0, 36, .inl (fun _ => 0)), .inl (aT 0, 36, .inl (fun _ => 0)), .inl (aT 0, 36, .inl (fun _ => 0)), .inl (aT 0, 3, .inl (fun _ => 0)), .inl (aT 0, 72, .inl (fun _ => 0)), .inl (aT 0, 72, .inl (fun _ => 0)), .inl (aT 0, 24, .inl (fun _ => 0))] H := hB
  refine lv_aload_n (i := 0) hx hb (k := 0) kd_M_113 rfl (lv_at hl 0 rfl) ?_
  refine lv_bipush (n := 24) (v := 24) hx hb kd_M_114 (by decide) ?_
  refine jn_newa hx hb hts (t := 0) (atype := .int) (ty := .int) rfl xw_106 hE.2.1 hB hS (N' := 24) (a0 := (24, .inl (fun _ => 0))) (fun _ => rfl) (by decide) (by decide) (by decide) (Nat.le_of_ble_eq_true rfl) (Nat.le_of_ble_eq_true rfl) kd_M_116 (fun H hB hS => ?_)
  have hB : jn_B D o [.inr (8, [.int 0, .int 0, .int 0, .int (-1), .ref (o + 1), .int 0, .int 0, .int 0, .ref (o + 2), .ref (o + 3), .ref (o + 4), .ref (o + 5), .ref (o + 6), .ref (o + 7), .ref (o + 8), .ref (o + 9), .int 0, .int 0, .int 0, .int 0, .int 0, .int 0, .int 0, .ref (o + 10), .ref (o + 11), .ref (o + 12), .int 0, .int 0, .int 0, .ref (o + 13), .null, .null, .null, .null, .null, .int 0, .null, .null, .null, .null, .null, .null, .null, .int 0, .int 0, .int 0, .int 0, .int 0, .int 0]), .inl (aT 0, 700, .inl (fun _ => 0)), .inl (aT 0, 6, .inl (fun _ => 0)), .inl (aT 0, 6, .inl (fun _ => 0)), .inl (aT 0, 6, .inl (fun _ => 0)), .inl (aT 0, 6, .inl (fun _ => 0)), .inl (aT 0, 36, .inl (fun _ => 0)), .inl (aT 0, 36, .inl (fun _ => 0)), .inl (aT 0, 36, .inl (fun _ => 0)), .inl (aT 0, 36, .inl (fun _ => 0)), .inl (aT 0, 3, .inl (fun _ => 0)), .inl (aT 0, 72, .inl (fun _ => 0)), .inl (aT 0, 72, .inl (fun _ => 0)), .inl (aT 0, 24, .inl (fun _ => 0)), .inl (aT 0, 24, .inl (fun _ => 0))] H := hB
  refine jn_put hx hb hown hts hE hB hS hin2 (k := 0) (j := 30) (q := (RX9, TX9, 49)) rfl rfl (Nat.le_of_ble_eq_true rfl) xw_1173 rfl rfl (ty := .array .int) (by decide +kernel) rfl rfl (Nat.le_of_ble_eq_true rfl) kd_M_118 (fun H locs hB hS => ?_)
  have hB : jn_B D o [.inr (8, [.int 0, .int 0, .int 0, .int (-1), .ref (o + 1), .int 0, .int 0, .int 0, .ref (o + 2), .ref (o + 3), .ref (o + 4), .ref (o + 5), .ref (o + 6), .ref (o + 7), .ref (o + 8), .ref (o + 9), .int 0, .int 0, .int 0, .int 0, .int 0, .int 0, .int 0, .ref (o + 10), .ref (o + 11), .ref (o + 12), .int 0, .int 0, .int 0, .ref (o + 13), .ref (o + 14), .null, .null, .null, .null, .int 0, .null, .null, .null, .null, .null, .null, .null, .int 0, .int 0, .int 0, .int 0, .int 0, .int 0]), .inl (aT 0, 700, .inl (fun _ => 0)), .inl (aT 0, 6, .inl (fun _ => 0)), .inl (aT 0, 6, .inl (fun _ => 0)), .inl (aT 0, 6, .inl (fun _ => 0)), .inl (aT 0, 6, .inl (fun _ => 0)), .inl (aT 0, 36, .inl (fun _ => 0)), .inl (aT 0, 36, .inl (fun _ => 0)), .inl (aT 0, 36, .inl (fun _ => 0)), .inl (aT 0, 36, .inl (fun _ => 0)), .inl (aT 0, 3, .inl (fun _ => 0)), .inl (aT 0, 72, .inl (fun _ => 0)), .inl (aT 0, 72, .inl (fun _ => 0)), .inl (aT 0, 24, .inl (fun _ => 0)), .inl (aT 0, 24, .inl (fun _ => 0))] H := hB
  refine lv_aload_n (i := 0) hx hb (k := 0) kd_M_121 rfl (lv_at hl 0 rfl) ?_
  refine lv_bipush (n := 24) (v := 24) hx hb kd_M_122 (by decide) ?_
  refine jn_newa hx hb hts (t := 0) (atype := .int) (ty := .int) rfl xw_106 hE.2.1 hB hS (N' := 24) (a0 := (24, .inl (fun _ => 0))) (fun _ => rfl) (by decide) (by decide) (by decide) (Nat.le_of_ble_eq_true rfl) (Nat.le_of_ble_eq_true rfl) kd_M_124 (fun H hB hS => ?_)
  have hB : jn_B D o [.inr (8, [.int 0, .int 0, .int 0, .int (-1), .ref (o + 1), .int 0, .int 0, .int 0, .ref (o + 2), .ref (o + 3), .ref (o + 4), .ref (o + 5), .ref (o + 6), .ref (o + 7), .ref (o + 8), .ref (o + 9), .int 0, .int 0, .int 0, .int 0, .int 0, .int 0, .int 0, .ref (o + 10), .ref (o + 11), .ref (o + 12), .int 0, .int 0, .int 0, .ref (o + 13), .ref (o + 14), .null, .null, .null, .null, .int 0, .null, .null, .null, .null, .null, .null, .null, .int 0, .int 0, .int 0, .int 0, .int 0, .int 0]), .inl (aT 0, 700, .inl (fun _ => 0)), .inl (aT 0, 6, .inl (fun _ => 0)), .inl (aT 0, 6, .inl (fun _ => 0)), .inl (aT 0, 6, .inl (fun _ => 0)), .inl (aT 0, 6, .inl (fun _ => 0)), .inl (aT 0, 36, .inl (fun _ => 0)), .inl (aT 0, 36, .inl (fun _ => 0)), .inl (aT 0, 36, .inl (fun _ => 0)), .inl (aT 0, 36, .inl (fun _ => 0)), .inl (aT 0, 3, .inl (fun _ => 0)), .inl (aT 0, 72, .inl (fun _ => 0)), .inl (aT 0, 72, .inl (fun _ => 0)), .inl (aT 0, 24, .inl (fun _ => 0)), .inl (aT 0, 24, .inl (fun _ => 0)), .inl (aT 0, 24, .inl (fun _ => 0))] H := hB
  refine jn_put hx hb hown hts hE hB hS hin2 (k := 0) (j := 31) (q := (RX9, TX9, 49)) rfl rfl (Nat.le_of_ble_eq_true rfl) xw_1174 rfl rfl (ty := .array .int) (by decide +kernel) rfl rfl (Nat.le_of_ble_eq_true rfl) kd_M_126 (fun H locs hB hS => ?_)
  have hB : jn_B D o [.inr (8, [.int 0, .int 0, .int 0, .int (-1), .ref (o + 1), .int 0, .int 0, .int 0, .ref (o + 2), .ref (o + 3), .ref (o + 4), .ref (o + 5), .ref (o + 6), .ref (o + 7), .ref (o + 8), .ref (o + 9), .int 0, .int 0, .int 0, .int 0, .int 0, .int 0, .int 0, .ref (o + 10), .ref (o + 11), .ref (o + 12), .int 0, .int 0, .int 0, .ref (o + 13), .ref (o + 14), .ref (o + 15), .null, .null, .null, .int 0, .null, .null, .null, .null, .null, .null, .null, .int 0, .int 0, .int 0, .int 0, .int 0, .int 0]), .inl (aT 0, 700, .inl (fun _ => 0)), .inl (aT 0, 6, .inl (fun _ => 0)), .inl (aT 0, 6, .inl (fun _ => 0)), .inl (aT 0, 6, .inl (fun _ => 0)), .inl (aT 0, 6, .inl (fun _ => 0)), .inl (aT 0, 36, .inl (fun _ => 0)), .inl (aT 0, 36, .inl (fun _ => 0)), .inl (aT 0, 36, .inl (fun _ => 0)), .inl (aT 0, 36, .inl (fun _ => 0)), .inl (aT 0, 3, .inl (fun _ => 0)), .inl (aT 0, 72, .inl (fun _ => 0)), .inl (aT 0, 72, .inl (fun _ => 0)), .inl (aT 0, 24, .inl (fun _ => 0)), .inl (aT 0, 24, .inl (fun _ => 0)), .inl (aT 0, 24, .inl (fun _ => 0))] H := hB
  refine lv_aload_n (i := 0) hx hb (k := 0) kd_M_129 rfl (lv_at hl 0 rfl) ?_
  refine lv_bipush (n := 25) (v := 25) hx hb kd_M_130 (by decide) ?_
  refine jn_newa hx hb hts (t := 0) (atype := .int) (ty := .int) rfl xw_106 hE.2.1 hB hS (N' := 25) (a0 := (25, .inl (fun _ => 0))) (fun _ => rfl) (by decide) (by decide) (by decide) (Nat.le_of_ble_eq_true rfl) (Nat.le_of_ble_eq_true rfl) kd_M_132 (fun H hB hS => ?_)
  have hB : jn_B D o [.inr (8, [.int 0, .int 0, .int 0, .int (-1), .ref (o + 1), .int 0, .int 0, .int 0, .ref (o + 2), .ref (o + 3), .ref (o + 4), .ref (o + 5), .ref (o + 6), .ref (o + 7), .ref (o + 8), .ref (o + 9), .int 0, .int 0, .int 0, .int 0, .int 0, .int 0, .int 0, .ref (o + 10), .ref (o + 11), .ref (o + 12), .int 0, .int 0, .int 0, .ref (o + 13), .ref (o + 14), .ref (o + 15), .null, .null, .null, .int 0, .null, .null, .null, .null, .null, .null, .null, .int 0, .int 0, .int 0, .int 0, .int 0, .int 0]), .inl (aT 0, 700, .inl (fun _ => 0)), .inl (aT 0, 6, .inl (fun _ => 0)), .inl (aT 0, 6, .inl (fun _ => 0)), .inl (aT 0, 6, .inl (fun _ => 0)), .inl (aT 0, 6, .inl (fun _ => 0)), .inl (aT 0, 36, .inl (fun _ => 0)), .inl (aT 0, 36, .inl (fun _ => 0)), .inl (aT 0, 36, .inl (fun _ => 0)), .inl (aT 0, 36, .inl (fun _ => 0)), .inl (aT 0, 3, .inl (fun _ => 0)), .inl (aT 0, 72, .inl (fun _ => 0)), .inl (aT 0, 72, .inl (fun _ => 0)), .inl (aT 0, 24, .inl (fun _ => 0)), .inl (aT 0, 24, .inl (fun _ => 0)), .inl (aT 0, 24, .inl (fun _ => 0)), .inl (aT 0, 25, .inl (fun _ => 0))] H := hB
  refine jn_put hx hb hown hts hE hB hS hin2 (k := 0) (j := 32) (q := (RX9, TX9, 49)) rfl rfl (Nat.le_of_ble_eq_true rfl) xw_1175 rfl rfl (ty := .array .int) (by decide +kernel) rfl rfl (Nat.le_of_ble_eq_true rfl) kd_M_134 (fun H locs hB hS => ?_)
  have hB : jn_B D o [.inr (8, [.int 0, .int 0, .int 0, .int (-1), .ref (o + 1), .int 0, .int 0, .int 0, .ref (o + 2), .ref (o + 3), .ref (o + 4), .ref (o + 5), .ref (o + 6), .ref (o + 7), .ref (o + 8), .ref (o + 9), .int 0, .int 0, .int 0, .int 0, .int 0, .int 0, .int 0, .ref (o + 10), .ref (o + 11), .ref (o + 12), .int 0, .int 0, .int 0, .ref (o + 13), .ref (o + 14), .ref (o + 15), .ref (o + 16), .null, .null, .int 0, .null, .null, .null, .null, .null, .null, .null, .int 0, .int 0, .int 0, .int 0, .int 0, .int 0]), .inl (aT 0, 700, .inl (fun _ => 0)), .inl (aT 0, 6, .inl (fun _ => 0)), .inl (aT 0, 6, .inl (fun _ => 0)), .inl (aT 0, 6, .inl (fun _ => 0)), .inl (aT 0, 6, .inl (fun _ => 0)), .inl (aT 0, 36, .inl (fun _ => 0)), .inl (aT 0, 36, .inl (fun _ => 0)), .inl (aT 0, 36, .inl (fun _ => 0)), .inl (aT 0, 36, .inl (fun _ => 0)), .inl (aT 0, 3, .inl (fun _ => 0)), .inl (aT 0, 72, .inl (fun _ => 0)), .inl (aT 0, 72, .inl (fun _ => 0)), .inl (aT 0, 24, .inl (fun _ => 0)), .inl (aT 0, 24, .inl (fun _ => 0)), .inl (aT 0, 24, .inl (fun _ => 0)), .inl (aT 0, 25, .inl (fun _ => 0))] H := hB
  refine lv_aload_n (i := 0) hx hb (k := 0) kd_M_137 rfl (lv_at hl 0 rfl) ?_
  refine lv_sipush (n := 576) (v := 576) hx hb kd_M_138 (by decide) ?_
  refine jn_newa hx hb hts (t := 0) (atype := .int) (ty := .int) rfl xw_106 hE.2.1 hB hS (N' := 576) (a0 := (576, .inl (fun _ => 0))) (fun _ => rfl) (by decide) (by decide) (by decide) (Nat.le_of_ble_eq_true rfl) (Nat.le_of_ble_eq_true rfl) kd_M_141 (fun H hB hS => ?_)
  have hB : jn_B D o [.inr (8, [.int 0, .int 0, .int 0, .int (-1), .ref (o + 1), .int 0, .int 0, .int 0, .ref (o + 2), .ref (o + 3), .ref (o + 4), .ref (o + 5), .ref (o + 6), .ref (o + 7), .ref (o + 8), .ref (o + 9), .int 0, .int 0, .int 0, .int 0, .int 0, .int 0, .int 0, .ref (o + 10), .ref (o + 11), .ref (o + 12), .int 0, .int 0, .int 0, .ref (o + 13), .ref (o + 14), .ref (o + 15), .ref (o + 16), .null, .null, .int 0, .null, .null, .null, .null, .null, .null, .null, .int 0, .int 0, .int 0, .int 0, .int 0, .int 0]), .inl (aT 0, 700, .inl (fun _ => 0)), .inl (aT 0, 6, .inl (fun _ => 0)), .inl (aT 0, 6, .inl (fun _ => 0)), .inl (aT 0, 6, .inl (fun _ => 0)), .inl (aT 0, 6, .inl (fun _ => 0)), .inl (aT 0, 36, .inl (fun _ => 0)), .inl (aT 0, 36, .inl (fun _ => 0)), .inl (aT 0, 36, .inl (fun _ => 0)), .inl (aT 0, 36, .inl (fun _ => 0)), .inl (aT 0, 3, .inl (fun _ => 0)), .inl (aT 0, 72, .inl (fun _ => 0)), .inl (aT 0, 72, .inl (fun _ => 0)), .inl (aT 0, 24, .inl (fun _ => 0)), .inl (aT 0, 24, .inl (fun _ => 0)), .inl (aT 0, 24, .inl (fun _ => 0)), .inl (aT 0, 25, .inl (fun _ => 0)), .inl (aT 0, 576, .inl (fun _ => 0))] H := hB
  refine jn_put hx hb hown hts hE hB hS hin2 (k := 0) (j := 33) (q := (RX9, TX9, 49)) rfl rfl (Nat.le_of_ble_eq_true rfl) xw_1176 rfl rfl (ty := .array .int) (by decide +kernel) rfl rfl (Nat.le_of_ble_eq_true rfl) kd_M_143 (fun H locs hB hS => ?_)
  have hB : jn_B D o [.inr (8, [.int 0, .int 0, .int 0, .int (-1), .ref (o + 1), .int 0, .int 0, .int 0, .ref (o + 2), .ref (o + 3), .ref (o + 4), .ref (o + 5), .ref (o + 6), .ref (o + 7), .ref (o + 8), .ref (o + 9), .int 0, .int 0, .int 0, .int 0, .int 0, .int 0, .int 0, .ref (o + 10), .ref (o + 11), .ref (o + 12), .int 0, .int 0, .int 0, .ref (o + 13), .ref (o + 14), .ref (o + 15), .ref (o + 16), .ref (o + 17), .null, .int 0, .null, .null, .null, .null, .null, .null, .null, .int 0, .int 0, .int 0, .int 0, .int 0, .int 0]), .inl (aT 0, 700, .inl (fun _ => 0)), .inl (aT 0, 6, .inl (fun _ => 0)), .inl (aT 0, 6, .inl (fun _ => 0)), .inl (aT 0, 6, .inl (fun _ => 0)), .inl (aT 0, 6, .inl (fun _ => 0)), .inl (aT 0, 36, .inl (fun _ => 0)), .inl (aT 0, 36, .inl (fun _ => 0)), .inl (aT 0, 36, .inl (fun _ => 0)), .inl (aT 0, 36, .inl (fun _ => 0)), .inl (aT 0, 3, .inl (fun _ => 0)), .inl (aT 0, 72, .inl (fun _ => 0)), .inl (aT 0, 72, .inl (fun _ => 0)), .inl (aT 0, 24, .inl (fun _ => 0)), .inl (aT 0, 24, .inl (fun _ => 0)), .inl (aT 0, 24, .inl (fun _ => 0)), .inl (aT 0, 25, .inl (fun _ => 0)), .inl (aT 0, 576, .inl (fun _ => 0))] H := hB
  refine lv_aload_n (i := 0) hx hb (k := 0) kd_M_146 rfl (lv_at hl 0 rfl) ?_
  refine lv_bipush (n := 24) (v := 24) hx hb kd_M_147 (by decide) ?_
  refine jn_newa hx hb hts (t := 0) (atype := .int) (ty := .int) rfl xw_106 hE.2.1 hB hS (N' := 24) (a0 := (24, .inl (fun _ => 0))) (fun _ => rfl) (by decide) (by decide) (by decide) (Nat.le_of_ble_eq_true rfl) (Nat.le_of_ble_eq_true rfl) kd_M_149 (fun H hB hS => ?_)
  have hB : jn_B D o [.inr (8, [.int 0, .int 0, .int 0, .int (-1), .ref (o + 1), .int 0, .int 0, .int 0, .ref (o + 2), .ref (o + 3), .ref (o + 4), .ref (o + 5), .ref (o + 6), .ref (o + 7), .ref (o + 8), .ref (o + 9), .int 0, .int 0, .int 0, .int 0, .int 0, .int 0, .int 0, .ref (o + 10), .ref (o + 11), .ref (o + 12), .int 0, .int 0, .int 0, .ref (o + 13), .ref (o + 14), .ref (o + 15), .ref (o + 16), .ref (o + 17), .null, .int 0, .null, .null, .null, .null, .null, .null, .null, .int 0, .int 0, .int 0, .int 0, .int 0, .int 0]), .inl (aT 0, 700, .inl (fun _ => 0)), .inl (aT 0, 6, .inl (fun _ => 0)), .inl (aT 0, 6, .inl (fun _ => 0)), .inl (aT 0, 6, .inl (fun _ => 0)), .inl (aT 0, 6, .inl (fun _ => 0)), .inl (aT 0, 36, .inl (fun _ => 0)), .inl (aT 0, 36, .inl (fun _ => 0)), .inl (aT 0, 36, .inl (fun _ => 0)), .inl (aT 0, 36, .inl (fun _ => 0)), .inl (aT 0, 3, .inl (fun _ => 0)), .inl (aT 0, 72, .inl (fun _ => 0)), .inl (aT 0, 72, .inl (fun _ => 0)), .inl (aT 0, 24, .inl (fun _ => 0)), .inl (aT 0, 24, .inl (fun _ => 0)), .inl (aT 0, 24, .inl (fun _ => 0)), .inl (aT 0, 25, .inl (fun _ => 0)), .inl (aT 0, 576, .inl (fun _ => 0)), .inl (aT 0, 24, .inl (fun _ => 0))] H := hB
  refine jn_put hx hb hown hts hE hB hS hin2 (k := 0) (j := 34) (q := (RX9, TX9, 49)) rfl rfl (Nat.le_of_ble_eq_true rfl) xw_1177 rfl rfl (ty := .array .int) (by decide +kernel) rfl rfl (Nat.le_of_ble_eq_true rfl) kd_M_151 (fun H locs hB hS => ?_)
  have hB : jn_B D o [.inr (8, [.int 0, .int 0, .int 0, .int (-1), .ref (o + 1), .int 0, .int 0, .int 0, .ref (o + 2), .ref (o + 3), .ref (o + 4), .ref (o + 5), .ref (o + 6), .ref (o + 7), .ref (o + 8), .ref (o + 9), .int 0, .int 0, .int 0, .int 0, .int 0, .int 0, .int 0, .ref (o + 10), .ref (o + 11), .ref (o + 12), .int 0, .int 0, .int 0, .ref (o + 13), .ref (o + 14), .ref (o + 15), .ref (o + 16), .ref (o + 17), .ref (o + 18), .int 0, .null, .null, .null, .null, .null, .null, .null, .int 0, .int 0, .int 0, .int 0, .int 0, .int 0]), .inl (aT 0, 700, .inl (fun _ => 0)), .inl (aT 0, 6, .inl (fun _ => 0)), .inl (aT 0, 6, .inl (fun _ => 0)), .inl (aT 0, 6, .inl (fun _ => 0)), .inl (aT 0, 6, .inl (fun _ => 0)), .inl (aT 0, 36, .inl (fun _ => 0)), .inl (aT 0, 36, .inl (fun _ => 0)), .inl (aT 0, 36, .inl (fun _ => 0)), .inl (aT 0, 36, .inl (fun _ => 0)), .inl (aT 0, 3, .inl (fun _ => 0)), .inl (aT 0, 72, .inl (fun _ => 0)), .inl (aT 0, 72, .inl (fun _ => 0)), .inl (aT 0, 24, .inl (fun _ => 0)), .inl (aT 0, 24, .inl (fun _ => 0)), .inl (aT 0, 24, .inl (fun _ => 0)), .inl (aT 0, 25, .inl (fun _ => 0)), .inl (aT 0, 576, .inl (fun _ => 0)), .inl (aT 0, 24, .inl (fun _ => 0))] H := hB
  refine lv_aload_n (i := 0) hx hb (k := 0) kd_M_154 rfl (lv_at hl 0 rfl) ?_
  refine lv_sipush (n := 576) (v := 576) hx hb kd_M_155 (by decide) ?_
  refine jn_newa hx hb hts (t := 0) (atype := .int) (ty := .int) rfl xw_106 hE.2.1 hB hS (N' := 576) (a0 := (576, .inl (fun _ => 0))) (fun _ => rfl) (by decide) (by decide) (by decide) (Nat.le_of_ble_eq_true rfl) (Nat.le_of_ble_eq_true rfl) kd_M_158 (fun H hB hS => ?_)
  have hB : jn_B D o [.inr (8, [.int 0, .int 0, .int 0, .int (-1), .ref (o + 1), .int 0, .int 0, .int 0, .ref (o + 2), .ref (o + 3), .ref (o + 4), .ref (o + 5), .ref (o + 6), .ref (o + 7), .ref (o + 8), .ref (o + 9), .int 0, .int 0, .int 0, .int 0, .int 0, .int 0, .int 0, .ref (o + 10), .ref (o + 11), .ref (o + 12), .int 0, .int 0, .int 0, .ref (o + 13), .ref (o + 14), .ref (o + 15), .ref (o + 16), .ref (o + 17), .ref (o + 18), .int 0, .null, .null, .null, .null, .null, .null, .null, .int 0, .int 0, .int 0, .int 0, .int 0, .int 0]), .inl (aT 0, 700, .inl (fun _ => 0)), .inl (aT 0, 6, .inl (fun _ => 0)), .inl (aT 0, 6, .inl (fun _ => 0)), .inl (aT 0, 6, .inl (fun _ => 0)), .inl (aT 0, 6, .inl (fun _ => 0)), .inl (aT 0, 36, .inl (fun _ => 0)), .inl (aT 0, 36, .inl (fun _ => 0)), .inl (aT 0, 36, .inl (fun _ => 0)), .inl (aT 0, 36, .inl (fun _ => 0)), .inl (aT 0, 3, .inl (fun _ => 0)), .inl (aT 0, 72, .inl (fun _ => 0)), .inl (aT 0, 72, .inl (fun _ => 0)), .inl (aT 0, 24, .inl (fun _ => 0)), .inl (aT 0, 24, .inl (fun _ => 0)), .inl (aT 0, 24, .inl (fun _ => 0)), .inl (aT 0, 25, .inl (fun _ => 0)), .inl (aT 0, 576, .inl (fun _ => 0)), .inl (aT 0, 24, .inl (fun _ => 0)), .inl (aT 0, 576, .inl (fun _ => 0))] H := hB
  refine jn_put hx hb hown hts hE hB hS hin2 (k := 0) (j := 36) (q := (RX9, TX9, 49)) rfl rfl (Nat.le_of_ble_eq_true rfl) xw_1179 rfl rfl (ty := .array .int) (by decide +kernel) rfl rfl (Nat.le_of_ble_eq_true rfl) kd_M_160 (fun H locs hB hS => ?_)
  have hB : jn_B D o [.inr (8, [.int 0, .int 0, .int 0, .int (-1), .ref (o + 1), .int 0, .int 0, .int 0, .ref (o + 2), .ref (o + 3), .ref (o + 4), .ref (o + 5), .ref (o + 6), .ref (o + 7), .ref (o + 8), .ref (o + 9), .int 0, .int 0, .int 0, .int 0, .int 0, .int 0, .int 0, .ref (o + 10), .ref (o + 11), .ref (o + 12), .int 0, .int 0, .int 0, .ref (o + 13), .ref (o + 14), .ref (o + 15), .ref (o + 16), .ref (o + 17), .ref (o + 18), .int 0, .ref (o + 19), .null, .null, .null, .null, .null, .null, .int 0, .int 0, .int 0, .int 0, .int 0, .int 0]), .inl (aT 0, 700, .inl (fun _ => 0)), .inl (aT 0, 6, .inl (fun _ => 0)), .inl (aT 0, 6, .inl (fun _ => 0)), .inl (aT 0, 6, .inl (fun _ => 0)), .inl (aT 0, 6, .inl (fun _ => 0)), .inl (aT 0, 36, .inl (fun _ => 0)), .inl (aT 0, 36, .inl (fun _ => 0)), .inl (aT 0, 36, .inl (fun _ => 0)), .inl (aT 0, 36, .inl (fun _ => 0)), .inl (aT 0, 3, .inl (fun _ => 0)), .inl (aT 0, 72, .inl (fun _ => 0)), .inl (aT 0, 72, .inl (fun _ => 0)), .inl (aT 0, 24, .inl (fun _ => 0)), .inl (aT 0, 24, .inl (fun _ => 0)), .inl (aT 0, 24, .inl (fun _ => 0)), .inl (aT 0, 25, .inl (fun _ => 0)), .inl (aT 0, 576, .inl (fun _ => 0)), .inl (aT 0, 24, .inl (fun _ => 0)), .inl (aT 0, 576, .inl (fun _ => 0))] H := hB
  refine lv_aload_n (i := 0) hx hb (k := 0) kd_M_163 rfl (lv_at hl 0 rfl) ?_
  refine lv_iconst (n := 3) (v := 3) hx hb kd_M_164 (by decide) ?_
  refine jn_newa hx hb hts (t := 0) (atype := .int) (ty := .int) rfl xw_106 hE.2.1 hB hS (N' := 3) (a0 := (3, .inl (fun _ => 0))) (fun _ => rfl) (by decide) (by decide) (by decide) (Nat.le_of_ble_eq_true rfl) (Nat.le_of_ble_eq_true rfl) kd_M_165 (fun H hB hS => ?_)
  have hB : jn_B D o [.inr (8, [.int 0, .int 0, .int 0, .int (-1), .ref (o + 1), .int 0, .int 0, .int 0, .ref (o + 2), .ref (o + 3), .ref (o + 4), .ref (o + 5), .ref (o + 6), .ref (o + 7), .ref (o + 8), .ref (o + 9), .int 0, .int 0, .int 0, .int 0, .int 0, .int 0, .int 0, .ref (o + 10), .ref (o + 11), .ref (o + 12), .int 0, .int 0, .int 0, .ref (o + 13), .ref (o + 14), .ref (o + 15), .ref (o + 16), .ref (o + 17), .ref (o + 18), .int 0, .ref (o + 19), .null, .null, .null, .null, .null, .null, .int 0, .int 0, .int 0, .int 0, .int 0, .int 0]), .inl (aT 0, 700, .inl (fun _ => 0)), .inl (aT 0, 6, .inl (fun _ => 0)), .inl (aT 0, 6, .inl (fun _ => 0)), .inl (aT 0, 6, .inl (fun _ => 0)), .inl (aT 0, 6, .inl (fun _ => 0)), .inl (aT 0, 36, .inl (fun _ => 0)), .inl (aT 0, 36, .inl (fun _ => 0)), .inl (aT 0, 36, .inl (fun _ => 0)), .inl (aT 0, 36, .inl (fun _ => 0)), .inl (aT 0, 3, .inl (fun _ => 0)), .inl (aT 0, 72, .inl (fun _ => 0)), .inl (aT 0, 72, .inl (fun _ => 0)), .inl (aT 0, 24, .inl (fun _ => 0)), .inl (aT 0, 24, .inl (fun _ => 0)), .inl (aT 0, 24, .inl (fun _ => 0)), .inl (aT 0, 25, .inl (fun _ => 0)), .inl (aT 0, 576, .inl (fun _ => 0)), .inl (aT 0, 24, .inl (fun _ => 0)), .inl (aT 0, 576, .inl (fun _ => 0)), .inl (aT 0, 3, .inl (fun _ => 0))] H := hB
  refine jn_put hx hb hown hts hE hB hS hin2 (k := 0) (j := 37) (q := (RX9, TX9, 49)) rfl rfl (Nat.le_of_ble_eq_true rfl) xw_1180 rfl rfl (ty := .array .int) (by decide +kernel) rfl rfl (Nat.le_of_ble_eq_true rfl) kd_M_167 (fun H locs hB hS => ?_)
  have hB : jn_B D o [.inr (8, [.int 0, .int 0, .int 0, .int (-1), .ref (o + 1), .int 0, .int 0, .int 0, .ref (o + 2), .ref (o + 3), .ref (o + 4), .ref (o + 5), .ref (o + 6), .ref (o + 7), .ref (o + 8), .ref (o + 9), .int 0, .int 0, .int 0, .int 0, .int 0, .int 0, .int 0, .ref (o + 10), .ref (o + 11), .ref (o + 12), .int 0, .int 0, .int 0, .ref (o + 13), .ref (o + 14), .ref (o + 15), .ref (o + 16), .ref (o + 17), .ref (o + 18), .int 0, .ref (o + 19), .ref (o + 20), .null, .null, .null, .null, .null, .int 0, .int 0, .int 0, .int 0, .int 0, .int 0]), .inl (aT 0, 700, .inl (fun _ => 0)), .inl (aT 0, 6, .inl (fun _ => 0)), .inl (aT 0, 6, .inl (fun _ => 0)), .inl (aT 0, 6, .inl (fun _ => 0)), .inl (aT 0, 6, .inl (fun _ => 0)), .inl (aT 0, 36, .inl (fun _ => 0)), .inl (aT 0, 36, .inl (fun _ => 0)), .inl (aT 0, 36, .inl (fun _ => 0)), .inl (aT 0, 36, .inl (fun _ => 0)), .inl (aT 0, 3, .inl (fun _ => 0)), .inl (aT 0, 72, .inl (fun _ => 0)), .inl (aT 0, 72, .inl (fun _ => 0)), .inl (aT 0, 24, .inl (fun _ => 0)), .inl (aT 0, 24, .inl (fun _ => 0)), .inl (aT 0, 24, .inl (fun _ => 0)), .inl (aT 0, 25, .inl (fun _ => 0)), .inl (aT 0, 576, .inl (fun _ => 0)), .inl (aT 0, 24, .inl (fun _ => 0)), .inl (aT 0, 576, .inl (fun _ => 0)), .inl (aT 0, 3, .inl (fun _ => 0))] H := hB
  refine lv_aload_n (i := 0) hx hb (k := 0) kd_M_170 rfl (lv_at hl 0 rfl) ?_
  refine lv_sipush (n := 1728) (v := 1728) hx hb kd_M_171 (by decide) ?_
  refine jn_newa hx hb hts (t := 0) (atype := .int) (ty := .int) rfl xw_106 hE.2.1 hB hS (N' := 1728) (a0 := (1728, .inl (fun _ => 0))) (fun _ => rfl) (by decide) (by decide) (by decide) (Nat.le_of_ble_eq_true rfl) (Nat.le_of_ble_eq_true rfl) kd_M_174 (fun H hB hS => ?_)
  have hB : jn_B D o [.inr (8, [.int 0, .int 0, .int 0, .int (-1), .ref (o + 1), .int 0, .int 0, .int 0, .ref (o + 2), .ref (o + 3), .ref (o + 4), .ref (o + 5), .ref (o + 6), .ref (o + 7), .ref (o + 8), .ref (o + 9), .int 0, .int 0, .int 0, .int 0, .int 0, .int 0, .int 0, .ref (o + 10), .ref (o + 11), .ref (o + 12), .int 0, .int 0, .int 0, .ref (o + 13), .ref (o + 14), .ref (o + 15), .ref (o + 16), .ref (o + 17), .ref (o + 18), .int 0, .ref (o + 19), .ref (o + 20), .null, .null, .null, .null, .null, .int 0, .int 0, .int 0, .int 0, .int 0, .int 0]), .inl (aT 0, 700, .inl (fun _ => 0)), .inl (aT 0, 6, .inl (fun _ => 0)), .inl (aT 0, 6, .inl (fun _ => 0)), .inl (aT 0, 6, .inl (fun _ => 0)), .inl (aT 0, 6, .inl (fun _ => 0)), .inl (aT 0, 36, .inl (fun _ => 0)), .inl (aT 0, 36, .inl (fun _ => 0)), .inl (aT 0, 36, .inl (fun _ => 0)), .inl (aT 0, 36, .inl (fun _ => 0)), .inl (aT 0, 3, .inl (fun _ => 0)), .inl (aT 0, 72, .inl (fun _ => 0)), .inl (aT 0, 72, .inl (fun _ => 0)), .inl (aT 0, 24, .inl (fun _ => 0)), .inl (aT 0, 24, .inl (fun _ => 0)), .inl (aT 0, 24, .inl (fun _ => 0)), .inl (aT 0, 25, .inl (fun _ => 0)), .inl (aT 0, 576, .inl (fun _ => 0)), .inl (aT 0, 24, .inl (fun _ => 0)), .inl (aT 0, 576, .inl (fun _ => 0)), .inl (aT 0, 3, .inl (fun _ => 0)), .inl (aT 0, 1728, .inl (fun _ => 0))] H := hB
  refine jn_put hx hb hown hts hE hB hS hin2 (k := 0) (j := 38) (q := (RX9, TX9, 49)) rfl rfl (Nat.le_of_ble_eq_true rfl) xw_1181 rfl rfl (ty := .array .int) (by decide +kernel) rfl rfl (Nat.le_of_ble_eq_true rfl) kd_M_176 (fun H locs hB hS => ?_)
  have hB : jn_B D o [.inr (8, [.int 0, .int 0, .int 0, .int (-1), .ref (o + 1), .int 0, .int 0, .int 0, .ref (o + 2), .ref (o + 3), .ref (o + 4), .ref (o + 5), .ref (o + 6), .ref (o + 7), .ref (o + 8), .ref (o + 9), .int 0, .int 0, .int 0, .int 0, .int 0, .int 0, .int 0, .ref (o + 10), .ref (o + 11), .ref (o + 12), .int 0, .int 0, .int 0, .ref (o + 13), .ref (o + 14), .ref (o + 15), .ref (o + 16), .ref (o + 17), .ref (o + 18), .int 0, .ref (o + 19), .ref (o + 20), .ref (o + 21), .null, .null, .null, .null, .int 0, .int 0, .int 0, .int 0, .int 0, .int 0]), .inl (aT 0, 700, .inl (fun _ => 0)), .inl (aT 0, 6, .inl (fun _ => 0)), .inl (aT 0, 6, .inl (fun _ => 0)), .inl (aT 0, 6, .inl (fun _ => 0)), .inl (aT 0, 6, .inl (fun _ => 0)), .inl (aT 0, 36, .inl (fun _ => 0)), .inl (aT 0, 36, .inl (fun _ => 0)), .inl (aT 0, 36, .inl (fun _ => 0)), .inl (aT 0, 36, .inl (fun _ => 0)), .inl (aT 0, 3, .inl (fun _ => 0)), .inl (aT 0, 72, .inl (fun _ => 0)), .inl (aT 0, 72, .inl (fun _ => 0)), .inl (aT 0, 24, .inl (fun _ => 0)), .inl (aT 0, 24, .inl (fun _ => 0)), .inl (aT 0, 24, .inl (fun _ => 0)), .inl (aT 0, 25, .inl (fun _ => 0)), .inl (aT 0, 576, .inl (fun _ => 0)), .inl (aT 0, 24, .inl (fun _ => 0)), .inl (aT 0, 576, .inl (fun _ => 0)), .inl (aT 0, 3, .inl (fun _ => 0)), .inl (aT 0, 1728, .inl (fun _ => 0))] H := hB
  refine lv_aload_n (i := 0) hx hb (k := 0) kd_M_179 rfl (lv_at hl 0 rfl) ?_
  refine lv_iconst (n := 3) (v := 3) hx hb kd_M_180 (by decide) ?_
  refine jn_newa hx hb hts (t := 0) (atype := .int) (ty := .int) rfl xw_106 hE.2.1 hB hS (N' := 3) (a0 := (3, .inl (fun _ => 0))) (fun _ => rfl) (by decide) (by decide) (by decide) (Nat.le_of_ble_eq_true rfl) (Nat.le_of_ble_eq_true rfl) kd_M_181 (fun H hB hS => ?_)
  have hB : jn_B D o [.inr (8, [.int 0, .int 0, .int 0, .int (-1), .ref (o + 1), .int 0, .int 0, .int 0, .ref (o + 2), .ref (o + 3), .ref (o + 4), .ref (o + 5), .ref (o + 6), .ref (o + 7), .ref (o + 8), .ref (o + 9), .int 0, .int 0, .int 0, .int 0, .int 0, .int 0, .int 0, .ref (o + 10), .ref (o + 11), .ref (o + 12), .int 0, .int 0, .int 0, .ref (o + 13), .ref (o + 14), .ref (o + 15), .ref (o + 16), .ref (o + 17), .ref (o + 18), .int 0, .ref (o + 19), .ref (o + 20), .ref (o + 21), .null, .null, .null, .null, .int 0, .int 0, .int 0, .int 0, .int 0, .int 0]), .inl (aT 0, 700, .inl (fun _ => 0)), .inl (aT 0, 6, .inl (fun _ => 0)), .inl (aT 0, 6, .inl (fun _ => 0)), .inl (aT 0, 6, .inl (fun _ => 0)), .inl (aT 0, 6, .inl (fun _ => 0)), .inl (aT 0, 36, .inl (fun _ => 0)), .inl (aT 0, 36, .inl (fun _ => 0)), .inl (aT 0, 36, .inl (fun _ => 0)), .inl (aT 0, 36, .inl (fun _ => 0)), .inl (aT 0, 3, .inl (fun _ => 0)), .inl (aT 0, 72, .inl (fun _ => 0)), .inl (aT 0, 72, .inl (fun _ => 0)), .inl (aT 0, 24, .inl (fun _ => 0)), .inl (aT 0, 24, .inl (fun _ => 0)), .inl (aT 0, 24, .inl (fun _ => 0)), .inl (aT 0, 25, .inl (fun _ => 0)), .inl (aT 0, 576, .inl (fun _ => 0)), .inl (aT 0, 24, .inl (fun _ => 0)), .inl (aT 0, 576, .inl (fun _ => 0)), .inl (aT 0, 3, .inl (fun _ => 0)), .inl (aT 0, 1728, .inl (fun _ => 0)), .inl (aT 0, 3, .inl (fun _ => 0))] H := hB
  refine jn_put hx hb hown hts hE hB hS hin2 (k := 0) (j := 39) (q := (RX9, TX9, 49)) rfl rfl (Nat.le_of_ble_eq_true rfl) xw_1182 rfl rfl (ty := .array .int) (by decide +kernel) rfl rfl (Nat.le_of_ble_eq_true rfl) kd_M_183 (fun H locs hB hS => ?_)
  have hB : jn_B D o [.inr (8, [.int 0, .int 0, .int 0, .int (-1), .ref (o + 1), .int 0, .int 0, .int 0, .ref (o + 2), .ref (o + 3), .ref (o + 4), .ref (o + 5), .ref (o + 6), .ref (o + 7), .ref (o + 8), .ref (o + 9), .int 0, .int 0, .int 0, .int 0, .int 0, .int 0, .int 0, .ref (o + 10), .ref (o + 11), .ref (o + 12), .int 0, .int 0, .int 0, .ref (o + 13), .ref (o + 14), .ref (o + 15), .ref (o + 16), .ref (o + 17), .ref (o + 18), .int 0, .ref (o + 19), .ref (o + 20), .ref (o + 21), .ref (o + 22), .null, .null, .null, .int 0, .int 0, .int 0, .int 0, .int 0, .int 0]), .inl (aT 0, 700, .inl (fun _ => 0)), .inl (aT 0, 6, .inl (fun _ => 0)), .inl (aT 0, 6, .inl (fun _ => 0)), .inl (aT 0, 6, .inl (fun _ => 0)), .inl (aT 0, 6, .inl (fun _ => 0)), .inl (aT 0, 36, .inl (fun _ => 0)), .inl (aT 0, 36, .inl (fun _ => 0)), .inl (aT 0, 36, .inl (fun _ => 0)), .inl (aT 0, 36, .inl (fun _ => 0)), .inl (aT 0, 3, .inl (fun _ => 0)), .inl (aT 0, 72, .inl (fun _ => 0)), .inl (aT 0, 72, .inl (fun _ => 0)), .inl (aT 0, 24, .inl (fun _ => 0)), .inl (aT 0, 24, .inl (fun _ => 0)), .inl (aT 0, 24, .inl (fun _ => 0)), .inl (aT 0, 25, .inl (fun _ => 0)), .inl (aT 0, 576, .inl (fun _ => 0)), .inl (aT 0, 24, .inl (fun _ => 0)), .inl (aT 0, 576, .inl (fun _ => 0)), .inl (aT 0, 3, .inl (fun _ => 0)), .inl (aT 0, 1728, .inl (fun _ => 0)), .inl (aT 0, 3, .inl (fun _ => 0))] H := hB
  refine lv_aload_n (i := 0) hx hb (k := 0) kd_M_186 rfl (lv_at hl 0 rfl) ?_
  refine lv_bipush (n := 72) (v := 72) hx hb kd_M_187 (by decide) ?_
  refine jn_newa hx hb hts (t := 0) (atype := .int) (ty := .int) rfl xw_106 hE.2.1 hB hS (N' := 72) (a0 := (72, .inl (fun _ => 0))) (fun _ => rfl) (by decide) (by decide) (by decide) (Nat.le_of_ble_eq_true rfl) (Nat.le_of_ble_eq_true rfl) kd_M_189 (fun H hB hS => ?_)
  have hB : jn_B D o [.inr (8, [.int 0, .int 0, .int 0, .int (-1), .ref (o + 1), .int 0, .int 0, .int 0, .ref (o + 2), .ref (o + 3), .ref (o + 4), .ref (o + 5), .ref (o + 6), .ref (o + 7), .ref (o + 8), .ref (o + 9), .int 0, .int 0, .int 0, .int 0, .int 0, .int 0, .int 0, .ref (o + 10), .ref (o + 11), .ref (o + 12), .int 0, .int 0, .int 0, .ref (o + 13), .ref (o + 14), .ref (o + 15), .ref (o + 16), .ref (o + 17), .ref (o + 18), .int 0, .ref (o + 19), .ref (o + 20), .ref (o + 21), .ref (o + 22), .null, .null, .null, .int 0, .int 0, .int 0, .int 0, .int 0, .int 0]), .inl (aT 0, 700, .inl (fun _ => 0)), .inl (aT 0, 6, .inl (fun _ => 0)), .inl (aT 0, 6, .inl (fun _ => 0)), .inl (aT 0, 6, .inl (fun _ => 0)), .inl (aT 0, 6, .inl (fun _ => 0)), .inl (aT 0, 36, .inl (fun _ => 0)), .inl (aT 0, 36, .inl (fun _ => 0)), .inl (aT 0, 36, .inl (fun _ => 0)), .inl (aT 0, 36, .inl (fun _ => 0)), .inl (aT 0, 3, .inl (fun _ => 0)), .inl (aT 0, 72, .inl (fun _ => 0)), .inl (aT 0, 72, .inl (fun _ => 0)), .inl (aT 0, 24, .inl (fun _ => 0)), .inl (aT 0, 24, .inl (fun _ => 0)), .inl (aT 0, 24, .inl (fun _ => 0)), .inl (aT 0, 25, .inl (fun _ => 0)), .inl (aT 0, 576, .inl (fun _ => 0)), .inl (aT 0, 24, .inl (fun _ => 0)), .inl (aT 0, 576, .inl (fun _ => 0)), .inl (aT 0, 3, .inl (fun _ => 0)), .inl (aT 0, 1728, .inl (fun _ => 0)), .inl (aT 0, 3, .inl (fun _ => 0)), .inl (aT 0, 72, .inl (fun _ => 0))] H := hB
  refine jn_put hx hb hown hts hE hB hS hin2 (k := 0) (j := 40) (q := (RX9, TX9, 49)) rfl rfl (Nat.le_of_ble_eq_true rfl) xw_1183 rfl rfl (ty := .array .int) (by decide +kernel) rfl rfl (Nat.le_of_ble_eq_true rfl) kd_M_191 (fun H locs hB hS => ?_)
  have hB : jn_B D o [.inr (8, [.int 0, .int 0, .int 0, .int (-1), .ref (o + 1), .int 0, .int 0, .int 0, .ref (o + 2), .ref (o + 3), .ref (o + 4), .ref (o + 5), .ref (o + 6), .ref (o + 7), .ref (o + 8), .ref (o + 9), .int 0, .int 0, .int 0, .int 0, .int 0, .int 0, .int 0, .ref (o + 10), .ref (o + 11), .ref (o + 12), .int 0, .int 0, .int 0, .ref (o + 13), .ref (o + 14), .ref (o + 15), .ref (o + 16), .ref (o + 17), .ref (o + 18), .int 0, .ref (o + 19), .ref (o + 20), .ref (o + 21), .ref (o + 22), .ref (o + 23), .null, .null, .int 0, .int 0, .int 0, .int 0, .int 0, .int 0]), .inl (aT 0, 700, .inl (fun _ => 0)), .inl (aT 0, 6, .inl (fun _ => 0)), .inl (aT 0, 6, .inl (fun _ => 0)), .inl (aT 0, 6, .inl (fun _ => 0)), .inl (aT 0, 6, .inl (fun _ => 0)), .inl (aT 0, 36, .inl (fun _ => 0)), .inl (aT 0, 36, .inl (fun _ => 0)), .inl (aT 0, 36, .inl (fun _ => 0)), .inl (aT 0, 36, .inl (fun _ => 0)), .inl (aT 0, 3, .inl (fun _ => 0)), .inl (aT 0, 72, .inl (fun _ => 0)), .inl (aT 0, 72, .inl (fun _ => 0)), .inl (aT 0, 24, .inl (fun _ => 0)), .inl (aT 0, 24, .inl (fun _ => 0)), .inl (aT 0, 24, .inl (fun _ => 0)), .inl (aT 0, 25, .inl (fun _ => 0)), .inl (aT 0, 576, .inl (fun _ => 0)), .inl (aT 0, 24, .inl (fun _ => 0)), .inl (aT 0, 576, .inl (fun _ => 0)), .inl (aT 0, 3, .inl (fun _ => 0)), .inl (aT 0, 1728, .inl (fun _ => 0)), .inl (aT 0, 3, .inl (fun _ => 0)), .inl (aT 0, 72, .inl (fun _ => 0))] H := hB
  refine lv_aload_n (i := 0) hx hb (k := 0) kd_M_194 rfl (lv_at hl 0 rfl) ?_
  refine lv_bipush (n := 28) (v := 28) hx hb kd_M_195 (by decide) ?_
  refine jn_newa hx hb hts (t := 0) (atype := .int) (ty := .int) rfl xw_106 hE.2.1 hB hS (N' := 28) (a0 := (28, .inl (fun _ => 0))) (fun _ => rfl) (by decide) (by decide) (by decide) (Nat.le_of_ble_eq_true rfl) (Nat.le_of_ble_eq_true rfl) kd_M_197 (fun H hB hS => ?_)
  have hB : jn_B D o [.inr (8, [.int 0, .int 0, .int 0, .int (-1), .ref (o + 1), .int 0, .int 0, .int 0, .ref (o + 2), .ref (o + 3), .ref (o + 4), .ref (o + 5), .ref (o + 6), .ref (o + 7), .ref (o + 8), .ref (o + 9), .int 0, .int 0, .int 0, .int 0, .int 0, .int 0, .int 0, .ref (o + 10), .ref (o + 11), .ref (o + 12), .int 0, .int 0, .int 0, .ref (o + 13), .ref (o + 14), .ref (o + 15), .ref (o + 16), .ref (o + 17), .ref (o + 18), .int 0, .ref (o + 19), .ref (o + 20), .ref (o + 21), .ref (o + 22), .ref (o + 23), .null, .null, .int 0, .int 0, .int 0, .int 0, .int 0, .int 0]), .inl (aT 0, 700, .inl (fun _ => 0)), .inl (aT 0, 6, .inl (fun _ => 0)), .inl (aT 0, 6, .inl (fun _ => 0)), .inl (aT 0, 6, .inl (fun _ => 0)), .inl (aT 0, 6, .inl (fun _ => 0)), .inl (aT 0, 36, .inl (fun _ => 0)), .inl (aT 0, 36, .inl (fun _ => 0)), .inl (aT 0, 36, .inl (fun _ => 0)), .inl (aT 0, 36, .inl (fun _ => 0)), .inl (aT 0, 3, .inl (fun _ => 0)), .inl (aT 0, 72, .inl (fun _ => 0)), .inl (aT 0, 72, .inl (fun _ => 0)), .inl (aT 0, 24, .inl (fun _ => 0)), .inl (aT 0, 24, .inl (fun _ => 0)), .inl (aT 0, 24, .inl (fun _ => 0)), .inl (aT 0, 25, .inl (fun _ => 0)), .inl (aT 0, 576, .inl (fun _ => 0)), .inl (aT 0, 24, .inl (fun _ => 0)), .inl (aT 0, 576, .inl (fun _ => 0)), .inl (aT 0, 3, .inl (fun _ => 0)), .inl (aT 0, 1728, .inl (fun _ => 0)), .inl (aT 0, 3, .inl (fun _ => 0)), .inl (aT 0, 72, .inl (fun _ => 0)), .inl (aT 0, 28, .inl (fun _ => 0))] H := hB
  refine jn_put hx hb hown hts hE hB hS hin2 (k := 0) (j := 41) (q := (RX9, TX9, 49)) rfl rfl (Nat.le_of_ble_eq_true rfl) xw_1184 rfl rfl (ty := .array .int) (by decide +kernel) rfl rfl (Nat.le_of_ble_eq_true rfl) kd_M_199 (fun H locs hB hS => ?_)
  have hB : jn_B D o [.inr (8, [.int 0, .int 0, .int 0, .int (-1), .ref (o + 1), .int 0, .int 0, .int 0, .ref (o + 2), .ref (o + 3), .ref (o + 4), .ref (o + 5), .ref (o + 6), .ref (o + 7), .ref (o + 8), .ref (o + 9), .int 0, .int 0, .int 0, .int 0, .int 0, .int 0, .int 0, .ref (o + 10), .ref (o + 11), .ref (o + 12), .int 0, .int 0, .int 0, .ref (o + 13), .ref (o + 14), .ref (o + 15), .ref (o + 16), .ref (o + 17), .ref (o + 18), .int 0, .ref (o + 19), .ref (o + 20), .ref (o + 21), .ref (o + 22), .ref (o + 23), .ref (o + 24), .null, .int 0, .int 0, .int 0, .int 0, .int 0, .int 0]), .inl (aT 0, 700, .inl (fun _ => 0)), .inl (aT 0, 6, .inl (fun _ => 0)), .inl (aT 0, 6, .inl (fun _ => 0)), .inl (aT 0, 6, .inl (fun _ => 0)), .inl (aT 0, 6, .inl (fun _ => 0)), .inl (aT 0, 36, .inl (fun _ => 0)), .inl (aT 0, 36, .inl (fun _ => 0)), .inl (aT 0, 36, .inl (fun _ => 0)), .inl (aT 0, 36, .inl (fun _ => 0)), .inl (aT 0, 3, .inl (fun _ => 0)), .inl (aT 0, 72, .inl (fun _ => 0)), .inl (aT 0, 72, .inl (fun _ => 0)), .inl (aT 0, 24, .inl (fun _ => 0)), .inl (aT 0, 24, .inl (fun _ => 0)), .inl (aT 0, 24, .inl (fun _ => 0)), .inl (aT 0, 25, .inl (fun _ => 0)), .inl (aT 0, 576, .inl (fun _ => 0)), .inl (aT 0, 24, .inl (fun _ => 0)), .inl (aT 0, 576, .inl (fun _ => 0)), .inl (aT 0, 3, .inl (fun _ => 0)), .inl (aT 0, 1728, .inl (fun _ => 0)), .inl (aT 0, 3, .inl (fun _ => 0)), .inl (aT 0, 72, .inl (fun _ => 0)), .inl (aT 0, 28, .inl (fun _ => 0))] H := hB
  refine lv_aload_n (i := 0) hx hb (k := 0) kd_M_202 rfl (lv_at hl 0 rfl) ?_
  refine lv_bipush (n := 28) (v := 28) hx hb kd_M_203 (by decide) ?_
  refine jn_newa hx hb hts (t := 0) (atype := .int) (ty := .int) rfl xw_106 hE.2.1 hB hS (N' := 28) (a0 := (28, .inl (fun _ => 0))) (fun _ => rfl) (by decide) (by decide) (by decide) (Nat.le_of_ble_eq_true rfl) (Nat.le_of_ble_eq_true rfl) kd_M_205 (fun H hB hS => ?_)
  have hB : jn_B D o [.inr (8, [.int 0, .int 0, .int 0, .int (-1), .ref (o + 1), .int 0, .int 0, .int 0, .ref (o + 2), .ref (o + 3), .ref (o + 4), .ref (o + 5), .ref (o + 6), .ref (o + 7), .ref (o + 8), .ref (o + 9), .int 0, .int 0, .int 0, .int 0, .int 0, .int 0, .int 0, .ref (o + 10), .ref (o + 11), .ref (o + 12), .int 0, .int 0, .int 0, .ref (o + 13), .ref (o + 14), .ref (o + 15), .ref (o + 16), .ref (o + 17), .ref (o + 18), .int 0, .ref (o + 19), .ref (o + 20), .ref (o + 21), .ref (o + 22), .ref (o + 23), .ref (o + 24), .null, .int 0, .int 0, .int 0, .int 0, .int 0, .int 0]), .inl (aT 0, 700, .inl (fun _ => 0)), .inl (aT 0, 6, .inl (fun _ => 0)), .inl (aT 0, 6, .inl (fun _ => 0)), .inl (aT 0, 6, .inl (fun _ => 0)), .inl (aT 0, 6, .inl (fun _ => 0)), .inl (aT 0, 36, .inl (fun _ => 0)), .inl (aT 0, 36, .inl (fun _ => 0)), .inl (aT 0, 36, .inl (fun _ => 0)), .inl (aT 0, 36, .inl (fun _ => 0)), .inl (aT 0, 3, .inl (fun _ => 0)), .inl (aT 0, 72, .inl (fun _ => 0)), .inl (aT 0, 72, .inl (fun _ => 0)), .inl (aT 0, 24, .inl (fun _ => 0)), .inl (aT 0, 24, .inl (fun _ => 0)), .inl (aT 0, 24, .inl (fun _ => 0)), .inl (aT 0, 25, .inl (fun _ => 0)), .inl (aT 0, 576, .inl (fun _ => 0)), .inl (aT 0, 24, .inl (fun _ => 0)), .inl (aT 0, 576, .inl (fun _ => 0)), .inl (aT 0, 3, .inl (fun _ => 0)), .inl (aT 0, 1728, .inl (fun _ => 0)), .inl (aT 0, 3, .inl (fun _ => 0)), .inl (aT 0, 72, .inl (fun _ => 0)), .inl (aT 0, 28, .inl (fun _ => 0)), .inl (aT 0, 28, .inl (fun _ => 0))] H := hB
  refine jn_put hx hb hown hts hE hB hS hin2 (k := 0) (j := 42) (q := (RX9, TX9, 49)) rfl rfl (Nat.le_of_ble_eq_true rfl) xw_1185 rfl rfl (ty := .array .int) (by decide +kernel) rfl rfl (Nat.le_of_ble_eq_true rfl) kd_M_207 (fun H locs hB hS => ?_)
  have hB : jn_B D o [.inr (8, [.int 0, .int 0, .int 0, .int (-1), .ref (o + 1), .int 0, .int 0, .int 0, .ref (o + 2), .ref (o + 3), .ref (o + 4), .ref (o + 5), .ref (o + 6), .ref (o + 7), .ref (o + 8), .ref (o + 9), .int 0, .int 0, .int 0, .int 0, .int 0, .int 0, .int 0, .ref (o + 10), .ref (o + 11), .ref (o + 12), .int 0, .int 0, .int 0, .ref (o + 13), .ref (o + 14), .ref (o + 15), .ref (o + 16), .ref (o + 17), .ref (o + 18), .int 0, .ref (o + 19), .ref (o + 20), .ref (o + 21), .ref (o + 22), .ref (o + 23), .ref (o + 24), .ref (o + 25), .int 0, .int 0, .int 0, .int 0, .int 0, .int 0]), .inl (aT 0, 700, .inl (fun _ => 0)), .inl (aT 0, 6, .inl (fun _ => 0)), .inl (aT 0, 6, .inl (fun _ => 0)), .inl (aT 0, 6, .inl (fun _ => 0)), .inl (aT 0, 6, .inl (fun _ => 0)), .inl (aT 0, 36, .inl (fun _ => 0)), .inl (aT 0, 36, .inl (fun _ => 0)), .inl (aT 0, 36, .inl (fun _ => 0)), .inl (aT 0, 36, .inl (fun _ => 0)), .inl (aT 0, 3, .inl (fun _ => 0)), .inl (aT 0, 72, .inl (fun _ => 0)), .inl (aT 0, 72, .inl (fun _ => 0)), .inl (aT 0, 24, .inl (fun _ => 0)), .inl (aT 0, 24, .inl (fun _ => 0)), .inl (aT 0, 24, .inl (fun _ => 0)), .inl (aT 0, 25, .inl (fun _ => 0)), .inl (aT 0, 576, .inl (fun _ => 0)), .inl (aT 0, 24, .inl (fun _ => 0)), .inl (aT 0, 576, .inl (fun _ => 0)), .inl (aT 0, 3, .inl (fun _ => 0)), .inl (aT 0, 1728, .inl (fun _ => 0)), .inl (aT 0, 3, .inl (fun _ => 0)), .inl (aT 0, 72, .inl (fun _ => 0)), .inl (aT 0, 28, .inl (fun _ => 0)), .inl (aT 0, 28, .inl (fun _ => 0))] H := hB
  exact W.vret hx hb hr (fun t ht _ => ⟨rfl, by rw [ht]; exact hB, fun q hq => by rw [ht]; exact hS.2.1 q (by rw [hB0.1]; exact Nat.lt_add_right _ hq) (by omega)⟩) hS.2.2 kd_M_210 hlocks
