/-! THE LAW: names, words, decode rows; written by program -/
theorem kml_L_55 : Cond.methodLink R_L 55 ⟨R_L, "constant", "(LDiagramStore;IZ)I"⟩ ∈ W0 := W0_in (List.mem_of_getElem? (i := 180) (by decide +kernel)) (by decide +kernel)
theorem kst_L_constant : Cond.static ⟨R_L, "constant", "(LDiagramStore;IZ)I"⟩ ∈ W0 := W0_in (List.mem_of_getElem? (i := 181) (by decide +kernel)) (by decide +kernel)
abbrev b_L_constant : ByteArray := method_3_code
def y_L_constant : MethodName := ⟨R_L, "constant", "(LDiagramStore;IZ)I"⟩
theorem kcw_L_constant : Cond.codeWith y_L_constant b_L_constant 4 (some .int) [(0, 6, 9, 13)] ∈ W0 := W0_in (List.mem_of_getElem? (i := 182) (by decide +kernel)) (by decide +kernel)
theorem kml_L_65 : Cond.methodLink R_L 65 ⟨R_L, "variable", "(LDiagramStore;II)I"⟩ ∈ W0 := W0_in (List.mem_of_getElem? (i := 273) (by decide +kernel)) (by decide +kernel)
theorem kst_L_variable : Cond.static ⟨R_L, "variable", "(LDiagramStore;II)I"⟩ ∈ W0 := W0_in (List.mem_of_getElem? (i := 274) (by decide +kernel)) (by decide +kernel)
abbrev b_L_variable : ByteArray := method_4_code
def y_L_variable : MethodName := ⟨R_L, "variable", "(LDiagramStore;II)I"⟩
theorem kcw_L_variable : Cond.codeWith y_L_variable b_L_variable 4 (some .int) [(0, 6, 9, 13)] ∈ W0 := W0_in (List.mem_of_getElem? (i := 275) (by decide +kernel)) (by decide +kernel)
theorem kml_L_69 : Cond.methodLink R_L 69 ⟨R_L, "choose", "(LDiagramStore;IIII[J)I"⟩ ∈ W0 := W0_in (List.mem_of_getElem? (i := 346) (by decide +kernel)) (by decide +kernel)
theorem kst_L_choose : Cond.static ⟨R_L, "choose", "(LDiagramStore;IIII[J)I"⟩ ∈ W0 := W0_in (List.mem_of_getElem? (i := 347) (by decide +kernel)) (by decide +kernel)
abbrev b_L_choose : ByteArray := method_5_code
def y_L_choose : MethodName := ⟨R_L, "choose", "(LDiagramStore;IIII[J)I"⟩
theorem kcw_L_choose : Cond.codeWith y_L_choose b_L_choose 7 (some .int) [(0, 21, 24, 13)] ∈ W0 := W0_in (List.mem_of_getElem? (i := 348) (by decide +kernel)) (by decide +kernel)
theorem kml_L_73 : Cond.methodLink R_L 73 ⟨R_L, "join", "(LDiagramStore;IIII[J)I"⟩ ∈ W0 := W0_in (List.mem_of_getElem? (i := 387) (by decide +kernel)) (by decide +kernel)
theorem kst_L_join : Cond.static ⟨R_L, "join", "(LDiagramStore;IIII[J)I"⟩ ∈ W0 := W0_in (List.mem_of_getElem? (i := 388) (by decide +kernel)) (by decide +kernel)
abbrev b_L_join : ByteArray := method_6_code
def y_L_join : MethodName := ⟨R_L, "join", "(LDiagramStore;IIII[J)I"⟩
theorem kcw_L_join : Cond.codeWith y_L_join b_L_join 7 (some .int) [(0, 21, 24, 13)] ∈ W0 := W0_in (List.mem_of_getElem? (i := 389) (by decide +kernel)) (by decide +kernel)
theorem kml_L_76 : Cond.methodLink R_L 76 ⟨R_L, "some", "(LDiagramStore;IIII[J)I"⟩ ∈ W0 := W0_in (List.mem_of_getElem? (i := 398) (by decide +kernel)) (by decide +kernel)
theorem kst_L_some : Cond.static ⟨R_L, "some", "(LDiagramStore;IIII[J)I"⟩ ∈ W0 := W0_in (List.mem_of_getElem? (i := 399) (by decide +kernel)) (by decide +kernel)
abbrev b_L_some : ByteArray := method_7_code
def y_L_some : MethodName := ⟨R_L, "some", "(LDiagramStore;IIII[J)I"⟩
theorem kcw_L_some : Cond.codeWith y_L_some b_L_some 7 (some .int) [(0, 21, 24, 13)] ∈ W0 := W0_in (List.mem_of_getElem? (i := 400) (by decide +kernel)) (by decide +kernel)
theorem kml_L_79 : Cond.methodLink R_L 79 ⟨R_L, "turn", "(LDiagramStore;II[J)I"⟩ ∈ W0 := W0_in (List.mem_of_getElem? (i := 414) (by decide +kernel)) (by decide +kernel)
theorem kst_L_turn : Cond.static ⟨R_L, "turn", "(LDiagramStore;II[J)I"⟩ ∈ W0 := W0_in (List.mem_of_getElem? (i := 415) (by decide +kernel)) (by decide +kernel)
abbrev b_L_turn : ByteArray := method_8_code
def y_L_turn : MethodName := ⟨R_L, "turn", "(LDiagramStore;II[J)I"⟩
theorem kcw_L_turn : Cond.codeWith y_L_turn b_L_turn 5 (some .int) [(0, 17, 20, 13)] ∈ W0 := W0_in (List.mem_of_getElem? (i := 416) (by decide +kernel)) (by decide +kernel)
theorem kml_L_83 : Cond.methodLink R_L 83 ⟨R_L, "value", "(LDiagramStore;II[J)I"⟩ ∈ W0 := W0_in (List.mem_of_getElem? (i := 438) (by decide +kernel)) (by decide +kernel)
theorem kst_L_value : Cond.static ⟨R_L, "value", "(LDiagramStore;II[J)I"⟩ ∈ W0 := W0_in (List.mem_of_getElem? (i := 439) (by decide +kernel)) (by decide +kernel)
abbrev b_L_value : ByteArray := method_9_code
def y_L_value : MethodName := ⟨R_L, "value", "(LDiagramStore;II[J)I"⟩
theorem kcw_L_value : Cond.codeWith y_L_value b_L_value 5 (some .int) [(0, 17, 20, 13)] ∈ W0 := W0_in (List.mem_of_getElem? (i := 440) (by decide +kernel)) (by decide +kernel)
theorem kml_L_86 : Cond.methodLink R_L 86 ⟨R_L, "same", "(LDiagramStore;II[J)I"⟩ ∈ W0 := W0_in (List.mem_of_getElem? (i := 449) (by decide +kernel)) (by decide +kernel)
theorem kst_L_same : Cond.static ⟨R_L, "same", "(LDiagramStore;II[J)I"⟩ ∈ W0 := W0_in (List.mem_of_getElem? (i := 450) (by decide +kernel)) (by decide +kernel)
abbrev b_L_same : ByteArray := method_10_code
def y_L_same : MethodName := ⟨R_L, "same", "(LDiagramStore;II[J)I"⟩
theorem kcw_L_same : Cond.codeWith y_L_same b_L_same 5 (some .int) [(0, 17, 20, 13)] ∈ W0 := W0_in (List.mem_of_getElem? (i := 451) (by decide +kernel)) (by decide +kernel)
theorem kml_L_89 : Cond.methodLink R_L 89 ⟨R_L, "count", "(LDiagramStore;I[J)I"⟩ ∈ W0 := W0_in (List.mem_of_getElem? (i := 456) (by decide +kernel)) (by decide +kernel)
theorem kst_L_count : Cond.static ⟨R_L, "count", "(LDiagramStore;I[J)I"⟩ ∈ W0 := W0_in (List.mem_of_getElem? (i := 457) (by decide +kernel)) (by decide +kernel)
abbrev b_L_count : ByteArray := method_11_code
def y_L_count : MethodName := ⟨R_L, "count", "(LDiagramStore;I[J)I"⟩
theorem kcw_L_count : Cond.codeWith y_L_count b_L_count 4 (some .int) [(0, 9, 12, 13), (0, 9, 15, 43)] ∈ W0 := W0_in (List.mem_of_getElem? (i := 458) (by decide +kernel)) (by decide +kernel)
theorem kml_L_93 : Cond.methodLink R_L 93 ⟨R_L, "support", "(LDiagramStore;I[J)I"⟩ ∈ W0 := W0_in (List.mem_of_getElem? (i := 484) (by decide +kernel)) (by decide +kernel)
theorem kst_L_support : Cond.static ⟨R_L, "support", "(LDiagramStore;I[J)I"⟩ ∈ W0 := W0_in (List.mem_of_getElem? (i := 485) (by decide +kernel)) (by decide +kernel)
abbrev b_L_support : ByteArray := method_12_code
def y_L_support : MethodName := ⟨R_L, "support", "(LDiagramStore;I[J)I"⟩
theorem kcw_L_support : Cond.codeWith y_L_support b_L_support 4 (some .int) [(0, 9, 12, 13)] ∈ W0 := W0_in (List.mem_of_getElem? (i := 486) (by decide +kernel)) (by decide +kernel)
theorem kml_L_96 : Cond.methodLink R_L 96 ⟨R_L, "tidy", "(LDiagramStore;I[J)I"⟩ ∈ W0 := W0_in (List.mem_of_getElem? (i := 491) (by decide +kernel)) (by decide +kernel)
theorem kst_L_tidy : Cond.static ⟨R_L, "tidy", "(LDiagramStore;I[J)I"⟩ ∈ W0 := W0_in (List.mem_of_getElem? (i := 492) (by decide +kernel)) (by decide +kernel)
abbrev b_L_tidy : ByteArray := method_13_code
def y_L_tidy : MethodName := ⟨R_L, "tidy", "(LDiagramStore;I[J)I"⟩
theorem kcw_L_tidy : Cond.codeWith y_L_tidy b_L_tidy 4 (some .int) [(0, 9, 12, 13)] ∈ W0 := W0_in (List.mem_of_getElem? (i := 493) (by decide +kernel)) (by decide +kernel)
theorem kcl_L_13 : Cond.classLink R_L 13 "java/lang/IllegalArgumentException" ∈ W0 := by decide +kernel
theorem kcl_L_43 : Cond.classLink R_L 43 "java/lang/UnsupportedOperationException" ∈ W0 := by decide +kernel
theorem d_L_constant_0 : decode b_L_constant 0 = .ok (.aload_n 0, 1) := by decide +kernel
theorem d_L_constant_1 : decode b_L_constant 1 = .ok (.iload_n 1, 1) := by decide +kernel
theorem d_L_constant_2 : decode b_L_constant 2 = .ok (.iload_n 2, 1) := by decide +kernel
theorem d_L_constant_3 : decode b_L_constant 3 = .ok (.invokevirtual 7, 3) := by decide +kernel
theorem d_L_constant_6 : decode b_L_constant 6 = .ok (.goto 6, 3) := by decide +kernel
theorem d_L_constant_9 : decode b_L_constant 9 = .ok (.astore_n 3, 1) := by decide +kernel
theorem d_L_constant_10 : decode b_L_constant 10 = .ok (.iconst 1, 1) := by decide +kernel
theorem d_L_constant_11 : decode b_L_constant 11 = .ok (.ireturn, 1) := by decide +kernel
theorem d_L_constant_12 : decode b_L_constant 12 = .ok (.iconst 0, 1) := by decide +kernel
theorem d_L_constant_13 : decode b_L_constant 13 = .ok (.ireturn, 1) := by decide +kernel
theorem d_L_variable_0 : decode b_L_variable 0 = .ok (.aload_n 0, 1) := by decide +kernel
theorem d_L_variable_1 : decode b_L_variable 1 = .ok (.iload_n 1, 1) := by decide +kernel
theorem d_L_variable_2 : decode b_L_variable 2 = .ok (.iload_n 2, 1) := by decide +kernel
theorem d_L_variable_3 : decode b_L_variable 3 = .ok (.invokevirtual 15, 3) := by decide +kernel
theorem d_L_variable_6 : decode b_L_variable 6 = .ok (.goto 6, 3) := by decide +kernel
theorem d_L_variable_9 : decode b_L_variable 9 = .ok (.astore_n 3, 1) := by decide +kernel
theorem d_L_variable_10 : decode b_L_variable 10 = .ok (.iconst 1, 1) := by decide +kernel
theorem d_L_variable_11 : decode b_L_variable 11 = .ok (.ireturn, 1) := by decide +kernel
theorem d_L_variable_12 : decode b_L_variable 12 = .ok (.iconst 0, 1) := by decide +kernel
theorem d_L_variable_13 : decode b_L_variable 13 = .ok (.ireturn, 1) := by decide +kernel
theorem d_L_choose_0 : decode b_L_choose 0 = .ok (.aload 5, 2) := by decide +kernel
theorem d_L_choose_2 : decode b_L_choose 2 = .ok (.iconst 0, 1) := by decide +kernel
theorem d_L_choose_3 : decode b_L_choose 3 = .ok (.aload_n 0, 1) := by decide +kernel
theorem d_L_choose_4 : decode b_L_choose 4 = .ok (.iload_n 1, 1) := by decide +kernel
theorem d_L_choose_5 : decode b_L_choose 5 = .ok (.iload_n 2, 1) := by decide +kernel
theorem d_L_choose_6 : decode b_L_choose 6 = .ok (.iload_n 3, 1) := by decide +kernel
theorem d_L_choose_7 : decode b_L_choose 7 = .ok (.iload 4, 2) := by decide +kernel
theorem d_L_choose_9 : decode b_L_choose 9 = .ok (.invokevirtual 19, 3) := by decide +kernel
theorem d_L_choose_12 : decode b_L_choose 12 = .ok (.ifCond .eq 7, 3) := by decide +kernel
theorem d_L_choose_15 : decode b_L_choose 15 = .ok (.lconst 1, 1) := by decide +kernel
theorem d_L_choose_16 : decode b_L_choose 16 = .ok (.goto 4, 3) := by decide +kernel
theorem d_L_choose_19 : decode b_L_choose 19 = .ok (.lconst 0, 1) := by decide +kernel
theorem d_L_choose_20 : decode b_L_choose 20 = .ok (.lastore, 1) := by decide +kernel
theorem d_L_choose_21 : decode b_L_choose 21 = .ok (.goto 7, 3) := by decide +kernel
theorem d_L_choose_24 : decode b_L_choose 24 = .ok (.astore 6, 2) := by decide +kernel
theorem d_L_choose_26 : decode b_L_choose 26 = .ok (.iconst 1, 1) := by decide +kernel
theorem d_L_choose_27 : decode b_L_choose 27 = .ok (.ireturn, 1) := by decide +kernel
theorem d_L_choose_28 : decode b_L_choose 28 = .ok (.iconst 0, 1) := by decide +kernel
theorem d_L_choose_29 : decode b_L_choose 29 = .ok (.ireturn, 1) := by decide +kernel
theorem d_L_join_0 : decode b_L_join 0 = .ok (.aload 5, 2) := by decide +kernel
theorem d_L_join_2 : decode b_L_join 2 = .ok (.iconst 0, 1) := by decide +kernel
theorem d_L_join_3 : decode b_L_join 3 = .ok (.aload_n 0, 1) := by decide +kernel
theorem d_L_join_4 : decode b_L_join 4 = .ok (.iload_n 1, 1) := by decide +kernel
theorem d_L_join_5 : decode b_L_join 5 = .ok (.iload_n 2, 1) := by decide +kernel
theorem d_L_join_6 : decode b_L_join 6 = .ok (.iload_n 3, 1) := by decide +kernel
theorem d_L_join_7 : decode b_L_join 7 = .ok (.iload 4, 2) := by decide +kernel
theorem d_L_join_9 : decode b_L_join 9 = .ok (.invokevirtual 23, 3) := by decide +kernel
theorem d_L_join_12 : decode b_L_join 12 = .ok (.ifCond .eq 7, 3) := by decide +kernel
theorem d_L_join_15 : decode b_L_join 15 = .ok (.lconst 1, 1) := by decide +kernel
theorem d_L_join_16 : decode b_L_join 16 = .ok (.goto 4, 3) := by decide +kernel
theorem d_L_join_19 : decode b_L_join 19 = .ok (.lconst 0, 1) := by decide +kernel
theorem d_L_join_20 : decode b_L_join 20 = .ok (.lastore, 1) := by decide +kernel
theorem d_L_join_21 : decode b_L_join 21 = .ok (.goto 7, 3) := by decide +kernel
theorem d_L_join_24 : decode b_L_join 24 = .ok (.astore 6, 2) := by decide +kernel
theorem d_L_join_26 : decode b_L_join 26 = .ok (.iconst 1, 1) := by decide +kernel
theorem d_L_join_27 : decode b_L_join 27 = .ok (.ireturn, 1) := by decide +kernel
theorem d_L_join_28 : decode b_L_join 28 = .ok (.iconst 0, 1) := by decide +kernel
theorem d_L_join_29 : decode b_L_join 29 = .ok (.ireturn, 1) := by decide +kernel
theorem d_L_some_0 : decode b_L_some 0 = .ok (.aload 5, 2) := by decide +kernel
theorem d_L_some_2 : decode b_L_some 2 = .ok (.iconst 0, 1) := by decide +kernel
theorem d_L_some_3 : decode b_L_some 3 = .ok (.aload_n 0, 1) := by decide +kernel
theorem d_L_some_4 : decode b_L_some 4 = .ok (.iload_n 1, 1) := by decide +kernel
theorem d_L_some_5 : decode b_L_some 5 = .ok (.iload_n 2, 1) := by decide +kernel
theorem d_L_some_6 : decode b_L_some 6 = .ok (.iload_n 3, 1) := by decide +kernel
theorem d_L_some_7 : decode b_L_some 7 = .ok (.iload 4, 2) := by decide +kernel
theorem d_L_some_9 : decode b_L_some 9 = .ok (.invokevirtual 26, 3) := by decide +kernel
theorem d_L_some_12 : decode b_L_some 12 = .ok (.ifCond .eq 7, 3) := by decide +kernel
theorem d_L_some_15 : decode b_L_some 15 = .ok (.lconst 1, 1) := by decide +kernel
theorem d_L_some_16 : decode b_L_some 16 = .ok (.goto 4, 3) := by decide +kernel
theorem d_L_some_19 : decode b_L_some 19 = .ok (.lconst 0, 1) := by decide +kernel
theorem d_L_some_20 : decode b_L_some 20 = .ok (.lastore, 1) := by decide +kernel
theorem d_L_some_21 : decode b_L_some 21 = .ok (.goto 7, 3) := by decide +kernel
theorem d_L_some_24 : decode b_L_some 24 = .ok (.astore 6, 2) := by decide +kernel
theorem d_L_some_26 : decode b_L_some 26 = .ok (.iconst 1, 1) := by decide +kernel
theorem d_L_some_27 : decode b_L_some 27 = .ok (.ireturn, 1) := by decide +kernel
theorem d_L_some_28 : decode b_L_some 28 = .ok (.iconst 0, 1) := by decide +kernel
theorem d_L_some_29 : decode b_L_some 29 = .ok (.ireturn, 1) := by decide +kernel
theorem d_L_turn_0 : decode b_L_turn 0 = .ok (.aload_n 3, 1) := by decide +kernel
theorem d_L_turn_1 : decode b_L_turn 1 = .ok (.iconst 0, 1) := by decide +kernel
theorem d_L_turn_2 : decode b_L_turn 2 = .ok (.aload_n 0, 1) := by decide +kernel
theorem d_L_turn_3 : decode b_L_turn 3 = .ok (.iload_n 1, 1) := by decide +kernel
theorem d_L_turn_4 : decode b_L_turn 4 = .ok (.iload_n 2, 1) := by decide +kernel
theorem d_L_turn_5 : decode b_L_turn 5 = .ok (.invokevirtual 29, 3) := by decide +kernel
theorem d_L_turn_8 : decode b_L_turn 8 = .ok (.ifCond .eq 7, 3) := by decide +kernel
theorem d_L_turn_11 : decode b_L_turn 11 = .ok (.lconst 1, 1) := by decide +kernel
theorem d_L_turn_12 : decode b_L_turn 12 = .ok (.goto 4, 3) := by decide +kernel
theorem d_L_turn_15 : decode b_L_turn 15 = .ok (.lconst 0, 1) := by decide +kernel
theorem d_L_turn_16 : decode b_L_turn 16 = .ok (.lastore, 1) := by decide +kernel
theorem d_L_turn_17 : decode b_L_turn 17 = .ok (.goto 7, 3) := by decide +kernel
theorem d_L_turn_20 : decode b_L_turn 20 = .ok (.astore 4, 2) := by decide +kernel
theorem d_L_turn_22 : decode b_L_turn 22 = .ok (.iconst 1, 1) := by decide +kernel
theorem d_L_turn_23 : decode b_L_turn 23 = .ok (.ireturn, 1) := by decide +kernel
theorem d_L_turn_24 : decode b_L_turn 24 = .ok (.iconst 0, 1) := by decide +kernel
theorem d_L_turn_25 : decode b_L_turn 25 = .ok (.ireturn, 1) := by decide +kernel
theorem d_L_value_0 : decode b_L_value 0 = .ok (.aload_n 3, 1) := by decide +kernel
theorem d_L_value_1 : decode b_L_value 1 = .ok (.iconst 0, 1) := by decide +kernel
theorem d_L_value_2 : decode b_L_value 2 = .ok (.aload_n 0, 1) := by decide +kernel
theorem d_L_value_3 : decode b_L_value 3 = .ok (.iload_n 1, 1) := by decide +kernel
theorem d_L_value_4 : decode b_L_value 4 = .ok (.iload_n 2, 1) := by decide +kernel
theorem d_L_value_5 : decode b_L_value 5 = .ok (.invokevirtual 33, 3) := by decide +kernel
theorem d_L_value_8 : decode b_L_value 8 = .ok (.ifCond .eq 7, 3) := by decide +kernel
theorem d_L_value_11 : decode b_L_value 11 = .ok (.lconst 1, 1) := by decide +kernel
theorem d_L_value_12 : decode b_L_value 12 = .ok (.goto 4, 3) := by decide +kernel
theorem d_L_value_15 : decode b_L_value 15 = .ok (.lconst 0, 1) := by decide +kernel
theorem d_L_value_16 : decode b_L_value 16 = .ok (.lastore, 1) := by decide +kernel
theorem d_L_value_17 : decode b_L_value 17 = .ok (.goto 7, 3) := by decide +kernel
theorem d_L_value_20 : decode b_L_value 20 = .ok (.astore 4, 2) := by decide +kernel
theorem d_L_value_22 : decode b_L_value 22 = .ok (.iconst 1, 1) := by decide +kernel
theorem d_L_value_23 : decode b_L_value 23 = .ok (.ireturn, 1) := by decide +kernel
theorem d_L_value_24 : decode b_L_value 24 = .ok (.iconst 0, 1) := by decide +kernel
theorem d_L_value_25 : decode b_L_value 25 = .ok (.ireturn, 1) := by decide +kernel
theorem d_L_same_0 : decode b_L_same 0 = .ok (.aload_n 3, 1) := by decide +kernel
theorem d_L_same_1 : decode b_L_same 1 = .ok (.iconst 0, 1) := by decide +kernel
theorem d_L_same_2 : decode b_L_same 2 = .ok (.aload_n 0, 1) := by decide +kernel
theorem d_L_same_3 : decode b_L_same 3 = .ok (.iload_n 1, 1) := by decide +kernel
theorem d_L_same_4 : decode b_L_same 4 = .ok (.iload_n 2, 1) := by decide +kernel
theorem d_L_same_5 : decode b_L_same 5 = .ok (.invokevirtual 36, 3) := by decide +kernel
theorem d_L_same_8 : decode b_L_same 8 = .ok (.ifCond .eq 7, 3) := by decide +kernel
theorem d_L_same_11 : decode b_L_same 11 = .ok (.lconst 1, 1) := by decide +kernel
theorem d_L_same_12 : decode b_L_same 12 = .ok (.goto 4, 3) := by decide +kernel
theorem d_L_same_15 : decode b_L_same 15 = .ok (.lconst 0, 1) := by decide +kernel
theorem d_L_same_16 : decode b_L_same 16 = .ok (.lastore, 1) := by decide +kernel
theorem d_L_same_17 : decode b_L_same 17 = .ok (.goto 7, 3) := by decide +kernel
theorem d_L_same_20 : decode b_L_same 20 = .ok (.astore 4, 2) := by decide +kernel
theorem d_L_same_22 : decode b_L_same 22 = .ok (.iconst 1, 1) := by decide +kernel
theorem d_L_same_23 : decode b_L_same 23 = .ok (.ireturn, 1) := by decide +kernel
theorem d_L_same_24 : decode b_L_same 24 = .ok (.iconst 0, 1) := by decide +kernel
theorem d_L_same_25 : decode b_L_same 25 = .ok (.ireturn, 1) := by decide +kernel
theorem d_L_count_0 : decode b_L_count 0 = .ok (.aload_n 2, 1) := by decide +kernel
theorem d_L_count_1 : decode b_L_count 1 = .ok (.iconst 0, 1) := by decide +kernel
theorem d_L_count_2 : decode b_L_count 2 = .ok (.aload_n 0, 1) := by decide +kernel
theorem d_L_count_3 : decode b_L_count 3 = .ok (.iload_n 1, 1) := by decide +kernel
theorem d_L_count_4 : decode b_L_count 4 = .ok (.invokevirtual 39, 3) := by decide +kernel
theorem d_L_count_7 : decode b_L_count 7 = .ok (.i2l, 1) := by decide +kernel
theorem d_L_count_8 : decode b_L_count 8 = .ok (.lastore, 1) := by decide +kernel
theorem d_L_count_9 : decode b_L_count 9 = .ok (.goto 9, 3) := by decide +kernel
theorem d_L_count_12 : decode b_L_count 12 = .ok (.astore_n 3, 1) := by decide +kernel
theorem d_L_count_13 : decode b_L_count 13 = .ok (.iconst 1, 1) := by decide +kernel
theorem d_L_count_14 : decode b_L_count 14 = .ok (.ireturn, 1) := by decide +kernel
theorem d_L_count_15 : decode b_L_count 15 = .ok (.astore_n 3, 1) := by decide +kernel
theorem d_L_count_16 : decode b_L_count 16 = .ok (.iconst 2, 1) := by decide +kernel
theorem d_L_count_17 : decode b_L_count 17 = .ok (.ireturn, 1) := by decide +kernel
theorem d_L_count_18 : decode b_L_count 18 = .ok (.iconst 0, 1) := by decide +kernel
theorem d_L_count_19 : decode b_L_count 19 = .ok (.ireturn, 1) := by decide +kernel
theorem d_L_support_0 : decode b_L_support 0 = .ok (.aload_n 2, 1) := by decide +kernel
theorem d_L_support_1 : decode b_L_support 1 = .ok (.iconst 0, 1) := by decide +kernel
theorem d_L_support_2 : decode b_L_support 2 = .ok (.aload_n 0, 1) := by decide +kernel
theorem d_L_support_3 : decode b_L_support 3 = .ok (.iload_n 1, 1) := by decide +kernel
theorem d_L_support_4 : decode b_L_support 4 = .ok (.invokevirtual 45, 3) := by decide +kernel
theorem d_L_support_7 : decode b_L_support 7 = .ok (.i2l, 1) := by decide +kernel
theorem d_L_support_8 : decode b_L_support 8 = .ok (.lastore, 1) := by decide +kernel
theorem d_L_support_9 : decode b_L_support 9 = .ok (.goto 6, 3) := by decide +kernel
theorem d_L_support_12 : decode b_L_support 12 = .ok (.astore_n 3, 1) := by decide +kernel
theorem d_L_support_13 : decode b_L_support 13 = .ok (.iconst 1, 1) := by decide +kernel
theorem d_L_support_14 : decode b_L_support 14 = .ok (.ireturn, 1) := by decide +kernel
theorem d_L_support_15 : decode b_L_support 15 = .ok (.iconst 0, 1) := by decide +kernel
theorem d_L_support_16 : decode b_L_support 16 = .ok (.ireturn, 1) := by decide +kernel
theorem d_L_tidy_0 : decode b_L_tidy 0 = .ok (.aload_n 2, 1) := by decide +kernel
theorem d_L_tidy_1 : decode b_L_tidy 1 = .ok (.iconst 0, 1) := by decide +kernel
theorem d_L_tidy_2 : decode b_L_tidy 2 = .ok (.aload_n 0, 1) := by decide +kernel
theorem d_L_tidy_3 : decode b_L_tidy 3 = .ok (.iload_n 1, 1) := by decide +kernel
theorem d_L_tidy_4 : decode b_L_tidy 4 = .ok (.invokevirtual 48, 3) := by decide +kernel
theorem d_L_tidy_7 : decode b_L_tidy 7 = .ok (.i2l, 1) := by decide +kernel
theorem d_L_tidy_8 : decode b_L_tidy 8 = .ok (.lastore, 1) := by decide +kernel
theorem d_L_tidy_9 : decode b_L_tidy 9 = .ok (.goto 6, 3) := by decide +kernel
theorem d_L_tidy_12 : decode b_L_tidy 12 = .ok (.astore_n 3, 1) := by decide +kernel
theorem d_L_tidy_13 : decode b_L_tidy 13 = .ok (.iconst 1, 1) := by decide +kernel
theorem d_L_tidy_14 : decode b_L_tidy 14 = .ok (.ireturn, 1) := by decide +kernel
theorem d_L_tidy_15 : decode b_L_tidy 15 = .ok (.iconst 0, 1) := by decide +kernel
theorem d_L_tidy_16 : decode b_L_tidy 16 = .ok (.ireturn, 1) := by decide +kernel
theorem d_L_law_0 : decode code 0 = .ok (.new 8, 3) := by decide +kernel
theorem d_L_law_3 : decode code 3 = .ok (.dup, 1) := by decide +kernel
theorem d_L_law_4 : decode code 4 = .ok (.invokespecial 51, 3) := by decide +kernel
theorem d_L_law_7 : decode code 7 = .ok (.astore_n 1, 1) := by decide +kernel
theorem d_L_law_8 : decode code 8 = .ok (.new 52, 3) := by decide +kernel
theorem d_L_law_11 : decode code 11 = .ok (.dup, 1) := by decide +kernel
theorem d_L_law_12 : decode code 12 = .ok (.invokespecial 54, 3) := by decide +kernel
theorem d_L_law_15 : decode code 15 = .ok (.astore_n 2, 1) := by decide +kernel
theorem d_L_law_16 : decode code 16 = .ok (.iconst 1, 1) := by decide +kernel
theorem d_L_law_17 : decode code 17 = .ok (.newarray .long, 2) := by decide +kernel
theorem d_L_law_19 : decode code 19 = .ok (.astore_n 3, 1) := by decide +kernel
theorem d_L_law_20 : decode code 20 = .ok (.iconst 0, 1) := by decide +kernel
theorem d_L_law_21 : decode code 21 = .ok (.istore 4, 2) := by decide +kernel
theorem d_L_law_23 : decode code 23 = .ok (.iload 4, 2) := by decide +kernel
theorem d_L_law_25 : decode code 25 = .ok (.aload_n 0, 1) := by decide +kernel
theorem d_L_law_26 : decode code 26 = .ok (.arraylength, 1) := by decide +kernel
theorem d_L_law_27 : decode code 27 = .ok (.iconst 5, 1) := by decide +kernel
theorem d_L_law_28 : decode code 28 = .ok (.isub, 1) := by decide +kernel
theorem d_L_law_29 : decode code 29 = .ok (.if_icmp .gt 892, 3) := by decide +kernel
theorem d_L_law_32 : decode code 32 = .ok (.aload_n 0, 1) := by decide +kernel
theorem d_L_law_33 : decode code 33 = .ok (.iload 4, 2) := by decide +kernel
theorem d_L_law_35 : decode code 35 = .ok (.iaload, 1) := by decide +kernel
theorem d_L_law_36 : decode code 36 = .ok (.bipush 15, 2) := by decide +kernel
theorem d_L_law_38 : decode code 38 = .ok (.iand, 1) := by decide +kernel
theorem d_L_law_39 : decode code 39 = .ok (.tableswitch 876 0 11 #[61, 125, 173, 272, 371, 470, 545, 620, 695, 751, 807, 863], 61) := by decide +kernel
theorem d_L_law_100 : decode code 100 = .ok (.aload_n 1, 1) := by decide +kernel
theorem d_L_law_101 : decode code 101 = .ok (.aload_n 0, 1) := by decide +kernel
theorem d_L_law_102 : decode code 102 = .ok (.iload 4, 2) := by decide +kernel
theorem d_L_law_104 : decode code 104 = .ok (.iconst 1, 1) := by decide +kernel
theorem d_L_law_105 : decode code 105 = .ok (.iadd, 1) := by decide +kernel
theorem d_L_law_106 : decode code 106 = .ok (.iaload, 1) := by decide +kernel
theorem d_L_law_107 : decode code 107 = .ok (.aload_n 0, 1) := by decide +kernel
theorem d_L_law_108 : decode code 108 = .ok (.iload 4, 2) := by decide +kernel
theorem d_L_law_110 : decode code 110 = .ok (.iconst 2, 1) := by decide +kernel
theorem d_L_law_111 : decode code 111 = .ok (.iadd, 1) := by decide +kernel
theorem d_L_law_112 : decode code 112 = .ok (.iaload, 1) := by decide +kernel
theorem d_L_law_113 : decode code 113 = .ok (.ifCond .eq 7, 3) := by decide +kernel
theorem d_L_law_116 : decode code 116 = .ok (.iconst 1, 1) := by decide +kernel
theorem d_L_law_117 : decode code 117 = .ok (.goto 4, 3) := by decide +kernel
theorem d_L_law_120 : decode code 120 = .ok (.iconst 0, 1) := by decide +kernel
theorem d_L_law_121 : decode code 121 = .ok (.invokestatic 55, 3) := by decide +kernel
theorem d_L_law_124 : decode code 124 = .ok (.istore 5, 2) := by decide +kernel
theorem d_L_law_126 : decode code 126 = .ok (.aload_n 2, 1) := by decide +kernel
theorem d_L_law_127 : decode code 127 = .ok (.aload_n 0, 1) := by decide +kernel
theorem d_L_law_128 : decode code 128 = .ok (.iload 4, 2) := by decide +kernel
theorem d_L_law_130 : decode code 130 = .ok (.iconst 1, 1) := by decide +kernel
theorem d_L_law_131 : decode code 131 = .ok (.iadd, 1) := by decide +kernel
theorem d_L_law_132 : decode code 132 = .ok (.iaload, 1) := by decide +kernel
theorem d_L_law_133 : decode code 133 = .ok (.aload_n 0, 1) := by decide +kernel
theorem d_L_law_134 : decode code 134 = .ok (.iload 4, 2) := by decide +kernel
theorem d_L_law_136 : decode code 136 = .ok (.iconst 2, 1) := by decide +kernel
theorem d_L_law_137 : decode code 137 = .ok (.iadd, 1) := by decide +kernel
theorem d_L_law_138 : decode code 138 = .ok (.iaload, 1) := by decide +kernel
theorem d_L_law_139 : decode code 139 = .ok (.ifCond .eq 7, 3) := by decide +kernel
theorem d_L_law_142 : decode code 142 = .ok (.iconst 1, 1) := by decide +kernel
theorem d_L_law_143 : decode code 143 = .ok (.goto 4, 3) := by decide +kernel
theorem d_L_law_146 : decode code 146 = .ok (.iconst 0, 1) := by decide +kernel
theorem d_L_law_147 : decode code 147 = .ok (.invokevirtual 60, 3) := by decide +kernel
theorem d_L_law_150 : decode code 150 = .ok (.aload_n 2, 1) := by decide +kernel
theorem d_L_law_151 : decode code 151 = .ok (.invokevirtual 61, 3) := by decide +kernel
theorem d_L_law_154 : decode code 154 = .ok (.iload 5, 2) := by decide +kernel
theorem d_L_law_156 : decode code 156 = .ok (.if_icmp .eq 5, 3) := by decide +kernel
theorem d_L_law_159 : decode code 159 = .ok (.iconst 0, 1) := by decide +kernel
theorem d_L_law_160 : decode code 160 = .ok (.ireturn, 1) := by decide +kernel
theorem d_L_law_161 : decode code 161 = .ok (.goto 754, 3) := by decide +kernel
theorem d_L_law_164 : decode code 164 = .ok (.aload_n 1, 1) := by decide +kernel
theorem d_L_law_165 : decode code 165 = .ok (.aload_n 0, 1) := by decide +kernel
theorem d_L_law_166 : decode code 166 = .ok (.iload 4, 2) := by decide +kernel
theorem d_L_law_168 : decode code 168 = .ok (.iconst 1, 1) := by decide +kernel
theorem d_L_law_169 : decode code 169 = .ok (.iadd, 1) := by decide +kernel
theorem d_L_law_170 : decode code 170 = .ok (.iaload, 1) := by decide +kernel
theorem d_L_law_171 : decode code 171 = .ok (.aload_n 0, 1) := by decide +kernel
theorem d_L_law_172 : decode code 172 = .ok (.iload 4, 2) := by decide +kernel
theorem d_L_law_174 : decode code 174 = .ok (.iconst 2, 1) := by decide +kernel
theorem d_L_law_175 : decode code 175 = .ok (.iadd, 1) := by decide +kernel
theorem d_L_law_176 : decode code 176 = .ok (.iaload, 1) := by decide +kernel
theorem d_L_law_177 : decode code 177 = .ok (.invokestatic 65, 3) := by decide +kernel
theorem d_L_law_180 : decode code 180 = .ok (.istore 5, 2) := by decide +kernel
theorem d_L_law_182 : decode code 182 = .ok (.aload_n 2, 1) := by decide +kernel
theorem d_L_law_183 : decode code 183 = .ok (.aload_n 0, 1) := by decide +kernel
theorem d_L_law_184 : decode code 184 = .ok (.iload 4, 2) := by decide +kernel
theorem d_L_law_186 : decode code 186 = .ok (.iconst 1, 1) := by decide +kernel
theorem d_L_law_187 : decode code 187 = .ok (.iadd, 1) := by decide +kernel
theorem d_L_law_188 : decode code 188 = .ok (.iaload, 1) := by decide +kernel
theorem d_L_law_189 : decode code 189 = .ok (.aload_n 0, 1) := by decide +kernel
theorem d_L_law_190 : decode code 190 = .ok (.iload 4, 2) := by decide +kernel
theorem d_L_law_192 : decode code 192 = .ok (.iconst 2, 1) := by decide +kernel
theorem d_L_law_193 : decode code 193 = .ok (.iadd, 1) := by decide +kernel
theorem d_L_law_194 : decode code 194 = .ok (.iaload, 1) := by decide +kernel
theorem d_L_law_195 : decode code 195 = .ok (.invokevirtual 68, 3) := by decide +kernel
theorem d_L_law_198 : decode code 198 = .ok (.aload_n 2, 1) := by decide +kernel
theorem d_L_law_199 : decode code 199 = .ok (.invokevirtual 61, 3) := by decide +kernel
theorem d_L_law_202 : decode code 202 = .ok (.iload 5, 2) := by decide +kernel
theorem d_L_law_204 : decode code 204 = .ok (.if_icmp .eq 5, 3) := by decide +kernel
theorem d_L_law_207 : decode code 207 = .ok (.iconst 0, 1) := by decide +kernel
theorem d_L_law_208 : decode code 208 = .ok (.ireturn, 1) := by decide +kernel
theorem d_L_law_209 : decode code 209 = .ok (.goto 706, 3) := by decide +kernel
theorem d_L_law_212 : decode code 212 = .ok (.aload_n 1, 1) := by decide +kernel
theorem d_L_law_213 : decode code 213 = .ok (.aload_n 0, 1) := by decide +kernel
theorem d_L_law_214 : decode code 214 = .ok (.iload 4, 2) := by decide +kernel
theorem d_L_law_216 : decode code 216 = .ok (.iconst 1, 1) := by decide +kernel
theorem d_L_law_217 : decode code 217 = .ok (.iadd, 1) := by decide +kernel
theorem d_L_law_218 : decode code 218 = .ok (.iaload, 1) := by decide +kernel
theorem d_L_law_219 : decode code 219 = .ok (.aload_n 0, 1) := by decide +kernel
theorem d_L_law_220 : decode code 220 = .ok (.iload 4, 2) := by decide +kernel
theorem d_L_law_222 : decode code 222 = .ok (.iconst 2, 1) := by decide +kernel
theorem d_L_law_223 : decode code 223 = .ok (.iadd, 1) := by decide +kernel
theorem d_L_law_224 : decode code 224 = .ok (.iaload, 1) := by decide +kernel
theorem d_L_law_225 : decode code 225 = .ok (.aload_n 0, 1) := by decide +kernel
theorem d_L_law_226 : decode code 226 = .ok (.iload 4, 2) := by decide +kernel
theorem d_L_law_228 : decode code 228 = .ok (.iconst 3, 1) := by decide +kernel
theorem d_L_law_229 : decode code 229 = .ok (.iadd, 1) := by decide +kernel
theorem d_L_law_230 : decode code 230 = .ok (.iaload, 1) := by decide +kernel
theorem d_L_law_231 : decode code 231 = .ok (.aload_n 0, 1) := by decide +kernel
theorem d_L_law_232 : decode code 232 = .ok (.iload 4, 2) := by decide +kernel
theorem d_L_law_234 : decode code 234 = .ok (.iconst 4, 1) := by decide +kernel
theorem d_L_law_235 : decode code 235 = .ok (.iadd, 1) := by decide +kernel
theorem d_L_law_236 : decode code 236 = .ok (.iaload, 1) := by decide +kernel
theorem d_L_law_237 : decode code 237 = .ok (.aload_n 3, 1) := by decide +kernel
theorem d_L_law_238 : decode code 238 = .ok (.invokestatic 69, 3) := by decide +kernel
theorem d_L_law_241 : decode code 241 = .ok (.istore 5, 2) := by decide +kernel
theorem d_L_law_243 : decode code 243 = .ok (.aload_n 2, 1) := by decide +kernel
theorem d_L_law_244 : decode code 244 = .ok (.aload_n 0, 1) := by decide +kernel
theorem d_L_law_245 : decode code 245 = .ok (.iload 4, 2) := by decide +kernel
theorem d_L_law_247 : decode code 247 = .ok (.iconst 1, 1) := by decide +kernel
theorem d_L_law_248 : decode code 248 = .ok (.iadd, 1) := by decide +kernel
theorem d_L_law_249 : decode code 249 = .ok (.iaload, 1) := by decide +kernel
theorem d_L_law_250 : decode code 250 = .ok (.aload_n 0, 1) := by decide +kernel
theorem d_L_law_251 : decode code 251 = .ok (.iload 4, 2) := by decide +kernel
theorem d_L_law_253 : decode code 253 = .ok (.iconst 2, 1) := by decide +kernel
theorem d_L_law_254 : decode code 254 = .ok (.iadd, 1) := by decide +kernel
theorem d_L_law_255 : decode code 255 = .ok (.iaload, 1) := by decide +kernel
theorem d_L_law_256 : decode code 256 = .ok (.aload_n 0, 1) := by decide +kernel
theorem d_L_law_257 : decode code 257 = .ok (.iload 4, 2) := by decide +kernel
theorem d_L_law_259 : decode code 259 = .ok (.iconst 3, 1) := by decide +kernel
theorem d_L_law_260 : decode code 260 = .ok (.iadd, 1) := by decide +kernel
theorem d_L_law_261 : decode code 261 = .ok (.iaload, 1) := by decide +kernel
theorem d_L_law_262 : decode code 262 = .ok (.aload_n 0, 1) := by decide +kernel
theorem d_L_law_263 : decode code 263 = .ok (.iload 4, 2) := by decide +kernel
theorem d_L_law_265 : decode code 265 = .ok (.iconst 4, 1) := by decide +kernel
theorem d_L_law_266 : decode code 266 = .ok (.iadd, 1) := by decide +kernel
theorem d_L_law_267 : decode code 267 = .ok (.iaload, 1) := by decide +kernel
theorem d_L_law_268 : decode code 268 = .ok (.invokevirtual 72, 3) := by decide +kernel
theorem d_L_law_271 : decode code 271 = .ok (.istore 6, 2) := by decide +kernel
theorem d_L_law_273 : decode code 273 = .ok (.aload_n 2, 1) := by decide +kernel
theorem d_L_law_274 : decode code 274 = .ok (.invokevirtual 61, 3) := by decide +kernel
theorem d_L_law_277 : decode code 277 = .ok (.iload 5, 2) := by decide +kernel
theorem d_L_law_279 : decode code 279 = .ok (.if_icmp .eq 5, 3) := by decide +kernel
theorem d_L_law_282 : decode code 282 = .ok (.iconst 0, 1) := by decide +kernel
theorem d_L_law_283 : decode code 283 = .ok (.ireturn, 1) := by decide +kernel
theorem d_L_law_284 : decode code 284 = .ok (.iload 5, 2) := by decide +kernel
theorem d_L_law_286 : decode code 286 = .ok (.ifCond .ne 22, 3) := by decide +kernel
theorem d_L_law_289 : decode code 289 = .ok (.aload_n 3, 1) := by decide +kernel
theorem d_L_law_290 : decode code 290 = .ok (.iconst 0, 1) := by decide +kernel
theorem d_L_law_291 : decode code 291 = .ok (.laload, 1) := by decide +kernel
theorem d_L_law_292 : decode code 292 = .ok (.iload 6, 2) := by decide +kernel
theorem d_L_law_294 : decode code 294 = .ok (.ifCond .eq 7, 3) := by decide +kernel
theorem d_L_law_297 : decode code 297 = .ok (.lconst 1, 1) := by decide +kernel
theorem d_L_law_298 : decode code 298 = .ok (.goto 4, 3) := by decide +kernel
theorem d_L_law_301 : decode code 301 = .ok (.lconst 0, 1) := by decide +kernel
theorem d_L_law_302 : decode code 302 = .ok (.lcmp, 1) := by decide +kernel
theorem d_L_law_303 : decode code 303 = .ok (.ifCond .eq 5, 3) := by decide +kernel
theorem d_L_law_306 : decode code 306 = .ok (.iconst 0, 1) := by decide +kernel
theorem d_L_law_307 : decode code 307 = .ok (.ireturn, 1) := by decide +kernel
theorem d_L_law_308 : decode code 308 = .ok (.goto 607, 3) := by decide +kernel
theorem d_L_law_311 : decode code 311 = .ok (.aload_n 1, 1) := by decide +kernel
theorem d_L_law_312 : decode code 312 = .ok (.aload_n 0, 1) := by decide +kernel
theorem d_L_law_313 : decode code 313 = .ok (.iload 4, 2) := by decide +kernel
theorem d_L_law_315 : decode code 315 = .ok (.iconst 1, 1) := by decide +kernel
theorem d_L_law_316 : decode code 316 = .ok (.iadd, 1) := by decide +kernel
theorem d_L_law_317 : decode code 317 = .ok (.iaload, 1) := by decide +kernel
theorem d_L_law_318 : decode code 318 = .ok (.aload_n 0, 1) := by decide +kernel
theorem d_L_law_319 : decode code 319 = .ok (.iload 4, 2) := by decide +kernel
theorem d_L_law_321 : decode code 321 = .ok (.iconst 2, 1) := by decide +kernel
theorem d_L_law_322 : decode code 322 = .ok (.iadd, 1) := by decide +kernel
theorem d_L_law_323 : decode code 323 = .ok (.iaload, 1) := by decide +kernel
theorem d_L_law_324 : decode code 324 = .ok (.aload_n 0, 1) := by decide +kernel
theorem d_L_law_325 : decode code 325 = .ok (.iload 4, 2) := by decide +kernel
theorem d_L_law_327 : decode code 327 = .ok (.iconst 3, 1) := by decide +kernel
theorem d_L_law_328 : decode code 328 = .ok (.iadd, 1) := by decide +kernel
theorem d_L_law_329 : decode code 329 = .ok (.iaload, 1) := by decide +kernel
theorem d_L_law_330 : decode code 330 = .ok (.aload_n 0, 1) := by decide +kernel
theorem d_L_law_331 : decode code 331 = .ok (.iload 4, 2) := by decide +kernel
theorem d_L_law_333 : decode code 333 = .ok (.iconst 4, 1) := by decide +kernel
theorem d_L_law_334 : decode code 334 = .ok (.iadd, 1) := by decide +kernel
theorem d_L_law_335 : decode code 335 = .ok (.iaload, 1) := by decide +kernel
theorem d_L_law_336 : decode code 336 = .ok (.aload_n 3, 1) := by decide +kernel
theorem d_L_law_337 : decode code 337 = .ok (.invokestatic 73, 3) := by decide +kernel
theorem d_L_law_340 : decode code 340 = .ok (.istore 5, 2) := by decide +kernel
theorem d_L_law_342 : decode code 342 = .ok (.aload_n 2, 1) := by decide +kernel
theorem d_L_law_343 : decode code 343 = .ok (.aload_n 0, 1) := by decide +kernel
theorem d_L_law_344 : decode code 344 = .ok (.iload 4, 2) := by decide +kernel
theorem d_L_law_346 : decode code 346 = .ok (.iconst 1, 1) := by decide +kernel
theorem d_L_law_347 : decode code 347 = .ok (.iadd, 1) := by decide +kernel
theorem d_L_law_348 : decode code 348 = .ok (.iaload, 1) := by decide +kernel
theorem d_L_law_349 : decode code 349 = .ok (.aload_n 0, 1) := by decide +kernel
theorem d_L_law_350 : decode code 350 = .ok (.iload 4, 2) := by decide +kernel
theorem d_L_law_352 : decode code 352 = .ok (.iconst 2, 1) := by decide +kernel
theorem d_L_law_353 : decode code 353 = .ok (.iadd, 1) := by decide +kernel
theorem d_L_law_354 : decode code 354 = .ok (.iaload, 1) := by decide +kernel
theorem d_L_law_355 : decode code 355 = .ok (.aload_n 0, 1) := by decide +kernel
theorem d_L_law_356 : decode code 356 = .ok (.iload 4, 2) := by decide +kernel
theorem d_L_law_358 : decode code 358 = .ok (.iconst 3, 1) := by decide +kernel
theorem d_L_law_359 : decode code 359 = .ok (.iadd, 1) := by decide +kernel
theorem d_L_law_360 : decode code 360 = .ok (.iaload, 1) := by decide +kernel
theorem d_L_law_361 : decode code 361 = .ok (.aload_n 0, 1) := by decide +kernel
theorem d_L_law_362 : decode code 362 = .ok (.iload 4, 2) := by decide +kernel
theorem d_L_law_364 : decode code 364 = .ok (.iconst 4, 1) := by decide +kernel
theorem d_L_law_365 : decode code 365 = .ok (.iadd, 1) := by decide +kernel
theorem d_L_law_366 : decode code 366 = .ok (.iaload, 1) := by decide +kernel
theorem d_L_law_367 : decode code 367 = .ok (.invokevirtual 75, 3) := by decide +kernel
theorem d_L_law_370 : decode code 370 = .ok (.istore 6, 2) := by decide +kernel
theorem d_L_law_372 : decode code 372 = .ok (.aload_n 2, 1) := by decide +kernel
theorem d_L_law_373 : decode code 373 = .ok (.invokevirtual 61, 3) := by decide +kernel
theorem d_L_law_376 : decode code 376 = .ok (.iload 5, 2) := by decide +kernel
theorem d_L_law_378 : decode code 378 = .ok (.if_icmp .eq 5, 3) := by decide +kernel
theorem d_L_law_381 : decode code 381 = .ok (.iconst 0, 1) := by decide +kernel
theorem d_L_law_382 : decode code 382 = .ok (.ireturn, 1) := by decide +kernel
theorem d_L_law_383 : decode code 383 = .ok (.iload 5, 2) := by decide +kernel
theorem d_L_law_385 : decode code 385 = .ok (.ifCond .ne 22, 3) := by decide +kernel
theorem d_L_law_388 : decode code 388 = .ok (.aload_n 3, 1) := by decide +kernel
theorem d_L_law_389 : decode code 389 = .ok (.iconst 0, 1) := by decide +kernel
theorem d_L_law_390 : decode code 390 = .ok (.laload, 1) := by decide +kernel
theorem d_L_law_391 : decode code 391 = .ok (.iload 6, 2) := by decide +kernel
theorem d_L_law_393 : decode code 393 = .ok (.ifCond .eq 7, 3) := by decide +kernel
theorem d_L_law_396 : decode code 396 = .ok (.lconst 1, 1) := by decide +kernel
theorem d_L_law_397 : decode code 397 = .ok (.goto 4, 3) := by decide +kernel
theorem d_L_law_400 : decode code 400 = .ok (.lconst 0, 1) := by decide +kernel
theorem d_L_law_401 : decode code 401 = .ok (.lcmp, 1) := by decide +kernel
theorem d_L_law_402 : decode code 402 = .ok (.ifCond .eq 5, 3) := by decide +kernel
theorem d_L_law_405 : decode code 405 = .ok (.iconst 0, 1) := by decide +kernel
theorem d_L_law_406 : decode code 406 = .ok (.ireturn, 1) := by decide +kernel
theorem d_L_law_407 : decode code 407 = .ok (.goto 508, 3) := by decide +kernel
theorem d_L_law_410 : decode code 410 = .ok (.aload_n 1, 1) := by decide +kernel
theorem d_L_law_411 : decode code 411 = .ok (.aload_n 0, 1) := by decide +kernel
theorem d_L_law_412 : decode code 412 = .ok (.iload 4, 2) := by decide +kernel
theorem d_L_law_414 : decode code 414 = .ok (.iconst 1, 1) := by decide +kernel
theorem d_L_law_415 : decode code 415 = .ok (.iadd, 1) := by decide +kernel
theorem d_L_law_416 : decode code 416 = .ok (.iaload, 1) := by decide +kernel
theorem d_L_law_417 : decode code 417 = .ok (.aload_n 0, 1) := by decide +kernel
theorem d_L_law_418 : decode code 418 = .ok (.iload 4, 2) := by decide +kernel
theorem d_L_law_420 : decode code 420 = .ok (.iconst 2, 1) := by decide +kernel
theorem d_L_law_421 : decode code 421 = .ok (.iadd, 1) := by decide +kernel
theorem d_L_law_422 : decode code 422 = .ok (.iaload, 1) := by decide +kernel
theorem d_L_law_423 : decode code 423 = .ok (.aload_n 0, 1) := by decide +kernel
theorem d_L_law_424 : decode code 424 = .ok (.iload 4, 2) := by decide +kernel
theorem d_L_law_426 : decode code 426 = .ok (.iconst 3, 1) := by decide +kernel
theorem d_L_law_427 : decode code 427 = .ok (.iadd, 1) := by decide +kernel
theorem d_L_law_428 : decode code 428 = .ok (.iaload, 1) := by decide +kernel
theorem d_L_law_429 : decode code 429 = .ok (.aload_n 0, 1) := by decide +kernel
theorem d_L_law_430 : decode code 430 = .ok (.iload 4, 2) := by decide +kernel
theorem d_L_law_432 : decode code 432 = .ok (.iconst 4, 1) := by decide +kernel
theorem d_L_law_433 : decode code 433 = .ok (.iadd, 1) := by decide +kernel
theorem d_L_law_434 : decode code 434 = .ok (.iaload, 1) := by decide +kernel
theorem d_L_law_435 : decode code 435 = .ok (.aload_n 3, 1) := by decide +kernel
theorem d_L_law_436 : decode code 436 = .ok (.invokestatic 76, 3) := by decide +kernel
theorem d_L_law_439 : decode code 439 = .ok (.istore 5, 2) := by decide +kernel
theorem d_L_law_441 : decode code 441 = .ok (.aload_n 2, 1) := by decide +kernel
theorem d_L_law_442 : decode code 442 = .ok (.aload_n 0, 1) := by decide +kernel
theorem d_L_law_443 : decode code 443 = .ok (.iload 4, 2) := by decide +kernel
theorem d_L_law_445 : decode code 445 = .ok (.iconst 1, 1) := by decide +kernel
theorem d_L_law_446 : decode code 446 = .ok (.iadd, 1) := by decide +kernel
theorem d_L_law_447 : decode code 447 = .ok (.iaload, 1) := by decide +kernel
theorem d_L_law_448 : decode code 448 = .ok (.aload_n 0, 1) := by decide +kernel
theorem d_L_law_449 : decode code 449 = .ok (.iload 4, 2) := by decide +kernel
theorem d_L_law_451 : decode code 451 = .ok (.iconst 2, 1) := by decide +kernel
theorem d_L_law_452 : decode code 452 = .ok (.iadd, 1) := by decide +kernel
theorem d_L_law_453 : decode code 453 = .ok (.iaload, 1) := by decide +kernel
theorem d_L_law_454 : decode code 454 = .ok (.aload_n 0, 1) := by decide +kernel
theorem d_L_law_455 : decode code 455 = .ok (.iload 4, 2) := by decide +kernel
theorem d_L_law_457 : decode code 457 = .ok (.iconst 3, 1) := by decide +kernel
theorem d_L_law_458 : decode code 458 = .ok (.iadd, 1) := by decide +kernel
theorem d_L_law_459 : decode code 459 = .ok (.iaload, 1) := by decide +kernel
theorem d_L_law_460 : decode code 460 = .ok (.aload_n 0, 1) := by decide +kernel
theorem d_L_law_461 : decode code 461 = .ok (.iload 4, 2) := by decide +kernel
theorem d_L_law_463 : decode code 463 = .ok (.iconst 4, 1) := by decide +kernel
theorem d_L_law_464 : decode code 464 = .ok (.iadd, 1) := by decide +kernel
theorem d_L_law_465 : decode code 465 = .ok (.iaload, 1) := by decide +kernel
theorem d_L_law_466 : decode code 466 = .ok (.invokevirtual 78, 3) := by decide +kernel
theorem d_L_law_469 : decode code 469 = .ok (.istore 6, 2) := by decide +kernel
theorem d_L_law_471 : decode code 471 = .ok (.aload_n 2, 1) := by decide +kernel
theorem d_L_law_472 : decode code 472 = .ok (.invokevirtual 61, 3) := by decide +kernel
theorem d_L_law_475 : decode code 475 = .ok (.iload 5, 2) := by decide +kernel
theorem d_L_law_477 : decode code 477 = .ok (.if_icmp .eq 5, 3) := by decide +kernel
theorem d_L_law_480 : decode code 480 = .ok (.iconst 0, 1) := by decide +kernel
theorem d_L_law_481 : decode code 481 = .ok (.ireturn, 1) := by decide +kernel
theorem d_L_law_482 : decode code 482 = .ok (.iload 5, 2) := by decide +kernel
theorem d_L_law_484 : decode code 484 = .ok (.ifCond .ne 22, 3) := by decide +kernel
theorem d_L_law_487 : decode code 487 = .ok (.aload_n 3, 1) := by decide +kernel
theorem d_L_law_488 : decode code 488 = .ok (.iconst 0, 1) := by decide +kernel
theorem d_L_law_489 : decode code 489 = .ok (.laload, 1) := by decide +kernel
theorem d_L_law_490 : decode code 490 = .ok (.iload 6, 2) := by decide +kernel
theorem d_L_law_492 : decode code 492 = .ok (.ifCond .eq 7, 3) := by decide +kernel
theorem d_L_law_495 : decode code 495 = .ok (.lconst 1, 1) := by decide +kernel
theorem d_L_law_496 : decode code 496 = .ok (.goto 4, 3) := by decide +kernel
theorem d_L_law_499 : decode code 499 = .ok (.lconst 0, 1) := by decide +kernel
theorem d_L_law_500 : decode code 500 = .ok (.lcmp, 1) := by decide +kernel
theorem d_L_law_501 : decode code 501 = .ok (.ifCond .eq 5, 3) := by decide +kernel
theorem d_L_law_504 : decode code 504 = .ok (.iconst 0, 1) := by decide +kernel
theorem d_L_law_505 : decode code 505 = .ok (.ireturn, 1) := by decide +kernel
theorem d_L_law_506 : decode code 506 = .ok (.goto 409, 3) := by decide +kernel
theorem d_L_law_509 : decode code 509 = .ok (.aload_n 1, 1) := by decide +kernel
theorem d_L_law_510 : decode code 510 = .ok (.aload_n 0, 1) := by decide +kernel
theorem d_L_law_511 : decode code 511 = .ok (.iload 4, 2) := by decide +kernel
theorem d_L_law_513 : decode code 513 = .ok (.iconst 1, 1) := by decide +kernel
theorem d_L_law_514 : decode code 514 = .ok (.iadd, 1) := by decide +kernel
theorem d_L_law_515 : decode code 515 = .ok (.iaload, 1) := by decide +kernel
theorem d_L_law_516 : decode code 516 = .ok (.aload_n 0, 1) := by decide +kernel
theorem d_L_law_517 : decode code 517 = .ok (.iload 4, 2) := by decide +kernel
theorem d_L_law_519 : decode code 519 = .ok (.iconst 2, 1) := by decide +kernel
theorem d_L_law_520 : decode code 520 = .ok (.iadd, 1) := by decide +kernel
theorem d_L_law_521 : decode code 521 = .ok (.iaload, 1) := by decide +kernel
theorem d_L_law_522 : decode code 522 = .ok (.aload_n 3, 1) := by decide +kernel
theorem d_L_law_523 : decode code 523 = .ok (.invokestatic 79, 3) := by decide +kernel
theorem d_L_law_526 : decode code 526 = .ok (.istore 5, 2) := by decide +kernel
theorem d_L_law_528 : decode code 528 = .ok (.aload_n 2, 1) := by decide +kernel
theorem d_L_law_529 : decode code 529 = .ok (.aload_n 0, 1) := by decide +kernel
theorem d_L_law_530 : decode code 530 = .ok (.iload 4, 2) := by decide +kernel
theorem d_L_law_532 : decode code 532 = .ok (.iconst 1, 1) := by decide +kernel
theorem d_L_law_533 : decode code 533 = .ok (.iadd, 1) := by decide +kernel
theorem d_L_law_534 : decode code 534 = .ok (.iaload, 1) := by decide +kernel
theorem d_L_law_535 : decode code 535 = .ok (.aload_n 0, 1) := by decide +kernel
theorem d_L_law_536 : decode code 536 = .ok (.iload 4, 2) := by decide +kernel
theorem d_L_law_538 : decode code 538 = .ok (.iconst 2, 1) := by decide +kernel
theorem d_L_law_539 : decode code 539 = .ok (.iadd, 1) := by decide +kernel
theorem d_L_law_540 : decode code 540 = .ok (.iaload, 1) := by decide +kernel
theorem d_L_law_541 : decode code 541 = .ok (.invokevirtual 82, 3) := by decide +kernel
theorem d_L_law_544 : decode code 544 = .ok (.istore 6, 2) := by decide +kernel
theorem d_L_law_546 : decode code 546 = .ok (.aload_n 2, 1) := by decide +kernel
theorem d_L_law_547 : decode code 547 = .ok (.invokevirtual 61, 3) := by decide +kernel
theorem d_L_law_550 : decode code 550 = .ok (.iload 5, 2) := by decide +kernel
theorem d_L_law_552 : decode code 552 = .ok (.if_icmp .eq 5, 3) := by decide +kernel
theorem d_L_law_555 : decode code 555 = .ok (.iconst 0, 1) := by decide +kernel
theorem d_L_law_556 : decode code 556 = .ok (.ireturn, 1) := by decide +kernel
theorem d_L_law_557 : decode code 557 = .ok (.iload 5, 2) := by decide +kernel
theorem d_L_law_559 : decode code 559 = .ok (.ifCond .ne 22, 3) := by decide +kernel
theorem d_L_law_562 : decode code 562 = .ok (.aload_n 3, 1) := by decide +kernel
theorem d_L_law_563 : decode code 563 = .ok (.iconst 0, 1) := by decide +kernel
theorem d_L_law_564 : decode code 564 = .ok (.laload, 1) := by decide +kernel
theorem d_L_law_565 : decode code 565 = .ok (.iload 6, 2) := by decide +kernel
theorem d_L_law_567 : decode code 567 = .ok (.ifCond .eq 7, 3) := by decide +kernel
theorem d_L_law_570 : decode code 570 = .ok (.lconst 1, 1) := by decide +kernel
theorem d_L_law_571 : decode code 571 = .ok (.goto 4, 3) := by decide +kernel
theorem d_L_law_574 : decode code 574 = .ok (.lconst 0, 1) := by decide +kernel
theorem d_L_law_575 : decode code 575 = .ok (.lcmp, 1) := by decide +kernel
theorem d_L_law_576 : decode code 576 = .ok (.ifCond .eq 5, 3) := by decide +kernel
theorem d_L_law_579 : decode code 579 = .ok (.iconst 0, 1) := by decide +kernel
theorem d_L_law_580 : decode code 580 = .ok (.ireturn, 1) := by decide +kernel
theorem d_L_law_581 : decode code 581 = .ok (.goto 334, 3) := by decide +kernel
theorem d_L_law_584 : decode code 584 = .ok (.aload_n 1, 1) := by decide +kernel
theorem d_L_law_585 : decode code 585 = .ok (.aload_n 0, 1) := by decide +kernel
theorem d_L_law_586 : decode code 586 = .ok (.iload 4, 2) := by decide +kernel
theorem d_L_law_588 : decode code 588 = .ok (.iconst 1, 1) := by decide +kernel
theorem d_L_law_589 : decode code 589 = .ok (.iadd, 1) := by decide +kernel
theorem d_L_law_590 : decode code 590 = .ok (.iaload, 1) := by decide +kernel
theorem d_L_law_591 : decode code 591 = .ok (.aload_n 0, 1) := by decide +kernel
theorem d_L_law_592 : decode code 592 = .ok (.iload 4, 2) := by decide +kernel
theorem d_L_law_594 : decode code 594 = .ok (.iconst 2, 1) := by decide +kernel
theorem d_L_law_595 : decode code 595 = .ok (.iadd, 1) := by decide +kernel
theorem d_L_law_596 : decode code 596 = .ok (.iaload, 1) := by decide +kernel
theorem d_L_law_597 : decode code 597 = .ok (.aload_n 3, 1) := by decide +kernel
theorem d_L_law_598 : decode code 598 = .ok (.invokestatic 83, 3) := by decide +kernel
theorem d_L_law_601 : decode code 601 = .ok (.istore 5, 2) := by decide +kernel
theorem d_L_law_603 : decode code 603 = .ok (.aload_n 2, 1) := by decide +kernel
theorem d_L_law_604 : decode code 604 = .ok (.aload_n 0, 1) := by decide +kernel
theorem d_L_law_605 : decode code 605 = .ok (.iload 4, 2) := by decide +kernel
theorem d_L_law_607 : decode code 607 = .ok (.iconst 1, 1) := by decide +kernel
theorem d_L_law_608 : decode code 608 = .ok (.iadd, 1) := by decide +kernel
theorem d_L_law_609 : decode code 609 = .ok (.iaload, 1) := by decide +kernel
theorem d_L_law_610 : decode code 610 = .ok (.aload_n 0, 1) := by decide +kernel
theorem d_L_law_611 : decode code 611 = .ok (.iload 4, 2) := by decide +kernel
theorem d_L_law_613 : decode code 613 = .ok (.iconst 2, 1) := by decide +kernel
theorem d_L_law_614 : decode code 614 = .ok (.iadd, 1) := by decide +kernel
theorem d_L_law_615 : decode code 615 = .ok (.iaload, 1) := by decide +kernel
theorem d_L_law_616 : decode code 616 = .ok (.invokevirtual 85, 3) := by decide +kernel
theorem d_L_law_619 : decode code 619 = .ok (.istore 6, 2) := by decide +kernel
theorem d_L_law_621 : decode code 621 = .ok (.aload_n 2, 1) := by decide +kernel
theorem d_L_law_622 : decode code 622 = .ok (.invokevirtual 61, 3) := by decide +kernel
theorem d_L_law_625 : decode code 625 = .ok (.iload 5, 2) := by decide +kernel
theorem d_L_law_627 : decode code 627 = .ok (.if_icmp .eq 5, 3) := by decide +kernel
theorem d_L_law_630 : decode code 630 = .ok (.iconst 0, 1) := by decide +kernel
theorem d_L_law_631 : decode code 631 = .ok (.ireturn, 1) := by decide +kernel
theorem d_L_law_632 : decode code 632 = .ok (.iload 5, 2) := by decide +kernel
theorem d_L_law_634 : decode code 634 = .ok (.ifCond .ne 22, 3) := by decide +kernel
theorem d_L_law_637 : decode code 637 = .ok (.aload_n 3, 1) := by decide +kernel
theorem d_L_law_638 : decode code 638 = .ok (.iconst 0, 1) := by decide +kernel
theorem d_L_law_639 : decode code 639 = .ok (.laload, 1) := by decide +kernel
theorem d_L_law_640 : decode code 640 = .ok (.iload 6, 2) := by decide +kernel
theorem d_L_law_642 : decode code 642 = .ok (.ifCond .eq 7, 3) := by decide +kernel
theorem d_L_law_645 : decode code 645 = .ok (.lconst 1, 1) := by decide +kernel
theorem d_L_law_646 : decode code 646 = .ok (.goto 4, 3) := by decide +kernel
theorem d_L_law_649 : decode code 649 = .ok (.lconst 0, 1) := by decide +kernel
theorem d_L_law_650 : decode code 650 = .ok (.lcmp, 1) := by decide +kernel
theorem d_L_law_651 : decode code 651 = .ok (.ifCond .eq 5, 3) := by decide +kernel
theorem d_L_law_654 : decode code 654 = .ok (.iconst 0, 1) := by decide +kernel
theorem d_L_law_655 : decode code 655 = .ok (.ireturn, 1) := by decide +kernel
theorem d_L_law_656 : decode code 656 = .ok (.goto 259, 3) := by decide +kernel
theorem d_L_law_659 : decode code 659 = .ok (.aload_n 1, 1) := by decide +kernel
theorem d_L_law_660 : decode code 660 = .ok (.aload_n 0, 1) := by decide +kernel
theorem d_L_law_661 : decode code 661 = .ok (.iload 4, 2) := by decide +kernel
theorem d_L_law_663 : decode code 663 = .ok (.iconst 1, 1) := by decide +kernel
theorem d_L_law_664 : decode code 664 = .ok (.iadd, 1) := by decide +kernel
theorem d_L_law_665 : decode code 665 = .ok (.iaload, 1) := by decide +kernel
theorem d_L_law_666 : decode code 666 = .ok (.aload_n 0, 1) := by decide +kernel
theorem d_L_law_667 : decode code 667 = .ok (.iload 4, 2) := by decide +kernel
theorem d_L_law_669 : decode code 669 = .ok (.iconst 2, 1) := by decide +kernel
theorem d_L_law_670 : decode code 670 = .ok (.iadd, 1) := by decide +kernel
theorem d_L_law_671 : decode code 671 = .ok (.iaload, 1) := by decide +kernel
theorem d_L_law_672 : decode code 672 = .ok (.aload_n 3, 1) := by decide +kernel
theorem d_L_law_673 : decode code 673 = .ok (.invokestatic 86, 3) := by decide +kernel
theorem d_L_law_676 : decode code 676 = .ok (.istore 5, 2) := by decide +kernel
theorem d_L_law_678 : decode code 678 = .ok (.aload_n 2, 1) := by decide +kernel
theorem d_L_law_679 : decode code 679 = .ok (.aload_n 0, 1) := by decide +kernel
theorem d_L_law_680 : decode code 680 = .ok (.iload 4, 2) := by decide +kernel
theorem d_L_law_682 : decode code 682 = .ok (.iconst 1, 1) := by decide +kernel
theorem d_L_law_683 : decode code 683 = .ok (.iadd, 1) := by decide +kernel
theorem d_L_law_684 : decode code 684 = .ok (.iaload, 1) := by decide +kernel
theorem d_L_law_685 : decode code 685 = .ok (.aload_n 0, 1) := by decide +kernel
theorem d_L_law_686 : decode code 686 = .ok (.iload 4, 2) := by decide +kernel
theorem d_L_law_688 : decode code 688 = .ok (.iconst 2, 1) := by decide +kernel
theorem d_L_law_689 : decode code 689 = .ok (.iadd, 1) := by decide +kernel
theorem d_L_law_690 : decode code 690 = .ok (.iaload, 1) := by decide +kernel
theorem d_L_law_691 : decode code 691 = .ok (.invokevirtual 88, 3) := by decide +kernel
theorem d_L_law_694 : decode code 694 = .ok (.istore 6, 2) := by decide +kernel
theorem d_L_law_696 : decode code 696 = .ok (.aload_n 2, 1) := by decide +kernel
theorem d_L_law_697 : decode code 697 = .ok (.invokevirtual 61, 3) := by decide +kernel
theorem d_L_law_700 : decode code 700 = .ok (.iload 5, 2) := by decide +kernel
theorem d_L_law_702 : decode code 702 = .ok (.if_icmp .eq 5, 3) := by decide +kernel
theorem d_L_law_705 : decode code 705 = .ok (.iconst 0, 1) := by decide +kernel
theorem d_L_law_706 : decode code 706 = .ok (.ireturn, 1) := by decide +kernel
theorem d_L_law_707 : decode code 707 = .ok (.iload 5, 2) := by decide +kernel
theorem d_L_law_709 : decode code 709 = .ok (.ifCond .ne 22, 3) := by decide +kernel
theorem d_L_law_712 : decode code 712 = .ok (.aload_n 3, 1) := by decide +kernel
theorem d_L_law_713 : decode code 713 = .ok (.iconst 0, 1) := by decide +kernel
theorem d_L_law_714 : decode code 714 = .ok (.laload, 1) := by decide +kernel
theorem d_L_law_715 : decode code 715 = .ok (.iload 6, 2) := by decide +kernel
theorem d_L_law_717 : decode code 717 = .ok (.ifCond .eq 7, 3) := by decide +kernel
theorem d_L_law_720 : decode code 720 = .ok (.lconst 1, 1) := by decide +kernel
theorem d_L_law_721 : decode code 721 = .ok (.goto 4, 3) := by decide +kernel
theorem d_L_law_724 : decode code 724 = .ok (.lconst 0, 1) := by decide +kernel
theorem d_L_law_725 : decode code 725 = .ok (.lcmp, 1) := by decide +kernel
theorem d_L_law_726 : decode code 726 = .ok (.ifCond .eq 5, 3) := by decide +kernel
theorem d_L_law_729 : decode code 729 = .ok (.iconst 0, 1) := by decide +kernel
theorem d_L_law_730 : decode code 730 = .ok (.ireturn, 1) := by decide +kernel
theorem d_L_law_731 : decode code 731 = .ok (.goto 184, 3) := by decide +kernel
theorem d_L_law_734 : decode code 734 = .ok (.aload_n 1, 1) := by decide +kernel
theorem d_L_law_735 : decode code 735 = .ok (.aload_n 0, 1) := by decide +kernel
theorem d_L_law_736 : decode code 736 = .ok (.iload 4, 2) := by decide +kernel
theorem d_L_law_738 : decode code 738 = .ok (.iconst 1, 1) := by decide +kernel
theorem d_L_law_739 : decode code 739 = .ok (.iadd, 1) := by decide +kernel
theorem d_L_law_740 : decode code 740 = .ok (.iaload, 1) := by decide +kernel
theorem d_L_law_741 : decode code 741 = .ok (.aload_n 3, 1) := by decide +kernel
theorem d_L_law_742 : decode code 742 = .ok (.invokestatic 89, 3) := by decide +kernel
theorem d_L_law_745 : decode code 745 = .ok (.istore 5, 2) := by decide +kernel
theorem d_L_law_747 : decode code 747 = .ok (.aload_n 2, 1) := by decide +kernel
theorem d_L_law_748 : decode code 748 = .ok (.aload_n 0, 1) := by decide +kernel
theorem d_L_law_749 : decode code 749 = .ok (.iload 4, 2) := by decide +kernel
theorem d_L_law_751 : decode code 751 = .ok (.iconst 1, 1) := by decide +kernel
theorem d_L_law_752 : decode code 752 = .ok (.iadd, 1) := by decide +kernel
theorem d_L_law_753 : decode code 753 = .ok (.iaload, 1) := by decide +kernel
theorem d_L_law_754 : decode code 754 = .ok (.invokevirtual 92, 3) := by decide +kernel
theorem d_L_law_757 : decode code 757 = .ok (.istore 6, 2) := by decide +kernel
theorem d_L_law_759 : decode code 759 = .ok (.aload_n 2, 1) := by decide +kernel
theorem d_L_law_760 : decode code 760 = .ok (.invokevirtual 61, 3) := by decide +kernel
theorem d_L_law_763 : decode code 763 = .ok (.iload 5, 2) := by decide +kernel
theorem d_L_law_765 : decode code 765 = .ok (.if_icmp .eq 5, 3) := by decide +kernel
theorem d_L_law_768 : decode code 768 = .ok (.iconst 0, 1) := by decide +kernel
theorem d_L_law_769 : decode code 769 = .ok (.ireturn, 1) := by decide +kernel
theorem d_L_law_770 : decode code 770 = .ok (.iload 5, 2) := by decide +kernel
theorem d_L_law_772 : decode code 772 = .ok (.ifCond .ne 15, 3) := by decide +kernel
theorem d_L_law_775 : decode code 775 = .ok (.aload_n 3, 1) := by decide +kernel
theorem d_L_law_776 : decode code 776 = .ok (.iconst 0, 1) := by decide +kernel
theorem d_L_law_777 : decode code 777 = .ok (.laload, 1) := by decide +kernel
theorem d_L_law_778 : decode code 778 = .ok (.iload 6, 2) := by decide +kernel
theorem d_L_law_780 : decode code 780 = .ok (.i2l, 1) := by decide +kernel
theorem d_L_law_781 : decode code 781 = .ok (.lcmp, 1) := by decide +kernel
theorem d_L_law_782 : decode code 782 = .ok (.ifCond .eq 5, 3) := by decide +kernel
theorem d_L_law_785 : decode code 785 = .ok (.iconst 0, 1) := by decide +kernel
theorem d_L_law_786 : decode code 786 = .ok (.ireturn, 1) := by decide +kernel
theorem d_L_law_787 : decode code 787 = .ok (.goto 128, 3) := by decide +kernel
theorem d_L_law_790 : decode code 790 = .ok (.aload_n 1, 1) := by decide +kernel
theorem d_L_law_791 : decode code 791 = .ok (.aload_n 0, 1) := by decide +kernel
theorem d_L_law_792 : decode code 792 = .ok (.iload 4, 2) := by decide +kernel
theorem d_L_law_794 : decode code 794 = .ok (.iconst 1, 1) := by decide +kernel
theorem d_L_law_795 : decode code 795 = .ok (.iadd, 1) := by decide +kernel
theorem d_L_law_796 : decode code 796 = .ok (.iaload, 1) := by decide +kernel
theorem d_L_law_797 : decode code 797 = .ok (.aload_n 3, 1) := by decide +kernel
theorem d_L_law_798 : decode code 798 = .ok (.invokestatic 93, 3) := by decide +kernel
theorem d_L_law_801 : decode code 801 = .ok (.istore 5, 2) := by decide +kernel
theorem d_L_law_803 : decode code 803 = .ok (.aload_n 2, 1) := by decide +kernel
theorem d_L_law_804 : decode code 804 = .ok (.aload_n 0, 1) := by decide +kernel
theorem d_L_law_805 : decode code 805 = .ok (.iload 4, 2) := by decide +kernel
theorem d_L_law_807 : decode code 807 = .ok (.iconst 1, 1) := by decide +kernel
theorem d_L_law_808 : decode code 808 = .ok (.iadd, 1) := by decide +kernel
theorem d_L_law_809 : decode code 809 = .ok (.iaload, 1) := by decide +kernel
theorem d_L_law_810 : decode code 810 = .ok (.invokevirtual 95, 3) := by decide +kernel
theorem d_L_law_813 : decode code 813 = .ok (.istore 6, 2) := by decide +kernel
theorem d_L_law_815 : decode code 815 = .ok (.aload_n 2, 1) := by decide +kernel
theorem d_L_law_816 : decode code 816 = .ok (.invokevirtual 61, 3) := by decide +kernel
theorem d_L_law_819 : decode code 819 = .ok (.iload 5, 2) := by decide +kernel
theorem d_L_law_821 : decode code 821 = .ok (.if_icmp .eq 5, 3) := by decide +kernel
theorem d_L_law_824 : decode code 824 = .ok (.iconst 0, 1) := by decide +kernel
theorem d_L_law_825 : decode code 825 = .ok (.ireturn, 1) := by decide +kernel
theorem d_L_law_826 : decode code 826 = .ok (.iload 5, 2) := by decide +kernel
theorem d_L_law_828 : decode code 828 = .ok (.ifCond .ne 15, 3) := by decide +kernel
theorem d_L_law_831 : decode code 831 = .ok (.aload_n 3, 1) := by decide +kernel
theorem d_L_law_832 : decode code 832 = .ok (.iconst 0, 1) := by decide +kernel
theorem d_L_law_833 : decode code 833 = .ok (.laload, 1) := by decide +kernel
theorem d_L_law_834 : decode code 834 = .ok (.iload 6, 2) := by decide +kernel
theorem d_L_law_836 : decode code 836 = .ok (.i2l, 1) := by decide +kernel
theorem d_L_law_837 : decode code 837 = .ok (.lcmp, 1) := by decide +kernel
theorem d_L_law_838 : decode code 838 = .ok (.ifCond .eq 5, 3) := by decide +kernel
theorem d_L_law_841 : decode code 841 = .ok (.iconst 0, 1) := by decide +kernel
theorem d_L_law_842 : decode code 842 = .ok (.ireturn, 1) := by decide +kernel
theorem d_L_law_843 : decode code 843 = .ok (.goto 72, 3) := by decide +kernel
theorem d_L_law_846 : decode code 846 = .ok (.aload_n 1, 1) := by decide +kernel
theorem d_L_law_847 : decode code 847 = .ok (.aload_n 0, 1) := by decide +kernel
theorem d_L_law_848 : decode code 848 = .ok (.iload 4, 2) := by decide +kernel
theorem d_L_law_850 : decode code 850 = .ok (.iconst 1, 1) := by decide +kernel
theorem d_L_law_851 : decode code 851 = .ok (.iadd, 1) := by decide +kernel
theorem d_L_law_852 : decode code 852 = .ok (.iaload, 1) := by decide +kernel
theorem d_L_law_853 : decode code 853 = .ok (.aload_n 3, 1) := by decide +kernel
theorem d_L_law_854 : decode code 854 = .ok (.invokestatic 96, 3) := by decide +kernel
theorem d_L_law_857 : decode code 857 = .ok (.istore 5, 2) := by decide +kernel
theorem d_L_law_859 : decode code 859 = .ok (.aload_n 2, 1) := by decide +kernel
theorem d_L_law_860 : decode code 860 = .ok (.aload_n 0, 1) := by decide +kernel
theorem d_L_law_861 : decode code 861 = .ok (.iload 4, 2) := by decide +kernel
theorem d_L_law_863 : decode code 863 = .ok (.iconst 1, 1) := by decide +kernel
theorem d_L_law_864 : decode code 864 = .ok (.iadd, 1) := by decide +kernel
theorem d_L_law_865 : decode code 865 = .ok (.iaload, 1) := by decide +kernel
theorem d_L_law_866 : decode code 866 = .ok (.invokevirtual 98, 3) := by decide +kernel
theorem d_L_law_869 : decode code 869 = .ok (.istore 6, 2) := by decide +kernel
theorem d_L_law_871 : decode code 871 = .ok (.aload_n 2, 1) := by decide +kernel
theorem d_L_law_872 : decode code 872 = .ok (.invokevirtual 61, 3) := by decide +kernel
theorem d_L_law_875 : decode code 875 = .ok (.iload 5, 2) := by decide +kernel
theorem d_L_law_877 : decode code 877 = .ok (.if_icmp .eq 5, 3) := by decide +kernel
theorem d_L_law_880 : decode code 880 = .ok (.iconst 0, 1) := by decide +kernel
theorem d_L_law_881 : decode code 881 = .ok (.ireturn, 1) := by decide +kernel
theorem d_L_law_882 : decode code 882 = .ok (.iload 5, 2) := by decide +kernel
theorem d_L_law_884 : decode code 884 = .ok (.ifCond .ne 15, 3) := by decide +kernel
theorem d_L_law_887 : decode code 887 = .ok (.aload_n 3, 1) := by decide +kernel
theorem d_L_law_888 : decode code 888 = .ok (.iconst 0, 1) := by decide +kernel
theorem d_L_law_889 : decode code 889 = .ok (.laload, 1) := by decide +kernel
theorem d_L_law_890 : decode code 890 = .ok (.iload 6, 2) := by decide +kernel
theorem d_L_law_892 : decode code 892 = .ok (.i2l, 1) := by decide +kernel
theorem d_L_law_893 : decode code 893 = .ok (.lcmp, 1) := by decide +kernel
theorem d_L_law_894 : decode code 894 = .ok (.ifCond .eq 5, 3) := by decide +kernel
theorem d_L_law_897 : decode code 897 = .ok (.iconst 0, 1) := by decide +kernel
theorem d_L_law_898 : decode code 898 = .ok (.ireturn, 1) := by decide +kernel
theorem d_L_law_899 : decode code 899 = .ok (.goto 16, 3) := by decide +kernel
theorem d_L_law_902 : decode code 902 = .ok (.aload_n 1, 1) := by decide +kernel
theorem d_L_law_903 : decode code 903 = .ok (.invokevirtual 99, 3) := by decide +kernel
theorem d_L_law_906 : decode code 906 = .ok (.aload_n 2, 1) := by decide +kernel
theorem d_L_law_907 : decode code 907 = .ok (.invokevirtual 102, 3) := by decide +kernel
theorem d_L_law_910 : decode code 910 = .ok (.if_icmp .eq 5, 3) := by decide +kernel
theorem d_L_law_913 : decode code 913 = .ok (.iconst 0, 1) := by decide +kernel
theorem d_L_law_914 : decode code 914 = .ok (.ireturn, 1) := by decide +kernel
theorem d_L_law_915 : decode code 915 = .ok (.iinc 4 5, 3) := by decide +kernel
theorem d_L_law_918 : decode code 918 = .ok (.goto (-895), 3) := by decide +kernel
theorem d_L_law_921 : decode code 921 = .ok (.iconst 1, 1) := by decide +kernel
theorem d_L_law_922 : decode code 922 = .ok (.ireturn, 1) := by decide +kernel
