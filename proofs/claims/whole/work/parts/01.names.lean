/-! NAMES, written by program out of the task: classes, fields, methods, and the words of the tables. -/
def R_S : String := "DiagramStore"
def R_N : String := "DiagramStore$Nodes"
def R_A : String := "DiagramStore$Algebra"
def R_M : String := "DiagramStore$Memo"
def R_F : String := "DiagramStore$Sifting"
def R_R : String := "DiagramStoreModel"
def R_L : String := "DiagramStoreLaw"
def R_JA : String := "java/util/Arrays"
def R_JM : String := "java/lang/Math"
def R_JS : String := "java/lang/System"
def T_S : u_T := fun k => match k with
  | 0 => ("DiagramStore", "slots", "[I", true)
  | 1 => ("DiagramStore", "nodes", "LDiagramStore$Nodes;", true)
  | 2 => ("DiagramStore", "algebra", "LDiagramStore$Algebra;", true)
  | _ => ("DiagramStore", "sifting", "LDiagramStore$Sifting;", true)
def ty_S : Nat → FieldType := fun k => match k with
  | 0 => .array .int
  | 1 => .object "DiagramStore$Nodes"
  | 2 => .object "DiagramStore$Algebra"
  | _ => .object "DiagramStore$Sifting"
theorem nm_S : ∀ a, a < 4 → ∀ b, b < 4 → a ≠ b → (T_S a).2.1 ≠ (T_S b).2.1 := by decide +kernel
theorem tk_S : ∀ k, k < 4 → parseFieldDescriptor (T_S k).2.2.1 = some (ty_S k) := by decide +kernel
def T_N : u_T := fun k => match k with
  | 0 => ("DiagramStore$Nodes", "rows", "[I", false)
  | 1 => ("DiagramStore$Nodes", "heads", "[I", true)
  | 2 => ("DiagramStore$Nodes", "held", "[I", true)
  | 3 => ("DiagramStore$Nodes", "levels", "[I", true)
  | 4 => ("DiagramStore$Nodes", "variables", "[I", true)
  | 5 => ("DiagramStore$Nodes", "room", "I", false)
  | 6 => ("DiagramStore$Nodes", "used", "I", false)
  | 7 => ("DiagramStore$Nodes", "free", "I", false)
  | 8 => ("DiagramStore$Nodes", "size", "I", false)
  | 9 => ("DiagramStore$Nodes", "limit", "I", false)
  | _ => ("DiagramStore$Nodes", "rewritten", "I", false)
def ty_N : Nat → FieldType := fun k => match k with
  | 0 => .array .int
  | 1 => .array .int
  | 2 => .array .int
  | 3 => .array .int
  | 4 => .array .int
  | 5 => .int
  | 6 => .int
  | 7 => .int
  | 8 => .int
  | 9 => .int
  | _ => .int
theorem nm_N : ∀ a, a < 11 → ∀ b, b < 11 → a ≠ b → (T_N a).2.1 ≠ (T_N b).2.1 := by decide +kernel
theorem tk_N : ∀ k, k < 11 → parseFieldDescriptor (T_N k).2.2.1 = some (ty_N k) := by decide +kernel
def T_A : u_T := fun k => match k with
  | 0 => ("DiagramStore$Algebra", "nodes", "LDiagramStore$Nodes;", true)
  | _ => ("DiagramStore$Algebra", "memo", "LDiagramStore$Memo;", true)
def ty_A : Nat → FieldType := fun k => match k with
  | 0 => .object "DiagramStore$Nodes"
  | _ => .object "DiagramStore$Memo"
theorem nm_A : ∀ a, a < 2 → ∀ b, b < 2 → a ≠ b → (T_A a).2.1 ≠ (T_A b).2.1 := by decide +kernel
theorem tk_A : ∀ k, k < 2 → parseFieldDescriptor (T_A k).2.2.1 = some (ty_A k) := by decide +kernel
def T_M : u_T := fun k => match k with
  | 0 => ("DiagramStore$Memo", "rows", "[I", true)
  | _ => ("DiagramStore$Memo", "age", "I", false)
def ty_M : Nat → FieldType := fun k => match k with
  | 0 => .array .int
  | _ => .int
theorem nm_M : ∀ a, a < 2 → ∀ b, b < 2 → a ≠ b → (T_M a).2.1 ≠ (T_M b).2.1 := by decide +kernel
theorem tk_M : ∀ k, k < 2 → parseFieldDescriptor (T_M k).2.2.1 = some (ty_M k) := by decide +kernel
def T_F : u_T := fun k => match k with
  | _ => ("DiagramStore$Sifting", "nodes", "LDiagramStore$Nodes;", true)
def ty_F : Nat → FieldType := fun k => match k with
  | _ => .object "DiagramStore$Nodes"
theorem nm_F : ∀ a, a < 1 → ∀ b, b < 1 → a ≠ b → (T_F a).2.1 ≠ (T_F b).2.1 := by decide +kernel
theorem tk_F : ∀ k, k < 1 → parseFieldDescriptor (T_F k).2.2.1 = some (ty_F k) := by decide +kernel
def T_R : u_T := fun k => match k with
  | 0 => ("DiagramStoreModel", "failed", "I", false)
  | 1 => ("DiagramStoreModel", "rows", "[Z", true)
  | 2 => ("DiagramStoreModel", "made", "[Z", true)
  | _ => ("DiagramStoreModel", "both", "[Z", true)
def ty_R : Nat → FieldType := fun k => match k with
  | 0 => .int
  | 1 => .array .boolean
  | 2 => .array .boolean
  | _ => .array .boolean
theorem nm_R : ∀ a, a < 4 → ∀ b, b < 4 → a ≠ b → (T_R a).2.1 ≠ (T_R b).2.1 := by decide +kernel
theorem tk_R : ∀ k, k < 4 → parseFieldDescriptor (T_R k).2.2.1 = some (ty_R k) := by decide +kernel
abbrev b_S_init : ByteArray := prog_1_method_1_code
def y_S_init : MethodName := ⟨R_S, "<init>", "()V"⟩
abbrev b_JA_fill : ByteArray := prog_17_method_103_code
def y_JA_fill : MethodName := ⟨R_JA, "fill", "([II)V"⟩
abbrev b_N_init : ByteArray := prog_4_method_1_code
def y_N_init : MethodName := ⟨R_N, "<init>", "()V"⟩
abbrev b_A_init : ByteArray := prog_2_method_1_code
def y_A_init : MethodName := ⟨R_A, "<init>", "(LDiagramStore$Nodes;)V"⟩
abbrev b_M_init : ByteArray := prog_3_method_1_code
def y_M_init : MethodName := ⟨R_M, "<init>", "()V"⟩
abbrev b_F_init : ByteArray := prog_5_method_1_code
def y_F_init : MethodName := ⟨R_F, "<init>", "(LDiagramStore$Nodes;)V"⟩
abbrev b_S_wrong : ByteArray := prog_1_method_13_code
def y_S_wrong : MethodName := ⟨R_S, "wrong", "()I"⟩
abbrev b_N_faults : ByteArray := prog_4_method_30_code
def y_N_faults : MethodName := ⟨R_N, "faults", "()I"⟩
abbrev b_N_isMisplaced : ByteArray := prog_4_method_31_code
def y_N_isMisplaced : MethodName := ⟨R_N, "isMisplaced", "(II)Z"⟩
abbrev b_N_get : ByteArray := prog_4_method_2_code
def y_N_get : MethodName := ⟨R_N, "get", "(II)I"⟩
abbrev b_N_askedBy : ByteArray := prog_4_method_6_code
def y_N_askedBy : MethodName := ⟨R_N, "askedBy", "(I)I"⟩
abbrev b_N_levelOf : ByteArray := prog_4_method_9_code
def y_N_levelOf : MethodName := ⟨R_N, "levelOf", "(I)I"⟩
abbrev b_JM_min : ByteArray := prog_11_method_69_code
def y_JM_min : MethodName := ⟨R_JM, "min", "(II)I"⟩
abbrev b_N_chainFor : ByteArray := prog_4_method_17_code
def y_N_chainFor : MethodName := ⟨R_N, "chainFor", "(III)I"⟩
abbrev b_N_isThereTwice : ByteArray := prog_4_method_32_code
def y_N_isThereTwice : MethodName := ⟨R_N, "isThereTwice", "(I)Z"⟩
abbrev b_S_constant : ByteArray := prog_1_method_2_code
def y_S_constant : MethodName := ⟨R_S, "constant", "(IZ)V"⟩
abbrev b_S_requireSlot : ByteArray := prog_1_method_16_code
def y_S_requireSlot : MethodName := ⟨R_S, "requireSlot", "(I)V"⟩
abbrev b_S_requireBelow : ByteArray := prog_1_method_17_code
def y_S_requireBelow : MethodName := ⟨R_S, "requireBelow", "(II)V"⟩
abbrev b_S_put : ByteArray := prog_1_method_15_code
def y_S_put : MethodName := ⟨R_S, "put", "(II)Z"⟩
abbrev b_N_refer : ByteArray := prog_4_method_15_code
def y_N_refer : MethodName := ⟨R_N, "refer", "(II)V"⟩
abbrev b_N_set : ByteArray := prog_4_method_3_code
def y_N_set : MethodName := ⟨R_N, "set", "(III)V"⟩
abbrev b_S_variable : ByteArray := prog_1_method_3_code
def y_S_variable : MethodName := ⟨R_S, "variable", "(II)V"⟩
abbrev b_A_truthOf : ByteArray := prog_2_method_3_code
def y_A_truthOf : MethodName := ⟨R_A, "truthOf", "(I)I"⟩
abbrev b_A_begin : ByteArray := prog_2_method_2_code
def y_A_begin : MethodName := ⟨R_A, "begin", "(I)V"⟩
abbrev b_N_makeRoom : ByteArray := prog_4_method_22_code
def y_N_makeRoom : MethodName := ⟨R_N, "makeRoom", "(I)V"⟩
abbrev b_N_collect : ByteArray := prog_4_method_24_code
def y_N_collect : MethodName := ⟨R_N, "collect", "()V"⟩
abbrev b_N_variableAt : ByteArray := prog_4_method_10_code
def y_N_variableAt : MethodName := ⟨R_N, "variableAt", "(I)I"⟩
abbrev b_N_needed : ByteArray := prog_4_method_25_code
def y_N_needed : MethodName := ⟨R_N, "needed", "(I)I"⟩
abbrev b_N_giveBack : ByteArray := prog_4_method_19_code
def y_N_giveBack : MethodName := ⟨R_N, "giveBack", "(I)V"⟩
abbrev b_JM_max : ByteArray := prog_11_method_65_code
def y_JM_max : MethodName := ⟨R_JM, "max", "(II)I"⟩
abbrev b_N_widen : ByteArray := prog_4_method_23_code
def y_N_widen : MethodName := ⟨R_N, "widen", "(I)V"⟩
abbrev b_JA_copyOf : ByteArray := prog_17_method_123_code
def y_JA_copyOf : MethodName := ⟨R_JA, "copyOf", "([II)[I"⟩
abbrev b_M_forget : ByteArray := prog_3_method_2_code
def y_M_forget : MethodName := ⟨R_M, "forget", "()V"⟩
abbrev b_N_make : ByteArray := prog_4_method_16_code
def y_N_make : MethodName := ⟨R_N, "make", "(III)I"⟩
abbrev b_N_freshRow : ByteArray := prog_4_method_18_code
def y_N_freshRow : MethodName := ⟨R_N, "freshRow", "()I"⟩
abbrev b_N_link : ByteArray := prog_4_method_20_code
def y_N_link : MethodName := ⟨R_N, "link", "(IIII)V"⟩
abbrev b_S_choose : ByteArray := prog_1_method_4_code
def y_S_choose : MethodName := ⟨R_S, "choose", "(IIII)Z"⟩
abbrev b_A_chosen : ByteArray := prog_2_method_4_code
def y_A_chosen : MethodName := ⟨R_A, "chosen", "(III)I"⟩
abbrev b_A_pick : ByteArray := prog_2_method_9_code
def y_A_pick : MethodName := ⟨R_A, "pick", "(IIII)I"⟩
abbrev b_M_answerFor : ByteArray := prog_3_method_4_code
def y_M_answerFor : MethodName := ⟨R_M, "answerFor", "(III)I"⟩
abbrev b_M_placeFor : ByteArray := prog_3_method_3_code
def y_M_placeFor : MethodName := ⟨R_M, "placeFor", "(III)I"⟩
abbrev b_N_firstAsked : ByteArray := prog_4_method_12_code
def y_N_firstAsked : MethodName := ⟨R_N, "firstAsked", "(III)I"⟩
abbrev b_N_lowFor : ByteArray := prog_4_method_7_code
def y_N_lowFor : MethodName := ⟨R_N, "lowFor", "(II)I"⟩
abbrev b_N_highFor : ByteArray := prog_4_method_8_code
def y_N_highFor : MethodName := ⟨R_N, "highFor", "(II)I"⟩
abbrev b_M_keep : ByteArray := prog_3_method_5_code
def y_M_keep : MethodName := ⟨R_M, "keep", "(IIII)V"⟩
abbrev b_S_join : ByteArray := prog_1_method_5_code
def y_S_join : MethodName := ⟨R_S, "join", "(IIII)Z"⟩
abbrev b_A_joined : ByteArray := prog_2_method_5_code
def y_A_joined : MethodName := ⟨R_A, "joined", "(III)I"⟩
abbrev b_S_some : ByteArray := prog_1_method_6_code
def y_S_some : MethodName := ⟨R_S, "some", "(IIII)Z"⟩
abbrev b_A_bothForSome : ByteArray := prog_2_method_6_code
def y_A_bothForSome : MethodName := ⟨R_A, "bothForSome", "(III)I"⟩
abbrev b_A_freed : ByteArray := prog_2_method_10_code
def y_A_freed : MethodName := ⟨R_A, "freed", "(III)I"⟩
abbrev b_S_turn : ByteArray := prog_1_method_7_code
def y_S_turn : MethodName := ⟨R_S, "turn", "(II)Z"⟩
abbrev b_A_turned : ByteArray := prog_2_method_7_code
def y_A_turned : MethodName := ⟨R_A, "turned", "(I)I"⟩
abbrev b_A_hanging : ByteArray := prog_2_method_11_code
def y_A_hanging : MethodName := ⟨R_A, "hanging", "(II)I"⟩
abbrev b_A_turnedFrom : ByteArray := prog_2_method_12_code
def y_A_turnedFrom : MethodName := ⟨R_A, "turnedFrom", "(IIIII)I"⟩
abbrev b_N_followed : ByteArray := prog_4_method_14_code
def y_N_followed : MethodName := ⟨R_N, "followed", "(III)I"⟩
abbrev b_S_value : ByteArray := prog_1_method_8_code
def y_S_value : MethodName := ⟨R_S, "value", "(II)Z"⟩
abbrev b_N_truthFor : ByteArray := prog_4_method_13_code
def y_N_truthFor : MethodName := ⟨R_N, "truthFor", "(II)Z"⟩
abbrev b_S_same : ByteArray := prog_1_method_9_code
def y_S_same : MethodName := ⟨R_S, "same", "(II)Z"⟩
abbrev b_S_count : ByteArray := prog_1_method_10_code
def y_S_count : MethodName := ⟨R_S, "count", "(I)I"⟩
abbrev b_A_hangsOn : ByteArray := prog_2_method_8_code
def y_A_hangsOn : MethodName := ⟨R_A, "hangsOn", "(I)I"⟩
abbrev b_S_support : ByteArray := prog_1_method_11_code
def y_S_support : MethodName := ⟨R_S, "support", "(I)I"⟩
abbrev b_S_tidy : ByteArray := prog_1_method_12_code
def y_S_tidy : MethodName := ⟨R_S, "tidy", "(I)I"⟩
abbrev b_F_seekLess : ByteArray := prog_5_method_2_code
def y_F_seekLess : MethodName := ⟨R_F, "seekLess", "()V"⟩
abbrev b_N_rewritten : ByteArray := prog_4_method_5_code
def y_N_rewritten : MethodName := ⟨R_N, "rewritten", "()I"⟩
abbrev b_F_fullest : ByteArray := prog_5_method_3_code
def y_F_fullest : MethodName := ⟨R_F, "fullest", "(I)I"⟩
abbrev b_N_heldFor : ByteArray := prog_4_method_11_code
def y_N_heldFor : MethodName := ⟨R_N, "heldFor", "(I)I"⟩
abbrev b_F_sift : ByteArray := prog_5_method_4_code
def y_F_sift : MethodName := ⟨R_F, "sift", "(I)V"⟩
abbrev b_N_size : ByteArray := prog_4_method_4_code
def y_N_size : MethodName := ⟨R_N, "size", "()I"⟩
abbrev b_N_swap : ByteArray := prog_4_method_26_code
def y_N_swap : MethodName := ⟨R_N, "swap", "(I)V"⟩
abbrev b_N_detach : ByteArray := prog_4_method_27_code
def y_N_detach : MethodName := ⟨R_N, "detach", "(II)I"⟩
abbrev b_N_rewrite : ByteArray := prog_4_method_28_code
def y_N_rewrite : MethodName := ⟨R_N, "rewrite", "(III)V"⟩
abbrev b_N_release : ByteArray := prog_4_method_29_code
def y_N_release : MethodName := ⟨R_N, "release", "(I)V"⟩
abbrev b_N_unlink : ByteArray := prog_4_method_21_code
def y_N_unlink : MethodName := ⟨R_N, "unlink", "(I)V"⟩
abbrev b_F_turnRound : ByteArray := prog_5_method_5_code
def y_F_turnRound : MethodName := ⟨R_F, "turnRound", "()V"⟩
abbrev b_S_slotsNotFalse : ByteArray := prog_1_method_14_code
def y_S_slotsNotFalse : MethodName := ⟨R_S, "slotsNotFalse", "()I"⟩
abbrev b_R_init : ByteArray := prog_7_method_1_code
def y_R_init : MethodName := ⟨R_R, "<init>", "()V"⟩
abbrev b_R_thrown : ByteArray := prog_7_method_2_code
def y_R_thrown : MethodName := ⟨R_R, "thrown", "()I"⟩
abbrev b_R_constant : ByteArray := prog_7_method_5_code
def y_R_constant : MethodName := ⟨R_R, "constant", "(IZ)V"⟩
abbrev b_R_out : ByteArray := prog_7_method_4_code
def y_R_out : MethodName := ⟨R_R, "out", "(II)Z"⟩
abbrev b_R_variable : ByteArray := prog_7_method_6_code
def y_R_variable : MethodName := ⟨R_R, "variable", "(II)V"⟩
abbrev b_R_choose : ByteArray := prog_7_method_9_code
def y_R_choose : MethodName := ⟨R_R, "choose", "(IIII)Z"⟩
abbrev b_R_fail : ByteArray := prog_7_method_3_code
def y_R_fail : MethodName := ⟨R_R, "fail", "(I)Z"⟩
abbrev b_R_at : ByteArray := prog_7_method_8_code
def y_R_at : MethodName := ⟨R_R, "at", "(II)Z"⟩
abbrev b_R_keep : ByteArray := prog_7_method_7_code
def y_R_keep : MethodName := ⟨R_R, "keep", "(I)Z"⟩
abbrev b_R_join : ByteArray := prog_7_method_10_code
def y_R_join : MethodName := ⟨R_R, "join", "(IIII)Z"⟩
abbrev b_R_some : ByteArray := prog_7_method_11_code
def y_R_some : MethodName := ⟨R_R, "some", "(IIII)Z"⟩
abbrev b_R_turn : ByteArray := prog_7_method_12_code
def y_R_turn : MethodName := ⟨R_R, "turn", "(II)Z"⟩
abbrev b_R_value : ByteArray := prog_7_method_13_code
def y_R_value : MethodName := ⟨R_R, "value", "(II)Z"⟩
abbrev b_R_same : ByteArray := prog_7_method_14_code
def y_R_same : MethodName := ⟨R_R, "same", "(II)Z"⟩
abbrev b_R_count : ByteArray := prog_7_method_16_code
def y_R_count : MethodName := ⟨R_R, "count", "(I)I"⟩
abbrev b_R_hangs : ByteArray := prog_7_method_15_code
def y_R_hangs : MethodName := ⟨R_R, "hangs", "(I)I"⟩
abbrev b_R_support : ByteArray := prog_7_method_17_code
def y_R_support : MethodName := ⟨R_R, "support", "(I)I"⟩
abbrev b_R_tidy : ByteArray := prog_7_method_18_code
def y_R_tidy : MethodName := ⟨R_R, "tidy", "(I)I"⟩
abbrev b_R_wrong : ByteArray := prog_7_method_19_code
def y_R_wrong : MethodName := ⟨R_R, "wrong", "()I"⟩
def W0 : List Cond := lw_tbl.filter goodWord
theorem W0_in {w : Cond} (h : w ∈ lw_tbl) (g : goodWord w = true) : w ∈ W0 := List.mem_filter.mpr ⟨h, g⟩
theorem W0_tbl : ∀ w ∈ W0, w ∈ lw_tbl := fun _ h => (List.mem_filter.mp h).1
theorem W0_good {ws : List Cond} (h : ∀ w ∈ ws, w ∈ W0) : GoodIn W0 ws := fun w hw => ⟨h w hw, good_of_word (List.mem_filter.mp (h w hw)).2⟩
theorem gV {own : String} {idx : Nat} {C : String} {y : MethodName} {cy : Cond} (h1 : Cond.methodLink own idx y ∈ W0) (h2 : Cond.instanceMethod y ∈ W0) (h3 : Cond.selects C y y ∈ W0) (h4 : Cond.initialized C ∈ W0) (h5 : cy ∈ W0) : GoodIn W0 (wsV own idx C y (cy :: W0)) := W0_good (fun w hw => by
  unfold wsV at hw
  simp only [List.mem_append, List.mem_cons, List.not_mem_nil, or_false] at hw
  rcases hw with (rfl | rfl | rfl | rfl) | rfl | hw
  · exact h1
  · exact h2
  · exact h3
  · exact h4
  · exact h5
  · exact hw)
theorem gS {own : String} {idx : Nat} {y : MethodName} {cy : Cond} (h1 : Cond.methodLink own idx y ∈ W0) (h2 : Cond.static y ∈ W0) (h4 : Cond.initialized y.cls ∈ W0) (h5 : cy ∈ W0) : GoodIn W0 (va_wsS own idx y (cy :: W0)) := W0_good (fun w hw => by
  unfold va_wsS at hw
  simp only [List.mem_append, List.mem_cons, List.not_mem_nil, or_false] at hw
  rcases hw with (rfl | rfl | rfl) | rfl | hw
  · exact h1
  · exact h2
  · exact h4
  · exact h5
  · exact hw)
theorem gC {cy : Cond} (h5 : cy ∈ W0) : GoodIn W0 (cy :: W0) := W0_good (fun w hw => by
  rcases List.mem_cons.mp hw with rfl | hw
  · exact h5
  · exact hw)
